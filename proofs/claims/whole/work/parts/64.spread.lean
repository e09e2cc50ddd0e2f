/-! SPREAD: how far it is, at least, from those that are open -/
def RD (A : LT) (pr : Nat → Nat) (src : Nat → Prop) : Nat → Nat → Nat → Prop
  | 0, p, c => src p ∧ c = 0
  | n + 1, p, c => ∃ s k c', RD A pr src n s c' ∧ (p, k) ∈ nb A s ∧ c = c' + pr k
def LDc (A : LT) (pr : Nat → Nat) (src : Nat → Prop) (s x : Nat) : Prop := (x = 0 ∧ ∀ n c, ¬ RD A pr src n s c) ∨ (x ≠ 0 ∧ (∃ n, RD A pr src n s (x - 1)) ∧ ∀ n c, RD A pr src n s c → x - 1 ≤ c)
def fin (N : Nat) (fa : Nat → Nat) (W : Nat → Bool) : Nat := ctP (fun x => !(fa x == 0) && !(W x)) N
/-- what holds while those at d are at turn; z is at turn, and its first i neighbours are done -/
def IV (A : LT) (pr : Nat → Nat) (src : Nat → Prop) (d z i : Nat) (m : MM) (fa : Nat → Nat) (W : Nat → Bool) : Prop := DQ m ((A 6 0) ^ (A 6 1)) fa W ∧ (∀ s, fa s ≠ 0 → s < (A 6 0) ^ (A 6 1) ∧ fa s - 1 ≤ d + 99 ∧ (W s = true → d ≤ fa s - 1) ∧ (W s = false → fa s - 1 ≤ d)) ∧ (∀ s, fa s ≠ 0 → W s = false → s ≠ z → ∀ p k, (p, k) ∈ nb A s → fa p ≠ 0 ∧ fa p ≤ fa s + pr k) ∧ (∀ j p k, j < i → (nb A z)[j]? = some (p, k) → fa p ≠ 0 ∧ fa p ≤ fa z + pr k) ∧ (∀ s, fa s ≠ 0 → ∃ n, RD A pr src n s (fa s - 1)) ∧ (∀ s, src s → fa s = 1) ∧ (∀ s, fa s ≠ 0 → fa s - 1 ≤ 99 * fin ((A 6 0) ^ (A 6 1)) fa W)
/-- the same, and none is at turn -/
def IN (A : LT) (pr : Nat → Nat) (src : Nat → Prop) (d : Nat) (m : MM) (fa : Nat → Nat) (W : Nat → Bool) : Prop := DQ m ((A 6 0) ^ (A 6 1)) fa W ∧ (∀ s, fa s ≠ 0 → s < (A 6 0) ^ (A 6 1) ∧ fa s - 1 ≤ d + 99 ∧ (W s = true → d ≤ fa s - 1) ∧ (W s = false → fa s - 1 ≤ d)) ∧ (∀ s, fa s ≠ 0 → W s = false → ∀ p k, (p, k) ∈ nb A s → fa p ≠ 0 ∧ fa p ≤ fa s + pr k) ∧ (∀ s, fa s ≠ 0 → ∃ n, RD A pr src n s (fa s - 1)) ∧ (∀ s, src s → fa s = 1) ∧ (∀ s, fa s ≠ 0 → fa s - 1 ≤ 99 * fin ((A 6 0) ^ (A 6 1)) fa W)
theorem DQ_W {m : MM} {N : Nat} {fa : Nat → Nat} {W : Nat → Bool} (D : DQ m N fa W) {s : Nat} (h : W s = true) : s < N ∧ fa s ≠ 0 := by
  obtain ⟨nx, bf, hd, ta, M, _, q1, _⟩ := D
  exact ⟨(q1 s h).1, (q1 s h).2.1⟩
theorem DQ_far {m : MM} {N : Nat} {fa : Nat → Nat} {W : Nat → Bool} (D : DQ m N fa W) {s : Nat} (h : s < N) : rI m 27 s = nI (fa s) - 1 := by
  obtain ⟨nx, bf, hd, ta, M, q, _⟩ := D
  exact q.1 s h
theorem DQ_wait {m : MM} {N : Nat} {fa : Nat → Nat} {W : Nat → Bool} (D : DQ m N fa W) : rI m 25 13 = nI (ctP W N) := by
  obtain ⟨nx, bf, hd, ta, M, q, _⟩ := D
  exact q.2.2.2
theorem DQ_fr {m m2 : MM} {N : Nat} {fa : Nat → Nat} {W : Nat → Bool} (h : ∀ q, 27 ≤ q ∧ q ≤ 30 → m2.1 q = m.1 q) (g : rI m2 25 13 = rI m 25 13) (D : DQ m N fa W) : DQ m2 N fa W := by
  obtain ⟨nx, bf, hd, ta, M, ⟨d1, d2, d3, d4⟩, Q⟩ := D
  exact ⟨nx, bf, hd, ta, M, ⟨fun s hs => (r_row (h 27 (by omega)) s).trans (d1 s hs), fun s hs hw => ⟨(r_row (h 28 (by omega)) s).trans (d2 s hs hw).1, (r_row (h 29 (by omega)) s).trans (d2 s hs hw).2⟩, fun i hi => (r_row (h 30 (by omega)) i).trans (d3 i hi), g.trans d4⟩, Q⟩
/-- the lot, its states and the prices -/
def CX2 (m : MM) (A : LT) (pr : Nat → Nat) (hm : Nat) : Prop := SE m A hm ∧ (∀ t a b, t < A 6 1 → a < A 6 0 → b < A 6 0 → rI m 31 ((t * 5 + a) * 5 + b) = nI (pr ((t * 5 + a) * 5 + b))) ∧ (∀ k, k < 125 → pr k ≤ 99)
theorem CX_fr {m m2 : MM} {A : LT} {pr : Nat → Nat} {hm : Nat} (h : ∀ q, q ≠ 25 → ¬ (27 ≤ q ∧ q ≤ 30) → q ≠ 33 → q ≠ 34 → q ≠ 35 → m2.1 q = m.1 q) (g : ∀ i, i ≠ 13 → rI m2 25 i = rI m 25 i) (C : CX2 m A pr hm) : CX2 m2 A pr hm :=
  ⟨SE_fr (fun q hq => h q (by omega) (by omega) (by omega) (by omega) (by omega)) (fun i h1 h2 => g i (by omega)) C.1, fun t a b h1 h2 h3 => (r_row (h 31 (by omega) (by omega) (by omega) (by omega) (by omega)) _).trans (C.2.1 t a b h1 h2 h3), C.2.2⟩
theorem nb_in {A : LT} {s p k : Nat} (b1 : A 6 0 ≤ 5) (b2 : A 6 1 ≤ 5) (h : (p, k) ∈ nb A s) : p < (A 6 0) ^ (A 6 1) ∧ k < 125 ∧ u_val A p = true := by
  obtain ⟨t, h, h1, h2, h3, h4, h5⟩ := nbA_mem.mp h
  cases h5
  have hd := dg_lt (b := A 6 0) (c := s) (t := t) (by omega)
  exact ⟨mvp_lt h2, by omega, h4⟩
theorem fin_up {N : Nat} {fa : Nat → Nat} {W : Nat → Bool} {p v : Nat} (h : fa p = 0 ∨ W p = true) : fin N (up fa p (v + 1)) (upB W p true) = fin N fa W := by
  refine ctP_cong (fun x hx => ?_)
  rw [up_at, upB_at]
  by_cases c : x = p
  · rw [if_pos c, if_pos c, c]
    rcases h with h | h <;> simp [h]
  · rw [if_neg c, if_neg c]
theorem fin_pop {N : Nat} {fa : Nat → Nat} {W : Nat → Bool} {s : Nat} (hs : s < N) (hf : fa s ≠ 0) (hw : W s = true) : fin N fa (upB W s false) = fin N fa W + 1 := by
  unfold fin
  have e : (fun x => !(fa x == 0) && !(upB W s false x)) = upB (fun x => !(fa x == 0) && !(W x)) s true := by
    funext x
    rw [upB_at, upB_at]
    by_cases c : x = s
    · rw [if_pos c, if_pos c, c]
      simp [hf]
    · rw [if_neg c, if_neg c]
  rw [e]
  exact ctP_on hs (by simp [hw])
theorem IV_up {A : LT} {pr : Nat → Nat} {src : Nat → Prop} {d z i : Nat} {m m2 : MM} {fa : Nat → Nat} {W : Nat → Bool} {p k : Nat} (b1 : A 6 0 ≤ 5) (b2 : A 6 1 ≤ 5) (hpr : ∀ k, k < 125 → pr k ≤ 99) (I : IV A pr src d z i m fa W) (hz : fa z = d + 1) (hzw : W z = false) (hf : d + 99 ≤ 99 * fin ((A 6 0) ^ (A 6 1)) fa W) (hi : (nb A z)[i]? = some (p, k)) (hc : fa p = 0 ∨ d + pr k < fa p - 1) (D : DQ m2 ((A 6 0) ^ (A 6 1)) (up fa p (d + pr k + 1)) (upB W p true)) : IV A pr src d z (i + 1) m2 (up fa p (d + pr k + 1)) (upB W p true) ∧ fin ((A 6 0) ^ (A 6 1)) (up fa p (d + pr k + 1)) (upB W p true) = fin ((A 6 0) ^ (A 6 1)) fa W ∧ p ≠ z := by
  obtain ⟨v1, v2, v3, v4, v5, v6, v7⟩ := I
  have hmem : (p, k) ∈ nb A z := List.mem_iff_getElem?.mpr ⟨i, hi⟩
  obtain ⟨hpN, hk, _⟩ := nb_in b1 b2 hmem
  have hp9 := hpr k hk
  have hpz : p ≠ z := by
    intro e
    rw [e] at hc
    omega
  have hpW : fa p = 0 ∨ W p = true := by
    rcases hc with h | h
    · exact Or.inl h
    · right
      cases hw : W p with
      | true => rfl
      | false =>
        have := (v2 p (by omega)).2.2.2 hw
        omega
  have hfu := fin_up (N := (A 6 0) ^ (A 6 1)) (v := d + pr k) hpW
  have le : ∀ q, fa q ≠ 0 → up fa p (d + pr k + 1) q ≠ 0 ∧ up fa p (d + pr k + 1) q ≤ fa q := by
    intro q hq
    rw [up_at]
    by_cases c : q = p
    · rw [if_pos c]
      rw [c] at hq ⊢
      omega
    · rw [if_neg c]
      exact ⟨hq, Nat.le_refl _⟩
  have ez : up fa p (d + pr k + 1) z = d + 1 := by rw [up_at, if_neg (fun z => hpz z.symm), hz]
  refine ⟨⟨D, fun s hs => ?_, fun s hs hw hsz q k2 hq => ?_, fun j q k2 hj hq => ?_, fun s hs => ?_, fun s hs => ?_, fun s hs => ?_⟩, hfu, hpz⟩
  · rw [up_at] at hs ⊢
    rw [upB_at]
    by_cases c : s = p
    · rw [if_pos c, if_pos c, c]
      exact ⟨hpN, by omega, fun _ => by omega, fun z => Bool.noConfusion z⟩
    · rw [if_neg c] at hs ⊢
      rw [if_neg c]
      exact v2 s hs
  · rw [upB_at] at hw
    by_cases c : s = p
    · rw [if_pos c] at hw
      cases hw
    · rw [if_neg c] at hw
      rw [up_at, if_neg c] at hs
      have q3 := v3 s hs hw hsz q k2 hq
      have l := le q q3.1
      rw [show up fa p (d + pr k + 1) s = fa s by rw [up_at, if_neg c]]
      exact ⟨l.1, by omega⟩
  · rw [ez]
    by_cases cj : j = i
    · rw [cj, hi] at hq
      cases hq
      rw [up_at, if_pos rfl]
      exact ⟨by omega, by omega⟩
    · have q4 := v4 j q k2 (by omega) hq
      have l := le q q4.1
      rw [hz] at q4
      exact ⟨l.1, by omega⟩
  · rw [up_at] at hs ⊢
    by_cases c : s = p
    · rw [if_pos c, c]
      obtain ⟨n, hn⟩ := v5 z (by omega)
      refine ⟨n + 1, z, k, d, ?_, hmem, by omega⟩
      rw [hz] at hn
      exact hn
    · rw [if_neg c] at hs ⊢
      exact v5 s hs
  · have q := v6 s hs
    have c : s ≠ p := by
      intro c
      rw [c] at q
      omega
    rw [up_at, if_neg c]
    exact q
  · rw [hfu]
    rw [up_at] at hs ⊢
    by_cases c : s = p
    · rw [if_pos c]
      omega
    · rw [if_neg c] at hs ⊢
      exact v7 s hs
theorem once_sp {F : Nat} {A : LT} {pr : Nat → Nat} {src : Nat → Prop} {d z hm : Nat} {m : MM} {fa : Nat → Nat} {W : Nat → Bool} (hF : 50 ≤ F) (B : AB A) (hd : d < 400000) (C : CX2 m A pr hm) (I : IV A pr src d z 0 m fa W) (hz : fa z = d + 1) (hzw : W z = false) (hf : d + 99 ≤ 99 * fin ((A 6 0) ^ (A 6 1)) fa W) : ∃ m' fa' W', f_X1_spreadOnce F (nI z) (nI d) m = some m' ∧ IN A pr src d m' fa' W' ∧ fin ((A 6 0) ^ (A 6 1)) fa' W' = fin ((A 6 0) ^ (A 6 1)) fa W ∧ (∀ q, q ≠ 25 → ¬ (27 ≤ q ∧ q ≤ 30) → q ≠ 33 → q ≠ 34 → q ≠ 35 → m'.1 q = m.1 q) ∧ (∀ i, i ≠ 13 → rI m' 25 i = rI m 25 i) := by
  have b1 := B.1
  have b2 := B.2.1
  have hN := pw_le b1 b2
  have hzN := (I.2.1 z (by omega)).1
  obtain ⟨m3, e1, e2, e3⟩ := around_sp (F := F) hF B C.1 hzN
  have hlen := nbA_len (A := A) (s := z) b1 (A 6 1)
  have hlen2 : (nb A z).length ≤ 25 := Nat.le_trans hlen (by omega)
  unfold f_X1_spreadOnce
  rw [e1, bd2_s]
  have I3 : IV A pr src d z 0 m3 fa W := ⟨DQ_fr (fun q hq => e2 q (by omega) (by omega) (by omega)) (r_row (e2 25 (by decide) (by decide) (by decide)) 13) I.1, I.2⟩
  obtain ⟨m', ⟨fa', W', j1, j2, j3, j4, j5, j6, j7⟩, j8⟩ := loop_inv (fun n i m => f_X1_spreadOnce_L9 (nI d) (nI (nb A z).length) (fun x4_4 m5 => some m5) n i m) (fun m => some m) (nb A z).length (fun i m1 => ∃ fa1 W1, IV A pr src d z i m1 fa1 W1 ∧ fa1 z = d + 1 ∧ W1 z = false ∧ fin ((A 6 0) ^ (A 6 1)) fa1 W1 = fin ((A 6 0) ^ (A 6 1)) fa W ∧ LN m1 (nb A z) ∧ (∀ q, q ≠ 25 → ¬ (27 ≤ q ∧ q ≤ 30) → m1.1 q = m3.1 q) ∧ (∀ i, i ≠ 13 → rI m1 25 i = rI m3 25 i)) (fun n m1 hI => by
    show f_X1_spreadOnce_L9 _ _ _ (n + 1) _ m1 = _
    unfold f_X1_spreadOnce_L9
    rw [if_pos (Int32.le_refl _)]) (fun i n m1 hi hI => by
    obtain ⟨fa1, W1, k1, k2, k3, k4, k5, k6, k7⟩ := hI
    obtain ⟨pk, hpk⟩ : ∃ pk, (nb A z)[i]? = some pk := ⟨(nb A z)[i], List.getElem?_eq_getElem hi⟩
    obtain ⟨p, k⟩ := pk
    have hmem : (p, k) ∈ nb A z := List.mem_iff_getElem?.mpr ⟨i, hpk⟩
    obtain ⟨hpN, hk, _⟩ := nb_in b1 b2 hmem
    have hp9 := C.2.2 k hk
    have ln := k5 i (p, k) hpk
    have gi := inB_n (by omega : i < 25) (by decide : 25 ≤ 2 ^ 31)
    have hxi : ix (nI i) = i := ix_n (by omega)
    have gk := inB_n hk (by decide : 125 ≤ 2 ^ 31)
    have hxk : ix (nI k) = k := ix_n (by omega)
    have gp := inB_n (by omega : p < 3125) (by decide : 3125 ≤ 2 ^ 31)
    have hxp : ix (nI p) = p := ix_n (by omega)
    have e31 : rI m1 31 k = nI (pr k) := by
      obtain ⟨t', h', q1, q2, q3, q4, q5⟩ := nbA_mem.mp hmem
      have hk' : k = (t' * 5 + h') * 5 + dg (A 6 0) z t' := congrArg Prod.snd q5
      rw [hk']
      exact (r_row (k6 31 (by decide) (by decide)) _).trans ((r_row (e2 31 (by decide) (by decide) (by decide)) _).trans (C.2.1 t' h' _ q1 q2 (dg_lt (by omega))))
    have e27 := DQ_far k1.1 hpN
    have nle : ¬ nI (nb A z).length ≤ nI i := by rw [n_le (by omega) (by omega)]; omega
    have hfp : fa1 p < 2 ^ 31 := by
      by_cases c : fa1 p = 0
      · omega
      · have := (k1.2.1 p c).2.1
        omega
    have unf : f_X1_spreadOnce_L9 (nI d) (nI (nb A z).length) (fun x4_4 m5 => some m5) (n + 1) (nI i) m1 = if nI (fa1 p) - 1 = -1 then bd1 (f_X1_enterTurn (nI p) (nI (d + pr k)) m1) fun m10 => f_X1_spreadOnce_L9 (nI d) (nI (nb A z).length) (fun x4_4 m5 => some m5) n (nI (i + 1)) m10 else if nI (fa1 p) - 1 ≤ nI (d + pr k) then f_X1_spreadOnce_L9 (nI d) (nI (nb A z).length) (fun x4_4 m5 => some m5) n (nI (i + 1)) m1 else bd1 (f_X1_leaveTurn (nI p) m1) fun m14 => bd1 (f_X1_enterTurn (nI p) (nI (d + pr k)) m14) fun m16 => f_X1_spreadOnce_L9 (nI d) (nI (nb A z).length) (fun x4_4 m5 => some m5) n (nI (i + 1)) m16 := by
      conv => lhs; unfold f_X1_spreadOnce_L9
      have ln1 : rI m1 34 i = nI p := ln.1
      have ln2 : rI m1 35 i = nI k := ln.2
      simp only [Lt_d, n_s, hxi, ln1, ln2, hxp, hxk, e31, nI_add, e27, Gu_of gi, Gu_of gk, Gu_of gp]
      rw [if_neg nle]
    rw [show (d + 99 ≤ 99 * fin ((A 6 0) ^ (A 6 1)) fa W) = (d + 99 ≤ 99 * fin ((A 6 0) ^ (A 6 1)) fa1 W1) by rw [k4]] at hf
    by_cases c0 : fa1 p = 0
    · have hpw : W1 p = false := by
        cases hw : W1 p with
        | false => rfl
        | true => exact absurd c0 (DQ_W k1.1 hw).2
      obtain ⟨m4, f1, f2, f3⟩ := enter_sp (d := d + pr k) hN k1.1 hpN hpw (by omega)
      obtain ⟨u1, u2, u3⟩ := IV_up b1 b2 C.2.2 k1 k2 k3 hf hpk (Or.inl c0) f2
      refine ⟨m4, ⟨_, _, u1, ?_, ?_, by rw [u2, k4], fun j q hq => ?_, fun q h1 h2 => (f3.1 q h1 h2).trans (k6 q h1 h2), fun i hi => (f3.2 i hi).trans (k7 i hi)⟩, ?_⟩
      · rw [up_at, if_neg (fun z => u3 z.symm)]
        exact k2
      · rw [upB_at, if_neg (fun z => u3 z.symm)]
        exact k3
      · have q2 := k5 j q hq
        exact ⟨(r_row (f3.1 34 (by decide) (by decide)) j).trans q2.1, (r_row (f3.1 35 (by decide) (by decide)) j).trans q2.2⟩
      · show f_X1_spreadOnce_L9 _ _ _ (n + 1) _ m1 = _
        rw [unf, if_pos ((nJ_m1 hfp).mpr c0), f1, bd1_s]
    · have hv := k1.2.1 p c0
      have em : nI (fa1 p) - 1 = nI (fa1 p - 1) := by
        obtain ⟨y, hy⟩ : ∃ y, fa1 p = y + 1 := ⟨fa1 p - 1, by omega⟩
        rw [hy, n_p, Nat.add_sub_cancel]
      by_cases c1 : fa1 p - 1 ≤ d + pr k
      · refine ⟨m1, ⟨fa1, W1, ⟨k1.1, k1.2.1, k1.2.2.1, fun j q k2' hj hq => ?_, k1.2.2.2.2⟩, k2, k3, k4, k5, k6, k7⟩, ?_⟩
        · by_cases cj : j = i
          · rw [cj, hpk] at hq
            cases hq
            exact ⟨c0, by omega⟩
          · exact k1.2.2.2.1 j q k2' (by omega) hq
        · show f_X1_spreadOnce_L9 _ _ _ (n + 1) _ m1 = _
          rw [unf, if_neg (fun z => c0 ((nJ_m1 hfp).mp z)), em, if_pos ((n_le (by omega) (by omega)).mpr c1)]
      · have hpw : W1 p = true := by
          cases hw : W1 p with
          | true => rfl
          | false =>
            have := hv.2.2.2 hw
            omega
        obtain ⟨m4, f1, f2, f3, f4⟩ := leave_sp hN k1.1 hpw hfp
        obtain ⟨m5, g1, g2, g3⟩ := enter_sp (d := d + pr k) hN f2 hpN (by rw [upB_at, if_pos rfl]) (by omega)
        rw [upB_upB] at g2
        obtain ⟨u1, u2, u3⟩ := IV_up b1 b2 C.2.2 k1 k2 k3 hf hpk (Or.inr (by omega)) g2
        have f5 := FD_tr f3 g3
        refine ⟨m5, ⟨_, _, u1, ?_, ?_, by rw [u2, k4], fun j q hq => ?_, fun q h1 h2 => (f5.1 q h1 h2).trans (k6 q h1 h2), fun i hi => (f5.2 i hi).trans (k7 i hi)⟩, ?_⟩
        · rw [up_at, if_neg (fun z => u3 z.symm)]
          exact k2
        · rw [upB_at, if_neg (fun z => u3 z.symm)]
          exact k3
        · have q2 := k5 j q hq
          exact ⟨(r_row (f5.1 34 (by decide) (by decide)) j).trans q2.1, (r_row (f5.1 35 (by decide) (by decide)) j).trans q2.2⟩
        · show f_X1_spreadOnce_L9 _ _ _ (n + 1) _ m1 = _
          rw [unf, if_neg (fun z => c0 ((nJ_m1 hfp).mp z)), em, if_neg (by rw [n_le (by omega) (by omega)]; exact c1), f1, bd1_s, g1, bd1_s]) F m3 (by omega) ⟨fa, W, I3, hz, hzw, rfl, e3, fun q _ _ => rfl, fun i _ => rfl⟩
  refine ⟨m', fa', W', j8, ⟨j1.1, j1.2.1, fun s hs hw p k hp => ?_, j1.2.2.2.2⟩, j4, fun q h1 h2 h3 h4 h5 => (j6 q h1 h2).trans (e2 q h3 h4 h5), fun i hi => (j7 i hi).trans (r_row (e2 25 (by decide) (by decide) (by decide)) i)⟩
  by_cases c : s = z
  · rw [c] at hp ⊢
    obtain ⟨j, hj⟩ := List.mem_iff_getElem?.mp hp
    exact j1.2.2.2.1 j p k (List.getElem?_eq_some_iff.mp hj).1 hj
  · exact j1.2.2.1 s hs hw c p k hp
