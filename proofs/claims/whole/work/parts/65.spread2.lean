/-! SPREAD, the two loops -/
def FE (m m2 : MM) : Prop := (∀ q, q ≠ 25 → ¬ (27 ≤ q ∧ q ≤ 30) → q ≠ 33 → q ≠ 34 → q ≠ 35 → m2.1 q = m.1 q) ∧ ∀ i, i ≠ 13 → rI m2 25 i = rI m 25 i
theorem FE_rf (m : MM) : FE m m := ⟨fun _ _ _ _ _ _ => rfl, fun _ _ => rfl⟩
theorem FE_tr {a b c : MM} (h : FE a b) (g : FE b c) : FE a c := ⟨fun q h1 h2 h3 h4 h5 => (g.1 q h1 h2 h3 h4 h5).trans (h.1 q h1 h2 h3 h4 h5), fun i hi => (g.2 i hi).trans (h.2 i hi)⟩
theorem FE_fd {a b : MM} (h : FD a b) : FE a b := ⟨fun q h1 h2 _ _ _ => h.1 q h1 h2, h.2⟩
theorem CX_fe {m m2 : MM} {A : LT} {pr : Nat → Nat} {hm : Nat} (h : FE m m2) (C : CX2 m A pr hm) : CX2 m2 A pr hm := CX_fr h.1 h.2 C
theorem ct_full {p : Nat → Bool} : ∀ {n : Nat}, n ≤ ctP p n → ∀ i, i < n → p i = true
  | 0, _, i, hi => absurd hi (Nat.not_lt_zero i)
  | n + 1, h, i, hi => by
    rw [ctP_s] at h
    have q := ctP_le (p := p) n
    by_cases c : p n = true
    · by_cases ci : i = n
      · rw [ci]; exact c
      · rw [if_pos c] at h
        exact ct_full (p := p) (n := n) (by omega) i (by omega)
    · rw [if_neg c] at h
      omega
theorem inner_sp {F : Nat} {A : LT} {pr : Nat → Nat} {src : Nat → Prop} {d hm : Nat} (hF : 4000 ≤ F) (B : AB A) (hd : d < 400000) (K : Int32 → MM → Option (Int32 × MM)) : ∀ k i f m fa W, i + k = (A 6 0) ^ (A 6 1) → k < f → CX2 m A pr hm → IN A pr src d m fa W → i ≤ fin ((A 6 0) ^ (A 6 1)) fa W → ∃ m' fa' W' x, f_X1_spread_L57 F (nI d) K f (nI i) m = K x m' ∧ IN A pr src d m' fa' W' ∧ (∀ s, W' s = true → (fa' s - 1) % 100 ≠ d % 100) ∧ FE m m' := by
  have b1 := B.1
  have b2 := B.2.1
  have hN := pw_le b1 b2
  have hdm : d % 100 < 100 := Nat.mod_lt _ (by decide)
  have r100 : remI (nI d) 100 = nI (d % 100) := n_rem (by omega) (by decide : 100 < 2 ^ 31)
  have g100 : nz (100 : Int32) = true := rfl
  have gd := inB_n hdm (by decide : 100 ≤ 2 ^ 31)
  have hxd : ix (nI (d % 100)) = d % 100 := ix_n (by omega)
  intro k
  induction k with
  | zero =>
    intro i f m fa W hi hf C I hfin
    obtain ⟨f, rfl⟩ : ∃ z, f = z + 1 := ⟨f - 1, by omega⟩
    have e11 : rI m 25 11 = nI ((A 6 0) ^ (A 6 1)) := C.1.2.2.2.2.1
    refine ⟨m, fa, W, nI i, ?_, I, fun s hs => ?_, FE_rf m⟩
    · unfold f_X1_spread_L57
      rw [e11, if_pos (by rw [n_le (by omega) (by omega)]; omega)]
    · have q := DQ_W I.1 hs
      have := ct_full (p := fun x => !(fa x == 0) && !(W x)) (n := (A 6 0) ^ (A 6 1)) (by unfold fin at hfin; omega) s q.1
      simp [hs] at this
  | succ k ih =>
    intro i f m fa W hi hf C I hfin
    obtain ⟨f, rfl⟩ : ∃ z, f = z + 1 := ⟨f - 1, by omega⟩
    have e11 : rI m 25 11 = nI ((A 6 0) ^ (A 6 1)) := C.1.2.2.2.2.1
    have nle : ¬ nI ((A 6 0) ^ (A 6 1)) ≤ nI i := by rw [n_le (by omega) (by omega)]; omega
    rcases DQ_head hN I.1 hdm with ⟨h1, h2⟩ | ⟨s, h1, h2, h3, h4⟩
    · refine ⟨m, fa, W, nI i, ?_, I, h2, FE_rf m⟩
      unfold f_X1_spread_L57
      rw [e11, if_neg nle, Gu_of g100, r100, Gu_of gd, hxd, h1, if_pos rfl]
    · have hfs := (DQ_W I.1 h2).2
      have hv := I.2.1 s hfs
      have hvd := hv.2.2.1 h2
      have ed : fa s = d + 1 := by omega
      obtain ⟨m1, e1, e2, e3, e4⟩ := leave_sp hN I.1 h2 (by omega)
      have hpop := fin_pop h3 hfs h2
      have hws : upB W s false s = false := by rw [upB_at, if_pos rfl]
      have hsub : ∀ x, upB W s false x = true → W x = true := fun x hx => by
        rw [upB_at] at hx
        by_cases c : x = s
        · rw [if_pos c] at hx; cases hx
        · rw [if_neg c] at hx; exact hx
      have h99 := I.2.2.2.2.2 s hfs
      have I1 : IV A pr src d s 0 m1 fa (upB W s false) := ⟨e2, fun x hx => ⟨(I.2.1 x hx).1, (I.2.1 x hx).2.1, fun hw => (I.2.1 x hx).2.2.1 (hsub x hw), fun hw => by
        by_cases c : x = s
        · rw [c]; omega
        · rw [upB_at, if_neg c] at hw
          exact (I.2.1 x hx).2.2.2 hw⟩, fun x hx hw hxs p k hp => by
        rw [upB_at, if_neg hxs] at hw
        exact I.2.2.1 x hx hw p k hp, fun j p k hj => absurd hj (Nat.not_lt_zero j), I.2.2.2.1, I.2.2.2.2.1, fun x hx => by
        have := I.2.2.2.2.2 x hx
        rw [hpop]
        omega⟩
      have C1 := CX_fe (FE_fd e3) C
      obtain ⟨m2, fa2, W2, f1, f2, f3, f4, f5⟩ := once_sp (F := F) (by omega) B hd C1 I1 ed hws (by rw [hpop]; omega)
      have fe : FE m m2 := FE_tr (FE_fd e3) ⟨f4, f5⟩
      obtain ⟨m', fa', W', x, g1, g2, g3, g4⟩ := ih (i + 1) f m2 fa2 W2 (by omega) (by omega) (CX_fe fe C) f2 (by rw [f3, hpop]; omega)
      refine ⟨m', fa', W', x, ?_, g2, g3, FE_tr fe g4⟩
      rw [← g1]
      conv => lhs; unfold f_X1_spread_L57
      rw [e11, if_neg nle, Gu_of g100, r100, Gu_of gd, hxd, h1, if_neg (n_ne1 (by omega)), Gu_of g100, Gu_of gd, Lt_d, e1, bd1_s, f1, bd1_s, Lt_d, n_s]
/-- what stands at the end -/
def SPR (A : LT) (pr : Nat → Nat) (src : Nat → Prop) (all : Bool) (hm : Nat) (m : MM) (fa : Nat → Nat) : Prop := (∀ s, s < (A 6 0) ^ (A 6 1) → rI m 27 s = nI (fa s) - 1) ∧ (∀ s, fa s ≤ 309376) ∧ LDc A pr src hm (fa hm) ∧ (all = true → ∀ s, LDc A pr src s (fa s)) ∧ ∀ s, LDc A pr src s (fa s) ∨ ((fa s = 0 ∨ fa hm < fa s) ∧ fa hm ≠ 0 ∧ ∀ n c, RD A pr src n s c → fa hm ≤ c)
theorem RD_low {A : LT} {pr : Nat → Nat} {src : Nat → Prop} {d : Nat} {m : MM} {fa : Nat → Nat} {W : Nat → Bool} (I : IN A pr src d m fa W) (hs : ∀ s, fa s ≠ 0 → W s = true → d ≤ fa s - 1) : ∀ n s c, RD A pr src n s c → (fa s ≠ 0 ∧ fa s - 1 ≤ c) ∨ d ≤ c
  | 0, s, c, h => by
    have := I.2.2.2.2.1 s h.1
    left
    omega
  | n + 1, p, c, h => by
    obtain ⟨s, k, c', h1, h2, h3⟩ := h
    rcases RD_low I hs n s c' h1 with ⟨q1, q2⟩ | q
    · cases hw : W s with
      | true =>
        have := hs s q1 hw
        right
        omega
      | false =>
        have := I.2.2.1 s q1 hw p k h2
        left
        omega
    · right
      omega
theorem RD_all {A : LT} {pr : Nat → Nat} {src : Nat → Prop} {d : Nat} {m : MM} {fa : Nat → Nat} {W : Nat → Bool} (I : IN A pr src d m fa W) (hs : ∀ s, W s = false) : ∀ n s c, RD A pr src n s c → fa s ≠ 0 ∧ fa s - 1 ≤ c
  | 0, s, c, h => by
    have := I.2.2.2.2.1 s h.1
    omega
  | n + 1, p, c, h => by
    obtain ⟨s, k, c', h1, h2, h3⟩ := h
    obtain ⟨q1, q2⟩ := RD_all I hs n s c' h1
    have := I.2.2.1 s q1 (hs s) p k h2
    omega
theorem IN_bd {A : LT} {pr : Nat → Nat} {src : Nat → Prop} {d : Nat} {m : MM} {fa : Nat → Nat} {W : Nat → Bool} (B : AB A) (I : IN A pr src d m fa W) (s : Nat) : fa s ≤ 309376 := by
  have hN := pw_le B.1 B.2.1
  by_cases c : fa s = 0
  · omega
  · have := I.2.2.2.2.2 s c
    have : fin ((A 6 0) ^ (A 6 1)) fa W ≤ (A 6 0) ^ (A 6 1) := ctP_le _
    omega
theorem SPR_all {A : LT} {pr : Nat → Nat} {src : Nat → Prop} {d hm : Nat} {all : Bool} {m : MM} {fa : Nat → Nat} {W : Nat → Bool} (B : AB A) (I : IN A pr src d m fa W) (hs : ∀ s, W s = false) : SPR A pr src all hm m fa := by
  have key : ∀ s, LDc A pr src s (fa s) := by
    intro s
    by_cases c : fa s = 0
    · exact Or.inl ⟨c, fun n x h => (RD_all I hs n s x h).1 c⟩
    · exact Or.inr ⟨c, I.2.2.2.1 s c, fun n x h => (RD_all I hs n s x h).2⟩
  exact ⟨fun s h => DQ_far I.1 h, IN_bd B I, key hm, fun _ => key, fun s => Or.inl (key s)⟩
theorem outer_sp {F : Nat} {A : LT} {pr : Nat → Nat} {src : Nat → Prop} {hm : Nat} {all : Bool} (hF : 4000 ≤ F) (B : AB A) : ∀ k d f m fa W, d + k = 309377 → k < f → CX2 m A pr hm → IN A pr src d m fa W → (∀ s, fa s ≠ 0 → W s = false → fa s - 1 < d) → ∃ m' fa', f_X1_spread_L2 F (if all = true then 1 else 0) (fun x2_1 m2 => Gu (inB (rI m2 25 12) 3125) <| some (rI m2 27 (ix (rI m2 25 12)), m2)) f (nI d) m = some (nI (fa' hm) - 1, m') ∧ SPR A pr src all hm m' fa' ∧ FE m m' := by
  have b1 := B.1
  have b2 := B.2.1
  have hN := pw_le b1 b2
  have stop : ∀ d f m fa W, CX2 m A pr hm → IN A pr src d m fa W → (∀ s, W s = false) → (f_X1_spread_L2 F (if all = true then 1 else 0) (fun x2_1 m2 => Gu (inB (rI m2 25 12) 3125) <| some (rI m2 27 (ix (rI m2 25 12)), m2)) f (nI d) m = (Gu (inB (rI m 25 12) 3125) <| some (rI m 27 (ix (rI m 25 12)), m))) → ∃ m' fa', f_X1_spread_L2 F (if all = true then 1 else 0) (fun x2_1 m2 => Gu (inB (rI m2 25 12) 3125) <| some (rI m2 27 (ix (rI m2 25 12)), m2)) f (nI d) m = some (nI (fa' hm) - 1, m') ∧ SPR A pr src all hm m' fa' ∧ FE m m' := by
    intro d f m fa W C I hw e
    have e12 : rI m 25 12 = nI hm := C.1.2.2.2.2.2.1
    have hml := C.1.2.2.2.2.2.2.2.2.1
    refine ⟨m, fa, ?_, SPR_all B I hw, FE_rf m⟩
    rw [e, e12, Gu_of (inB_n (by omega : hm < 3125) (by decide)), ix_n (by omega), DQ_far I.1 hml]
  intro k
  induction k with
  | zero =>
    intro d f m fa W hd hf C I hst
    obtain ⟨f, rfl⟩ : ∃ z, f = z + 1 := ⟨f - 1, by omega⟩
    refine stop d (f + 1) m fa W C I (fun s => ?_) ?_
    · cases hw : W s with
      | false => rfl
      | true =>
        have q := DQ_W I.1 hw
        have q2 := (I.2.1 s q.2).2.2.1 hw
        have q3 := IN_bd B I s
        omega
    · unfold f_X1_spread_L2
      rw [if_pos (by rw [show (309375 : Int32) = nI 309375 from rfl, n_lt (by omega) (by omega)]; omega)]
  | succ k ih =>
    intro d f m fa W hd hf C I hst
    obtain ⟨f, rfl⟩ : ∃ z, f = z + 1 := ⟨f - 1, by omega⟩
    have e13 := DQ_wait I.1
    have hcl : ctP W ((A 6 0) ^ (A 6 1)) ≤ (A 6 0) ^ (A 6 1) := ctP_le _
    by_cases c9 : d = 309376
    · refine stop d (f + 1) m fa W C I (fun s => ?_) ?_
      · cases hw : W s with
        | false => rfl
        | true =>
          have q := DQ_W I.1 hw
          have q2 := (I.2.1 s q.2).2.2.1 hw
          have q3 := IN_bd B I s
          omega
      · unfold f_X1_spread_L2
        rw [if_pos (by rw [show (309375 : Int32) = nI 309375 from rfl, n_lt (by omega) (by omega)]; omega)]
    · have n9 : ¬ (309375 : Int32) < nI d := by rw [show (309375 : Int32) = nI 309375 from rfl, n_lt (by omega) (by omega)]; omega
      by_cases c0 : ctP W ((A 6 0) ^ (A 6 1)) = 0
      · refine stop d (f + 1) m fa W C I (fun s => ?_) ?_
        · cases hw : W s with
          | false => rfl
          | true =>
            have q := DQ_W I.1 hw
            have := ct_0.mp c0 s q.1
            rw [hw] at this
            cases this
        · unfold f_X1_spread_L2
          rw [if_neg n9, e13, c0, if_pos (by decide)]
      · have n0 : ¬ nI (ctP W ((A 6 0) ^ (A 6 1))) ≤ 0 := by rw [show (0 : Int32) = nI 0 from rfl, n_le (by omega) (by omega)]; omega
        have e12 : rI m 25 12 = nI hm := C.1.2.2.2.2.2.1
        have hml := C.1.2.2.2.2.2.2.2.2.1
        have ghm := inB_n (by omega : hm < 3125) (by decide : 3125 ≤ 2 ^ 31)
        have hxm : ix (nI hm) = hm := ix_n (by omega)
        have e27 := DQ_far I.1 hml
        have hbm := IN_bd B I hm
        -- the step outward
        have step : ∃ m' fa', (f_X1_spread_L57 F (nI d) (fun x3_5 m6 => Lt (nI d + (1 : Int32)) fun x2_14 => f_X1_spread_L2 F (if all = true then 1 else 0) (fun x2_1 m2 => Gu (inB (rI m2 25 12) 3125) <| some (rI m2 27 (ix (rI m2 25 12)), m2)) f x2_14 m6) F (0 : Int32) m) = some (nI (fa' hm) - 1, m') ∧ SPR A pr src all hm m' fa' ∧ FE m m' := by
          obtain ⟨m1, fa1, W1, x, g1, g2, g3, g4⟩ := inner_sp (F := F) (d := d) hF B (by omega) (fun x3_5 m6 => Lt (nI d + (1 : Int32)) fun x2_14 => f_X1_spread_L2 F (if all = true then 1 else 0) (fun x2_1 m2 => Gu (inB (rI m2 25 12) 3125) <| some (rI m2 27 (ix (rI m2 25 12)), m2)) f x2_14 m6) ((A 6 0) ^ (A 6 1)) 0 F m fa W (by omega) (by omega) C I (Nat.zero_le _)
          have I1 : IN A pr src (d + 1) m1 fa1 W1 := ⟨g2.1, fun s hs => by
            have q := g2.2.1 s hs
            refine ⟨q.1, by omega, fun hw => ?_, fun hw => ?_⟩
            · have q1 := q.2.2.1 hw
              have q2 := g3 s hw
              by_cases c : fa1 s - 1 = d
              · rw [c] at q2
                exact absurd rfl q2
              · omega
            · have := q.2.2.2 hw
              omega, g2.2.2⟩
          obtain ⟨m', fa', u1, u2, u3⟩ := ih (d + 1) f m1 fa1 W1 (by omega) (by omega) (CX_fe g4 C) I1 (fun s hs hw => by
            have := (g2.2.1 s hs).2.2.2 hw
            omega)
          refine ⟨m', fa', ?_, u2, FE_tr g4 u3⟩
          rw [← u1]
          refine Eq.trans g1 ?_
          show (Lt (nI d + (1 : Int32)) fun x2_14 => f_X1_spread_L2 F (if all = true then 1 else 0) (fun x2_1 m2 => Gu (inB (rI m2 25 12) 3125) <| some (rI m2 27 (ix (rI m2 25 12)), m2)) f x2_14 m1) = _
          rw [Lt_d, n_s]
        have unf : f_X1_spread_L2 F (if all = true then 1 else 0) (fun x2_1 m2 => Gu (inB (rI m2 25 12) 3125) <| some (rI m2 27 (ix (rI m2 25 12)), m2)) (f + 1) (nI d) m = (if (if all = true then (1 : Int32) else 0) = 0 then (if nI (fa hm) - 1 = (-1 : Int32) then (f_X1_spread_L57 F (nI d) (fun x3_5 m6 => Lt (nI d + (1 : Int32)) fun x2_14 => f_X1_spread_L2 F (if all = true then 1 else 0) (fun x2_1 m2 => Gu (inB (rI m2 25 12) 3125) <| some (rI m2 27 (ix (rI m2 25 12)), m2)) f x2_14 m6) F (0 : Int32) m) else if nI d ≤ nI (fa hm) - 1 then (f_X1_spread_L57 F (nI d) (fun x3_5 m6 => Lt (nI d + (1 : Int32)) fun x2_14 => f_X1_spread_L2 F (if all = true then 1 else 0) (fun x2_1 m2 => Gu (inB (rI m2 25 12) 3125) <| some (rI m2 27 (ix (rI m2 25 12)), m2)) f x2_14 m6) F (0 : Int32) m) else some (nI (fa hm) - 1, m)) else (f_X1_spread_L57 F (nI d) (fun x3_5 m6 => Lt (nI d + (1 : Int32)) fun x2_14 => f_X1_spread_L2 F (if all = true then 1 else 0) (fun x2_1 m2 => Gu (inB (rI m2 25 12) 3125) <| some (rI m2 27 (ix (rI m2 25 12)), m2)) f x2_14 m6) F (0 : Int32) m)) := by
          conv => lhs; unfold f_X1_spread_L2
          rw [if_neg n9, e13, if_neg n0]
          simp only [Jp_d, e12, hxm, e27, Gu_of ghm]
        rw [unf]
        by_cases ca : all = true
        · rw [if_neg (by rw [if_pos ca]; exact h10)]
          exact step
        · rw [if_pos (by rw [if_neg ca])]
          by_cases cf : fa hm = 0
          · rw [if_pos ((nJ_m1 (by omega)).mpr cf)]
            exact step
          · have em : nI (fa hm) - 1 = nI (fa hm - 1) := by
              obtain ⟨y, hy⟩ : ∃ y, fa hm = y + 1 := ⟨fa hm - 1, by omega⟩
              rw [hy, n_p, Nat.add_sub_cancel]
            rw [if_neg (fun z => cf ((nJ_m1 (by omega)).mp z)), em]
            by_cases cl : d ≤ fa hm - 1
            · rw [if_pos ((n_le (by omega) (by omega)).mpr cl)]
              exact step
            · rw [if_neg (by rw [n_le (by omega) (by omega)]; exact cl)]
              have low := RD_low I (fun s h1 h2 => (I.2.1 s h1).2.2.1 h2)
              have here : ∀ s, fa s ≠ 0 → fa s - 1 < d → LDc A pr src s (fa s) := fun s h1 h2 => Or.inr ⟨h1, I.2.2.2.1 s h1, fun n c h => by
                rcases low n s c h with q | q <;> omega⟩
              refine ⟨m, fa, by rw [em], ⟨fun s h => DQ_far I.1 h, IN_bd B I, here hm cf (by omega), fun z => absurd z ca, fun s => ?_⟩, FE_rf m⟩
              by_cases cs : fa s ≠ 0 ∧ fa s - 1 < d
              · exact Or.inl (here s cs.1 cs.2)
              · right
                refine ⟨by omega, cf, fun n c h => ?_⟩
                rcases low n s c h with q | q <;> omega
theorem spread_sp {F : Nat} {A : LT} {pr : Nat → Nat} {src : Nat → Prop} {hm : Nat} {all : Bool} {m : MM} {fa : Nat → Nat} {W : Nat → Bool} (hF : 400000 ≤ F) (B : AB A) (C : CX2 m A pr hm) (I : IN A pr src 0 m fa W) (hst : ∀ s, fa s ≠ 0 → W s = true) : ∃ m' fa', f_X1_spread F (if all = true then 1 else 0) m = some (nI (fa' hm) - 1, m') ∧ SPR A pr src all hm m' fa' ∧ FE m m' := by
  unfold f_X1_spread
  exact outer_sp (F := F) (by omega) B 309377 0 F m fa W (by omega) (by omega) C I (fun s h1 h2 => by
    rw [hst s h1] at h2
    cases h2)
theorem clear_sp {F : Nat} {A : LT} {pr : Nat → Nat} {hm : Nat} {m : MM} (hF : 4000 ≤ F) (B : AB A) (C : CX2 m A pr hm) : ∃ m', f_X1_clearTurns F m = some m' ∧ DQ m' ((A 6 0) ^ (A 6 1)) (fun _ => 0) (fun _ => false) ∧ FE m m' := by
  have b1 := B.1
  have b2 := B.2.1
  have hN := pw_le b1 b2
  have e11 : rI m 25 11 = nI ((A 6 0) ^ (A 6 1)) := C.1.2.2.2.2.1
  unfold f_X1_clearTurns
  rw [Lt_d]
  obtain ⟨m1, ⟨i1, i2⟩, i3⟩ := loop_inv (fun n i m1 => f_X1_clearTurns_L7 (fun x1_2 m3 => f_X1_clearTurns_L30 (fun x1_7 m8 => some m8) F (0 : Int32) m3) n i m1) (fun m3 => f_X1_clearTurns_L30 (fun x1_7 m8 => some m8) F (0 : Int32) m3) ((A 6 0) ^ (A 6 1)) (fun x m1 => (∀ q, q ≠ 27 → m1.1 q = (wI m 25 13 0).1 q) ∧ ∀ s, s < x → rI m1 27 s = -1) (fun n m1 hI => by
    have e : rI m1 25 11 = nI ((A 6 0) ^ (A 6 1)) := (r_row (hI.1 25 (by decide)) 11).trans ((rI_nj (by decide)).trans e11)
    show f_X1_clearTurns_L7 _ (n + 1) _ _ = _
    unfold f_X1_clearTurns_L7
    rw [e, if_pos (Int32.le_refl _)]) (fun x n m1 hx hI => by
    have e : rI m1 25 11 = nI ((A 6 0) ^ (A 6 1)) := (r_row (hI.1 25 (by decide)) 11).trans ((rI_nj (by decide)).trans e11)
    refine ⟨wI m1 27 x (-1), ⟨fun q hq => (row_ne hq).trans (hI.1 q hq), fun s hs => ?_⟩, ?_⟩
    · rw [rI_w]
      by_cases c : s = x
      · rw [if_pos ⟨rfl, c⟩]
      · rw [if_neg (fun z => c z.2)]
        exact hI.2 s (by omega)
    · show f_X1_clearTurns_L7 _ (n + 1) _ _ = _
      conv => lhs; unfold f_X1_clearTurns_L7
      rw [e, if_neg (by rw [n_le (by omega) (by omega)]; omega), Gu_of (inB_n (by omega : x < 3125) (by decide)), Lt_d, Lt_d, ix_n (by omega), n_s]) F (wI m 25 13 0) (by omega) ⟨fun q _ => rfl, fun s hs => absurd hs (Nat.not_lt_zero s)⟩
  obtain ⟨m2, ⟨j1, j2⟩, j3⟩ := loop_inv (fun n i m1 => f_X1_clearTurns_L30 (fun x1_7 m8 => some m8) n i m1) (fun m8 => some m8) 100 (fun x mx => (∀ q, q ≠ 30 → mx.1 q = m1.1 q) ∧ ∀ s, s < x → rI mx 30 s = -1) (fun n mx hI => by
    show f_X1_clearTurns_L30 _ (n + 1) _ _ = _
    unfold f_X1_clearTurns_L30
    rw [if_pos (by decide)]) (fun x n mx hx hI => by
    refine ⟨wI mx 30 x (-1), ⟨fun q hq => (row_ne hq).trans (hI.1 q hq), fun s hs => ?_⟩, ?_⟩
    · rw [rI_w]
      by_cases c : s = x
      · rw [if_pos ⟨rfl, c⟩]
      · rw [if_neg (fun z => c z.2)]
        exact hI.2 s (by omega)
    · show f_X1_clearTurns_L30 _ (n + 1) _ _ = _
      conv => lhs; unfold f_X1_clearTurns_L30
      rw [if_neg (by rw [show (100 : Int32) = nI 100 from rfl, n_le (by omega) (by omega)]; omega), Gu_of (inB_n hx (by decide)), Lt_d, Lt_d, ix_n (by omega), n_s]) F m1 (by omega) ⟨fun q _ => rfl, fun s hs => absurd hs (Nat.not_lt_zero s)⟩
  refine ⟨m2, ?_, ⟨fun _ => 0, fun _ => 0, fun _ => 0, fun _ => 0, 0, ⟨fun s hs => ?_, fun s hs hw => Bool.noConfusion hw, fun i hi => ?_, ?_⟩, ⟨fun s hw => Bool.noConfusion hw, fun s hw => Bool.noConfusion hw, fun s t hw => Bool.noConfusion hw, fun s t hw => Bool.noConfusion hw, fun i s _ h => ?_⟩⟩, ⟨fun q h1 h2 h3 h4 h5 => ?_, fun i hi => ?_⟩⟩
  · exact Eq.trans i3 j3
  · rw [r_row (j1 27 (by decide)), i2 s hs]
    show (-1 : Int32) = nI 0 - 1
    decide
  · rw [j2 i hi]
    show (-1 : Int32) = nI 0 - 1
    decide
  · rw [r_row (j1 25 (by decide)), r_row (i1 25 (by decide)), rI_eq, ct_0.mpr (fun i _ => rfl)]
    rfl
  · exact absurd (show 0 = s + 1 from h) (by omega)
  · rw [j1 q (by omega), i1 q (by omega)]
    exact row_ne h1
  · rw [r_row (j1 25 (by decide)), r_row (i1 25 (by decide)), rI_nj hi]
theorem fin0 {N : Nat} : fin N (fun _ => 0) (fun _ => false) = 0 := ct_0.mpr (fun i _ => rfl)
/-- from some that enter at once -/
theorem open_sp {F : Nat} {A : LT} {pr : Nat → Nat} {hm : Nat} {m : MM} {all : Bool} (hF : 400000 ≤ F) (B : AB A) (C : CX2 m A pr hm) : ∃ m' fa', f_X1_spreadFromOpen F (if all = true then 1 else 0) m = some (nI (fa' hm) - 1, m') ∧ SPR A pr (fun s => s < (A 6 0) ^ (A 6 1) ∧ u_mk A s = 2) all hm m' fa' ∧ FE m m' := by
  have b1 := B.1
  have b2 := B.2.1
  have hN := pw_le b1 b2
  obtain ⟨m1, e1, e2, e3⟩ := clear_sp (F := F) (by omega) B C
  have C1 := CX_fe e3 C
  unfold f_X1_spreadFromOpen
  rw [e1, bd1_s]
  obtain ⟨m2, ⟨fa, W, j1, j2, j3, j4⟩, j5⟩ := loop_inv (fun n i m => f_X1_spreadFromOpen_L6 (fun x2_3 m4 => bd2 (f_X1_spread F (if all = true then 1 else 0) m4) fun r10 m12 => some (r10, m12)) n i m) (fun m4 => bd2 (f_X1_spread F (if all = true then 1 else 0) m4) fun r10 m12 => some (r10, m12)) ((A 6 0) ^ (A 6 1)) (fun x mx => ∃ fa W, DQ mx ((A 6 0) ^ (A 6 1)) fa W ∧ (∀ s, fa s = if s < x ∧ u_mk A s = 2 then 1 else 0) ∧ (∀ s, W s = decide (s < x ∧ u_mk A s = 2)) ∧ FE m1 mx) (fun n mx hI => by
    obtain ⟨fa, W, k1, k2, k3, k4⟩ := hI
    have e11 : rI mx 25 11 = nI ((A 6 0) ^ (A 6 1)) := (k4.2 11 (by decide)).trans C1.1.2.2.2.2.1
    show f_X1_spreadFromOpen_L6 _ (n + 1) _ _ = _
    unfold f_X1_spreadFromOpen_L6
    rw [e11, if_pos (Int32.le_refl _)]) (fun x n mx hx hI => by
    obtain ⟨fa, W, k1, k2, k3, k4⟩ := hI
    have e11 : rI mx 25 11 = nI ((A 6 0) ^ (A 6 1)) := (k4.2 11 (by decide)).trans C1.1.2.2.2.2.1
    have e26 : rI mx 26 x = nI (u_mk A x) := (r_row (k4.1 26 (by decide) (by decide) (by decide) (by decide) (by decide)) x).trans (C1.1.2.2.2.2.2.2.2.1 x hx)
    have hmk := mk_le (A := A) (s := x)
    have gx := inB_n (by omega : x < 3125) (by decide : 3125 ≤ 2 ^ 31)
    have unf : f_X1_spreadFromOpen_L6 (fun x2_3 m4 => bd2 (f_X1_spread F (if all = true then 1 else 0) m4) fun r10 m12 => some (r10, m12)) (n + 1) (nI x) mx = if nI (u_mk A x) = 2 then bd1 (f_X1_enterTurn (nI x) (0 : Int32) mx) fun m7 => f_X1_spreadFromOpen_L6 (fun x2_3 m4 => bd2 (f_X1_spread F (if all = true then 1 else 0) m4) fun r10 m12 => some (r10, m12)) n (nI (x + 1)) m7 else f_X1_spreadFromOpen_L6 (fun x2_3 m4 => bd2 (f_X1_spread F (if all = true then 1 else 0) m4) fun r10 m12 => some (r10, m12)) n (nI (x + 1)) mx := by
      conv => lhs; unfold f_X1_spreadFromOpen_L6
      rw [e11, if_neg (by rw [n_le (by omega) (by omega)]; omega), Gu_of gx, ix_n (by omega), e26]
      simp only [Lt_d, n_s]
    by_cases c : u_mk A x = 2
    · have hwx : W x = false := by
        rw [k3]
        exact decide_eq_false (fun z => absurd z.1 (Nat.lt_irrefl x))
      obtain ⟨m7, f1, f2, f3⟩ := enter_sp (d := 0) hN k1 hx hwx (by omega)
      refine ⟨m7, ⟨_, _, f2, fun s => ?_, fun s => ?_, FE_tr k4 (FE_fd f3)⟩, ?_⟩
      · rw [up_at, k2]
        by_cases cs : s = x
        · rw [if_pos cs, if_pos ⟨by omega, by rw [cs]; exact c⟩]
        · rw [if_neg cs]
          by_cases c2 : s < x ∧ u_mk A s = 2
          · rw [if_pos c2, if_pos ⟨by omega, c2.2⟩]
          · rw [if_neg c2, if_neg (fun z => c2 ⟨by omega, z.2⟩)]
      · rw [upB_at, k3]
        by_cases cs : s = x
        · rw [if_pos cs]
          exact (decide_eq_true ⟨by omega, by rw [cs]; exact c⟩).symm
        · rw [if_neg cs]
          exact decide_eq_decide.mpr ⟨fun z => ⟨by omega, z.2⟩, fun z => ⟨by omega, z.2⟩⟩
      · show f_X1_spreadFromOpen_L6 _ (n + 1) _ _ = _
        rw [unf, if_pos (by rw [c]; rfl)]
        have f1' : f_X1_enterTurn (nI x) 0 mx = some m7 := f1
        rw [f1', bd1_s]
    · refine ⟨mx, ⟨fa, W, k1, fun s => ?_, fun s => ?_, k4⟩, ?_⟩
      · rw [k2]
        by_cases c2 : s < x ∧ u_mk A s = 2
        · rw [if_pos c2, if_pos ⟨by omega, c2.2⟩]
        · rw [if_neg c2, if_neg (fun z => c2 ⟨by
            have : s ≠ x := fun e => c (by rw [← e]; exact z.2)
            omega, z.2⟩)]
      · rw [k3]
        exact decide_eq_decide.mpr ⟨fun z => ⟨by omega, z.2⟩, fun z => ⟨by
          have : s ≠ x := fun e => c (by rw [← e]; exact z.2)
          omega, z.2⟩⟩
      · show f_X1_spreadFromOpen_L6 _ (n + 1) _ _ = _
        rw [unf, if_neg (by rw [show (2 : Int32) = nI 2 from rfl, n_eq (by omega) (by omega)]; exact c)]) F m1 (by omega) ⟨fun _ => 0, fun _ => false, e2, fun s => by rw [if_neg (fun z => absurd z.1 (Nat.not_lt_zero s))], fun s => (decide_eq_false (fun z => absurd z.1 (Nat.not_lt_zero s))).symm, FE_rf m1⟩
  have C2 := CX_fe j4 C1
  have I2 : IN A pr (fun s => s < (A 6 0) ^ (A 6 1) ∧ u_mk A s = 2) 0 m2 fa W := by
    have hW : ∀ s, fa s ≠ 0 → s < (A 6 0) ^ (A 6 1) ∧ fa s = 1 ∧ W s = true ∧ u_mk A s = 2 := by
      intro s hs
      rw [j2] at hs
      by_cases c : s < (A 6 0) ^ (A 6 1) ∧ u_mk A s = 2
      · exact ⟨c.1, by rw [j2, if_pos c], by rw [j3]; exact decide_eq_true c, c.2⟩
      · rw [if_neg c] at hs
        exact absurd rfl hs
    refine ⟨j1, fun s hs => ?_, fun s hs hw => ?_, fun s hs => ?_, fun s hs => ?_, fun s hs => ?_⟩
    · obtain ⟨h1, h2, h3, h4⟩ := hW s hs
      refine ⟨h1, by omega, fun _ => by omega, fun _ => by omega⟩
    · obtain ⟨h1, h2, h3, h4⟩ := hW s hs
      rw [h3] at hw
      cases hw
    · obtain ⟨h1, h2, h3, h4⟩ := hW s hs
      exact ⟨0, ⟨h1, h4⟩, by rw [h2]⟩
    · rw [j2, if_pos hs]
    · obtain ⟨h1, h2, h3, h4⟩ := hW s hs
      omega
  obtain ⟨m3, fa3, u1, u2, u3⟩ := spread_sp (all := all) hF B C2 I2 (fun s hs => by
    rw [j2] at hs
    by_cases c : s < (A 6 0) ^ (A 6 1) ∧ u_mk A s = 2
    · rw [j3]; exact decide_eq_true c
    · rw [if_neg c] at hs
      exact absurd rfl hs)
  refine ⟨m3, fa3, ?_, u2, FE_tr e3 (FE_tr j4 u3)⟩
  refine Eq.trans j5 ?_
  rw [u1, bd2_s]
/-- from one goal, or none -/
theorem from_sp {F : Nat} {A : LT} {pr : Nat → Nat} {hm : Nat} {m : MM} {g : Nat} (hF : 400000 ≤ F) (B : AB A) (C : CX2 m A pr hm) (hg : g ≤ (A 6 0) ^ (A 6 1)) : ∃ m' fa', f_X1_spreadFrom F (nI g - 1) m = some (nI (fa' hm) - 1, m') ∧ SPR A pr (fun s => g = s + 1) false hm m' fa' ∧ FE m m' := by
  have b1 := B.1
  have b2 := B.2.1
  have hN := pw_le b1 b2
  obtain ⟨m1, e1, e2, e3⟩ := clear_sp (F := F) (by omega) B C
  have C1 := CX_fe e3 C
  unfold f_X1_spreadFrom
  rw [e1, bd1_s, Jp_d]
  by_cases c : g = 0
  · subst c
    rw [if_pos (show nI 0 - 1 = -1 by decide)]
    have I2 : IN A pr (fun s => 0 = s + 1) 0 m1 (fun _ => 0) (fun _ => false) := ⟨e2, fun s hs => absurd rfl hs, fun s hs => absurd rfl hs, fun s hs => absurd rfl hs, fun s hs => by omega, fun s hs => absurd rfl hs⟩
    obtain ⟨m3, fa3, u1, u2, u3⟩ := spread_sp (all := false) hF B C1 I2 (fun s hs => absurd rfl hs)
    have u1' : f_X1_spread F 0 m1 = some (nI (fa3 hm) - 1, m3) := u1
    refine ⟨m3, fa3, ?_, u2, FE_tr e3 u3⟩
    try dsimp only
    rw [u1', bd2_s]
  · obtain ⟨s, rfl⟩ : ∃ s, g = s + 1 := ⟨g - 1, by omega⟩
    rw [n_p, if_neg (n_ne1 (by omega))]
    obtain ⟨m2, f1, f2, f3⟩ := enter_sp (s := s) (d := 0) hN e2 (by omega) rfl (by omega)
    have f1' : f_X1_enterTurn (nI s) 0 m1 = some m2 := f1
    rw [f1', bd1_s]
    have I2 : IN A pr (fun x => s + 1 = x + 1) 0 m2 (up (fun _ => 0) s (0 + 1)) (upB (fun _ => false) s true) := by
      refine ⟨f2, fun x hx => ?_, fun x hx hw => ?_, fun x hx => ?_, fun x hx => ?_, fun x hx => ?_⟩
      · rw [up_at] at hx ⊢
        rw [upB_at]
        by_cases c : x = s
        · rw [if_pos c, if_pos c]
          exact ⟨by omega, by omega, fun _ => by omega, fun _ => by omega⟩
        · rw [if_neg c] at hx
          exact absurd rfl hx
      · rw [up_at] at hx
        rw [upB_at] at hw
        by_cases c : x = s
        · rw [if_pos c] at hw
          cases hw
        · rw [if_neg c] at hx
          exact absurd rfl hx
      · rw [up_at] at hx ⊢
        by_cases c : x = s
        · rw [if_pos c]
          exact ⟨0, by omega, rfl⟩
        · rw [if_neg c] at hx
          exact absurd rfl hx
      · rw [up_at, if_pos (by omega)]
      · rw [up_at] at hx ⊢
        by_cases c : x = s
        · rw [if_pos c]
          omega
        · rw [if_neg c] at hx
          exact absurd rfl hx
    obtain ⟨m3, fa3, u1, u2, u3⟩ := spread_sp (all := false) hF B (CX_fe (FE_fd f3) C1) I2 (fun x hx => by
      rw [up_at] at hx
      rw [upB_at]
      by_cases c : x = s
      · rw [if_pos c]
      · rw [if_neg c] at hx
        exact absurd rfl hx)
    have u1' : f_X1_spread F 0 m2 = some (nI (fa3 hm) - 1, m3) := u1
    refine ⟨m3, fa3, ?_, u2, FE_tr e3 (FE_tr (FE_fd f3) u3)⟩
    try dsimp only
    rw [u1', bd2_s]
