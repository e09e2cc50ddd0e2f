/-! STEPS of the model -/
noncomputable def cH (A : LT) (c t k : Nat) : Nat → Nat := ctP (fun h => !(mvc (A 6 1) c t h == c) && (u_wl A (mvc (A 6 1) c t h) && (mvc (A 6 1) c t h == k)))
noncomputable def mC (A : LT) (c k : Nat) : Nat := sm (fun t => cH A c t k (A 6 0)) (A 6 1)
theorem rL_eq {m : MM} {k i : Nat} {v : Int64} : rL (wL m k i v) k i = v := by rw [rL_w, if_pos ⟨rfl, rfl⟩]
theorem rL_ne {m : MM} {k i q j : Nat} {v : Int64} (h : q ≠ k) : rL (wL m k i v) q j = rL m q j := by rw [rL_w, if_neg (fun z => h z.1)]
theorem rL_nj {m : MM} {k i q j : Nat} {v : Int64} (h : j ≠ i) : rL (wL m k i v) q j = rL m q j := by rw [rL_w, if_neg (fun z => h z.2)]
theorem rI_1 {m m2 : MM} (h : m2.1 = m.1) (q i : Nat) : rI m2 q i = rI m q i := by
  unfold rI
  rw [h]
/-- ints as they were, the rows as they were, the next rows of these many -/
def WR (A : LT) (m : MM) (z : Nat → Nat) (m2 : MM) : Prop := m2.1 = m.1 ∧ (∀ j, rL m2 16 j = rL m 16 j) ∧ ∀ k, k < 5 ^ (A 6 1) → rL m2 17 k = lN (z k)
theorem step74 {F : Nat} {A : LT} {m m1 : MM} {c t v : Nat} {z : Nat → Nat} (hF : 50 ≤ F) (B : AB A) (L : LM m A) (G : ∀ c, c < 5 ^ (A 6 1) → rI m 11 c = nI (if u_wl A c = true then 1 else 0)) (hc : c < 5 ^ (A 6 1)) (ht : t < A 6 1) (hv : rL m 16 c = lN v) (W : WR A m z m1) (K : Int32 → MM → Option MM) : ∃ m2, WR A m (fun k => z k + v * cH A c t k (A 6 0)) m2 ∧ f_X6_steps_L74 (nI c) (nI t) K F 0 m1 = K (nI (A 6 0)) m2 := by
  have b1 := B.1
  have b2 := B.2.1
  have hP := p5_le b2
  exact loop_inv (fun n i mx => f_X6_steps_L74 (nI c) (nI t) K n i mx) (fun mx => K (nI (A 6 0)) mx) (A 6 0) (fun x mx => WR A m (fun k => z k + v * cH A c t k x) mx) (fun n mx hI => by
    have e9 : rI mx 0 9 = nI (A 6 0) := (rI_1 hI.1 0 9).trans L.1
    show f_X6_steps_L74 _ _ _ (n + 1) _ _ = _
    unfold f_X6_steps_L74
    rw [e9, if_pos (Int32.le_refl _)]) (fun x n mx hx hI => by
    obtain ⟨i1, i2, i3⟩ := hI
    have e9 : rI mx 0 9 = nI (A 6 0) := (rI_1 i1 0 9).trans L.1
    have hml := mvc_lt (T := A 6 1) (c := c) (t := t) (show x < 5 by omega)
    have gk := inB_n (by omega : mvc (A 6 1) c t x < 3125) (by decide : 3125 ≤ 2 ^ 31)
    have hxk : ix (nI (mvc (A 6 1) c t x)) = mvc (A 6 1) c t x := ix_n (by omega)
    have e11 : rI mx 11 (mvc (A 6 1) c t x) = nI (if u_wl A (mvc (A 6 1) c t x) = true then 1 else 0) := (rI_1 i1 11 _).trans (G _ hml)
    have e16 : rL mx 16 c = lN v := (i2 c).trans hv
    have up1 : ∀ k, cH A c t k (x + 1) = cH A c t k x + (if (!(mvc (A 6 1) c t x == c) && (u_wl A (mvc (A 6 1) c t x) && (mvc (A 6 1) c t x == k))) = true then 1 else 0) := fun k => rfl
    have unf : f_X6_steps_L74 (nI c) (nI t) K (n + 1) (nI x) mx = if mvc (A 6 1) c t x = c then f_X6_steps_L74 (nI c) (nI t) K n (nI (x + 1)) mx else if u_wl A (mvc (A 6 1) c t x) = true then f_X6_steps_L74 (nI c) (nI t) K n (nI (x + 1)) (wL mx 17 (mvc (A 6 1) c t x) (lN (z (mvc (A 6 1) c t x) + v * cH A c t (mvc (A 6 1) c t x) x) + lN v)) else f_X6_steps_L74 (nI c) (nI t) K n (nI (x + 1)) mx := by
      conv => lhs; unfold f_X6_steps_L74
      rw [e9, if_neg (by rw [n_le (by omega) (by omega)]; omega), after_sp b2 hc ht (by omega), bd1_s]
      by_cases c1 : mvc (A 6 1) c t x = c
      · rw [if_pos (by rw [c1]), if_pos c1, Lt_d, n_s]
      · rw [if_neg (by rw [n_eq (by omega) (by omega)]; exact c1), if_neg c1, Gu_of gk, hxk, e11]
        by_cases c2 : u_wl A (mvc (A 6 1) c t x) = true
        · rw [if_pos c2, if_pos (show nI 1 = (1 : Int32) from rfl), if_pos c2, Gu_of gk, Gu_of (inB_n (by omega : c < 3125) (by decide)), Gu_of gk, ix_n (by omega), e16, i3 _ hml, Lt_d, Lt_d, n_s]
        · rw [if_neg c2, if_neg (show ¬ nI 0 = (1 : Int32) by decide), if_neg c2, Lt_d, n_s]
    by_cases c1 : mvc (A 6 1) c t x = c
    · refine ⟨mx, ⟨i1, i2, fun k hk => ?_⟩, by
        show f_X6_steps_L74 _ _ _ (n + 1) _ _ = _
        rw [unf, if_pos c1]⟩
      show _ = lN (z k + v * cH A c t k (x + 1))
      rw [up1, if_neg (by rw [c1]; simp), Nat.add_zero]
      exact i3 k hk
    · by_cases c2 : u_wl A (mvc (A 6 1) c t x) = true
      · refine ⟨wL mx 17 (mvc (A 6 1) c t x) (lN (z (mvc (A 6 1) c t x) + v * cH A c t (mvc (A 6 1) c t x) x) + lN v), ⟨i1, fun j => (rL_ne (by decide)).trans (i2 j), fun k hk => ?_⟩, by
          show f_X6_steps_L74 _ _ _ (n + 1) _ _ = _
          rw [unf, if_neg c1, if_pos c2]⟩
        show _ = lN (z k + v * cH A c t k (x + 1))
        rw [up1, rL_w]
        by_cases ck : k = mvc (A 6 1) c t x
        · rw [if_pos ⟨rfl, ck⟩, ck, if_pos (by simp [c1, c2]), zl_add, Nat.mul_add, Nat.mul_one, Nat.add_assoc]
        · rw [if_neg (fun y => ck y.2), if_neg (by
            have : ¬ mvc (A 6 1) c t x = k := fun y => ck y.symm
            simp [this]), Nat.add_zero]
          exact i3 k hk
      · refine ⟨mx, ⟨i1, i2, fun k hk => ?_⟩, by
          show f_X6_steps_L74 _ _ _ (n + 1) _ _ = _
          rw [unf, if_neg c1, if_neg c2]⟩
        show _ = lN (z k + v * cH A c t k (x + 1))
        rw [up1, if_neg (by simp [c2]), Nat.add_zero]
        exact i3 k hk) F m1 (by omega) ⟨W.1, W.2.1, fun k hk => by
    rw [W.2.2 k hk]
    rfl⟩
theorem step52 {F : Nat} {A : LT} {m m1 : MM} {c v : Nat} {z : Nat → Nat} (hF : 50 ≤ F) (B : AB A) (L : LM m A) (G : ∀ c, c < 5 ^ (A 6 1) → rI m 11 c = nI (if u_wl A c = true then 1 else 0)) (hc : c < 5 ^ (A 6 1)) (hv : rL m 16 c = lN v) (hv2 : v < 2 ^ 63) (W : WR A m z m1) (K : MM → Option MM) : ∃ m2, WR A m (fun k => z k + v * mC A c k) m2 ∧ f_X6_steps_L52 F (nI c) (fun _ mx => K mx) F 0 m1 = K m2 := by
  have b1 := B.1
  have b2 := B.2.1
  have hP := p5_le b2
  have gc := inB_n (by omega : c < 3125) (by decide : 3125 ≤ 2 ^ 31)
  have hxc : ix (nI c) = c := ix_n (by omega)
  have e16 : ∀ {mx : MM} {z : Nat → Nat}, WR A m z mx → rL mx 16 c = lN v := fun h => (h.2.1 c).trans hv
  by_cases c0 : v = 0
  · refine ⟨m1, ⟨W.1, W.2.1, fun k hk => by
      show _ = lN (z k + v * mC A c k)
      rw [c0, Nat.zero_mul, Nat.add_zero]
      exact W.2.2 k hk⟩, ?_⟩
    obtain ⟨F', rfl⟩ : ∃ y, F = y + 1 := ⟨F - 1, by omega⟩
    have e14 : rI m1 0 14 = nI (A 6 1) := (rI_1 W.1 0 14).trans L.2.1
    conv => lhs; unfold f_X6_steps_L52
    rw [e14]
    by_cases cT : nI (A 6 1) ≤ 0
    · rw [if_pos cT]
    · rw [if_neg cT, Gu_of gc, hxc, e16 W, if_pos ((lN_pos hv2).mpr c0)]
  · exact loop_inv (fun n i mx => f_X6_steps_L52 F (nI c) (fun _ mx => K mx) n i mx) (fun mx => K mx) (A 6 1) (fun t mx => WR A m (fun k => z k + v * sm (fun t => cH A c t k (A 6 0)) t) mx) (fun n mx hI => by
      have e14 : rI mx 0 14 = nI (A 6 1) := (rI_1 hI.1 0 14).trans L.2.1
      show f_X6_steps_L52 _ _ _ (n + 1) _ _ = _
      unfold f_X6_steps_L52
      rw [e14, if_pos (Int32.le_refl _)]) (fun t n mx ht hI => by
      have e14 : rI mx 0 14 = nI (A 6 1) := (rI_1 hI.1 0 14).trans L.2.1
      obtain ⟨m2, k1, k2⟩ := step74 (F := F) (t := t) hF B L G hc ht hv hI (fun x4_14 m15 => Lt (nI t + (1 : Int32)) fun x3_23 => f_X6_steps_L52 F (nI c) (fun _ mx => K mx) n x3_23 m15)
      refine ⟨m2, ⟨k1.1, k1.2.1, fun k hk => ?_⟩, ?_⟩
      · rw [k1.2.2 k hk]
        show _ = lN (z k + v * sm (fun t => cH A c t k (A 6 0)) (t + 1))
        rw [sm_s, Nat.mul_add, ← Nat.add_assoc]
      · show f_X6_steps_L52 _ _ _ (n + 1) _ _ = _
        conv => lhs; unfold f_X6_steps_L52
        rw [e14, if_neg (n_head (n := 0) b2 ht), Gu_of gc, hxc, e16 hI, if_neg (fun y => c0 ((lN_pos hv2).mp y))]
        refine Eq.trans k2 ?_
        show (Lt (nI t + (1 : Int32)) fun x3_23 => f_X6_steps_L52 F (nI c) (fun _ mx => K mx) n x3_23 m2) = _
        rw [Lt_d, n_s]) F m1 (by omega) ⟨W.1, W.2.1, fun k hk => by rw [W.2.2 k hk]; rfl⟩
theorem steps_sp {F : Nat} {A : LT} {m : MM} {r : Nat → Nat} (hF : 4000 ≤ F) (B : AB A) (L : LM m A) (G : ∀ c, c < 5 ^ (A 6 1) → rI m 11 c = nI (if u_wl A c = true then 1 else 0)) (hr : ∀ c, c < 5 ^ (A 6 1) → rL m 16 c = lN (r c) ∧ r c < 2 ^ 63) : ∃ m', f_X6_steps F m = some m' ∧ m'.1 = m.1 ∧ ∀ k, k < 5 ^ (A 6 1) → rL m' 16 k = lN (sm (fun c => r c * mC A c k) (5 ^ (A 6 1))) := by
  have b1 := B.1
  have b2 := B.2.1
  have hP := p5_le b2
  obtain ⟨m1, i1, i2⟩ := loop_inv (fun n i mx => f_X6_steps_L25 (nI (5 ^ (A 6 1))) (fun x2_3 m4 => f_X6_steps_L45 F (nI (5 ^ (A 6 1))) (fun x2_8 m9 => f_X6_steps_L146 (nI (5 ^ (A 6 1))) (fun x2_25 m26 => some m26) F (0 : Int32) m9) F (0 : Int32) m4) n i mx) (fun m4 => f_X6_steps_L45 F (nI (5 ^ (A 6 1))) (fun x2_8 m9 => f_X6_steps_L146 (nI (5 ^ (A 6 1))) (fun x2_25 m26 => some m26) F (0 : Int32) m9) F (0 : Int32) m4) (5 ^ (A 6 1)) (fun x mx => mx.1 = m.1 ∧ (∀ j, rL mx 16 j = rL m 16 j) ∧ ∀ k, k < x → rL mx 17 k = lN 0) (fun n mx hI => by
    show f_X6_steps_L25 _ _ (n + 1) _ _ = _
    unfold f_X6_steps_L25
    rw [if_pos (Int32.le_refl _)]) (fun x n mx hx hI => by
    refine ⟨wL mx 17 x 0, ⟨hI.1, fun j => (rL_ne (by decide)).trans (hI.2.1 j), fun k hk => ?_⟩, ?_⟩
    · rw [rL_w]
      by_cases c : k = x
      · rw [if_pos ⟨rfl, c⟩]
        rfl
      · rw [if_neg (fun y => c y.2)]
        exact hI.2.2 k (by omega)
    · show f_X6_steps_L25 _ _ (n + 1) _ _ = _
      conv => lhs; unfold f_X6_steps_L25
      rw [if_neg (by rw [n_le (by omega) (by omega)]; omega), Gu_of (inB_n (by omega : x < 3125) (by decide)), ix_n (by omega), Lt_d, Lt_d, n_s]) F m (by omega) ⟨rfl, fun j => rfl, fun k hk => absurd hk (Nat.not_lt_zero k)⟩
  obtain ⟨m2, j1, j2⟩ := loop_inv (fun n i mx => f_X6_steps_L45 F (nI (5 ^ (A 6 1))) (fun x2_8 m9 => f_X6_steps_L146 (nI (5 ^ (A 6 1))) (fun x2_25 m26 => some m26) F (0 : Int32) m9) n i mx) (fun m9 => f_X6_steps_L146 (nI (5 ^ (A 6 1))) (fun x2_25 m26 => some m26) F (0 : Int32) m9) (5 ^ (A 6 1)) (fun x mx => WR A m (fun k => sm (fun c => r c * mC A c k) x) mx) (fun n mx hI => by
    show f_X6_steps_L45 _ _ _ (n + 1) _ _ = _
    unfold f_X6_steps_L45
    rw [if_pos (Int32.le_refl _)]) (fun x n mx hx hI => by
    obtain ⟨m3, k1, k2⟩ := step52 (F := F) (by omega) B L G hx (hr x hx).1 (hr x hx).2 hI (fun m12 => Lt (nI x + (1 : Int32)) fun x2_24 => f_X6_steps_L45 F (nI (5 ^ (A 6 1))) (fun x2_8 m9 => f_X6_steps_L146 (nI (5 ^ (A 6 1))) (fun x2_25 m26 => some m26) F (0 : Int32) m9) n x2_24 m12)
    refine ⟨m3, k1, ?_⟩
    show f_X6_steps_L45 _ _ _ (n + 1) _ _ = _
    conv => lhs; unfold f_X6_steps_L45
    rw [if_neg (by rw [n_le (by omega) (by omega)]; omega)]
    refine Eq.trans k2 ?_
    rw [Lt_d, n_s]) F m1 (by omega) ⟨i1.1, i1.2.1, fun k hk => i1.2.2 k hk⟩
  obtain ⟨m3, k1, k2⟩ := loop_inv (fun n i mx => f_X6_steps_L146 (nI (5 ^ (A 6 1))) (fun x2_25 m26 => some m26) n i mx) (fun mx => some mx) (5 ^ (A 6 1)) (fun x mx => mx.1 = m.1 ∧ (∀ j, rL mx 17 j = rL m2 17 j) ∧ ∀ k, k < x → rL mx 16 k = rL m2 17 k) (fun n mx hI => by
    show f_X6_steps_L146 _ _ (n + 1) _ _ = _
    unfold f_X6_steps_L146
    rw [if_pos (Int32.le_refl _)]) (fun x n mx hx hI => by
    have gx := inB_n (by omega : x < 3125) (by decide : 3125 ≤ 2 ^ 31)
    refine ⟨wL mx 16 x (rL mx 17 x), ⟨hI.1, fun j => (rL_ne (by decide)).trans (hI.2.1 j), fun k hk => ?_⟩, ?_⟩
    · rw [rL_w]
      by_cases c : k = x
      · rw [if_pos ⟨rfl, c⟩, c]
        exact hI.2.1 x
      · rw [if_neg (fun y => c y.2)]
        exact hI.2.2 k (by omega)
    · show f_X6_steps_L146 _ _ (n + 1) _ _ = _
      conv => lhs; unfold f_X6_steps_L146
      rw [if_neg (by rw [n_le (by omega) (by omega)]; omega), Gu_of gx, Gu_of gx, ix_n (by omega), Lt_d, Lt_d, n_s]) F m2 (by omega) ⟨j1.1, fun j => rfl, fun k hk => absurd hk (Nat.not_lt_zero k)⟩
  refine ⟨m3, ?_, k1.1, fun k hk => (k1.2.2 k hk).trans (j1.2.2 k hk)⟩
  unfold f_X6_steps
  rw [Jp_d, L.2.1]
  exact (alln (A := A) (m := m) b2 (fun s1 => f_X6_steps_L25 s1 (fun x2_3 m4 => f_X6_steps_L45 F s1 (fun x2_8 m9 => f_X6_steps_L146 s1 (fun x2_25 m26 => some m26) F (0 : Int32) m9) F (0 : Int32) m4) F (0 : Int32) m)).trans (i2.trans (j2.trans k2))
/-- the sums over the model's states and over those of the search -/
theorem sm_filter {z : Nat → Nat} {q : Nat → Bool} : ∀ {n : Nat}, (∀ i, i < n → q i ≠ true → z i = 0) → sm z n = smP q z n
  | 0, _ => rfl
  | n + 1, h => by
    rw [sm_s, smP_s, sm_filter (fun i hi => h i (by omega))]
    by_cases c : q n = true
    · rw [if_pos c]
    · rw [if_neg c, h n (by omega) c]
theorem ps_inj {A : LT} {a b : Nat} (B : AB A) (h0 : A 6 5 = 0) (ha : a < (A 6 0) ^ (A 6 1)) (hb : b < (A 6 0) ^ (A 6 1)) (h : ps A a = ps A b) : a = b := dg_ext ha hb (fun i hi => by
  have e1 := ps_dg (s := a) B hi
  have e2 := ps_dg (s := b) B hi
  rw [if_neg (by omega)] at e1 e2
  rw [← e1, ← e2, h])
theorem mvp_self {A : LT} {s t h : Nat} (hs : s < (A 6 0) ^ (A 6 1)) (ht : t < A 6 1) (hh : h < A 6 0) : mvp A s t h = s ↔ h = dg (A 6 0) s t := by
  constructor
  · intro e
    have q := mvp_dg (s := s) (t := t) hh ht
    rw [e, if_pos rfl] at q
    exact q.symm
  · intro e
    refine dg_ext (mvp_lt hh) hs (fun i hi => ?_)
    rw [mvp_dg hh hi]
    by_cases c : i = t
    · rw [if_pos c, c, e]
    · rw [if_neg c]
theorem mC_ps {A : LT} {s p : Nat} (B : AB A) (h0 : A 6 5 = 0) (hs : s < (A 6 0) ^ (A 6 1)) (hp : p < (A 6 0) ^ (A 6 1)) : mC A (ps A s) (ps A p) = mM A s p := by
  have hA : ∀ n, n ≤ A 6 1 → sm (fun t => cH A (ps A s) t (ps A p) (A 6 0)) n = ctP (aj A s p) n := by
    intro n
    induction n with
    | zero => intro _; rfl
    | succ n ih =>
      intro hn
      have hH : 0 < A 6 0 := by
        by_cases c : A 6 0 = 0
        · rw [c, Nat.zero_pow (by omega)] at hs
          omega
        · omega
      rw [sm_s, ctP_s, ih (by omega)]
      congr 1
      have hd := dg_lt (b := A 6 0) (c := p) (t := n) hH
      have key : ∀ h, h < A 6 0 → (!(mvc (A 6 1) (ps A s) n h == ps A s) && (u_wl A (mvc (A 6 1) (ps A s) n h) && (mvc (A 6 1) (ps A s) n h == ps A p))) = ((!(h == dg (A 6 0) s n) && u_val A (mvp A s n h)) && (mvp A s n h == p)) := by
        intro h hh
        have hm := ps_mv (s := s) B h0 (show n < A 6 1 by omega) hh
        have q1 : mvc (A 6 1) (ps A s) n h = ps A s ↔ h = dg (A 6 0) s n := by
          rw [hm]
          exact ⟨fun e => (mvp_self hs (by omega) hh).mp (ps_inj B h0 (mvp_lt hh) hs e), fun e => by rw [(mvp_self hs (by omega) hh).mpr e]⟩
        have q2 : u_wl A (mvc (A 6 1) (ps A s) n h) = true ↔ u_val A (mvp A s n h) = true := by
          rw [hm]
          exact wl_ps B h0
        have q3 : mvc (A 6 1) (ps A s) n h = ps A p ↔ mvp A s n h = p := by
          rw [hm]
          exact ⟨fun e => ps_inj B h0 (mvp_lt hh) hp e, fun e => by rw [e]⟩
        rw [Bool.eq_iff_iff]
        simp only [Bool.and_eq_true, Bool.not_eq_true', beq_eq_false_iff_ne, beq_iff_eq, ne_eq, q1, q2, q3, and_assoc]
      show ctP _ (A 6 0) = _
      rw [ctP_cong key, ctP_one hd (fun h hh hq => by
        simp only [Bool.and_eq_true, beq_iff_eq] at hq
        have q := mvp_dg (s := s) (t := n) hh (show n < A 6 1 by omega)
        rw [hq.2, if_pos rfl] at q
        exact q.symm)]
      have e : ((!(dg (A 6 0) p n == dg (A 6 0) s n) && u_val A (mvp A s n (dg (A 6 0) p n))) && (mvp A s n (dg (A 6 0) p n) == p)) = true ↔ aj A s p n = true := by
        rw [aj_t]
        simp only [Bool.and_eq_true, Bool.not_eq_true', beq_eq_false_iff_ne, beq_iff_eq]
        constructor
        · rintro ⟨⟨h1, h2⟩, h3⟩
          rw [h3] at h2
          exact ⟨h2, h1, h3⟩
        · rintro ⟨h1, h2, h3⟩
          exact ⟨⟨h2, by rw [h3]; exact h1⟩, h3⟩
      by_cases c : aj A s p n = true
      · rw [if_pos (e.mpr c), if_pos c]
      · rw [if_neg (fun z => c (e.mp z)), if_neg c]
  exact hA _ (Nat.le_refl _)
theorem mC_0 {A : LT} {c k : Nat} (h : u_wl A k ≠ true) : mC A c k = 0 := by
  have e : ∀ t, cH A c t k (A 6 0) = 0 := fun t => ct_0.mpr (fun h2 _ => by
    by_cases c2 : mvc (A 6 1) c t h2 = k
    · rw [c2]
      have : u_wl A k = false := by simpa using h
      simp [this]
    · simp [c2])
  unfold mC
  rw [sm_cong (w := fun _ => 0) (fun t _ => e t), sm_zero]
/-- how many rows of n moves lead to a code -/
noncomputable def wC (A : LT) (n c : Nat) : Nat := if u_wl A c = true then WW A (u_hm A) n (ph A c) else 0
theorem wC_s {A : LT} {n k : Nat} (V : AV A) (hk : k < 5 ^ (A 6 1)) : sm (fun c => wC A n c * mC A c k) (5 ^ (A 6 1)) = wC A (n + 1) k := by
  have B := V.1
  have h0 := V.2.2.2.1
  have hmo := hm_ok0 V
  by_cases vk : u_wl A k = true
  · have hkp := ps_ph B h0 vk hk
    have hkN := ph_N (wl_t.mp vk)
    have e : wC A (n + 1) k = sm (fun s => WW A (u_hm A) n s * mM A s (ph A k)) ((A 6 0) ^ (A 6 1)) := if_pos vk
    rw [e]
    rw [sm_filter (q := u_wl A) (fun c _ hc => by
      show wC A n c * _ = 0
      unfold wC
      rw [if_neg hc, Nat.zero_mul]), sm_filter (z := fun s => WW A (u_hm A) n s * mM A s (ph A k)) (q := u_val A) (fun s _ hs => by
      show WW A (u_hm A) n s * _ = 0
      rw [WW_val hmo.1 n s hs, Nat.zero_mul])]
    refine Nat.le_antisymm (sum_inj (g := ph A) _ _ (fun c hc hw => ?_) (fun i j hi hj h1 h2 he => ?_)) (sum_inj (g := ps A) _ _ (fun s hs hv => ?_) (fun i j hi hj h1 h2 he => ps_inj B h0 hi hj he))
    · refine ⟨ph_N (wl_t.mp hw), ph_val B (wl_t.mp hw), ?_⟩
      show wC A n c * mC A c k = _
      unfold wC
      rw [if_pos hw]
      have q := mC_ps (s := ph A c) (p := ph A k) B h0 (ph_N (wl_t.mp hw)) hkN
      rw [ps_ph B h0 hw hc, hkp] at q
      rw [q]
    · rw [← ps_ph B h0 h1 hi, ← ps_ph B h0 h2 hj, he]
    · refine ⟨ps_N B, ps_wl B hv, ?_⟩
      show _ = wC A n (ps A s) * mC A (ps A s) k
      unfold wC
      rw [if_pos (ps_wl B hv), ph_ps B hv hs]
      have q := mC_ps (s := s) (p := ph A k) B h0 hs hkN
      rw [hkp] at q
      rw [q]
  · have e : wC A (n + 1) k = 0 := if_neg vk
    rw [e, sm_cong (w := fun _ => 0) (fun c _ => by rw [mC_0 vk, Nat.mul_zero]), sm_zero]
theorem wC_le {A : LT} {n c : Nat} (V : AV A) : wC A n c ≤ 25 ^ n := by
  unfold wC
  by_cases h : u_wl A c = true
  · rw [if_pos h]
    exact WW_le V.1.1 V.1.2.1 (hm_ok0 V).1 n _ (ph_N (wl_t.mp h))
  · rw [if_neg h]
    exact Nat.zero_le _
theorem wC_0 {A : LT} {c : Nat} (V : AV A) (hc : c < 5 ^ (A 6 1)) : wC A 0 c = if c = ps A (u_hm A) then 1 else 0 := by
  have hmo := hm_ok0 V
  unfold wC
  by_cases c1 : c = ps A (u_hm A)
  · rw [if_pos c1, c1, if_pos (ps_wl V.1 hmo.1), ph_ps V.1 hmo.1 hmo.2]
    exact if_pos rfl
  · rw [if_neg c1]
    by_cases h : u_wl A c = true
    · rw [if_pos h]
      exact if_neg (fun e => c1 (by rw [← e, ps_ph V.1 V.2.2.2.1 h hc]))
    · rw [if_neg h]
/-- the rows of n moves stand in the model -/
def RW (A : LT) (m : MM) (n : Nat) : Prop := LM m A ∧ (∀ c, c < 5 ^ (A 6 1) → rI m 11 c = nI (if u_wl A c = true then 1 else 0)) ∧ ∀ c, c < 5 ^ (A 6 1) → rL m 16 c = lN (wC A n c)
theorem begins_sp {F : Nat} {P : Nat → (Nat → Int32) → Int32} {A : LT} {m : MM} (hF : 1000000000000 ≤ F) (p0 : P0 P) (pm : PM F P m (A 6 4)) (L : LM m A) (V : AV A) : ∃ m', f_X6_begins F m = some m' ∧ RW A m' 0 ∧ FY m m' := by
  have b2 := V.1.2.1
  have hP := p5_le b2
  have hnow := ps_N (s := u_hm A) V.1
  obtain ⟨m1, f, g, g1, g2, g3, g4⟩ := gath_sp hF p0 pm L V.1 V.2.1 (Or.inl V.2.2.2.1)
  unfold f_X6_begins
  rw [g1, bd1_s]
  obtain ⟨m2, i1, i2⟩ := loop_inv (fun n i mx => f_X6_begins_L6 (fun x1_3 m4 => bd1 (f_X6_codeNow F m4) fun r8 => Gu (inB r8 3125) <| Lt (wL m4 16 (ix r8) (1 : Int64)) fun m10 => some m10) n i mx) (fun m4 => bd1 (f_X6_codeNow F m4) fun r8 => Gu (inB r8 3125) <| Lt (wL m4 16 (ix r8) (1 : Int64)) fun m10 => some m10) 3125 (fun x mx => mx.1 = m1.1 ∧ ∀ k, k < x → rL mx 16 k = lN 0) (fun n mx hI => by
    show f_X6_begins_L6 _ (n + 1) _ _ = _
    unfold f_X6_begins_L6
    rw [if_pos (by decide)]) (fun x n mx hx hI => by
    refine ⟨wL mx 16 x 0, ⟨hI.1, fun k hk => ?_⟩, ?_⟩
    · rw [rL_w]
      by_cases c : k = x
      · rw [if_pos ⟨rfl, c⟩]
        rfl
      · rw [if_neg (fun y => c y.2)]
        exact hI.2 k (by omega)
    · show f_X6_begins_L6 _ (n + 1) _ _ = _
      conv => lhs; unfold f_X6_begins_L6
      rw [if_neg (by rw [show (3125 : Int32) = nI 3125 from rfl, n_le (by omega) (by omega)]; omega), Gu_of (inB_n hx (by decide)), ix_n (by omega), Lt_d, Lt_d, n_s]) F m1 (by omega) ⟨rfl, fun k hk => absurd hk (Nat.not_lt_zero k)⟩
  have L2 : LM m2 A := LM_fr (fun q _ _ => by rw [i1.1]) (fun i _ => rI_1 i1.1 0 i) g4
  refine ⟨wL m2 16 (ps A (u_hm A)) 1, ?_, ⟨?_, fun c hc => ?_, fun c hc => ?_⟩, ?_⟩
  · refine Eq.trans i2 ?_
    rw [now_sp (by omega) V.1 L2, bd1_s, Gu_of (inB_n (by omega : ps A (u_hm A) < 3125) (by decide)), ix_n (by omega), Lt_d]
  · exact LM_fr (m := m2) (fun q _ _ => rfl) (fun i _ => rfl) L2
  · exact (rI_1 i1.1 11 c).trans (g2.1.1 c hc)
  · rw [wC_0 V hc, rL_w]
    by_cases c1 : c = ps A (u_hm A)
    · rw [if_pos ⟨rfl, c1⟩, if_pos c1]
      rfl
    · rw [if_neg (fun y => c1 y.2), if_neg c1]
      exact i1.2 c (by omega)
  · exact ⟨fun q h1 h2 => (show m2.1 q = m.1 q by rw [i1.1]; exact g3.1 q h1 h2), fun i hi => (rI_1 i1.1 0 i).trans (g3.2 i hi)⟩
theorem rw_sp {F : Nat} {A : LT} {m : MM} {n : Nat} (hF : 4000 ≤ F) (V : AV A) (hn : n < 12) (R : RW A m n) : ∃ m', f_X6_steps F m = some m' ∧ RW A m' (n + 1) ∧ m'.1 = m.1 := by
  have p : 25 ^ n ≤ 25 ^ 12 := Nat.pow_le_pow_right (by decide) (by omega)
  obtain ⟨m', e1, e2, e3⟩ := steps_sp hF V.1 R.1 R.2.1 (fun c hc => ⟨R.2.2 c hc, by
    have := wC_le (n := n) (c := c) V
    omega⟩)
  exact ⟨m', e1, ⟨LM_fr (fun q _ _ => by rw [e2]) (fun i _ => rI_1 e2 0 i) R.1, fun c hc => (rI_1 e2 11 c).trans (R.2.1 c hc), fun c hc => by rw [e3 c hc, wC_s V hc]⟩, e2⟩
