/-! SHEET, CELL, COPY -/
theorem n_mul (a b : Nat) : nI a * nI b = nI (a * b) := Int32.toBitVec_inj.mp (by
    apply BitVec.eq_of_toNat_eq
    show ((BitVec.ofNat 32 a) * (BitVec.ofNat 32 b)).toNat = (BitVec.ofNat 32 (a * b)).toNat
    rw [BitVec.toNat_mul, BitVec.toNat_ofNat, BitVec.toNat_ofNat, BitVec.toNat_ofNat, ← Nat.mul_mod])
theorem RelX_sh {X : MM → MM → Nat → Prop} (hX : XF X) {mc mm mc2 mm2 : MM} (h : ∀ q, ¬ (64 ≤ q ∧ q < 72) → mc2.1 q = mc.1 q) (g : ∀ q, ¬ (19 ≤ q ∧ q ≤ 22) → mm2.1 q = mm.1 q) (R : RelX X mc mm) (S : RS mc2 mm2) : RelX X mc2 mm2 := by
  obtain ⟨A, n, r1, r2, r3, r4, r5, r6, r7, r8⟩ := R
  exact ⟨A, n, LC_fr (fun q h1 h2 => h q (by omega)) r1, LM_fr (fun q h1 h2 => g q (by omega)) (fun i hi => r_row (g 0 (by omega)) i) r2, r3, r4, RK_fr (r_row (h 0 (by omega)) 9) (fun q h1 h2 => h q (by omega)) (g 18 (by omega)) (fun i hi => r_row (g 0 (by omega)) i) r5, RT_fr (r_row (h 36 (by omega)) 1) (h 37 (by omega)) (r_row (g 0 (by omega)) 6) (g 3 (by omega)) r6, RX_fr hX (r_row (h 0 (by omega)) 8) (r_row (g 0 (by omega)) 3) (fun q h1 h2 h3 => h q (by omega)) (g 1 (by omega)) (g 2 (by omega)) r7, S⟩
theorem shM {m : MM} {s : Nat} (h : s < 4) : f_X6_isSheet (nI s) m = some 1 := by
  unfold f_X6_isSheet
  rw [in_t h (by omega) rfl, bd1_s, Gu_of bz1]
theorem shM0 {m : MM} {a : Int32} (h : ¬ (0 ≤ a.toInt ∧ a.toInt < (4 : Nat))) : f_X6_isSheet a m = some 0 := by
  unfold f_X6_isSheet
  rw [in_f h rfl, bd1_s, Gu_of bz0]
theorem becS {k F : Nat} {a b : Int32} (hF : 41 ≤ F) (m : MM) : ∃ m2, f_X2_become F k a b m = some m2 ∧ (∀ q, q ≠ k → q ≠ k + 1 → m2.1 q = m.1 q) ∧ (∀ i, rI m2 k i = if i = 2 then b else if i = 1 then a else rI m k i) ∧ (∀ i, rI m2 (k + 1) i = if i < 40 then 0 else rI m (k + 1) i) := by
  have key : ∀ d i n m1, i + d = 40 → d < n → (∀ j, rI m1 (k + 1) j = if j < i then 0 else rI m (k + 1) j) → ∃ m2, f_X2_become_L12 k (fun x3_3 m4 => some m4) n (nI i) m1 = some m2 ∧ (∀ q, q ≠ k + 1 → m2.1 q = m1.1 q) ∧ (∀ j, rI m2 (k + 1) j = if j < 40 then 0 else rI m (k + 1) j) := by
    intro d
    induction d with
    | zero =>
      intro i n m1 hi hn hm
      obtain ⟨n, rfl⟩ : ∃ k, n = k + 1 := ⟨n - 1, by omega⟩
      have : i = 40 := by omega
      subst this
      unfold f_X2_become_L12
      rw [if_pos (show (40 : Int32) ≤ nI 40 by decide)]
      exact ⟨m1, rfl, fun q hq => rfl, hm⟩
    | succ d ih =>
      intro i n m1 hi hn hm
      obtain ⟨n, rfl⟩ : ∃ k, n = k + 1 := ⟨n - 1, by omega⟩
      unfold f_X2_become_L12
      have hx : ix (nI i) = i := ix_n (by omega)
      rw [if_neg (show ¬ (40 : Int32) ≤ nI i by rw [show (40 : Int32) = nI 40 from rfl, n_le (by omega) (by omega)]; omega), Gu_of (inB_n (by omega : i < 40) (by decide))]
      simp only [Lt_d]
      rw [hx, n_s]
      obtain ⟨m2, e1, e2, e3⟩ := ih (i + 1) n (wI m1 (k + 1) i 0) (by omega) (by omega) (fun j => by
        rw [rI_w, hm]
        by_cases c : j = i
        · rw [if_pos ⟨rfl, c⟩, if_pos (by omega)]
        · rw [if_neg (fun z => c z.2)]
          by_cases c2 : j < i
          · rw [if_pos c2, if_pos (by omega)]
          · rw [if_neg c2, if_neg (by omega)])
      exact ⟨m2, e1, fun q hq => (e2 q hq).trans (row_ne hq), e3⟩
  unfold f_X2_become
  simp only [Lt_d]
  obtain ⟨m2, e1, e2, e3⟩ := key 40 0 F (wI (wI m k 1 a) k 2 b) (by omega) (by omega) (fun j => by
    rw [if_neg (by omega), rI_ne (by omega), rI_ne (by omega)])
  refine ⟨m2, e1, fun q h1 h2 => (e2 q h2).trans ((row_ne h1).trans (row_ne h1)), fun i => ?_, fun i => ?_⟩
  · rw [show rI m2 k i = rI (wI (wI m k 1 a) k 2 b) k i from r_row (e2 k (by omega)) i, rI_w, rI_w]
    by_cases c : i = 2 <;> by_cases c2 : i = 1 <;> simp [c, c2]
  · rw [e3]
theorem sheet77 {s n F : Nat} {a1 : Int32} (hs : s < 4) (hn : n ≤ 40) (hF : 41 ≤ F) (h1 : ¬ a1 < 0) (m : MM) : ∃ m2, f_X6_sheet_L77 (nI s) a1 (nI n) (fun x4_12 m13 => some ((1 : Int32), m13)) F 0 m = some (1, m2) ∧ (∀ q, q ≠ 22 → m2.1 q = m.1 q) ∧ (∀ j, rI m2 22 j = if 40 * s ≤ j ∧ j < 40 * s + n then 0 else rI m 22 j) := by
  have key : ∀ d i f m1, i + d = n → d < f → (∀ j, rI m1 22 j = if 40 * s ≤ j ∧ j < 40 * s + i then 0 else rI m 22 j) → ∃ m2, f_X6_sheet_L77 (nI s) a1 (nI n) (fun x4_12 m13 => some ((1 : Int32), m13)) f (nI i) m1 = some (1, m2) ∧ (∀ q, q ≠ 22 → m2.1 q = m1.1 q) ∧ (∀ j, rI m2 22 j = if 40 * s ≤ j ∧ j < 40 * s + n then 0 else rI m 22 j) := by
    intro d
    induction d with
    | zero =>
      intro i f m1 hi hn hm
      obtain ⟨f, rfl⟩ : ∃ k, f = k + 1 := ⟨f - 1, by omega⟩
      have : i = n := by omega
      subst this
      unfold f_X6_sheet_L77
      rw [if_pos (Int32.le_refl _)]
      exact ⟨m1, rfl, fun q hq => rfl, hm⟩
    | succ d ih =>
      intro i f m1 hi hf hm
      obtain ⟨f, rfl⟩ : ∃ k, f = k + 1 := ⟨f - 1, by omega⟩
      unfold f_X6_sheet_L77
      have e40 : (40 : Int32) * nI s + nI i = nI (40 * s + i) := by
        rw [show (40 : Int32) = nI 40 from rfl, n_mul, nI_add]
      have hx : ix (nI (40 * s + i)) = 40 * s + i := ix_n (by omega)
      rw [if_neg (show ¬ nI n ≤ nI i by rw [n_le (by omega) (by omega)]; omega), if_neg h1, e40, Gu_of (inB_n (by omega : 40 * s + i < 160) (by decide))]
      simp only [Lt_d]
      rw [hx, n_s]
      obtain ⟨m2, e1, e2, e3⟩ := ih (i + 1) f (wI m1 22 (40 * s + i) 0) (by omega) (by omega) (fun j => by
        rw [rI_w, hm]
        by_cases c : j = 40 * s + i
        · rw [if_pos ⟨rfl, c⟩, if_pos (by omega)]
        · rw [if_neg (fun z => c z.2)]
          by_cases c2 : 40 * s ≤ j ∧ j < 40 * s + i
          · rw [if_pos c2, if_pos (by omega)]
          · rw [if_neg c2, if_neg (by omega)])
      exact ⟨m2, e1, fun q hq => (e2 q hq).trans (row_ne hq), e3⟩
  exact key n 0 F m (by omega) (by omega) (fun j => by rw [if_neg (by omega)])
theorem t_sheet {X : MM → MM → Nat → Prop} (hX : XF X) {F : Nat} (hF : 41 ≤ F) (mc mm : MM) (a0 a1 a2 : Int32) (R : RelX X mc mm) : ∃ r mc2 mm2, f_X5_sheet F a0 a1 a2 mc = some (r, mc2) ∧ f_X6_sheet F a0 a1 a2 mm = some (r, mm2) ∧ RelX X mc2 mm2 := by
  have r8 : RS mc mm := by
    obtain ⟨A, n, r1, r2, r3, r4, r5, r6, r7, r8⟩ := R
    exact r8
  have e0 : (0 : Int32).toInt = 0 := rfl
  have e1 : (-1 : Int32).toInt = -1 := rfl
  have e3 : (3 : Int32).toInt = 3 := rfl
  have e40 : (40 : Int32).toInt = 40 := rfl
  unfold f_X5_sheet f_X6_sheet
  simp only [Jp_d]
  rcases a_cs a0 4 with ⟨s, hs, rfl⟩ | h
  · rw [show (4 : Int32) = nI 4 from rfl, wi_t hs (by omega), shM hs, bd1_s, bd1_s, i_el, i_el]
    have hx : ix (nI s) = s := ix_n (by omega)
    have g := inB_n hs (by decide : 4 ≤ 2 ^ 31)
    rw [in_sp, bd1_s, l_i, show (-1 : Int64).toInt = -1 from rfl, show (2 : Int64).toInt = 2 from rfl]
    simp only [i_lt, i_le, e0, e1, e3, e40, hx, Gu_of g]
    by_cases c1 : a1.toInt < -1
    · rw [if_pos c1, if_neg (show ¬ (-1 ≤ a1.toInt ∧ a1.toInt ≤ 2) by omega), i_if]
      exact ⟨_, _, _, rfl, rfl, R⟩
    · rw [if_neg c1]
      by_cases c2 : a1.toInt < 3
      · rw [if_pos c2, if_pos (show (-1 ≤ a1.toInt ∧ a1.toInt ≤ 2) by omega), i_el]
        by_cases c3 : a1 = -1
        · have c4 : a1.toInt < 0 := by rw [c3, e1]; omega
          rw [if_pos c3, if_pos c4, if_pos c4, if_pos c4]
          obtain ⟨mc2, k1, k2, k3, k4⟩ := becS (k := 64 + 2 * s) (a := -1) (b := 0) hF mc
          have k5 : ∀ m, f_X6_sheet_L77 (nI s) a1 a2 (fun x4_12 m13 => some ((1 : Int32), m13)) F 0 m = some (1, m) := by
            intro m
            obtain ⟨F, rfl⟩ : ∃ k, F = k + 1 := ⟨F - 1, by omega⟩
            unfold f_X6_sheet_L77
            split
            · rfl
            · rw [if_pos (by rw [i_lt]; exact c4)]
          rw [k1, bd1_s, Gu_of (show (inB (nI s) 4 && bz 0) = true by rw [g]; rfl)]
          simp only [Lt_d]
          rw [k5]
          refine ⟨_, _, _, rfl, rfl, RelX_sh hX (fun q hq => k2 q (by omega) (by omega)) (fun q hq => (row_ne (by omega)).trans ((row_ne (by omega)).trans (row_ne (by omega)))) R (fun i hi => ?_)⟩
          by_cases ci : i = s
          · subst ci
            refine Or.inl ⟨?_, ?_⟩
            · rw [k3]; rfl
            · rw [rI_ne (by decide), rI_ne (by decide), rI_eq]
          · have q := r8 i hi
            have f1 : ∀ j, rI mc2 (64 + 2 * i) j = rI mc (64 + 2 * i) j := fun j => r_row (k2 _ (by omega) (by omega)) j
            have f2 : ∀ j, rI mc2 (64 + 2 * i + 1) j = rI mc (64 + 2 * i + 1) j := fun j => r_row (k2 _ (by omega) (by omega)) j
            simpa [f1, f2, rI_w, ci] using q
        · have c4 : ¬ a1.toInt < 0 := fun z => c3 (by rw [i_eq, e1]; omega)
          rw [if_neg c3, if_neg c4, if_neg c4, if_neg c4]
          by_cases c5 : a2.toInt ≤ 40
          · rw [if_pos c5, if_pos c5]
            by_cases c6 : 0 ≤ a2.toInt
            · rw [if_pos c6, if_pos c6]
              obtain ⟨n, hn, rfl⟩ := n_of (a := a2) (n := 41) c6 (by omega)
              obtain ⟨so, hso, rfl⟩ := n_of (a := a1) (n := 3) (by omega) (by omega)
              obtain ⟨mc2, k1, k2, k3, k4⟩ := becS (k := 64 + 2 * s) (a := nI so) (b := nI n) hF mc
              rw [k1, bd1_s, Gu_of (show (inB (nI s) 4 && bz 1) = true by rw [g]; rfl)]
              simp only [Lt_d]
              obtain ⟨mm2, p1, p2, p3⟩ := sheet77 (s := s) (n := n) (a1 := nI so) hs (by omega) hF (by rw [i_lt, e0]; exact c4) (wI (wI (wI mm 19 s 1) 20 s (nI so)) 21 s (nI n))
              rw [p1]
              refine ⟨_, _, _, rfl, rfl, RelX_sh hX (fun q hq => k2 q (by omega) (by omega)) (fun q hq => (p2 q (by omega)).trans ((row_ne (by omega)).trans ((row_ne (by omega)).trans (row_ne (by omega))))) R (fun i hi => ?_)⟩
              have g1 : ∀ q j, q ≠ 22 → rI mm2 q j = rI (wI (wI (wI mm 19 s 1) 20 s (nI so)) 21 s (nI n)) q j := fun q j hq => r_row (p2 q hq) j
              have g2 : ∀ j, rI mm2 22 j = if 40 * s ≤ j ∧ j < 40 * s + n then 0 else rI mm 22 j := fun j => by
                rw [p3, rI_ne (by decide), rI_ne (by decide), rI_ne (by decide)]
              by_cases ci : i = s
              · subst ci
                refine Or.inr ⟨so, n, hso, by omega, ?_, ?_, ?_, ?_, ?_, fun j hj => ?_⟩
                · rw [g1 _ _ (by decide)]; simp [rI_w]
                · rw [k3]; rfl
                · rw [g1 _ _ (by decide)]; simp [rI_w]
                · rw [k3]; rfl
                · rw [g1 _ _ (by decide)]; simp [rI_w]
                · rw [k4, if_pos (by omega), g2, if_pos (by omega)]
              · have f1 : ∀ j, rI mc2 (64 + 2 * i) j = rI mc (64 + 2 * i) j := fun j => r_row (k2 _ (by omega) (by omega)) j
                have f2 : ∀ j, rI mc2 (64 + 2 * i + 1) j = rI mc (64 + 2 * i + 1) j := fun j => r_row (k2 _ (by omega) (by omega)) j
                have g3 : rI mm2 19 i = rI mm 19 i := by rw [g1 _ _ (by decide)]; simp [rI_w, ci]
                have g4 : rI mm2 20 i = rI mm 20 i := by rw [g1 _ _ (by decide)]; simp [rI_w, ci]
                have g5 : rI mm2 21 i = rI mm 21 i := by rw [g1 _ _ (by decide)]; simp [rI_w, ci]
                rcases r8 i hi with ⟨q1, q2⟩ | ⟨so2, n2, q1, q2, q3, q4, q5, q6, q7, q8⟩
                · exact Or.inl ⟨by rw [f1]; exact q1, by rw [g3]; exact q2⟩
                · refine Or.inr ⟨so2, n2, q1, q2, by rw [g3]; exact q3, by rw [f1]; exact q4, by rw [g4]; exact q5, by rw [f1]; exact q6, by rw [g5]; exact q7, fun j hj => ?_⟩
                  rw [f2, g2, if_neg (by omega)]
                  exact q8 j hj
            · rw [if_neg c6, if_neg c6]
              exact ⟨_, _, _, rfl, rfl, R⟩
          · rw [if_neg c5, if_neg c5]
            exact ⟨_, _, _, rfl, rfl, R⟩
      · rw [if_neg c2, if_neg (show ¬ (-1 ≤ a1.toInt ∧ a1.toInt ≤ 2) by omega), i_if]
        exact ⟨_, _, _, rfl, rfl, R⟩
  · rw [show (4 : Int32) = nI 4 from rfl, wi_f h (by omega), shM0 h, bd1_s, bd1_s, i_if, i_if]
    exact ⟨_, _, _, rfl, rfl, R⟩
