/-! WAYS and SOONEST -/
theorem zl_add (a b : Nat) : lN a + lN b = lN (a + b) := (Int64.ofNat_add a b).symm
theorem zl_mul (a b : Nat) : lN a * lN b = lN (a * b) := (Int64.ofNat_mul a b).symm
theorem zl_int {a : Nat} (h : a < 2 ^ 63) : (lN a).toInt = (a : Int) := Int64.toInt_ofNat_of_lt (by omega)
theorem lN_nI {a : Nat} (h : a < 2 ^ 31) : Int32.toInt64 (nI a) = lN a := Int64.toInt_inj.mp (by rw [l_i, nI_toInt h, zl_int (by omega)])
theorem lN_pos {a : Nat} (h : a < 2 ^ 63) : lg_cmp (lN a) (0 : Int64) ≤ 0 ↔ a = 0 := by
  have h0 : (0 : Int64).toInt = 0 := rfl
  unfold lg_cmp
  simp only [gt_iff_lt, Int64.lt_iff_toInt_lt, ← Int64.toInt_inj, zl_int h, h0]
  by_cases c : a = 0
  · rw [if_neg (by omega), if_pos (by omega)]
    exact ⟨fun _ => c, fun _ => Int32.le_refl _⟩
  · rw [if_pos (by omega)]
    exact ⟨fun z => absurd z (by decide), fun z => absurd z c⟩
theorem rowsTo_sp {F : Nat} {A : LT} {m : MM} {hm g n : Nat} (hF : 4000 ≤ F) (B : AB A) (S : SE m A hm) (hg : g = 0 ∨ ∃ s, g = s + 1 ∧ s < (A 6 0) ^ (A 6 1) ∧ u_val A s = true) (hn : n < 9) : ∃ m', f_X1_rowsTo F (nI g - 1) (nI n) m = some (lN (if g = 0 then 0 else WW A hm n (g - 1)), m') ∧ ∀ q, q ≠ 27 → q ≠ 28 → q ≠ 29 → q ≠ 33 → q ≠ 34 → q ≠ 35 → m'.1 q = m.1 q := by
  have b1 := B.1
  have b2 := B.2.1
  have hN := pw_le b1 b2
  unfold f_X1_rowsTo
  rcases hg with rfl | ⟨s, rfl, hs, vs⟩
  · rw [if_pos (show nI 0 - 1 = (-1 : Int32) by decide), if_pos rfl]
    exact ⟨m, rfl, fun q _ _ _ _ _ _ => rfl⟩
  · have s9 := S.2.2.2.2.2.2.2.2.1
    have s10 := S.2.2.2.2.2.2.2.2.2
    have e12 : rI m 25 12 = nI hm := S.2.2.2.2.2.1
    rw [n_p, if_neg (n_ne1 (by omega)), if_neg (by omega), Nat.add_sub_cancel]
    rw [Gu_of (show nz (2 : Int32) = true from rfl), e12, show (2 : Int32) = nI 2 from rfl, n_div (by omega) (by decide), n_subn (by omega)]
    obtain ⟨m1, i1, i2, i3⟩ := step_sp (F := F) (q := 27) (a := hm) (n := n / 2) hF B S (Or.inl rfl) s9 (by omega)
    have S1 : SE m1 A hm := SE_fr (fun q hq => i2 q (by omega) (by omega) (by omega) (by omega) (by omega)) (fun i _ _ => r_row (i2 25 (by decide) (by decide) (by decide) (by decide) (by decide)) i) S
    obtain ⟨m2, j1, j2, j3⟩ := step_sp (F := F) (q := 29) (a := s) (n := n - n / 2) hF B S1 (Or.inr rfl) hs (by omega)
    have S2 : SE m2 A hm := SE_fr (fun q hq => j2 q (by omega) (by omega) (by omega) (by omega) (by omega)) (fun i _ _ => r_row (j2 25 (by decide) (by decide) (by decide) (by decide) (by decide)) i) S1
    rw [i1, bd1_s, Gu_of (show nz (nI 2) = true from rfl), j1, bd1_s]
    have e27 : ∀ p, p < (A 6 0) ^ (A 6 1) → rI m2 27 p = nI (WW A hm (n / 2) p) := fun p hp => (r_row (j2 27 (by decide) (by decide) (by decide) (by decide) (by decide)) p).trans (i3 p hp)
    have e11 : rI m2 25 11 = nI ((A 6 0) ^ (A 6 1)) := S2.2.2.2.2.1
    have p4 : ∀ k, k ≤ 4 → 25 ^ k ≤ 390625 := fun k hk => Nat.pow_le_pow_right (by decide) hk
    obtain ⟨x, hx, e⟩ := loop_inv (fun n i x => f_X1_rowsTo_L41 m2 (fun x3_5 x5_6 => some (x3_5, m2)) n x i) (fun x => some (x, m2)) ((A 6 0) ^ (A 6 1)) (fun t x => x = lN (sm (fun p => WW A hm (n / 2) p * WW A s (n - n / 2) p) t)) (fun k x hI => by
      show f_X1_rowsTo_L41 _ _ (k + 1) x _ = _
      unfold f_X1_rowsTo_L41
      rw [e11, if_pos (Int32.le_refl _)]) (fun t k x ht hI => by
      refine ⟨lN (sm (fun p => WW A hm (n / 2) p * WW A s (n - n / 2) p) (t + 1)), rfl, ?_⟩
      have gt := inB_n (by omega : t < 3125) (by decide : 3125 ≤ 2 ^ 31)
      have w1 := WW_le b1 b2 s10 (n / 2) t ht
      have w2 := WW_le b1 b2 vs (n - n / 2) t ht
      have q1 := p4 (n / 2) (by omega)
      have q2 := p4 (n - n / 2) (by omega)
      show f_X1_rowsTo_L41 _ _ (k + 1) x _ = _
      conv => lhs; unfold f_X1_rowsTo_L41
      rw [e11, if_neg (by rw [n_le (by omega) (by omega)]; omega), Gu_of gt, Gu_of gt, ix_n (by omega), e27 t ht, j3 t ht, lN_nI (by omega), lN_nI (by omega), zl_mul, hI, zl_add, Lt_d, Lt_d, n_s]
      rfl) F 0 (by omega) rfl
    refine ⟨m2, ?_, fun q h1 h2 h3 h4 h5 h6 => (j2 q h3 h2 h4 h5 h6).trans (i2 q h1 h2 h4 h5 h6)⟩
    refine Eq.trans e ?_
    rw [hx, WW_ck s10 vs hs (n - n / 2) (n / 2), show n / 2 + (n - n / 2) = n by omega]
/-- the cells of a sheet: all holds, or one that is none -/
theorem cells_cs {H : Nat} (w : Nat → Int32) : ∀ T : Nat, (∃ a : Nat → Nat, ∀ j, j < T → a j < H ∧ w j = nI (a j)) ∨ ∃ x, x < T ∧ (∃ a : Nat → Nat, ∀ j, j < x → a j < H ∧ w j = nI (a j)) ∧ ¬ (0 ≤ (w x).toInt ∧ (w x).toInt < H)
  | 0 => Or.inl ⟨fun _ => 0, fun j hj => absurd hj (Nat.not_lt_zero j)⟩
  | T + 1 => by
    rcases cells_cs (H := H) w T with ⟨a, ha⟩ | ⟨x, hx, h1, h2⟩
    · rcases a_cs (w T) H with ⟨k, hk, e⟩ | h
      · refine Or.inl ⟨fun j => if j = T then k else a j, fun j hj => ?_⟩
        show (if j = T then k else a j) < H ∧ w j = nI (if j = T then k else a j)
        by_cases c : j = T
        · rw [if_pos c, c]
          exact ⟨hk, e⟩
        · rw [if_neg c]
          exact ha j (by omega)
      · exact Or.inr ⟨T, by omega, ⟨a, ha⟩, h⟩
    · exact Or.inr ⟨x, by omega, h1, h2⟩
theorem stC {F : Nat} {A : LT} {m : MM} {hm q : Nat} {a : Nat → Nat} (hF : 50 ≤ F) (B : AB A) (S : SE m A hm) (h : ∀ j, j < A 6 1 → a j < A 6 0 ∧ rI m q j = nI (a j)) : f_X1_stateOf F q m = some (nI (if u_val A (enc (A 6 0) a (A 6 1)) = true then enc (A 6 0) a (A 6 1) + 1 else 0) - 1) := by
  have b1 := B.1
  have b2 := B.2.1
  have hN := pw_le b1 b2
  obtain ⟨s1, s2, s3, s4, s5, s6, s7, s8, s9, s10⟩ := S
  have g : (rI m 25 10 == 17) = true := by rw [s4]; rfl
  have e8 : rI m 17 8 = nI (A 6 1) := s1.2.1
  have e7 : rI m 17 7 = nI (A 6 0) := s1.1
  have hl : enc (A 6 0) a (A 6 1) < (A 6 0) ^ (A 6 1) := enc_lt (fun i hi => (h i hi).1)
  unfold f_X1_stateOf
  obtain ⟨x, hx, e⟩ := loop_inv (fun n i x => f_X1_stateOf_L4 q m (fun x2_1 x3_2 => Gu (inB x2_1 3125) <| if (rI m 26 (ix x2_1)) = 0 then some (-1 : Int32) else some x2_1) n x i) (fun x2_1 => Gu (inB x2_1 3125) <| if (rI m 26 (ix x2_1)) = 0 then some (-1 : Int32) else some x2_1) (A 6 1) (fun t x => x = nI (enc (A 6 0) a t)) (fun k x hI => by
    show f_X1_stateOf_L4 _ _ _ (k + 1) x _ = _
    unfold f_X1_stateOf_L4
    rw [Gu_of g, e8, if_pos (Int32.le_refl _)]) (fun t k x ht hI => by
    refine ⟨nI (enc (A 6 0) a (t + 1)), rfl, ?_⟩
    have g40 := inB_n (by omega : t < 40) (by decide : 40 ≤ 2 ^ 31)
    have g5 := inB_n (by omega : t < 5) (by decide : 5 ≤ 2 ^ 31)
    show f_X1_stateOf_L4 _ _ _ (k + 1) x _ = _
    conv => lhs; unfold f_X1_stateOf_L4
    rw [Gu_of g, e8, if_neg (n_head (n := 0) b2 ht), Gu_of g, Gu_of g40, ix_n (by omega), (h t ht).2, hhC e7 b1 (h t ht).1, bd1_s, i_el, Gu_of g40, Gu_of g5, s7 t ht, n_mul, hI, nI_add, Lt_d, Lt_d, n_s]
    rfl) F 0 (by omega) rfl
  refine Eq.trans e ?_
  rw [hx, Gu_of (inB_n (by omega : enc (A 6 0) a (A 6 1) < 3125) (by decide)), ix_n (by omega), s8 _ hl]
  by_cases c : u_val A (enc (A 6 0) a (A 6 1)) = true
  · rw [if_neg (fun z => mk_iff.mp z c), if_pos c, n_p]
  · rw [if_pos (mk_iff.mpr c), if_neg c]
    rfl
theorem stC0 {F : Nat} {A : LT} {m : MM} {hm q x : Nat} {a : Nat → Nat} (hF : 50 ≤ F) (B : AB A) (S : SE m A hm) (hx : x < A 6 1) (h : ∀ j, j < x → a j < A 6 0 ∧ rI m q j = nI (a j)) (h2 : ¬ (0 ≤ (rI m q x).toInt ∧ (rI m q x).toInt < A 6 0)) : f_X1_stateOf F q m = some (-1) := by
  have b1 := B.1
  have b2 := B.2.1
  have hN := pw_le b1 b2
  obtain ⟨s1, s2, s3, s4, s5, s6, s7, s8, s9, s10⟩ := S
  have g : (rI m 25 10 == 17) = true := by rw [s4]; rfl
  have e8 : rI m 17 8 = nI (A 6 1) := s1.2.1
  have e7 : rI m 17 7 = nI (A 6 0) := s1.1
  unfold f_X1_stateOf
  obtain ⟨y, hy, e⟩ := loop_inv (fun n i x => f_X1_stateOf_L4 q m (fun x2_1 x3_2 => Gu (inB x2_1 3125) <| if (rI m 26 (ix x2_1)) = 0 then some (-1 : Int32) else some x2_1) n x i) (fun _ => some (-1)) x (fun t y => y = nI (enc (A 6 0) a t)) (fun k y hI => by
    show f_X1_stateOf_L4 _ _ _ (k + 1) y _ = _
    unfold f_X1_stateOf_L4
    rw [Gu_of g, e8, if_neg (n_head (n := 0) b2 hx), Gu_of g, Gu_of (inB_n (by omega : x < 40) (by decide)), ix_n (by omega), hhC0 e7 b1 h2, bd1_s, i_if]) (fun t k y ht hI => by
    refine ⟨nI (enc (A 6 0) a (t + 1)), rfl, ?_⟩
    have g40 := inB_n (by omega : t < 40) (by decide : 40 ≤ 2 ^ 31)
    have g5 := inB_n (by omega : t < 5) (by decide : 5 ≤ 2 ^ 31)
    show f_X1_stateOf_L4 _ _ _ (k + 1) y _ = _
    conv => lhs; unfold f_X1_stateOf_L4
    rw [Gu_of g, e8, if_neg (n_head (n := 0) b2 (show t < A 6 1 by omega)), Gu_of g, Gu_of g40, ix_n (by omega), (h t ht).2, hhC e7 b1 (h t ht).1, bd1_s, i_el, Gu_of g40, Gu_of g5, s7 t (by omega), n_mul, hI, nI_add, Lt_d, Lt_d, n_s]
    rfl) F 0 (by omega) rfl
  exact e
theorem stM {F H T s : Nat} {m : MM} {a : Nat → Nat} (hF : 50 ≤ F) (b1 : H ≤ 5) (b2 : T ≤ 5) (hs : s < 4) (e9 : rI m 0 9 = nI H) (e14 : rI m 0 14 = nI T) (h : ∀ j, j < T → a j < H ∧ rI m 22 (40 * s + j) = nI (a j)) : f_X6_codeOf F (nI s) m = some (nI (enc 5 a T)) := by
  unfold f_X6_codeOf
  obtain ⟨x, hx, e⟩ := loop_inv (fun n i x => f_X6_codeOf_L4 (nI s) m (fun x2_1 x3_2 => some x2_1) n x i) (fun x => some x) T (fun t x => x = nI (enc 5 a t)) (fun k x hI => by
    show f_X6_codeOf_L4 _ _ _ (k + 1) x _ = _
    unfold f_X6_codeOf_L4
    rw [e14, if_pos (Int32.le_refl _)]) (fun t k x ht hI => by
    refine ⟨nI (enc 5 a (t + 1)), rfl, ?_⟩
    have e40 : (40 : Int32) * nI s + nI t = nI (40 * s + t) := by rw [show (40 : Int32) = nI 40 from rfl, n_mul, nI_add]
    show f_X6_codeOf_L4 _ _ _ (k + 1) x _ = _
    conv => lhs; unfold f_X6_codeOf_L4
    rw [e14, if_neg (n_head (n := 0) b2 ht), e40, Gu_of (inB_n (by omega : 40 * s + t < 160) (by decide)), ix_n (by omega), (h t ht).2, Lt_d, hhM e9 b1 (h t ht).1, bd1_s, i_el, place_sp (by omega), bd1_s, n_mul, hI, nI_add, Lt_d, Lt_d, n_s, Nat.mul_comm]
    rfl) F 0 (by omega) rfl
  rw [hx] at e
  exact e
theorem stM0 {F H T s x : Nat} {m : MM} {a : Nat → Nat} (hF : 50 ≤ F) (b1 : H ≤ 5) (b2 : T ≤ 5) (hs : s < 4) (e9 : rI m 0 9 = nI H) (e14 : rI m 0 14 = nI T) (hx : x < T) (h : ∀ j, j < x → a j < H ∧ rI m 22 (40 * s + j) = nI (a j)) (h2 : ¬ (0 ≤ (rI m 22 (40 * s + x)).toInt ∧ (rI m 22 (40 * s + x)).toInt < H)) : f_X6_codeOf F (nI s) m = some (-1) := by
  have e40 : ∀ t, (40 : Int32) * nI s + nI t = nI (40 * s + t) := fun t => by rw [show (40 : Int32) = nI 40 from rfl, n_mul, nI_add]
  unfold f_X6_codeOf
  obtain ⟨y, hy, e⟩ := loop_inv (fun n i x => f_X6_codeOf_L4 (nI s) m (fun x2_1 x3_2 => some x2_1) n x i) (fun _ => some (-1)) x (fun t y => y = nI (enc 5 a t)) (fun k y hI => by
    show f_X6_codeOf_L4 _ _ _ (k + 1) y _ = _
    unfold f_X6_codeOf_L4
    rw [e14, if_neg (n_head (n := 0) b2 hx), e40, Gu_of (inB_n (by omega : 40 * s + x < 160) (by decide)), ix_n (by omega), Lt_d, hhM0 e9 b1 h2, bd1_s, i_if]) (fun t k y ht hI => by
    refine ⟨nI (enc 5 a (t + 1)), rfl, ?_⟩
    show f_X6_codeOf_L4 _ _ _ (k + 1) y _ = _
    conv => lhs; unfold f_X6_codeOf_L4
    rw [e14, if_neg (n_head (n := 0) b2 (show t < T by omega)), e40, Gu_of (inB_n (by omega : 40 * s + t < 160) (by decide)), ix_n (by omega), (h t ht).2, Lt_d, hhM e9 b1 (h t ht).1, bd1_s, i_el, place_sp (by omega), bd1_s, n_mul, hI, nI_add, Lt_d, Lt_d, n_s, Nat.mul_comm]
    rfl) F 0 (by omega) rfl
  exact e
