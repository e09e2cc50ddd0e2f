/-! THINK, SPLIT, LOOK AROUND -/
def SE (m : MM) (A : LT) (hm : Nat) : Prop := HO m 17 A ∧ rI m 17 12 = nI (A 6 5) - 1 ∧ (∀ i, i < A 6 1 → rI m 24 i = if A 6 5 = i + 1 then -1 else nI (dg (A 6 0) hm i)) ∧ rI m 25 10 = 17 ∧ rI m 25 11 = nI ((A 6 0) ^ (A 6 1)) ∧ rI m 25 12 = nI hm ∧ (∀ i, i < A 6 1 → rI m 32 i = nI ((A 6 0) ^ i)) ∧ (∀ c, c < (A 6 0) ^ (A 6 1) → rI m 26 c = nI (u_mk A c)) ∧ hm < (A 6 0) ^ (A 6 1) ∧ u_val A hm = true
theorem HO_fr {m m2 : MM} {k : Nat} {A : LT} (h : ∀ q, k ≤ q → q ≤ k + 6 → m2.1 q = m.1 q) (L : HO m k A) : HO m2 k A := by
  obtain ⟨l1, l2, l3, l4, l5, l6⟩ := L
  have e : ∀ q i, k ≤ q → q ≤ k + 6 → rI m2 q i = rI m q i := fun q i h1 h2 => r_row (h q h1 h2) i
  exact ⟨(e _ _ (by omega) (by omega)).trans l1, (e _ _ (by omega) (by omega)).trans l2, (e _ _ (by omega) (by omega)).trans l3, (e _ _ (by omega) (by omega)).trans l4, fun i hi => ⟨(e _ _ (by omega) (by omega)).trans (l5 i hi).1, (e _ _ (by omega) (by omega)).trans (l5 i hi).2⟩, fun i hi => ⟨(e _ _ (by omega) (by omega)).trans (l6 i hi).1, (e _ _ (by omega) (by omega)).trans (l6 i hi).2.1, (e _ _ (by omega) (by omega)).trans (l6 i hi).2.2⟩⟩
theorem SE_fr {m m2 : MM} {A : LT} {hm : Nat} (h : ∀ q, (17 ≤ q ∧ q ≤ 24) ∨ q = 26 ∨ q = 32 → m2.1 q = m.1 q) (g : ∀ i, 10 ≤ i → i ≤ 12 → rI m2 25 i = rI m 25 i) (S : SE m A hm) : SE m2 A hm := by
  obtain ⟨s1, s2, s3, s4, s5, s6, s7, s8, s9, s10⟩ := S
  exact ⟨HO_fr (fun q h1 h2 => h q (by omega)) s1, (r_row (h 17 (by omega)) 12).trans s2, fun i hi => (r_row (h 24 (by omega)) i).trans (s3 i hi), (g 10 (by omega) (by omega)).trans s4, (g 11 (by omega) (by omega)).trans s5, (g 12 (by omega) (by omega)).trans s6, fun i hi => (r_row (h 32 (by omega)) i).trans (s7 i hi), fun c hc => (r_row (h 26 (by omega)) c).trans (s8 c hc), s9, s10⟩
theorem split_sp {F : Nat} {A : LT} {m : MM} {s : Nat} (hF : 50 ≤ F) (B : AB A) (hH : 0 < A 6 0 ∨ A 6 1 = 0) (hs : s < 2 ^ 31) (h1 : rI m 17 7 = nI (A 6 0)) (h2 : rI m 17 8 = nI (A 6 1)) (h3 : rI m 25 10 = 17) : ∃ m', f_X1_split F (nI s) m = some m' ∧ (∀ q, q ≠ 33 → m'.1 q = m.1 q) ∧ ∀ i, i < A 6 1 → rI m' 33 i = nI (dg (A 6 0) s i) := by
  have b1 := B.1
  have b2 := B.2.1
  obtain ⟨st, ⟨i1, i2, i3⟩, i4⟩ := loop_inv (σ := Int32 × MM) (fun n i st => f_X1_split_L4 (fun x2_1 x3_2 m3 => some m3) n st.1 i st.2) (fun st => some st.2) (A 6 1) (fun t st => st.1 = nI (s / (A 6 0) ^ t) ∧ (∀ q, q ≠ 33 → st.2.1 q = m.1 q) ∧ ∀ i, i < t → rI st.2 33 i = nI (dg (A 6 0) s i)) (fun n st hI => by
    have g : (rI st.2 25 10 == 17) = true := by rw [r_row (hI.2.1 25 (by decide)), h3]; rfl
    have e2 : rI st.2 17 8 = nI (A 6 1) := (r_row (hI.2.1 17 (by decide)) 8).trans h2
    show f_X1_split_L4 (fun x2_1 x3_2 m3 => some m3) (n + 1) _ _ _ = _
    unfold f_X1_split_L4
    rw [Gu_of g, e2, if_pos (Int32.le_refl _)]) (fun t n st ht hI => by
    obtain ⟨x, m1⟩ := st
    obtain ⟨i1, i2, i3⟩ := hI
    have i1 : x = nI (s / (A 6 0) ^ t) := i1
    subst i1
    have hH0 : 0 < A 6 0 := by omega
    have g : (rI m1 25 10 == 17) = true := by rw [r_row (i2 25 (by decide)), h3]; rfl
    have e1 : rI m1 17 7 = nI (A 6 0) := (r_row (i2 17 (by decide)) 7).trans h1
    have e2 : rI m1 17 8 = nI (A 6 1) := (r_row (i2 17 (by decide)) 8).trans h2
    have hq : s / (A 6 0) ^ t < 2 ^ 31 := Nat.lt_of_le_of_lt (Nat.div_le_self _ _) hs
    have g' : (rI (wI m1 33 t (nI (dg (A 6 0) s t))) 25 10 == 17) = true := by rw [rI_ne (by decide)]; exact g
    have e1' : rI (wI m1 33 t (nI (dg (A 6 0) s t))) 17 7 = nI (A 6 0) := (rI_ne (by decide)).trans e1
    refine ⟨(nI (s / (A 6 0) ^ (t + 1)), wI m1 33 t (nI (dg (A 6 0) s t))), ⟨rfl, fun q hq => (row_ne hq).trans (i2 q hq), fun i hi => ?_⟩, ?_⟩
    · rw [rI_w]
      by_cases c : i = t
      · rw [if_pos ⟨rfl, c⟩, c]
      · rw [if_neg (fun z => c z.2)]
        exact i3 i (by omega)
    · show f_X1_split_L4 (fun x2_1 x3_2 m3 => some m3) (n + 1) (nI (s / (A 6 0) ^ t)) (nI t) m1 = _
      conv => lhs; unfold f_X1_split_L4
      rw [Gu_of g, e2, if_neg (n_head (n := 0) b2 ht), Gu_of g, e1, if_neg (show ¬ nI (A 6 0) ≤ 0 by rw [show (0 : Int32) = nI 0 from rfl, n_le (by omega) (by omega)]; omega), Gu_of g, Gu_of (nz_n hH0 (by omega)), Gu_of (inB_n (by omega : t < 5) (by decide)), ix_n (by omega), n_rem hq (by omega)]
      show (Lt (wI m1 33 t (nI (dg (A 6 0) s t))) fun m5 => Gu (rI m5 25 10 == 17) <| Gu (nz (rI m5 17 7)) <| Lt (nI (s / (A 6 0) ^ t) / (rI m5 17 7)) fun x2_6 => Lt (nI t + (1 : Int32)) fun x3_7 => f_X1_split_L4 (fun x2_1 x3_2 m3 => some m3) n x2_6 x3_7 m5) = _
      rw [Lt_d, Gu_of g', e1', Gu_of (nz_n hH0 (by omega)), n_div hq (by omega), Lt_d, Lt_d, n_s, Nat.div_div_eq_div_mul, ← Nat.pow_succ]) F (nI s, m) (by omega) ⟨by rw [Nat.pow_zero, Nat.div_one], fun q _ => rfl, fun i hi => absurd hi (Nat.not_lt_zero i)⟩
  exact ⟨st.2, i4, i2, i3⟩
/-- what the home of a lot is -/
def u_ag (A : LT) : Nat → Nat := fun i => if A 6 5 = i + 1 then 0 else A 5 i
def u_hm (A : LT) : Nat := enc (A 6 0) (u_ag A) (A 6 1)
theorem ag_lt {A : LT} (B : AB A) {i : Nat} (hi : i < A 6 1) : u_ag A i < A 6 0 := by
  have q := (B.2.2.2.2.2.2.2.2 i hi).2.2.2.2
  unfold u_ag
  split <;> omega
theorem hm_dg {A : LT} (B : AB A) {i : Nat} (hi : i < A 6 1) : dg (A 6 0) (u_hm A) i = u_ag A i := enc_dg (by have := ag_lt B hi; omega) (fun j hj => ag_lt B hj) hi
theorem hm_val {A : LT} (B : AB A) (M : MAY A (A 5)) : u_val A (u_hm A) = true := by
  refine val_t.mpr ⟨MAY_cong (a := A 5) (fun i hi => by rw [hm_dg B hi]; exact ag_lt B hi) (fun i hi hg => by
    rw [hm_dg B hi]
    unfold u_ag
    rw [if_neg hg]) M, fun hg => ?_⟩
  have b6 := B.2.2.2.2.2.1
  rw [hm_dg B (by omega)]
  unfold u_ag
  rw [if_pos (by omega)]
theorem look17 {F : Nat} {A : LT} {m : MM} (hF : 50 ≤ F) (B : AB A) (L : LC m 17 A) (K : Int32 → MM → Option MM) : ∃ m', ((∀ q, q ≠ 24 → q ≠ 25 → q ≠ 32 → m'.1 q = m.1 q) ∧ (∀ i, i ≠ 11 → i ≠ 12 → rI m' 25 i = rI (wI m 25 10 17) 25 i) ∧ rI m' 25 11 = nI ((A 6 0) ^ (A 6 1)) ∧ rI m' 25 12 = nI (u_hm A) ∧ (∀ i, i < A 6 1 → rI m' 24 i = -1) ∧ ∀ i, i < A 6 1 → rI m' 32 i = nI ((A 6 0) ^ i)) ∧ f_X1_look_L17 K F 0 (wI (wI (wI m 25 10 17) 25 11 1) 25 12 0) = K (nI (A 6 1)) m' := by
  have b1 := B.1
  have b2 := B.2.1
  have b6 := B.2.2.2.2.2.1
  have b9 := B.2.2.2.2.2.2.2.2
  obtain ⟨m', ⟨i1, i2, i3, i4, i5, i6, i7⟩, i8⟩ := loop_inv (fun n i m1 => f_X1_look_L17 K n i m1) (fun m1 => K (nI (A 6 1)) m1) (A 6 1) (fun t m1 => (∀ q, q ≠ 24 → q ≠ 25 → q ≠ 32 → m1.1 q = m.1 q) ∧ (∀ i, i ≠ 11 → i ≠ 12 → rI m1 25 i = rI (wI m 25 10 17) 25 i) ∧ rI m1 25 11 = nI ((A 6 0) ^ t) ∧ rI m1 25 12 = nI (enc (A 6 0) (u_ag A) t) ∧ (∀ i, i < t → rI m1 24 i = -1) ∧ (∀ i, t ≤ i → rI m1 24 i = rI m 24 i) ∧ ∀ i, i < t → rI m1 32 i = nI ((A 6 0) ^ i)) (fun n m1 hI => by
    have g : (rI m1 25 10 == 17) = true := by rw [hI.2.1 10 (by decide) (by decide), rI_eq]; rfl
    have e2 : rI m1 17 8 = nI (A 6 1) := (r_row (hI.1 17 (by decide) (by decide) (by decide)) 8).trans L.2.1
    show f_X1_look_L17 K (n + 1) _ _ = _
    unfold f_X1_look_L17
    rw [Gu_of g, e2, if_pos (Int32.le_refl _)]) (fun t n m1 ht hI => by
    obtain ⟨i1, i2, i3, i4, i5, i6, i7⟩ := hI
    have g : (rI m1 25 10 == 17) = true := by rw [i2 10 (by decide) (by decide), rI_eq]; rfl
    have fr : ∀ q i, q ≠ 24 → q ≠ 25 → q ≠ 32 → rI m1 q i = rI m q i := fun q i h1 h2 h3 => r_row (i1 q h1 h2 h3) i
    have e1 : rI m1 17 7 = nI (A 6 0) := (fr 17 7 (by decide) (by decide) (by decide)).trans L.1
    have e2 : rI m1 17 8 = nI (A 6 1) := (fr 17 8 (by decide) (by decide) (by decide)).trans L.2.1
    have e12 : rI m1 17 12 = nI (A 6 5) - 1 := (fr 17 12 (by decide) (by decide) (by decide)).trans L.2.2.2.2.2.1
    have gt := inB_n (by omega : t < 5) (by decide : 5 ≤ 2 ^ 31)
    have hxt : ix (nI t) = t := ix_n (by omega)
    have et : rI m1 24 t = nI (A 5 t) := (i6 t (Nat.le_refl _)).trans (L.2.2.2.2.2.2.2 t ht).2.2.2
    have g2 : (rI (wI m1 32 t (nI ((A 6 0) ^ t))) 25 10 == 17) = true := by rw [rI_ne (by decide)]; exact g
    have f1 : rI (wI m1 32 t (nI ((A 6 0) ^ t))) 25 11 = nI ((A 6 0) ^ t) := (rI_ne (by decide)).trans i3
    have f2 : rI (wI m1 32 t (nI ((A 6 0) ^ t))) 17 7 = nI (A 6 0) := (rI_ne (by decide)).trans e1
    have g3 : (rI (wI (wI m1 32 t (nI ((A 6 0) ^ t))) 25 11 (nI ((A 6 0) ^ (t + 1)))) 25 10 == 17) = true := by rw [rI_nj (by decide)]; exact g2
    have f3 : rI (wI (wI m1 32 t (nI ((A 6 0) ^ t))) 25 11 (nI ((A 6 0) ^ (t + 1)))) 17 12 = nI (A 6 5) - 1 := (rI_ne (by decide)).trans ((rI_ne (by decide)).trans e12)
    have f4 : rI (wI (wI m1 32 t (nI ((A 6 0) ^ t))) 25 11 (nI ((A 6 0) ^ (t + 1)))) 25 12 = nI (enc (A 6 0) (u_ag A) t) := (rI_nj (by decide)).trans ((rI_ne (by decide)).trans i4)
    have f5 : rI (wI (wI m1 32 t (nI ((A 6 0) ^ t))) 25 11 (nI ((A 6 0) ^ (t + 1)))) 24 t = nI (A 5 t) := (rI_ne (by decide)).trans ((rI_ne (by decide)).trans et)
    have f6 : rI (wI (wI m1 32 t (nI ((A 6 0) ^ t))) 25 11 (nI ((A 6 0) ^ (t + 1)))) 32 t = nI ((A 6 0) ^ t) := (rI_ne (by decide)).trans rI_eq
    have step : ∀ m9 : MM, (m9 = (if A 6 5 = t + 1 then wI (wI m1 32 t (nI ((A 6 0) ^ t))) 25 11 (nI ((A 6 0) ^ (t + 1))) else wI (wI (wI m1 32 t (nI ((A 6 0) ^ t))) 25 11 (nI ((A 6 0) ^ (t + 1)))) 25 12 (nI (enc (A 6 0) (u_ag A) (t + 1))))) → f_X1_look_L17 K (n + 1) (nI t) m1 = f_X1_look_L17 K n (nI (t + 1)) (wI m9 24 t (-1)) := by
      intro m9 hm9
      conv => lhs; unfold f_X1_look_L17
      rw [Gu_of g, e2, if_neg (n_head (n := 0) b2 ht), Gu_of gt, hxt, i3, Lt_d, Gu_of g2, f1, f2, n_mul, ← Nat.pow_succ, Lt_d, Gu_of g3]
      rw [Jp_d, f3]
      by_cases c : A 6 5 = t + 1
      · rw [if_pos c] at hm9
        rw [if_pos (by rw [g_eq (by omega) (by omega)]; exact c), ← hm9]
        have g9 : (rI m9 25 10 == 17) = true := by rw [hm9]; exact g3
        dsimp only
        rw [Gu_of g9, Gu_of gt, Lt_d, Lt_d, n_s]
      · rw [if_neg c] at hm9
        rw [if_neg (by rw [g_eq (by omega) (by omega)]; exact c), Gu_of g3, Gu_of gt, Gu_of gt, f4, f5, f6, n_mul, nI_add, Lt_d]
        have eA : enc (A 6 0) (u_ag A) t + A 5 t * (A 6 0) ^ t = enc (A 6 0) (u_ag A) (t + 1) := by
          show _ = enc (A 6 0) (u_ag A) t + u_ag A t * (A 6 0) ^ t
          unfold u_ag
          rw [if_neg c]
        rw [eA, ← hm9]
        have g9 : (rI m9 25 10 == 17) = true := by rw [hm9, rI_nj (by decide)]; exact g3
        dsimp only
        rw [Gu_of g9, Gu_of gt, Lt_d, Lt_d, n_s]
    refine ⟨wI (if A 6 5 = t + 1 then wI (wI m1 32 t (nI ((A 6 0) ^ t))) 25 11 (nI ((A 6 0) ^ (t + 1))) else wI (wI (wI m1 32 t (nI ((A 6 0) ^ t))) 25 11 (nI ((A 6 0) ^ (t + 1)))) 25 12 (nI (enc (A 6 0) (u_ag A) (t + 1)))) 24 t (-1), ?_, step _ rfl⟩
    have eB : A 6 5 = t + 1 → enc (A 6 0) (u_ag A) (t + 1) = enc (A 6 0) (u_ag A) t := by
      intro c
      show enc (A 6 0) (u_ag A) t + u_ag A t * (A 6 0) ^ t = _
      unfold u_ag
      rw [if_pos c, Nat.zero_mul, Nat.add_zero]
    by_cases c : A 6 5 = t + 1
    · rw [if_pos c]
      refine ⟨fun q h1 h2 h3 => (row_ne h1).trans ((row_ne h2).trans ((row_ne h3).trans (i1 q h1 h2 h3))), fun i h1 h2 => ?_, ?_, ?_, fun i hi => ?_, fun i hi => ?_, fun i hi => ?_⟩
      · rw [rI_ne (by decide), rI_nj h1, rI_ne (by decide)]
        exact i2 i h1 h2
      · rw [rI_ne (by decide), rI_eq]
      · rw [rI_ne (by decide), rI_nj (by decide), rI_ne (by decide), i4, eB c]
      · rw [rI_w]
        by_cases ci : i = t
        · rw [if_pos ⟨rfl, ci⟩]
        · rw [if_neg (fun z => ci z.2), rI_ne (by decide), rI_ne (by decide)]
          exact i5 i (by omega)
      · rw [rI_nj (by omega), rI_ne (by decide), rI_ne (by decide)]
        exact i6 i (by omega)
      · rw [rI_ne (by decide), rI_ne (by decide), rI_w]
        by_cases ci : i = t
        · rw [if_pos ⟨rfl, ci⟩, ci]
        · rw [if_neg (fun z => ci z.2)]
          exact i7 i (by omega)
    · rw [if_neg c]
      refine ⟨fun q h1 h2 h3 => (row_ne h1).trans ((row_ne h2).trans ((row_ne h2).trans ((row_ne h3).trans (i1 q h1 h2 h3)))), fun i h1 h2 => ?_, ?_, ?_, fun i hi => ?_, fun i hi => ?_, fun i hi => ?_⟩
      · rw [rI_ne (by decide), rI_nj h2, rI_nj h1, rI_ne (by decide)]
        exact i2 i h1 h2
      · rw [rI_ne (by decide), rI_nj (by decide), rI_eq]
      · rw [rI_ne (by decide), rI_eq]
      · rw [rI_w]
        by_cases ci : i = t
        · rw [if_pos ⟨rfl, ci⟩]
        · rw [if_neg (fun z => ci z.2), rI_ne (by decide), rI_ne (by decide), rI_ne (by decide)]
          exact i5 i (by omega)
      · rw [rI_nj (by omega), rI_ne (by decide), rI_ne (by decide), rI_ne (by decide)]
        exact i6 i (by omega)
      · rw [rI_ne (by decide), rI_ne (by decide), rI_ne (by decide), rI_w]
        by_cases ci : i = t
        · rw [if_pos ⟨rfl, ci⟩, ci]
        · rw [if_neg (fun z => ci z.2)]
          exact i7 i (by omega)) F (wI (wI (wI m 25 10 17) 25 11 1) 25 12 0) (by omega) ⟨fun q h1 h2 h3 => (row_ne h2).trans ((row_ne h2).trans (row_ne h2)), fun i h1 h2 => (rI_nj h2).trans (rI_nj h1), (rI_nj (by decide)).trans rI_eq, rI_eq, fun i hi => absurd hi (Nat.not_lt_zero i), fun i _ => (rI_ne (by decide)).trans ((rI_ne (by decide)).trans (rI_ne (by decide))), fun i hi => absurd hi (Nat.not_lt_zero i)⟩
  exact ⟨m', ⟨i1, i2, i3, i4, i5, i7⟩, i8⟩
theorem look_sp {F : Nat} {A : LT} {m : MM} (hF : 4000 ≤ F) (B : AB A) (S : SY A) (hgk : A 6 5 = 0 ∨ A 6 5 ≠ A 6 2) (M : MAY A (A 5)) (L : LC m 17 A) : ∃ m', f_X1_look F m = some m' ∧ SE m' A (u_hm A) ∧ ∀ q, ¬ (24 ≤ q ∧ q ≤ 33) ∨ q = 31 → m'.1 q = m.1 q := by
  have b1 := B.1
  have b2 := B.2.1
  have b6 := B.2.2.2.2.2.1
  have hH : 0 < A 6 0 ∨ A 6 1 = 0 := by
    by_cases c : A 6 1 = 0
    · exact Or.inr c
    · have := (B.2.2.2.2.2.2.2.2 0 (by omega)).2.2.2.2
      exact Or.inl (by omega)
  have hN := pw_le b1 b2
  have hmv := hm_val B M
  have hml : u_hm A < (A 6 0) ^ (A 6 1) := enc_lt (fun i hi => ag_lt B hi)
  unfold f_X1_look
  simp only [Lt_d]
  obtain ⟨m1, ⟨i1, i2, i3, i4, i5, i6⟩, i7⟩ := look17 (F := F) (by omega) B L (fun x2_4 m5 => f_X1_look_L108 (fun x2_14 m15 => bd1 (f_X1_lay F (0 : Int32) (0 : Int32) m15) fun m20 => bd1 (f_X1_split F (rI m20 25 12) m20) fun m22 => f_X1_look_L145 (fun x2_23 m24 => some m24) F (0 : Int32) m22) F (0 : Int32) m5)
  rw [i7]
  -- the marks are taken away
  obtain ⟨m2, ⟨j1, j2⟩, j3⟩ := loop_inv (fun n i m1 => f_X1_look_L108 (fun x2_14 m15 => bd1 (f_X1_lay F (0 : Int32) (0 : Int32) m15) fun m20 => bd1 (f_X1_split F (rI m20 25 12) m20) fun m22 => f_X1_look_L145 (fun x2_23 m24 => some m24) F (0 : Int32) m22) n i m1) (fun m15 => bd1 (f_X1_lay F (0 : Int32) (0 : Int32) m15) fun m20 => bd1 (f_X1_split F (rI m20 25 12) m20) fun m22 => f_X1_look_L145 (fun x2_23 m24 => some m24) F (0 : Int32) m22) ((A 6 0) ^ (A 6 1)) (fun x mx => (∀ q, q ≠ 26 → mx.1 q = m1.1 q) ∧ ∀ c, c < x → rI mx 26 c = 0) (fun n mx hI => by
    have e : rI mx 25 11 = nI ((A 6 0) ^ (A 6 1)) := (r_row (hI.1 25 (by decide)) 11).trans i3
    show f_X1_look_L108 _ (n + 1) _ _ = _
    unfold f_X1_look_L108
    rw [e, if_pos (Int32.le_refl _)]) (fun x n mx hx hI => by
    have e : rI mx 25 11 = nI ((A 6 0) ^ (A 6 1)) := (r_row (hI.1 25 (by decide)) 11).trans i3
    refine ⟨wI mx 26 x 0, ⟨fun q hq => (row_ne hq).trans (hI.1 q hq), fun c hc => ?_⟩, ?_⟩
    · rw [rI_w]
      by_cases ci : c = x
      · rw [if_pos ⟨rfl, ci⟩]
      · rw [if_neg (fun z => ci z.2)]
        exact hI.2 c (by omega)
    · show f_X1_look_L108 _ (n + 1) _ _ = _
      conv => lhs; unfold f_X1_look_L108
      rw [e, if_neg (by rw [n_le (by omega) (by omega)]; omega), Gu_of (inB_n (by omega : x < 3125) (by decide)), Lt_d, Lt_d, ix_n (by omega), n_s]) F m1 (by omega) ⟨fun q _ => rfl, fun c hc => absurd hc (Nat.not_lt_zero c)⟩
  have j3' : f_X1_look_L108 (fun x2_14 m15 => bd1 (f_X1_lay F (0 : Int32) (0 : Int32) m15) fun m20 => bd1 (f_X1_split F (rI m20 25 12) m20) fun m22 => f_X1_look_L145 (fun x2_23 m24 => some m24) F (0 : Int32) m22) F 0 m1 = (bd1 (f_X1_lay F (0 : Int32) (0 : Int32) m2) fun m20 => bd1 (f_X1_split F (rI m20 25 12) m20) fun m22 => f_X1_look_L145 (fun x2_23 m24 => some m24) F (0 : Int32) m22) := j3
  rw [j3']
  have fr : ∀ q i, q ≠ 24 → q ≠ 25 → q ≠ 32 → q ≠ 26 → rI m2 q i = rI m q i := fun q i h1 h2 h3 h4 => (r_row (j1 q h4) i).trans (r_row (i1 q h1 h2 h3) i)
  have L2 : HO m2 17 A := HO_fr (fun q h1 h2 => (j1 q (by omega)).trans (i1 q (by omega) (by omega) (by omega))) (HO_of L)
  have h12 : rI m2 17 12 = nI (A 6 5) - 1 := (fr 17 12 (by decide) (by decide) (by decide) (by decide)).trans L.2.2.2.2.2.1
  have h25 : rI m2 25 10 = 17 := ((r_row (j1 25 (by decide)) 10).trans (i2 10 (by decide) (by decide))).trans rI_eq
  have d0 : ∀ i, dg (A 6 0) 0 i = 0 := fun i => by
    unfold dg
    rw [Nat.zero_div, Nat.zero_mod]
  obtain ⟨m3, k1, k2, k3, k4⟩ := lay_sp (F := F) (by omega) B S hgk (A 6 1) 0 8 0 m2 (by omega) (by omega) (by rw [Nat.pow_zero]; omega) ⟨fun i hi => absurd hi (Nat.not_lt_zero i), fun h _ => ⟨Nat.zero_le _, Nat.zero_le _⟩, fun i hi => absurd hi (Nat.not_lt_zero i), fun i j hi => absurd hi (Nat.not_lt_zero i)⟩ (fun _ _ => d0 _) L2 h12 h25 (fun i hi => (r_row (j1 32 (by decide)) i).trans (i6 i hi)) (fun i hi => by
    rw [if_neg (fun z => absurd z.1 (Nat.not_lt_zero i))]
    exact (r_row (j1 24 (by decide)) i).trans (i5 i hi)) hH
  have k1' : f_X1_lay F 0 0 m2 = some m3 := k1
  have e12 : rI m3 25 12 = nI (u_hm A) := (r_row (k2 25 (by decide) (by decide)) 12).trans ((r_row (j1 25 (by decide)) 12).trans i4)
  obtain ⟨m4, s1, s2, s3⟩ := split_sp (F := F) (m := m3) (s := u_hm A) (by omega) B hH (by omega) ((r_row (k2 17 (by decide) (by decide)) 7).trans L2.1) ((r_row (k2 17 (by decide) (by decide)) 8).trans L2.2.1) ((r_row (k2 25 (by decide) (by decide)) 10).trans h25)
  rw [k1', bd1_s, e12, s1, bd1_s]
  have f4 : ∀ q, q ≠ 33 → q ≠ 24 → q ≠ 26 → m4.1 q = m2.1 q := fun q h1 h2 h3 => (s2 q h1).trans (k2 q h2 h3)
  obtain ⟨m5, ⟨u1, u2⟩, u3⟩ := loop_inv (fun n i m1 => f_X1_look_L145 (fun x2_23 m24 => some m24) n i m1) (fun m24 => some m24) (A 6 1) (fun x mx => (∀ q, q ≠ 24 → mx.1 q = m4.1 q) ∧ ∀ i, i < x → rI mx 24 i = if A 6 5 = i + 1 then -1 else nI (dg (A 6 0) (u_hm A) i)) (fun n mx hI => by
    have g : (rI mx 25 10 == 17) = true := by rw [r_row (hI.1 25 (by decide)), r_row (f4 25 (by decide) (by decide) (by decide)), h25]; rfl
    have e : rI mx 17 8 = nI (A 6 1) := (r_row (hI.1 17 (by decide)) 8).trans ((r_row (f4 17 (by decide) (by decide) (by decide)) 8).trans L2.2.1)
    show f_X1_look_L145 _ (n + 1) _ _ = _
    unfold f_X1_look_L145
    rw [Gu_of g, e, if_pos (Int32.le_refl _)]) (fun t n mx ht hI => by
    have g : (rI mx 25 10 == 17) = true := by rw [r_row (hI.1 25 (by decide)), r_row (f4 25 (by decide) (by decide) (by decide)), h25]; rfl
    have e : rI mx 17 8 = nI (A 6 1) := (r_row (hI.1 17 (by decide)) 8).trans ((r_row (f4 17 (by decide) (by decide) (by decide)) 8).trans L2.2.1)
    have e2 : rI mx 17 12 = nI (A 6 5) - 1 := (r_row (hI.1 17 (by decide)) 12).trans ((r_row (f4 17 (by decide) (by decide) (by decide)) 12).trans h12)
    have e3 : rI mx 33 t = nI (dg (A 6 0) (u_hm A) t) := (r_row (hI.1 33 (by decide)) t).trans (s3 t ht)
    have gt := inB_n (by omega : t < 5) (by decide : 5 ≤ 2 ^ 31)
    have hxt : ix (nI t) = t := ix_n (by omega)
    refine ⟨wI mx 24 t (if A 6 5 = t + 1 then -1 else nI (dg (A 6 0) (u_hm A) t)), ⟨fun q hq => (row_ne hq).trans (hI.1 q hq), fun c hc => ?_⟩, ?_⟩
    · rw [rI_w]
      by_cases ci : c = t
      · rw [if_pos ⟨rfl, ci⟩, ci]
      · rw [if_neg (fun z => ci z.2)]
        exact hI.2 c (by omega)
    · show f_X1_look_L145 _ (n + 1) _ _ = _
      conv => lhs; unfold f_X1_look_L145
      rw [Gu_of g, e, if_neg (n_head (n := 0) b2 ht), Gu_of g, Gu_of g, e2, Jp_d, hxt]
      by_cases c : A 6 5 = t + 1
      · rw [if_pos (by rw [g_eq (by omega) (by omega)]; exact c), if_pos c]
        dsimp only
        rw [Gu_of gt, Lt_d, Lt_d, n_s]
      · rw [if_neg (by rw [g_eq (by omega) (by omega)]; exact c), if_neg c, Gu_of gt, e3]
        dsimp only
        rw [Gu_of gt, Lt_d, Lt_d, n_s]) F m4 (by omega) ⟨fun q _ => rfl, fun i hi => absurd hi (Nat.not_lt_zero i)⟩
  have f5 : ∀ q, q ≠ 33 → q ≠ 24 → q ≠ 26 → m5.1 q = m2.1 q := fun q h1 h2 h3 => (u1 q h2).trans (f4 q h1 h2 h3)
  refine ⟨m5, u3, ⟨HO_fr (fun q h1 h2 => f5 q (by omega) (by omega) (by omega)) L2, (r_row (f5 17 (by decide) (by decide) (by decide)) 12).trans h12, u2, (r_row (f5 25 (by decide) (by decide) (by decide)) 10).trans h25, ?_, ?_, ?_, ?_, hml, hmv⟩, fun q hq => ?_⟩
  · exact (r_row (f5 25 (by decide) (by decide) (by decide)) 11).trans ((r_row (j1 25 (by decide)) 11).trans i3)
  · exact (r_row (f5 25 (by decide) (by decide) (by decide)) 12).trans ((r_row (j1 25 (by decide)) 12).trans i4)
  · exact fun i hi => (r_row (f5 32 (by decide) (by decide) (by decide)) i).trans ((r_row (j1 32 (by decide)) i).trans (i6 i hi))
  · intro c hc
    rw [r_row (u1 26 (by decide)), r_row (s2 26 (by decide)), k4 c hc]
    by_cases cv : u_val A c = true
    · rw [if_pos ⟨by rw [Nat.pow_zero, Nat.mod_one], cv⟩]
    · rw [if_neg (fun z => cv z.2), j2 c hc]
      unfold u_mk
      rw [if_neg cv]
      rfl
  · exact (f5 q (by omega) (by omega) (by omega)).trans ((j1 q (by omega)).trans (i1 q (by omega) (by omega) (by omega)))
