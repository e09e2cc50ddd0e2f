/-! TOLD, TAKEN -/
theorem lyingC {m : MM} {A : LT} {k h F : Nat} (hF : 6 ≤ F) (L : LC m k A) (B : AB A) (h0 : A 6 5 = 0) (hh : h < 5) : f_X0_lying F k (nI h) m = some (nI (mkP (u_p A (A 5) h) (A 6 1))) := by
  have b1 := B.1
  have b2 := B.2.1
  unfold f_X0_lying
  exact lying_L (p := u_p A (A 5) h) L.2.1 b2 (fun i hi => by
    have := (B.2.2.2.2.2.2.2.2 i hi).2.2.2.2
    rw [p_iff, (L.2.2.2.2.2.2.2 i hi).2.2.2, n_eq (by omega) (by omega), h0]
    exact ⟨fun z => z.2, fun z => ⟨by omega, z⟩⟩) _ (A 6 1) 0 F (by omega) (by omega)
theorem leftC {m : MM} {A : LT} {k h F : Nat} (hF : 6 ≤ F) (L : LC m k A) (B : AB A) (h0 : A 6 5 = 0) (hh : h < A 6 0) : f_X0_left F k (nI h) m = some (nI (u_rm A h) - nI (smP (u_p A (A 5) h) (A 2) (A 6 1))) := by
  have b1 := B.1
  have b2 := B.2.1
  have hx : ix (nI h) = h := ix_n (by omega)
  unfold f_X0_left
  rw [Gu_of (inB_n (by omega : h < 5) (by decide)), Lt_d, hx, (L.2.2.2.2.2.2.1 h hh).2.2]
  have e : nI (u_rm A h) = nI (u_rm A h) - nI (smP (u_p A (A 5) h) (A 2) 0) := (Int32.sub_zero _).symm
  rw [e]
  refine (left_L (p := u_p A (A 5) h) (z := A 2) L.2.1 b2 (fun i hi => by
    have := (B.2.2.2.2.2.2.2.2 i hi).2.2.2.2
    rw [p_iff, (L.2.2.2.2.2.2.2 i hi).2.2.2, n_eq (by omega) (by omega), h0]
    exact ⟨fun z => z.2, fun z => ⟨by omega, z⟩⟩) (fun i hi _ => (L.2.2.2.2.2.2.2 i hi).1) _ (A 6 1) 0 F (by omega) (by omega)).trans ?_
  rw [← e]
theorem wetC {m : MM} {A : LT} {k h : Nat} (L : LC m k A) (B : AB A) (hh : h < A 6 0) : f_X0_wet k (nI h) m = some (nI (u_we (A 0 h))) := by
  have b1 := B.1
  have hb := (B.2.2.2.2.2.2.2.1 h hh).1
  have hx : ix (nI h) = h := ix_n (by omega)
  have hy : ix (nI (A 0 h)) = A 0 h := ix_n (by omega)
  unfold f_X0_wet
  rw [Gu_of (inB_n (by omega : h < 5) (by decide)), hx, (L.2.2.2.2.2.2.1 h hh).1, Gu_of (inB_n hb (by decide)), hy, st2 _ hb]
theorem sizM {m : MM} {A : LT} {h F : Nat} (hF : 6 ≤ F) (L : LM m A) (B : AB A) : f_X6_sizeOf F (nI (mkP (u_p A (A 5) h) (A 6 1))) m = some (nI (smP (u_p A (A 5) h) (A 2) (A 6 1))) := by
  have b2 := B.2.1
  rw [sizeOf_sp (z := A 2) hF L.2.1 b2 (mk_32 b2) (fun i hi _ => (L.2.2.2.2.2.2.2.2 i hi).1), mk_sm]
theorem t_told {X : MM → MM → Nat → Prop} {F : Nat} (hF : 7 ≤ F) (mc mm : MM) (a0 a1 : Int32) (R : RelX X mc mm) : ∃ r, f_X5_told F a0 a1 mc = some r ∧ f_X6_told F a0 a1 mm = some r ∧ RelX X mc mm := by
  obtain ⟨A, n, r1, r2, r3, r4, r5, r6, r7, r8⟩ := id R
  have B := r3.1
  have h0 := r3.2.2.2.1
  obtain ⟨b1, b2, b3, b4, b5, b6, b7, b8, b9⟩ := id B
  unfold f_X5_told f_X6_told
  simp only [Jp_d]
  rcases a_cs a1 12 with ⟨w, hw, rfl⟩ | h
  · rw [in_t hw (by omega) rfl, bd1_s, i_el]
    by_cases w8 : w < 8
    · rw [if_neg (show ¬ nI w < 0 by rw [show (0 : Int32) = nI 0 from rfl, n_lt (by omega) (by omega)]; omega), if_neg (show ¬ 7 < nI w by rw [show (7 : Int32) = nI 7 from rfl, n_lt (by omega) (by omega)]; omega), if_pos (show nI w < 8 from (n_lt (b := 8) (by omega) (by omega)).mpr w8)]
      have g1 : ¬ (8 : Int32) ≤ nI w := by rw [show (8 : Int32) = nI 8 from rfl, n_le (by omega) (by omega)]; omega
      simp only [if_neg g1]
      rcases a_cs a0 (A 6 0) with ⟨h, hh, rfl⟩ | h
      · rw [hhC r1.1 b1 hh, hhM r2.1 b1 hh, bd1_s, bd1_s, i_el, i_el]
        have hx : ix (nI h) = h := ix_n (by omega)
        have g := inB_n (by omega : h < 5) (by decide : 5 ≤ 2 ^ 31)
        have hl := r1.2.2.2.2.2.2.1 h hh
        have hm := r2.2.2.2.2.2.2.2.1 h hh
        have hy : ix (nI (A 0 h)) = A 0 h := ix_n (by have := (b8 h hh).1; omega)
        have gk := inB_n (b8 h hh).1 (by decide : 6 ≤ 2 ^ 31)
        unfold f_X5_toldOfHold
        rw [hx, Gu_of g, hl.1, Gu_of gk, hy, st1 _ (b8 h hh).1, st3 _ (b8 h hh).1, wetC r1 B hh, lyingC (by omega) r1 B h0 (by omega), leftC (by omega) r1 B h0 hh, hm.1, hm.2, roomM r2 B hh, mostM r2 B hh, wetM r2 B hh, opensM r2 B hh, insideM (by omega) r2 B (by omega)]
        simp only [bd1_s, Gu_of g, Gu_of gk]
        rw [sizM (by omega) r2 B, hl.2.1, hl.2.2, bd1_s]
        rcases (show w = 0 ∨ w = 1 ∨ w = 2 ∨ w = 3 ∨ w = 4 ∨ w = 5 ∨ w = 6 ∨ w = 7 by omega) with rfl | rfl | rfl | rfl | rfl | rfl | rfl | rfl <;> exact ⟨_, rfl, rfl, R⟩
      · rw [hhC0 r1.1 b1 h, hhM0 r2.1 b1 h, bd1_s, bd1_s, i_if, i_if]
        exact ⟨_, rfl, rfl, R⟩
    · rw [if_neg (show ¬ nI w < 0 by rw [show (0 : Int32) = nI 0 from rfl, n_lt (by omega) (by omega)]; omega), if_pos (show 7 < nI w from (n_lt (a := 7) (by omega) (by omega)).mpr (by omega)), if_neg (show ¬ nI w < 8 by rw [show (8 : Int32) = nI 8 from rfl, n_lt (by omega) (by omega)]; omega), if_neg (show ¬ 11 < nI w by rw [show (11 : Int32) = nI 11 from rfl, n_lt (by omega) (by omega)]; omega)]
      have g1 : (8 : Int32) ≤ nI w := (n_le (a := 8) (by omega) (by omega)).mpr (by omega)
      have g2 : (6 : Int32) ≤ nI w := (n_le (a := 6) (by omega) (by omega)).mpr (by omega)
      simp only [if_pos g1, if_pos g2]
      rcases a_cs a0 (A 6 1) with ⟨h, hh, rfl⟩ | h
      · rw [htC r1.2.1 b2 hh, htM r2.2.1 b2 hh, bd1_s, bd1_s, i_el, i_el]
        have hx : ix (nI h) = h := ix_n (by omega)
        have g := inB_n (by omega : h < 5) (by decide : 5 ≤ 2 ^ 31)
        have hl := r1.2.2.2.2.2.2.2 h hh
        have hm := r2.2.2.2.2.2.2.2.2 h hh
        unfold f_X5_toldOfThing
        simp only [Gu_of g]
        rw [hx, hl.1, hl.2.1, hl.2.2.1, hl.2.2.2, hm.1, hm.2.1, hm.2.2.1, hm.2.2.2]
        rcases (show w = 8 ∨ w = 9 ∨ w = 10 ∨ w = 11 by omega) with rfl | rfl | rfl | rfl <;> exact ⟨_, rfl, rfl, R⟩
      · rw [htC0 r1.2.1 b2 h, htM0 r2.2.1 b2 h, bd1_s, bd1_s, i_if, i_if]
        exact ⟨_, rfl, rfl, R⟩
  · rw [in_f h rfl, bd1_s, i_if]
    refine ⟨-100, ?_, rfl, R⟩
    have e11 : (11 : Int32).toInt = 11 := rfl
    have e8 : (8 : Int32).toInt = 8 := rfl
    have e7 : (7 : Int32).toInt = 7 := rfl
    have e0 : (0 : Int32).toInt = 0 := rfl
    simp only [i_lt, e11, e8, e7, e0]
    by_cases c : a1.toInt < 0
    · rw [if_pos c, if_pos (by omega)]
    · rw [if_neg c, if_pos (by omega), if_neg (by omega), if_pos (by omega)]
