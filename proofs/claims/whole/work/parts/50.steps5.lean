/-! TAKEN -/
def u_anc (kd k : Nat) : Bool := kd == k || (k == 0) || (k == 1 && kd == 3) || (k == 2 && (kd == 4 || kd == 5))
theorem ancC {m : MM} {a : Int32} {N kd k : Nat} (hkd : kd < 6) (hk : k < 6) : f_X5_taken_L39 a (nI k) m (fun x3_6 x4_7 => some (-13 : Int32)) (N + 7) (nI kd) 0 = if u_anc kd k = true then Gu (inB a 5) (some (rI m 3 (ix a))) else some (-13) := by
  rcases (show kd = 0 ∨ kd = 1 ∨ kd = 2 ∨ kd = 3 ∨ kd = 4 ∨ kd = 5 by omega) with rfl | rfl | rfl | rfl | rfl | rfl <;>
  rcases (show k = 0 ∨ k = 1 ∨ k = 2 ∨ k = 3 ∨ k = 4 ∨ k = 5 by omega) with rfl | rfl | rfl | rfl | rfl | rfl <;> rfl
theorem ancM {m : MM} {a : Int32} {N kd k : Nat} (hkd : kd < 6) (hk : k < 6) : f_X6_taken_L33 (nI k) m (fun x3_6 => if x3_6 = nI k then Gu (inB a 5) <| some (rI m 5 (ix a)) else some (-13 : Int32)) (N + 7) (nI kd) = if u_anc kd k = true then Gu (inB a 5) (some (rI m 5 (ix a))) else some (-13) := by
  rcases (show kd = 0 ∨ kd = 1 ∨ kd = 2 ∨ kd = 3 ∨ kd = 4 ∨ kd = 5 by omega) with rfl | rfl | rfl | rfl | rfl | rfl <;>
  rcases (show k = 0 ∨ k = 1 ∨ k = 2 ∨ k = 3 ∨ k = 4 ∨ k = 5 by omega) with rfl | rfl | rfl | rfl | rfl | rfl <;> rfl
theorem t_taken {X : MM → MM → Nat → Prop} {F : Nat} (hF : 7 ≤ F) (mc mm : MM) (a0 a1 : Int32) (R : RelX X mc mm) : ∃ r, f_X5_taken F a0 a1 mc = some r ∧ f_X6_taken F a0 a1 mm = some r ∧ RelX X mc mm := by
  obtain ⟨A, n, r1, r2, r3, r4, r5, r6, r7, r8⟩ := id R
  have B := r3.1
  obtain ⟨b1, b2, b3, b4, b5, b6, b7, b8, b9⟩ := id B
  obtain ⟨F, rfl⟩ : ∃ k, F = k + 7 := ⟨F - 7, by omega⟩
  unfold f_X5_taken f_X6_taken
  rcases a_cs a1 6 with ⟨k, hk, rfl⟩ | h
  · rw [show (6 : Int32) = nI 6 from rfl, wi_t hk (by omega), in_t hk (by omega) rfl, bd1_s, bd1_s, i_el, i_el]
    rcases a_cs a0 (A 6 0) with ⟨h, hh, rfl⟩ | h
    · rw [hhC r1.1 b1 hh, hhM r2.1 b1 hh, bd1_s, bd1_s, i_el, i_el]
      have hx : ix (nI h) = h := ix_n (by omega)
      have g := inB_n (by omega : h < 5) (by decide : 5 ≤ 2 ^ 31)
      have hl := r1.2.2.2.2.2.2.1 h hh
      have hm := r2.2.2.2.2.2.2.2.1 h hh
      have e1 : rI mc 2 (ix (nI h)) = nI (A 0 h) := by rw [hx]; exact hl.1
      have e2 : rI mm 4 (ix (nI h)) = nI (A 0 h) := by rw [hx]; exact hm.1
      have e3 : rI mc 3 (ix (nI h)) = nI (A 1 h) := by rw [hx]; exact hl.2.1
      have e4 : rI mm 5 (ix (nI h)) = nI (A 1 h) := by rw [hx]; exact hm.2
      rw [Gu_of g, Gu_of g, Lt_d, Lt_d, e1, e2, ancC (b8 h hh).1 hk, ancM (b8 h hh).1 hk, Gu_of g, Gu_of g, e3, e4]
      cases u_anc (A 0 h) k <;> exact ⟨_, rfl, rfl, R⟩
    · rw [hhC0 r1.1 b1 h, hhM0 r2.1 b1 h, bd1_s, bd1_s, i_if, i_if]
      exact ⟨_, rfl, rfl, R⟩
  · rw [show (6 : Int32) = nI 6 from rfl, wi_f h (by omega), in_f h rfl, bd1_s, bd1_s, i_if, i_if]
    exact ⟨_, rfl, rfl, R⟩
