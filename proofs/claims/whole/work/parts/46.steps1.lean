/-! FEED, FORCE, COUNT -/
theorem h10 : ¬ (1 : Int32) = 0 := by decide
theorem i_if {α : Type} {x y : α} : (if (0 : Int32) = 0 then x else y) = x := if_pos rfl
theorem i_el {α : Type} {x y : α} : (if (1 : Int32) = 0 then x else y) = y := if_neg h10
theorem lo_hi (v lo hi : Int64) (m : MM) {a b : Int} (h1 : lo.toInt = a) (h2 : hi.toInt = b) : f_X6_in v lo hi m = some (if a ≤ v.toInt ∧ v.toInt ≤ b then 1 else 0) := by
  rw [in_sp, h1, h2]
theorem t_force {X : MM → MM → Nat → Prop} (hX : XF X) (mc mm : MM) (a0 : Int32) (R : RelX X mc mm) : ∃ r mc2 mm2, f_X5_force a0 mc = some (r, mc2) ∧ f_X6_force a0 mm = some (r, mm2) ∧ RelX X mc2 mm2 := by
  obtain ⟨A, n, r1, r2, r3, r4, r5, r6, r7, r8⟩ := id R
  have hn := r7.1
  unfold f_X5_force f_X6_force
  rw [r7.2.1, r7.2.2.1]
  rcases a_cs a0 n with ⟨k, hk, rfl⟩ | h
  · rw [wi_t hk (by omega), in_t hk (by omega) (hi_n (by omega)), bd1_s, bd1_s, i_el, i_el]
    simp only [Lt_d]
    rw [r1.2.2.2.2.1, r2.2.2.2.2.1]
    refine ⟨_, _, _, rfl, rfl, uA A 6 4 k, n, ?_, ?_, ?_, hk, RK_up (Nat.le_refl _) (fun K h => h) (RK_fr ?_ (fun q h1 h2 => row_ne (by omega)) (row_ne (by decide)) (fun i h => rI_nj (by omega)) r5), RT_fr (rI_ne (by decide)) (row_ne (by decide)) (rI_nj (by decide)) (row_ne (by decide)) r6, RX_fr hX (rI_ne (by decide)) (rI_nj (by decide)) (fun q h1 h2 h3 => row_ne (by omega)) (row_ne (by decide)) (row_ne (by decide)) r7, RS_fr (fun q h1 h2 => row_ne (by omega)) (fun q h1 h2 => row_ne (by omega)) r8⟩
    · obtain ⟨l1, l2, l3, l4, l5, l6, l7, l8⟩ := r1
      refine ⟨by simpa [rI_w, uA] using l1, by simpa [rI_w, uA] using l2, by simpa [rI_w, uA] using l3, by simpa [rI_w, uA] using l4, by simp [rI_w, uA], by simpa [rI_w, uA] using l6, ?_, ?_⟩
      · intro i hi
        have q := l7 i hi
        simpa [rI_w, uA, u_rm] using q
      · intro i hi
        have q := l8 i hi
        simpa [rI_w, uA] using q
    · obtain ⟨l1, l2, l3, l4, l5, l6, l7, l8, l9⟩ := r2
      refine ⟨by simpa [rI_w, uA] using l1, by simpa [rI_w, uA] using l2, by simpa [rI_w, uA] using l3, by simpa [rI_w, uA] using l4, by simp [rI_w, uA], by simpa [rI_w, uA] using l6, by simpa [rI_w, uA] using l7, ?_, ?_⟩
      · intro i hi
        have q := l8 i hi
        simpa [rI_w, uA] using q
      · intro i hi
        have q := l9 i hi
        simpa [rI_w, uA] using q
    · obtain ⟨⟨b1, b2, b3, b4, b5, b6, b7, b8, b9⟩, s, my, z1, z2⟩ := r3
      exact ⟨⟨b1, b2, b3, b4, (by show k < 6; omega), b6, b7, b8, b9⟩, s, my, z1, z2⟩
    · exact rI_ne (by decide)
  · rw [wi_f h (by omega), in_f h (hi_n (by omega)), bd1_s, bd1_s, if_pos rfl, if_pos rfl]
    exact ⟨_, _, _, rfl, rfl, R⟩
theorem t_count {X : MM → MM → Nat → Prop} (mc mm : MM) (a0 : Int32) (R : RelX X mc mm) : ∃ r, f_X5_count a0 mc = some r ∧ f_X6_count a0 mm = some r ∧ RelX X mc mm := by
  obtain ⟨A, n, r1, r2, r3, r4, r5, ⟨s, t1, t2, t3, t4⟩, r7, r8⟩ := id R
  unfold f_X5_count f_X6_count
  rw [r1.1, r1.2.1, r1.2.2.1, r1.2.2.2.1, r1.2.2.2.2.1, r2.1, r2.2.1, r2.2.2.1, r2.2.2.2.1, r2.2.2.2.2.1, r7.2.1, r7.2.2.1, t2, t3]
  rcases a_cs a0 7 with ⟨k, hk, rfl⟩ | h
  · rw [in_t hk (by omega) rfl, bd1_s, i_el]
    rcases (show k = 0 ∨ k = 1 ∨ k = 2 ∨ k = 3 ∨ k = 4 ∨ k = 5 ∨ k = 6 by omega) with rfl | rfl | rfl | rfl | rfl | rfl | rfl <;> exact ⟨_, rfl, rfl, R⟩
  · rw [in_f h rfl, bd1_s, if_pos rfl]
    have e : ∀ k, k < 7 → ¬ a0 = nI k := fun k hk z => h (by rw [z, nI_toInt (by omega)]; omega)
    rw [if_neg (show ¬ a0 = 0 from e 0 (by decide)), if_neg (show ¬ a0 = 1 from e 1 (by decide)), if_neg (show ¬ a0 = 2 from e 2 (by decide)), if_neg (show ¬ a0 = 3 from e 3 (by decide)), if_neg (show ¬ a0 = 4 from e 4 (by decide)), if_neg (show ¬ a0 = 5 from e 5 (by decide)), if_neg (show ¬ a0 = 6 from e 6 (by decide))]
    exact ⟨_, rfl, rfl, R⟩
theorem t_feed {X : MM → MM → Nat → Prop} (hX : XF X) (mc mm : MM) (a0 : Int32) (R : RelX X mc mm) : ∃ r mc2 mm2, f_X5_feed a0 mc = some (r, mc2) ∧ f_X6_feed a0 mm = some (r, mm2) ∧ RelX X mc2 mm2 := by
  obtain ⟨A, n, r1, r2, r3, r4, r5, ⟨s, t1, t2, t3, t4⟩, r7, r8⟩ := id R
  unfold f_X5_feed f_X6_feed f_X3_add
  rw [t2, t3]
  rcases a_cs a0 256 with ⟨k, hk, rfl⟩ | h
  · rw [show (256 : Int32) = nI 256 from rfl, wi_t hk (by omega), in_t hk (by omega) rfl, bd1_s, bd1_s, i_el, i_el, show (160 : Int32) = nI 160 from rfl]
    simp only [n_lt (show s < 2 ^ 31 by omega) (show 160 < 2 ^ 31 by omega), n_le (show 160 < 2 ^ 31 by omega) (show s < 2 ^ 31 by omega), n_eq (show s < 2 ^ 31 by omega) (show 160 < 2 ^ 31 by omega), Lt_d]
    by_cases c : s = 160
    · rw [if_neg (by omega), if_pos c]
      exact ⟨_, _, _, rfl, rfl, R⟩
    · have hx : ix (nI s) = s := ix_n (by omega)
      have g := inB_n (by omega : s < 160) (by decide)
      rw [if_pos (by omega), if_neg c, if_neg (by omega), Gu_of g, Gu_of g, bd1_s, hx, n_s]
      have e1 : rI (wI (wI mc 36 1 (nI (s + 1))) 37 s (nI k)) 36 1 = nI (s + 1) := by rw [rI_ne (by decide), rI_eq]
      have e2 : rI (wI mm 3 s (nI k)) 0 6 = nI s := by rw [rI_ne (by decide), t3]
      rw [e1, e2, n_s, rI_eq]
      refine ⟨_, _, _, rfl, rfl, A, n, LC_fr (fun q h1 h2 => (row_ne (by omega)).trans (row_ne (by omega))) r1, LM_fr (fun q h1 h2 => (row_ne (by omega)).trans (row_ne (by omega))) (fun i hi => (rI_nj (by omega)).trans (rI_ne (by decide))) r2, r3, r4, RK_fr ((rI_ne (by decide)).trans (rI_ne (by decide))) (fun q h1 h2 => (row_ne (by omega)).trans (row_ne (by omega))) ((row_ne (by omega)).trans (row_ne (by omega))) (fun i hi => (rI_nj (by omega)).trans (rI_ne (by decide))) r5, ⟨s + 1, by omega, e1, rI_eq, fun i hi => ?_⟩, RX_fr hX ((rI_ne (by decide)).trans (rI_ne (by decide))) ((rI_nj (by decide)).trans (rI_ne (by decide))) (fun q h1 h2 h3 => (row_ne (by omega)).trans (row_ne (by omega))) ((row_ne (by omega)).trans (row_ne (by omega))) ((row_ne (by omega)).trans (row_ne (by omega))) r7, RS_fr (fun q h1 h2 => (row_ne (by omega)).trans (row_ne (by omega))) (fun q h1 h2 => (row_ne (by omega)).trans (row_ne (by omega))) r8⟩
      rw [rI_w, rI_ne (by decide), rI_ne (by decide), rI_w]
      by_cases ci : i = s
      · rw [if_pos ⟨rfl, ci⟩, if_pos ⟨rfl, ci⟩, nI_toInt (by omega)]
        exact ⟨rfl, by omega, by omega⟩
      · rw [if_neg (fun z => ci z.2), if_neg (fun z => ci z.2)]
        exact t4 i (by omega)
  · rw [show (256 : Int32) = nI 256 from rfl, wi_f h (by omega), in_f h rfl, bd1_s, bd1_s, if_pos rfl, if_pos rfl]
    exact ⟨_, _, _, rfl, rfl, R⟩
