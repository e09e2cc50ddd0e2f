/-! HOLD, TOLD, TAKEN -/
theorem row_c {m m0 : MM} {k i q : Nat} {v : Int32} (h : q ≠ k) (g : m.1 q = m0.1 q) : (wI m k i v).1 q = m0.1 q := (row_ne h).trans g
theorem roomC {k v : Nat} (hk : k < 6) (hv : v < 10) (m : MM) : f_X5_roomOf (nI k) (nI v) m = some (nI (u_rm0 k v)) := by
  have e2 : ∀ v, v < 10 → nI v + 6 - 3 = nI (v + 3) := by decide +kernel
  have e3 : ∀ v, v < 10 → 2 * (nI v + 6) = nI (2 * (v + 6)) := by decide +kernel
  unfold f_X5_roomOf
  simp only [Lt_d]
  rw [e2 v hv, e3 v hv, show nI v + 6 = nI (v + 6) from nI_add v 6, div2_k _ (by omega), n_s, Gu_of (by decide : nz 2 = true)]
  unfold u_rm0
  rcases (show k = 0 ∨ k = 1 ∨ k = 2 ∨ k = 3 ∨ k = 4 ∨ k = 5 by omega) with rfl | rfl | rfl | rfl | rfl | rfl <;> rfl
theorem smP_0 {p : Nat → Bool} {z : Nat → Nat} : ∀ {n : Nat}, (∀ i, i < n → p i = false) → smP p z n = 0
  | 0, _ => rfl
  | n + 1, h => by
    have q : smP p z (n + 1) = smP p z n + (if p n = true then z n else 0) := rfl
    rw [q, smP_0 (fun i hi => h i (by omega)), h n (by omega)]
    rfl
theorem renumC {m : MM} {h v kd : Nat} (hh : h < 5) (hk : rI m 2 h = nI kd) (hkb : kd < 6) (hv : v < 10) : f_X0_renumber 1 (nI h) (nI v) m = some (wI (wI m 3 h (nI v)) 4 h (nI (u_rm0 kd v))) := by
  have hx : ix (nI h) = h := ix_n (by omega)
  have g := inB_n hh (by decide : 5 ≤ 2 ^ 31)
  unfold f_X0_renumber
  rw [Gu_of g, Lt_d, Gu_of g, hx]
  have e : rI (wI m (1 + 2) h (nI v)) (1 + 1) h = nI kd := by rw [rI_ne (by decide)]; exact hk
  rw [e, roomC hkb hv, bd1_s, Gu_of g, Lt_d]
theorem t_hold {X : MM → MM → Nat → Prop} (hX : XF X) (mc mm : MM) (a0 a1 : Int32) (R : RelX X mc mm) : ∃ r mc2 mm2, f_X5_hold a0 a1 mc = some (r, mc2) ∧ f_X6_hold a0 a1 mm = some (r, mm2) ∧ RelX X mc2 mm2 := by
  obtain ⟨A, n, r1, r2, r3, r4, r5, r6, r7, r8⟩ := id R
  have B := r3.1
  obtain ⟨b1, b2, b3, b4, b5, b6, b7, b8, b9⟩ := id B
  unfold f_X5_hold f_X6_hold
  rcases a_cs a0 6 with ⟨k, hk, rfl⟩ | h
  · rw [show (6 : Int32) = nI 6 from rfl, wi_t hk (by omega), in_t hk (by omega) rfl, bd1_s, bd1_s, i_el, i_el]
    rcases a_cs a1 10 with ⟨v, hv, rfl⟩ | h
    · rw [show (10 : Int32) = nI 10 from rfl, wi_t hv (by omega), in_t hv (by omega) rfl, bd1_s, bd1_s, i_el, i_el, r1.1, r2.1, show (5 : Int32) = nI 5 from rfl]
      simp only [n_lt (show A 6 0 < 2 ^ 31 by omega) (show 5 < 2 ^ 31 by omega), n_eq (show A 6 0 < 2 ^ 31 by omega) (show 5 < 2 ^ 31 by omega), Lt_d]
      by_cases c : A 6 0 = 5
      · rw [if_neg (by omega), if_pos c]
        exact ⟨_, _, _, rfl, rfl, R⟩
      · have hH : A 6 0 < 5 := by omega
        have hx : ix (nI (A 6 0)) = A 6 0 := ix_n (by omega)
        have g := inB_n hH (by decide : 5 ≤ 2 ^ 31)
        generalize hHd : A 6 0 = H at *
        rw [if_pos (by omega), if_neg c, Gu_of g, Gu_of g, hx]
        have e1 : rI (wI mc 2 H (nI k)) 1 7 = nI H := by rw [rI_ne (by decide)]; exact r1.1.trans (by rw [hHd])
        have e2 : rI (wI mm 4 H (nI k)) 0 9 = nI H := by rw [rI_ne (by decide)]; exact r2.1.trans (by rw [hHd])
        have e3 : rI (wI (wI mm 4 H (nI k)) 5 H (nI v)) 0 9 = nI H := by rw [rI_ne (by decide)]; exact e2
        rw [e1, renumC hH rI_eq hk hv, bd1_s, e2, Gu_of g, hx, e3]
        have e4 : rI (wI (wI (wI mc 2 H (nI k)) 3 H (nI v)) 4 H (nI (u_rm0 k v))) 1 7 = nI H := by rw [rI_ne (by decide), rI_ne (by decide)]; exact e1
        rw [e4, rI_eq, n_s, n_p]
        refine ⟨_, _, _, rfl, rfl, uA (uA (uA A 0 H k) 1 H v) 6 0 (H + 1), n, ?_, ?_, ?_, r4, RK_up (Nat.le_refl _) (fun K h => ?_) (RK_fr (by simp [rI_w]) (fun q h1 h2 => ?_) ?_ (fun i h => by simp [rI_w]; omega) r5), RT_fr (by simp [rI_w]) ?_ (by simp [rI_w]) ?_ r6, RX_fr hX (by simp [rI_w]) (by simp [rI_w]) (fun q h1 h2 h3 => ?_) ?_ ?_ r7, RS_fr (fun q h1 h2 => ?_) (fun q h1 h2 => ?_) r8⟩
        · obtain ⟨l1, l2, l3, l4, l5, l6, l7, l8⟩ := r1
          refine ⟨by simp [rI_w, uA], by simpa [rI_w, uA] using l2, by simpa [rI_w, uA] using l3, by simpa [rI_w, uA] using l4, by simpa [rI_w, uA] using l5, by simpa [rI_w, uA] using l6, ?_, ?_⟩
          · intro i hi
            have hi2 : i < H + 1 := hi
            by_cases e : i = H
            · subst e
              have : ¬ A 6 6 = i + 1 := by omega
              simp [rI_w, uA, u_rm, this]
            · have q := l7 i (by omega)
              simpa [rI_w, uA, u_rm, e] using q
          · intro i hi
            have q := l8 i hi
            simpa [rI_w, uA] using q
        · obtain ⟨l1, l2, l3, l4, l5, l6, l7, l8, l9⟩ := r2
          refine ⟨by simp [rI_w, uA], by simpa [rI_w, uA] using l2, by simpa [rI_w, uA] using l3, by simpa [rI_w, uA] using l4, by simpa [rI_w, uA] using l5, by simpa [rI_w, uA] using l6, by simpa [rI_w, uA] using l7, ?_, ?_⟩
          · intro i hi
            have hi2 : i < H + 1 := hi
            by_cases e : i = H
            · subst e
              simp [rI_w, uA]
            · have q := l8 i (by omega)
              simpa [rI_w, uA, e] using q
          · intro i hi
            have q := l9 i hi
            simpa [rI_w, uA] using q
        · obtain ⟨_, s, my, z1, z2⟩ := r3
          refine ⟨⟨(by show H + 1 ≤ 5; omega), b2, b3, b4, b5, b6, (by show A 6 6 ≤ H + 1; omega), fun i hi => ?_, fun i hi => ?_⟩, s, ⟨fun i hi => ?_, fun h hh => ?_, fun i hi hg => ?_, my.2.2.2⟩, z1, z2⟩
          · have hi2 : i < H + 1 := hi
            by_cases e : i = H
            · subst e
              simp [uA, hk, hv]
            · have q := b8 i (by omega)
              simpa [uA, e] using q
          · have q := b9 i hi
            refine ⟨q.1, q.2.1, q.2.2.1, q.2.2.2.1, ?_⟩
            show A 5 i < H + 1
            omega
          · have q := my.1 i hi
            show A 5 i < H + 1
            omega
          · have hh2 : h < H + 1 := hh
            by_cases e : h = H
            · have hp : ∀ i, i < A 6 1 → u_p A (A 5) h i = false := by
                intro i hi
                have q := (b9 i hi).2.2.2.2
                cases hq : u_p A (A 5) h i with
                | false => rfl
                | true => have := (p_iff.mp hq).2; omega
              constructor
              · show smP (u_p A (A 5) h) (A 2) (A 6 1) ≤ _
                rw [smP_0 hp]
                exact Nat.zero_le _
              · show ctP (u_p A (A 5) h) (A 6 1) ≤ _
                rw [ct_0.mpr hp]
                exact Nat.zero_le _
            · have q := my.2.1 h (by omega)
              have h6 : ¬ H = h := fun z => e z.symm
              have e2 : u_rm (uA (uA (uA A 0 H k) 1 H v) 6 0 (H + 1)) h = u_rm A h := by simp [uA, u_rm, e]
              have e3 : uA (uA (uA A 0 H k) 1 H v) 6 0 (H + 1) 0 h = A 0 h := by simp [uA, e]
              rw [e2, e3]
              exact q
          · have q := my.2.2.1 i hi hg
            have ha := (b9 i hi).2.2.2.2
            have h6 : ¬ A 5 i = H := by omega
            simpa [uA, h6] using q
        · refine ⟨?_, h.2.1, fun i hi => ?_, h.2.2.2⟩
          · show K 6 0 ≤ H + 1
            have := h.1
            omega
          · have q := h.2.2.1 i hi
            have := h.1
            have h6 : ¬ i = H := by omega
            simpa [uA, h6] using q
        all_goals (repeat' first | exact rfl | refine row_c (by omega) ?_)
    · rw [show (10 : Int32) = nI 10 from rfl, wi_f h (by omega), in_f h rfl, bd1_s, bd1_s, i_if, i_if]
      exact ⟨_, _, _, rfl, rfl, R⟩
  · rw [show (6 : Int32) = nI 6 from rfl, wi_f h (by omega), in_f h rfl, bd1_s, bd1_s, i_if, i_if]
    exact ⟨_, _, _, rfl, rfl, R⟩
