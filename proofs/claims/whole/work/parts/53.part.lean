/-! PART -/
def u_sb (a i s : Nat) : Nat := if s = 1 then a ||| 2 ^ i else a &&& (31 ^^^ 2 ^ i)
theorem sbC : ∀ a, a < 32 → ∀ i, i < 5 → ∀ s, s < 2 → (if nI s = 1 then some (nI a ||| shlI 1 (nI i)) else some (nI a &&& (shlI 1 (nI i) ^^^ -1))) = some (nI (u_sb a i s)) := by decide +kernel
theorem sbM : ∀ a, a < 32 → ∀ i, i < 5 → ∀ s, s < 2 → ((nI a &&& (shlI 1 (nI i) ^^^ -1)) ||| shlI (nI s) (nI i)) = nI (u_sb a i s) := by decide +kernel
theorem sb_bit : ∀ a, a < 32 → ∀ i, i < 5 → ∀ s, s < 2 → ∀ j, j < 5 → (u_sb a i s).testBit j = if j = i then s == 1 else a.testBit j := by decide +kernel
theorem sb_lt (T : Nat) (hT : T < 6) (a : Nat) (ha : a < 32) (h1 : a < 2 ^ T) (i : Nat) (hi : i < 5) (h2 : i < T) (s : Nat) (hs : s < 2) : u_sb a i s < 2 ^ T := by
  unfold u_sb
  split
  · exact Nat.or_lt_two_pow h1 (Nat.pow_lt_pow_right (by decide) h2)
  · exact Nat.lt_of_le_of_lt Nat.and_le_left h1
theorem KA_up {K A A2 : LT} (h0 : A 6 0 ≤ A2 6 0) (h1 : A 6 1 ≤ A2 6 1) (hk : ∀ i, i < A 6 0 → A2 0 i = A 0 i) (hs : ∀ i, i < A 6 1 → A2 2 i = A 2 i) (h : KA K A) : KA K A2 := by
  obtain ⟨a, b, c, d⟩ := h
  exact ⟨by omega, by omega, fun i hi => (c i hi).trans (hk i (by omega)).symm, fun i hi => (d i hi).trans (hs i (by omega)).symm⟩
theorem t_part {X : MM → MM → Nat → Prop} (hX : XF X) (mc mm : MM) (a0 a1 a2 : Int32) (R : RelX X mc mm) : ∃ r mc2 mm2, f_X5_part a0 a1 a2 mc = some (r, mc2) ∧ f_X6_part a0 a1 a2 mm = some (r, mm2) ∧ RelX X mc2 mm2 := by
  obtain ⟨A, n, r1, r2, r3, r4, r5, r6, r7, r8⟩ := id R
  have B := r3.1
  obtain ⟨b1, b2, b3, b4, b5, b6, b7, b8, b9⟩ := id B
  unfold f_X5_part f_X6_part
  rcases a_cs a0 (A 6 1) with ⟨t, ht, rfl⟩ | h
  · rw [htC r1.2.1 b2 ht, htM r2.2.1 b2 ht, bd1_s, bd1_s, i_el, i_el]
    rcases a_cs a1 (A 6 1) with ⟨o, ho, rfl⟩ | h
    · rw [htC r1.2.1 b2 ho, htM r2.2.1 b2 ho, bd1_s, bd1_s, i_el, i_el]
      by_cases c1 : nI t = nI o
      · rw [if_pos c1, if_pos c1]
        exact ⟨_, _, _, rfl, rfl, R⟩
      · rw [if_neg c1, if_neg c1]
        have hto : ¬ t = o := fun z => c1 (by rw [z])
        rcases a_cs a2 2 with ⟨s, hs, rfl⟩ | h
        · rw [show (2 : Int32) = nI 2 from rfl, wi_t hs (by omega), in_t hs (by omega) rfl, bd1_s, bd1_s, i_el, i_el]
          have hx : ix (nI t) = t := ix_n (by omega)
          have hy : ix (nI o) = o := ix_n (by omega)
          have g := inB_n (by omega : t < 5) (by decide : 5 ≤ 2 ^ 31)
          have g' := inB_n (by omega : o < 5) (by decide : 5 ≤ 2 ^ 31)
          have lt := r1.2.2.2.2.2.2.2 t ht
          have lo := r1.2.2.2.2.2.2.2 o ho
          have mt := r2.2.2.2.2.2.2.2.2 t ht
          have mo := r2.2.2.2.2.2.2.2.2 o ho
          have bt := b9 t ht
          have bo := b9 o ho
          have p5 : 2 ^ A 6 1 ≤ 2 ^ 5 := Nat.pow_le_pow_right (by decide) b2
          have t32 : A 4 t < 32 := by omega
          have o32 : A 4 o < 32 := by omega
          simp only [Gu_of g, Gu_of g', Jp_d, Lt_d]
          rw [hx, hy]
          have e1 : rI mc 7 t = nI (A 4 t) := lt.2.2.1
          have e2 : rI mc 8 t = nI (A 5 t) := lt.2.2.2
          have e3 : rI mc 8 o = nI (A 5 o) := lo.2.2.2
          have e4 : rI mc 7 o = nI (A 4 o) := lo.2.2.1
          unfold f_X5_withBit
          rw [e1, e2, e3, mt.2.2.1, mt.2.2.2, mo.2.2.2, sbC _ t32 o (by omega) s hs, bd1_s, sbM _ t32 o (by omega) s hs]
          have e5 : rI (wI mc 7 t (nI (u_sb (A 4 t) o s))) 7 o = nI (A 4 o) := by rw [rI_nj (by omega), e4]
          have e6 : rI (wI mm 9 t (nI (u_sb (A 4 t) o s))) 9 o = nI (A 4 o) := by rw [rI_nj (by omega), mo.2.2.1]
          rw [e5, e6, sbC _ o32 t (by omega) s hs, bd1_s, sbM _ o32 t (by omega) s hs]
          have fin : (s = 1 → A 5 t ≠ A 5 o) → ∃ r mc2 mm2, some (shrI (nI (A 4 t)) (nI o) &&& 1, wI (wI mc 7 t (nI (u_sb (A 4 t) o s))) 7 o (nI (u_sb (A 4 o) t s))) = some (r, mc2) ∧ some (shrI (nI (A 4 t)) (nI o) &&& 1, wI (wI mm 9 t (nI (u_sb (A 4 t) o s))) 9 o (nI (u_sb (A 4 o) t s))) = some (r, mm2) ∧ RelX X mc2 mm2 := by
            intro hne
            have hot : ¬ o = t := fun z => hto z.symm
            refine ⟨_, _, _, rfl, rfl, uA (uA A 4 t (u_sb (A 4 t) o s)) 4 o (u_sb (A 4 o) t s), n, ?_, ?_, ?_, r4, RK_up (Nat.le_refl _) (fun K h => h) (RK_fr (by simp [rI_w]) (fun q h1 h2 => ?_) ?_ (fun i h => by simp [rI_w]) r5), RT_fr (by simp [rI_w]) ?_ (by simp [rI_w]) ?_ r6, RX_fr hX (by simp [rI_w]) (by simp [rI_w]) (fun q h1 h2 h3 => ?_) ?_ ?_ r7, RS_fr (fun q h1 h2 => ?_) (fun q h1 h2 => ?_) r8⟩
            · obtain ⟨l1, l2, l3, l4, l5, l6, l7, l8⟩ := r1
              refine ⟨by simpa [rI_w, uA] using l1, by simpa [rI_w, uA] using l2, by simpa [rI_w, uA] using l3, by simpa [rI_w, uA] using l4, by simpa [rI_w, uA] using l5, by simpa [rI_w, uA] using l6, ?_, ?_⟩
              · intro i hi
                have q := l7 i hi
                simpa [rI_w, uA, u_rm] using q
              · intro i hi
                have q := l8 i hi
                by_cases c2 : i = o
                · subst c2
                  simpa [rI_w, uA] using ⟨q.1, q.2.1, q.2.2.2⟩
                · by_cases c3 : i = t
                  · subst c3
                    simpa [rI_w, uA, c2] using ⟨q.1, q.2.1, q.2.2.2⟩
                  · simpa [rI_w, uA, c2, c3] using q
            · obtain ⟨l1, l2, l3, l4, l5, l6, l7, l8, l9⟩ := r2
              refine ⟨by simpa [rI_w, uA] using l1, by simpa [rI_w, uA] using l2, by simpa [rI_w, uA] using l3, by simpa [rI_w, uA] using l4, by simpa [rI_w, uA] using l5, by simpa [rI_w, uA] using l6, by simpa [rI_w, uA] using l7, ?_, ?_⟩
              · intro i hi
                have q := l8 i hi
                simpa [rI_w, uA] using q
              · intro i hi
                have q := l9 i hi
                by_cases c2 : i = o
                · subst c2
                  simpa [rI_w, uA] using ⟨q.1, q.2.1, q.2.2.2⟩
                · by_cases c3 : i = t
                  · subst c3
                    simpa [rI_w, uA, c2] using ⟨q.1, q.2.1, q.2.2.2⟩
                  · simpa [rI_w, uA, c2, c3] using q
            · obtain ⟨_, sy, my, z1, z2⟩ := r3
              have va : ∀ i, uA (uA A 4 t (u_sb (A 4 t) o s)) 4 o (u_sb (A 4 o) t s) 4 i = if i = o then u_sb (A 4 o) t s else if i = t then u_sb (A 4 t) o s else A 4 i := by
                intro i
                by_cases c2 : i = o <;> by_cases c3 : i = t <;> simp [uA, c2, c3]
              have vb : ∀ i j, i < A 6 1 → j < A 6 1 → (uA (uA A 4 t (u_sb (A 4 t) o s)) 4 o (u_sb (A 4 o) t s) 4 i).testBit j = if (i = o ∧ j = t) ∨ (i = t ∧ j = o) then s == 1 else (A 4 i).testBit j := by
                intro i j hi hj
                rw [va]
                by_cases c2 : i = o
                · subst c2
                  rw [if_pos rfl, sb_bit _ o32 t (by omega) s hs j (by omega)]
                  by_cases c4 : j = t
                  · rw [if_pos c4, if_pos (Or.inl ⟨rfl, c4⟩)]
                  · rw [if_neg c4, if_neg (by omega)]
                · rw [if_neg c2]
                  by_cases c3 : i = t
                  · subst c3
                    rw [if_pos rfl, sb_bit _ t32 o (by omega) s hs j (by omega)]
                    by_cases c4 : j = o
                    · rw [if_pos c4, if_pos (Or.inr ⟨rfl, c4⟩)]
                    · rw [if_neg c4, if_neg (by omega)]
                  · rw [if_neg c3, if_neg (by omega)]
              refine ⟨⟨b1, b2, b3, b4, b5, b6, b7, b8, fun i hi => ?_⟩, fun i j hi hj => ?_, ⟨my.1, my.2.1, my.2.2.1, fun i j hi hj hg1 hg2 he => ?_⟩, z1, z2⟩
              · have q := b9 i hi
                refine ⟨q.1, q.2.1, q.2.2.1, ?_, q.2.2.2.2⟩
                show uA (uA A 4 t (u_sb (A 4 t) o s)) 4 o (u_sb (A 4 o) t s) 4 i < 2 ^ A 6 1
                rw [va]
                split
                · exact sb_lt _ (by omega) _ o32 bo.2.2.2.1 t (by omega) ht s hs
                · split
                  · exact sb_lt _ (by omega) _ t32 bt.2.2.2.1 o (by omega) ho s hs
                  · exact q.2.2.2.1
              · have hi2 : i < A 6 1 := hi
                have hj2 : j < A 6 1 := hj
                rw [vb i j hi2 hj2, vb j i hj2 hi2, vb i i hi2 hi2]
                have q := sy i j hi2 hj2
                constructor
                · by_cases c2 : (i = o ∧ j = t) ∨ (i = t ∧ j = o)
                  · rw [if_pos c2, if_pos (by omega)]
                  · rw [if_neg c2, if_neg (by omega)]
                    exact q.1
                · rw [if_neg (by omega)]
                  exact q.2
              · have hi2 : i < A 6 1 := hi
                have hj2 : j < A 6 1 := hj
                rw [vb i j hi2 hj2]
                have he2 : A 5 i = A 5 j := he
                by_cases c2 : (i = o ∧ j = t) ∨ (i = t ∧ j = o)
                · rw [if_pos c2]
                  have : ¬ s = 1 := by
                    intro z
                    have := hne z
                    rcases c2 with ⟨rfl, rfl⟩ | ⟨rfl, rfl⟩
                    · exact this he2.symm
                    · exact this he2
                  simpa using this
                · rw [if_neg c2]
                  exact my.2.2.2 i j hi hj hg1 hg2 he
            all_goals (repeat' first | exact rfl | refine row_c (by omega) ?_)
          by_cases c2 : nI s = 1
          · rw [if_pos c2, if_pos c2]
            simp only [n_eq (show A 5 t < 2 ^ 31 by omega) (show A 5 o < 2 ^ 31 by omega)]
            by_cases c3 : A 5 t = A 5 o
            · rw [if_pos c3, if_pos c3]
              exact ⟨_, _, _, rfl, rfl, R⟩
            · rw [if_neg c3, if_neg c3]
              exact fin (fun _ => c3)
          · rw [if_neg c2, if_neg c2]
            exact fin (fun z => absurd (by rw [z]; rfl) c2)
        · rw [show (2 : Int32) = nI 2 from rfl, wi_f h (by omega), in_f h rfl, bd1_s, bd1_s, i_if, i_if]
          exact ⟨_, _, _, rfl, rfl, R⟩
    · rw [htC0 r1.2.1 b2 h, htM0 r2.2.1 b2 h, bd1_s, bd1_s, i_if, i_if]
      exact ⟨_, _, _, rfl, rfl, R⟩
  · rw [htC0 r1.2.1 b2 h, htM0 r2.2.1 b2 h, bd1_s, bd1_s, i_if, i_if]
    exact ⟨_, _, _, rfl, rfl, R⟩
