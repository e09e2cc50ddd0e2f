/-! CELL, COPY -/
theorem isMC {m : MM} {k : Nat} : f_X2_isMissing k m = some (if rI m k 1 = -1 then 1 else 0) := by
  unfold f_X2_isMissing
  split <;> rfl
theorem t_cell {X : MM → MM → Nat → Prop} (hX : XF X) (mc mm : MM) (a0 a1 a2 : Int32) (R : RelX X mc mm) : ∃ r mc2 mm2, f_X5_cell a0 a1 a2 mc = some (r, mc2) ∧ f_X6_cell a0 a1 a2 mm = some (r, mm2) ∧ RelX X mc2 mm2 := by
  have r8 : RS mc mm := by
    obtain ⟨A, n, r1, r2, r3, r4, r5, r6, r7, r8⟩ := R
    exact r8
  unfold f_X5_cell f_X6_cell
  rcases a_cs a0 4 with ⟨s, hs, rfl⟩ | h
  · have hx : ix (nI s) = s := ix_n (by omega)
    have g := inB_n hs (by decide : 4 ≤ 2 ^ 31)
    rw [show (4 : Int32) = nI 4 from rfl, wi_t hs (by omega), shM hs, bd1_s, bd1_s, i_el, i_el, Gu_of g, Gu_of g, hx, isMC, bd1_s]
    rcases r8 s hs with ⟨q1, q2⟩ | ⟨so, n, q1, q2, q3, q4, q5, q6, q7, q8⟩
    · rw [q1, q2, i_if, if_pos rfl, i_el]
      exact ⟨_, _, _, rfl, rfl, R⟩
    · rw [q3, q4, q5, q6, q7, i_el, if_neg (n_ne1 (by omega)), i_if, Gu_of g]
      rcases a_cs a1 n with ⟨i, hi, rfl⟩ | h
      · rw [wi_t hi (by omega), in_t hi (by omega) (hi_n (by omega)), bd1_s, bd1_s, i_el, i_el, Gu_of g]
        simp only [Gu_of g, Jp_d, Lt_d]
        have e40 : (40 : Int32) * nI s + nI i = nI (40 * s + i) := by
          rw [show (40 : Int32) = nI 40 from rfl, n_mul, nI_add]
        have hy : ix (nI (40 * s + i)) = 40 * s + i := ix_n (by omega)
        have hz : ix (nI i) = i := ix_n (by omega)
        have fin : ∀ v : Int32, RelX X (wI mc (64 + 2 * s + 1) i v) (wI mm 22 (40 * s + i) v) := fun v => by
          refine RelX_sh hX (fun q hq => row_ne (by omega)) (fun q hq => row_ne (by omega)) R (fun i2 hi2 => ?_)
          rcases r8 i2 hi2 with ⟨z1, z2⟩ | ⟨so2, n2, z1, z2, z3, z4, z5, z6, z7, z8⟩
          · exact Or.inl ⟨(rI_ne (by omega)).trans z1, (rI_ne (by decide)).trans z2⟩
          · refine Or.inr ⟨so2, n2, z1, z2, (rI_ne (by decide)).trans z3, (rI_ne (by omega)).trans z4, (rI_ne (by decide)).trans z5, (rI_ne (by omega)).trans z6, (rI_ne (by decide)).trans z7, fun j hj => ?_⟩
            rw [rI_w, rI_w]
            by_cases c : i2 = s ∧ j = i
            · rw [if_pos ⟨by omega, c.2⟩, if_pos ⟨rfl, by omega⟩]
            · rw [if_neg (by omega), if_neg (by omega)]
              exact z8 j hj
        have gg := inB_n (by omega : 40 * s + i < 160) (by decide : 160 ≤ 2 ^ 31)
        rw [e40]
        simp only [Gu_of gg, hy]
        unfold f_X2_put
        have gi := inB_n (by omega : i < 40) (by decide : 40 ≤ 2 ^ 31)
        rw [q4]
        simp only [Lt_d, Gu_of gi, hz]
        rcases (show so = 0 ∨ so = 1 ∨ so = 2 by omega) with rfl | rfl | rfl
        · exact ⟨_, _, _, rfl, rfl, fin _⟩
        · exact ⟨_, _, _, rfl, rfl, fin _⟩
        · exact ⟨_, _, _, rfl, rfl, fin _⟩
      · rw [wi_f h (by omega), in_f h (hi_n (by omega)), bd1_s, bd1_s, i_if, i_if]
        exact ⟨_, _, _, rfl, rfl, R⟩
  · rw [show (4 : Int32) = nI 4 from rfl, wi_f h (by omega), shM0 h, bd1_s, bd1_s, i_if, i_if]
    exact ⟨_, _, _, rfl, rfl, R⟩
theorem copy121 {s o i j n u F : Nat} (hs : s < 4) (ho : o < 4) (hi : i + n ≤ 40) (hj : j + n ≤ 40) (hu : (u = 0 ∧ (s = o → j ≤ i)) ∨ (u = 1 ∧ s = o ∧ i < j)) (hF : 41 ≤ F) (m : MM) : ∃ m2, f_X6_copy_L121 (nI s) (nI i) (nI o) (nI j) (nI n) (nI u) (fun x7_7 m8 => some (nI n, m8)) F 0 m = some (nI n, m2) ∧ (∀ q, q ≠ 22 → m2.1 q = m.1 q) ∧ (∀ k, rI m2 22 k = if 40 * o + j ≤ k ∧ k < 40 * o + j + n then rI m 22 (40 * s + i + (k - (40 * o + j))) else rI m 22 k) := by
  have key : ∀ d x f m1, x + d = n → d < f → (∀ k, rI m1 22 k = if 40 * o + j ≤ k ∧ k < 40 * o + j + n ∧ ((u = 0 ∧ k < 40 * o + j + x) ∨ (u = 1 ∧ 40 * o + j + n ≤ k + x)) then rI m 22 (40 * s + i + (k - (40 * o + j))) else rI m 22 k) → ∃ m2, f_X6_copy_L121 (nI s) (nI i) (nI o) (nI j) (nI n) (nI u) (fun x7_7 m8 => some (nI n, m8)) f (nI x) m1 = some (nI n, m2) ∧ (∀ q, q ≠ 22 → m2.1 q = m1.1 q) ∧ (∀ k, rI m2 22 k = if 40 * o + j ≤ k ∧ k < 40 * o + j + n then rI m 22 (40 * s + i + (k - (40 * o + j))) else rI m 22 k) := by
    intro d
    induction d with
    | zero =>
      intro x f m1 hx hf hm
      obtain ⟨f, rfl⟩ : ∃ k, f = k + 1 := ⟨f - 1, by omega⟩
      have : x = n := by omega
      subst this
      unfold f_X6_copy_L121
      rw [if_pos (Int32.le_refl _)]
      refine ⟨m1, rfl, fun q hq => rfl, fun k => ?_⟩
      rw [hm]
      by_cases c : 40 * o + j ≤ k ∧ k < 40 * o + j + x
      · rw [if_pos c, if_pos (by omega)]
      · rw [if_neg c, if_neg (by omega)]
    | succ d ih =>
      intro x f m1 hx hf hm
      obtain ⟨f, rfl⟩ : ∃ k, f = k + 1 := ⟨f - 1, by omega⟩
      unfold f_X6_copy_L121
      rw [if_neg (show ¬ nI n ≤ nI x by rw [n_le (by omega) (by omega)]; omega)]
      simp only [Jp_d, Lt_d]
      obtain ⟨y, hyu, e1⟩ : ∃ y, ((u = 0 ∧ y = x) ∨ (u = 1 ∧ y = n - 1 - x)) ∧ ∀ G : Int32 → Option (Int32 × MM), (if nI u = 0 then G (nI x) else G ((nI n - 1) - nI x)) = G (nI y) := by
        rcases hu with ⟨rfl, _⟩ | ⟨rfl, _⟩
        · exact ⟨x, Or.inl ⟨rfl, rfl⟩, fun G => if_pos rfl⟩
        · have h1 : (1 : Int32).toInt = 1 := rfl
          have e : nI n - 1 - nI x = nI (n - 1 - x) := by
            have e2 : (nI n - 1).toInt = (n : Int) - 1 := by rw [i_sub (by rw [nI_toInt (by omega), h1]; omega) (by rw [nI_toInt (by omega), h1]; omega), nI_toInt (by omega), h1]
            rw [i_eq, i_sub (by rw [e2, nI_toInt (by omega)]; omega) (by rw [e2, nI_toInt (by omega)]; omega), e2, nI_toInt (by omega), nI_toInt (by omega)]
            omega
          refine ⟨n - 1 - x, Or.inr ⟨rfl, rfl⟩, fun G => ?_⟩
          rw [← e]
          exact if_neg (by decide)
      refine Eq.mpr (congrArg (fun z => ∃ m2, z = some (nI n, m2) ∧ (∀ q, q ≠ 22 → m2.1 q = m1.1 q) ∧ (∀ k, rI m2 22 k = if 40 * o + j ≤ k ∧ k < 40 * o + j + n then rI m 22 (40 * s + i + (k - (40 * o + j))) else rI m 22 k)) (e1 (fun s10 => Gu (inB ((((40 : Int32) * nI s) + nI i) + s10) 160) <| Gu (inB ((((40 : Int32) * nI o) + nI j) + s10) 160) <| f_X6_copy_L121 (nI s) (nI i) (nI o) (nI j) (nI n) (nI u) (fun x7_7 m8 => some (nI n, m8)) f (nI x + 1) (wI m1 22 (ix ((((40 : Int32) * nI o) + nI j) + s10)) (rI m1 22 (ix ((((40 : Int32) * nI s) + nI i) + s10))))))) ?_
      have hyn : y < n := by omega
      have f1 : (40 : Int32) * nI s + nI i + nI y = nI (40 * s + i + y) := by
        rw [show (40 : Int32) = nI 40 from rfl, n_mul, nI_add, nI_add]
      have f2 : (40 : Int32) * nI o + nI j + nI y = nI (40 * o + j + y) := by
        rw [show (40 : Int32) = nI 40 from rfl, n_mul, nI_add, nI_add]
      show ∃ m2, (Gu (inB ((40 : Int32) * nI s + nI i + nI y) 160) <| Gu (inB ((40 : Int32) * nI o + nI j + nI y) 160) <| f_X6_copy_L121 (nI s) (nI i) (nI o) (nI j) (nI n) (nI u) (fun x7_7 m8 => some (nI n, m8)) f (nI x + 1) (wI m1 22 (ix ((40 : Int32) * nI o + nI j + nI y)) (rI m1 22 (ix ((40 : Int32) * nI s + nI i + nI y))))) = some (nI n, m2) ∧ _
      rw [f1, f2, Gu_of (inB_n (by omega : 40 * s + i + y < 160) (by decide)), Gu_of (inB_n (by omega : 40 * o + j + y < 160) (by decide)), ix_n (by omega), ix_n (by omega), n_s]
      have hsrc : rI m1 22 (40 * s + i + y) = rI m 22 (40 * s + i + y) := by
        rw [hm, if_neg]
        rintro ⟨z1, z2, z3⟩
        rcases hu with ⟨rfl, h2⟩ | ⟨rfl, h2, h3⟩
        · have hso : s = o := by omega
          have := h2 hso
          omega
        · omega
      obtain ⟨m2, p1, p2, p3⟩ := ih (x + 1) f (wI m1 22 (40 * o + j + y) (rI m1 22 (40 * s + i + y))) (by omega) (by omega) (fun k => by
        rw [rI_w, hsrc, hm]
        by_cases c : k = 40 * o + j + y
        · rw [if_pos ⟨rfl, c⟩]
          rw [if_pos (by omega)]
          congr 1
          omega
        · rw [if_neg (fun z => c z.2)]
          have : (40 * o + j ≤ k ∧ k < 40 * o + j + n ∧ ((u = 0 ∧ k < 40 * o + j + x) ∨ (u = 1 ∧ 40 * o + j + n ≤ k + x))) ↔ (40 * o + j ≤ k ∧ k < 40 * o + j + n ∧ ((u = 0 ∧ k < 40 * o + j + (x + 1)) ∨ (u = 1 ∧ 40 * o + j + n ≤ k + (x + 1)))) := by omega
          by_cases c2 : (40 * o + j ≤ k ∧ k < 40 * o + j + n ∧ ((u = 0 ∧ k < 40 * o + j + x) ∨ (u = 1 ∧ 40 * o + j + n ≤ k + x)))
          · rw [if_pos c2, if_pos (this.mp c2)]
          · rw [if_neg c2, if_neg (fun z => c2 (this.mpr z))])
      exact ⟨m2, p1, fun q hq => (p2 q hq).trans (row_ne hq), p3⟩
  exact key n 0 F m (by omega) (by omega) (fun k => by
    rw [if_neg]
    rcases hu with ⟨rfl, h2⟩ | ⟨rfl, h2, h3⟩ <;> omega)
theorem hpC {m : MM} {k sz : Nat} {a b : Int32} (h : rI m k 2 = nI sz) (hs : sz ≤ 40) : f_X2_hasPart k a b m = some (if 0 ≤ a.toInt ∧ 0 ≤ b.toInt ∧ a.toInt + b.toInt ≤ sz then 1 else 0) := by
  have e0 : (0 : Int32).toInt = 0 := rfl
  have hb := i_rng b
  unfold f_X2_hasPart
  rw [h]
  simp only [i_lt, e0, nI_toInt (show sz < 2 ^ 31 by omega)]
  by_cases c1 : a.toInt < 0
  · rw [if_pos c1, if_neg (by omega)]
  · rw [if_neg c1]
    by_cases c2 : b.toInt < 0
    · rw [if_pos c2, if_neg (by omega)]
    · rw [if_neg c2]
      by_cases c3 : (sz : Int) < b.toInt
      · rw [if_pos c3, if_neg (by omega)]
      · rw [if_neg c3, i_sub (by rw [nI_toInt (by omega)]; omega) (by rw [nI_toInt (by omega)]; omega), nI_toInt (by omega)]
        by_cases c4 : (sz : Int) - b.toInt < a.toInt
        · rw [if_pos c4, if_neg (by omega)]
        · rw [if_neg c4, if_pos (by omega)]
theorem t_copy {X : MM → MM → Nat → Prop} (hX : XF X) {F : Nat} (hF : 41 ≤ F) (mc mm : MM) (a0 a1 a2 a3 a4 : Int32) (R : RelX X mc mm) : ∃ r mc2 mm2, f_X5_copy a0 a1 a2 a3 a4 mc = some (r, mc2) ∧ f_X6_copy F a0 a1 a2 a3 a4 mm = some (r, mm2) ∧ RelX X mc2 mm2 := by
  have r8 : RS mc mm := by
    obtain ⟨A, n, r1, r2, r3, r4, r5, r6, r7, r8⟩ := R
    exact r8
  have e0 : (0 : Int32).toInt = 0 := rfl
  unfold f_X5_copy f_X6_copy
  rcases a_cs a0 4 with ⟨s, hs, rfl⟩ | h
  · rw [show (4 : Int32) = nI 4 from rfl, wi_t hs (by omega), shM hs, bd1_s, bd1_s, i_el, i_el]
    rcases a_cs a2 4 with ⟨o, ho, rfl⟩ | h
    · have hx : ix (nI s) = s := ix_n (by omega)
      have hy : ix (nI o) = o := ix_n (by omega)
      have g := inB_n hs (by decide : 4 ≤ 2 ^ 31)
      have g' := inB_n ho (by decide : 4 ≤ 2 ^ 31)
      rw [wi_t ho (by omega), shM ho, bd1_s, bd1_s, i_el, i_el]
      simp only [Gu_of g, Gu_of g']
      rw [hx, hy, isMC, isMC, bd1_s, bd1_s]
      rcases r8 s hs with ⟨q1, q2⟩ | ⟨so, n, q1, q2, q3, q4, q5, q6, q7, q8⟩
      · rw [q1, q2, i_if, if_pos rfl, i_el]
        exact ⟨_, _, _, rfl, rfl, R⟩
      · rw [q3, q4, q5, i_el, if_neg (n_ne1 (by omega)), i_if]
        rcases r8 o ho with ⟨p1, p2⟩ | ⟨so2, n2, p1, p2, p3, p4, p5, p6, p7, p8⟩
        · rw [p1, p2, i_if, if_pos rfl, i_el]
          exact ⟨_, _, _, rfl, rfl, R⟩
        · rw [p3, p4, p5, i_el, if_neg (n_ne1 (by omega)), i_if]
          by_cases cs : nI so = nI so2
          · rw [if_pos cs, if_pos cs, hpC q6 q2, hpC p6 p2, bd1_s, bd1_s, q7, p7]
            have hb := i_rng a4
            simp only [i_lt, i_le, e0]
            by_cases c1 : 0 ≤ a1.toInt ∧ 0 ≤ a4.toInt ∧ a1.toInt + a4.toInt ≤ n
            · rw [if_pos c1, i_el]
              by_cases c2 : 0 ≤ a3.toInt ∧ 0 ≤ a4.toInt ∧ a3.toInt + a4.toInt ≤ n2
              · rw [if_pos c2, i_el]
                obtain ⟨i, hi, rfl⟩ := n_of (a := a1) (n := 41) c1.1 (by omega)
                obtain ⟨j, hj, rfl⟩ := n_of (a := a3) (n := 41) c2.1 (by omega)
                obtain ⟨l, hl, rfl⟩ := n_of (a := a4) (n := 41) c1.2.1 (by omega)
                rw [nI_toInt (by omega), nI_toInt (by omega)] at c1 c2
                have ok : cpyOk (nI i) (nI j) (nI l) 40 40 = true := by
                  unfold cpyOk
                  have f : ∀ a, a < 41 → (nI a).toNatClampNeg = a := fun a ha => nI_clamp (by omega)
                  have f0 : ∀ a, a < 41 → decide (0 ≤ nI a) = true := fun a ha => decide_eq_true (nI_pos' (by omega))
                  rw [f i hi, f j hj, f l hl, f0 i hi, f0 j hj, f0 l hl, decide_eq_true (show i + l ≤ 40 by omega), decide_eq_true (show j + l ≤ 40 by omega)]
                  rfl
                have e3 : (nI n - nI l).toInt = (n : Int) - l := by rw [i_sub (by rw [nI_toInt (by omega), nI_toInt (by omega)]; omega) (by rw [nI_toInt (by omega), nI_toInt (by omega)]; omega), nI_toInt (by omega), nI_toInt (by omega)]
                have e4 : (nI n2 - nI l).toInt = (n2 : Int) - l := by rw [i_sub (by rw [nI_toInt (by omega), nI_toInt (by omega)]; omega) (by rw [nI_toInt (by omega), nI_toInt (by omega)]; omega), nI_toInt (by omega), nI_toInt (by omega)]
                rw [Gu_of ok, e3, e4, nI_toInt (by omega), nI_toInt (by omega), nI_toInt (by omega), if_neg (by omega), if_neg (by omega), if_neg (by omega), if_neg (by omega), if_pos (by omega)]
                simp only [Lt_d, Jp_d]
                have fin : ∀ u, ((u = 0 ∧ (s = o → j ≤ i)) ∨ (u = 1 ∧ s = o ∧ i < j)) → ∃ r mc2 mm2, some (nI l, cpy mc (64 + 2 * s + 1) (nI i) (64 + 2 * o + 1) (nI j) (nI l)) = some (r, mc2) ∧ f_X6_copy_L121 (nI s) (nI i) (nI o) (nI j) (nI l) (nI u) (fun x7_7 m8 => some (nI l, m8)) F 0 mm = some (r, mm2) ∧ RelX X mc2 mm2 := by
                  intro u hu
                  obtain ⟨m2, k1, k2, k3⟩ := copy121 (i := i) (j := j) (n := l) (u := u) hs ho (by omega) (by omega) hu hF mm
                  refine ⟨_, _, _, rfl, k1, ?_⟩
                  have row : ∀ q, q ≠ 64 + 2 * o + 1 → (cpy mc (64 + 2 * s + 1) (nI i) (64 + 2 * o + 1) (nI j) (nI l)).1 q = mc.1 q := fun q hq => if_neg hq
                  refine RelX_sh hX (fun q hq => row q (by omega)) (fun q hq => k2 q (by omega)) R (fun t ht => ?_)
                  have g1 : ∀ q j, q ≠ 22 → rI m2 q j = rI mm q j := fun q j hq => r_row (k2 q hq) j
                  rcases r8 t ht with ⟨z1, z2⟩ | ⟨so3, n3, z1, z2, z3, z4, z5, z6, z7, z8⟩
                  · exact Or.inl ⟨(r_row (row _ (by omega)) _).trans z1, (g1 _ _ (by decide)).trans z2⟩
                  · refine Or.inr ⟨so3, n3, z1, z2, (g1 _ _ (by decide)).trans z3, (r_row (row _ (by omega)) _).trans z4, (g1 _ _ (by decide)).trans z5, (r_row (row _ (by omega)) _).trans z6, (g1 _ _ (by decide)).trans z7, fun k hk => ?_⟩
                    by_cases c : t = o
                    · subst c
                      have hn : n3 = n2 := by
                        have := z7.symm.trans p7
                        exact (n_eq (by omega) (by omega)).mp this
                      subst hn
                      have ev : rI (cpy mc (64 + 2 * s + 1) (nI i) (64 + 2 * t + 1) (nI j) (nI l)) (64 + 2 * t + 1) k = if j ≤ k ∧ k < j + l then rI mc (64 + 2 * s + 1) (i + (k - j)) else rI mc (64 + 2 * t + 1) k := by
                        show (if 64 + 2 * t + 1 = 64 + 2 * t + 1 then va_cpy (mc.1 (64 + 2 * s + 1)) (mc.1 (64 + 2 * t + 1)) (nI i).toNatClampNeg (nI j).toNatClampNeg (nI l).toNatClampNeg else mc.1 (64 + 2 * t + 1)) k = _
                        rw [if_pos rfl, nI_clamp (by omega), nI_clamp (by omega), nI_clamp (by omega)]
                        rfl
                      rw [ev, k3]
                      by_cases c3 : j ≤ k ∧ k < j + l
                      · rw [if_pos c3, if_pos (by omega), q8 _ (by omega)]
                        congr 1
                        omega
                      · rw [if_neg c3, if_neg (by omega)]
                        exact z8 k hk
                    · rw [r_row (row _ (by omega)) _, k3, if_neg (by omega)]
                      exact z8 k hk
                by_cases c3 : nI s = nI o
                · have c4 : s = o := (n_eq (by omega) (by omega)).mp c3
                  rw [if_pos c3]
                  by_cases c5 : j ≤ i
                  · rw [if_pos (show (j : Int) ≤ i by omega)]
                    exact fin 0 (Or.inl ⟨rfl, fun _ => c5⟩)
                  · rw [if_neg (show ¬ (j : Int) ≤ i by omega)]
                    exact fin 1 (Or.inr ⟨rfl, c4, by omega⟩)
                · have c4 : ¬ s = o := fun z => c3 (by rw [z])
                  rw [if_neg c3]
                  exact fin 0 (Or.inl ⟨rfl, fun z => absurd z c4⟩)
              · rw [if_neg c2, i_if, if_neg (by omega), if_neg (by omega)]
                by_cases c3 : a3.toInt < 0
                · rw [if_pos c3]
                  exact ⟨_, _, _, rfl, rfl, R⟩
                · rw [if_neg c3, i_sub (by rw [nI_toInt (by omega)]; omega) (by rw [nI_toInt (by omega)]; omega), i_sub (by rw [nI_toInt (by omega)]; omega) (by rw [nI_toInt (by omega)]; omega), nI_toInt (by omega), nI_toInt (by omega), if_neg (by omega), if_neg (by omega)]
                  exact ⟨_, _, _, rfl, rfl, R⟩
            · rw [if_neg c1, i_if]
              by_cases c2 : a4.toInt < 0
              · rw [if_pos c2]
                exact ⟨_, _, _, rfl, rfl, R⟩
              · rw [if_neg c2]
                by_cases c3 : a1.toInt < 0
                · rw [if_pos c3]
                  exact ⟨_, _, _, rfl, rfl, R⟩
                · rw [if_neg c3, i_sub (by rw [nI_toInt (by omega)]; omega) (by rw [nI_toInt (by omega)]; omega), nI_toInt (by omega)]
                  rw [if_pos (show (n : Int) - a4.toInt < a1.toInt by omega)]
                  by_cases c4 : a3.toInt < 0
                  · rw [if_pos c4]
                    exact ⟨_, _, _, rfl, rfl, R⟩
                  · rw [if_neg c4]
                    exact ⟨_, _, _, rfl, rfl, R⟩
          · rw [if_neg cs, if_neg cs]
            exact ⟨_, _, _, rfl, rfl, R⟩
    · rw [wi_f h (by omega), shM0 h, bd1_s, bd1_s, i_if, i_if]
      exact ⟨_, _, _, rfl, rfl, R⟩
  · rw [show (4 : Int32) = nI 4 from rfl, wi_f h (by omega), shM0 h, bd1_s, bd1_s, i_if, i_if]
    exact ⟨_, _, _, rfl, rfl, R⟩
