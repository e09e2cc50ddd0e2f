/-! PURE BASIS: reading and writing the memory, guards, small numbers -/
theorem Gu_t {β : Type} (k : Option β) : Gu true k = k := rfl
theorem Gu_of {β : Type} {b : Bool} {k : Option β} (h : b = true) : Gu b k = k := by subst h; rfl
theorem Lt_d {α β : Type} (e : α) (k : α → β) : Lt e k = k e := rfl
theorem Jp_d {α β : Type} (j : α) (b : α → β) : Jp j b = b j := rfl
theorem bd1_s {α β : Type} (a : α) (k : α → Option β) : bd1 (some a) k = k a := rfl
theorem bd2_s {α γ β : Type} (a : α) (b : γ) (k : α → γ → Option β) : bd2 (some (a, b)) k = k a b := rfl
theorem rI_w {m : MM} {k i q j : Nat} {v : Int32} : rI (wI m k i v) q j = if q = k ∧ j = i then v else rI m q j := by
  unfold rI wI
  by_cases h : q = k
  · subst h
    simp only [if_true, true_and]
    unfold upd
    rfl
  · simp [h]
theorem rI_ne {m : MM} {k i q j : Nat} {v : Int32} (h : q ≠ k) : rI (wI m k i v) q j = rI m q j := by rw [rI_w, if_neg (fun z => h z.1)]
theorem rI_nj {m : MM} {k i q j : Nat} {v : Int32} (h : j ≠ i) : rI (wI m k i v) q j = rI m q j := by rw [rI_w, if_neg (fun z => h z.2)]
theorem rI_eq {m : MM} {k i : Nat} {v : Int32} : rI (wI m k i v) k i = v := by rw [rI_w, if_pos ⟨rfl, rfl⟩]
theorem row_ne {m : MM} {k i q : Nat} {v : Int32} (h : q ≠ k) : (wI m k i v).1 q = m.1 q := wI_ne h
theorem rI_L {m : MM} {k i q j : Nat} {v : Int64} : rI (wL m k i v) q j = rI m q j := rfl
theorem rL_I {m : MM} {k i q j : Nat} {v : Int32} : rL (wI m k i v) q j = rL m q j := rfl
theorem rL_w {m : MM} {k i q j : Nat} {v : Int64} : rL (wL m k i v) q j = if q = k ∧ j = i then v else rL m q j := by
  unfold rL wL
  by_cases h : q = k
  · subst h
    simp only [if_true, true_and]
    unfold vp_updL
    rfl
  · simp [h]
theorem ix_n {n : Nat} (h : n < 2 ^ 31) : ix (nI n) = n := nI_clamp h
theorem inB_n {n N : Nat} (h : n < N) (hN : N ≤ 2 ^ 31) : inB (nI n) N = true := by
  unfold inB
  rw [Bool.and_eq_true, decide_eq_true_eq, decide_eq_true_eq]
  exact ⟨nI_pos' (by omega), by rw [nI_clamp (by omega)]; exact h⟩
theorem tI_n {n : Nat} (h : n < 2 ^ 31) : (nI n).toInt = (n : Int) := nI_toInt h
theorem i_lt {a b : Int32} : a < b ↔ a.toInt < b.toInt := Int32.lt_iff_toInt_lt
theorem i_le {a b : Int32} : a ≤ b ↔ a.toInt ≤ b.toInt := Int32.le_iff_toInt_le
theorem i_eq {a b : Int32} : a = b ↔ a.toInt = b.toInt := Int32.toInt_inj.symm
theorem i_rng (x : Int32) : -2147483648 ≤ x.toInt ∧ x.toInt < 2147483648 := ⟨Int32.le_toInt x, Int32.toInt_lt x⟩
theorem i_bmod {z : Int} (h1 : -2147483648 ≤ z) (h2 : z < 2147483648) : z.bmod (2 ^ 32) = z := Int.bmod_eq_of_le (by omega) (by omega)
theorem i_add {x y : Int32} (h1 : -2147483648 ≤ x.toInt + y.toInt) (h2 : x.toInt + y.toInt < 2147483648) : (x + y).toInt = x.toInt + y.toInt := by
  rw [Int32.toInt_add, i_bmod h1 h2]
theorem i_sub {x y : Int32} (h1 : -2147483648 ≤ x.toInt - y.toInt) (h2 : x.toInt - y.toInt < 2147483648) : (x - y).toInt = x.toInt - y.toInt := by
  rw [Int32.toInt_sub, i_bmod h1 h2]
theorem n_of {a : Int32} {n : Nat} (h0 : 0 ≤ a.toInt) (h : a.toInt < n) : ∃ k, k < n ∧ a = nI k := by
  obtain ⟨h1, h2⟩ := i_rng a
  refine ⟨a.toInt.toNat, by omega, ?_⟩
  rw [i_eq, nI_toInt (by omega)]
  omega
/-- an argument is one of the first n numbers, or not -/
theorem a_cs (a : Int32) (n : Nat) : (∃ k, k < n ∧ a = nI k) ∨ ¬ (0 ≤ a.toInt ∧ a.toInt < n) := by
  by_cases h : 0 ≤ a.toInt ∧ a.toInt < n
  · exact Or.inl (n_of h.1 h.2)
  · exact Or.inr h
theorem wi_t {k n : Nat} (h : k < n) (hn : n < 2 ^ 31) (m : MM) : f_X5_within (nI k) (nI n) m = some 1 := by
  unfold f_X5_within
  rw [if_neg (by rw [i_lt, nI_toInt (by omega)]; have : (0 : Int32).toInt = 0 := rfl; omega), if_neg (by rw [i_le, nI_toInt hn, nI_toInt (by omega)]; omega)]
theorem wi_f {a : Int32} {n : Nat} (h : ¬ (0 ≤ a.toInt ∧ a.toInt < n)) (hn : n < 2 ^ 31) (m : MM) : f_X5_within a (nI n) m = some 0 := by
  unfold f_X5_within
  have h0 : (0 : Int32).toInt = 0 := rfl
  by_cases h1 : a < 0
  · rw [if_pos h1]
  · rw [if_neg h1, if_pos ?_]
    rw [i_le, nI_toInt hn]
    rw [i_lt] at h1
    omega
theorem in_sp (v lo hi : Int64) (m : MM) : f_X6_in v lo hi m = some (if lo.toInt ≤ v.toInt ∧ v.toInt ≤ hi.toInt then 1 else 0) := by
  unfold f_X6_in lg_cmp
  simp only [gt_iff_lt, Int64.lt_iff_toInt_lt, ← Int64.toInt_inj]
  by_cases h1 : v.toInt < lo.toInt
  · have e0 : (if lo.toInt < v.toInt then (1 : Int32) else if v.toInt = lo.toInt then 0 else -1) = -1 := by
      rw [if_neg (by omega), if_neg (by omega)]
    rw [e0, if_pos (by decide), if_neg (by omega)]
  · have e1 : ¬ ((if lo.toInt < v.toInt then (1 : Int32) else if v.toInt = lo.toInt then 0 else -1) < 0) := by
      by_cases h2 : lo.toInt < v.toInt
      · rw [if_pos h2]; decide
      · rw [if_neg h2, if_pos (by omega)]; decide
    rw [if_neg e1]
    by_cases h3 : hi.toInt < v.toInt
    · rw [if_pos h3, if_pos (by decide), if_neg (by omega)]
    · have e2 : ¬ ((0 : Int32) < (if hi.toInt < v.toInt then (1 : Int32) else if v.toInt = hi.toInt then 0 else -1)) := by
        rw [if_neg h3]
        by_cases h4 : v.toInt = hi.toInt
        · rw [if_pos h4]; decide
        · rw [if_neg h4]; decide
      rw [if_neg e2, if_pos (by omega)]
theorem l_i (a : Int32) : a.toInt64.toInt = a.toInt := Int32.toInt_toInt64 a
theorem in_t {k n : Nat} {hi : Int64} (h : k < n) (hn : n < 2 ^ 31) (hh : hi.toInt = (n : Int) - 1) (m : MM) : f_X6_in (Int32.toInt64 (nI k)) 0 hi m = some 1 := by
  rw [in_sp, l_i, nI_toInt (by omega), hh, if_pos]
  have h0 : (0 : Int64).toInt = 0 := rfl
  omega
theorem in_f {a : Int32} {n : Nat} {hi : Int64} (h : ¬ (0 ≤ a.toInt ∧ a.toInt < n)) (hh : hi.toInt = (n : Int) - 1) (m : MM) : f_X6_in (Int32.toInt64 a) 0 hi m = some 0 := by
  rw [in_sp, l_i, hh, if_neg]
  have h0 : (0 : Int64).toInt = 0 := rfl
  omega
theorem hi_n {n : Nat} (hn : n < 2 ^ 31) : (Int32.toInt64 (nI n - 1)).toInt = (n : Int) - 1 := by
  have h1 : (1 : Int32).toInt = 1 := rfl
  rw [l_i, i_sub (by rw [nI_toInt hn, h1]; omega) (by rw [nI_toInt hn, h1]; omega), nI_toInt hn, h1]
theorem n_lt {a b : Nat} (ha : a < 2 ^ 31) (hb : b < 2 ^ 31) : nI a < nI b ↔ a < b := nI_ltI ha hb
theorem n_le {a b : Nat} (ha : a < 2 ^ 31) (hb : b < 2 ^ 31) : nI a ≤ nI b ↔ a ≤ b := nI_leI ha hb
theorem n_eq {a b : Nat} (ha : a < 2 ^ 31) (hb : b < 2 ^ 31) : nI a = nI b ↔ a = b := nI_eq ha hb
theorem n_s (n : Nat) : nI n + 1 = nI (n + 1) := nI_1 n
theorem n_p (n : Nat) : nI (n + 1) - 1 = nI n := nI_pred n
