/-! LOTS: sums, counts and bits over the things of a hold; refusal on both sides -/
def smP (p : Nat → Bool) (z : Nat → Nat) : Nat → Nat
  | 0 => 0
  | n + 1 => smP p z n + (if p n then z n else 0)
def ctP (p : Nat → Bool) : Nat → Nat
  | 0 => 0
  | n + 1 => ctP p n + (if p n then 1 else 0)
def mkP (p : Nat → Bool) : Nat → Nat
  | 0 => 0
  | n + 1 => mkP p n + (if p n then 2 ^ n else 0)
theorem smP_cong {p q : Nat → Bool} {z w : Nat → Nat} : ∀ {n : Nat}, (∀ i, i < n → p i = q i) → (∀ i, i < n → p i = true → z i = w i) → smP p z n = smP q w n
  | 0, _, _ => rfl
  | n + 1, h, g => by
    unfold smP
    rw [smP_cong (fun i hi => h i (by omega)) (fun i hi => g i (by omega)), h n (by omega)]
    by_cases hq : q n = true
    · rw [if_pos hq, if_pos hq, g n (by omega) (by rw [h n (by omega)]; exact hq)]
    · rw [if_neg hq, if_neg hq]
theorem ctP_cong {p q : Nat → Bool} : ∀ {n : Nat}, (∀ i, i < n → p i = q i) → ctP p n = ctP q n
  | 0, _ => rfl
  | n + 1, h => by
    unfold ctP
    rw [ctP_cong (fun i hi => h i (by omega)), h n (by omega)]
theorem mkP_cong {p q : Nat → Bool} : ∀ {n : Nat}, (∀ i, i < n → p i = q i) → mkP p n = mkP q n
  | 0, _ => rfl
  | n + 1, h => by
    unfold mkP
    rw [mkP_cong (fun i hi => h i (by omega)), h n (by omega)]
theorem smP_le {p : Nat → Bool} {z : Nat → Nat} {c : Nat} : ∀ {n : Nat}, (∀ i, i < n → z i ≤ c) → smP p z n ≤ n * c
  | 0, _ => Nat.zero_le _
  | n + 1, h => by
    unfold smP
    have h1 := smP_le (p := p) (fun i hi => h i (Nat.lt_succ_of_lt hi)) (n := n)
    have h2 := h n (Nat.lt_succ_self n)
    rw [Nat.succ_mul]
    split <;> omega
theorem ctP_le {p : Nat → Bool} : ∀ n : Nat, ctP p n ≤ n
  | 0 => Nat.zero_le _
  | n + 1 => by
    unfold ctP
    have h1 := ctP_le (p := p) n
    split <;> omega
theorem mkP_lt (p : Nat → Bool) : ∀ n : Nat, mkP p n < 2 ^ n
  | 0 => Nat.zero_lt_one
  | n + 1 => by
    unfold mkP
    have h1 := mkP_lt p n
    rw [Nat.pow_succ]
    split <;> omega
theorem mkP_bit (p : Nat → Bool) : ∀ {n i : Nat}, i < n → (mkP p n).testBit i = p i
  | 0, i, h => absurd h (Nat.not_lt_zero i)
  | n + 1, i, h => by
    unfold mkP
    have h1 := mkP_lt p n
    by_cases hi : i = n
    · subst hi
      by_cases hp : p i = true
      · rw [if_pos hp, Nat.add_comm, Nat.testBit_two_pow_add_eq, Nat.testBit_lt_two_pow h1, hp]
        rfl
      · rw [if_neg hp, Nat.add_zero, Nat.testBit_lt_two_pow h1]
        simp at hp
        exact hp.symm
    · by_cases hp : p n = true
      · rw [if_pos hp, Nat.add_comm, Nat.testBit_two_pow_add_gt (by omega)]
        exact mkP_bit p (by omega)
      · rw [if_neg hp, Nat.add_zero]
        exact mkP_bit p (by omega)
theorem n_and (a b : Nat) : nI a &&& nI b = nI (a &&& b) := by
  rw [i_eq]
  exact congrArg Int32.toInt (show nI a &&& nI b = nI (a &&& b) from Int32.toBitVec_inj.mp (by
    show (nI a).toBitVec &&& (nI b).toBitVec = (nI (a &&& b)).toBitVec
    apply BitVec.eq_of_toNat_eq
    show ((BitVec.ofNat 32 a) &&& (BitVec.ofNat 32 b)).toNat = (BitVec.ofNat 32 (a &&& b)).toNat
    rw [BitVec.toNat_and, BitVec.toNat_ofNat, BitVec.toNat_ofNat, BitVec.toNat_ofNat, Nat.and_mod_two_pow]))
theorem n_or (a b : Nat) : nI a ||| nI b = nI (a ||| b) := Int32.toBitVec_inj.mp (by
    apply BitVec.eq_of_toNat_eq
    show ((BitVec.ofNat 32 a) ||| (BitVec.ofNat 32 b)).toNat = (BitVec.ofNat 32 (a ||| b)).toNat
    rw [BitVec.toNat_or, BitVec.toNat_ofNat, BitVec.toNat_ofNat, BitVec.toNat_ofNat, Nat.or_mod_two_pow])
theorem or_pw {a n : Nat} (h : a < 2 ^ n) : a ||| 2 ^ n = a + 2 ^ n := by
  rw [Nat.or_comm, Nat.add_comm]
  have h1 := Nat.two_pow_add_eq_or_of_lt h 1
  rw [Nat.mul_one] at h1
  exact h1.symm
theorem shl1 : ∀ i, i < 31 → shlI 1 (nI i) = nI (2 ^ i) := by decide +kernel
theorem shl0 : ∀ i, i < 31 → shlI 0 (nI i) = nI 0 := by decide +kernel
theorem shr_bit : ∀ a, a < 32 → ∀ i, i < 5 → ((shrI (nI a) (nI i) &&& 1) = 1 ↔ a.testBit i = true) := by decide +kernel
theorem pop_k : ∀ a, a < 32 → ∀ F : Nat, ∀ m : MM, f_X6_bitsOf (F + 6) (nI a) m = some (nI (ctP (fun i => a.testBit i) 5)) := by
  intro a ha F m
  have key : ∀ a, a < 32 → f_X6_bitsOf_L4 (fun x1_1 x2_2 => some x1_1) 6 0 (nI a) = some (nI (ctP (fun i => a.testBit i) 5)) := by decide +kernel
  have more : ∀ (n F : Nat) (x y z : Int32), f_X6_bitsOf_L4 (fun x1_1 x2_2 => some x1_1) n x y = some z → f_X6_bitsOf_L4 (fun x1_1 x2_2 => some x1_1) (F + n) x y = some z := by
    intro n
    induction n with
    | zero => intro F x y z h; cases h
    | succ n ih =>
      intro F x y z h
      rw [← Nat.add_assoc]
      unfold f_X6_bitsOf_L4 at h ⊢
      by_cases hy : y = 0
      · rw [if_pos hy] at h ⊢
        exact h
      · rw [if_neg hy] at h ⊢
        exact ih F _ _ _ h
  exact more 6 F 0 (nI a) _ (key a ha)
