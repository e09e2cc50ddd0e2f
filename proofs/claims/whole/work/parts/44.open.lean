/-! FREE HANDS, OPEN, MOVES THAT CAN BE -/
theorem g_eq {i g : Nat} (hi : i < 100) (hg : g < 100) : (nI i = nI g - 1) ↔ g = i + 1 := by
  have h1 : (1 : Int32).toInt = 1 := rfl
  rw [i_eq, i_sub (by rw [nI_toInt (by omega), h1]; omega) (by rw [nI_toInt (by omega), h1]; omega), nI_toInt (by omega), nI_toInt (by omega), h1]
  omega
theorem m1_eq {g : Nat} (hg : g < 100) : (nI g - 1 = -1) ↔ g = 0 := by
  have h1 : (1 : Int32).toInt = 1 := rfl
  have h2 : (-1 : Int32).toInt = -1 := rfl
  rw [i_eq, i_sub (by rw [nI_toInt (by omega), h1]; omega) (by rw [nI_toInt (by omega), h1]; omega), nI_toInt (by omega), h1, h2]
  omega
theorem n_ne1 {a : Nat} (h : a < 2 ^ 31) : ¬ nI a = -1 := by
  rw [i_eq, nI_toInt h]
  have h2 : (-1 : Int32).toInt = -1 := rfl
  omega
theorem p_iff {A : LT} {a : Nat → Nat} {h i : Nat} : u_p A a h i = true ↔ A 6 5 ≠ i + 1 ∧ a i = h := by
  unfold u_p
  rw [Bool.and_eq_true, beq_iff_eq]
  simp
theorem insideM {m : MM} {A : LT} {h F : Nat} (hF : 6 ≤ F) (L : LM m A) (B : AB A) (hh : h < 5) : f_X6_inside F (nI h) m = some (nI (mkP (u_p A (A 5) h) (A 6 1))) := by
  have b1 := B.1
  have b2 := B.2.1
  have b5 := B.2.2.2.2.2.1
  refine inside_sp hF L.2.1 B.2.1 (fun i hi => ?_)
  have hb := (B.2.2.2.2.2.2.2.2 i hi).2.2.2.2
  rw [p_iff, L.2.2.2.2.2.1, (L.2.2.2.2.2.2.2.2 i hi).2.2.2, g_eq (by omega) (by omega), n_eq (by omega) (by omega)]
def exP (p : Nat → Bool) : Nat → Bool
  | 0 => false
  | n + 1 => exP p n || p n
theorem exP_t {p : Nat → Bool} : ∀ {n : Nat}, exP p n = true ↔ ∃ i, i < n ∧ p i = true
  | 0 => ⟨fun h => (Bool.noConfusion h), fun ⟨i, h, _⟩ => absurd h (Nat.not_lt_zero i)⟩
  | n + 1 => by
    unfold exP
    rw [Bool.or_eq_true, exP_t]
    constructor
    · rintro (⟨i, h1, h2⟩ | h)
      · exact ⟨i, by omega, h2⟩
      · exact ⟨n, by omega, h⟩
    · rintro ⟨i, h1, h2⟩
      by_cases e : i = n
      · subst e; exact Or.inr h2
      · exact Or.inl ⟨i, by omega, h2⟩
theorem mk_or {f : Nat → Bool} {n j : Nat} (h : j < n) : mkP f n ||| 2 ^ j = mkP (fun i => f i || i == j) n := by
  apply Nat.eq_of_testBit_eq
  intro i
  rw [Nat.testBit_or, Nat.testBit_two_pow]
  by_cases hi : i < n
  · rw [mkP_bit _ hi, mkP_bit _ hi]
    congr 1
    by_cases e : j = i
    · subst e; simp
    · simp [e, Ne.symm e]
  · have h1 : ∀ g : Nat → Bool, (mkP g n).testBit i = false := fun g => Nat.testBit_lt_two_pow (Nat.lt_of_lt_of_le (mkP_lt g n) (Nat.pow_le_pow_right (by decide) (by omega)))
    rw [h1, h1]
    have : ¬ j = i := by omega
    simp [this]
theorem ct_0 {p : Nat → Bool} : ∀ {n : Nat}, ctP p n = 0 ↔ ∀ i, i < n → p i = false
  | 0 => ⟨fun _ i h => absurd h (Nat.not_lt_zero i), fun _ => rfl⟩
  | n + 1 => by
    have q : ctP p (n + 1) = ctP p n + (if p n = true then 1 else 0) := rfl
    rw [q]
    constructor
    · intro h i hi
      by_cases e : i = n
      · subst e
        by_cases c : p i = true
        · rw [if_pos c] at h; omega
        · simpa using c
      · exact (ct_0 (n := n)).mp (by omega) i (by omega)
    · intro h
      rw [if_neg (by rw [h n (by omega)]; decide), ct_0.mpr (fun i hi => h i (by omega))]
theorem mk_0 {p : Nat → Bool} {n : Nat} : mkP p n = 0 ↔ ctP p n = 0 := by
  rw [ct_0]
  constructor
  · intro h i hi
    rw [← mkP_bit p hi, h, Nat.zero_testBit]
  · intro h
    apply Nat.eq_of_testBit_eq
    intro i
    rw [Nat.zero_testBit]
    by_cases hi : i < n
    · rw [mkP_bit _ hi, h i hi]
    · exact Nat.testBit_lt_two_pow (Nat.lt_of_lt_of_le (mkP_lt p n) (Nat.pow_le_pow_right (by decide) (by omega)))
/-- the lies of a lot in thought: laid are those that q says -/
def LI (m : MM) (k T : Nat) (q : Nat → Bool) (a : Nat → Nat) : Prop := ∀ i, i < T → rI m (k + 7) i = if q i = true then nI (a i) else -1
def u_free (A : LT) (a : Nat → Nat) : Nat := ctP (fun h => u_op (A 0 h) == 1 && ctP (u_p A a h) (A 6 1) == 0) (A 6 0)
def u_open (A : LT) (a : Nat → Nat) : Bool := decide (A 6 2 ≠ 0 ∧ u_op (A 0 (a (A 6 2 - 1))) = 1 ∧ A 6 3 ≤ u_free A a)
theorem used_L {m : MM} {k T : Nat} {q : Nat → Bool} {a : Nat → Nat} (hT : rI m k 8 = nI T) (h5 : T ≤ 5) (hl : LI m k T q a) (ha : ∀ i, i < T → q i = true → a i < 5) (K : Int32 → Int32 → Option Int32) : ∀ d i n : Nat, i + d = T → d < n → f_X0_freeHands_L4 k m K n (nI (mkP (fun h => exP (fun j => q j && a j == h) i) 5)) (nI i) = K (nI (mkP (fun h => exP (fun j => q j && a j == h) T) 5)) (nI T) := by
  intro d
  induction d with
  | zero =>
    intro i n hi hn
    obtain ⟨n, rfl⟩ : ∃ k, n = k + 1 := ⟨n - 1, by omega⟩
    have : i = T := by omega
    subst this
    unfold f_X0_freeHands_L4
    rw [hT, if_pos (Int32.le_refl _)]
  | succ d ih =>
    intro i n hi hn
    obtain ⟨n, rfl⟩ : ∃ k, n = k + 1 := ⟨n - 1, by omega⟩
    unfold f_X0_freeHands_L4
    rw [hT, if_neg (n_head (n := 0) h5 (by omega))]
    simp only [Lt_d]
    have hx : ix (nI i) = i := ix_n (by omega)
    have hli := hl i (by omega)
    rw [Gu_of (inB_n (by omega : i < 5) (by decide)), hx]
    by_cases c : q i = true
    · rw [if_pos c] at hli
      have hai := ha i (by omega) c
      rw [hli, if_neg (n_ne1 (by omega)), Gu_of (inB_n (by omega : i < 5) (by decide)), shl1 _ (by omega), n_or, mk_or hai, n_s]
      have e : (fun h => exP (fun j => q j && a j == h) i || h == a i) = (fun h => exP (fun j => q j && a j == h) (i + 1)) := by
        funext h
        show _ = (exP (fun j => q j && a j == h) i || (q i && a i == h))
        rw [c, Bool.true_and]
        exact congrArg (fun z => exP (fun j => q j && a j == h) i || z) (show decide (h = a i) = decide (a i = h) from decide_eq_decide.mpr ⟨Eq.symm, Eq.symm⟩)
      rw [e]
      exact ih (i + 1) n (by omega) (by omega)
    · rw [if_neg c] at hli
      rw [hli, if_pos rfl, n_s]
      have e : (fun h => exP (fun j => q j && a j == h) i) = (fun h => exP (fun j => q j && a j == h) (i + 1)) := by
        funext h
        show _ = (exP (fun j => q j && a j == h) i || (q i && a i == h))
        have c2 : q i = false := by simpa using c
        rw [c2, Bool.false_and, Bool.or_false]
      rw [e]
      exact ih (i + 1) n (by omega) (by omega)
theorem hands_L {m : MM} {k H w : Nat} {g : Nat → Bool} (hH : rI m k 7 = nI H) (h5 : H ≤ 5) (kd : Nat → Nat) (hk : ∀ i, i < H → rI m (k + 1) i = nI (kd i) ∧ kd i < 6) (hw : w < 32) (hg : ∀ i, i < H → g i = (u_op (kd i) == 1 && !(w.testBit i))) (K : Int32 → Int32 → Option Int32) : ∀ d i n : Nat, i + d = H → d < n → f_X0_freeHands_L43 k m (nI w) K n (nI (ctP g i)) (nI i) = K (nI (ctP g H)) (nI H) := by
  intro d
  induction d with
  | zero =>
    intro i n hi hn
    obtain ⟨n, rfl⟩ : ∃ k, n = k + 1 := ⟨n - 1, by omega⟩
    have : i = H := by omega
    subst this
    unfold f_X0_freeHands_L43
    rw [hH, if_pos (Int32.le_refl _)]
  | succ d ih =>
    intro i n hi hn
    obtain ⟨n, rfl⟩ : ∃ k, n = k + 1 := ⟨n - 1, by omega⟩
    unfold f_X0_freeHands_L43
    rw [hH, if_neg (n_head (n := 0) h5 (by omega))]
    simp only [Lt_d]
    have hx : ix (nI i) = i := ix_n (by omega)
    have hki := hk i (by omega)
    have hgi := hg i (by omega)
    have hx2 : ix (nI (kd i)) = kd i := ix_n (by omega)
    have hc : ctP g (i + 1) = ctP g i + (if g i = true then 1 else 0) := rfl
    have ho := u_op_le (kd i)
    have bit : ∀ w, w < 32 → ∀ i, i < 5 → ((shrI (nI w) (nI i) &&& 1) = 0 ↔ w.testBit i = false) := by decide +kernel
    rw [Gu_of (inB_n (by omega : i < 5) (by decide)), hx, hki.1, Gu_of (inB_n hki.2 (by decide)), hx2, st3 _ hki.2]
    by_cases c1 : u_op (kd i) = 1
    · rw [if_pos (by rw [c1]; rfl)]
      by_cases c2 : w.testBit i = false
      · rw [if_pos ((bit w hw i (by omega)).mpr c2), n_s, n_s]
        rw [hgi, c1, c2] at hc
        rw [show ctP g i + 1 = ctP g (i + 1) from hc.symm]
        exact ih (i + 1) n (by omega) (by omega)
      · rw [if_neg (fun z => c2 ((bit w hw i (by omega)).mp z)), n_s]
        have c3 : w.testBit i = true := by simpa using c2
        rw [hgi, c1, c3] at hc
        rw [show ctP g i = ctP g (i + 1) from hc.symm]
        exact ih (i + 1) n (by omega) (by omega)
    · rw [if_neg (by rw [n_1 (by omega)]; exact c1), n_s]
      have hgf : g i = false := by rw [hgi]; simp [c1]
      rw [hgf] at hc
      rw [show ctP g i = ctP g (i + 1) from hc.symm]
      exact ih (i + 1) n (by omega) (by omega)
/-- what the holds of a lot in thought are -/
def HO (m : MM) (k : Nat) (A : LT) : Prop := rI m k 7 = nI (A 6 0) ∧ rI m k 8 = nI (A 6 1) ∧ rI m k 9 = nI (A 6 2) - 1 ∧ rI m k 10 = nI (A 6 3) ∧ (∀ i, i < A 6 0 → rI m (k + 1) i = nI (A 0 i) ∧ rI m (k + 3) i = nI (u_rm A i)) ∧ (∀ i, i < A 6 1 → rI m (k + 4) i = nI (A 2 i) ∧ rI m (k + 5) i = nI (A 3 i) ∧ rI m (k + 6) i = nI (A 4 i))
theorem HO_of {m : MM} {k : Nat} {A : LT} (L : LC m k A) : HO m k A := ⟨L.1, L.2.1, L.2.2.1, L.2.2.2.1, fun i hi => ⟨(L.2.2.2.2.2.2.1 i hi).1, (L.2.2.2.2.2.2.1 i hi).2.2⟩, fun i hi => ⟨(L.2.2.2.2.2.2.2 i hi).1, (L.2.2.2.2.2.2.2 i hi).2.1, (L.2.2.2.2.2.2.2 i hi).2.2.1⟩⟩
theorem LI_of {m : MM} {k : Nat} {A : LT} (L : LC m k A) (h0 : A 6 5 = 0) : LI m k (A 6 1) (fun i => !(A 6 5 == i + 1)) (A 5) := by
  intro i hi
  show _ = if (!(A 6 5 == i + 1)) = true then nI (A 5 i) else -1
  rw [if_pos (by rw [h0]; rfl)]
  exact (L.2.2.2.2.2.2.2 i hi).2.2.2
theorem ct_ex {p : Nat → Bool} {n : Nat} : (ctP p n == 0) = !exP p n := by
  by_cases c : exP p n = true
  · rw [c]
    obtain ⟨i, h1, h2⟩ := exP_t.mp c
    have : ¬ ctP p n = 0 := fun z => by rw [ct_0.mp z i h1] at h2; cases h2
    simp [this]
  · have c2 : exP p n = false := by simpa using c
    rw [c2]
    have : ctP p n = 0 := ct_0.mpr (fun i hi => by
      cases q : p i with
      | false => rfl
      | true => exact absurd (exP_t.mpr ⟨i, hi, q⟩) c)
    rw [this]
    rfl
theorem freeC {m : MM} {k F : Nat} {A : LT} {a : Nat → Nat} (hF : 6 ≤ F) (L : HO m k A) (B : AB A) (hl : LI m k (A 6 1) (fun i => !(A 6 5 == i + 1)) a) (ha : ∀ i, i < A 6 1 → A 6 5 ≠ i + 1 → a i < 5) : f_X0_freeHands F k m = some (nI (u_free A a)) := by
  unfold f_X0_freeHands
  have e0 : (0 : Int32) = nI (mkP (fun h => exP (fun j => (fun i => !(A 6 5 == i + 1)) j && a j == h) 0) 5) := rfl
  have q := used_L (a := a) L.2.1 B.2.1 hl (fun i hi hq => ha i hi (by simpa using hq)) (fun x1_1 x2_2 => f_X0_freeHands_L43 k m x1_1 (fun x2_7 x3_8 => some x2_7) F (0 : Int32) (0 : Int32)) (A 6 1) 0 F (by omega) (by have := B.2.1; omega)
  rw [← e0] at q
  refine q.trans ?_
  refine hands_L L.1 B.1 (A 0) (fun i hi => ⟨(L.2.2.2.2.1 i hi).1, (B.2.2.2.2.2.2.2.1 i hi).1⟩) (mk_32 (by decide)) (g := fun h => u_op (A 0 h) == 1 && ctP (u_p A a h) (A 6 1) == 0) (fun i hi => ?_) _ (A 6 0) 0 F (by omega) (by have := B.1; omega)
  congr 1
  have b1 := B.1
  rw [mkP_bit _ (by omega)]
  have e1 : (fun j => !(A 6 5 == j + 1) && a j == i) = u_p A a i := rfl
  rw [e1]
  exact ct_ex
theorem isOpenC {m : MM} {k F : Nat} {A : LT} {a : Nat → Nat} (hF : 6 ≤ F) (L : HO m k A) (B : AB A) (hl : LI m k (A 6 1) (fun i => !(A 6 5 == i + 1)) a) (ha : ∀ i, i < A 6 1 → A 6 5 ≠ i + 1 → a i < A 6 0) (hg : A 6 5 = 0 ∨ A 6 5 ≠ A 6 2) : f_X0_isOpen F k m = some (if u_open A a = true then 1 else 0) := by
  unfold f_X0_isOpen
  obtain ⟨b1, b2, b3, b4, b5, b6, b7, b8, b9⟩ := id B
  rw [L.2.2.1]
  unfold u_open
  by_cases c : A 6 2 = 0
  · rw [if_pos ((m1_eq (by omega)).mpr c), if_neg (by simp [c])]
  · obtain ⟨y, hy⟩ : ∃ y, A 6 2 = y + 1 := ⟨A 6 2 - 1, by omega⟩
    have e1 : nI (A 6 2) - 1 = nI y := by rw [hy, n_p]
    have hx : ix (nI y) = y := ix_n (by omega)
    have hly : rI m (k + 7) y = nI (a y) := by
      have q := hl y (by omega)
      rw [if_pos (by have : ¬ A 6 5 = y + 1 := by omega
                     simp [this])] at q
      exact q
    have hay := ha y (by omega) (by omega)
    have hz : ix (nI (a y)) = a y := ix_n (by omega)
    have hw : ix (nI (A 0 (a y))) = A 0 (a y) := ix_n (by have := (b8 _ hay).1; omega)
    rw [if_neg (fun z => c ((m1_eq (by omega)).mp z)), e1, Gu_of (inB_n (by omega : y < 5) (by decide)), hx, hly, if_neg (n_ne1 (by omega)), Gu_of (inB_n (by omega : y < 5) (by decide)), Gu_of (inB_n (by omega : a y < 5) (by decide)), hz, (L.2.2.2.2.1 _ hay).1, Gu_of (inB_n (b8 _ hay).1 (by decide)), hw, st3 _ (b8 _ hay).1, freeC hF L B hl (fun i hi hq => by have := ha i hi hq; omega), bd1_s, L.2.2.2.1]
    have e2 : A 6 2 - 1 = y := by omega
    rw [e2]
    have ho := u_op_le (A 0 (a y))
    have hf : u_free A a ≤ 5 := Nat.le_trans (ctP_le _) b1
    by_cases c1 : u_op (A 0 (a y)) = 1
    · rw [if_pos ((n_1 (by omega)).mpr c1)]
      by_cases c2 : A 6 3 ≤ u_free A a
      · rw [if_neg (by rw [n_lt (by omega) (by omega)]; omega), if_pos (by simp [c, c1, c2])]
      · rw [if_pos ((n_lt (by omega) (by omega)).mpr (by omega)), if_neg (by simp [c2])]
    · rw [if_neg (by rw [n_1 (by omega)]; exact c1), if_neg (by simp [c1])]
theorem beq_iff_t {a b : Nat} : (a == b) = true ↔ a = b := beq_iff_eq
theorem mk_e0 {A : LT} {a : Nat → Nat} {h : Nat} (B : AB A) : nI (mkP (u_p A a h) (A 6 1)) = 0 ↔ ctP (u_p A a h) (A 6 1) = 0 := by
  rw [n_z (Nat.lt_trans (mk_32 B.2.1) (by decide)), mk_0]
/-- a loop that counts up -/
theorem loop_up {β σ : Type} (L : Nat → σ → Int32 → Option β) (z : Option β) (N : Nat) (st : Nat → σ) (h0 : ∀ n, L (n + 1) (st N) (nI N) = z) (hs : ∀ i n, i < N → L (n + 1) (st i) (nI i) = L n (st (i + 1)) (nI (i + 1))) : ∀ n, N < n → L n (st 0) (nI 0) = z := by
  have key : ∀ d i n, i + d = N → d < n → L n (st i) (nI i) = z := by
    intro d
    induction d with
    | zero =>
      intro i n hi hn
      obtain ⟨n, rfl⟩ : ∃ k, n = k + 1 := ⟨n - 1, by omega⟩
      have : i = N := by omega
      subst this
      exact h0 n
    | succ d ih =>
      intro i n hi hn
      obtain ⟨n, rfl⟩ : ∃ k, n = k + 1 := ⟨n - 1, by omega⟩
      rw [hs i n (by omega)]
      exact ih (i + 1) n (by omega) (by omega)
  intro n hn
  exact key N 0 n (by omega) hn
theorem ctP_s (p : Nat → Bool) (n : Nat) : ctP p (n + 1) = ctP p n + (if p n = true then 1 else 0) := rfl
theorem open41 {m : MM} {A : LT} {F : Nat} (hF : 7 ≤ F) (L : LM m A) (B : AB A) (K : Int32 → Int32 → Option Int32) : f_X6_open_L41 F m K F 0 0 = K (nI (u_free A (A 5))) (nI (A 6 0)) := by
  have bH := B.1
  refine loop_up (fun n s i => f_X6_open_L41 F m K n s i) _ (A 6 0) (fun i => nI (ctP (fun h => u_op (A 0 h) == 1 && ctP (u_p A (A 5) h) (A 6 1) == 0) i)) (fun n => ?_) (fun i n hi => ?_) F (by omega)
  · show f_X6_open_L41 F m K (n + 1) _ _ = _
    unfold f_X6_open_L41
    rw [L.1, if_pos (Int32.le_refl _)]
    rfl
  · show f_X6_open_L41 F m K (n + 1) _ _ = _
    conv => lhs; unfold f_X6_open_L41
    rw [L.1, if_neg (n_head (n := 0) bH hi), opensM L B hi, bd1_s]
    simp only [Jp_d, Lt_d]
    rw [insideM (by omega) L B (by omega), bd1_s]
    simp only [mk_e0 B, n_1 (show u_op (A 0 i) < 2 ^ 31 by have := u_op_le (A 0 i); omega)]
    rw [n_s, ctP_s]
    by_cases c1 : u_op (A 0 i) = 1
    · by_cases c2 : ctP (u_p A (A 5) i) (A 6 1) = 0
      · rw [if_pos c1, if_pos c2, if_pos (by rw [c1, c2]; rfl), n_s]
      · rw [if_pos c1, if_neg c2, if_neg (by simp [c2]), show (0 : Int32) = nI 0 from rfl, nI_add, n_s]
    · rw [if_neg c1, if_neg (by simp [c1]), show (0 : Int32) = nI 0 from rfl, nI_add, n_s]
theorem isOpenM {m : MM} {A : LT} {F : Nat} (hF : 7 ≤ F) (L : LM m A) (B : AB A) (hg : A 6 5 = 0 ∨ A 6 5 ≠ A 6 2) : f_X6_isOpen F m = some (if u_open A (A 5) = true then 1 else 0) := by
  have b1 := B.1
  have b2 := B.2.1
  have b3 := B.2.2.1
  have b4 := B.2.2.2.1
  unfold f_X6_isOpen u_open
  rw [L.2.2.1]
  by_cases c : A 6 2 = 0
  · rw [if_pos ((m1_eq (by omega)).mpr c), if_neg (by simp [c])]
  · obtain ⟨y, hy⟩ : ∃ y, A 6 2 = y + 1 := ⟨A 6 2 - 1, by omega⟩
    have e1 : nI (A 6 2) - 1 = nI y := by rw [hy, n_p]
    have hx : ix (nI y) = y := ix_n (by omega)
    have hyt : y < A 6 1 := by omega
    have hly := (L.2.2.2.2.2.2.2.2 y hyt).2.2.2
    have hay := (B.2.2.2.2.2.2.2.2 y hyt).2.2.2.2
    have e2 : A 6 2 - 1 = y := by omega
    have ho := u_op_le (A 0 (A 5 y))
    rw [if_neg (fun z => c ((m1_eq (by omega)).mp z)), e1, Gu_of (inB_n (by omega : y < 5) (by decide)), hx, hly, opensM L B hay, bd1_s, e2]
    by_cases c1 : u_op (A 0 (A 5 y)) = 1
    · rw [if_neg (by rw [n_z (by omega)]; omega)]
      have q := loop_up (fun n s i => f_X6_isOpen_L30 F m (fun x1_3 x2_4 => if x1_3 < (rI m 0 16) then some (0 : Int32) else some (1 : Int32)) n s i) (if nI (u_free A (A 5)) < nI (A 6 3) then some (0 : Int32) else some (1 : Int32)) (A 6 0) (fun i => nI (ctP (fun h => u_op (A 0 h) == 1 && ctP (u_p A (A 5) h) (A 6 1) == 0) i)) (fun n => ?_) (fun i n hi => ?_) F (by omega)
      · refine q.trans ?_
        have hf : u_free A (A 5) ≤ 5 := Nat.le_trans (ctP_le _) b1
        by_cases c2 : A 6 3 ≤ u_free A (A 5)
        · rw [if_neg (by rw [n_lt (by omega) (by omega)]; omega), if_pos (by simp [c, c1, c2])]
        · rw [if_pos ((n_lt (by omega) (by omega)).mpr (by omega)), if_neg (by simp [c2])]
      · show f_X6_isOpen_L30 F m _ (n + 1) _ _ = _
        unfold f_X6_isOpen_L30
        rw [L.1, if_pos (Int32.le_refl _), L.2.2.2.1]
        rfl
      · show f_X6_isOpen_L30 F m _ (n + 1) _ _ = _
        conv => lhs; unfold f_X6_isOpen_L30
        rw [L.1, if_neg (n_head (n := 0) b1 hi), L.2.2.1, e1, Gu_of (inB_n (by omega : y < 5) (by decide)), hx, hly]
        simp only [Jp_d, Lt_d]
        rw [opensM L B hi, bd1_s, insideM (by omega) L B (by omega), bd1_s]
        simp only [mk_e0 B, n_1 (show u_op (A 0 i) < 2 ^ 31 by have := u_op_le (A 0 i); omega), n_eq (show i < 2 ^ 31 by omega) (show A 5 y < 2 ^ 31 by omega)]
        rw [n_s, ctP_s]
        by_cases c0 : i = A 5 y
        · have c2 : ¬ ctP (u_p A (A 5) i) (A 6 1) = 0 := fun z => by
            have z2 := ct_0.mp z y hyt
            rw [p_iff.mpr ⟨by omega, c0.symm⟩] at z2
            cases z2
          rw [if_pos c0, if_neg (by simp [c2]), show (0 : Int32) = nI 0 from rfl, nI_add]
        · rw [if_neg c0]
          by_cases c1 : u_op (A 0 i) = 1
          · by_cases c2 : ctP (u_p A (A 5) i) (A 6 1) = 0
            · rw [if_pos c1, if_pos c2, if_pos (by rw [c1, c2]; rfl), n_s]
            · rw [if_pos c1, if_neg c2, if_neg (by simp [c2]), show (0 : Int32) = nI 0 from rfl, nI_add]
          · rw [if_neg c1, if_neg (by simp [c1]), show (0 : Int32) = nI 0 from rfl, nI_add]
    · rw [if_pos ((n_z (by omega)).mpr (by omega)), if_neg (by simp [c1])]
/-- why a thing can't go to a hold, where it doesn't lie -/
def u_bar (A : LT) (a : Nat → Nat) (t h : Nat) : Nat := u_rf (A 2 t + smP (fun i => u_p A a h i && !(i == t)) (A 2) (A 6 1)) (1 + ctP (fun i => u_p A a h i && !(i == t)) (A 6 1)) (u_rm A h) (A 0 h) (A 3 t) (A 4 t &&& mkP (fun i => u_p A a h i && !(i == t)) (A 6 1))
theorem mk_not {p : Nat → Bool} {t : Nat} (ht : t < 5) {T : Nat} (h5 : T ≤ 5) : nI (mkP p T) &&& (shlI 1 (nI t) ^^^ -1) = nI (mkP (fun i => p i && !(i == t)) T) := by
  have key : ∀ a, a < 32 → ∀ t, t < 5 → nI a &&& (shlI 1 (nI t) ^^^ -1) = nI (mkP (fun i => a.testBit i && !(i == t)) 5) := by decide +kernel
  rw [key _ (mk_32 h5) t ht]
  congr 1
  apply Nat.eq_of_testBit_eq
  intro i
  by_cases hi : i < 5
  · rw [mkP_bit _ hi]
    by_cases hT : i < T
    · rw [mkP_bit _ hT, mkP_bit _ hT]
    · have h1 : ∀ g : Nat → Bool, (mkP g T).testBit i = false := fun g => Nat.testBit_lt_two_pow (Nat.lt_of_lt_of_le (mkP_lt g T) (Nat.pow_le_pow_right (by decide) (by omega)))
      rw [h1, h1, Bool.false_and]
  · have h1 : ∀ (g : Nat → Bool) (n : Nat), n ≤ 5 → (mkP g n).testBit i = false := fun g n hn => Nat.testBit_lt_two_pow (Nat.lt_of_lt_of_le (mkP_lt g n) (Nat.pow_le_pow_right (by decide) (by omega)))
    rw [h1 _ _ (by omega), h1 _ _ h5]
theorem barsThingM {m : MM} {A : LT} {t h F : Nat} (hF : 7 ≤ F) (L : LM m A) (B : AB A) (ht : t < A 6 1) (hh : h < A 6 0) : f_X6_barsThing F (nI t) (nI h) m = some (nI (u_bar A (A 5) t h)) := by
  have b1 := B.1
  have b2 := B.2.1
  have hl := L.2.2.2.2.2.2.2.2 t ht
  have hb := B.2.2.2.2.2.2.2.2 t ht
  have hx : ix (nI t) = t := ix_n (by omega)
  have g := inB_n (by omega : t < 5) (by decide)
  have h32 : A 4 t < 32 := Nat.lt_of_lt_of_le hb.2.2.2.1 (Nat.pow_le_pow_right (by decide) b2 : 2 ^ A 6 1 ≤ 2 ^ 5)
  unfold f_X6_barsThing
  rw [Gu_of g, Gu_of g, Gu_of g, insideM (by omega) L B (by omega), bd1_s, hx, hl.1, hl.2.1, hl.2.2.1, mk_not (by omega) b2, barsM hF L B hh hb.2.1 hb.2.2.1 h32, bd1_s]
  rfl
theorem canGoM {m : MM} {A : LT} {t h F : Nat} (hF : 7 ≤ F) (L : LM m A) (B : AB A) (ht : t < A 6 1) (hh : h < A 6 0) : f_X6_canGo F (nI t) (nI h) m = some (if A 6 5 ≠ t + 1 ∧ A 5 t ≠ h ∧ u_bar A (A 5) t h = 0 then 1 else 0) := by
  have b1 := B.1
  have b2 := B.2.1
  have b6 := B.2.2.2.2.2.1
  have hl := L.2.2.2.2.2.2.2.2 t ht
  have hb := B.2.2.2.2.2.2.2.2 t ht
  have hx : ix (nI t) = t := ix_n (by omega)
  have g := inB_n (by omega : t < 5) (by decide)
  unfold f_X6_canGo
  rw [L.2.2.2.2.2.1, Gu_of g, hx, hl.2.2.2, barsThingM hF L B ht hh, bd1_s]
  simp only [g_eq (show t < 100 by omega) (show A 6 5 < 100 by omega), n_eq (show A 5 t < 2 ^ 31 by omega) (show h < 2 ^ 31 by omega)]
  have hu : u_bar A (A 5) t h < 2 ^ 31 := by
    unfold u_bar u_rf
    repeat' split
    all_goals omega
  simp only [n_z hu]
  by_cases c1 : A 6 5 = t + 1 <;> by_cases c2 : A 5 t = h <;> by_cases c3 : u_bar A (A 5) t h = 0 <;> simp [c1, c2, c3]
