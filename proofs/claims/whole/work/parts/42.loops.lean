/-! loops over the things of a lot -/
theorem n_head {i T n : Nat} (hT : T ≤ 5) (hd : i < T) : ¬ (nI T ≤ nI i) := by
  rw [n_le (by omega) (by omega)]
  omega
theorem or_mk {p : Nat → Bool} {i : Nat} (h : i < 31) (b : Bool) (hb : p i = b) : nI (mkP p i) ||| shlI (if b then 1 else 0) (nI i) = nI (mkP p (i + 1)) := by
  have hm : mkP p (i + 1) = mkP p i + (if p i = true then 2 ^ i else 0) := rfl
  rw [hm, hb]
  cases b with
  | true =>
    rw [if_pos rfl, shl1 i h, n_or, or_pw (mkP_lt p i), if_pos rfl]
  | false =>
    rw [if_neg (by decide), shl0 i h, n_or, Nat.or_zero, if_neg (by decide), Nat.add_zero]
theorem inside_L {m : MM} {T : Nat} {a0 : Int32} {p : Nat → Bool} (hT : rI m 0 14 = nI T) (h5 : T ≤ 5) (hp : ∀ i, i < T → (p i = true ↔ ¬ nI i = rI m 0 18 ∧ rI m 8 i = a0)) (K : Int32 → Int32 → Option Int32) : ∀ d i n : Nat, i + d = T → d < n → f_X6_inside_L4 a0 m K n (nI (mkP p i)) (nI i) = K (nI (mkP p T)) (nI T) := by
  intro d
  induction d with
  | zero =>
    intro i n hi hn
    obtain ⟨n, rfl⟩ : ∃ k, n = k + 1 := ⟨n - 1, by omega⟩
    have : i = T := by omega
    subst this
    unfold f_X6_inside_L4
    rw [hT, if_pos (Int32.le_refl _)]
  | succ d ih =>
    intro i n hi hn
    obtain ⟨n, rfl⟩ : ∃ k, n = k + 1 := ⟨n - 1, by omega⟩
    unfold f_X6_inside_L4
    rw [hT, if_neg (n_head (n := 0) h5 (by omega))]
    simp only [Jp_d, Lt_d]
    have h1 := hp i (by omega)
    have hx : ix (nI i) = i := ix_n (by omega)
    by_cases h2 : nI i = rI m 0 18
    · have hb : p i = false := by
        cases hq : p i with
        | false => rfl
        | true => exact absurd h2 (h1.mp hq).1
      have e1 := or_mk (p := p) (by omega : i < 31) false hb
      rw [if_neg (by decide)] at e1
      rw [if_pos h2, e1, n_s]
      exact ih (i + 1) n (by omega) (by omega)
    · rw [if_neg h2, Gu_of (inB_n (by omega : i < 5) (by decide)), hx]
      by_cases h3 : rI m 8 i = a0
      · have e1 := or_mk (p := p) (by omega : i < 31) true (h1.mpr ⟨h2, h3⟩)
        rw [if_pos rfl] at e1
        rw [if_pos h3, e1, n_s]
        exact ih (i + 1) n (by omega) (by omega)
      · have hb : p i = false := by
          cases hq : p i with
          | false => rfl
          | true => exact absurd (h1.mp hq).2 h3
        have e1 := or_mk (p := p) (by omega : i < 31) false hb
        rw [if_neg (by decide)] at e1
        rw [if_neg h3, e1, n_s]
        exact ih (i + 1) n (by omega) (by omega)
theorem inside_sp {m : MM} {T F : Nat} {a0 : Int32} {p : Nat → Bool} (hF : 6 ≤ F) (hT : rI m 0 14 = nI T) (h5 : T ≤ 5) (hp : ∀ i, i < T → (p i = true ↔ ¬ nI i = rI m 0 18 ∧ rI m 8 i = a0)) : f_X6_inside F a0 m = some (nI (mkP p T)) :=
  inside_L hT h5 hp _ T 0 F (by omega) (by omega)
theorem sizeOf_L {m : MM} {T a : Nat} {z : Nat → Nat} (hT : rI m 0 14 = nI T) (h5 : T ≤ 5) (ha : a < 32) (hz : ∀ i, i < T → a.testBit i = true → rI m 6 i = nI (z i)) (K : Int32 → Int32 → Option Int32) : ∀ d i n : Nat, i + d = T → d < n → f_X6_sizeOf_L4 (nI a) m K n (nI (smP (fun i => a.testBit i) z i)) (nI i) = K (nI (smP (fun i => a.testBit i) z T)) (nI T) := by
  intro d
  induction d with
  | zero =>
    intro i n hi hn
    obtain ⟨n, rfl⟩ : ∃ k, n = k + 1 := ⟨n - 1, by omega⟩
    have : i = T := by omega
    subst this
    unfold f_X6_sizeOf_L4
    rw [hT, if_pos (Int32.le_refl _)]
  | succ d ih =>
    intro i n hi hn
    obtain ⟨n, rfl⟩ : ∃ k, n = k + 1 := ⟨n - 1, by omega⟩
    unfold f_X6_sizeOf_L4
    rw [hT, if_neg (n_head (n := 0) h5 (by omega))]
    simp only [Jp_d, Lt_d]
    have hx : ix (nI i) = i := ix_n (by omega)
    have hs : smP (fun i => a.testBit i) z (i + 1) = smP (fun i => a.testBit i) z i + (if a.testBit i = true then z i else 0) := rfl
    by_cases h2 : a.testBit i = true
    · rw [if_pos ((shr_bit a ha i (by omega)).mpr h2), Gu_of (inB_n (by omega : i < 5) (by decide)), hx, hz i (by omega) h2, nI_add, n_s]
      rw [if_pos h2] at hs
      rw [← hs]
      exact ih (i + 1) n (by omega) (by omega)
    · rw [if_neg (fun q => h2 ((shr_bit a ha i (by omega)).mp q)), show (0 : Int32) = nI 0 from rfl, nI_add, n_s]
      rw [if_neg h2] at hs
      rw [← hs]
      exact ih (i + 1) n (by omega) (by omega)
theorem sizeOf_sp {m : MM} {T a F : Nat} {z : Nat → Nat} (hF : 6 ≤ F) (hT : rI m 0 14 = nI T) (h5 : T ≤ 5) (ha : a < 32) (hz : ∀ i, i < T → a.testBit i = true → rI m 6 i = nI (z i)) : f_X6_sizeOf F (nI a) m = some (nI (smP (fun i => a.testBit i) z T)) :=
  sizeOf_L hT h5 ha hz _ T 0 F (by omega) (by omega)
/-- the component's loop: sum, count and bits at once -/
theorem refuse_L {m : MM} {k T : Nat} {a1 : Int32} {p : Nat → Bool} {z : Nat → Nat} (hT : rI m k 8 = nI T) (h5 : T ≤ 5) (hp : ∀ i, i < T → (p i = true ↔ rI m (k + 7) i = a1)) (hz : ∀ i, i < T → p i = true → rI m (k + 4) i = nI (z i)) (K : Int32 → Int32 → Int32 → Int32 → Option Int32) (z0 c0 : Nat) : ∀ d i n : Nat, i + d = T → d < n → f_X0_refusal_L28 k a1 m K n (nI (z0 + smP p z i)) (nI (c0 + ctP p i)) (nI (mkP p i)) (nI i) = K (nI (z0 + smP p z T)) (nI (c0 + ctP p T)) (nI (mkP p T)) (nI T) := by
  intro d
  induction d with
  | zero =>
    intro i n hi hn
    obtain ⟨n, rfl⟩ : ∃ k, n = k + 1 := ⟨n - 1, by omega⟩
    have : i = T := by omega
    subst this
    unfold f_X0_refusal_L28
    rw [hT, if_pos (Int32.le_refl _)]
  | succ d ih =>
    intro i n hi hn
    obtain ⟨n, rfl⟩ : ∃ k, n = k + 1 := ⟨n - 1, by omega⟩
    unfold f_X0_refusal_L28
    rw [hT, if_neg (n_head (n := 0) h5 (by omega))]
    simp only [Lt_d]
    have hx : ix (nI i) = i := ix_n (by omega)
    rw [Gu_of (inB_n (by omega : i < 5) (by decide)), hx]
    have hs : smP p z (i + 1) = smP p z i + (if p i = true then z i else 0) := rfl
    have hc : ctP p (i + 1) = ctP p i + (if p i = true then 1 else 0) := rfl
    by_cases h2 : rI m (k + 7) i = a1
    · have h3 := (hp i (by omega)).mpr h2
      have e1 := or_mk (p := p) (by omega : i < 31) true h3
      rw [if_pos rfl] at e1
      rw [if_pos h3] at hs hc
      rw [if_pos h2, Gu_of (inB_n (by omega : i < 5) (by decide)), hz i (by omega) h3, nI_add, n_s, e1, n_s, Nat.add_assoc, Nat.add_assoc, ← hs, ← hc]
      exact ih (i + 1) n (by omega) (by omega)
    · have hb : p i = false := by
        cases hq : p i with
        | false => rfl
        | true => exact absurd ((hp i (by omega)).mp hq) h2
      have hm : mkP p (i + 1) = mkP p i := by
        have q : mkP p (i + 1) = mkP p i + (if p i = true then 2 ^ i else 0) := rfl
        rw [q, if_neg (by rw [hb]; decide), Nat.add_zero]
      have hs2 : smP p z (i + 1) = smP p z i := by
        rw [hs, if_neg (by rw [hb]; decide)]
        rfl
      have hc2 : ctP p (i + 1) = ctP p i := by
        rw [hc, if_neg (by rw [hb]; decide)]
        rfl
      rw [if_neg h2, n_s, ← hs2, ← hc2, ← hm]
      exact ih (i + 1) n (by omega) (by omega)
theorem lying_L {m : MM} {k T : Nat} {a0 : Int32} {p : Nat → Bool} (hT : rI m k 8 = nI T) (h5 : T ≤ 5) (hp : ∀ i, i < T → (p i = true ↔ rI m (k + 7) i = a0)) (K : Int32 → Int32 → Option Int32) : ∀ d i n : Nat, i + d = T → d < n → f_X0_lying_L4 k a0 m K n (nI (mkP p i)) (nI i) = K (nI (mkP p T)) (nI T) := by
  intro d
  induction d with
  | zero =>
    intro i n hi hn
    obtain ⟨n, rfl⟩ : ∃ k, n = k + 1 := ⟨n - 1, by omega⟩
    have : i = T := by omega
    subst this
    unfold f_X0_lying_L4
    rw [hT, if_pos (Int32.le_refl _)]
  | succ d ih =>
    intro i n hi hn
    obtain ⟨n, rfl⟩ : ∃ k, n = k + 1 := ⟨n - 1, by omega⟩
    unfold f_X0_lying_L4
    rw [hT, if_neg (n_head (n := 0) h5 (by omega))]
    simp only [Lt_d]
    have hx : ix (nI i) = i := ix_n (by omega)
    rw [Gu_of (inB_n (by omega : i < 5) (by decide)), hx]
    by_cases h2 : rI m (k + 7) i = a0
    · have e1 := or_mk (p := p) (by omega : i < 31) true ((hp i (by omega)).mpr h2)
      rw [if_pos rfl] at e1
      rw [if_pos h2, e1, n_s]
      exact ih (i + 1) n (by omega) (by omega)
    · have hb : p i = false := by
        cases hq : p i with
        | false => rfl
        | true => exact absurd ((hp i (by omega)).mp hq) h2
      have hm : mkP p (i + 1) = mkP p i := by
        have q : mkP p (i + 1) = mkP p i + (if p i = true then 2 ^ i else 0) := rfl
        rw [q, if_neg (by rw [hb]; decide), Nat.add_zero]
      rw [if_neg h2, n_s, ← hm]
      exact ih (i + 1) n (by omega) (by omega)
theorem left_L {m : MM} {k T rm : Nat} {a0 : Int32} {p : Nat → Bool} {z : Nat → Nat} (hT : rI m k 8 = nI T) (h5 : T ≤ 5) (hp : ∀ i, i < T → (p i = true ↔ rI m (k + 7) i = a0)) (hz : ∀ i, i < T → p i = true → rI m (k + 4) i = nI (z i)) (K : Int32 → Int32 → Option Int32) : ∀ d i n : Nat, i + d = T → d < n → f_X0_left_L9 k a0 m K n (nI rm - nI (smP p z i)) (nI i) = K (nI rm - nI (smP p z T)) (nI T) := by
  intro d
  induction d with
  | zero =>
    intro i n hi hn
    obtain ⟨n, rfl⟩ : ∃ k, n = k + 1 := ⟨n - 1, by omega⟩
    have : i = T := by omega
    subst this
    unfold f_X0_left_L9
    rw [hT, if_pos (Int32.le_refl _)]
  | succ d ih =>
    intro i n hi hn
    obtain ⟨n, rfl⟩ : ∃ k, n = k + 1 := ⟨n - 1, by omega⟩
    unfold f_X0_left_L9
    rw [hT, if_neg (n_head (n := 0) h5 (by omega))]
    simp only [Lt_d]
    have hx : ix (nI i) = i := ix_n (by omega)
    rw [Gu_of (inB_n (by omega : i < 5) (by decide)), hx]
    have hs : smP p z (i + 1) = smP p z i + (if p i = true then z i else 0) := rfl
    by_cases h2 : rI m (k + 7) i = a0
    · have h3 := (hp i (by omega)).mpr h2
      rw [if_pos h3] at hs
      have e1 : nI rm - nI (smP p z i) - nI (z i) = nI rm - nI (smP p z (i + 1)) := by
        rw [hs, ← nI_add, Int32.sub_sub]
      rw [if_pos h2, Gu_of (inB_n (by omega : i < 5) (by decide)), hz i (by omega) h3, e1, n_s]
      exact ih (i + 1) n (by omega) (by omega)
    · have hb : ¬ p i = true := fun q => h2 ((hp i (by omega)).mp q)
      have hs2 : smP p z (i + 1) = smP p z i := by
        rw [hs, if_neg hb]
        rfl
      rw [if_neg h2, n_s, ← hs2]
      exact ih (i + 1) n (by omega) (by omega)
