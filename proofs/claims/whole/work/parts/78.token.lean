/-! TOKENS, on both sides -/
theorem ch_ok : ∀ i, i < 72 → ch16 (((Int32.toUInt32 ((strB 2 i) &&& (255 : Int32))) % 65536).toInt32) = true ∧ ((Int32.toUInt32 ((strB 2 i) &&& (255 : Int32))) % 65536).toInt32 = strB 2 i := by decide +kernel
theorem ch_sp {i : Nat} (hi : i < 72) (m : MM) : f_J0_charAt_5068e 2 (nI i) m = some (strB 2 i) := by
  have q := ch_ok i hi
  have hx : ix (nI i) = i := ix_n (by omega)
  have hL : strL 2 = nI 72 := rfl
  have hg : stL.getD 2 0 = 72 := rfl
  unfold f_J0_charAt_5068e f_J0_isLatin1_aae02 f_J1_charAt_3b067 f_J0_checkIndex_df160 f_J3_checkIndex_8e157
  rw [if_neg h10, if_pos rfl, bd1_s, i_el, Jp_d, hL, if_neg (show ¬ nI i < 0 by rw [show (0 : Int32) = nI 0 from rfl, n_lt (by omega) (by omega)]; omega), if_pos ((n_lt (by omega) (by omega)).mpr hi), bd1_s, bd1_s, hg, Gu_of (inB_n hi (by decide)), hx, q.2, Gu_of (by rw [← q.2]; rw [q.2]; have := q.1; rw [q.2] at this; exact this), bd1_s, Gu_of (by have := q.1; rw [q.2] at this; exact this)]
def sgI (y : Int32) : Int32 := if strB 1 0 = y then nI 0 else if strB 1 1 = y then nI 1 else if strB 1 2 = y then nI 2 else if strB 1 3 = y then nI 3 else if strB 1 4 = y then nI 4 else if strB 1 5 = y then nI 5 else if strB 1 6 = y then nI 6 else if strB 1 7 = y then nI 7 else -1
def SG (t : Nat) : Prop := t = 40 ∨ t = 41 ∨ t = 59 ∨ t = 43 ∨ t = 45 ∨ t = 42 ∨ t = 60 ∨ t = 61
theorem sg_ok : ∀ w, w < 256 → ((sgI ((Int32.toInt8 (nI w)).toInt32) < 0) ↔ ¬ (w = 40 ∨ w = 41 ∨ w = 59 ∨ w = 43 ∨ w = 45 ∨ w = 42 ∨ w = 60 ∨ w = 61)) := by decide +kernel
theorem by_ok : ∀ w, w < 256 → ((Int32.toUInt32 (nI w)) % 65536).toInt32 = nI w := by decide +kernel
theorem idx_sp {F w : Nat} (hF : 20 ≤ F) (hw : w < 256) (m : MM) : f_J0_indexOf_0f7a4 F 1 (nI w) m = some (sgI ((Int32.toInt8 (nI w)).toInt32)) := by
  have hL : strL 1 = nI 8 := rfl
  have hg : stL.getD 1 0 = 8 := rfl
  have hs : shrI (nI 8) (0 : Int32) = nI 8 := by decide
  obtain ⟨F, rfl⟩ : ∃ G, F = G + 9 := ⟨F - 9, by omega⟩
  unfold f_J0_indexOf_0f7a4 f_J0_indexOf_7cf53 f_J0_isLatin1_aae02 f_J0_length_8abf5 f_J0_coder_7d493 f_J1_indexOf_4cfef f_J1_canEncode_9a6ad f_J1_indexOfChar_4cfef
  rw [if_neg h10, if_pos rfl, bd1_s, i_el, if_neg h10, Gu_of (show by8 (0 : Int32) = true by decide), bd1_s, hL, hs, bd1_s, if_neg (show ¬ nI w < 0 by rw [show (0 : Int32) = nI 0 from rfl, n_lt (by omega) (by omega)]; omega), if_neg (show ¬ (255 : Int32) < nI w by rw [show (255 : Int32) = nI 255 from rfl, n_lt (by omega) (by omega)]; omega), bd1_s, i_el, Lt_d, Lt_d, show maxI (0 : Int32) (0 : Int32) = nI 0 by decide, show minI (nI 8) (nI 8) = nI 8 by decide, if_pos (show nI 0 < nI 8 by decide), Lt_d]
  generalize ((Int32.toInt8 (nI w)).toInt32) = y
  have st : ∀ k n, k < 8 → f_J1_indexOfChar_4cfef_L7 1 (nI 8) y (fun x5_2 => some (-1 : Int32)) (n + 1) (nI k) = if strB 1 k = y then some (nI k) else f_J1_indexOfChar_4cfef_L7 1 (nI 8) y (fun x5_2 => some (-1 : Int32)) n (nI (k + 1)) := by
    intro k n hk
    conv => lhs; unfold f_J1_indexOfChar_4cfef_L7
    rw [if_neg (by rw [n_le (by omega) (by omega)]; omega), hg, Gu_of (inB_n hk (by decide)), ix_n (by omega), Lt_d, n_s]
  have en : f_J1_indexOfChar_4cfef_L7 1 (nI 8) y (fun x5_2 => some (-1 : Int32)) (F + 1) (nI 8) = some (-1) := by
    unfold f_J1_indexOfChar_4cfef_L7
    rw [if_pos (Int32.le_refl _)]
  have e : f_J1_indexOfChar_4cfef_L7 1 (nI 8) y (fun x5_2 => some (-1 : Int32)) (F + 9) (nI 0) = some (sgI y) := by
    rw [st 0 (F + 8) (by decide), st 1 (F + 7) (by decide), st 2 (F + 6) (by decide), st 3 (F + 5) (by decide), st 4 (F + 4) (by decide), st 5 (F + 3) (by decide), st 6 (F + 2) (by decide), st 7 (F + 1) (by decide), en]
    unfold sgI
    simp only [apply_ite some]
  rw [e, bd1_s, bd1_s, bd1_s]
/-- the words -/
def wdlen (x : Nat) : Nat := [4, 4, 2, 5, 4, 3, 5, 4, 5, 2, 3, 3].getD x 0
def isL (c : Nat) : Prop := 97 ≤ c ∧ c ≤ 122
def isD (c : Nat) : Prop := 48 ≤ c ∧ c ≤ 57
def lw (x k : Nat) : Int32 := if k < wdlen x then strB 2 (6 * x + k) else 0
theorem wd_ok : ∀ x, x < 12 → wdlen x ≤ 5 ∧ ∀ k, k < 6 → (k < wdlen x → strB 2 (6 * x + k) ≠ 0 ∧ strB 2 (6 * x + k) ≠ 32) ∧ (wdlen x ≤ k → strB 2 (6 * x + k) = 32) := by decide +kernel
theorem wd_ne : ∀ x, x < 12 → ∀ y, y < 12 → wdlen x = wdlen y → (∀ k, k < wdlen x → strB 2 (6 * x + k) = strB 2 (6 * y + k)) → x = y := by decide +kernel
def WRD (B : Nat → Nat) (p q x : Nat) : Prop := q = p + wdlen x ∧ ∀ k, k < wdlen x → strB 2 (6 * x + k) = nI (B (p + k))
theorem WD_un {B : Nat → Nat} {p q x y : Nat} (hx : x < 12) (hy : y < 12) (h : WRD B p q x) (g : WRD B p q y) : x = y := by
  have e : wdlen x = wdlen y := by
    have := h.1
    have := g.1
    omega
  exact wd_ne x hx y hy e (fun k hk => (h.2 k hk).trans (g.2 k (by omega)).symm)
def BT (B : Nat → Nat) (n : Nat) : Prop := n ≤ 160 ∧ ∀ i, i < n → B i < 256
def CTX (m : MM) (B : Nat → Nat) (n : Nat) : Prop := rI m 36 1 = nI n ∧ ∀ i, i < n → rI m 37 i = nI (B i)
def MTX (m : MM) (B : Nat → Nat) (n fr : Nat) : Prop := rI m 0 25 = nI fr ∧ rI m 0 26 = nI n ∧ ∀ i, i < n → rI m 1 (fr + i) = nI (B i)
def Q36 (m m2 : MM) : Prop := (∀ q, q ≠ 36 → m2.1 q = m.1 q) ∧ ∀ i, i = 1 ∨ i = 6 → rI m2 36 i = rI m 36 i
def Q0 (m m2 : MM) : Prop := (∀ q, q ≠ 0 → m2.1 q = m.1 q) ∧ ∀ i, ¬ (27 ≤ i ∧ i ≤ 29) → rI m2 0 i = rI m 0 i
theorem Q36_rf (m : MM) : Q36 m m := ⟨fun _ _ => rfl, fun _ _ => rfl⟩
theorem Q0_rf (m : MM) : Q0 m m := ⟨fun _ _ => rfl, fun _ _ => rfl⟩
theorem Q36_tr {a b c : MM} (h : Q36 a b) (g : Q36 b c) : Q36 a c := ⟨fun q hq => (g.1 q hq).trans (h.1 q hq), fun i hi => (g.2 i hi).trans (h.2 i hi)⟩
theorem Q0_tr {a b c : MM} (h : Q0 a b) (g : Q0 b c) : Q0 a c := ⟨fun q hq => (g.1 q hq).trans (h.1 q hq), fun i hi => (g.2 i hi).trans (h.2 i hi)⟩
theorem Q36_w {a b : MM} {i : Nat} {v : Int32} (hi : i ≠ 1) (hi2 : i ≠ 6) (h : Q36 a b) : Q36 a (wI b 36 i v) := ⟨fun q hq => (row_ne hq).trans (h.1 q hq), fun j hj => (rI_nj (by omega)).trans (h.2 j hj)⟩
theorem Q0_w {a b : MM} {i : Nat} {v : Int32} (hi : 27 ≤ i) (hi2 : i ≤ 29) (h : Q0 a b) : Q0 a (wI b 0 i v) := ⟨fun q hq => (row_ne hq).trans (h.1 q hq), fun j hj => (rI_nj (by omega)).trans (h.2 j hj)⟩
theorem CT_q {m m2 : MM} {B : Nat → Nat} {n : Nat} (h : Q36 m m2) (c : CTX m B n) : CTX m2 B n := ⟨(h.2 1 (Or.inl rfl)).trans c.1, fun i hi => (r_row (h.1 37 (by decide)) i).trans (c.2 i hi)⟩
theorem MT_q {m m2 : MM} {B : Nat → Nat} {n fr : Nat} (h : Q0 m m2) (c : MTX m B n fr) : MTX m2 B n fr := ⟨(h.2 25 (by omega)).trans c.1, (h.2 26 (by omega)).trans c.2.1, fun i hi => (r_row (h.1 1 (by decide)) _).trans (c.2.2 i hi)⟩
theorem let_sp {c : Nat} (hc : c < 256) (m : MM) : (isL c → f_X3_isLetter (nI c) m = some 1) ∧ (¬ isL c → f_X3_isLetter (nI c) m = some 0) := by
  unfold f_X3_isLetter isL
  rw [show (97 : Int32) = nI 97 from rfl, show (122 : Int32) = nI 122 from rfl]
  constructor
  · intro h
    rw [if_neg (by rw [n_lt (by omega) (by omega)]; omega), if_neg (by rw [n_lt (by omega) (by omega)]; omega)]
  · intro h
    by_cases c1 : c < 97
    · rw [if_pos ((n_lt (by omega) (by omega)).mpr c1)]
    · rw [if_neg (by rw [n_lt (by omega) (by omega)]; exact c1), if_pos ((n_lt (by omega) (by omega)).mpr (by omega))]
theorem dig_sp {c : Nat} (hc : c < 256) (m : MM) : (isD c → f_X3_isDigit (nI c) m = some 1) ∧ (¬ isD c → f_X3_isDigit (nI c) m = some 0) := by
  unfold f_X3_isDigit isD
  rw [show (48 : Int32) = nI 48 from rfl, show (57 : Int32) = nI 57 from rfl]
  constructor
  · intro h
    rw [if_neg (by rw [n_lt (by omega) (by omega)]; omega), if_neg (by rw [n_lt (by omega) (by omega)]; omega)]
  · intro h
    by_cases c1 : c < 48
    · rw [if_pos ((n_lt (by omega) (by omega)).mpr c1)]
    · rw [if_neg (by rw [n_lt (by omega) (by omega)]; exact c1), if_pos ((n_lt (by omega) (by omega)).mpr (by omega))]
theorem in_by {c lo hi : Nat} (hc : c < 2 ^ 31) (h1 : lo < 1000) (h2 : hi < 1000) (m : MM) : f_X6_in (Int32.toInt64 (nI c)) (lN lo) (lN hi) m = some (if lo ≤ c ∧ c ≤ hi then 1 else 0) := by
  rw [in_sp, l_i, nI_toInt hc, zl_int (by omega), zl_int (by omega)]
  by_cases q : lo ≤ c ∧ c ≤ hi
  · rw [if_pos (by omega), if_pos q]
  · rw [if_neg (by omega), if_neg q]
theorem in_m1 {lo hi : Nat} (h1 : lo < 1000) (h2 : hi < 1000) (m : MM) : f_X6_in (Int32.toInt64 (-1)) (lN lo) (lN hi) m = some 0 := by
  rw [in_sp, l_i, zl_int (by omega), if_neg]
  have : (-1 : Int32).toInt = -1 := rfl
  omega
theorem byte_sp {m : MM} {B : Nat → Nat} {n fr i : Nat} (hB : BT B n) (hf : fr ≤ 800) (h : MTX m B n fr) (hi : i ≤ n + 20) : f_X6_byteAt (nI i) m = some (if i < n then nI (B i) else -1) := by
  have hn := hB.1
  unfold f_X6_byteAt
  rw [h.2.1]
  by_cases c : i < n
  · rw [if_neg (by rw [n_le (by omega) (by omega)]; omega), h.1, nI_add, Gu_of (inB_n (by omega : fr + i < 960) (by decide)), ix_n (by omega), h.2.2 i c, if_pos c]
  · rw [if_pos ((n_le (by omega) (by omega)).mpr (by omega)), if_neg c]
theorem first_ex (Q : Nat → Prop) (n : Nat) : ∀ d j, j + d = n → ∃ p, j ≤ p ∧ p ≤ n ∧ (∀ i, j ≤ i → i < p → Q i) ∧ (p = n ∨ (p < n ∧ ¬ Q p))
  | 0, j, h => ⟨j, Nat.le_refl _, by omega, fun i h1 h2 => by omega, Or.inl (by omega)⟩
  | d + 1, j, h => by
    by_cases c : Q j
    · obtain ⟨p, h1, h2, h3, h4⟩ := first_ex Q n d (j + 1) (by omega)
      refine ⟨p, by omega, h2, fun i h5 h6 => ?_, h4⟩
      by_cases e : i = j
      · rw [e]; exact c
      · exact h3 i (by omega) h6
    · exact ⟨j, Nat.le_refl _, by omega, fun i h1 h2 => by omega, Or.inr ⟨by omega, c⟩⟩
/-- the component's words -/
theorem cmpW {F : Nat} {m : MM} {B : Nat → Nat} {n p q x : Nat} (hF : 20 ≤ F) (hB : BT B n) (h : CTX m B n) (hp : rI m 36 4 = nI p) (hq : rI m 36 2 = nI q) (hpq : p ≤ q) (hqn : q ≤ n) (hl : ∀ k, p ≤ k → k < q → isL (B k)) (hx : x < 12) : (WRD B p q x → f_X3_isWord F (nI x) m = some 1) ∧ (¬ WRD B p q x → f_X3_isWord F (nI x) m = some 0) := by
  have hn := hB.1
  obtain ⟨w1, w2⟩ := wd_ok x hx
  have e6 : ∀ k, nI x * (6 : Int32) + nI k = nI (6 * x + k) := fun k => by rw [show (6 : Int32) = nI 6 from rfl, n_mul, nI_add, Nat.mul_comm]
  have loop : ∀ d k f, k + d = q - p → d < f → q - p < 6 → (∀ i, i < k → strB 2 (6 * x + i) = nI (B (p + i))) → ((∀ i, i < q - p → strB 2 (6 * x + i) = nI (B (p + i))) → f_X3_isWord_L36 (nI x) m (nI (q - p)) (fun x3_4 => some (1 : Int32)) f (nI k) = some 1) ∧ (¬ (∀ i, i < q - p → strB 2 (6 * x + i) = nI (B (p + i))) → f_X3_isWord_L36 (nI x) m (nI (q - p)) (fun x3_4 => some (1 : Int32)) f (nI k) = some 0) := by
    intro d
    induction d with
    | zero =>
      intro k f hk hf h6 hm
      obtain ⟨f, rfl⟩ : ∃ z, f = z + 1 := ⟨f - 1, by omega⟩
      unfold f_X3_isWord_L36
      rw [if_pos ((n_le (by omega) (by omega)).mpr (by omega))]
      exact ⟨fun _ => rfl, fun z => absurd (fun i hi => hm i (by omega)) z⟩
    | succ d ih =>
      intro k f hk hf h6 hm
      obtain ⟨f, rfl⟩ : ∃ z, f = z + 1 := ⟨f - 1, by omega⟩
      unfold f_X3_isWord_L36
      rw [if_neg (by rw [n_le (by omega) (by omega)]; omega), e6, ch_sp (by omega), bd1_s, hp, nI_add, Gu_of (inB_n (by omega : p + k < 160) (by decide)), ix_n (by omega), h.2 _ (by omega)]
      by_cases c : strB 2 (6 * x + k) = nI (B (p + k))
      · rw [if_pos c, Lt_d, n_s]
        exact ih (k + 1) f (by omega) (by omega) h6 (fun i hi => by
          by_cases e : i = k
          · rw [e]; exact c
          · exact hm i (by omega))
      · rw [if_neg c]
        exact ⟨fun z => absurd (z k (by omega)) c, fun _ => rfl⟩
  unfold f_X3_isWord
  rw [hq, hp, n_subn hpq, Lt_d]
  have i6 : (6 : Int32) ≤ nI (q - p) ↔ 6 ≤ q - p := n_le (a := 6) (by omega) (by omega)
  by_cases c6 : 6 ≤ q - p
  · rw [if_pos (i6.mpr c6)]
    exact ⟨fun z => absurd z.1 (by omega), fun _ => rfl⟩
  · rw [if_neg (fun z => c6 (i6.mp z)), e6, ch_sp (by omega), bd1_s]
    by_cases c32 : wdlen x ≤ q - p
    · rw [if_pos ((w2 (q - p) (by omega)).2 c32)]
      obtain ⟨l1, l2⟩ := loop (q - p) 0 F (by omega) (by omega) (by omega) (fun i hi => absurd hi (Nat.not_lt_zero i))
      constructor
      · intro z
        exact l1 (fun i hi => z.2 i (by have := z.1; omega))
      · intro z
        refine l2 (fun y => z ?_)
        have e : q - p = wdlen x := by
          by_cases cc : wdlen x < q - p
          · have := y (wdlen x) cc
            rw [(w2 (wdlen x) (by omega)).2 (Nat.le_refl _)] at this
            have l := hl (p + wdlen x) (by omega) (by omega)
            have lt := hB.2 (p + wdlen x) (by omega)
            rw [show (32 : Int32) = nI 32 from rfl, n_eq (by omega) (by omega)] at this
            unfold isL at l
            omega
          · omega
        exact ⟨by omega, fun k hk => y k (by omega)⟩
    · rw [if_neg ((w2 (q - p) (by omega)).1 (by omega)).2]
      exact ⟨fun z => absurd z.1 (by omega), fun _ => rfl⟩
/-- the model's words -/
def cnd (B : Nat → Nat) (p q k : Nat) (a : Int32) : Prop := (q ≤ p + k ∧ a = 0) ∨ (p + k < q ∧ nI (B (p + k)) = a)
theorem isLetM {m : MM} {B : Nat → Nat} {n fr p q k : Nat} {a : Int32} (hB : BT B n) (hf : fr ≤ 800) (h : MTX m B n fr) (hp : rI m 0 29 = nI p) (hq : rI m 0 27 = nI q) (hpq : p ≤ q) (hqn : q ≤ n) (hk : k < 8) : (cnd B p q k a → f_X6_isLetter (nI k) a m = some 1) ∧ (¬ cnd B p q k a → f_X6_isLetter (nI k) a m = some 0) := by
  have hn := hB.1
  unfold f_X6_isLetter
  rw [hp, hq, nI_add]
  have ie : nI q ≤ nI (p + k) ↔ q ≤ p + k := n_le (by omega) (by omega)
  by_cases c : q ≤ p + k
  · rw [if_pos (ie.mpr c)]
    by_cases ca : a = 0
    · rw [if_pos ca]
      exact ⟨fun _ => rfl, fun z => absurd (Or.inl ⟨c, ca⟩) z⟩
    · rw [if_neg ca]
      refine ⟨fun z => ?_, fun _ => rfl⟩
      rcases z with z | z
      · exact absurd z.2 ca
      · omega
  · rw [if_neg (fun z => c (ie.mp z)), byte_sp hB hf h (by omega), bd1_s, if_pos (show p + k < n by omega)]
    by_cases ca : nI (B (p + k)) = a
    · rw [if_pos ca]
      exact ⟨fun _ => rfl, fun z => absurd (Or.inr ⟨by omega, ca⟩) z⟩
    · rw [if_neg ca]
      refine ⟨fun z => ?_, fun _ => rfl⟩
      rcases z with z | z
      · omega
      · exact absurd z.2 ca
theorem isWordM {m : MM} {B : Nat → Nat} {n fr p q : Nat} {a : Nat → Int32} (hB : BT B n) (hf : fr ≤ 800) (h : MTX m B n fr) (hp : rI m 0 29 = nI p) (hq : rI m 0 27 = nI q) (hpq : p ≤ q) (hqn : q ≤ n) (hb : rI m 0 32 = 0) (h28 : rI m 0 28 = 1) : ((q ≤ p + 8 ∧ ∀ k, k < 8 → cnd B p q k (a k)) → f_X6_isWord (a 0) (a 1) (a 2) (a 3) (a 4) (a 5) (a 6) (a 7) m = some 1) ∧ (¬ (q ≤ p + 8 ∧ ∀ k, k < 8 → cnd B p q k (a k)) → f_X6_isWord (a 0) (a 1) (a 2) (a 3) (a 4) (a 5) (a 6) (a 7) m = some 0) := by
  have hn := hB.1
  have il : ∀ k, k < 8 → (cnd B p q k (a k) → f_X6_isLetter (nI k) (a k) m = some 1) ∧ (¬ cnd B p q k (a k) → f_X6_isLetter (nI k) (a k) m = some 0) := fun k hk => isLetM hB hf h hp hq hpq hqn hk
  unfold f_X6_isWord
  rw [hb, if_pos rfl, h28, if_pos rfl, hp, hq, show (8 : Int32) = nI 8 from rfl, nI_add]
  have i8 : nI (p + 8) < nI q ↔ p + 8 < q := n_lt (by omega) (by omega)
  by_cases c8 : p + 8 < q
  · rw [if_pos (i8.mpr c8)]
    exact ⟨fun z => absurd z.1 (by omega), fun _ => rfl⟩
  rw [if_neg (fun z => c8 (i8.mp z)), show (0 : Int32) = nI 0 from rfl, show (1 : Int32) = nI 1 from rfl, show (2 : Int32) = nI 2 from rfl, show (3 : Int32) = nI 3 from rfl, show (4 : Int32) = nI 4 from rfl, show (5 : Int32) = nI 5 from rfl, show (6 : Int32) = nI 6 from rfl, show (7 : Int32) = nI 7 from rfl]
  by_cases c0 : cnd B p q 0 (a 0)
  · rw [(il 0 (by decide)).1 c0, bd1_s, if_neg (show ¬ (1 : Int32) = nI 0 by decide)]
    by_cases c1 : cnd B p q 1 (a 1)
    · rw [(il 1 (by decide)).1 c1, bd1_s, if_neg (show ¬ (1 : Int32) = nI 0 by decide)]
      by_cases c2 : cnd B p q 2 (a 2)
      · rw [(il 2 (by decide)).1 c2, bd1_s, if_neg (show ¬ (1 : Int32) = nI 0 by decide)]
        by_cases c3 : cnd B p q 3 (a 3)
        · rw [(il 3 (by decide)).1 c3, bd1_s, if_neg (show ¬ (1 : Int32) = nI 0 by decide)]
          by_cases c4 : cnd B p q 4 (a 4)
          · rw [(il 4 (by decide)).1 c4, bd1_s, if_neg (show ¬ (1 : Int32) = nI 0 by decide)]
            by_cases c5 : cnd B p q 5 (a 5)
            · rw [(il 5 (by decide)).1 c5, bd1_s, if_neg (show ¬ (1 : Int32) = nI 0 by decide)]
              by_cases c6 : cnd B p q 6 (a 6)
              · rw [(il 6 (by decide)).1 c6, bd1_s, if_neg (show ¬ (1 : Int32) = nI 0 by decide)]
                by_cases c7 : cnd B p q 7 (a 7)
                · rw [(il 7 (by decide)).1 c7, bd1_s, if_neg (show ¬ (1 : Int32) = nI 0 by decide)]
                  refine ⟨fun _ => rfl, fun z => absurd ⟨by omega, fun k hk => ?_⟩ z⟩
                  rcases (show k = 0 ∨ k = 1 ∨ k = 2 ∨ k = 3 ∨ k = 4 ∨ k = 5 ∨ k = 6 ∨ k = 7 by omega) with rfl | rfl | rfl | rfl | rfl | rfl | rfl | rfl <;> assumption
                · rw [(il 7 (by decide)).2 c7, bd1_s, if_pos (show (0 : Int32) = nI 0 from rfl)]
                  exact ⟨fun z => absurd (z.2 7 (by decide)) c7, fun _ => rfl⟩
              · rw [(il 6 (by decide)).2 c6, bd1_s, if_pos (show (0 : Int32) = nI 0 from rfl)]
                exact ⟨fun z => absurd (z.2 6 (by decide)) c6, fun _ => rfl⟩
            · rw [(il 5 (by decide)).2 c5, bd1_s, if_pos (show (0 : Int32) = nI 0 from rfl)]
              exact ⟨fun z => absurd (z.2 5 (by decide)) c5, fun _ => rfl⟩
          · rw [(il 4 (by decide)).2 c4, bd1_s, if_pos (show (0 : Int32) = nI 0 from rfl)]
            exact ⟨fun z => absurd (z.2 4 (by decide)) c4, fun _ => rfl⟩
        · rw [(il 3 (by decide)).2 c3, bd1_s, if_pos (show (0 : Int32) = nI 0 from rfl)]
          exact ⟨fun z => absurd (z.2 3 (by decide)) c3, fun _ => rfl⟩
      · rw [(il 2 (by decide)).2 c2, bd1_s, if_pos (show (0 : Int32) = nI 0 from rfl)]
        exact ⟨fun z => absurd (z.2 2 (by decide)) c2, fun _ => rfl⟩
    · rw [(il 1 (by decide)).2 c1, bd1_s, if_pos (show (0 : Int32) = nI 0 from rfl)]
      exact ⟨fun z => absurd (z.2 1 (by decide)) c1, fun _ => rfl⟩
  · rw [(il 0 (by decide)).2 c0, bd1_s, if_pos (show (0 : Int32) = nI 0 from rfl)]
    exact ⟨fun z => absurd (z.2 0 (by decide)) c0, fun _ => rfl⟩
theorem WD_cnd {B : Nat → Nat} {n p q x : Nat} (hB : BT B n) (hpq : p ≤ q) (hqn : q ≤ n) (hl : ∀ k, p ≤ k → k < q → isL (B k)) (hx : x < 12) : WRD B p q x ↔ (q ≤ p + 8 ∧ ∀ k, k < 8 → cnd B p q k (lw x k)) := by
  obtain ⟨w1, w2⟩ := wd_ok x hx
  have hn := hB.1
  unfold lw
  constructor
  · intro z
    have z1 := z.1
    refine ⟨by omega, fun k hk => ?_⟩
    by_cases c : k < wdlen x
    · rw [if_pos c]
      exact Or.inr ⟨by omega, (z.2 k c).symm⟩
    · rw [if_neg c]
      exact Or.inl ⟨by omega, rfl⟩
  · rintro ⟨z1, z2⟩
    have e1 : ¬ p + wdlen x < q := fun c => by
      rcases z2 (wdlen x) (by omega) with y | y
      · omega
      · rw [if_neg (Nat.lt_irrefl _)] at y
        have l := hl (p + wdlen x) (by omega) (by omega)
        have lt := hB.2 (p + wdlen x) (by omega)
        have := (n_z (by omega)).mp y.2
        unfold isL at l
        omega
    have e2 : ¬ q < p + wdlen x := fun c => by
      rcases z2 (q - p) (by omega) with y | y
      · rw [if_pos (by omega)] at y
        exact ((w2 (q - p) (by omega)).1 (by omega)).1 y.2
      · omega
    refine ⟨by omega, fun k hk => ?_⟩
    rcases z2 k (by omega) with y | y
    · omega
    · rw [if_pos hk] at y
      exact y.2.symm
/-- the model says of a word which it is -/
theorem wordM {m : MM} {B : Nat → Nat} {n fr p q x : Nat} (hB : BT B n) (hf : fr ≤ 800) (h : MTX m B n fr) (hp : rI m 0 29 = nI p) (hq : rI m 0 27 = nI q) (hpq : p ≤ q) (hqn : q ≤ n) (hl : ∀ k, p ≤ k → k < q → isL (B k)) (hb : rI m 0 32 = 0) (h28 : rI m 0 28 = 1) (hx : x < 12) : (WRD B p q x → f_X6_isWord (lw x 0) (lw x 1) (lw x 2) (lw x 3) (lw x 4) (lw x 5) (lw x 6) (lw x 7) m = some 1) ∧ (¬ WRD B p q x → f_X6_isWord (lw x 0) (lw x 1) (lw x 2) (lw x 3) (lw x 4) (lw x 5) (lw x 6) (lw x 7) m = some 0) := by
  rw [WD_cnd hB hpq hqn hl hx]
  exact isWordM hB hf h hp hq hpq hqn hb h28
