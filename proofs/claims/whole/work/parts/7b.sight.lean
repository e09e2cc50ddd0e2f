/-! WHAT THE MODEL SEES OF A TOKEN; CODE AND ITS RUN; THE SIMULATION, stated -/
def FMX (m m2 : MM) : Prop := (∀ q, q ≠ 0 → m2.1 q = m.1 q) ∧ ∀ i, (i < 27 ∨ 33 < i) → rI m2 0 i = rI m 0 i
theorem FMX_rf (m : MM) : FMX m m := ⟨fun _ _ => rfl, fun _ _ => rfl⟩
theorem FMX_tr {a b c : MM} (h : FMX a b) (g : FMX b c) : FMX a c := ⟨fun q hq => (g.1 q hq).trans (h.1 q hq), fun i hi => (g.2 i hi).trans (h.2 i hi)⟩
theorem FMX_w {a b : MM} {i : Nat} {v : Int32} (hi : 27 ≤ i) (hi2 : i ≤ 33) (h : FMX a b) : FMX a (wI b 0 i v) := ⟨fun q hq => (row_ne hq).trans (h.1 q hq), fun j hj => (rI_nj (by omega)).trans (h.2 j hj)⟩
theorem FMX_q {a b : MM} (h : Q0 a b) : FMX a b := ⟨h.1, fun i hi => h.2 i (by omega)⟩
theorem MT_f {m m2 : MM} {B : Nat → Nat} {n fr : Nat} (h : FMX m m2) (c : MTX m B n fr) : MTX m2 B n fr := ⟨(h.2 25 (by omega)).trans c.1, (h.2 26 (by omega)).trans c.2.1, fun i hi => (r_row (h.1 1 (by decide)) _).trans (c.2.2 i hi)⟩
def OKM (B : Nat → Nat) (n o t v p j fr : Nat) (mm : MM) : Prop := fr ≤ 800 ∧ MTX mm B n fr ∧ rI mm 0 31 = nI o ∧ rI mm 0 32 = 0 ∧ MPX mm B t v p j
theorem lcmp0 {a b : Nat} (ha : a < 2 ^ 63) (hb : b < 2 ^ 63) : lg_cmp (lN a) (lN b) = 0 ↔ a = b := by
  unfold lg_cmp
  simp only [gt_iff_lt, Int64.lt_iff_toInt_lt, ← Int64.toInt_inj, zl_int ha, zl_int hb]
  by_cases c : a = b
  · rw [if_neg (by omega), if_pos (by omega)]
    exact ⟨fun _ => c, fun _ => rfl⟩
  · by_cases c2 : b < a
    · rw [if_pos (by omega)]
      exact ⟨fun z => absurd z (by decide), fun z => absurd z c⟩
    · rw [if_neg (by omega), if_neg (by omega)]
      exact ⟨fun z => absurd z (by decide), fun z => absurd z c⟩
theorem SG_40 {t : Nat} (h : SG t) : 40 ≤ t ∧ t ≤ 61 := by
  unfold SG at h
  omega
theorem WT_11 {B : Nat → Nat} {p q t v : Nat} (h : WTX B p q t v) : t = 3 ∨ (5 ≤ t ∧ t ≤ 11) := by
  rcases h with ⟨x, _, _, h, _⟩ | ⟨x, h1, h2, _, h⟩ | h
  · omega
  · omega
  · exact Or.inl h.1
theorem sign_sp {B : Nat → Nat} {n o t v p j fr s : Nat} {m : MM} (h : OKM B n o t v p j fr m) (hs : SG s) : f_X6_isSign (nI s) m = some (if t = s then 1 else 0) := by
  obtain ⟨_, _, _, hb, _, _, hk⟩ := h
  have s4 := SG_40 hs
  unfold f_X6_isSign
  rw [hb, if_pos rfl]
  rcases hk with ⟨e, k⟩ | ⟨e, k, _⟩ | ⟨e, k, l⟩ | ⟨e, k⟩ | ⟨k, _, _, w⟩
  · rw [k, if_neg (by decide), if_neg (by omega)]
  · rw [k, if_neg (by decide), if_neg (by omega)]
  · have t4 := SG_40 e
    rw [k, if_pos rfl, l, lN_nI (by omega)]
    by_cases c : t = s
    · rw [if_pos ((lcmp0 (by omega) (by omega)).mpr c), if_pos c]
    · rw [if_neg (fun z => c ((lcmp0 (by omega) (by omega)).mp z)), if_neg c]
  · rw [k, if_neg (by decide), if_neg (by omega)]
  · have := WT_11 w
    rw [k, if_neg (by decide), if_neg (by omega)]
theorem worth_sp {B : Nat → Nat} {n o t v p j fr : Nat} {m : MM} (h : OKM B n o t v p j fr m) (ht : SG t) : rL m 0 30 = lN t := by
  have s4 := SG_40 ht
  rcases h.2.2.2.2.2.2 with ⟨e, k⟩ | ⟨e, k, _⟩ | ⟨e, k, l⟩ | ⟨e, k⟩ | ⟨k, _, _, w⟩
  · omega
  · omega
  · exact l
  · omega
  · have := WT_11 w
    omega
theorem word_sp {B : Nat → Nat} {n o t v p j fr x : Nat} {m : MM} (hB : BT B n) (hT : TKX n t v p j) (h : OKM B n o t v p j fr m) (hx : 6 ≤ x) (hx2 : x < 12) : f_X6_isWord (lw x 0) (lw x 1) (lw x 2) (lw x 3) (lw x 4) (lw x 5) (lw x 6) (lw x 7) m = some (if t = x then 1 else 0) := by
  obtain ⟨hfr, hm, _, hb, _, h29, hk⟩ := h
  have no : rI m 0 28 ≠ 1 → t ≠ x → f_X6_isWord (lw x 0) (lw x 1) (lw x 2) (lw x 3) (lw x 4) (lw x 5) (lw x 6) (lw x 7) m = some (if t = x then 1 else 0) := fun z1 z2 => by
    unfold f_X6_isWord
    rw [hb, if_pos rfl, if_neg z1, if_neg z2]
  rcases hk with ⟨e, k⟩ | ⟨e, k, _⟩ | ⟨e, k, l⟩ | ⟨e, k⟩ | ⟨k, h27, hl, w⟩
  · exact no (by rw [k]; decide) (by omega)
  · exact no (by rw [k]; decide) (by omega)
  · have t4 := SG_40 e
    exact no (by rw [k]; decide) (by omega)
  · exact no (by rw [k]; decide) (by omega)
  · obtain ⟨w1, w2⟩ := wordM hB hfr hm h29 h27 hT.1 hT.2.1 hl hb k hx2
    by_cases c : WRD B p j x
    · rw [w1 c]
      rcases w with ⟨y, hy, hw, _⟩ | ⟨y, _, hy, hw, e⟩ | ⟨_, hno⟩
      · have := WD_un (by omega) hx2 hw c
        omega
      · rw [if_pos (by rw [e]; exact WD_un hy hx2 hw c)]
      · exact absurd c (hno x hx2)
    · rw [w2 c, if_neg (fun z => c ?_)]
      rcases w with ⟨y, hy, hw, e, _⟩ | ⟨y, _, hy, hw, e⟩ | ⟨e, hno⟩
      · omega
      · have : y = x := by omega
        rw [← this]
        exact hw
      · omega
theorem name_sp {B : Nat → Nat} {n o t v p j fr : Nat} {m : MM} (hB : BT B n) (hT : TKX n t v p j) (h : OKM B n o t v p j fr m) (k : rI m 0 28 = 1) : (t = 5 → f_X6_name m = some (rI m 0 (19 + v), m)) ∧ (t ≠ 5 → f_X6_name m = bd1 (f_X6_fail m) fun m14 => some ((0 : Int32), m14)) := by
  obtain ⟨hfr, hm, _, hb, _, h29, hk⟩ := h
  have hw : rI m 0 27 = nI j ∧ (∀ k, p ≤ k → k < j → isL (B k)) ∧ WTX B p j t v := by
    rcases hk with ⟨e, k2⟩ | ⟨e, k2, _⟩ | ⟨e, k2, l⟩ | ⟨e, k2⟩ | ⟨k2, h27, hl, w⟩
    · rw [k] at k2
      exact absurd k2 (by decide)
    · rw [k] at k2
      exact absurd k2 (by decide)
    · rw [k] at k2
      exact absurd k2 (by decide)
    · rw [k] at k2
      exact absurd k2 (by decide)
    · exact ⟨h27, hl, w⟩
  obtain ⟨h27, hl, w⟩ := hw
  have W : ∀ x, x < 12 → (WRD B p j x → f_X6_isWord (lw x 0) (lw x 1) (lw x 2) (lw x 3) (lw x 4) (lw x 5) (lw x 6) (lw x 7) m = some 1) ∧ (¬ WRD B p j x → f_X6_isWord (lw x 0) (lw x 1) (lw x 2) (lw x 3) (lw x 4) (lw x 5) (lw x 6) (lw x 7) m = some 0) := fun x hx => wordM hB hfr hm h29 h27 hT.1 hT.2.1 hl hb k hx
  have S : ∀ x, x < 6 → (WRD B p j x ↔ (t = 5 ∧ v = x)) := fun x hx => by
    constructor
    · intro c
      rcases w with ⟨y, hy, hw, e, e2⟩ | ⟨y, _, hy, hw, e⟩ | ⟨e, hno⟩
      · exact ⟨e, e2.trans (WD_un (by omega) (by omega) hw c)⟩
      · have := WD_un hy (by omega) hw c
        omega
      · exact absurd c (hno x (by omega))
    · rintro ⟨c1, c2⟩
      rcases w with ⟨y, hy, hw, e, e2⟩ | ⟨y, _, hy, hw, e⟩ | ⟨e, hno⟩
      · rw [← c2, e2]
        exact hw
      · omega
      · omega
  have W0 := W 0 (by decide)
  have W1 := W 1 (by decide)
  have W2 := W 2 (by decide)
  have W3 := W 3 (by decide)
  have W4 := W 4 (by decide)
  have W5 := W 5 (by decide)
  have E0 : f_X6_isWord (115 : Int32) (105 : Int32) (122 : Int32) (101 : Int32) (0 : Int32) (0 : Int32) (0 : Int32) (0 : Int32) m = f_X6_isWord (lw 0 0) (lw 0 1) (lw 0 2) (lw 0 3) (lw 0 4) (lw 0 5) (lw 0 6) (lw 0 7) m := rfl
  have E1 : f_X6_isWord (102 : Int32) (114 : Int32) (111 : Int32) (109 : Int32) (0 : Int32) (0 : Int32) (0 : Int32) (0 : Int32) m = f_X6_isWord (lw 1 0) (lw 1 1) (lw 1 2) (lw 1 3) (lw 1 4) (lw 1 5) (lw 1 6) (lw 1 7) m := rfl
  have E2 : f_X6_isWord (116 : Int32) (111 : Int32) (0 : Int32) (0 : Int32) (0 : Int32) (0 : Int32) (0 : Int32) (0 : Int32) m = f_X6_isWord (lw 2 0) (lw 2 1) (lw 2 2) (lw 2 3) (lw 2 4) (lw 2 5) (lw 2 6) (lw 2 7) m := rfl
  have E3 : f_X6_isWord (116 : Int32) (104 : Int32) (105 : Int32) (110 : Int32) (103 : Int32) (0 : Int32) (0 : Int32) (0 : Int32) m = f_X6_isWord (lw 3 0) (lw 3 1) (lw 3 2) (lw 3 3) (lw 3 4) (lw 3 5) (lw 3 6) (lw 3 7) m := rfl
  have E4 : f_X6_isWord (109 : Int32) (97 : Int32) (110 : Int32) (121 : Int32) (0 : Int32) (0 : Int32) (0 : Int32) (0 : Int32) m = f_X6_isWord (lw 4 0) (lw 4 1) (lw 4 2) (lw 4 3) (lw 4 4) (lw 4 5) (lw 4 6) (lw 4 7) m := rfl
  have E5 : f_X6_isWord (119 : Int32) (101 : Int32) (116 : Int32) (0 : Int32) (0 : Int32) (0 : Int32) (0 : Int32) (0 : Int32) m = f_X6_isWord (lw 5 0) (lw 5 1) (lw 5 2) (lw 5 3) (lw 5 4) (lw 5 5) (lw 5 6) (lw 5 7) m := rfl
  unfold f_X6_name
  rw [E0, E1, E2, E3, E4, E5]
  constructor
  · intro ht
    have hv := hT.2.2.2.2.1 ht
    rcases (show v = 0 ∨ v = 1 ∨ v = 2 ∨ v = 3 ∨ v = 4 ∨ v = 5 by omega) with c | c | c | c | c | c
    · rw [W0.1 ((S 0 (by decide)).mpr ⟨ht, c⟩), bd1_s, i_el, c]
    · rw [W0.2 (fun z => by have := ((S 0 (by decide)).mp z).2; omega), bd1_s, i_if, W1.1 ((S 1 (by decide)).mpr ⟨ht, c⟩), bd1_s, i_el, c]
    · rw [W0.2 (fun z => by have := ((S 0 (by decide)).mp z).2; omega), bd1_s, i_if, W1.2 (fun z => by have := ((S 1 (by decide)).mp z).2; omega), bd1_s, i_if, W2.1 ((S 2 (by decide)).mpr ⟨ht, c⟩), bd1_s, i_el, c]
    · rw [W0.2 (fun z => by have := ((S 0 (by decide)).mp z).2; omega), bd1_s, i_if, W1.2 (fun z => by have := ((S 1 (by decide)).mp z).2; omega), bd1_s, i_if, W2.2 (fun z => by have := ((S 2 (by decide)).mp z).2; omega), bd1_s, i_if, W3.1 ((S 3 (by decide)).mpr ⟨ht, c⟩), bd1_s, i_el, c]
    · rw [W0.2 (fun z => by have := ((S 0 (by decide)).mp z).2; omega), bd1_s, i_if, W1.2 (fun z => by have := ((S 1 (by decide)).mp z).2; omega), bd1_s, i_if, W2.2 (fun z => by have := ((S 2 (by decide)).mp z).2; omega), bd1_s, i_if, W3.2 (fun z => by have := ((S 3 (by decide)).mp z).2; omega), bd1_s, i_if, W4.1 ((S 4 (by decide)).mpr ⟨ht, c⟩), bd1_s, i_el, c]
    · rw [W0.2 (fun z => by have := ((S 0 (by decide)).mp z).2; omega), bd1_s, i_if, W1.2 (fun z => by have := ((S 1 (by decide)).mp z).2; omega), bd1_s, i_if, W2.2 (fun z => by have := ((S 2 (by decide)).mp z).2; omega), bd1_s, i_if, W3.2 (fun z => by have := ((S 3 (by decide)).mp z).2; omega), bd1_s, i_if, W4.2 (fun z => by have := ((S 4 (by decide)).mp z).2; omega), bd1_s, i_if, W5.1 ((S 5 (by decide)).mpr ⟨ht, c⟩), bd1_s, i_el, c]
  · intro ht
    rw [W0.2 (fun z => ht ((S 0 (by decide)).mp z).1), bd1_s, i_if, W1.2 (fun z => ht ((S 1 (by decide)).mp z).1), bd1_s, i_if, W2.2 (fun z => ht ((S 2 (by decide)).mp z).1), bd1_s, i_if, W3.2 (fun z => ht ((S 3 (by decide)).mp z).1), bd1_s, i_if, W4.2 (fun z => ht ((S 4 (by decide)).mp z).1), bd1_s, i_if, W5.2 (fun z => ht ((S 5 (by decide)).mp z).1), bd1_s, i_if]
theorem sign_bad {m : MM} {s : Int32} (h : rI m 0 32 = 1) : f_X6_isSign s m = some 0 := by
  unfold f_X6_isSign
  rw [h, i_el]
theorem word_bad {m : MM} {a b c d e f g i : Int32} (h : rI m 0 32 = 1) : f_X6_isWord a b c d e f g i m = some 0 := by
  unfold f_X6_isWord
  rw [h, i_el]
theorem fail_bad {m : MM} (h : rI m 0 32 = 1) : f_X6_fail m = some m := by
  unfold f_X6_fail
  rw [h, i_el]
theorem fail_ok {B : Nat → Nat} {n o t v p j fr : Nat} {m : MM} (h : OKM B n o t v p j fr m) : ∃ m2, f_X6_fail m = some m2 ∧ FMX m m2 ∧ rI m2 0 32 = 1 ∧ rI m2 0 33 = nI p := by
  refine ⟨wI (wI m 0 32 1) 0 33 (nI p), ?_, FMX_w (by decide) (by decide) (FMX_w (by decide) (by decide) (FMX_rf m)), (rI_nj (by decide)).trans rI_eq, rI_eq⟩
  unfold f_X6_fail
  rw [h.2.2.2.1, if_pos rfl, Gu_of bz1, Lt_d, rI_nj (by decide), h.2.2.2.2.2.1, Lt_d]
/-- code, and how it runs -/
def two (x : Nat) (a b : Int32) : Int32 := if x = 20010 then (if a = 0 then 0 else if b = 0 then 0 else 1) else if x = 20042 then a * b else if x = 20043 then a + b else if x = 20045 then a - b else if x = 20060 then (if b ≤ a then 0 else 1) else if x = 20061 then (if a = b then 1 else 0) else (if a = 0 then if b = 0 then 0 else 1 else 1)
def onev (x : Nat) (a : Int32) : Int32 := if x = 20001 then -a else if a = 0 then 1 else 0
def run1 (nm : Nat → Int32) (x : Nat) (st : List Int32) : Option (List Int32) := if x < 30000 then (if 20000 ≤ x then (if x = 20001 ∨ x = 20011 then (match st with | a :: r => some (onev x a :: r) | [] => none) else (match st with | b :: a :: r => some (two x a b :: r) | _ => none)) else if st.length < 40 then (if 10000 ≤ x then (if x < 10006 then some (nm (x - 10000) :: st) else none) else some (nI x :: st)) else none) else none
def run (nm : Nat → Int32) : List Nat → List Int32 → Option (List Int32)
  | [], st => some st
  | x :: L, st => match run1 nm x st with | some s2 => run nm L s2 | none => none
theorem run_app {nm : Nat → Int32} {M : List Nat} {st s2 : List Int32} : ∀ {L : List Nat}, run nm L st = some s2 → run nm (L ++ M) st = run nm M s2 := by
  intro L
  induction L generalizing st with
  | nil =>
    intro h
    cases h
    rfl
  | cons x L ih =>
    intro h
    show (match run1 nm x st with | some s2 => run nm (L ++ M) s2 | none => none) = _
    have h' : (match run1 nm x st with | some s2 => run nm L s2 | none => none) = some s2 := h
    cases e : run1 nm x st with
    | none => rw [e] at h'; cases h'
    | some s3 =>
      rw [e] at h'
      exact ih h'
def EVX (nm : Nat → Int32) (L : List Nat) (x : Int32) (h : Nat) : Prop := ∀ st : List Int32, st.length + h ≤ 40 → run nm L st = some (x :: st)
theorem EVX_up {nm : Nat → Int32} {L : List Nat} {x : Int32} {h h2 : Nat} (e : EVX nm L x h) (hh : h ≤ h2) : EVX nm L x h2 := fun st hs => e st (by omega)
def CCX (m : MM) (k : Nat) (cs : List Nat) : Prop := rI m k 3 = nI cs.length ∧ ∀ i x, cs[i]? = some x → rI m (k + 1) i = nI x
def KTX (k : Nat) : Prop := k = 39 ∨ k = 43 ∨ k = 47 ∨ k = 51 ∨ k = 55 ∨ k = 59
def FC3 (k : Nat) (m m2 : MM) : Prop := (∀ q, q ≠ 36 → q ≠ k → q ≠ k + 1 → m2.1 q = m.1 q) ∧ (∀ i, i = 1 ∨ i = 6 → rI m2 36 i = rI m 36 i) ∧ ∀ i, i ≠ 3 → rI m2 k i = rI m k i
theorem FC3_rf (k : Nat) (m : MM) : FC3 k m m := ⟨fun _ _ _ _ => rfl, fun _ _ => rfl, fun _ _ => rfl⟩
theorem FC3_tr {k : Nat} {a b c : MM} (h : FC3 k a b) (g : FC3 k b c) : FC3 k a c := ⟨fun q h1 h2 h3 => (g.1 q h1 h2 h3).trans (h.1 q h1 h2 h3), fun i hi => (g.2.1 i hi).trans (h.2.1 i hi), fun i hi => (g.2.2 i hi).trans (h.2.2 i hi)⟩
theorem KT_39 {k : Nat} (h : KTX k) : 39 ≤ k ∧ k ≤ 59 := by
  unfold KTX at h
  omega
theorem FC3_q {k : Nat} (hk : KTX k) {a b : MM} (h : Q36 a b) : FC3 k a b := by
  have := KT_39 hk
  exact ⟨fun q h1 _ _ => h.1 q h1, h.2, fun i _ => r_row (h.1 k (by omega)) i⟩
theorem KT_B {k : Nat} (h : KTX k) : isTxB (nI k) = true := by
  rcases h with h | h | h | h | h | h <;> subst h <;> rfl
theorem add_sp {k : Nat} {m : MM} {cs : List Nat} {x : Nat} (hk : KTX k) (hc : CCX m k cs) (hl : cs.length < 160) : ∃ m2, f_X4_add k (nI x) m = some m2 ∧ (∀ q, q ≠ k → q ≠ k + 1 → m2.1 q = m.1 q) ∧ (∀ i, i ≠ 3 → rI m2 k i = rI m k i) ∧ CCX m2 k (cs ++ [x]) := by
  have h39 := KT_39 hk
  refine ⟨wI (wI m k 3 (nI (cs.length + 1))) (k + 1) cs.length (nI x), ?_, fun q h1 h2 => (row_ne h2).trans (row_ne h1), fun i hi => (rI_ne (by omega)).trans (rI_nj hi), ⟨?_, fun i y hy => ?_⟩⟩
  · unfold f_X4_add
    rw [hc.1, if_neg (by rw [show (160 : Int32) = nI 160 from rfl, n_le (by omega) (by omega)]; omega), n_s, Lt_d, Gu_of (inB_n hl (by decide)), ix_n (by omega), Lt_d]
  · rw [rI_ne (by omega), rI_eq, List.length_append]
    rfl
  · rw [rI_w]
    by_cases c : i = cs.length
    · rw [if_pos ⟨rfl, c⟩]
      rw [c, List.getElem?_append_right (Nat.le_refl _), Nat.sub_self] at hy
      cases hy
      rfl
    · rw [if_neg (fun z => c z.2), rI_ne (by omega)]
      have hi : i < cs.length := by
        have := (List.getElem?_eq_some_iff.mp hy).1
        rw [List.length_append] at this
        simp at this
        omega
      rw [List.getElem?_append_left hi] at hy
      exact hc.2 i y hy
