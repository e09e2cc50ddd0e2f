/-! THE RELATION of the component's memory and the model's -/
def uA (A : LT) (r i v : Nat) : LT := fun r2 i2 => if r2 = r ∧ i2 = i then v else A r2 i2
def sA (A : LT) (a : Nat → Nat) : LT := fun r i => if r = 5 then a i else A r i
/-- what the model keeps in its image -/
def LK (m : MM) (K : LT) : Prop := rI m 0 46 = nI (K 6 0) ∧ rI m 0 45 = nI (K 6 1) ∧ rI m 0 47 = nI (K 6 2) - 1 ∧ rI m 0 48 = nI (K 6 3) ∧ rI m 0 49 = nI (K 6 4) ∧ (∀ i, i < K 6 0 → rI m 18 i = nI (K 1 i)) ∧ (∀ i, i < K 6 1 → rI m 18 (5 + i) = nI (K 5 i) ∧ rI m 18 (10 + i) = nI (K 3 i) ∧ rI m 18 (15 + i) = nI (K 4 i))
/-- kinds and sizes still stand -/
def KA (K A : LT) : Prop := K 6 0 ≤ A 6 0 ∧ K 6 1 ≤ A 6 1 ∧ (∀ i, i < K 6 0 → K 0 i = A 0 i) ∧ (∀ i, i < K 6 1 → K 2 i = A 2 i)
def RK (mc mm : MM) (A : LT) (n : Nat) : Prop := (rI mc 0 9 = 0 ∧ rI mm 0 45 = -1) ∨ (rI mc 0 9 = 1 ∧ ∃ K, LC mc 9 K ∧ LK mm K ∧ AV K ∧ K 6 4 < n ∧ KA K A)
def RT (mc mm : MM) : Prop := ∃ s, s ≤ 160 ∧ rI mc 36 1 = nI s ∧ rI mm 0 6 = nI s ∧ ∀ i, i < s → rI mc 37 i = rI mm 3 i ∧ 0 ≤ (rI mc 37 i).toInt ∧ (rI mc 37 i).toInt < 256
def RS (mc mm : MM) : Prop := ∀ i, i < 4 → (rI mc (64 + 2 * i) 1 = -1 ∧ rI mm 19 i = 0) ∨ (∃ so n, so < 3 ∧ n ≤ 40 ∧ rI mm 19 i = 1 ∧ rI mc (64 + 2 * i) 1 = nI so ∧ rI mm 20 i = nI so ∧ rI mc (64 + 2 * i) 2 = nI n ∧ rI mm 21 i = nI n ∧ ∀ j, j < n → rI mc (64 + 2 * i + 1) j = rI mm 22 (40 * i + j))
/-- what texts stand on: rows of the component, rows of the model -/
def XF (X : MM → MM → Nat → Prop) : Prop := ∀ mc mm mc2 mm2 i, (∀ q, 39 ≤ q → q < 63 → (q - 39) % 4 ≠ 3 → mc2.1 q = mc.1 q) → mm2.1 1 = mm.1 1 → mm2.1 2 = mm.1 2 → X mc mm i → X mc2 mm2 i
def RX (X : MM → MM → Nat → Prop) (mc mm : MM) (n : Nat) : Prop := n ≤ 6 ∧ rI mc 0 8 = nI n ∧ rI mm 0 3 = nI n ∧ ∀ i, i < n → X mc mm i
def RelX (X : MM → MM → Nat → Prop) (mc mm : MM) : Prop := ∃ A n, LC mc 1 A ∧ LM mm A ∧ AV A ∧ A 6 4 < n ∧ RK mc mm A n ∧ RT mc mm ∧ RX X mc mm n ∧ RS mc mm
/-- rows and slots that last -/
def kcB (q : Nat) : Bool := decide (q ≤ 16) || q == 37 || (decide (39 ≤ q) && decide (q < 63) && (q - 39) % 4 != 3) || (decide (63 ≤ q) && decide (q < 72))
def KC (m m2 : MM) : Prop := (∀ q, kcB q = true → m2.1 q = m.1 q) ∧ rI m2 36 1 = rI m 36 1
def kmB (q : Nat) : Bool := decide (1 ≤ q ∧ q ≤ 9) || decide (18 ≤ q ∧ q ≤ 22)
def kmS (i : Nat) : Bool := i == 3 || i == 4 || i == 6 || i == 9 || decide (14 ≤ i ∧ i ≤ 18) || decide (45 ≤ i ∧ i ≤ 49)
def KM (m m2 : MM) : Prop := (∀ q, kmB q = true → m2.1 q = m.1 q) ∧ (∀ i, kmS i = true → rI m2 0 i = rI m 0 i)
theorem KC_rf (m : MM) : KC m m := ⟨fun _ _ => rfl, rfl⟩
theorem KM_rf (m : MM) : KM m m := ⟨fun _ _ => rfl, fun _ _ => rfl⟩
theorem KC_tr {a b c : MM} (h : KC a b) (g : KC b c) : KC a c := ⟨fun q hq => (g.1 q hq).trans (h.1 q hq), g.2.trans h.2⟩
theorem KM_tr {a b c : MM} (h : KM a b) (g : KM b c) : KM a c := ⟨fun q hq => (g.1 q hq).trans (h.1 q hq), fun i hi => (g.2 i hi).trans (h.2 i hi)⟩
theorem r_row {m m2 : MM} {q : Nat} (h : m2.1 q = m.1 q) (i : Nat) : rI m2 q i = rI m q i := congrFun h i
theorem LC_fr {m m2 : MM} {k : Nat} {A : LT} (h : ∀ q, k ≤ q → q ≤ k + 7 → m2.1 q = m.1 q) (L : LC m k A) : LC m2 k A := by
  obtain ⟨l1, l2, l3, l4, l5, l6, l7, l8⟩ := L
  have e : ∀ q i, k ≤ q → q ≤ k + 7 → rI m2 q i = rI m q i := fun q i h1 h2 => r_row (h q h1 h2) i
  refine ⟨(e _ _ (by omega) (by omega)).trans l1, (e _ _ (by omega) (by omega)).trans l2, (e _ _ (by omega) (by omega)).trans l3, (e _ _ (by omega) (by omega)).trans l4, (e _ _ (by omega) (by omega)).trans l5, (e _ _ (by omega) (by omega)).trans l6, fun i hi => ?_, fun i hi => ?_⟩
  · have q := l7 i hi
    exact ⟨(e _ _ (by omega) (by omega)).trans q.1, (e _ _ (by omega) (by omega)).trans q.2.1, (e _ _ (by omega) (by omega)).trans q.2.2⟩
  · have q := l8 i hi
    exact ⟨(e _ _ (by omega) (by omega)).trans q.1, (e _ _ (by omega) (by omega)).trans q.2.1, (e _ _ (by omega) (by omega)).trans q.2.2.1, (e _ _ (by omega) (by omega)).trans q.2.2.2⟩
theorem LM_fr {m m2 : MM} {A : LT} (h : ∀ q, 4 ≤ q → q ≤ 9 → m2.1 q = m.1 q) (g : ∀ i, i = 4 ∨ i = 9 ∨ (14 ≤ i ∧ i ≤ 18) → rI m2 0 i = rI m 0 i) (L : LM m A) : LM m2 A := by
  obtain ⟨l1, l2, l3, l4, l5, l6, l7, l8, l9⟩ := L
  have e : ∀ q i, 4 ≤ q → q ≤ 9 → rI m2 q i = rI m q i := fun q i h1 h2 => r_row (h q h1 h2) i
  refine ⟨(g _ (by omega)).trans l1, (g _ (by omega)).trans l2, (g _ (by omega)).trans l3, (g _ (by omega)).trans l4, (g _ (by omega)).trans l5, (g _ (by omega)).trans l6, (g _ (by omega)).trans l7, fun i hi => ?_, fun i hi => ?_⟩
  · have q := l8 i hi
    exact ⟨(e _ _ (by omega) (by omega)).trans q.1, (e _ _ (by omega) (by omega)).trans q.2⟩
  · have q := l9 i hi
    exact ⟨(e _ _ (by omega) (by omega)).trans q.1, (e _ _ (by omega) (by omega)).trans q.2.1, (e _ _ (by omega) (by omega)).trans q.2.2.1, (e _ _ (by omega) (by omega)).trans q.2.2.2⟩
theorem LK_fr {m m2 : MM} {A : LT} (h : m2.1 18 = m.1 18) (g : ∀ i, 45 ≤ i ∧ i ≤ 49 → rI m2 0 i = rI m 0 i) (L : LK m A) : LK m2 A := by
  obtain ⟨l1, l2, l3, l4, l5, l6, l7⟩ := L
  have e : ∀ i, rI m2 18 i = rI m 18 i := fun i => r_row h i
  refine ⟨(g _ (by omega)).trans l1, (g _ (by omega)).trans l2, (g _ (by omega)).trans l3, (g _ (by omega)).trans l4, (g _ (by omega)).trans l5, fun i hi => (e i).trans (l6 i hi), fun i hi => ?_⟩
  have q := l7 i hi
  exact ⟨(e _).trans q.1, (e _).trans q.2.1, (e _).trans q.2.2⟩
theorem RK_fr {mc mm mc2 mm2 : MM} {A : LT} {n : Nat} (hz : rI mc2 0 9 = rI mc 0 9) (h : ∀ q, 9 ≤ q → q ≤ 16 → mc2.1 q = mc.1 q) (g : mm2.1 18 = mm.1 18) (g2 : ∀ i, 45 ≤ i ∧ i ≤ 49 → rI mm2 0 i = rI mm 0 i) (R : RK mc mm A n) : RK mc2 mm2 A n := by
  rcases R with ⟨r1, r2⟩ | ⟨r1, K, k1, k2, k3, k4, k5⟩
  · exact Or.inl ⟨hz.trans r1, (g2 _ (by omega)).trans r2⟩
  · exact Or.inr ⟨hz.trans r1, K, LC_fr (fun q h1 h2 => h q h1 (by omega)) k1, LK_fr g g2 k2, k3, k4, k5⟩
theorem RK_up {mc mm : MM} {A A2 : LT} {n n2 : Nat} (hn : n ≤ n2) (h : ∀ K, KA K A → KA K A2) (R : RK mc mm A n) : RK mc mm A2 n2 := by
  rcases R with r | ⟨r1, K, k1, k2, k3, k4, k5⟩
  · exact Or.inl r
  · exact Or.inr ⟨r1, K, k1, k2, k3, by omega, h K k5⟩
theorem RT_fr {mc mm mc2 mm2 : MM} (h1 : rI mc2 36 1 = rI mc 36 1) (h2 : mc2.1 37 = mc.1 37) (h3 : rI mm2 0 6 = rI mm 0 6) (h4 : mm2.1 3 = mm.1 3) (R : RT mc mm) : RT mc2 mm2 := by
  obtain ⟨s, r1, r2, r3, r4⟩ := R
  refine ⟨s, r1, h1.trans r2, h3.trans r3, fun i hi => ?_⟩
  have q := r4 i hi
  rw [r_row h2, r_row h4]
  exact q
theorem RX_fr {X : MM → MM → Nat → Prop} (hX : XF X) {mc mm mc2 mm2 : MM} {n : Nat} (h1 : rI mc2 0 8 = rI mc 0 8) (h2 : rI mm2 0 3 = rI mm 0 3) (h : ∀ q, 39 ≤ q → q < 63 → (q - 39) % 4 ≠ 3 → mc2.1 q = mc.1 q) (g1 : mm2.1 1 = mm.1 1) (g2 : mm2.1 2 = mm.1 2) (R : RX X mc mm n) : RX X mc2 mm2 n :=
  ⟨R.1, h1.trans R.2.1, h2.trans R.2.2.1, fun i hi => hX _ _ _ _ i h g1 g2 (R.2.2.2 i hi)⟩
theorem RS_fr {mc mm mc2 mm2 : MM} (h : ∀ q, 64 ≤ q → q < 72 → mc2.1 q = mc.1 q) (g : ∀ q, 19 ≤ q → q ≤ 22 → mm2.1 q = mm.1 q) (R : RS mc mm) : RS mc2 mm2 := by
  intro i hi
  have e1 : ∀ j, rI mc2 (64 + 2 * i) j = rI mc (64 + 2 * i) j := fun j => r_row (h _ (by omega) (by omega)) j
  have e2 : ∀ j, rI mc2 (64 + 2 * i + 1) j = rI mc (64 + 2 * i + 1) j := fun j => r_row (h _ (by omega) (by omega)) j
  have f1 : ∀ j, rI mm2 19 j = rI mm 19 j := fun j => r_row (g _ (by omega) (by omega)) j
  have f2 : ∀ j, rI mm2 20 j = rI mm 20 j := fun j => r_row (g _ (by omega) (by omega)) j
  have f3 : ∀ j, rI mm2 21 j = rI mm 21 j := fun j => r_row (g _ (by omega) (by omega)) j
  have f4 : ∀ j, rI mm2 22 j = rI mm 22 j := fun j => r_row (g _ (by omega) (by omega)) j
  have q := R i hi
  simp only [e1, e2, f1, f2, f3, f4]
  exact q
theorem Rel_fr {X : MM → MM → Nat → Prop} (hX : XF X) {mc mm mc2 mm2 : MM} (c : KC mc mc2) (g : KM mm mm2) (R : RelX X mc mm) : RelX X mc2 mm2 := by
  obtain ⟨A, n, r1, r2, r3, r4, r5, r6, r7, r8⟩ := R
  have c1 : ∀ q, q ≤ 16 → mc2.1 q = mc.1 q := fun q h => c.1 q (by simp [kcB, h])
  have c2 : ∀ q, 39 ≤ q → q < 63 → (q - 39) % 4 ≠ 3 → mc2.1 q = mc.1 q := fun q h1 h2 h3 => c.1 q (by simp [kcB, h1, h2, h3])
  have c3 : ∀ q, 64 ≤ q → q < 72 → mc2.1 q = mc.1 q := fun q h1 h2 => c.1 q (by
    have h3 : 63 ≤ q := by omega
    simp [kcB, h3, h2])
  have g1 : ∀ q, 1 ≤ q → q ≤ 9 → mm2.1 q = mm.1 q := fun q h1 h2 => g.1 q (by simp [kmB, h1, h2])
  have g2 : ∀ q, 18 ≤ q → q ≤ 22 → mm2.1 q = mm.1 q := fun q h1 h2 => g.1 q (by simp [kmB, h1, h2])
  refine ⟨A, n, LC_fr (fun q h1 h2 => c1 q (by omega)) r1, LM_fr (fun q h1 h2 => g1 q (by omega) (by omega)) (fun i hi => g.2 i ?_) r2, r3, r4, RK_fr (r_row (c1 0 (by omega)) 9) (fun q h1 h2 => c1 q h2) (g2 18 (by omega) (by omega)) (fun i hi => g.2 i ?_) r5, RT_fr c.2 (c.1 37 rfl) (g.2 6 rfl) (g1 3 (by omega) (by omega)) r6, RX_fr hX (r_row (c1 0 (by omega)) 8) (g.2 3 rfl) c2 (g1 1 (by omega) (by omega)) (g1 2 (by omega) (by omega)) r7, RS_fr c3 (fun q h1 h2 => g2 q (by omega) h2) r8⟩
  · rcases hi with rfl | rfl | h
    · rfl
    · rfl
    · simp [kmS, h.1, h.2]
  · simp [kmS, hi.1, hi.2]
