/-! FEWEST, LEAST on both sides; RING, LEAVE, ROOMY, PACK -/
def FX (m m2 : MM) : Prop := ∀ q, (q ≤ 16 ∨ (36 ≤ q ∧ q ≠ 72 ∧ ¬ (39 ≤ q ∧ q < 63 ∧ (q - 39) % 4 = 3))) → m2.1 q = m.1 q
theorem FX_rf (m : MM) : FX m m := fun _ _ => rfl
theorem FX_tr {a b c : MM} (h : FX a b) (g : FX b c) : FX a c := fun q hq => (g q hq).trans (h q hq)
theorem FX_fc {a b : MM} (h : FC a b) : FX a b := fun q hq => h q (by omega) (by omega)
theorem FX_fe {a b : MM} (h : FE a b) : FX a b := fun q hq => h.1 q (by omega) (by omega) (by omega) (by omega) (by omega)
theorem KC_fx {a b : MM} (h : FX a b) : KC a b := ⟨fun q hq => h q (by
  simp [kcB] at hq
  omega), r_row (h 36 (by omega)) 1⟩
theorem LC_fx {a b : MM} {A : LT} (h : FX a b) (L : LC a 1 A) : LC b 1 A := LC_fr (fun q h1 h2 => h q (by omega)) L
theorem PC_fx {F : Nat} {P : Nat → (Nat → Int32) → Int32} {a b : MM} {i : Nat} (hi : i < 6) (h : FX a b) (p : PC F P a i) : PC F P b i := PC_fr (h _ (by omega)) (h _ (by omega)) (h _ (by omega)) p
def FY (m m2 : MM) : Prop := (∀ q, q ≠ 0 → ¬ (10 ≤ q ∧ q ≤ 17) → m2.1 q = m.1 q) ∧ ∀ i, i < 19 ∨ (33 < i ∧ i ≠ 40 ∧ i ≠ 41) → rI m2 0 i = rI m 0 i
theorem FY_rf (m : MM) : FY m m := ⟨fun _ _ _ => rfl, fun _ _ => rfl⟩
theorem FY_tr {a b c : MM} (h : FY a b) (g : FY b c) : FY a c := ⟨fun q h1 h2 => (g.1 q h1 h2).trans (h.1 q h1 h2), fun i hi => (g.2 i hi).trans (h.2 i hi)⟩
theorem FY_fn {a b : MM} (h : FN a b) : FY a b := ⟨fun q h1 _ => h.1 q h1, fun i hi => h.2 i (by omega)⟩
theorem KM_fy {a b : MM} (h : FY a b) : KM a b := ⟨fun q hq => by
  simp [kmB] at hq
  exact h.1 q (by omega) (by omega), fun i hi => by
  simp [kmS] at hi
  exact h.2 i (by omega)⟩
theorem LM_fy {a b : MM} {A : LT} (h : FY a b) (L : LM a A) : LM b A := LM_fr (fun q h1 h2 => h.1 q (by omega) (by omega)) (fun i hi => h.2 i (by omega)) L
theorem PM_fy {F : Nat} {P : Nat → (Nat → Int32) → Int32} {a b : MM} {i : Nat} (h : FY a b) (p : PM F P a i) : PM F P b i := PM_fr (h.1 1 (by omega) (by omega)) (h.1 2 (by omega) (by omega)) p
def PX (m : MM) (A : LT) (pr : Nat → Nat) : Prop := ∀ t a b, t < A 6 1 → a < A 6 0 → b < A 6 0 → rI m 31 ((t * 5 + a) * 5 + b) = nI (pr ((t * 5 + a) * 5 + b))
def FP (m m2 : MM) : Prop := ∀ q, q ≠ 31 → q ≠ 72 → ¬ (39 ≤ q ∧ q < 63 ∧ (q - 39) % 4 = 3) → m2.1 q = m.1 q
theorem FP_rf (m : MM) : FP m m := fun _ _ _ _ => rfl
theorem FP_tr {a b c : MM} (h : FP a b) (g : FP b c) : FP a c := fun q h1 h2 h3 => (g q h1 h2 h3).trans (h q h1 h2 h3)
theorem LC_fp {a b : MM} {A : LT} (h : FP a b) (L : LC a 1 A) : LC b 1 A := LC_fr (fun q h1 h2 => h q (by omega) (by omega) (by omega)) L
theorem FX_fp {a b : MM} (h : FP a b) : FX a b := fun q hq => h q (by omega) (by omega) (by omega)
theorem ccosts_sp {F : Nat} {P : Nat → (Nat → Int32) → Int32} {A : LT} {m : MM} (hF : 50 ≤ F) (p0 : P0 P) (pc : PC F P m (A 6 4)) (L : LC m 1 A) (B : AB A) : ∃ m', f_X5_countCosts F m = some m' ∧ FP m m' ∧ PX m' A (u_pr P A) := by
  have b1 := B.1
  have b2 := B.2.1
  have b5 := B.2.2.2.2.1
  have pcf : ∀ {m2 : MM}, FP m m2 → PC F P m2 (A 6 4) := fun h => PC_fr (h _ (by omega) (by omega) (by omega)) (h _ (by omega) (by omega) (by omega)) (h _ (by omega) (by omega) (by omega)) pc
  have in3 : ∀ t a, t < A 6 1 → a < A 6 0 → ∀ m1 (K : Int32 → MM → Option MM), FP m m1 → ∃ m2, (FP m1 m2 ∧ (∀ b, b < A 6 0 → rI m2 31 ((t * 5 + a) * 5 + b) = nI (u_sa P A 0 t a b)) ∧ ∀ j, (∀ b, b < A 6 0 → j ≠ (t * 5 + a) * 5 + b) → rI m2 31 j = rI m1 31 j) ∧ f_X5_countCosts_L28 F (nI t) (nI a) K F 0 m1 = K (nI (A 6 0)) m2 := by
    intro t a ht ha m1 K h1
    obtain ⟨m2, ⟨i1, i2, i3⟩, i4⟩ := loop_inv (fun n i m => f_X5_countCosts_L28 F (nI t) (nI a) K n i m) (fun m => K (nI (A 6 0)) m) (A 6 0) (fun x mx => FP m1 mx ∧ (∀ b, b < x → rI mx 31 ((t * 5 + a) * 5 + b) = nI (u_sa P A 0 t a b)) ∧ ∀ j, (∀ b, b < A 6 0 → j ≠ (t * 5 + a) * 5 + b) → rI mx 31 j = rI m1 31 j) (fun n mx hI => by
      have e7 : rI mx 1 7 = nI (A 6 0) := (LC_fp (FP_tr h1 hI.1) L).1
      show f_X5_countCosts_L28 _ _ _ _ (n + 1) _ _ = _
      unfold f_X5_countCosts_L28
      rw [e7, if_pos (Int32.le_refl _)]) (fun x n mx hx hI => by
      have hmx := FP_tr h1 hI.1
      have Lx := LC_fp hmx L
      obtain ⟨m3, k1, k2⟩ := costsC (F := F) (f := a) p0 (pcf hmx) Lx B ht hx
      have e25 : (nI t * (5 : Int32) + nI a) * (5 : Int32) + nI x = nI ((t * 5 + a) * 5 + x) := by
        rw [show (5 : Int32) = nI 5 from rfl, n_mul, nI_add, n_mul, nI_add]
      refine ⟨wI m3 31 ((t * 5 + a) * 5 + x) (nI (u_sa P A 0 t a x)), ⟨fun q q1 q2 q3 => (row_ne q1).trans ((k2 q q2 q3).trans (hI.1 q q1 q2 q3)), fun b hb => ?_, fun j hj => ?_⟩, ?_⟩
      · by_cases c : b = x
        · rw [c, rI_eq]
        · rw [rI_nj (by omega), r_row (k2 31 (by decide) (by decide))]
          exact hI.2.1 b (by omega)
      · rw [rI_nj (hj x hx), r_row (k2 31 (by decide) (by decide))]
        exact hI.2.2 j hj
      · show f_X5_countCosts_L28 _ _ _ _ (n + 1) _ _ = _
        conv => lhs; unfold f_X5_countCosts_L28 f_X1_price f_X1_placeOf
        have e7 : rI mx 1 7 = nI (A 6 0) := Lx.1
        rw [e7, if_neg (by rw [n_le (by omega) (by omega)]; omega), k1, bd2_s, bd1_s, e25, Gu_of (inB_n (by omega : (t * 5 + a) * 5 + x < 125) (by decide)), ix_n (by omega), Lt_d, bd1_s, Lt_d, n_s]) F m1 (by omega) ⟨FP_rf m1, fun b hb => absurd hb (Nat.not_lt_zero b), fun j _ => rfl⟩
    exact ⟨m2, ⟨i1, i2, i3⟩, i4⟩
  have in2 : ∀ t, t < A 6 1 → ∀ m1 (K : Int32 → MM → Option MM), FP m m1 → ∃ m2, (FP m1 m2 ∧ (∀ a b, a < A 6 0 → b < A 6 0 → rI m2 31 ((t * 5 + a) * 5 + b) = nI (u_sa P A 0 t a b)) ∧ ∀ j, (∀ a b, a < A 6 0 → b < A 6 0 → j ≠ (t * 5 + a) * 5 + b) → rI m2 31 j = rI m1 31 j) ∧ f_X5_countCosts_L15 F (nI t) K F 0 m1 = K (nI (A 6 0)) m2 := by
    intro t ht m1 K h1
    obtain ⟨m2, ⟨i1, i2, i3⟩, i4⟩ := loop_inv (fun n i m => f_X5_countCosts_L15 F (nI t) K n i m) (fun m => K (nI (A 6 0)) m) (A 6 0) (fun x mx => FP m1 mx ∧ (∀ a b, a < x → b < A 6 0 → rI mx 31 ((t * 5 + a) * 5 + b) = nI (u_sa P A 0 t a b)) ∧ ∀ j, (∀ a b, a < A 6 0 → b < A 6 0 → j ≠ (t * 5 + a) * 5 + b) → rI mx 31 j = rI m1 31 j) (fun n mx hI => by
      have e7 : rI mx 1 7 = nI (A 6 0) := (LC_fp (FP_tr h1 hI.1) L).1
      show f_X5_countCosts_L15 _ _ _ (n + 1) _ _ = _
      unfold f_X5_countCosts_L15
      rw [e7, if_pos (Int32.le_refl _)]) (fun x n mx hx hI => by
      have hmx := FP_tr h1 hI.1
      have e7 : rI mx 1 7 = nI (A 6 0) := (LC_fp hmx L).1
      obtain ⟨m3, ⟨k1, k2, k3⟩, k4⟩ := in3 t x ht hx mx (fun x3_7 m8 => Lt (nI x + (1 : Int32)) fun x2_16 => f_X5_countCosts_L15 F (nI t) K n x2_16 m8) hmx
      refine ⟨m3, ⟨FP_tr hI.1 k1, fun a b ha hb => ?_, fun j hj => ?_⟩, ?_⟩
      · by_cases c : a = x
        · rw [c]
          exact k2 b hb
        · rw [k3 _ (fun b' hb' => by omega)]
          exact hI.2.1 a b (by omega) hb
      · rw [k3 j (fun b hb => hj x b hx hb)]
        exact hI.2.2 j hj
      · show f_X5_countCosts_L15 _ _ _ (n + 1) _ _ = _
        conv => lhs; unfold f_X5_countCosts_L15
        rw [e7, if_neg (by rw [n_le (by omega) (by omega)]; omega)]
        refine Eq.trans k4 ?_
        show (Lt (nI x + (1 : Int32)) fun x2_16 => f_X5_countCosts_L15 F (nI t) K n x2_16 m3) = _
        rw [Lt_d, n_s]) F m1 (by omega) ⟨FP_rf m1, fun a b ha => absurd ha (Nat.not_lt_zero a), fun j _ => rfl⟩
    exact ⟨m2, ⟨i1, i2, i3⟩, i4⟩
  unfold f_X5_countCosts
  obtain ⟨m2, ⟨i1, i2⟩, i4⟩ := loop_inv (fun n i m => f_X5_countCosts_L2 F (fun x1_1 m2 => some m2) n i m) (fun m => some m) (A 6 1) (fun x mx => FP m mx ∧ ∀ t a b, t < x → a < A 6 0 → b < A 6 0 → rI mx 31 ((t * 5 + a) * 5 + b) = nI (u_sa P A 0 t a b)) (fun n mx hI => by
    have e8 : rI mx 1 8 = nI (A 6 1) := (LC_fp hI.1 L).2.1
    show f_X5_countCosts_L2 _ _ (n + 1) _ _ = _
    unfold f_X5_countCosts_L2
    rw [e8, if_pos (Int32.le_refl _)]) (fun x n mx hx hI => by
    have e8 : rI mx 1 8 = nI (A 6 1) := (LC_fp hI.1 L).2.1
    obtain ⟨m3, ⟨k1, k2, k3⟩, k4⟩ := in2 x hx mx (fun x2_4 m5 => Lt (nI x + (1 : Int32)) fun x1_17 => f_X5_countCosts_L2 F (fun x1_1 m2 => some m2) n x1_17 m5) hI.1
    refine ⟨m3, ⟨FP_tr hI.1 k1, fun t a b ht ha hb => ?_⟩, ?_⟩
    · by_cases c : t = x
      · rw [c]
        exact k2 a b ha hb
      · rw [k3 _ (fun a' b' ha' hb' => by omega)]
        exact hI.2 t a b (by omega) ha hb
    · show f_X5_countCosts_L2 _ _ (n + 1) _ _ = _
      conv => lhs; unfold f_X5_countCosts_L2
      rw [e8, if_neg (n_head (n := 0) b2 hx)]
      refine Eq.trans k4 ?_
      show (Lt (nI x + (1 : Int32)) fun x1_17 => f_X5_countCosts_L2 F (fun x1_1 m2 => some m2) n x1_17 m3) = _
      rw [Lt_d, n_s]) F m (by omega) ⟨FP_rf m, fun t a b ht => absurd ht (Nat.not_lt_zero t)⟩
  exact ⟨m2, i4, i1, fun t a b ht ha hb => by rw [pr_at (by omega) (by omega)]; exact i2 t a b ht ha hb⟩
theorem cmoves_sp {F : Nat} {m : MM} (hF : 200 ≤ F) : ∃ m', f_X1_countMoves F m = some m' ∧ (∀ q, q ≠ 31 → m'.1 q = m.1 q) ∧ ∀ k, k < 125 → rI m' 31 k = 1 := by
  unfold f_X1_countMoves
  obtain ⟨m2, ⟨i1, i2⟩, i4⟩ := loop_inv (fun n i m => f_X1_countMoves_L2 (fun x1_1 m2 => some m2) n i m) (fun m => some m) 125 (fun x mx => (∀ q, q ≠ 31 → mx.1 q = m.1 q) ∧ ∀ k, k < x → rI mx 31 k = 1) (fun n mx hI => by
    show f_X1_countMoves_L2 _ (n + 1) _ _ = _
    unfold f_X1_countMoves_L2
    rw [if_pos (by decide)]) (fun x n mx hx hI => by
    refine ⟨wI mx 31 x 1, ⟨fun q hq => (row_ne hq).trans (hI.1 q hq), fun k hk => ?_⟩, ?_⟩
    · rw [rI_w]
      by_cases c : k = x
      · rw [if_pos ⟨rfl, c⟩]
      · rw [if_neg (fun z => c z.2)]
        exact hI.2 k (by omega)
    · show f_X1_countMoves_L2 _ (n + 1) _ _ = _
      conv => lhs; unfold f_X1_countMoves_L2
      rw [if_neg (by rw [show (125 : Int32) = nI 125 from rfl, n_le (by omega) (by omega)]; omega), Gu_of (inB_n hx (by decide)), Lt_d, Lt_d, ix_n (by omega), n_s]) F m (by omega) ⟨fun q _ => rfl, fun k hk => absurd hk (Nat.not_lt_zero k)⟩
  exact ⟨m2, i4, i1, i2⟩
theorem th_00 {A : LT} (V : AV A) : u_th A 0 0 = A := by
  funext r i
  show (if r = 6 ∧ i = 6 then 0 else (if r = 6 ∧ i = 5 then 0 else A r i)) = A r i
  by_cases c : r = 6 ∧ i = 6
  · rw [if_pos c, c.1, c.2]
    exact V.2.2.2.2.symm
  · rw [if_neg c]
    by_cases c2 : r = 6 ∧ i = 5
    · rw [if_pos c2, c2.1, c2.2]
      exact V.2.2.2.1.symm
    · rw [if_neg c2]
theorem FX_th {a b : MM} (h : ∀ q, ¬ (17 ≤ q ∧ q ≤ 33) ∨ q = 31 → b.1 q = a.1 q) : FX a b := fun q hq => h q (by omega)
/-- LEAST of a lot in thought -/
theorem leastC {F : Nat} {A : LT} {pr : Nat → Nat} {m : MM} {g w : Nat} (hF : 400000 ≤ F) (V : AV A) (hg : g ≤ A 6 1) (hw : w ≤ A 6 0) (hgk : g = 0 ∨ g ≠ A 6 2) (hpr : ∀ k, k < 125 → pr k ≤ 99) (L : LC m 1 A) (X : PX m A pr) : ∃ m' fa, f_X5_leastIf F (nI g - 1) (nI w - 1) m = some (nI (fa (u_hm (u_th A g w))) - 1, m') ∧ SPR (u_th A g w) pr (srcO (u_th A g w)) false (u_hm (u_th A g w)) m' fa ∧ CX2 m' (u_th A g w) pr (u_hm (u_th A g w)) ∧ FX m m' ∧ PX m' A pr := by
  obtain ⟨m1, e1, e2, e3⟩ := think_sp (F := F) (by omega) V hg hw hgk L
  have C1 : CX2 m1 (u_th A g w) pr (u_hm (u_th A g w)) := ⟨e2, fun t a b h1 h2 h3 => (r_row (e3 31 (Or.inr rfl)) _).trans (X t a b h1 h2 h3), hpr⟩
  obtain ⟨m2, fa, k1, k2, k3⟩ := open_sp (F := F) (all := false) hF (th_AB V.1 hg hw) C1
  have k1' : f_X1_spreadFromOpen F 0 m1 = some (nI (fa (u_hm (u_th A g w))) - 1, m2) := k1
  have C2 := CX_fe k3 C1
  refine ⟨m2, fa, ?_, k2, C2, FX_tr (FX_th e3) (FX_fe k3), C2.2.1⟩
  unfold f_X5_leastIf
  rw [e1, bd1_s, k1', bd2_s]
theorem fewestC {F : Nat} {A : LT} {m : MM} {all : Bool} (hF : 400000 ≤ F) (V : AV A) (L : LC m 1 A) : ∃ m' fa, f_X5_fewest F (if all = true then 1 else 0) m = some (nI (fa (u_hm A)) - 1, m') ∧ SPR A one (srcO A) all (u_hm A) m' fa ∧ CX2 m' A one (u_hm A) ∧ FX m m' := by
  obtain ⟨m1, e1, e2, e3⟩ := think_sp (F := F) (g := 0) (w := 0) (by omega) V (Nat.zero_le _) (Nat.zero_le _) (Or.inl rfl) L
  have b1 := V.1.1
  have b2 := V.1.2.1
  rw [th_00 V] at e2
  obtain ⟨m2, c1, c2, c3⟩ := cmoves_sp (F := F) (m := m1) (by omega)
  have C2 : CX2 m2 A one (u_hm A) := ⟨SE_fr (fun q hq => c2 q (by omega)) (fun i _ _ => r_row (c2 25 (by decide)) i) e2, fun t a b h1 h2 h3 => c3 _ (by omega), fun k _ => by show 1 ≤ 99; omega⟩
  obtain ⟨m3, fa, k1, k2, k3⟩ := open_sp (F := F) (all := all) hF V.1 C2
  refine ⟨m3, fa, ?_, k2, CX_fe k3 C2, FX_tr (FX_th e3) (FX_tr (fun q hq => c2 q (by omega)) (FX_fe k3))⟩
  unfold f_X5_fewest
  rw [show nI 0 - 1 = (-1 : Int32) by decide] at e1
  rw [e1, bd1_s, c1, bd1_s, k1, bd2_s]
/-- as the model tells it -/
def tM (x : Nat) : Nat := if x = 0 then FAR else x - 1
theorem tM_lt {x : Nat} (h : x ≤ 400000) : tM x ≤ FAR ∧ (tM x < FAR ↔ x ≠ 0) := by
  have FARd : FAR = 99999999 := rfl
  unfold tM
  by_cases c : x = 0
  · rw [if_pos c]
    omega
  · rw [if_neg c]
    omega
theorem told1_sp {x : Nat} (h : x ≤ 400000) (m : MM) : f_X6_told1 (nI (tM x)) m = some (nI x - 1) := by
  have FARd : FAR = 99999999 := rfl
  have q := tM_lt h
  unfold f_X6_told1
  rw [show (99999999 : Int32) = nI FAR from rfl]
  by_cases c : x = 0
  · rw [if_neg (by rw [n_lt (by omega) (by omega)]; omega), c]
    rfl
  · rw [if_pos ((n_lt (by omega) (by omega)).mpr (q.2.mpr c))]
    obtain ⟨y, rfl⟩ : ∃ y, x = y + 1 := ⟨x - 1, by omega⟩
    rw [n_p]
    rfl
theorem ps_hm {A : LT} (B : AB A) : enc 5 (A 5) (A 6 1) = ps A (u_hm A) := enc_cong (fun i hi => by
  by_cases c : A 6 5 = i + 1
  · rw [if_pos c]
  · rw [if_neg c, hm_dg B hi]
    unfold u_ag
    rw [if_neg c])
theorem now_sp {F : Nat} {A : LT} {m : MM} (hF : 50 ≤ F) (B : AB A) (L : LM m A) : f_X6_codeNow F m = some (nI (ps A (u_hm A))) := by
  rw [codeNow_sp hF B.2.1 L.2.1 (fun i hi => (L.2.2.2.2.2.2.2.2 i hi).2.2.2), ps_hm B]
theorem LM_th {m : MM} {A : LT} {g w : Nat} (L : LM m A) : LM (wI (wI m 0 18 (nI g - 1)) 0 17 (nI w - 1)) (u_th A g w) := by
  obtain ⟨l1, l2, l3, l4, l5, l6, l7, l8, l9⟩ := L
  have e : ∀ i, i ≠ 18 → i ≠ 17 → rI (wI (wI m 0 18 (nI g - 1)) 0 17 (nI w - 1)) 0 i = rI m 0 i := fun i h1 h2 => by rw [rI_nj h2, rI_nj h1]
  have f : ∀ q i, q ≠ 0 → rI (wI (wI m 0 18 (nI g - 1)) 0 17 (nI w - 1)) q i = rI m q i := fun q i h => by rw [rI_ne h, rI_ne h]
  refine ⟨(e 9 (by decide) (by decide)).trans l1, (e 14 (by decide) (by decide)).trans l2, (e 15 (by decide) (by decide)).trans l3, (e 16 (by decide) (by decide)).trans l4, (e 4 (by decide) (by decide)).trans l5, ?_, rI_eq, fun i hi => ?_, fun i hi => ?_⟩
  · rw [rI_nj (by decide), rI_eq]
    rfl
  · have q := l8 i hi
    exact ⟨(f 4 i (by decide)).trans q.1, (f 5 i (by decide)).trans q.2⟩
  · have q := l9 i hi
    exact ⟨(f 6 i (by decide)).trans q.1, (f 7 i (by decide)).trans q.2.1, (f 9 i (by decide)).trans q.2.2.1, (f 8 i (by decide)).trans q.2.2.2⟩
/-- the model's gathers of a lot in thought, beside a spread of the component -/
theorem gath_sp {F : Nat} {P : Nat → (Nat → Int32) → Int32} {A : LT} {m : MM} (hF : 1000000000000 ≤ F) (p0 : P0 P) (pm : PM F P m (A 6 4)) (L : LM m A) (B : AB A) (S : SY A) (hgk : A 6 5 = 0 ∨ A 6 5 ≠ A 6 2) : ∃ m' f g, f_X6_gathers F m = some m' ∧ GA m' A (u_pr P A) f g ∧ FY m m' ∧ LM m' A := by
  obtain ⟨m', f, g, k1, k2, k3, k4⟩ := gathers_sp hF p0 pm L B S hgk
  have fy : FY m m' := ⟨fun q h1 h2 => k3 q h1 (by omega), fun i hi => k4 i (by omega)⟩
  exact ⟨m', f, g, k1, k2, fy, LM_fy fy L⟩
theorem few_at {A : LT} {pr f g fa : Nat → Nat} {m m2 : MM} {all : Bool} (B : AB A) (hgk : A 6 5 = 0 ∨ A 6 5 ≠ A 6 2) (G : GA m A pr f g) (hv : u_val A (u_hm A) = true) (hs : u_hm A < (A 6 0) ^ (A 6 1)) (S : SPR A one (srcO A) all (u_hm A) m2 fa) : f (ps A (u_hm A)) = tM (fa (u_hm A)) := LD_few B hgk G hv hs (S.2.1 _) S.2.2.1
theorem little_at {A : LT} {pr f g fa : Nat → Nat} {m m2 : MM} {all : Bool} (B : AB A) (hgk : A 6 5 = 0 ∨ A 6 5 ≠ A 6 2) (G : GA m A pr f g) (hv : u_val A (u_hm A) = true) (hs : u_hm A < (A 6 0) ^ (A 6 1)) (S : SPR A pr (srcO A) all (u_hm A) m2 fa) : g (ps A (u_hm A)) = tM (fa (u_hm A)) := LD_little B hgk G hv hs (S.2.1 _) S.2.2.1
theorem isLess_sp {x y : Nat} (hx : x < 1000000) (hy : y < 1000000) (m : MM) : f_X5_isLess (nI x - 1) (nI y - 1) m = some (if x ≠ 0 ∧ (y = 0 ∨ x < y) then 1 else 0) := by
  unfold f_X5_isLess
  by_cases c : x = 0
  · rw [if_pos ((nJ_m1 (by omega)).mpr c), if_neg (fun z => z.1 c)]
  · rw [if_neg (fun z => c ((nJ_m1 (by omega)).mp z))]
    by_cases c2 : y = 0
    · rw [if_pos ((nJ_m1 (by omega)).mpr c2), if_pos ⟨c, Or.inl c2⟩]
    · rw [if_neg (fun z => c2 ((nJ_m1 (by omega)).mp z))]
      obtain ⟨a, rfl⟩ : ∃ a, x = a + 1 := ⟨x - 1, by omega⟩
      obtain ⟨b, rfl⟩ : ∃ b, y = b + 1 := ⟨y - 1, by omega⟩
      rw [n_p, n_p]
      by_cases c3 : b ≤ a
      · rw [if_pos ((n_le (by omega) (by omega)).mpr c3), if_neg (by omega)]
      · rw [if_neg (by rw [n_le (by omega) (by omega)]; exact c3), if_pos ⟨c, by omega⟩]
theorem th_self {A : LT} {m : MM} (V : AV A) (L : LM m A) : LM m A ∧ AB A ∧ SY A ∧ (A 6 5 = 0 ∨ A 6 5 ≠ A 6 2) := ⟨L, V.1, V.2.1, Or.inl V.2.2.2.1⟩
theorem hm_ok {A : LT} (V : AV A) {g w : Nat} (hg : g ≤ A 6 1) (hw : w ≤ A 6 0) : u_val (u_th A g w) (u_hm (u_th A g w)) = true ∧ u_hm (u_th A g w) < (A 6 0) ^ (A 6 1) := ⟨hm_val (th_AB V.1 hg hw) (th_MAY V), enc_lt (fun i hi => ag_lt (th_AB V.1 hg hw) hi)⟩
theorem hm_ok0 {A : LT} (V : AV A) : u_val A (u_hm A) = true ∧ u_hm A < (A 6 0) ^ (A 6 1) := by
  have q := hm_ok V (Nat.zero_le (A 6 1)) (Nat.zero_le (A 6 0))
  rw [th_00 V] at q
  exact q
theorem t_ring {F : Nat} (hF : 1000000000000 ≤ F) (mc mm : MM) (a0 : Int32) (R : RelX (XT F) mc mm) : ∃ r mc2 mm2, f_X5_ring F a0 mc = some (r, mc2) ∧ f_X6_ring F a0 mm = some (r, mm2) ∧ RelX (XT F) mc2 mm2 := by
  obtain ⟨A, n, r1, r2, V, r4, r5, r6, r7, r8⟩ := id R
  obtain ⟨hi, P, p0, pc, pm⟩ := r7.2.2.2 (A 6 4) r4
  have FARd : FAR = 99999999 := rfl
  have hP := p5_le V.1.2.1
  unfold f_X5_ring f_X6_ring
  rcases a_cs a0 2 with ⟨w, hw, rfl⟩ | h
  · rw [show (2 : Int32) = nI 2 from rfl, wi_t hw (by omega), in_t hw (by omega) rfl, bd1_s, bd1_s, i_el, i_el]
    obtain ⟨m1, e1, e2, e3⟩ := ccosts_sp (F := F) (by omega) p0 pc r1 V.1
    have L1 := LC_fp e2 r1
    obtain ⟨m2, fa, k1, k2, k3, k4, k5⟩ := leastC (F := F) (g := 0) (w := 0) (by omega) V (Nat.zero_le _) (Nat.zero_le _) (Or.inl rfl) (fun k _ => pr_99 k) L1 e3
    rw [show nI 0 - 1 = (-1 : Int32) by decide, th_00 V] at k1
    rw [th_00 V] at k2
    have fx := FX_tr (FX_fp e2) k4
    obtain ⟨m3, b1, b2⟩ := bellC p0 (PC_fx hi fx pc) (LC_fx fx r1) V.1
    obtain ⟨n1, f, g, g1, g2, g3, g4⟩ := gath_sp hF p0 pm r2 V.1 V.2.1 (Or.inl V.2.2.2.1)
    obtain ⟨n2, s1, s2⟩ := saysM1 p0 (PM_fy g3 pm) g4
    have hmo := hm_ok0 V
    have el := little_at V.1 (Or.inl V.2.2.2.1) g2 hmo.1 hmo.2 k2
    have hb := cl_le (P 1 (nmF 0 0 0 0 (A 6 1) 0)) 9999
    have hbe : u_sa P A 1 0 0 0 ≤ 9999 := hb
    have hfa := k2.2.1 (u_hm A)
    have hpsN := ps_N (s := u_hm A) V.1
    have e13 : rI n2 13 (ps A (u_hm A)) = nI (tM (fa (u_hm A))) := by
      rw [r_row (s2.1 13 (by decide)), (g2.1.2.1 _ hpsN).2, el]
    rw [e1, bd1_s, k1, bd2_s, b1, bd2_s, g1, bd1_s, s1, bd2_s, now_sp (by omega) V.1 (LM_fn s2 g4), bd1_s, Gu_of (inB_n (by omega : ps A (u_hm A) < 3125) (by decide)), ix_n (by omega), e13]
    have isl := isLess_sp (x := u_sa P A 1 0 0 0 + 1) (y := fa (u_hm A)) (by omega) (by omega) m3
    rw [n_p] at isl
    rw [isl, bd1_s, Lt_d]
    have fin := Rel_fr (XF_T F) (KC_fx (FX_tr fx (FX_fc b2))) (KM_fy (FY_tr g3 (FY_fn s2))) R
    have tm := tM_lt (x := fa (u_hm A)) (by omega)
    have hcmp : nI (tM (fa (u_hm A))) ≤ nI (u_sa P A 1 0 0 0) ↔ ¬ (u_sa P A 1 0 0 0 + 1 ≠ 0 ∧ (fa (u_hm A) = 0 ∨ u_sa P A 1 0 0 0 + 1 < fa (u_hm A))) := by
      rw [n_le (by omega) (by omega)]
      unfold tM
      by_cases c : fa (u_hm A) = 0
      · rw [if_pos c]
        omega
      · rw [if_neg c]
        omega
    by_cases c : u_sa P A 1 0 0 0 + 1 ≠ 0 ∧ (fa (u_hm A) = 0 ∨ u_sa P A 1 0 0 0 + 1 < fa (u_hm A))
    · rw [if_pos c]
      simp only [i_el]
      rw [if_neg (fun z => hcmp.mp z c), if_neg (fun z => hcmp.mp z c)]
      by_cases cw : nI w = 0
      · rw [if_pos cw, if_pos cw]
        exact ⟨_, _, _, rfl, rfl, fin⟩
      · rw [if_neg cw, if_neg cw]
        exact ⟨_, _, _, rfl, rfl, fin⟩
    · rw [if_neg c]
      simp only [i_if]
      rw [if_pos (hcmp.mpr c), if_pos (hcmp.mpr c)]
      by_cases cw : nI w = 0
      · rw [if_pos cw, if_pos cw]
        exact ⟨_, _, _, rfl, rfl, fin⟩
      · rw [if_neg cw, if_neg cw]
        obtain ⟨y, hy⟩ : ∃ y, fa (u_hm A) = y + 1 := ⟨fa (u_hm A) - 1, by omega⟩
        rw [hy, n_p]
        exact ⟨_, _, _, rfl, rfl, fin⟩
  · rw [show (2 : Int32) = nI 2 from rfl, wi_f h (by omega), in_f h rfl, bd1_s, bd1_s, i_if, i_if]
    exact ⟨_, _, _, rfl, rfl, R⟩
