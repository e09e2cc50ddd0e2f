/-! GATHERS, whole -/
def u_pr (P : Nat → (Nat → Int32) → Int32) (A : LT) : Nat → Nat := fun k => u_sa P A 0 (k / 25) (k / 5 % 5) (k % 5)
theorem pr_at {P : Nat → (Nat → Int32) → Int32} {A : LT} {t a b : Nat} (ha : a < 5) (hb : b < 5) : u_pr P A ((t * 5 + a) * 5 + b) = u_sa P A 0 t a b := by
  unfold u_pr
  rw [show ((t * 5 + a) * 5 + b) / 25 = t by omega, show ((t * 5 + a) * 5 + b) / 5 % 5 = a by omega, show ((t * 5 + a) * 5 + b) % 5 = b by omega]
theorem pr_99 {P : Nat → (Nat → Int32) → Int32} {A : LT} (k : Nat) : u_pr P A k ≤ 99 := cl_le _ _
def FQ2 (m m2 : MM) : Prop := (∀ q, q ≠ 0 → q ≠ 14 → m2.1 q = m.1 q) ∧ ∀ i, i < 19 ∨ 33 < i → rI m2 0 i = rI m 0 i
theorem FQ_tr {a b c : MM} (h : FQ2 a b) (g : FQ2 b c) : FQ2 a c := ⟨fun q h1 h2 => (g.1 q h1 h2).trans (h.1 q h1 h2), fun i hi => (g.2 i hi).trans (h.2 i hi)⟩
theorem FQ_fn {m m2 : MM} (h : FN m m2) : FQ2 m m2 := ⟨fun q h1 _ => h.1 q h1, h.2⟩
theorem LM_fq {m m2 : MM} {A : LT} (h : FQ2 m m2) (L : LM m A) : LM m2 A := LM_fr (fun q h1 h2 => h.1 q (by omega) (by omega)) (fun i hi => h.2 i (by omega)) L
theorem gcosts_sp {F : Nat} {P : Nat → (Nat → Int32) → Int32} {A : LT} {m : MM} (hF : 50 ≤ F) (p0 : P0 P) (pm : PM F P m (A 6 4)) (L : LM m A) (B : AB A) (K : Int32 → MM → Option MM) : ∃ m', (FQ2 m m' ∧ ∀ t a b, t < A 6 1 → a < A 6 0 → b < A 6 0 → rI m' 14 (25 * t + 5 * a + b) = nI (u_sa P A 0 t a b)) ∧ f_X6_gathers_L30 F K F 0 m = K (nI (A 6 1)) m' := by
  have b1 := B.1
  have b2 := B.2.1
  have pmf : ∀ {m2 : MM}, FQ2 m m2 → PM F P m2 (A 6 4) := fun h => PM_fr (h.1 1 (by decide) (by decide)) (h.1 2 (by decide) (by decide)) pm
  -- the innermost loop
  have in3 : ∀ t a, t < A 6 1 → a < A 6 0 → ∀ m1 (K : Int32 → MM → Option MM), FQ2 m m1 → ∃ m2, (FQ2 m1 m2 ∧ (∀ b, b < A 6 0 → rI m2 14 (25 * t + 5 * a + b) = nI (u_sa P A 0 t a b)) ∧ ∀ j, (∀ b, b < A 6 0 → j ≠ 25 * t + 5 * a + b) → rI m2 14 j = rI m1 14 j) ∧ f_X6_gathers_L53 F (nI t) (nI a) K F 0 m1 = K (nI (A 6 0)) m2 := by
    intro t a ht ha m1 K h1
    obtain ⟨m2, ⟨i1, i2, i3⟩, i4⟩ := loop_inv (fun n i m => f_X6_gathers_L53 F (nI t) (nI a) K n i m) (fun m => K (nI (A 6 0)) m) (A 6 0) (fun x mx => FQ2 m1 mx ∧ (∀ b, b < x → rI mx 14 (25 * t + 5 * a + b) = nI (u_sa P A 0 t a b)) ∧ ∀ j, (∀ b, b < A 6 0 → j ≠ 25 * t + 5 * a + b) → rI mx 14 j = rI m1 14 j) (fun n mx hI => by
      have e9 : rI mx 0 9 = nI (A 6 0) := (hI.1.2 9 (by omega)).trans ((h1.2 9 (by omega)).trans L.1)
      show f_X6_gathers_L53 _ _ _ _ (n + 1) _ _ = _
      unfold f_X6_gathers_L53
      rw [e9, if_pos (Int32.le_refl _)]) (fun x n mx hx hI => by
      have hmx := FQ_tr h1 hI.1
      have e9 : rI mx 0 9 = nI (A 6 0) := (hmx.2 9 (by omega)).trans L.1
      obtain ⟨m3, k1, k2⟩ := saysM0 (F := F) (f := a) p0 (pmf hmx) (LM_fq hmx L) B ht hx
      have e25 : (25 : Int32) * nI t + (5 : Int32) * nI a + nI x = nI (25 * t + 5 * a + x) := by
        rw [show (25 : Int32) = nI 25 from rfl, show (5 : Int32) = nI 5 from rfl, n_mul, n_mul, nI_add, nI_add]
      refine ⟨wI m3 14 (25 * t + 5 * a + x) (nI (u_sa P A 0 t a x)), ⟨⟨fun q q1 q2 => (row_ne q2).trans ((k2.1 q q1).trans (hI.1.1 q q1 q2)), fun i hi => (rI_ne (by decide)).trans ((k2.2 i hi).trans (hI.1.2 i hi))⟩, fun b hb => ?_, fun j hj => ?_⟩, ?_⟩
      · by_cases c : b = x
        · rw [c, rI_eq]
        · rw [rI_nj (by omega), r_row (k2.1 14 (by decide))]
          exact hI.2.1 b (by omega)
      · rw [rI_nj (hj x hx), r_row (k2.1 14 (by decide))]
        exact hI.2.2 j hj
      · show f_X6_gathers_L53 _ _ _ _ (n + 1) _ _ = _
        conv => lhs; unfold f_X6_gathers_L53
        rw [e9, if_neg (by rw [n_le (by omega) (by omega)]; omega), k1, bd2_s, e25, Gu_of (inB_n (by omega : 25 * t + 5 * a + x < 125) (by decide)), ix_n (by omega), Lt_d, Lt_d, n_s]) F m1 (by omega) ⟨⟨fun q _ _ => rfl, fun i _ => rfl⟩, fun b hb => absurd hb (Nat.not_lt_zero b), fun j _ => rfl⟩
    exact ⟨m2, ⟨i1, i2, i3⟩, i4⟩
  have in2 : ∀ t, t < A 6 1 → ∀ m1 (K : Int32 → MM → Option MM), FQ2 m m1 → ∃ m2, (FQ2 m1 m2 ∧ (∀ a b, a < A 6 0 → b < A 6 0 → rI m2 14 (25 * t + 5 * a + b) = nI (u_sa P A 0 t a b)) ∧ ∀ j, (∀ a b, a < A 6 0 → b < A 6 0 → j ≠ 25 * t + 5 * a + b) → rI m2 14 j = rI m1 14 j) ∧ f_X6_gathers_L41 F (nI t) K F 0 m1 = K (nI (A 6 0)) m2 := by
    intro t ht m1 K h1
    obtain ⟨m2, ⟨i1, i2, i3⟩, i4⟩ := loop_inv (fun n i m => f_X6_gathers_L41 F (nI t) K n i m) (fun m => K (nI (A 6 0)) m) (A 6 0) (fun x mx => FQ2 m1 mx ∧ (∀ a b, a < x → b < A 6 0 → rI mx 14 (25 * t + 5 * a + b) = nI (u_sa P A 0 t a b)) ∧ ∀ j, (∀ a b, a < A 6 0 → b < A 6 0 → j ≠ 25 * t + 5 * a + b) → rI mx 14 j = rI m1 14 j) (fun n mx hI => by
      have e9 : rI mx 0 9 = nI (A 6 0) := (hI.1.2 9 (by omega)).trans ((h1.2 9 (by omega)).trans L.1)
      show f_X6_gathers_L41 _ _ _ (n + 1) _ _ = _
      unfold f_X6_gathers_L41
      rw [e9, if_pos (Int32.le_refl _)]) (fun x n mx hx hI => by
      have hmx := FQ_tr h1 hI.1
      have e9 : rI mx 0 9 = nI (A 6 0) := (hmx.2 9 (by omega)).trans L.1
      obtain ⟨m3, ⟨k1, k2, k3⟩, k4⟩ := in3 t x ht hx mx (fun x5_11 m12 => Lt (nI x + (1 : Int32)) fun x4_19 => f_X6_gathers_L41 F (nI t) K n x4_19 m12) hmx
      refine ⟨m3, ⟨FQ_tr hI.1 k1, fun a b ha hb => ?_, fun j hj => ?_⟩, ?_⟩
      · by_cases c : a = x
        · rw [c]
          exact k2 b hb
        · rw [k3 _ (fun b' hb' => by omega)]
          exact hI.2.1 a b (by omega) hb
      · rw [k3 j (fun b hb => hj x b hx hb)]
        exact hI.2.2 j hj
      · show f_X6_gathers_L41 _ _ _ (n + 1) _ _ = _
        conv => lhs; unfold f_X6_gathers_L41
        rw [e9, if_neg (by rw [n_le (by omega) (by omega)]; omega)]
        refine Eq.trans k4 ?_
        show (Lt (nI x + (1 : Int32)) fun x4_19 => f_X6_gathers_L41 F (nI t) K n x4_19 m3) = _
        rw [Lt_d, n_s]) F m1 (by omega) ⟨⟨fun q _ _ => rfl, fun i _ => rfl⟩, fun a b ha => absurd ha (Nat.not_lt_zero a), fun j _ => rfl⟩
    exact ⟨m2, ⟨i1, i2, i3⟩, i4⟩
  obtain ⟨m2, ⟨i1, i2⟩, i4⟩ := loop_inv (fun n i m => f_X6_gathers_L30 F K n i m) (fun m => K (nI (A 6 1)) m) (A 6 1) (fun x mx => FQ2 m mx ∧ ∀ t a b, t < x → a < A 6 0 → b < A 6 0 → rI mx 14 (25 * t + 5 * a + b) = nI (u_sa P A 0 t a b)) (fun n mx hI => by
    have e14 : rI mx 0 14 = nI (A 6 1) := (hI.1.2 14 (by omega)).trans L.2.1
    show f_X6_gathers_L30 _ _ (n + 1) _ _ = _
    unfold f_X6_gathers_L30
    rw [e14, if_pos (Int32.le_refl _)]) (fun x n mx hx hI => by
    have e14 : rI mx 0 14 = nI (A 6 1) := (hI.1.2 14 (by omega)).trans L.2.1
    obtain ⟨m3, ⟨k1, k2, k3⟩, k4⟩ := in2 x hx mx (fun x4_8 m9 => Lt (nI x + (1 : Int32)) fun x3_20 => f_X6_gathers_L30 F K n x3_20 m9) hI.1
    refine ⟨m3, ⟨FQ_tr hI.1 k1, fun t a b ht ha hb => ?_⟩, ?_⟩
    · by_cases c : t = x
      · rw [c]
        exact k2 a b ha hb
      · rw [k3 _ (fun a' b' ha' hb' => by omega)]
        exact hI.2 t a b (by omega) ha hb
    · show f_X6_gathers_L30 _ _ (n + 1) _ _ = _
      conv => lhs; unfold f_X6_gathers_L30
      rw [e14, if_neg (n_head (n := 0) b2 hx)]
      refine Eq.trans k4 ?_
      show (Lt (nI x + (1 : Int32)) fun x3_20 => f_X6_gathers_L30 F K n x3_20 m3) = _
      rw [Lt_d, n_s]) F m (by omega) ⟨⟨fun q _ _ => rfl, fun i _ => rfl⟩, fun t a b ht => absurd ht (Nat.not_lt_zero t)⟩
  exact ⟨m2, ⟨i1, i2⟩, i4⟩
noncomputable def fe0 (A : LT) (c : Nat) : Nat := if u_wl A c = true ∧ u_open A (dg 5 c) = true then 0 else FAR
theorem first_sp {F : Nat} {A : LT} {m : MM} (hF : 4000 ≤ F) (L : LM0 m A) (B : AB A) (S : SY A) (hgk : A 6 5 = 0 ∨ A 6 5 ≠ A 6 2) (K : Int32 → MM → Option MM) : ∃ m', ((∀ q, q ≠ 8 → q ≠ 11 → q ≠ 12 → q ≠ 13 → m'.1 q = m.1 q) ∧ (∀ i, A 6 1 ≤ i → rI m' 8 i = rI m 8 i) ∧ (∀ c, c < 5 ^ (A 6 1) → rI m' 11 c = nI (if u_wl A c = true then 1 else 0) ∧ rI m' 12 c = nI (fe0 A c) ∧ rI m' 13 c = nI (fe0 A c))) ∧ f_X6_gathers_L109 F (nI (5 ^ (A 6 1))) K F 0 m = K (nI (5 ^ (A 6 1))) m' := by
  have b1 := B.1
  have b2 := B.2.1
  have hP := p5_le b2
  obtain ⟨m2, ⟨i1, i2, i3⟩, i4⟩ := loop_inv (fun n i m => f_X6_gathers_L109 F (nI (5 ^ (A 6 1))) K n i m) (fun m => K (nI (5 ^ (A 6 1))) m) (5 ^ (A 6 1)) (fun x mx => (∀ q, q ≠ 8 → q ≠ 11 → q ≠ 12 → q ≠ 13 → mx.1 q = m.1 q) ∧ (∀ i, A 6 1 ≤ i → rI mx 8 i = rI m 8 i) ∧ (∀ c, c < x → rI mx 11 c = nI (if u_wl A c = true then 1 else 0) ∧ rI mx 12 c = nI (fe0 A c) ∧ rI mx 13 c = nI (fe0 A c))) (fun n mx hI => by
    show f_X6_gathers_L109 _ _ _ (n + 1) _ _ = _
    unfold f_X6_gathers_L109
    rw [if_pos (Int32.le_refl _)]) (fun x n mx hx hI => by
    obtain ⟨i1, i2, i3⟩ := hI
    have L1 : LM0 mx A := LM0_fr (fun q h1 h2 h3 => i1 q h3 (by omega) (by omega) (by omega)) (fun i _ => r_row (i1 0 (by decide) (by decide) (by decide) (by decide)) i) L
    obtain ⟨m1, e1, e2, e3⟩ := lays_sp (F := F) (c := x) (by omega) b2 L1.2.1 (by omega)
    have L2 : LM0 m1 A := LM0_fr (fun q h1 h2 h3 => e2 q h3) (fun i _ => r_row (e2 0 (by decide)) i) L1
    have hl : ∀ i, i < A 6 1 → rI m1 8 i = nI (dg 5 x i) := fun i hi => by rw [e3, if_pos hi]
    have hd5 : ∀ i, dg 5 x i < 5 := fun i => dg_lt (by decide)
    obtain ⟨r, r1, r2, r3⟩ := well_sp (F := F) (by omega) L2 B S hl (fun i _ => by have := hd5 i; omega)
    have gx := inB_n (by omega : x < 3125) (by decide : 3125 ≤ 2 ^ 31)
    have hxx : ix (nI x) = x := ix_n (by omega)
    have wr : u_wl A x = true ↔ r = 1 := wl_t.trans r3.symm
    have hr : r = if u_wl A x = true then 1 else 0 := by
      by_cases c : u_wl A x = true
      · rw [if_pos c]; exact wr.mp c
      · rw [if_neg c]
        have : ¬ r = 1 := fun z => c (wr.mpr z)
        omega
    have e12 : rI (wI (wI m1 11 x (nI r)) 12 x (nI (fe0 A x))) 12 x = nI (fe0 A x) := rI_eq
    have unf : f_X6_gathers_L109 F (nI (5 ^ (A 6 1))) K (n + 1) (nI x) mx = f_X6_gathers_L109 F (nI (5 ^ (A 6 1))) K n (nI (x + 1)) (wI (wI (wI m1 11 x (nI r)) 12 x (nI (fe0 A x))) 13 x (nI (fe0 A x))) := by
      conv => lhs; unfold f_X6_gathers_L109
      rw [if_neg (by rw [n_le (by omega) (by omega)]; omega), e1, bd1_s, r2, bd1_s]
      simp only [Jp_d, Lt_d, Gu_of gx, hxx]
      by_cases c : u_wl A x = true
      · have r1' : r = 1 := wr.mp c
        have M := wl_t.mp c
        rw [r1', if_neg (show ¬ nI 1 = 0 by decide), if_neg (show ¬ nI 1 = 0 by decide)]
        have L3 : LM (wI m1 11 x 1) (sA A (dg 5 x)) := LM_of0 (LM0_fr (fun q h1 h2 h3 => row_ne (by omega)) (fun i _ => rI_ne (by decide)) L2) (fun i hi => (rI_ne (by decide)).trans (hl i hi))
        have eo := isOpenM (F := F) (by omega) L3 (AB_s B M.1) hgk
        rw [sA_5, open_s] at eo
        rw [eo, bd1_s]
        by_cases co : u_open A (dg 5 x) = true
        · have ef : fe0 A x = 0 := if_pos ⟨c, co⟩
          rw [if_pos co, if_neg h10, rI_eq, n_s, ef]
          rfl
        · have ef : fe0 A x = FAR := if_neg (fun z => co z.2)
          rw [if_neg co, i_if, rI_eq, n_s, ef]
          rfl
      · have r0 : r = 0 := by
          have : ¬ r = 1 := fun z => c (wr.mpr z)
          omega
        have ef : fe0 A x = FAR := if_neg (fun z => c z.1)
        rw [r0, if_pos (show nI 0 = 0 from rfl), if_pos (show nI 0 = 0 from rfl), rI_eq, n_s, ef]
        rfl
    refine ⟨_, ⟨fun q h1 h2 h3 h4 => (row_ne h4).trans ((row_ne h3).trans ((row_ne h2).trans ((e2 q h1).trans (i1 q h1 h2 h3 h4)))), fun i hi => ?_, fun c hc => ?_⟩, unf⟩
    · rw [rI_ne (by decide), rI_ne (by decide), rI_ne (by decide), e3, if_neg (by omega)]
      exact i2 i hi
    · by_cases cx : c = x
      · rw [cx, rI_ne (by decide), rI_ne (by decide), rI_eq, rI_ne (by decide), rI_eq, rI_eq, hr]
        exact ⟨rfl, rfl, rfl⟩
      · have q := i3 c (by omega)
        rw [rI_ne (by decide), rI_ne (by decide), rI_nj cx, rI_ne (by decide), rI_nj cx, rI_ne (by decide), rI_nj cx, rI_ne (by decide), rI_ne (by decide), r_row (e2 11 (by decide)), r_row (e2 12 (by decide)), r_row (e2 13 (by decide))]
        exact q) F m (by omega) ⟨fun q _ _ _ _ => rfl, fun i _ => rfl, fun c hc => absurd hc (Nat.not_lt_zero c)⟩
  exact ⟨m2, ⟨i1, i2, i3⟩, i4⟩
def SS (N : Nat) (f g : Nat → Nat) : Nat := smP (fun _ => true) (fun c => f c + g c) N
theorem SS_cong {N : Nat} {f g f' g' : Nat → Nat} (h : ∀ c, c < N → f' c = f c ∧ g' c = g c) : SS N f' g' = SS N f g := smP_cong (fun _ _ => rfl) (fun i hi _ => by
  have := h i hi
  show f' i + g' i = f i + g i
  rw [this.1, this.2])
theorem SS_lt {N c : Nat} {f g f' g' : Nat → Nat} (hc : c < N) (h : ∀ x, x ≠ c → f' x = f x ∧ g' x = g x) (hl : f' c + g' c < f c + g c) : SS N f' g' < SS N f g := by
  unfold SS
  rw [smP_in (t := c) hc rfl, smP_in (z := fun c => f c + g c) (t := c) hc rfl]
  have e : smP (fun i => true && !(i == c)) (fun c => f' c + g' c) N = smP (fun i => true && !(i == c)) (fun c => f c + g c) N := smP_cong (fun _ _ => rfl) (fun i hi hp => by
    have : i ≠ c := by simpa using hp
    have q := h i this
    show f' i + g' i = f i + g i
    rw [q.1, q.2])
  rw [e]
  omega
def CLS (A : LT) (pr : Nat → Nat) (f g : Nat → Nat) (c : Nat) : Prop := u_wl A c = true → ∀ t h, t < A 6 1 → h < A 6 0 → CLt A pr f g c t h
def EQF (N : Nat) (f g f' g' : Nat → Nat) : Prop := ∀ c, c < N → f' c = f c ∧ g' c = g c
theorem CLS_cong {A : LT} {pr f g f' g' : Nat → Nat} {c : Nat} (b1 : A 6 0 ≤ 5) (h : EQF (5 ^ (A 6 1)) f g f' g') (hc : c < 5 ^ (A 6 1)) (C : CLS A pr f g c) : CLS A pr f' g' c := by
  intro hw t x ht hx hg hne hw2
  have q := C hw t x ht hx hg hne hw2
  have e1 := h c hc
  have e2 := h _ (mvc_lt (T := A 6 1) (c := c) (t := t) (by omega : x < 5))
  rw [e1.1, e1.2, e2.1, e2.2]
  exact q
theorem pass_sp {F : Nat} {A : LT} {pr : Nat → Nat} {m : MM} {f g : Nat → Nat} (hF : 4000 ≤ F) (L : LM0 m A) (B : AB A) (hpr : ∀ k, k < 125 → pr k ≤ 99) (G : GI A pr f g) (R : AR m A pr f g) (K : Int32 → Int32 → MM → Option MM) : ∃ more f' g' m', (GI A pr f' g' ∧ AR m' A pr f' g' ∧ (∀ q, q ≠ 12 → q ≠ 13 → m'.1 q = m.1 q) ∧ ((more = 0 ∧ ∀ c, c < 5 ^ (A 6 1) → CLS A pr f' g' c) ∨ (more = 1 ∧ SS (5 ^ (A 6 1)) f' g' < SS (5 ^ (A 6 1)) f g))) ∧ f_X6_gathers_L200 F (nI (5 ^ (A 6 1))) K F 0 0 m = K (nI more) (nI (5 ^ (A 6 1))) m' := by
  have b1 := B.1
  have b2 := B.2.1
  have hP := p5_le b2
  obtain ⟨st, ⟨more, f', g', i1, i2, i3, i4, i5⟩, i6⟩ := loop_inv (σ := Int32 × MM) (fun n i st => f_X6_gathers_L200 F (nI (5 ^ (A 6 1))) K n st.1 i st.2) (fun st => K st.1 (nI (5 ^ (A 6 1))) st.2) (5 ^ (A 6 1)) (fun x st => ∃ more f' g', st.1 = nI more ∧ GI A pr f' g' ∧ AR st.2 A pr f' g' ∧ (∀ q, q ≠ 12 → q ≠ 13 → st.2.1 q = m.1 q) ∧ ((more = 0 ∧ EQF (5 ^ (A 6 1)) f g f' g' ∧ ∀ c, c < x → CLS A pr f' g' c) ∨ (more = 1 ∧ SS (5 ^ (A 6 1)) f' g' < SS (5 ^ (A 6 1)) f g))) (fun n st hI => by
    show f_X6_gathers_L200 _ _ _ (n + 1) _ _ _ = _
    unfold f_X6_gathers_L200
    rw [if_pos (Int32.le_refl _)]) (fun x n st hx hI => by
    obtain ⟨x0, m1⟩ := st
    obtain ⟨more, f1, g1, i1, i2, i3, i4, i5⟩ := hI
    have i1 : x0 = nI more := i1
    subst i1
    have i3 : AR m1 A pr f1 g1 := i3
    have gx := inB_n (by omega : x < 3125) (by decide : 3125 ≤ 2 ^ 31)
    have e11 := i3.1 x hx
    have nle : ¬ nI (5 ^ (A 6 1)) ≤ nI x := by rw [n_le (by omega) (by omega)]; omega
    by_cases cw : u_wl A x = true
    · have L1 : LM0 m1 A := LM0_fr (fun q h1 h2 h3 => i4 q (by omega) (by omega)) (fun i _ => r_row (i4 0 (by decide) (by decide)) i) L
      obtain ⟨is, f2, g2, m2, k1, k2, k3⟩ := eases_sp (F := F) (by omega) B L1 hpr hx cw i2 i3
      obtain ⟨j1, j2, j3, j4, j5, j6, j7⟩ := k2
      have unf : f_X6_gathers_L200 F (nI (5 ^ (A 6 1))) K (n + 1) (nI more) (nI x) m1 = if nI is = 0 then f_X6_gathers_L200 F (nI (5 ^ (A 6 1))) K n (nI more) (nI (x + 1)) m2 else f_X6_gathers_L200 F (nI (5 ^ (A 6 1))) K n 1 (nI (x + 1)) m2 := by
        conv => lhs; unfold f_X6_gathers_L200
        rw [if_neg nle, Gu_of gx, ix_n (by omega), e11, if_pos (by rw [if_pos cw]; rfl), k1, bd2_s]
        simp only [Lt_d, n_s]
      rcases j4 with ⟨s0, sf, sg⟩ | ⟨s1, sl⟩
      · have eq : EQF (5 ^ (A 6 1)) f1 g1 f2 g2 := fun c hc => by
          by_cases cc : c = x
          · rw [cc]; exact ⟨sf, sg⟩
          · exact j1 c cc
        refine ⟨(nI more, m2), ⟨more, f2, g2, rfl, j5, j6, fun q h1 h2 => (j7 q h1 h2).trans (i4 q h1 h2), ?_⟩, ?_⟩
        · rcases i5 with ⟨u1, u2, u3⟩ | ⟨u1, u2⟩
          · left
            refine ⟨u1, fun c hc => ⟨(eq c hc).1.trans (u2 c hc).1, (eq c hc).2.trans (u2 c hc).2⟩, fun c hc => ?_⟩
            by_cases cc : c = x
            · rw [cc]
              exact fun _ => k3
            · exact CLS_cong b1 eq (by omega) (u3 c (by omega))
          · right
            exact ⟨u1, by rw [SS_cong eq]; exact u2⟩
        · show f_X6_gathers_L200 _ _ _ (n + 1) _ _ _ = _
          rw [unf, s0, if_pos (show nI 0 = 0 from rfl)]
      · have hl := SS_lt hx j1 sl
        refine ⟨(1, m2), ⟨1, f2, g2, rfl, j5, j6, fun q h1 h2 => (j7 q h1 h2).trans (i4 q h1 h2), Or.inr ⟨rfl, ?_⟩⟩, ?_⟩
        · rcases i5 with ⟨u1, u2, u3⟩ | ⟨u1, u2⟩
          · rw [SS_cong u2] at hl
            exact hl
          · omega
        · show f_X6_gathers_L200 _ _ _ (n + 1) _ _ _ = _
          rw [unf, s1, if_neg (show ¬ nI 1 = 0 by decide)]
    · refine ⟨(nI more, m1), ⟨more, f1, g1, rfl, i2, i3, i4, ?_⟩, ?_⟩
      · rcases i5 with ⟨u1, u2, u3⟩ | h
        · left
          refine ⟨u1, u2, fun c hc => ?_⟩
          by_cases cc : c = x
          · rw [cc]
            exact fun z => absurd z cw
          · exact u3 c (by omega)
        · exact Or.inr h
      · show f_X6_gathers_L200 _ _ _ (n + 1) _ _ _ = _
        conv => lhs; unfold f_X6_gathers_L200
        rw [if_neg nle, Gu_of gx, ix_n (by omega), e11, if_neg (by rw [if_neg cw]; decide), Lt_d, n_s]) F (0, m) (by omega) ⟨0, f, g, rfl, G, R, fun q _ _ => rfl, Or.inl ⟨rfl, fun c _ => ⟨rfl, rfl⟩, fun c hc => absurd hc (Nat.not_lt_zero c)⟩⟩
  refine ⟨more, f', g', st.2, ⟨i2, i3, i4, ?_⟩, ?_⟩
  · rcases i5 with ⟨u1, u2, u3⟩ | h
    · exact Or.inl ⟨u1, u3⟩
    · exact Or.inr h
  · rw [i1] at i6
    exact i6
theorem fix_sp {F : Nat} {A : LT} {pr : Nat → Nat} (hF : 4000 ≤ F) (B : AB A) (hpr : ∀ k, k < 125 → pr k ≤ 99) (K : Int32 → MM → Option MM) : ∀ b n m f g, SS (5 ^ (A 6 1)) f g ≤ b → b + 2 ≤ n → LM0 m A → GI A pr f g → AR m A pr f g → ∃ f' g' m', (GI A pr f' g' ∧ AR m' A pr f' g' ∧ (∀ q, q ≠ 12 → q ≠ 13 → m'.1 q = m.1 q) ∧ ∀ c, c < 5 ^ (A 6 1) → CLS A pr f' g' c) ∧ f_X6_gathers_L191 F (nI (5 ^ (A 6 1))) K n 1 m = K 0 m' := by
  intro b
  induction b with
  | zero =>
    intro n m f g hb hn L G R
    obtain ⟨n, rfl⟩ : ∃ z, n = z + 2 := ⟨n - 2, by omega⟩
    obtain ⟨more, f', g', m', ⟨i1, i2, i3, i4⟩, i5⟩ := pass_sp (F := F) hF L B hpr G R (fun x3_44 x4_45 m46 => f_X6_gathers_L191 F (nI (5 ^ (A 6 1))) K (n + 1) x3_44 m46)
    rcases i4 with ⟨u1, u2⟩ | ⟨u1, u2⟩
    · refine ⟨f', g', m', ⟨i1, i2, i3, u2⟩, ?_⟩
      conv => lhs; unfold f_X6_gathers_L191
      rw [if_neg h10]
      refine Eq.trans i5 ?_
      show f_X6_gathers_L191 F (nI (5 ^ (A 6 1))) K (n + 1) (nI more) m' = _
      unfold f_X6_gathers_L191
      rw [u1, if_pos (show nI 0 = 0 from rfl)]
      rfl
    · omega
  | succ b ih =>
    intro n m f g hb hn L G R
    obtain ⟨n, rfl⟩ : ∃ z, n = z + 2 := ⟨n - 2, by omega⟩
    obtain ⟨more, f', g', m', ⟨i1, i2, i3, i4⟩, i5⟩ := pass_sp (F := F) hF L B hpr G R (fun x3_44 x4_45 m46 => f_X6_gathers_L191 F (nI (5 ^ (A 6 1))) K (n + 1) x3_44 m46)
    rcases i4 with ⟨u1, u2⟩ | ⟨u1, u2⟩
    · refine ⟨f', g', m', ⟨i1, i2, i3, u2⟩, ?_⟩
      conv => lhs; unfold f_X6_gathers_L191
      rw [if_neg h10]
      refine Eq.trans i5 ?_
      show f_X6_gathers_L191 F (nI (5 ^ (A 6 1))) K (n + 1) (nI more) m' = _
      unfold f_X6_gathers_L191
      rw [u1, if_pos (show nI 0 = 0 from rfl)]
      rfl
    · obtain ⟨f2, g2, m2, ⟨v1, v2, v3, v4⟩, v5⟩ := ih (n + 1) m' f' g' (by omega) (by omega) (LM0_fr (fun q h1 h2 h3 => i3 q (by omega) (by omega)) (fun i _ => r_row (i3 0 (by decide) (by decide)) i) L) i1 i2
      refine ⟨f2, g2, m2, ⟨v1, v2, fun q h1 h2 => (v3 q h1 h2).trans (i3 q h1 h2), v4⟩, ?_⟩
      conv => lhs; unfold f_X6_gathers_L191
      rw [if_neg h10]
      refine Eq.trans i5 ?_
      show f_X6_gathers_L191 F (nI (5 ^ (A 6 1))) K (n + 1) (nI more) m' = _
      rw [u1]
      exact v5
/-- what gathers leaves: of every state how few moves, how little cost -/
def GA (m : MM) (A : LT) (pr : Nat → Nat) (f g : Nat → Nat) : Prop := AR m A pr f g ∧ GI A pr f g ∧ ∀ c, c < 5 ^ (A 6 1) → CLS A pr f g c
theorem SS_0 {N : Nat} {f g : Nat → Nat} (h : ∀ c, c < N → f c ≤ FAR ∧ g c ≤ FAR) : SS N f g ≤ N * (2 * FAR) := smP_le (fun i hi => by
  have := h i hi
  show f i + g i ≤ _
  omega)
theorem gathers_sp {F : Nat} {P : Nat → (Nat → Int32) → Int32} {A : LT} {m : MM} (hF : 1000000000000 ≤ F) (p0 : P0 P) (pm : PM F P m (A 6 4)) (L : LM m A) (B : AB A) (S : SY A) (hgk : A 6 5 = 0 ∨ A 6 5 ≠ A 6 2) : ∃ m' f g, f_X6_gathers F m = some m' ∧ GA m' A (u_pr P A) f g ∧ (∀ q, q ≠ 0 → ¬ (11 ≤ q ∧ q ≤ 14) → m'.1 q = m.1 q) ∧ (∀ i, i < 19 ∨ 33 < i → rI m' 0 i = rI m 0 i) := by
  have b1 := B.1
  have b2 := B.2.1
  have hP := p5_le b2
  have hl5 : ∀ i, i < A 6 1 → A 5 i < 5 := fun i hi => by have := (B.2.2.2.2.2.2.2.2 i hi).2.2.2.2; omega
  unfold f_X6_gathers
  rw [codeNow_sp (F := F) (by omega) b2 L.2.1 (fun i hi => (L.2.2.2.2.2.2.2.2 i hi).2.2.2), bd1_s, Jp_d, L.2.1]
  have hnow : enc 5 (A 5) (A 6 1) < 5 ^ (A 6 1) := enc_lt hl5
  have alln : ∀ J : Int32 → Option MM, (if nI (A 6 1) = 0 then J (1 : Int32) else bd1 (f_X6_place (nI (A 6 1) - (1 : Int32)) m) fun r54 => J (r54 * (5 : Int32))) = J (nI (5 ^ (A 6 1))) := by
    intro J
    by_cases c : A 6 1 = 0
    · rw [c]
      rfl
    · obtain ⟨T, hT⟩ : ∃ T, A 6 1 = T + 1 := ⟨A 6 1 - 1, by omega⟩
      rw [hT, if_neg (by rw [n_z (by omega)]; omega), n_p, place_sp (by omega), bd1_s, show (5 : Int32) = nI 5 from rfl, n_mul, ← Nat.pow_succ]
  obtain ⟨m1, ⟨c1, c2⟩, c3⟩ := gcosts_sp (F := F) (by omega) p0 pm L B (fun x3_5 m6 => f_X6_gathers_L109 F (nI (5 ^ (A 6 1))) (fun x3_21 m22 => bd1 (f_X6_lays F (nI (enc 5 (A 5) (A 6 1))) m22) fun m40 => f_X6_gathers_L191 F (nI (5 ^ (A 6 1))) (fun x3_41 m42 => some m42) F (1 : Int32) m40) F (0 : Int32) m6)
  have L1 := LM_fq c1 L
  obtain ⟨m2, ⟨d1, d2, d3⟩, d4⟩ := first_sp (F := F) (by omega) (LM0_of L1) B S hgk (fun x3_21 m22 => bd1 (f_X6_lays F (nI (enc 5 (A 5) (A 6 1))) m22) fun m40 => f_X6_gathers_L191 F (nI (5 ^ (A 6 1))) (fun x3_41 m42 => some m42) F (1 : Int32) m40)
  have L2 : LM0 m2 A := LM0_fr (fun q h1 h2 h3 => d1 q h3 (by omega) (by omega) (by omega)) (fun i _ => r_row (d1 0 (by decide) (by decide) (by decide) (by decide)) i) (LM0_of L1)
  obtain ⟨m3, e1, e2, e3⟩ := lays_sp (F := F) (c := enc 5 (A 5) (A 6 1)) (m := m2) (by omega) b2 L2.2.1 (by omega)
  have L3 : LM0 m3 A := LM0_fr (fun q h1 h2 h3 => e2 q h3) (fun i _ => r_row (e2 0 (by decide)) i) L2
  have FARd : FAR = 99999999 := rfl
  have R3 : AR m3 A (u_pr P A) (fe0 A) (fe0 A) := by
    refine ⟨fun c hc => (r_row (e2 11 (by decide)) c).trans (d3 c hc).1, fun c hc => ⟨(r_row (e2 12 (by decide)) c).trans (d3 c hc).2.1, (r_row (e2 13 (by decide)) c).trans (d3 c hc).2.2⟩, fun t a b h1 h2 h3 => ?_⟩
    rw [r_row (e2 14 (by decide)), r_row (d1 14 (by decide) (by decide) (by decide) (by decide)), c2 t a b h1 h2 h3, pr_at (by omega) (by omega)]
  have G3 : GI A (u_pr P A) (fe0 A) (fe0 A) := by
    intro c hc
    have hfe : fe0 A c ≤ FAR := by
      unfold fe0
      split <;> omega
    refine ⟨hfe, hfe, fun hw => ?_⟩
    have M := wl_t.mp hw
    have hop : u_open A (dg (A 6 0) (ph A c)) = u_open A (dg 5 c) := open_cong (fun i hi hg => by rw [ph_dg M hi, if_neg hg]) B hgk
    have z : fe0 A c < FAR → u_open A (dg 5 c) = true ∧ fe0 A c = 0 := by
      intro hlt
      unfold fe0 at hlt ⊢
      by_cases co : u_wl A c = true ∧ u_open A (dg 5 c) = true
      · rw [if_pos co]
        exact ⟨co.2, rfl⟩
      · rw [if_neg co] at hlt
        omega
    have src : u_open A (dg 5 c) = true → srcO A (ph A c) := fun ho => ⟨ph_N M, by
      unfold u_mk
      rw [if_pos (ph_val B M), hop, if_pos ho]⟩
    refine ⟨fun hlt => ⟨0, src (z hlt).1, (z hlt).2⟩, fun hlt => ⟨0, src (z hlt).1, (z hlt).2⟩, fun ho => ?_⟩
    have : fe0 A c = 0 := if_pos ⟨hw, ho⟩
    exact ⟨this, this⟩
  have hS := SS_0 (N := 5 ^ (A 6 1)) (f := fe0 A) (g := fe0 A) (fun c hc => ⟨(G3 c hc).1, (G3 c hc).2.1⟩)
  have hS2 : SS (5 ^ (A 6 1)) (fe0 A) (fe0 A) ≤ 700000000000 := by
    have : 5 ^ (A 6 1) * (2 * FAR) ≤ 3125 * (2 * FAR) := Nat.mul_le_mul_right _ hP
    omega
  obtain ⟨f', g', m4, ⟨u1, u2, u3, u4⟩, u5⟩ := fix_sp (F := F) (pr := u_pr P A) (by omega) B (fun k _ => pr_99 k) (fun x3_41 m42 => some m42) 700000000000 F m3 (fe0 A) (fe0 A) hS2 (by omega) L3 G3 R3
  refine ⟨m4, f', g', ?_, ⟨u2, u1, u4⟩, fun q h1 h2 => ?_, fun i hi => ?_⟩
  · refine (alln (fun s3 => f_X6_gathers_L30 F (fun x3_5 m6 => f_X6_gathers_L109 F s3 (fun x3_21 m22 => bd1 (f_X6_lays F (nI (enc 5 (A 5) (A 6 1))) m22) fun m40 => f_X6_gathers_L191 F s3 (fun x3_41 m42 => some m42) F (1 : Int32) m40) F (0 : Int32) m6) F (0 : Int32) m)).trans ?_
    refine Eq.trans c3 ?_
    refine Eq.trans d4 ?_
    show (bd1 (f_X6_lays F (nI (enc 5 (A 5) (A 6 1))) m2) fun m40 => f_X6_gathers_L191 F (nI (5 ^ (A 6 1))) (fun x3_41 m42 => some m42) F (1 : Int32) m40) = _
    rw [e1, bd1_s]
    exact u5
  · by_cases c8 : q = 8
    · subst c8
      funext i
      show rI m4 8 i = rI m 8 i
      rw [r_row (u3 8 (by decide) (by decide)), e3]
      by_cases ci : i < A 6 1
      · rw [if_pos ci, enc_dg (by decide) hl5 ci]
        exact (L.2.2.2.2.2.2.2.2 i ci).2.2.2.symm
      · rw [if_neg ci, d2 i (by omega)]
        exact r_row (c1.1 8 (by decide) (by decide)) i
    · rw [u3 q (by omega) (by omega), e2 q c8, d1 q c8 (by omega) (by omega) (by omega)]
      exact c1.1 q h1 (by omega)
  · rw [r_row (u3 0 (by decide) (by decide)), r_row (e2 0 (by decide)), r_row (d1 0 (by decide) (by decide) (by decide) (by decide))]
    exact c1.2 i hi
theorem RD_val {A : LT} {pr : Nat → Nat} (B : AB A) : ∀ n s c, RD A pr (srcO A) n s c → u_val A s = true ∧ s < (A 6 0) ^ (A 6 1)
  | 0, s, c, h => by
    refine ⟨?_, h.1.1⟩
    have q := h.1.2
    unfold u_mk at q
    by_cases c : u_val A s = true
    · exact c
    · rw [if_neg c] at q
      omega
  | n + 1, s, c, h => by
    obtain ⟨_, _, _, _, h2, _⟩ := h
    have q := nb_in B.1 B.2.1 h2
    exact ⟨q.2.2, q.1⟩
theorem ps_edge {A : LT} {s p k : Nat} (B : AB A) (hv : u_val A s = true) (hs : s < (A 6 0) ^ (A 6 1)) (h : (p, k) ∈ nb A s) : ∃ t, t < A 6 1 ∧ A 6 5 ≠ t + 1 ∧ dg (A 6 0) s t < A 6 0 ∧ dg (A 6 0) s t ≠ dg 5 (ps A p) t ∧ mvc (A 6 1) (ps A p) t (dg (A 6 0) s t) = ps A s ∧ k = (t * 5 + dg 5 (ps A p) t) * 5 + dg (A 6 0) s t := by
  have b1 := B.1
  obtain ⟨t, h', ht, hh, hne, hv2, e⟩ := nbA_mem.mp h
  cases e
  have hg : A 6 5 ≠ t + 1 := by
    intro z
    have q1 := (val_t.mp hv).2 (by omega)
    have q2 := (val_t.mp hv2).2 (by omega)
    rw [z, Nat.add_sub_cancel] at q1 q2
    rw [mvp_dg hh ht, if_pos rfl] at q2
    omega
  have hd := dg_lt (b := A 6 0) (c := s) (t := t) (by omega)
  have ep : dg 5 (ps A (mvp A s t h')) t = h' := by rw [ps_dg B ht, if_neg hg, mvp_dg hh ht, if_pos rfl]
  refine ⟨t, ht, hg, hd, by rw [ep]; exact fun z => hne z.symm, ?_, by rw [ep]⟩
  refine dg_ext (mvc_lt (by omega)) (ps_N B) (fun i hi => ?_)
  rw [mvc_dg (by omega) hi, ps_dg B hi, ps_dg B hi, mvp_dg hh hi]
  by_cases ci : i = t
  · rw [if_pos ci, ci, if_neg hg]
  · rw [if_neg ci, if_neg ci]
/-- what the model's numbers are -/
theorem GA_few {m : MM} {A : LT} {pr f g : Nat → Nat} (B : AB A) (hgk : A 6 5 = 0 ∨ A 6 5 ≠ A 6 2) (G : GA m A pr f g) : ∀ n s c, (RD A one (srcO A) n s c → f (ps A s) ≤ c) ∧ (RD A pr (srcO A) n s c → g (ps A s) ≤ c) := by
  have b1 := B.1
  have key0 : ∀ s c, srcO A s ∧ c = 0 → f (ps A s) = 0 ∧ g (ps A s) = 0 := by
    intro s c h
    have hv : u_val A s = true := (RD_val (pr := one) B 0 s c h).1
    have hw := ps_wl B hv
    have ho : u_open A (dg (A 6 0) s) = true := by
      have q := h.1.2
      unfold u_mk at q
      rw [if_pos hv] at q
      by_cases co : u_open A (dg (A 6 0) s) = true
      · exact co
      · rw [if_neg co] at q
        omega
    have hop : u_open A (dg 5 (ps A s)) = u_open A (dg (A 6 0) s) := open_cong (fun i hi hg => by rw [ps_dg B hi, if_neg hg]) B hgk
    exact ((G.2.1 (ps A s) (ps_N B)).2.2 hw).2.2 (by rw [hop]; exact ho)
  intro n
  induction n with
  | zero =>
    intro s c
    exact ⟨fun h => by have := (key0 s c h).1; omega, fun h => by have := (key0 s c h).2; omega⟩
  | succ n ih =>
    intro p c
    constructor
    · rintro ⟨s, k, c', h1, h2, h3⟩
      have hv := RD_val B n s c' h1
      have hvp := nb_in B.1 B.2.1 h2
      obtain ⟨t, ht, hg, hd, hne, hmv, hk⟩ := ps_edge B hv.1 hv.2 h2
      have q := G.2.2 (ps A p) (ps_N B) (ps_wl B hvp.2.2) t (dg (A 6 0) s t) ht hd hg hne (by rw [hmv]; exact ps_wl B hv.1)
      rw [hmv] at q
      have q2 := (ih s c').1 h1
      have : one k = 1 := rfl
      omega
    · rintro ⟨s, k, c', h1, h2, h3⟩
      have hv := RD_val B n s c' h1
      have hvp := nb_in B.1 B.2.1 h2
      obtain ⟨t, ht, hg, hd, hne, hmv, hk⟩ := ps_edge B hv.1 hv.2 h2
      have q := G.2.2 (ps A p) (ps_N B) (ps_wl B hvp.2.2) t (dg (A 6 0) s t) ht hd hg hne (by rw [hmv]; exact ps_wl B hv.1)
      rw [hmv, ← hk] at q
      have q2 := (ih s c').2 h1
      omega
theorem LD_few {m : MM} {A : LT} {pr f g : Nat → Nat} {s x : Nat} (B : AB A) (hgk : A 6 5 = 0 ∨ A 6 5 ≠ A 6 2) (G : GA m A pr f g) (hv : u_val A s = true) (hs : s < (A 6 0) ^ (A 6 1)) (hx : x ≤ 309376) (D : LDc A one (srcO A) s x) : f (ps A s) = if x = 0 then FAR else x - 1 := by
  have q := G.2.1 (ps A s) (ps_N B)
  have q2 := (q.2.2 (ps_wl B hv)).1
  rw [ph_ps B hv hs] at q2
  have FARd : FAR = 99999999 := rfl
  rcases D with ⟨h1, h2⟩ | ⟨h1, ⟨n, h2⟩, h3⟩
  · rw [if_pos h1]
    by_cases c : f (ps A s) < FAR
    · obtain ⟨n, hn⟩ := q2 c
      exact absurd hn (h2 n _)
    · omega
  · rw [if_neg h1]
    have l := (GA_few B hgk G n s _).1 h2
    obtain ⟨n2, hn⟩ := q2 (by omega)
    have := h3 n2 _ hn
    omega
theorem LD_little {m : MM} {A : LT} {pr f g : Nat → Nat} {s x : Nat} (B : AB A) (hgk : A 6 5 = 0 ∨ A 6 5 ≠ A 6 2) (G : GA m A pr f g) (hv : u_val A s = true) (hs : s < (A 6 0) ^ (A 6 1)) (hx : x ≤ 309376) (D : LDc A pr (srcO A) s x) : g (ps A s) = if x = 0 then FAR else x - 1 := by
  have q := G.2.1 (ps A s) (ps_N B)
  have q2 := (q.2.2 (ps_wl B hv)).2.1
  rw [ph_ps B hv hs] at q2
  have FARd : FAR = 99999999 := rfl
  rcases D with ⟨h1, h2⟩ | ⟨h1, ⟨n, h2⟩, h3⟩
  · rw [if_pos h1]
    by_cases c : g (ps A s) < FAR
    · obtain ⟨n, hn⟩ := q2 c
      exact absurd hn (h2 n _)
    · omega
  · rw [if_neg h1]
    have l := (GA_few B hgk G n s _).2 h2
    obtain ⟨n2, hn⟩ := q2 (by omega)
    have := h3 n2 _ hn
    omega
