/-! DRAWN, CHANCE -/
def FDC (m m2 : MM) : Prop := ∀ q, q ≠ 24 → m2.1 q = m.1 q
def FDM (m m2 : MM) : Prop := (∀ q, q ≠ 8 → m2.1 q = m.1 q) ∧ ∀ j, 5 ≤ j → rI m2 8 j = rI m 8 j
/-- the model's look, behind a drawing -/
def dTst (F : Nat) (n : Nat) (K : Int32 → Int32 → Int32 → MM → Option (Int32 × MM)) (f2 : Nat) (z : Int32) (i : Nat) (m : MM) : Option (Int32 × MM) := bd1 (f_X6_isOpen F m) fun r22 => if r22 = 0 then f_X6_draws_L44 F (nI n) K f2 z (-1) (nI i + 1) m else f_X6_draws_L44 F (nI n) K f2 z (nI i) (nI i + 1) m
theorem draws44_x {F n f2 : Nat} {K : Int32 → Int32 → Int32 → MM → Option (Int32 × MM)} {z x : Int32} {i : Nat} {m : MM} (hi : i < 2 ^ 31) : f_X6_draws_L44 F (nI n) K (f2 + 1) z (nI i) x m = K z (nI i) x m := by
  unfold f_X6_draws_L44
  by_cases c : nI n < x
  · rw [if_pos c]
  · rw [if_neg c, if_neg (n_ne1 hi)]
theorem draw_L {F : Nat} {A : LT} (hF : 7 ≤ F) (V : AV A) (hT : 0 < A 6 1) {n : Nat} (hn : n < 100) (K : Int32 → Int32 → Int32 → MM → Option (Int32 × MM)) : ∀ d i f f2 a z mc mm, i + d = n → d + 1 < f → d < f2 → MAY A a → LC mc 17 (sA A a) → LM mm (sA A a) → ∃ r mc2 mm2 zz x, f_X5_openBehind_L16 F (nI n) (fun x3_3 x4_4 m5 => some ((-1 : Int32), m5)) f z (nI i) mc = some (r, mc2) ∧ dTst F n K f2 z i mm = K zz r x mm2 ∧ FDC mc mc2 ∧ FDM mm mm2 := by
  have b1 := V.1.1
  have b2 := V.1.2.1
  intro d
  induction d with
  | zero =>
    intro i f f2 a z mc mm hi hf hf2 M L17 LMm
    obtain ⟨f, rfl⟩ : ∃ k, f = k + 2 := ⟨f - 2, by omega⟩
    obtain ⟨f2, rfl⟩ : ∃ k, f2 = k + 1 := ⟨f2 - 1, by omega⟩
    have : i = n := by omega
    subst this
    unfold dTst
    rw [openT hF V M LMm, bd1_s]
    conv => arg 1; ext r; arg 1; ext mc2; arg 1; ext mm2; arg 1; ext zz; arg 1; ext x; arg 1; lhs; unfold f_X5_openBehind_L16
    rw [if_neg (show ¬ nI i < nI i by rw [n_lt (by omega) (by omega)]; omega), openS (by omega) V M L17, bd1_s]
    by_cases c : u_open A a = true
    · rw [if_pos c, if_neg h10, if_neg h10, draws44_x (by omega)]
      exact ⟨_, _, _, _, _, rfl, rfl, fun q _ => rfl, ⟨fun q _ => rfl, fun j _ => rfl⟩⟩
    · rw [if_neg c, i_if, i_if]
      have e1 : f_X6_draws_L44 F (nI i) K (f2 + 1) z (-1) (nI i + 1) mm = K z (-1) (nI i + 1) mm := by
        unfold f_X6_draws_L44
        rw [if_pos (by rw [n_s, n_lt (by omega) (by omega)]; omega)]
      have e2 : ∀ m z, f_X5_openBehind_L16 F (nI i) (fun x3_3 x4_4 m5 => some ((-1 : Int32), m5)) (f + 1) z (nI i + 1) m = some (-1, m) := fun m z => by
        unfold f_X5_openBehind_L16
        rw [if_pos (by rw [n_s, n_lt (by omega) (by omega)]; omega)]
      have e3 : ∃ mc2, f_X5_drawOnce F (z * 1103515245 + 12345) mc = some mc2 ∧ FDC mc mc2 := by
        have hH : 0 < A 6 0 := by have := M.1 0 hT; omega
        obtain ⟨x, hx1, hx2⟩ := ush_n (z * 1103515245 + 12345) 9 9 (Or.inl rfl) rfl
        obtain ⟨y, hy1, hy2⟩ := ush_n (z * 1103515245 + 12345) 17 17 (Or.inr rfl) rfl
        have ht := Nat.mod_lt x hT
        have hh := Nat.mod_lt y hH
        have l17 : rI mc 17 8 = nI (A 6 1) := L17.2.1
        have l16 : rI mc 17 7 = nI (A 6 0) := L17.1
        unfold f_X5_drawOnce
        rw [l17, l16, if_neg (show ¬ nI (A 6 1) < 1 by rw [show (1 : Int32) = nI 1 from rfl, n_lt (by omega) (by omega)]; omega), if_pos (show 1 ≤ nI (A 6 0) by rw [show (1 : Int32) = nI 1 from rfl, n_le (by omega) (by omega)]; omega), Gu_of (nz_n hT (by omega)), hx2, hy2, n_rem hx1 (by omega), n_rem hy1 (by omega), Lt_d, Gu_of (nz_n hH (by omega)), Lt_d, refS (by omega) V M L17 ht hh, bd1_s]
        by_cases c1 : (if a (x % A 6 1) = y % A 6 0 then (1 : Int32) else nI (u_bar A a (x % A 6 1) (y % A 6 0))) = 0
        · rw [if_pos c1, Gu_of (inB_n (by omega : x % A 6 1 < 5) (by decide))]
          exact ⟨_, rfl, fun q hq => row_ne hq⟩
        · rw [if_neg c1]
          exact ⟨_, rfl, fun q hq => rfl⟩
      obtain ⟨mc2, e4, e5⟩ := e3
      simp only [Lt_d]
      rw [e4, bd1_s, e1, e2]
      exact ⟨_, _, _, _, _, rfl, rfl, e5, ⟨fun q _ => rfl, fun j _ => rfl⟩⟩
  | succ d ih =>
    intro i f f2 a z mc mm hi hf hf2 M L17 LMm
    obtain ⟨f, rfl⟩ : ∃ k, f = k + 1 := ⟨f - 1, by omega⟩
    obtain ⟨f2, rfl⟩ : ∃ k, f2 = k + 1 := ⟨f2 - 1, by omega⟩
    have eI : f_X5_openBehind_L16 F (nI n) (fun x3_3 x4_4 m5 => some ((-1 : Int32), m5)) (f + 1) z (nI i) mc = if u_open A a = true then some (nI i, mc) else bd1 (f_X5_drawOnce F (z * 1103515245 + 12345) mc) fun m11 => f_X5_openBehind_L16 F (nI n) (fun x3_3 x4_4 m5 => some ((-1 : Int32), m5)) f (z * 1103515245 + 12345) (nI (i + 1)) m11 := by
      conv => lhs; unfold f_X5_openBehind_L16
      rw [if_neg (show ¬ nI n < nI i by rw [n_lt (by omega) (by omega)]; omega), openS (by omega) V M L17, bd1_s]
      by_cases c : u_open A a = true
      · rw [if_pos c, if_pos c, if_neg h10]
      · rw [if_neg c, if_neg c, i_if]
        simp only [Lt_d, n_s]
    rw [eI]
    unfold dTst
    rw [openT hF V M LMm, bd1_s]
    by_cases c : u_open A a = true
    · rw [if_pos c, if_pos c, if_neg h10, draws44_x (by omega)]
      exact ⟨_, _, _, _, _, rfl, rfl, fun q _ => rfl, ⟨fun q _ => rfl, fun j _ => rfl⟩⟩
    · rw [if_neg c, if_neg c, i_if]
      have hH : 0 < A 6 0 := by have := M.1 0 hT; omega
      obtain ⟨x, hx1, hx2⟩ := ush_n (z * 1103515245 + 12345) 9 9 (Or.inl rfl) rfl
      obtain ⟨y, hy1, hy2⟩ := ush_n (z * 1103515245 + 12345) 17 17 (Or.inr rfl) rfl
      have ht := Nat.mod_lt x hT
      have hh := Nat.mod_lt y hH
      have l17 : rI mc 17 8 = nI (A 6 1) := L17.2.1
      have l16 : rI mc 17 7 = nI (A 6 0) := L17.1
      have lm14 : rI mm 0 14 = nI (A 6 1) := LMm.2.1
      have lm9 : rI mm 0 9 = nI (A 6 0) := LMm.1
      have hxt : ix (nI (x % A 6 1)) = x % A 6 1 := ix_n (by omega)
      have gt := inB_n (by omega : x % A 6 1 < 5) (by decide : 5 ≤ 2 ^ 31)
      have V2 := AV_s V M
      have cg := canGoM (F := F) (t := x % A 6 1) (h := y % A 6 0) hF LMm V2.1 ht hh
      rw [sA_5, bar_s] at cg
      have hu := u_bar_lt (A := A) (a := a) (t := x % A 6 1) (h := y % A 6 0)
      have eD : f_X5_drawOnce F (z * 1103515245 + 12345) mc = some (if a (x % A 6 1) ≠ y % A 6 0 ∧ u_bar A a (x % A 6 1) (y % A 6 0) = 0 then wI mc 24 (x % A 6 1) (nI (y % A 6 0)) else mc) := by
        unfold f_X5_drawOnce
        rw [l17, l16, if_neg (show ¬ nI (A 6 1) < 1 by rw [show (1 : Int32) = nI 1 from rfl, n_lt (by omega) (by omega)]; omega), if_pos (show 1 ≤ nI (A 6 0) by rw [show (1 : Int32) = nI 1 from rfl, n_le (by omega) (by omega)]; omega), Gu_of (nz_n hT (by omega)), hx2, hy2, n_rem hx1 (by omega), n_rem hy1 (by omega), Lt_d, Gu_of (nz_n hH (by omega)), Lt_d, refS (by omega) V M L17 ht hh, bd1_s, Gu_of gt, hxt, Lt_d]
        by_cases c1 : a (x % A 6 1) = y % A 6 0
        · rw [if_pos c1, if_neg h10, if_neg (fun z => z.1 c1)]
        · rw [if_neg c1]
          by_cases c2 : u_bar A a (x % A 6 1) (y % A 6 0) = 0
          · rw [if_pos ((n_z (by omega)).mpr c2), if_pos ⟨c1, c2⟩]
          · rw [if_neg (by rw [n_z (by omega)]; exact c2), if_neg (fun z => c2 z.2)]
      have eM : f_X6_draws_L44 F (nI n) K (f2 + 1) z (-1) (nI i + 1) mm = dTst F n K f2 (z * 1103515245 + 12345) (i + 1) (if a (x % A 6 1) ≠ y % A 6 0 ∧ u_bar A a (x % A 6 1) (y % A 6 0) = 0 then wI mm 8 (x % A 6 1) (nI (y % A 6 0)) else mm) := by
        conv => lhs; unfold f_X6_draws_L44
        rw [n_s, if_neg (show ¬ nI n < nI (i + 1) by rw [n_lt (by omega) (by omega)]; omega), if_pos rfl, lm14, lm9, if_neg (show ¬ nI (A 6 1) ≤ 0 by rw [show (0 : Int32) = nI 0 from rfl, n_le (by omega) (by omega)]; omega)]
        simp only [Lt_d, Jp_d]
        rw [Gu_of (nz_n hT (by omega)), hx2, hy2, n_rem hx1 (by omega), n_rem hy1 (by omega), Gu_of (nz_n hH (by omega)), cg, bd1_s, Gu_of gt, hxt]
        unfold dTst
        by_cases c1 : a (x % A 6 1) ≠ y % A 6 0 ∧ u_bar A a (x % A 6 1) (y % A 6 0) = 0
        · rw [if_pos c1, show (if sA A a 6 5 ≠ x % A 6 1 + 1 ∧ a (x % A 6 1) ≠ y % A 6 0 ∧ u_bar A a (x % A 6 1) (y % A 6 0) = 0 then (1 : Int32) else 0) = 1 from if_pos ⟨by rw [V2.2.2.2.1]; omega, c1⟩, i_el]
        · rw [if_neg c1, show (if sA A a 6 5 ≠ x % A 6 1 + 1 ∧ a (x % A 6 1) ≠ y % A 6 0 ∧ u_bar A a (x % A 6 1) (y % A 6 0) = 0 then (1 : Int32) else 0) = 0 from if_neg (fun z => c1 z.2), i_if]
      rw [eD, bd1_s, eM]
      by_cases c1 : a (x % A 6 1) ≠ y % A 6 0 ∧ u_bar A a (x % A 6 1) (y % A 6 0) = 0
      · rw [if_pos c1, if_pos c1]
        have M2 := (MAY_up V.2.1 ht hh (by rw [V.2.2.2.1]; omega) M).mpr c1.2
        have L17b := LC_mv (t := x % A 6 1) (h := y % A 6 0) (m1 := mc) (fun q _ _ => rfl) L17
        have LMb := LM_mv (t := x % A 6 1) (h := y % A 6 0) (m1 := mm) (fun q _ _ => rfl) (fun i _ => rfl) LMm
        obtain ⟨r, mc2, mm2, zz, x2, q1, q2, q3, q4⟩ := ih (i + 1) f f2 _ (z * 1103515245 + 12345) _ _ (by omega) (by omega) (by omega) M2 L17b LMb
        exact ⟨r, mc2, mm2, zz, x2, q1, q2, fun q hq => (q3 q hq).trans (row_ne hq), ⟨fun q hq => (q4.1 q hq).trans (row_ne hq), fun j hj => (q4.2 j hj).trans (rI_nj (by omega))⟩⟩
      · rw [if_neg c1, if_neg c1]
        exact ih (i + 1) f f2 a (z * 1103515245 + 12345) mc mm (by omega) (by omega) (by omega) M L17 LMm
/-- without things nothing is open -/
theorem draw_0 {F : Nat} {A : LT} (hF : 7 ≤ F) (V : AV A) (hT : A 6 1 = 0) {n : Nat} (hn : n < 100) : ∀ d i f z mc, i + d = n → d + 1 < f → LC mc 17 (sA A (A 5)) → f_X5_openBehind_L16 F (nI n) (fun x3_3 x4_4 m5 => some ((-1 : Int32), m5)) f z (nI i) mc = some (-1, mc) := by
  have ho : ¬ u_open A (A 5) = true := by
    unfold u_open
    have := V.1.2.2.1
    simp
    intro h
    omega
  have eD : ∀ mc z, LC mc 17 (sA A (A 5)) → f_X5_drawOnce F z mc = some mc := by
    intro mc z L17
    have l17 : rI mc 17 8 = nI (A 6 1) := L17.2.1
    unfold f_X5_drawOnce
    rw [l17, hT, if_pos (by decide)]
  have eI : ∀ i f z mc, i ≤ n → LC mc 17 (sA A (A 5)) → f_X5_openBehind_L16 F (nI n) (fun x3_3 x4_4 m5 => some ((-1 : Int32), m5)) (f + 1) z (nI i) mc = f_X5_openBehind_L16 F (nI n) (fun x3_3 x4_4 m5 => some ((-1 : Int32), m5)) f (z * 1103515245 + 12345) (nI (i + 1)) mc := by
    intro i f z mc hi L17
    conv => lhs; unfold f_X5_openBehind_L16
    rw [if_neg (show ¬ nI n < nI i by rw [n_lt (by omega) (by omega)]; omega), openS (by omega) V V.2.2.1 L17, bd1_s, if_neg ho, i_if, Lt_d, eD _ _ L17, bd1_s, Lt_d, n_s]
  intro d
  induction d with
  | zero =>
    intro i f z mc hi hf L17
    obtain ⟨f, rfl⟩ : ∃ k, f = k + 2 := ⟨f - 2, by omega⟩
    have : i = n := by omega
    subst this
    rw [eI i (f + 1) z mc (Nat.le_refl _) L17]
    generalize z * 1103515245 + 12345 = z2
    unfold f_X5_openBehind_L16
    rw [if_pos (by rw [n_lt (by omega) (by omega)]; omega)]
  | succ d ih =>
    intro i f z mc hi hf L17
    obtain ⟨f, rfl⟩ : ∃ k, f = k + 1 := ⟨f - 1, by omega⟩
    rw [eI i f z mc (by omega) L17]
    exact ih (i + 1) f _ mc (by omega) (by omega) L17
theorem draws_eq {F : Nat} {A : LT} (hF : 50 ≤ F) (V : AV A) {n : Nat} (hn : n ≤ 40) (hn1 : 1 ≤ n) (z : Int32) (mc mm : MM) (L1 : LC mc 1 A) (LMm : LM mm A) : ∃ r mc2 mm2, f_X5_openBehind F z (nI n) mc = some (r, mc2) ∧ f_X6_draws F z (nI n) mm = some (r, mm2) ∧ (∀ q, ¬ (17 ≤ q ∧ q ≤ 24) → mc2.1 q = mc.1 q) ∧ (∀ q, q ≠ 10 → mm2.1 q = mm.1 q) := by
  obtain ⟨m1, e1, e2, e3, e4, e5⟩ := becC (k := 17) (k2 := 1) (by omega) mc
  have L17 := LC_17 V ⟨e3, e4, e5⟩ L1
  unfold f_X5_openBehind f_X6_draws
  rw [e1, bd1_s]
  obtain ⟨m2, ⟨k1, k2⟩, k3⟩ := draws2 (F := F) (by omega) mm (fun x3_1 m2 => bd1 (f_X6_isOpen F m2) fun r6 => Jp (fun s8 => f_X6_draws_L44 F (nI n) (fun x3_10 x4_11 x5_12 m13 => f_X6_draws_L139 (fun x5_28 m29 => some (x4_11, m29)) F (0 : Int32) m13) F z s8 (1 : Int32) m2) fun J9 => if r6 = 0 then J9 (-1 : Int32) else J9 (0 : Int32))
  rw [k3]
  have LM2 : LM m2 (sA A (A 5)) := by
    rw [sA_self]
    exact LM_fr (fun q h1 h2 => k1 q (by omega)) (fun i _ => r_row (k1 0 (by decide)) i) LMm
  have fin : ∀ (r : Int32) (mm3 : MM), FDM m2 mm3 → ∃ mm4, f_X6_draws_L139 (fun x5_28 m29 => some (r, m29)) F (0 : Int32) mm3 = some (r, mm4) ∧ ∀ q, q ≠ 10 → mm4.1 q = mm.1 q := by
    intro r mm3 h
    obtain ⟨m5, ⟨v1, v2⟩, v3⟩ := draws139 (F := F) (by omega) mm3 (fun x5_28 m29 => some (r, m29))
    refine ⟨m5, v3, fun q hq => ?_⟩
    by_cases c8 : q = 8
    · subst c8
      funext j
      show rI m5 8 j = rI mm 8 j
      rw [v2]
      by_cases cj : j < 5
      · rw [if_pos cj, r_row (h.1 10 (by decide)), k2, if_pos cj]
      · rw [if_neg cj, h.2 j (by omega), r_row (k1 8 (by decide))]
    · rw [v1 q c8, h.1 q c8]
      exact k1 q hq
  by_cases hT : A 6 1 = 0
  · have ho : ¬ u_open A (A 5) = true := by
      unfold u_open
      have := V.1.2.2.1
      simp
      intro h
      omega
    have q := draw_0 (F := F) (by omega) V hT (n := n) (by omega) n 0 F z m1 (by omega) (by omega) L17
    obtain ⟨mm4, f1, f2⟩ := fin (-1) m2 ⟨fun q _ => rfl, fun j _ => rfl⟩
    refine ⟨-1, m1, mm4, q, ?_, fun q hq => e2 q (by omega), f2⟩
    have l14 : rI m2 0 14 = nI (A 6 1) := LM2.2.1
    rw [openT (by omega) V V.2.2.1 LM2, bd1_s, if_neg ho]
    rw [Jp_d, i_if]
    dsimp only
    obtain ⟨F, rfl⟩ : ∃ k, F = k + 1 := ⟨F - 1, by omega⟩
    conv => lhs; unfold f_X6_draws_L44
    rw [if_neg (show ¬ nI n < 1 by rw [show (1 : Int32) = nI 1 from rfl, n_lt (by omega) (by omega)]; omega), if_pos rfl, l14, hT, if_pos (by decide)]
    exact f1
  · obtain ⟨r, mc2, mm2, zz, x, q1, q2, q3, q4⟩ := draw_L (F := F) (by omega) V (by omega) (n := n) (by omega) (fun x3_10 x4_11 x5_12 m13 => f_X6_draws_L139 (fun x5_28 m29 => some (x4_11, m29)) F (0 : Int32) m13) n 0 F F (A 5) z m1 m2 (by omega) (by omega) (by omega) V.2.2.1 L17 LM2
    obtain ⟨mm4, f1, f2⟩ := fin r mm2 q4
    refine ⟨r, mc2, mm4, q1, ?_, fun q hq => (q3 q (by omega)).trans (e2 q (by omega)), f2⟩
    rw [← f1]
    exact q2
theorem Rel_d {F : Nat} {mc mm mc2 mm2 : MM} (h1 : ∀ q, ¬ (17 ≤ q ∧ q ≤ 24) → mc2.1 q = mc.1 q) (h2 : ∀ q, q ≠ 10 → mm2.1 q = mm.1 q) (R : RelX (XT F) mc mm) : RelX (XT F) mc2 mm2 := by
  refine Rel_fr (XF_T F) ⟨fun q hq => h1 q ?_, r_row (h1 36 (by omega)) 1⟩ ⟨fun q hq => h2 q ?_, fun i _ => r_row (h2 0 (by decide)) i⟩ R
  · simp [kcB] at hq
    omega
  · simp [kmB] at hq
    omega
theorem t_drawn {F : Nat} (hF : 50 ≤ F) (mc mm : MM) (a0 a1 : Int32) (R : RelX (XT F) mc mm) : ∃ r mc2 mm2, f_X5_drawn F a0 a1 mc = some (r, mc2) ∧ f_X6_drawn F a0 a1 mm = some (r, mm2) ∧ RelX (XT F) mc2 mm2 := by
  obtain ⟨A, n, r1, r2, V, r4, r5, r6, r7, r8⟩ := id R
  have e1 : (1 : Int32).toInt = 1 := rfl
  have e40 : (40 : Int32).toInt = 40 := rfl
  unfold f_X5_drawn f_X6_drawn
  rw [in_sp, bd1_s, l_i, show (1 : Int64).toInt = 1 from rfl, show (40 : Int64).toInt = 40 from rfl]
  simp only [i_lt, i_le, e1, e40]
  by_cases c : 1 ≤ a1.toInt ∧ a1.toInt ≤ 40
  · obtain ⟨k, hk, rfl⟩ := n_of (a := a1) (n := 41) (by omega) (by omega)
    rw [nI_toInt (by omega)] at c
    rw [if_neg (by rw [nI_toInt (by omega)]; omega), if_pos (show (nI k).toInt ≤ 40 by rw [nI_toInt (by omega)]; omega), show (if 1 ≤ (nI k).toInt ∧ (nI k).toInt ≤ 40 then (1 : Int32) else 0) = 1 from if_pos (by rw [nI_toInt (by omega)]; exact c), i_el]
    obtain ⟨r, mc2, mm2, q1, q2, q3, q4⟩ := draws_eq (F := F) hF V (n := k) (by omega) (by omega) a0 mc mm r1 r2
    rw [q1, q2, bd2_s, bd2_s]
    exact ⟨_, _, _, rfl, rfl, Rel_d q3 q4 R⟩
  · rw [if_neg c, i_if]
    by_cases c2 : a1.toInt < 1
    · rw [if_pos c2]
      exact ⟨_, _, _, rfl, rfl, R⟩
    · rw [if_neg c2, if_neg (by omega)]
      exact ⟨_, _, _, rfl, rfl, R⟩
/-- the common part, on both sides -/
def gcdL : Nat → Int64 → Int64 → Option Int64
  | 0, _, _ => none
  | n + 1, p, q => if (lg_cmp q (0 : Int64)) = 0 then some p else gcdL n q (remL p q)
theorem gcd76 {K : Int64 → Int64 → Option (Int64 × MM)} : ∀ n p q g, gcdL n p q = some g → ∀ F, ∃ z, f_X6_chance_L76 K (F + n) p q = K g z
  | 0, p, q, g, h, F => by cases h
  | n + 1, p, q, g, h, F => by
    unfold gcdL at h
    rw [← Nat.add_assoc]
    unfold f_X6_chance_L76
    by_cases c : (lg_cmp q (0 : Int64)) = 0
    · rw [if_pos c] at h ⊢
      cases h
      exact ⟨q, rfl⟩
    · rw [if_neg c] at h ⊢
      have hz : nzL q = true := by
        unfold nzL
        rw [Bool.not_eq_true', beq_eq_false_iff_ne]
        intro hz
        subst hz
        exact c (by decide)
      rw [Gu_of hz, Lt_d]
      exact gcd76 n q (remL p q) g h F
theorem common_m {a0 a1 : Int32} : ∀ n F x y, f_X5_commonPart_L2 a0 a1 (fun x2_1 => some (1 : Int32)) n x = some y → f_X5_commonPart_L2 a0 a1 (fun x2_1 => some (1 : Int32)) (F + n) x = some y
  | 0, F, x, y, h => by cases h
  | n + 1, F, x, y, h => by
    rw [← Nat.add_assoc]
    unfold f_X5_commonPart_L2 at h ⊢
    by_cases c : x ≤ (1 : Int32)
    · rw [if_pos c] at h ⊢
      exact h
    · rw [if_neg c] at h ⊢
      obtain ⟨g, h⟩ := Gu_inv h
      rw [Gu_of g]
      by_cases c2 : remI a0 x = 0
      · rw [if_pos c2] at h ⊢
        obtain ⟨g, h⟩ := Gu_inv h
        rw [Gu_of g]
        by_cases c3 : remI a1 x = 0
        · rw [if_pos c3] at h ⊢
          exact h
        · rw [if_neg c3] at h ⊢
          exact common_m n F _ y h
      · rw [if_neg c2] at h ⊢
        exact common_m n F _ y h
def comOk (h n : Nat) : Bool := match f_X5_commonPart_L2 (nI h) (nI n) (fun x2_1 => some (1 : Int32)) 25 (nI n), gcdL 25 (Int32.toInt64 (nI h)) (Int32.toInt64 (nI n)) with
  | some c, some g => nz c && (nzL g && (Int32.toInt64 (nI h / c) == Int32.toInt64 (nI h) / g && Int32.toInt64 (nI n / c) == Int32.toInt64 (nI n) / g))
  | _, _ => false
theorem com_all : ∀ n, n < 21 → ∀ h, h < 21 → 1 ≤ n → h ≤ n → comOk h n = true := by decide +kernel
theorem com_sp {h n : Nat} (hn : n ≤ 20) (h1 : 1 ≤ n) (hh : h ≤ n) : ∃ c g, f_X5_commonPart_L2 (nI h) (nI n) (fun x2_1 => some (1 : Int32)) 25 (nI n) = some c ∧ gcdL 25 (Int32.toInt64 (nI h)) (Int32.toInt64 (nI n)) = some g ∧ nz c = true ∧ nzL g = true ∧ Int32.toInt64 (nI h / c) = Int32.toInt64 (nI h) / g ∧ Int32.toInt64 (nI n / c) = Int32.toInt64 (nI n) / g := by
  have q := com_all n (by omega) h (by omega) h1 hh
  unfold comOk at q
  revert q
  cases e1 : f_X5_commonPart_L2 (nI h) (nI n) (fun x2_1 => some (1 : Int32)) 25 (nI n) with
  | none => intro q; cases q
  | some c =>
    cases e2 : gcdL 25 (Int32.toInt64 (nI h)) (Int32.toInt64 (nI n)) with
    | none => intro q; cases q
    | some g =>
      intro q
      simp only [Bool.and_eq_true, beq_iff_eq] at q
      exact ⟨c, g, rfl, rfl, q.1, q.2.1, q.2.2.1, q.2.2.2⟩
theorem l_s : ∀ h, h < 21 → Int32.toInt64 (nI h) + 1 = Int32.toInt64 (nI (h + 1)) := by decide +kernel
theorem l_z (x : Int64) : x + 0 = x := Int64.add_zero x
theorem chance_L {F : Nat} {A : LT} (hF : 50 ≤ F) (V : AV A) {n : Nat} (hn : n ≤ 20) (s : Int32) (K : Int32 → Int32 → MM → Option (Int64 × MM)) (K2 : Int64 → Int32 → MM → Option (Int64 × MM)) : ∀ d i f h mc mm, i + d = n → d < f → h ≤ i → LC mc 1 A → LM mm A → RelX (XT F) mc mm → ∃ h2 mc2 mm2, h2 ≤ n ∧ f_X5_chance_L29 F s (nI n) K f (nI h) (nI i) mc = K (nI h2) (nI n) mc2 ∧ f_X6_chance_L32 F s (nI n) K2 f (Int32.toInt64 (nI h)) (nI i) mm = K2 (Int32.toInt64 (nI h2)) (nI n) mm2 ∧ RelX (XT F) mc2 mm2 := by
  intro d
  induction d with
  | zero =>
    intro i f h mc mm hi hf hh L1 LMm R
    obtain ⟨f, rfl⟩ : ∃ k, f = k + 1 := ⟨f - 1, by omega⟩
    have : i = n := by omega
    subst this
    unfold f_X5_chance_L29 f_X6_chance_L32
    rw [if_pos (Int32.le_refl _), if_pos (Int32.le_refl _)]
    exact ⟨h, mc, mm, by omega, rfl, rfl, R⟩
  | succ d ih =>
    intro i f h mc mm hi hf hh L1 LMm R
    obtain ⟨f, rfl⟩ : ∃ k, f = k + 1 := ⟨f - 1, by omega⟩
    have hle : ¬ nI n ≤ nI i := by rw [n_le (by omega) (by omega)]; omega
    obtain ⟨r, mc1, mm1, q1, q2, q3, q4⟩ := draws_eq (F := F) hF V (n := 40) (by omega) (by omega) (s + nI i) mc mm L1 LMm
    have R1 := Rel_d q3 q4 R
    have L1b : LC mc1 1 A := LC_fr (fun q h1 h2 => q3 q (by omega)) L1
    have LMb : LM mm1 A := LM_fr (fun q h1 h2 => q4 q (by omega)) (fun i _ => r_row (q4 0 (by decide)) i) LMm
    have e40 : nI 40 = (40 : Int32) := rfl
    rw [e40] at q1 q2
    have eC : f_X5_chance_L29 F s (nI n) K (f + 1) (nI h) (nI i) mc = if r = (-1 : Int32) then f_X5_chance_L29 F s (nI n) K f (nI h) (nI (i + 1)) mc1 else f_X5_chance_L29 F s (nI n) K f (nI (h + 1)) (nI (i + 1)) mc1 := by
      conv => lhs; unfold f_X5_chance_L29
      rw [if_neg hle, q1, bd2_s]
      simp only [Lt_d, n_s]
    have eM : f_X6_chance_L32 F s (nI n) K2 (f + 1) (Int32.toInt64 (nI h)) (nI i) mm = if r = (-1 : Int32) then f_X6_chance_L32 F s (nI n) K2 f (Int32.toInt64 (nI h)) (nI (i + 1)) mm1 else f_X6_chance_L32 F s (nI n) K2 f (Int32.toInt64 (nI (h + 1))) (nI (i + 1)) mm1 := by
      conv => lhs; unfold f_X6_chance_L32
      rw [if_neg hle, q2, bd2_s]
      simp only [Lt_d, Jp_d, n_s]
      rw [l_z, l_s h (by omega)]
    rw [eC, eM]
    by_cases c : r = -1
    · rw [if_pos c, if_pos c]
      exact ih (i + 1) f h mc1 mm1 (by omega) (by omega) (by omega) L1b LMb R1
    · rw [if_neg c, if_neg c]
      exact ih (i + 1) f (h + 1) mc1 mm1 (by omega) (by omega) (by omega) L1b LMb R1
theorem t_chance {F : Nat} (hF : 50 ≤ F) (mc mm : MM) (a0 a1 a2 : Int32) (R : RelX (XT F) mc mm) : ∃ r mc2 mm2, f_X5_chance F a0 a1 a2 mc = some (r, mc2) ∧ f_X6_chance F a0 a1 a2 mm = some (r, mm2) ∧ RelX (XT F) mc2 mm2 := by
  obtain ⟨A, n, r1, r2, V, r4, r5, r6, r7, r8⟩ := id R
  have e1 : (1 : Int32).toInt = 1 := rfl
  have e20 : (20 : Int32).toInt = 20 := rfl
  unfold f_X5_chance f_X6_chance
  rw [in_sp, bd1_s, l_i, show (1 : Int64).toInt = 1 from rfl, show (20 : Int64).toInt = 20 from rfl]
  simp only [i_lt, e1, e20]
  by_cases c : 1 ≤ a1.toInt ∧ a1.toInt ≤ 20
  · obtain ⟨k, hk, rfl⟩ := n_of (a := a1) (n := 21) (by omega) (by omega)
    rw [nI_toInt (by omega)] at c
    rw [if_neg (by rw [nI_toInt (by omega)]; omega), if_neg (by rw [nI_toInt (by omega)]; omega), show (if 1 ≤ (nI k).toInt ∧ (nI k).toInt ≤ 20 then (1 : Int32) else 0) = 1 from if_pos (by rw [nI_toInt (by omega)]; exact c), i_el]
    rcases a_cs a2 2 with ⟨w, hw, rfl⟩ | h
    · rw [show (2 : Int32) = nI 2 from rfl, wi_t hw (by omega), in_t hw (by omega) rfl, bd1_s, bd1_s, i_el, i_el]
      obtain ⟨h2, mc2, mm2, u1, u2, u3, u4⟩ := chance_L (F := F) hF V (n := k) (by omega) a0 (fun x4_3 x5_4 m5 => bd1 (f_X5_commonPart F x4_3 (nI k) m5) fun r13 => Jp (fun s15 => Gu (nz r13) <| some (Int32.toInt64 (s15 / r13), m5)) fun J16 => if nI w = 0 then J16 x4_3 else J16 (nI k)) (fun x4_5 x6_6 m7 => Lt (Int32.toInt64 (nI k)) fun x8_16 => f_X6_chance_L76 (fun x6_17 x8_18 => if nI w = 0 then Gu (nzL x6_17) <| some (x4_5 / x6_17, m7) else Gu (nzL x6_17) <| some ((Int32.toInt64 (nI k)) / x6_17, m7)) F x4_5 x8_16) k 0 F 0 mc mm (by omega) (by omega) (Nat.le_refl _) r1 r2 R
      obtain ⟨cc, gg, p1, p2, p3, p4, p5, p6⟩ := com_sp (h := h2) (n := k) (by omega) (by omega) u1
      have eC : f_X5_commonPart F (nI h2) (nI k) mc2 = some cc := by
        obtain ⟨F, rfl⟩ : ∃ z, F = z + 25 := ⟨F - 25, by omega⟩
        exact common_m 25 F (nI k) cc p1
      obtain ⟨zz, eM⟩ := gcd76 (K := fun x6_17 x8_18 => if nI w = 0 then Gu (nzL x6_17) <| some (Int32.toInt64 (nI h2) / x6_17, mm2) else Gu (nzL x6_17) <| some ((Int32.toInt64 (nI k)) / x6_17, mm2)) 25 _ _ gg p2 (F - 25)
      rw [show F - 25 + 25 = F by omega] at eM
      have u2' := u2
      have u3' := u3
      refine ⟨if nI w = 0 then Int32.toInt64 (nI h2) / gg else Int32.toInt64 (nI k) / gg, mc2, mm2, u2'.trans ?_, u3'.trans ?_, u4⟩
      · show (bd1 (f_X5_commonPart F (nI h2) (nI k) mc2) fun r13 => Jp (fun s15 => Gu (nz r13) <| some (Int32.toInt64 (s15 / r13), mc2)) fun J16 => if nI w = 0 then J16 (nI h2) else J16 (nI k)) = _
        rw [eC, bd1_s, Jp_d]
        by_cases cw : nI w = 0
        · rw [if_pos cw, if_pos cw]
          dsimp only
          rw [Gu_of p3, p5]
        · rw [if_neg cw, if_neg cw]
          dsimp only
          rw [Gu_of p3, p6]
      · refine Eq.trans eM ?_
        by_cases cw : nI w = 0
        · rw [if_pos cw, if_pos cw, Gu_of p4]
        · rw [if_neg cw, if_neg cw, Gu_of p4]
    · rw [show (2 : Int32) = nI 2 from rfl, wi_f h (by omega), in_f h rfl, bd1_s, bd1_s, i_if, i_if]
      exact ⟨_, _, _, rfl, rfl, R⟩
  · rw [if_neg c, i_if]
    by_cases c2 : a1.toInt < 1
    · rw [if_pos c2]
      exact ⟨_, _, _, rfl, rfl, R⟩
    · rw [if_neg c2, if_pos (by omega)]
      exact ⟨_, _, _, rfl, rfl, R⟩
