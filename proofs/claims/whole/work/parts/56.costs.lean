/-! TEXTS IN USE: what a text tells, on both sides; COSTS, BELL, WORTH; ASKS, MOVE -/
def FC (m m2 : MM) : Prop := ∀ q, q ≠ 72 → ¬ (39 ≤ q ∧ q < 63 ∧ (q - 39) % 4 = 3) → m2.1 q = m.1 q
def FN (m m2 : MM) : Prop := (∀ q, q ≠ 0 → m2.1 q = m.1 q) ∧ ∀ i, i < 19 ∨ 33 < i → rI m2 0 i = rI m 0 i
def P0 (P : Nat → (Nat → Int32) → Int32) : Prop := ∀ w nm nm2, (∀ k, k < 6 → nm k = nm2 k) → P w nm = P w nm2
def PC (F : Nat) (P : Nat → (Nat → Int32) → Int32) (mc : MM) (i : Nat) : Prop := ∀ mc2 : MM, mc2.1 (39 + 4 * i) = mc.1 (39 + 4 * i) → mc2.1 (40 + 4 * i) = mc.1 (40 + 4 * i) → mc2.1 (41 + 4 * i) = mc.1 (41 + 4 * i) → ∀ w, w < 3 → ∃ mc3, f_X4_tells F (39 + 4 * i) (nI w) mc2 = some (P w (mc2.1 72), mc3) ∧ ∀ q, q ≠ 42 + 4 * i → mc3.1 q = mc2.1 q
def PM (F : Nat) (P : Nat → (Nat → Int32) → Int32) (mm : MM) (i : Nat) : Prop := ∀ mm2 : MM, (∀ j, j < 160 → rI mm2 1 (160 * i + j) = rI mm 1 (160 * i + j)) → rI mm2 2 i = rI mm 2 i → ∀ w, w < 3 → ∃ mm3, f_X6_read F (nI i) (nI w) mm2 = some (P w (fun k => rI mm2 0 (19 + k)), mm3) ∧ FN mm2 mm3
def XT (F : Nat) (mc mm : MM) (i : Nat) : Prop := i < 6 ∧ ∃ P, P0 P ∧ PC F P mc i ∧ PM F P mm i
theorem FC_rf (m : MM) : FC m m := fun _ _ _ => rfl
theorem FC_tr {a b c : MM} (h : FC a b) (g : FC b c) : FC a c := fun q h1 h2 => (g q h1 h2).trans (h q h1 h2)
theorem FN_rf (m : MM) : FN m m := ⟨fun _ _ => rfl, fun _ _ => rfl⟩
theorem FN_tr {a b c : MM} (h : FN a b) (g : FN b c) : FN a c := ⟨fun q hq => (g.1 q hq).trans (h.1 q hq), fun i hi => (g.2 i hi).trans (h.2 i hi)⟩
theorem PC_fr {F : Nat} {P : Nat → (Nat → Int32) → Int32} {mc mc2 : MM} {i : Nat} (h1 : mc2.1 (39 + 4 * i) = mc.1 (39 + 4 * i)) (h2 : mc2.1 (40 + 4 * i) = mc.1 (40 + 4 * i)) (h3 : mc2.1 (41 + 4 * i) = mc.1 (41 + 4 * i)) (p : PC F P mc i) : PC F P mc2 i := fun mc3 e1 e2 e3 => p mc3 (e1.trans h1) (e2.trans h2) (e3.trans h3)
theorem PC_fc {F : Nat} {P : Nat → (Nat → Int32) → Int32} {mc mc2 : MM} {i : Nat} (hi : i < 6) (h : FC mc mc2) (p : PC F P mc i) : PC F P mc2 i := PC_fr (h _ (by omega) (by omega)) (h _ (by omega) (by omega)) (h _ (by omega) (by omega)) p
theorem PM_fr {F : Nat} {P : Nat → (Nat → Int32) → Int32} {mm mm2 : MM} {i : Nat} (h1 : mm2.1 1 = mm.1 1) (h2 : mm2.1 2 = mm.1 2) (p : PM F P mm i) : PM F P mm2 i := fun mm3 e1 e2 => p mm3 (fun j hj => (e1 j hj).trans (congrFun h1 _)) (e2.trans (congrFun h2 _))
theorem PM_i {F : Nat} {P : Nat → (Nat → Int32) → Int32} {mm mm2 : MM} {i : Nat} (h1 : ∀ j, j < 160 → rI mm2 1 (160 * i + j) = rI mm 1 (160 * i + j)) (h2 : rI mm2 2 i = rI mm 2 i) (p : PM F P mm i) : PM F P mm2 i := fun mm3 e1 e2 => p mm3 (fun j hj => (e1 j hj).trans (h1 j hj)) (e2.trans h2)
theorem PM_fn {F : Nat} {P : Nat → (Nat → Int32) → Int32} {mm mm2 : MM} {i : Nat} (h : FN mm mm2) (p : PM F P mm i) : PM F P mm2 i := PM_fr (h.1 1 (by omega)) (h.1 2 (by omega)) p
theorem XF_T (F : Nat) : XF (XT F) := by
  intro mc mm mc2 mm2 i h g1 g2 hx
  obtain ⟨hi, P, p0, p1, p2⟩ := hx
  exact ⟨hi, P, p0, PC_fr (h _ (by omega) (by omega) (by omega)) (h _ (by omega) (by omega) (by omega)) (h _ (by omega) (by omega) (by omega)) p1, PM_fr g1 g2 p2⟩
theorem KC_fc {m m2 : MM} (h : FC m m2) : KC m m2 := by
  refine ⟨fun q hq => h q ?_ ?_, r_row (h 36 (by omega) (by omega)) 1⟩
  · rintro rfl
    revert hq
    decide
  · rintro ⟨h1, h2, h3⟩
    simp [kcB] at hq
    omega
theorem KM_fn {m m2 : MM} (h : FN m m2) : KM m m2 := by
  refine ⟨fun q hq => h.1 q ?_, fun i hi => h.2 i ?_⟩
  · rintro rfl
    revert hq
    decide
  · simp [kmS] at hi
    omega
def u_cl (v : Int32) (b : Nat) : Nat := if v.toInt < 0 then 0 else if v.toInt ≤ b then v.toInt.toNat else b
theorem cl_le (v : Int32) (b : Nat) : u_cl v b ≤ b := by
  unfold u_cl
  repeat' split
  all_goals omega
theorem t0i : (0 : Int32).toInt = 0 := rfl
theorem cl_C (v : Int32) {b : Nat} (hb : b < 2 ^ 31) : maxI 0 (minI v (nI b)) = nI (u_cl v b) := by
  unfold maxI minI u_cl
  simp only [i_lt, nI_toInt hb, t0i]
  by_cases c1 : v.toInt < 0
  · rw [if_neg (show ¬ (b : Int) < v.toInt by omega), if_neg (by omega), if_pos c1]
    rfl
  · rw [if_neg c1]
    by_cases c2 : v.toInt ≤ b
    · rw [if_pos c2, if_neg (show ¬ (b : Int) < v.toInt by omega)]
      have e : v = nI v.toInt.toNat := by
        rw [i_eq, nI_toInt (by omega)]
        omega
      by_cases c3 : 0 < v.toInt
      · rw [if_pos c3]
        exact e
      · rw [if_neg c3, show v.toInt.toNat = 0 by omega]
        rfl
    · rw [if_neg c2, if_pos (show (b : Int) < v.toInt by omega)]
      by_cases c3 : b = 0
      · subst c3
        rw [if_neg (by rw [nI_toInt hb]; omega)]
        rfl
      · rw [if_pos (by rw [nI_toInt hb]; omega)]
theorem cl_M (v : Int32) {b : Nat} (hb : b < 2 ^ 31) (m : MM) : f_X6_within v 0 (nI b) m = some (nI (u_cl v b)) := by
  unfold f_X6_within u_cl
  simp only [i_le, nI_toInt hb, t0i]
  by_cases c1 : v.toInt < 0
  · rw [if_neg (by omega), if_pos c1]
    rfl
  · rw [if_neg c1, if_pos (by omega)]
    by_cases c2 : v.toInt ≤ b
    · rw [if_pos c2, if_pos c2]
      congr 1
      rw [i_eq, nI_toInt (by omega)]
      omega
    · rw [if_neg c2, if_neg c2]
def nmF (a b c d e f : Nat) : Nat → Int32 := fun k => if k = 0 then nI a else if k = 1 then nI b else if k = 2 then nI c else if k = 3 then nI d else if k = 4 then nI e else nI f
def u_sa (P : Nat → (Nat → Int32) → Int32) (A : LT) (w t f h : Nat) : Nat := if w = 0 then u_cl (P 0 (nmF (A 2 t) f h t (A 6 1) (u_we (A 0 h)))) 99 else if w = 1 then u_cl (P 1 (nmF 0 0 0 0 (A 6 1) 0)) 9999 else u_cl (P 2 (nmF (A 2 t) f 0 t (A 6 1) 0)) 999
theorem nameC (a0 a1 a2 a3 a4 : Int32) (m : MM) : ∃ m2, f_X5_name a0 a1 a2 a3 a4 m = some m2 ∧ (∀ q, q ≠ 72 → m2.1 q = m.1 q) ∧ rI m2 72 0 = a0 ∧ rI m2 72 1 = a1 ∧ rI m2 72 2 = a2 ∧ rI m2 72 3 = a3 ∧ rI m2 72 4 = rI m 1 8 ∧ rI m2 72 5 = a4 := by
  have g0 : inB (0 : Int32) 6 = true := by decide
  have g1 : inB (1 : Int32) 6 = true := by decide
  have g2 : inB (2 : Int32) 6 = true := by decide
  have g3 : inB (3 : Int32) 6 = true := by decide
  have g4 : inB (4 : Int32) 6 = true := by decide
  have g5 : inB (5 : Int32) 6 = true := by decide
  have x0 : ix (0 : Int32) = 0 := rfl
  have x1 : ix (1 : Int32) = 1 := rfl
  have x2 : ix (2 : Int32) = 2 := rfl
  have x3 : ix (3 : Int32) = 3 := rfl
  have x4 : ix (4 : Int32) = 4 := rfl
  have x5 : ix (5 : Int32) = 5 := rfl
  unfold f_X5_name
  simp only [Gu_of g0, Gu_of g1, Gu_of g2, Gu_of g3, Gu_of g4, Gu_of g5, Lt_d, x0, x1, x2, x3, x4, x5]
  refine ⟨_, rfl, fun q hq => ?_, by simp [rI_w], by simp [rI_w], by simp [rI_w], by simp [rI_w], by simp [rI_w], by simp [rI_w]⟩
  repeat' first | exact rfl | refine row_c hq ?_
theorem tailC {F : Nat} {P : Nat → (Nat → Int32) → Int32} {mc m4 : MM} {i w b : Nat} {nm : Nat → Int32} (p0 : P0 P) (pc : PC F P mc i) (hi : i < 6) (hw : w < 3) (hb : b < 2 ^ 31) (h : ∀ q, q ≠ 72 → m4.1 q = mc.1 q) (hr : rI mc 1 11 = nI i) (hn : ∀ k, k < 6 → rI m4 72 k = nm k) : ∃ m8, (Gu (inB (rI m4 1 11) 6) <| bd2 (f_X4_tells F (39 + 4 * ix (rI m4 1 11)) (nI w) m4) fun r6 m8 => bd1 (f_X5_bounded r6 (nI b) m8) fun r9 => some (r9, m8)) = some (nI (u_cl (P w nm) b), m8) ∧ FC mc m8 := by
  have e : rI m4 1 11 = nI i := (r_row (h 1 (by decide)) 11).trans hr
  have hx : ix (nI i) = i := ix_n (by omega)
  rw [e, hx, Gu_of (inB_n hi (by decide))]
  obtain ⟨m3, e1, e2⟩ := pc m4 (h _ (by omega)) (h _ (by omega)) (h _ (by omega)) w hw
  rw [e1, bd2_s, p0 w (m4.1 72) nm hn]
  unfold f_X5_bounded
  rw [bd1_s, cl_C _ hb]
  exact ⟨m3, rfl, fun q h1 h2 => (e2 q (by omega)).trans (h q h1)⟩
theorem costsC {F : Nat} {P : Nat → (Nat → Int32) → Int32} {mc : MM} {A : LT} {t f h : Nat} (p0 : P0 P) (pc : PC F P mc (A 6 4)) (L : LC mc 1 A) (B : AB A) (ht : t < A 6 1) (hh : h < A 6 0) : ∃ mc2, f_X5_costs F (nI t) (nI f) (nI h) mc = some (nI (u_sa P A 0 t f h), mc2) ∧ FC mc mc2 := by
  have b2 := B.2.1
  have b5 := B.2.2.2.2.1
  have hx : ix (nI t) = t := ix_n (by omega)
  have hl := (L.2.2.2.2.2.2.2 t ht).1
  obtain ⟨m4, e1, e2, n0, n1, n2, n3, n4, n5⟩ := nameC (nI (A 2 t)) (nI f) (nI h) (nI t) (nI (u_we (A 0 h))) mc
  obtain ⟨m8, k1, k2⟩ := tailC (w := 0) (b := 99) (m4 := m4) (nm := nmF (A 2 t) f h t (A 6 1) (u_we (A 0 h))) p0 pc b5 (by omega) (by omega) e2 L.2.2.2.2.1 (fun k hk => by
    rcases (show k = 0 ∨ k = 1 ∨ k = 2 ∨ k = 3 ∨ k = 4 ∨ k = 5 by omega) with rfl | rfl | rfl | rfl | rfl | rfl
    · exact n0
    · exact n1
    · exact n2
    · exact n3
    · exact n4.trans L.2.1
    · exact n5)
  refine ⟨m8, ?_, k2⟩
  unfold f_X5_costs
  have e3 : rI mc 5 t = nI (A 2 t) := hl
  rw [Gu_of (inB_n (by omega : t < 5) (by decide)), wetC L B hh, bd1_s, hx, e3, e1, bd1_s]
  exact k1
theorem bellC {F : Nat} {P : Nat → (Nat → Int32) → Int32} {mc : MM} {A : LT} (p0 : P0 P) (pc : PC F P mc (A 6 4)) (L : LC mc 1 A) (B : AB A) : ∃ mc2, f_X5_bell F mc = some (nI (u_sa P A 1 0 0 0), mc2) ∧ FC mc mc2 := by
  have b5 := B.2.2.2.2.1
  obtain ⟨m4, e1, e2, n0, n1, n2, n3, n4, n5⟩ := nameC 0 0 0 0 0 mc
  obtain ⟨m8, k1, k2⟩ := tailC (w := 1) (b := 9999) (m4 := m4) (nm := nmF 0 0 0 0 (A 6 1) 0) p0 pc b5 (by omega) (by omega) e2 L.2.2.2.2.1 (fun k hk => by
    rcases (show k = 0 ∨ k = 1 ∨ k = 2 ∨ k = 3 ∨ k = 4 ∨ k = 5 by omega) with rfl | rfl | rfl | rfl | rfl | rfl
    · exact n0
    · exact n1
    · exact n2
    · exact n3
    · exact n4.trans L.2.1
    · exact n5)
  refine ⟨m8, ?_, k2⟩
  unfold f_X5_bell
  rw [e1, bd1_s]
  exact k1
theorem worthC {F : Nat} {P : Nat → (Nat → Int32) → Int32} {mc : MM} {A : LT} {t : Nat} (p0 : P0 P) (pc : PC F P mc (A 6 4)) (L : LC mc 1 A) (B : AB A) (ht : t < A 6 1) : ∃ mc2, f_X5_worth F (nI t) mc = some (nI (u_sa P A 2 t (A 5 t) 0), mc2) ∧ FC mc mc2 := by
  have b2 := B.2.1
  have b5 := B.2.2.2.2.1
  have hx : ix (nI t) = t := ix_n (by omega)
  have hl := L.2.2.2.2.2.2.2 t ht
  obtain ⟨m4, e1, e2, n0, n1, n2, n3, n4, n5⟩ := nameC (nI (A 2 t)) (nI (A 5 t)) 0 (nI t) 0 mc
  obtain ⟨m8, k1, k2⟩ := tailC (w := 2) (b := 999) (m4 := m4) (nm := nmF (A 2 t) (A 5 t) 0 t (A 6 1) 0) p0 pc b5 (by omega) (by omega) e2 L.2.2.2.2.1 (fun k hk => by
    rcases (show k = 0 ∨ k = 1 ∨ k = 2 ∨ k = 3 ∨ k = 4 ∨ k = 5 by omega) with rfl | rfl | rfl | rfl | rfl | rfl
    · exact n0
    · exact n1
    · exact n2
    · exact n3
    · exact n4.trans L.2.1
    · exact n5)
  refine ⟨m8, ?_, k2⟩
  unfold f_X5_worth
  have g := inB_n (by omega : t < 5) (by decide : 5 ≤ 2 ^ 31)
  have e3 : rI mc 5 t = nI (A 2 t) := hl.1
  have e4 : rI mc 8 t = nI (A 5 t) := hl.2.2.2
  rw [Gu_of g, Gu_of g, hx, e3, e4, e1, bd1_s]
  exact k1
theorem tailM {F : Nat} {P : Nat → (Nat → Int32) → Int32} {mm m4 : MM} {i w b : Nat} {nm : Nat → Int32} (p0 : P0 P) (pm : PM F P mm i) (hw : w < 3) (hb : b < 2 ^ 31) (h : FN mm m4) (hr : rI mm 0 4 = nI i) (hn : ∀ k, k < 6 → rI m4 0 (19 + k) = nm k) : ∃ m8, (bd2 (f_X6_read F (rI m4 0 4) (nI w) m4) fun r13 m15 => bd1 (f_X6_within r13 (0 : Int32) (nI b) m15) fun r18 => some (r18, m15)) = some (nI (u_cl (P w nm) b), m8) ∧ FN mm m8 := by
  have e : rI m4 0 4 = nI i := (h.2 4 (by omega)).trans hr
  obtain ⟨m3, e1, e2⟩ := pm m4 (fun j _ => congrFun (h.1 1 (by decide)) _) (congrFun (h.1 2 (by decide)) _) w hw
  rw [e, e1, bd2_s, p0 w (fun k => rI m4 0 (19 + k)) nm hn, cl_M _ hb, bd1_s]
  exact ⟨m3, rfl, FN_tr h e2⟩
theorem FN_w {m m2 : MM} {i : Nat} {v : Int32} (h1 : 19 ≤ i) (h2 : i ≤ 33) (h : FN m m2) : FN m (wI m2 0 i v) := ⟨fun q hq => (row_ne hq).trans (h.1 q hq), fun j hj => (rI_nj (by omega)).trans (h.2 j hj)⟩
theorem LM_fn {m m2 : MM} {A : LT} (h : FN m m2) (L : LM m A) : LM m2 A := LM_fr (fun q h1 h2 => h.1 q (by omega)) (fun i hi => h.2 i (by omega)) L
theorem saysM0 {F : Nat} {P : Nat → (Nat → Int32) → Int32} {mm : MM} {A : LT} {t f h : Nat} (p0 : P0 P) (pm : PM F P mm (A 6 4)) (L : LM mm A) (B : AB A) (ht : t < A 6 1) (hh : h < A 6 0) : ∃ mm2, f_X6_says F 0 (nI t) (nI f) (nI h) mm = some (nI (u_sa P A 0 t f h), mm2) ∧ FN mm mm2 := by
  have b2 := B.2.1
  have hx : ix (nI t) = t := ix_n (by omega)
  have e01 : ¬ (0 : Int32) = 1 := by decide
  have hl := (L.2.2.2.2.2.2.2.2 t ht).1
  unfold f_X6_says
  simp only [Jp_d, Lt_d, if_neg e01, i_if]
  rw [Gu_of (inB_n (by omega : t < 5) (by decide)), hx, hl]
  have f5 : FN mm (wI (wI (wI (wI mm 0 19 (nI (A 2 t))) 0 20 (nI f)) 0 21 (nI h)) 0 22 (nI t)) := FN_w (by omega) (by omega) (FN_w (by omega) (by omega) (FN_w (by omega) (by omega) (FN_w (by omega) (by omega) (FN_rf mm))))
  have e14 : rI (wI (wI (wI (wI mm 0 19 (nI (A 2 t))) 0 20 (nI f)) 0 21 (nI h)) 0 22 (nI t)) 0 14 = nI (A 6 1) := (f5.2 14 (by omega)).trans L.2.1
  rw [e14]
  have f6 := FN_w (i := 23) (v := nI (A 6 1)) (by omega) (by omega) f5
  rw [wetM (LM_fn f6 L) B hh, bd1_s]
  have f7 := FN_w (i := 24) (v := nI (u_we (A 0 h))) (by omega) (by omega) f6
  exact tailM (w := 0) (b := 99) (nm := nmF (A 2 t) f h t (A 6 1) (u_we (A 0 h))) p0 pm (by omega) (by omega) f7 L.2.2.2.2.1 (fun k hk => by
    rcases (show k = 0 ∨ k = 1 ∨ k = 2 ∨ k = 3 ∨ k = 4 ∨ k = 5 by omega) with rfl | rfl | rfl | rfl | rfl | rfl <;> simp [rI_w, nmF])
theorem saysM1 {F : Nat} {P : Nat → (Nat → Int32) → Int32} {mm : MM} {A : LT} (p0 : P0 P) (pm : PM F P mm (A 6 4)) (L : LM mm A) : ∃ mm2, f_X6_says F 1 0 0 0 mm = some (nI (u_sa P A 1 0 0 0), mm2) ∧ FN mm mm2 := by
  unfold f_X6_says
  simp only [Jp_d, Lt_d, i_el, if_pos]
  have f5 : FN mm (wI (wI (wI (wI mm 0 19 0) 0 20 0) 0 21 0) 0 22 0) := FN_w (by omega) (by omega) (FN_w (by omega) (by omega) (FN_w (by omega) (by omega) (FN_w (by omega) (by omega) (FN_rf mm))))
  have e14 : rI (wI (wI (wI (wI mm 0 19 0) 0 20 0) 0 21 0) 0 22 0) 0 14 = nI (A 6 1) := (f5.2 14 (by omega)).trans L.2.1
  rw [e14]
  have f6 := FN_w (i := 23) (v := nI (A 6 1)) (by omega) (by omega) f5
  have f7 := FN_w (i := 24) (v := 0) (by omega) (by omega) f6
  exact tailM (w := 1) (b := 9999) (nm := nmF 0 0 0 0 (A 6 1) 0) p0 pm (by omega) (by omega) f7 L.2.2.2.2.1 (fun k hk => by
    rcases (show k = 0 ∨ k = 1 ∨ k = 2 ∨ k = 3 ∨ k = 4 ∨ k = 5 by omega) with rfl | rfl | rfl | rfl | rfl | rfl <;> simp [rI_w, nmF] <;> rfl)
theorem saysM2 {F : Nat} {P : Nat → (Nat → Int32) → Int32} {mm : MM} {A : LT} {t f : Nat} (p0 : P0 P) (pm : PM F P mm (A 6 4)) (L : LM mm A) (B : AB A) (ht : t < A 6 1) : ∃ mm2, f_X6_says F 2 (nI t) (nI f) 0 mm = some (nI (u_sa P A 2 t f 0), mm2) ∧ FN mm mm2 := by
  have b2 := B.2.1
  have hx : ix (nI t) = t := ix_n (by omega)
  have e01 : ¬ (2 : Int32) = 1 := by decide
  have e02 : ¬ (2 : Int32) = 0 := by decide
  have hl := (L.2.2.2.2.2.2.2.2 t ht).1
  unfold f_X6_says
  simp only [Jp_d, Lt_d, if_neg e01, if_neg e02]
  rw [Gu_of (inB_n (by omega : t < 5) (by decide)), hx, hl]
  have f5 : FN mm (wI (wI (wI (wI mm 0 19 (nI (A 2 t))) 0 20 (nI f)) 0 21 0) 0 22 (nI t)) := FN_w (by omega) (by omega) (FN_w (by omega) (by omega) (FN_w (by omega) (by omega) (FN_w (by omega) (by omega) (FN_rf mm))))
  have e14 : rI (wI (wI (wI (wI mm 0 19 (nI (A 2 t))) 0 20 (nI f)) 0 21 0) 0 22 (nI t)) 0 14 = nI (A 6 1) := (f5.2 14 (by omega)).trans L.2.1
  rw [e14]
  have f6 := FN_w (i := 23) (v := nI (A 6 1)) (by omega) (by omega) f5
  have f7 := FN_w (i := 24) (v := 0) (by omega) (by omega) f6
  exact tailM (w := 2) (b := 999) (nm := nmF (A 2 t) f 0 t (A 6 1) 0) p0 pm (by omega) (by omega) f7 L.2.2.2.2.1 (fun k hk => by
    rcases (show k = 0 ∨ k = 1 ∨ k = 2 ∨ k = 3 ∨ k = 4 ∨ k = 5 by omega) with rfl | rfl | rfl | rfl | rfl | rfl <;> simp [rI_w, nmF] <;> rfl)
theorem t_asks {F : Nat} (mc mm : MM) (a0 a1 a2 : Int32) (R : RelX (XT F) mc mm) : ∃ r mc2 mm2, f_X5_asks F a0 a1 a2 mc = some (r, mc2) ∧ f_X6_asks F a0 a1 a2 mm = some (r, mm2) ∧ RelX (XT F) mc2 mm2 := by
  obtain ⟨A, n, r1, r2, r3, r4, r5, r6, r7, r8⟩ := id R
  have B := r3.1
  obtain ⟨b1, b2, b3, b4, b5, b6, b7, b8, b9⟩ := id B
  obtain ⟨hi, P, p0, pc, pm⟩ := r7.2.2.2 (A 6 4) r4
  have fin : ∀ {mc2 mm2 : MM}, FC mc mc2 → FN mm mm2 → RelX (XT F) mc2 mm2 := fun h1 h2 => Rel_fr (XF_T F) (KC_fc h1) (KM_fn h2) R
  have e01 : ¬ (0 : Int32) = 1 := by decide
  have e02 : ¬ (0 : Int32) = 2 := by decide
  have e12 : ¬ (1 : Int32) = 2 := by decide
  have e20 : ¬ (2 : Int32) = 0 := by decide
  have e21 : ¬ (2 : Int32) = 1 := by decide
  unfold f_X5_asks f_X6_asks
  simp only [Jp_d]
  rcases a_cs a0 3 with ⟨w, hw, rfl⟩ | h
  · rw [in_t hw (by omega) rfl, bd1_s, i_el]
    rcases (show w = 0 ∨ w = 1 ∨ w = 2 by omega) with rfl | rfl | rfl
    · rw [show nI 0 = (0 : Int32) from rfl]
      simp only [i_if, if_neg e01, if_neg e02]
      rcases a_cs a1 (A 6 1) with ⟨t, ht, rfl⟩ | h
      · rw [htC r1.2.1 b2 ht, htM r2.2.1 b2 ht, bd1_s, bd1_s, i_el, i_el]
        rcases a_cs a2 (A 6 0) with ⟨h, hh, rfl⟩ | h
        · have hx : ix (nI t) = t := ix_n (by omega)
          have g := inB_n (by omega : t < 5) (by decide : 5 ≤ 2 ^ 31)
          have e5 : rI mc 8 t = nI (A 5 t) := (r1.2.2.2.2.2.2.2 t ht).2.2.2
          have e6 : rI mm 8 t = nI (A 5 t) := (r2.2.2.2.2.2.2.2.2 t ht).2.2.2
          obtain ⟨mc2, k1, k2⟩ := costsC (f := A 5 t) p0 pc r1 B ht hh
          obtain ⟨mm2, k3, k4⟩ := saysM0 (f := A 5 t) p0 pm r2 B ht hh
          rw [hhC r1.1 b1 hh, hhM r2.1 b1 hh, bd1_s, bd1_s, i_el, i_el, Gu_of g, Gu_of g, hx, e5, e6, k1, k3, bd2_s, bd2_s]
          exact ⟨_, _, _, rfl, rfl, fin k2 k4⟩
        · rw [hhC0 r1.1 b1 h, hhM0 r2.1 b1 h, bd1_s, bd1_s, i_if, i_if]
          exact ⟨_, _, _, rfl, rfl, R⟩
      · rw [htC0 r1.2.1 b2 h, htM0 r2.2.1 b2 h, bd1_s, bd1_s, i_if, i_if]
        exact ⟨_, _, _, rfl, rfl, R⟩
    · rw [show nI 1 = (1 : Int32) from rfl]
      obtain ⟨mc2, k1, k2⟩ := bellC p0 pc r1 B
      obtain ⟨mm2, k3, k4⟩ := saysM1 p0 pm r2
      simp only [i_el, if_pos]
      rw [k1, k3, bd2_s, bd2_s]
      exact ⟨_, _, _, rfl, rfl, fin k2 k4⟩
    · rw [show nI 2 = (2 : Int32) from rfl]
      simp only [if_neg e20, if_neg e21, if_pos]
      rcases a_cs a1 (A 6 1) with ⟨t, ht, rfl⟩ | h
      · rw [htC r1.2.1 b2 ht, htM r2.2.1 b2 ht, bd1_s, bd1_s, i_el, i_el]
        have hx : ix (nI t) = t := ix_n (by omega)
        have g := inB_n (by omega : t < 5) (by decide : 5 ≤ 2 ^ 31)
        have e6 : rI mm 8 t = nI (A 5 t) := (r2.2.2.2.2.2.2.2.2 t ht).2.2.2
        obtain ⟨mc2, k1, k2⟩ := worthC p0 pc r1 B ht
        obtain ⟨mm2, k3, k4⟩ := saysM2 (f := A 5 t) p0 pm r2 B ht
        rw [Gu_of g, hx, e6, k1, k3, bd2_s, bd2_s]
        exact ⟨_, _, _, rfl, rfl, fin k2 k4⟩
      · rw [htC0 r1.2.1 b2 h, htM0 r2.2.1 b2 h, bd1_s, bd1_s, i_if, i_if]
        exact ⟨_, _, _, rfl, rfl, R⟩
  · rw [in_f h rfl, bd1_s, i_if]
    have e : ∀ k, k < 3 → ¬ a0 = nI k := fun k hk z => h (by rw [z, nI_toInt (by omega)]; omega)
    rw [if_neg (show ¬ a0 = 0 from e 0 (by decide)), if_neg (show ¬ a0 = 1 from e 1 (by decide)), if_neg (show ¬ a0 = 2 from e 2 (by decide))]
    exact ⟨_, _, _, rfl, rfl, R⟩
