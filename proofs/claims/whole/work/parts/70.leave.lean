/-! LEAVE, ROOMY -/
theorem pr_th {P : Nat → (Nat → Int32) → Int32} {A : LT} {g w : Nat} : u_pr P (u_th A g w) = u_pr P A := rfl
theorem LM_g {m : MM} {A : LT} {g : Nat} (h6 : A 6 6 = 0) (L : LM m A) : LM (wI m 0 18 (nI g - 1)) (u_th A g 0) := by
  obtain ⟨l1, l2, l3, l4, l5, l6, l7, l8, l9⟩ := L
  refine ⟨(rI_nj (by decide)).trans l1, (rI_nj (by decide)).trans l2, (rI_nj (by decide)).trans l3, (rI_nj (by decide)).trans l4, (rI_nj (by decide)).trans l5, rI_eq, ?_, fun i hi => ?_, fun i hi => ?_⟩
  · rw [h6] at l7
    exact (rI_nj (by decide)).trans l7
  · have q := l8 i hi
    exact ⟨(rI_ne (by decide)).trans q.1, (rI_ne (by decide)).trans q.2⟩
  · have q := l9 i hi
    exact ⟨(rI_ne (by decide)).trans q.1, (rI_ne (by decide)).trans q.2.1, (rI_ne (by decide)).trans q.2.2.1, (rI_ne (by decide)).trans q.2.2.2⟩
theorem LM_w {m : MM} {A : LT} {w : Nat} (h5 : A 6 5 = 0) (L : LM m A) : LM (wI m 0 17 (nI w - 1)) (u_th A 0 w) := by
  obtain ⟨l1, l2, l3, l4, l5, l6, l7, l8, l9⟩ := L
  refine ⟨(rI_nj (by decide)).trans l1, (rI_nj (by decide)).trans l2, (rI_nj (by decide)).trans l3, (rI_nj (by decide)).trans l4, (rI_nj (by decide)).trans l5, ?_, rI_eq, fun i hi => ?_, fun i hi => ?_⟩
  · rw [h5] at l6
    exact (rI_nj (by decide)).trans l6
  · have q := l8 i hi
    exact ⟨(rI_ne (by decide)).trans q.1, (rI_ne (by decide)).trans q.2⟩
  · have q := l9 i hi
    exact ⟨(rI_ne (by decide)).trans q.1, (rI_ne (by decide)).trans q.2.1, (rI_ne (by decide)).trans q.2.2.1, (rI_ne (by decide)).trans q.2.2.2⟩
theorem leave_L {F : Nat} {P : Nat → (Nat → Int32) → Int32} {A : LT} (hF : 1000000000000 ≤ F) (p0 : P0 P) (V : AV A) : ∀ k t f y (l : Int32) mc mm, t + k = A 6 1 → k < f → y ≤ 320000 → LC mc 1 A → PC F P mc (A 6 4) → PX mc A (u_pr P A) → LM mm A → PM F P mm (A 6 4) → ∃ r mc2 mm2, f_X5_leave_L15 F (fun x1_6 x2_7 x3_8 m9 => some (x2_7, m9)) f (nI y - 1) l (nI t) mc = some (r, mc2) ∧ f_X6_leave_L18 F (fun x1_6 x2_7 x3_8 m9 => some (x2_7, m9)) f (nI (tM y)) l (nI t) mm = some (r, mm2) ∧ FX mc mc2 ∧ FY mm mm2 := by
  have b1 := V.1.1
  have b2 := V.1.2.1
  have b3 := V.1.2.2.1
  have b5 := V.1.2.2.2.2.1
  have hP := p5_le b2
  have FARd : FAR = 99999999 := rfl
  intro k
  induction k with
  | zero =>
    intro t f y l mc mm hk hf hy L1 pc X LMm pm
    obtain ⟨f, rfl⟩ : ∃ z, f = z + 1 := ⟨f - 1, by omega⟩
    have e8 : rI mc 1 8 = nI (A 6 1) := L1.2.1
    unfold f_X5_leave_L15 f_X6_leave_L18
    rw [e8, LMm.2.1, if_pos (by rw [n_le (by omega) (by omega)]; omega), if_pos (by rw [n_le (by omega) (by omega)]; omega)]
    exact ⟨_, _, _, rfl, rfl, FX_rf mc, FY_rf mm⟩
  | succ k ih =>
    intro t f y l mc mm hk hf hy L1 pc X LMm pm
    obtain ⟨f, rfl⟩ : ∃ z, f = z + 1 := ⟨f - 1, by omega⟩
    have ht : t < A 6 1 := by omega
    have e8 : rI mc 1 8 = nI (A 6 1) := L1.2.1
    have e9 : rI mc 1 9 = nI (A 6 2) - 1 := L1.2.2.1
    by_cases ck : A 6 2 = t + 1
    · obtain ⟨r, mc2, mm2, q1, q2, q3, q4⟩ := ih (t + 1) f y l mc mm (by omega) (by omega) hy L1 pc X LMm pm
      refine ⟨r, mc2, mm2, ?_, ?_, q3, q4⟩
      · rw [← q1]
        conv => lhs; unfold f_X5_leave_L15
        rw [e8, if_neg (n_head (n := 0) b2 ht), Jp_d, e9, if_pos (by rw [g_eq (by omega) (by omega)]; exact ck)]
        try dsimp only
        rw [if_pos rfl, Lt_d, n_s]
      · rw [← q2]
        conv => lhs; unfold f_X6_leave_L18
        rw [LMm.2.1, if_neg (n_head (n := 0) b2 ht), LMm.2.2.1, if_pos (by rw [g_eq (by omega) (by omega)]; exact ck), Lt_d, n_s]
    · have nk : ¬ nI t = nI (A 6 2) - 1 := by rw [g_eq (by omega) (by omega)]; exact ck
      obtain ⟨m1, fa, k1, k2, k3, k4, k5⟩ := leastC (F := F) (g := t + 1) (w := 0) (by omega) V (by omega) (Nat.zero_le _) (Or.inr (fun z => ck z.symm)) (fun k _ => pr_99 k) L1 X
      rw [n_p, show nI 0 - 1 = (-1 : Int32) by decide] at k1
      have hgk : u_th A (t + 1) 0 6 5 = 0 ∨ u_th A (t + 1) 0 6 5 ≠ u_th A (t + 1) 0 6 2 := Or.inr (fun z => ck z.symm)
      have B' := th_AB (g := t + 1) (w := 0) V.1 (by omega) (Nat.zero_le _)
      have hok := hm_ok V (g := t + 1) (w := 0) (by omega) (Nat.zero_le _)
      have Lg := LM_g (g := t + 1) V.2.2.2.2 LMm
      rw [n_p] at Lg
      have pmg : PM F P (wI mm 0 18 (nI t)) (u_th A (t + 1) 0 6 4) := PM_fr (row_ne (by decide)) (row_ne (by decide)) pm
      obtain ⟨n1, f1, g1, u1, u2, u3, u4⟩ := gath_sp (F := F) hF p0 pmg Lg B' V.2.1 hgk
      rw [pr_th] at u2
      have el := little_at B' hgk u2 hok.1 hok.2 k2
      have hx := k2.2.1 (u_hm (u_th A (t + 1) 0))
      generalize hxd : fa (u_hm (u_th A (t + 1) 0)) = x at *
      have hpsN := ps_N (s := u_hm (u_th A (t + 1) 0)) B'
      have hpsN' : ps (u_th A (t + 1) 0) (u_hm (u_th A (t + 1) 0)) < 5 ^ (A 6 1) := hpsN
      have e13 : rI n1 13 (ps (u_th A (t + 1) 0) (u_hm (u_th A (t + 1) 0))) = nI (tM x) := by
        rw [(u2.1.2.1 _ hpsN).2, el]
      have FYn : FY mm (wI n1 0 18 (-1)) := ⟨fun q h1 h2 => (row_ne h1).trans ((u3.1 q h1 h2).trans (row_ne h1)), fun i hi => by
        by_cases ci : i = 18
        · have := LMm.2.2.2.2.2.1
          rw [V.2.2.2.1] at this
          rw [ci, rI_eq, this]
          decide
        · rw [rI_nj ci, u3.2 i hi, rI_nj ci]⟩
      have LMn := LM_fy FYn LMm
      have pmn := PM_fy FYn pm
      have L1b := LC_fx k4 L1
      have pcb := PC_fx b5 k4 pc
      have tm := tM_lt (x := x) (by omega)
      have tmy := tM_lt (x := y) (by omega)
      have unfC : ∀ (Jc : Int32 → MM → Option (Int32 × MM)), (Jp Jc fun J13 => if nI t = nI (A 6 2) - 1 then J13 (-1 : Int32) mc else bd2 (f_X5_leastIf F (nI t) (-1 : Int32) mc) fun r26 m28 => J13 r26 m28) = Jc (nI x - 1) m1 := fun Jc => by
        rw [Jp_d, if_neg nk, k1, bd2_s]
      have unfM : f_X6_leave_L18 F (fun x1_6 x2_7 x3_8 m9 => some (x2_7, m9)) (f + 1) (nI (tM y)) l (nI t) mm = (Jp (fun s19 m20 => if nI (tM y) ≤ s19 then Lt (nI t + (1 : Int32)) fun x3_22 => f_X6_leave_L18 F (fun x1_6 x2_7 x3_8 m9 => some (x2_7, m9)) f (nI (tM y)) l x3_22 m20 else Lt (nI t + (1 : Int32)) fun x3_23 => f_X6_leave_L18 F (fun x1_6 x2_7 x3_8 m9 => some (x2_7, m9)) f s19 (nI t) x3_23 m20) fun J21 => if nI (tM x) < (99999999 : Int32) then Gu (inB (nI t) 5) <| bd2 (f_X6_says F (2 : Int32) (nI t) (rI (wI n1 0 18 (-1)) 8 (ix (nI t))) (0 : Int32) (wI n1 0 18 (-1))) fun r24 m26 => J21 (nI (tM x) + r24) m26 else J21 (99999999 : Int32) (wI n1 0 18 (-1))) := by
        conv => lhs; unfold f_X6_leave_L18
        rw [LMm.2.1, if_neg (n_head (n := 0) b2 ht), LMm.2.2.1, if_neg nk, Lt_d, u1, bd1_s, now_sp (by omega) B' u4, bd1_s, Gu_of (inB_n (by omega : ps (u_th A (t + 1) 0) (u_hm (u_th A (t + 1) 0)) < 3125) (by decide)), ix_n (by omega), e13, Lt_d, Lt_d]
      by_cases cx : x = 0
      · -- none leads there
        obtain ⟨r, mc2, mm2, q1, q2, q3, q4⟩ := ih (t + 1) f y l m1 (wI n1 0 18 (-1)) (by omega) (by omega) hy L1b pcb k5 LMn pmn
        refine ⟨r, mc2, mm2, ?_, ?_, FX_tr k4 q3, FY_tr FYn q4⟩
        · rw [← q1]
          conv => lhs; unfold f_X5_leave_L15
          rw [e8, if_neg (n_head (n := 0) b2 ht), e9]
          refine (unfC _).trans ?_
          try dsimp only
          rw [if_pos ((nJ_m1 (by omega)).mpr cx), Lt_d, n_s]
        · rw [← q2, unfM, Jp_d, if_neg (show ¬ nI (tM x) < (99999999 : Int32) by rw [show (99999999 : Int32) = nI FAR from rfl, n_lt (by omega) (by omega), tm.2]; exact fun z => z cx)]
          try dsimp only
          rw [if_pos (show nI (tM y) ≤ (99999999 : Int32) by rw [show (99999999 : Int32) = nI FAR from rfl, n_le (by omega) (by omega)]; exact tmy.1), Lt_d, n_s]
      · obtain ⟨m2, w1, w2⟩ := worthC (F := F) p0 pcb L1b V.1 ht
        have L2 := LC_fx (FX_fc w2) L1b
        have pc2 := PC_fx b5 (FX_fc w2) pcb
        obtain ⟨m3, w3, w4⟩ := worthC (F := F) p0 pc2 L2 V.1 ht
        have hxt : ix (nI t) = t := ix_n (by omega)
        have e8n : rI (wI n1 0 18 (-1)) 8 t = nI (A 5 t) := (LMn.2.2.2.2.2.2.2.2 t ht).2.2.2
        obtain ⟨n2, s1, s2⟩ := saysM2 (F := F) (f := A 5 t) p0 pmn LMn V.1 ht
        have hw := cl_le (P 2 (nmF (A 2 t) (A 5 t) 0 t (A 6 1) 0)) 999
        have hwe : u_sa P A 2 t (A 5 t) 0 ≤ 999 := hw
        generalize hwd : u_sa P A 2 t (A 5 t) 0 = wo at *
        obtain ⟨z, rfl⟩ : ∃ z, x = z + 1 := ⟨x - 1, by omega⟩
        have tz : tM (z + 1) = z := by
          unfold tM
          rw [if_neg (by omega), Nat.add_sub_cancel]
        have isl := isLess_sp (x := z + wo + 1) (y := y) (by omega) (by omega) m2
        have nzw : nI (z + 1) - 1 + nI wo = nI (z + wo + 1) - 1 := by rw [n_p, n_p, nI_add]
        have tyd : tM y = if y = 0 then FAR else y - 1 := rfl
        have X2 : PX m2 A (u_pr P A) := fun t a b h1 h2 h3 => (r_row (w2 31 (by decide) (by decide)) _).trans (k5 t a b h1 h2 h3)
        have X3 : PX m3 A (u_pr P A) := fun t a b h1 h2 h3 => (r_row (w4 31 (by decide) (by decide)) _).trans (X2 t a b h1 h2 h3)
        have unfC2 : f_X5_leave_L15 F (fun x1_6 x2_7 x3_8 m9 => some (x2_7, m9)) (f + 1) (nI y - 1) l (nI t) mc = if (z + wo + 1 ≠ 0 ∧ (y = 0 ∨ z + wo + 1 < y)) then f_X5_leave_L15 F (fun x1_6 x2_7 x3_8 m9 => some (x2_7, m9)) f (nI (z + wo + 1) - 1) (nI t) (nI (t + 1)) m3 else f_X5_leave_L15 F (fun x1_6 x2_7 x3_8 m9 => some (x2_7, m9)) f (nI y - 1) l (nI (t + 1)) m2 := by
          conv => lhs; unfold f_X5_leave_L15
          rw [e8, if_neg (n_head (n := 0) b2 ht), e9]
          refine (unfC _).trans ?_
          try dsimp only
          rw [if_neg (fun q => absurd ((nJ_m1 (by omega)).mp q) (by omega)), w1, bd2_s, nzw, isl, bd1_s]
          by_cases cc : z + wo + 1 ≠ 0 ∧ (y = 0 ∨ z + wo + 1 < y)
          · rw [if_pos cc, if_pos cc, i_el, w3, bd2_s, nzw, Lt_d, Lt_d, n_s]
          · rw [if_neg cc, if_neg cc, i_if, Lt_d, n_s]
        have unfM2 : f_X6_leave_L18 F (fun x1_6 x2_7 x3_8 m9 => some (x2_7, m9)) (f + 1) (nI (tM y)) l (nI t) mm = if tM y ≤ z + wo then f_X6_leave_L18 F (fun x1_6 x2_7 x3_8 m9 => some (x2_7, m9)) f (nI (tM y)) l (nI (t + 1)) n2 else f_X6_leave_L18 F (fun x1_6 x2_7 x3_8 m9 => some (x2_7, m9)) f (nI (z + wo)) (nI t) (nI (t + 1)) n2 := by
          rw [unfM, Jp_d, tz, if_pos (show nI z < (99999999 : Int32) by rw [show (99999999 : Int32) = nI FAR from rfl, n_lt (by omega) (by omega)]; omega), Gu_of (inB_n (by omega : t < 5) (by decide)), hxt, e8n, s1, bd2_s]
          try dsimp only
          rw [nI_add]
          simp only [n_le (show tM y < 2 ^ 31 by omega) (show z + wo < 2 ^ 31 by omega), Lt_d, n_s]
        rw [unfC2, unfM2]
        by_cases cc : z + wo + 1 ≠ 0 ∧ (y = 0 ∨ z + wo + 1 < y)
        · have nle : ¬ tM y ≤ z + wo := by
            rw [tyd]
            by_cases cy : y = 0
            · rw [if_pos cy]; omega
            · rw [if_neg cy]; omega
          rw [if_pos cc, if_neg nle]
          have L3 := LC_fx (FX_fc w4) L2
          have pc3 := PC_fx b5 (FX_fc w4) pc2
          obtain ⟨r, mc2, mm2, q1, q2, q3, q4⟩ := ih (t + 1) f (z + wo + 1) (nI t) m3 n2 (by omega) (by omega) (by omega) L3 pc3 X3 (LM_fn s2 LMn) (PM_fn s2 pmn)
          have tzw : tM (z + wo + 1) = z + wo := by
            unfold tM
            rw [if_neg (by omega), Nat.add_sub_cancel]
          rw [tzw] at q2
          exact ⟨r, mc2, mm2, q1, q2, FX_tr k4 (FX_tr (FX_fc w2) (FX_tr (FX_fc w4) q3)), FY_tr FYn (FY_tr (FY_fn s2) q4)⟩
        · have le : tM y ≤ z + wo := by
            rw [tyd]
            by_cases cy : y = 0
            · exact absurd ⟨by omega, Or.inl cy⟩ cc
            · rw [if_neg cy]
              have : ¬ z + wo + 1 < y := fun q => cc ⟨by omega, Or.inr q⟩
              omega
          rw [if_neg cc, if_pos le]
          obtain ⟨r, mc2, mm2, q1, q2, q3, q4⟩ := ih (t + 1) f y l m2 n2 (by omega) (by omega) hy L2 pc2 X2 (LM_fn s2 LMn) (PM_fn s2 pmn)
          exact ⟨r, mc2, mm2, q1, q2, FX_tr k4 (FX_tr (FX_fc w2) q3), FY_tr FYn (FY_tr (FY_fn s2) q4)⟩
theorem t_leave {F : Nat} (hF : 1000000000000 ≤ F) (mc mm : MM) (R : RelX (XT F) mc mm) : ∃ r mc2 mm2, f_X5_leave F mc = some (r, mc2) ∧ f_X6_leave F mm = some (r, mm2) ∧ RelX (XT F) mc2 mm2 := by
  obtain ⟨A, n, r1, r2, V, r4, r5, r6, r7, r8⟩ := id R
  obtain ⟨hi, P, p0, pc, pm⟩ := r7.2.2.2 (A 6 4) r4
  have hP := p5_le V.1.2.1
  have b2 := V.1.2.1
  unfold f_X5_leave f_X6_leave
  obtain ⟨m1, e1, e2, e3⟩ := ccosts_sp (F := F) (by omega) p0 pc r1 V.1
  have L1 := LC_fp e2 r1
  obtain ⟨m2, fa, k1, k2, k3, k4, k5⟩ := leastC (F := F) (g := 0) (w := 0) (by omega) V (Nat.zero_le _) (Nat.zero_le _) (Or.inl rfl) (fun k _ => pr_99 k) L1 e3
  rw [show nI 0 - 1 = (-1 : Int32) by decide, th_00 V] at k1
  rw [th_00 V] at k2
  have fx := FX_tr (FX_fp e2) k4
  obtain ⟨n1, f, g, g1, g2, g3, g4⟩ := gath_sp hF p0 pm r2 V.1 V.2.1 (Or.inl V.2.2.2.1)
  have hmo := hm_ok0 V
  have el := little_at V.1 (Or.inl V.2.2.2.1) g2 hmo.1 hmo.2 k2
  have hfa := k2.2.1 (u_hm A)
  have hpsN := ps_N (s := u_hm A) V.1
  have e13 : rI n1 13 (ps A (u_hm A)) = nI (tM (fa (u_hm A))) := by
    rw [(g2.1.2.1 _ hpsN).2, el]
  rw [e1, bd1_s, k1, bd2_s, g1, bd1_s, now_sp (by omega) V.1 g4, bd1_s, Gu_of (inB_n (by omega : ps A (u_hm A) < 3125) (by decide)), ix_n (by omega), e13, Lt_d]
  obtain ⟨r, mc2, mm2, q1, q2, q3, q4⟩ := leave_L (F := F) hF p0 V (A 6 1) 0 F (fa (u_hm A)) (-1) m2 n1 (by omega) (by omega) (by omega) (LC_fx fx r1) (PC_fx hi fx pc) k5 g4 (PM_fy g3 pm)
  exact ⟨r, mc2, mm2, q1, q2, Rel_fr (XF_T F) (KC_fx (FX_tr fx q3)) (KM_fy (FY_tr g3 q4)) R⟩
theorem roomy_L {F : Nat} {P : Nat → (Nat → Int32) → Int32} {A : LT} (hF : 1000000000000 ≤ F) (p0 : P0 P) (V : AV A) (a0 : Int32) : ∀ k t f y (l : Int32) mc mm, t + k = A 6 0 → k < f → y ≤ 320000 → (l = -1 ∨ y ≠ 0) → LC mc 1 A → PC F P mc (A 6 4) → PX mc A (u_pr P A) → LM mm A → PM F P mm (A 6 4) → ∃ r mc2 mm2, f_X5_roomy_L27 F (fun x2_8 x3_9 x4_10 m11 => if x3_9 = (-1 : Int32) then some ((-1 : Int32), m11) else if a0 = 0 then some (x3_9, m11) else some (x2_8, m11)) f (nI y - 1) l (nI t) mc = some (r, mc2) ∧ f_X6_roomy_L32 F (fun x2_8 x3_9 x4_10 m11 => if a0 = 0 then some (x3_9, m11) else if x3_9 = (-1 : Int32) then some (x3_9, m11) else some (x2_8, m11)) f (nI (tM y)) l (nI t) mm = some (r, mm2) ∧ FX mc mc2 ∧ FY mm mm2 := by
  have b1 := V.1.1
  have b2 := V.1.2.1
  have b5 := V.1.2.2.2.2.1
  have hP := p5_le b2
  have FARd : FAR = 99999999 := rfl
  intro k
  induction k with
  | zero =>
    intro t f y l mc mm hk hf hy hl L1 pc X LMm pm
    obtain ⟨f, rfl⟩ : ∃ z, f = z + 1 := ⟨f - 1, by omega⟩
    have e7 : rI mc 1 7 = nI (A 6 0) := L1.1
    unfold f_X5_roomy_L27 f_X6_roomy_L32
    have hle : nI (A 6 0) ≤ nI t := (n_le (by omega) (by omega)).mpr (by omega)
    rw [e7, LMm.1, if_pos hle, if_pos hle]
    by_cases c1 : l = -1
    · rw [if_pos c1, if_pos c1, c1]
      by_cases c2 : a0 = 0
      · rw [if_pos c2]
        exact ⟨_, _, _, rfl, rfl, FX_rf mc, FY_rf mm⟩
      · rw [if_neg c2]
        exact ⟨_, _, _, rfl, rfl, FX_rf mc, FY_rf mm⟩
    · rw [if_neg c1, if_neg c1]
      have hy0 : y ≠ 0 := by
        rcases hl with h | h
        · exact absurd h c1
        · exact h
      obtain ⟨z, rfl⟩ : ∃ z, y = z + 1 := ⟨y - 1, by omega⟩
      have tz : tM (z + 1) = z := by
        unfold tM
        rw [if_neg (by omega), Nat.add_sub_cancel]
      rw [tz, n_p]
      by_cases c2 : a0 = 0
      · rw [if_pos c2, if_pos c2]
        exact ⟨_, _, _, rfl, rfl, FX_rf mc, FY_rf mm⟩
      · rw [if_neg c2, if_neg c2]
        exact ⟨_, _, _, rfl, rfl, FX_rf mc, FY_rf mm⟩
  | succ k ih =>
    intro t f y l mc mm hk hf hy hl L1 pc X LMm pm
    obtain ⟨f, rfl⟩ : ∃ z, f = z + 1 := ⟨f - 1, by omega⟩
    have ht : t < A 6 0 := by omega
    have e7 : rI mc 1 7 = nI (A 6 0) := L1.1
    obtain ⟨m1, fa, k1, k2, k3, k4, k5⟩ := leastC (F := F) (g := 0) (w := t + 1) (by omega) V (Nat.zero_le _) (by omega) (Or.inl rfl) (fun k _ => pr_99 k) L1 X
    rw [n_p, show nI 0 - 1 = (-1 : Int32) by decide] at k1
    have hgk : u_th A 0 (t + 1) 6 5 = 0 ∨ u_th A 0 (t + 1) 6 5 ≠ u_th A 0 (t + 1) 6 2 := Or.inl rfl
    have B' := th_AB (g := 0) (w := t + 1) V.1 (Nat.zero_le _) (by omega)
    have hok := hm_ok V (g := 0) (w := t + 1) (Nat.zero_le _) (by omega)
    have Lg := LM_w (w := t + 1) V.2.2.2.1 LMm
    rw [n_p] at Lg
    have pmg : PM F P (wI mm 0 17 (nI t)) (u_th A 0 (t + 1) 6 4) := PM_fr (row_ne (by decide)) (row_ne (by decide)) pm
    obtain ⟨n1, f1, g1, u1, u2, u3, u4⟩ := gath_sp (F := F) hF p0 pmg Lg B' V.2.1 hgk
    rw [pr_th] at u2
    have el := little_at B' hgk u2 hok.1 hok.2 k2
    have hx := k2.2.1 (u_hm (u_th A 0 (t + 1)))
    generalize hxd : fa (u_hm (u_th A 0 (t + 1))) = x at *
    have hpsN := ps_N (s := u_hm (u_th A 0 (t + 1))) B'
    have hpe : ps A (u_hm A) = ps (u_th A 0 (t + 1)) (u_hm (u_th A 0 (t + 1))) := (ps_hm V.1).symm.trans (ps_hm B')
    have hpsN' : ps A (u_hm A) < 5 ^ (A 6 1) := ps_N V.1
    have FYn : FY mm (wI n1 0 17 (-1)) := ⟨fun q h1 h2 => (row_ne h1).trans ((u3.1 q h1 h2).trans (row_ne h1)), fun i hi => by
      by_cases ci : i = 17
      · have := LMm.2.2.2.2.2.2.1
        rw [V.2.2.2.2] at this
        rw [ci, rI_eq, this]
        decide
      · rw [rI_nj ci, u3.2 i hi, rI_nj ci]⟩
    have e13 : rI (wI n1 0 17 (-1)) 13 (ps A (u_hm A)) = nI (tM x) := by
      rw [rI_ne (by decide), hpe, (u2.1.2.1 _ hpsN).2, el]
    have LMn := LM_fy FYn LMm
    have pmn := PM_fy FYn pm
    have L1b := LC_fx k4 L1
    have pcb := PC_fx b5 k4 pc
    have tm := tM_lt (x := x) (by omega)
    have tmy := tM_lt (x := y) (by omega)
    have isl := isLess_sp (x := x) (y := y) (by omega) (by omega) m1
    have tyd : tM y = if y = 0 then FAR else y - 1 := rfl
    have txd : tM x = if x = 0 then FAR else x - 1 := rfl
    have unfC : f_X5_roomy_L27 F (fun x2_8 x3_9 x4_10 m11 => if x3_9 = (-1 : Int32) then some ((-1 : Int32), m11) else if a0 = 0 then some (x3_9, m11) else some (x2_8, m11)) (f + 1) (nI y - 1) l (nI t) mc = if (x ≠ 0 ∧ (y = 0 ∨ x < y)) then f_X5_roomy_L27 F (fun x2_8 x3_9 x4_10 m11 => if x3_9 = (-1 : Int32) then some ((-1 : Int32), m11) else if a0 = 0 then some (x3_9, m11) else some (x2_8, m11)) f (nI x - 1) (nI t) (nI (t + 1)) m1 else f_X5_roomy_L27 F (fun x2_8 x3_9 x4_10 m11 => if x3_9 = (-1 : Int32) then some ((-1 : Int32), m11) else if a0 = 0 then some (x3_9, m11) else some (x2_8, m11)) f (nI y - 1) l (nI (t + 1)) m1 := by
      conv => lhs; unfold f_X5_roomy_L27
      rw [e7, if_neg (n_head (n := 0) b1 ht), k1, bd2_s, isl, bd1_s]
      by_cases cc : x ≠ 0 ∧ (y = 0 ∨ x < y)
      · rw [if_pos cc, if_pos cc, i_el, Lt_d, n_s]
      · rw [if_neg cc, if_neg cc, i_if, Lt_d, n_s]
    have unfM : f_X6_roomy_L32 F (fun x2_8 x3_9 x4_10 m11 => if a0 = 0 then some (x3_9, m11) else if x3_9 = (-1 : Int32) then some (x3_9, m11) else some (x2_8, m11)) (f + 1) (nI (tM y)) l (nI t) mm = if tM y ≤ tM x then f_X6_roomy_L32 F (fun x2_8 x3_9 x4_10 m11 => if a0 = 0 then some (x3_9, m11) else if x3_9 = (-1 : Int32) then some (x3_9, m11) else some (x2_8, m11)) f (nI (tM y)) l (nI (t + 1)) (wI n1 0 17 (-1)) else f_X6_roomy_L32 F (fun x2_8 x3_9 x4_10 m11 => if a0 = 0 then some (x3_9, m11) else if x3_9 = (-1 : Int32) then some (x3_9, m11) else some (x2_8, m11)) f (nI (tM x)) (nI t) (nI (t + 1)) (wI n1 0 17 (-1)) := by
      conv => lhs; unfold f_X6_roomy_L32
      rw [LMm.1, if_neg (n_head (n := 0) b1 ht), Lt_d, u1, bd1_s, Lt_d, now_sp (by omega) V.1 LMn, bd1_s, Gu_of (inB_n (by omega : ps A (u_hm A) < 3125) (by decide)), ix_n (by omega), e13]
      simp only [n_le (show tM y < 2 ^ 31 by omega) (show tM x < 2 ^ 31 by omega), Lt_d, n_s]
    rw [unfC, unfM]
    by_cases cc : x ≠ 0 ∧ (y = 0 ∨ x < y)
    · have nle : ¬ tM y ≤ tM x := by
        rw [tyd, txd, if_neg cc.1]
        by_cases cy : y = 0
        · rw [if_pos cy]; omega
        · rw [if_neg cy]; omega
      rw [if_pos cc, if_neg nle]
      obtain ⟨r, mc2, mm2, q1, q2, q3, q4⟩ := ih (t + 1) f x (nI t) m1 _ (by omega) (by omega) (by omega) (Or.inr cc.1) L1b pcb k5 LMn pmn
      exact ⟨r, mc2, mm2, q1, q2, FX_tr k4 q3, FY_tr FYn q4⟩
    · have le : tM y ≤ tM x := by
        rw [tyd, txd]
        by_cases cx : x = 0
        · rw [if_pos cx]
          split <;> omega
        · by_cases cy : y = 0
          · exact absurd ⟨cx, Or.inl cy⟩ cc
          · rw [if_neg cy, if_neg cx]
            have : ¬ x < y := fun q => cc ⟨cx, Or.inr q⟩
            omega
      rw [if_neg cc, if_pos le]
      obtain ⟨r, mc2, mm2, q1, q2, q3, q4⟩ := ih (t + 1) f y l m1 _ (by omega) (by omega) hy hl L1b pcb k5 LMn pmn
      exact ⟨r, mc2, mm2, q1, q2, FX_tr k4 q3, FY_tr FYn q4⟩
theorem t_roomy {F : Nat} (hF : 1000000000000 ≤ F) (mc mm : MM) (a0 : Int32) (R : RelX (XT F) mc mm) : ∃ r mc2 mm2, f_X5_roomy F a0 mc = some (r, mc2) ∧ f_X6_roomy F a0 mm = some (r, mm2) ∧ RelX (XT F) mc2 mm2 := by
  obtain ⟨A, n, r1, r2, V, r4, r5, r6, r7, r8⟩ := id R
  obtain ⟨hi, P, p0, pc, pm⟩ := r7.2.2.2 (A 6 4) r4
  have hP := p5_le V.1.2.1
  have b1 := V.1.1
  unfold f_X5_roomy f_X6_roomy
  rcases a_cs a0 2 with ⟨w, hw, rfl⟩ | h
  · rw [show (2 : Int32) = nI 2 from rfl, wi_t hw (by omega), in_t hw (by omega) rfl, bd1_s, bd1_s, i_el, i_el]
    obtain ⟨m1, e1, e2, e3⟩ := ccosts_sp (F := F) (by omega) p0 pc r1 V.1
    have L1 := LC_fp e2 r1
    obtain ⟨m2, fa, k1, k2, k3, k4, k5⟩ := leastC (F := F) (g := 0) (w := 0) (by omega) V (Nat.zero_le _) (Nat.zero_le _) (Or.inl rfl) (fun k _ => pr_99 k) L1 e3
    rw [show nI 0 - 1 = (-1 : Int32) by decide, th_00 V] at k1
    rw [th_00 V] at k2
    have fx := FX_tr (FX_fp e2) k4
    obtain ⟨n1, f, g, g1, g2, g3, g4⟩ := gath_sp hF p0 pm r2 V.1 V.2.1 (Or.inl V.2.2.2.1)
    have hmo := hm_ok0 V
    have el := little_at V.1 (Or.inl V.2.2.2.1) g2 hmo.1 hmo.2 k2
    have hfa := k2.2.1 (u_hm A)
    have hpsN := ps_N (s := u_hm A) V.1
    have e13 : rI n1 13 (ps A (u_hm A)) = nI (tM (fa (u_hm A))) := by
      rw [(g2.1.2.1 _ hpsN).2, el]
    rw [e1, bd1_s, k1, bd2_s, g1, bd1_s, now_sp (by omega) V.1 g4, bd1_s, Gu_of (inB_n (by omega : ps A (u_hm A) < 3125) (by decide)), ix_n (by omega), e13, Lt_d]
    obtain ⟨r, mc2, mm2, q1, q2, q3, q4⟩ := roomy_L (F := F) hF p0 V (nI w) (A 6 0) 0 F (fa (u_hm A)) (-1) m2 n1 (by omega) (by omega) (by omega) (Or.inl rfl) (LC_fx fx r1) (PC_fx hi fx pc) k5 g4 (PM_fy g3 pm)
    exact ⟨r, mc2, mm2, q1, q2, Rel_fr (XF_T F) (KC_fx (FX_tr fx q3)) (KM_fy (FY_tr g3 q4)) R⟩
  · rw [show (2 : Int32) = nI 2 from rfl, wi_f h (by omega), in_f h rfl, bd1_s, bd1_s, i_if, i_if]
    exact ⟨_, _, _, rfl, rfl, R⟩
