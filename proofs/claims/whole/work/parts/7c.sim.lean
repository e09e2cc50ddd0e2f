/-! THE SIMULATION of the component's reading and the model's -/
def PRE (B : Nat → Nat) (n k : Nat) (mc : MM) (cs : List Nat) (t v p j : Nat) : Prop := CTX mc B n ∧ rI mc 36 6 = nI k ∧ CPX mc t v p j ∧ TKX n t v p j ∧ CCX mc k cs
def nmM (m : MM) : Nat → Int32 := fun i => if i < 6 then rI m 0 (19 + i) else 0
theorem nmM_f {m m2 : MM} (h : FMX m m2) : nmM m2 = nmM m := by
  funext i
  unfold nmM
  by_cases c : i < 6
  · rw [if_pos c, if_pos c]
    exact h.2 _ (by omega)
  · rw [if_neg c, if_neg c]
def SUC (f : MM → Option (Int32 × MM)) (B : Nat → Nat) (n k o : Nat) (cs : List Nat) (t v p j : Nat) (mc2 : MM) (h : Nat) : Prop := ∃ L t2 v2 p2 j2, PRE B n k mc2 (cs ++ L) t2 v2 p2 j2 ∧ p + L.length ≤ p2 ∧ ∀ mm fr, OKM B n o t v p j fr mm → ∃ x mm2, f mm = some (x, mm2) ∧ FMX mm mm2 ∧ OKM B n o t2 v2 p2 j2 fr mm2 ∧ EVX (nmM mm) L x h
def FAI (f : MM → Option (Int32 × MM)) (B : Nat → Nat) (n o t v p j : Nat) (mc2 : MM) : Prop := ∃ p2, p2 ≤ n ∧ rI mc2 36 4 = nI p2 ∧ ∀ mm fr, OKM B n o t v p j fr mm → ∃ x mm2, f mm = some (x, mm2) ∧ FMX mm mm2 ∧ rI mm2 0 32 = 1 ∧ rI mm2 0 33 = nI p2
def OUT (f : MM → Option (Int32 × MM)) (B : Nat → Nat) (n k o : Nat) (cs : List Nat) (t v p j : Nat) (mc : MM) (r : Int32) (mc2 : MM) (h : Nat) : Prop := FC3 k mc mc2 ∧ ((r = 1 ∧ SUC f B n k o cs t v p j mc2 h) ∨ (r = 0 ∧ FAI f B n o t v p j mc2))
def SIMG (R : Nat → MM → Option (Int32 × MM)) (D h o : Nat) (f : MM → Option (Int32 × MM)) : Prop := ∀ B n k mc cs t v p j d, BT B n → KTX k → D ≤ d → PRE B n k mc cs t v p j → cs.length ≤ p → ∃ r mc2, R d mc = some (r, mc2) ∧ OUT f B n k o cs t v p j mc r mc2 h
theorem CC_f {k : Nat} {m m2 : MM} {cs : List Nat} (h1 : m2.1 k = m.1 k) (h2 : m2.1 (k + 1) = m.1 (k + 1)) (c : CCX m k cs) : CCX m2 k cs := ⟨(r_row h1 3).trans c.1, fun i x hx => (r_row h2 i).trans (c.2 i x hx)⟩
theorem adv_pre {F : Nat} {B : Nat → Nat} {n k : Nat} {mc : MM} {cs : List Nat} {t v p j : Nat} (hF : 1000 ≤ F) (hB : BT B n) (hk : KTX k) (h : PRE B n k mc cs t v p j) : ∃ t2 v2 p2 j2 mc1, f_X3_advance F mc = some mc1 ∧ FC3 k mc mc1 ∧ PRE B n k mc1 cs t2 v2 p2 j2 ∧ j ≤ p2 ∧ ∀ mm fr o, t ≠ 3 → OKM B n o t v p j fr mm → ∃ mm1, f_X6_next F mm = some mm1 ∧ FMX mm mm1 ∧ OKM B n o t2 v2 p2 j2 fr mm1 := by
  have h39 := KT_39 hk
  obtain ⟨t2, v2, p2, j2, a1, a2, a3, a4⟩ := adv (F := F) hF hB h.2.2.2.1.2.1
  obtain ⟨mc1, b1, b2, b3⟩ := a3 mc h.1 h.2.2.1.2.2.1
  refine ⟨t2, v2, p2, j2, mc1, b1, FC3_q hk b2, ⟨CT_q b2 h.1, (b2.2 6 (Or.inr rfl)).trans h.2.1, b3, a1, CC_f (b2.1 k (by omega)) (b2.1 (k + 1) (by omega)) h.2.2.2.2⟩, a2, fun mm fr o h3 hm => ?_⟩
  obtain ⟨m1, m2, m3, m4, m5⟩ := hm
  obtain ⟨mm1, c1, c2, c3⟩ := a4 mm fr m1 m2 (m5.1 h3)
  exact ⟨mm1, c1, FMX_q c2, m1, MT_q c2 m2, (c2.2 31 (by omega)).trans m3, (c2.2 32 (by omega)).trans m4, c3⟩
theorem pre_add {B : Nat → Nat} {n k : Nat} {mc : MM} {cs : List Nat} {t v p j x : Nat} (hk : KTX k) (h : PRE B n k mc cs t v p j) (hl : cs.length < 160) : ∃ mc1, f_X4_add k (nI x) mc = some mc1 ∧ FC3 k mc mc1 ∧ PRE B n k mc1 (cs ++ [x]) t v p j := by
  have h39 := KT_39 hk
  obtain ⟨m1, e1, e2, e3, e4⟩ := add_sp (x := x) hk h.2.2.2.2 hl
  have r36 : ∀ i, rI m1 36 i = rI mc 36 i := fun i => r_row (e2 36 (by omega) (by omega)) i
  refine ⟨m1, e1, ⟨fun q _ h2 h3 => e2 q h2 h3, fun i _ => r36 i, e3⟩, ⟨(r36 1).trans h.1.1, fun i hi => (r_row (e2 37 (by omega) (by omega)) i).trans (h.1.2 i hi)⟩, (r36 6).trans h.2.1, ⟨(r36 3).trans h.2.2.1.1, (r36 4).trans h.2.2.1.2.1, (r36 2).trans h.2.2.1.2.2.1, fun z => (r36 5).trans (h.2.2.1.2.2.2 z)⟩, h.2.2.2.1, e4⟩
theorem OKM_31 {B : Nat → Nat} {n o o2 t v p j fr : Nat} {m : MM} (h : OKM B n o t v p j fr m) : OKM B n o2 t v p j fr (wI m 0 31 (nI o2)) := by
  obtain ⟨m1, m2, m3, m4, m5, m6, m7⟩ := h
  refine ⟨m1, MT_f (FMX_w (by decide) (by decide) (FMX_rf m)) m2, rI_eq, (rI_nj (by decide)).trans m4, fun z => (rI_nj (by decide)).trans (m5 z), (rI_nj (by decide)).trans m6, ?_⟩
  rw [rI_nj (by decide), rI_nj (by decide)]
  exact m7
theorem opens_ok {F : Nat} {B : Nat → Nat} {n o t v p j fr : Nat} {m : MM} (h : OKM B n o t v p j fr m) (ho : o < 5) : f_X6_opens F m = bd1 (f_X6_next F (wI m 0 31 (nI (o + 1)))) fun m5 => some ((1 : Int32), m5) := by
  unfold f_X6_opens
  rw [h.2.2.1, if_neg (by rw [show (5 : Int32) = nI 5 from rfl, n_eq (by omega) (by omega)]; omega), n_s, Lt_d]
theorem opens_no {F : Nat} {B : Nat → Nat} {n t v p j fr : Nat} {m : MM} (h : OKM B n 5 t v p j fr m) : f_X6_opens F m = bd1 (f_X6_fail m) fun m2 => some ((0 : Int32), m2) := by
  unfold f_X6_opens
  rw [h.2.2.1, if_pos (show nI 5 = (5 : Int32) from rfl)]
theorem toI_lN {v : Nat} (h : v < 2 ^ 31) : Int64.toInt32 (lN v) = nI v := Int64.toInt32_ofNat
theorem kind_sp {B : Nat → Nat} {n o t v p j fr : Nat} {m : MM} (h : OKM B n o t v p j fr m) : (t = 4 → rI m 0 28 = 2 ∧ rL m 0 30 = lN v) ∧ (t ≠ 4 → rI m 0 28 ≠ 2) ∧ (t = 5 → rI m 0 28 = 1) := by
  rcases h.2.2.2.2.2.2 with ⟨e, k⟩ | ⟨e, k, l⟩ | ⟨e, k, l⟩ | ⟨e, k⟩ | ⟨k, _, _, w⟩
  · exact ⟨fun z => by omega, fun _ => by rw [k]; decide, fun z => by omega⟩
  · exact ⟨fun z => ⟨k, l⟩, fun z => absurd e z, fun z => by omega⟩
  · have := SG_40 e
    exact ⟨fun z => by omega, fun _ => by rw [k]; decide, fun z => by omega⟩
  · exact ⟨fun z => by omega, fun _ => by rw [k]; decide, fun z => by omega⟩
  · have := WT_11 w
    exact ⟨fun z => by omega, fun _ => by rw [k]; decide, fun z => k⟩
/-- the model's forms -/
def atomG (F : Nat) (PA NE : MM → Option (Int32 × MM)) (m : MM) : Option (Int32 × MM) := bd1 (f_X6_isSign (45 : Int32) m) fun r1 => if r1 = 0 then bd1 (f_X6_isSign (40 : Int32) m) fun r3 => if r3 = 0 then Jp (Jp (bd1 (f_X6_fail m) fun m8 => some ((0 : Int32), m8)) fun J6 => if (rI m 0 32) = 0 then if (rI m 0 28) = (1 : Int32) then bd2 (f_X6_name m) fun r9 m11 => if (rI m11 0 32) = 0 then bd1 (f_X6_next F m11) fun m13 => some (r9, m13) else some (r9, m11) else J6 else J6) fun J5 => if (rI m 0 32) = 0 then if (rI m 0 28) = (2 : Int32) then Lt (Int64.toInt32 (rL m 0 30)) fun x1_14 => bd1 (f_X6_next F m) fun m16 => some (x1_14, m16) else J5 else J5 else PA m else NE m
def parG (F : Nat) (fe : MM → Option (Int32 × MM)) (m : MM) : Option (Int32 × MM) := bd2 (f_X6_opens F m) fun r17 m19 => if r17 = 0 then some ((0 : Int32), m19) else bd2 (fe m19) fun r20 m22 => bd1 (f_X6_isSign (41 : Int32) m22) fun r23 => Jp (fun m25 => Lt (wI m25 0 31 ((rI m25 0 31) - (1 : Int32))) fun m27 => if (rI m27 0 32) = 0 then bd1 (f_X6_next F m27) fun m29 => some (r20, m29) else some (r20, m27)) fun J26 => if r23 = 0 then bd1 (f_X6_fail m22) fun m31 => J26 m31 else J26 m22
def negG (F : Nat) (fa : MM → Option (Int32 × MM)) (m : MM) : Option (Int32 × MM) := bd2 (f_X6_opens F m) fun r32 m34 => if r32 = 0 then some ((0 : Int32), m34) else bd2 (fa m34) fun r35 m37 => Lt (wI m37 0 31 ((rI m37 0 31) - (1 : Int32))) fun m38 => some (-r35, m38)
def shut (F : Nat) (m : MM) : Option (Int32 × MM) := bd2 (f_X6_opens F m) fun r17 m19 => some ((0 : Int32), m19)
theorem shut_fai {F : Nat} {B : Nat → Nat} {n t v p j : Nat} {mc : MM} (hp : p ≤ n) (h4 : rI mc 36 4 = nI p) : FAI (shut F) B n 5 t v p j mc := ⟨p, hp, h4, fun mm fr hm => by
  obtain ⟨m2, e1, e2, e3, e4⟩ := fail_ok hm
  refine ⟨0, m2, ?_, e2, e3, e4⟩
  unfold shut
  rw [opens_no hm, e1, bd1_s, bd2_s]⟩
theorem atom_45 {F : Nat} {PA NE : MM → Option (Int32 × MM)} {B : Nat → Nat} {n o v p j fr : Nat} {m : MM} (h : OKM B n o 45 v p j fr m) : atomG F PA NE m = NE m := by
  unfold atomG
  rw [show (45 : Int32) = nI 45 from rfl, sign_sp h (by unfold SG; omega), if_pos rfl, bd1_s, i_el]
theorem atom_40 {F : Nat} {PA NE : MM → Option (Int32 × MM)} {B : Nat → Nat} {n o v p j fr : Nat} {m : MM} (h : OKM B n o 40 v p j fr m) : atomG F PA NE m = PA m := by
  unfold atomG
  rw [show (45 : Int32) = nI 45 from rfl, show (40 : Int32) = nI 40 from rfl, sign_sp h (by unfold SG; omega), if_neg (by omega), bd1_s, i_if, sign_sp h (by unfold SG; omega), if_pos rfl, bd1_s, i_el]
theorem atom_leaf {F : Nat} {PA NE : MM → Option (Int32 × MM)} {B : Nat → Nat} {n o t v p j fr : Nat} {m : MM} (h : OKM B n o t v p j fr m) (h1 : t ≠ 45) (h2 : t ≠ 40) : atomG F PA NE m = Jp (Jp (bd1 (f_X6_fail m) fun m8 => some ((0 : Int32), m8)) fun J6 => if (rI m 0 28) = (1 : Int32) then bd2 (f_X6_name m) fun r9 m11 => if (rI m11 0 32) = 0 then bd1 (f_X6_next F m11) fun m13 => some (r9, m13) else some (r9, m11) else J6) fun J5 => if (rI m 0 28) = (2 : Int32) then Lt (Int64.toInt32 (rL m 0 30)) fun x1_14 => bd1 (f_X6_next F m) fun m16 => some (x1_14, m16) else J5 := by
  have hb := h.2.2.2.1
  unfold atomG
  rw [show (45 : Int32) = nI 45 from rfl, show (40 : Int32) = nI 40 from rfl, sign_sp h (by unfold SG; omega), if_neg h1, bd1_s, i_if, sign_sp h (by unfold SG; omega), if_neg h2, bd1_s, i_if]
  simp only [Jp_d, hb, if_true]
theorem leaf_no {F : Nat} {PA NE : MM → Option (Int32 × MM)} {B : Nat → Nat} {n o t v p j : Nat} {mc : MM} (hB : BT B n) (hT : TKX n t v p j) (h4 : rI mc 36 4 = nI p) (h1 : t ≠ 45) (h2 : t ≠ 40) (h3 : t ≠ 4) (h5 : t ≠ 5) : FAI (atomG F PA NE) B n o t v p j mc := ⟨p, Nat.le_trans hT.1 hT.2.1, h4, fun mm fr hm => by
  obtain ⟨m2, e1, e2, e3, e4⟩ := fail_ok hm
  obtain ⟨k1, k2, k3⟩ := kind_sp hm
  refine ⟨0, m2, ?_, e2, e3, e4⟩
  rw [atom_leaf hm h1 h2]
  simp only [Jp_d]
  rw [if_neg (k2 h3), e1, bd1_s]
  by_cases c : rI mm 0 28 = 1
  · rw [if_pos c, (name_sp hB hT hm c).2 h5, e1, bd1_s, bd2_s, e3, i_el]
  · rw [if_neg c]⟩
theorem leaf_ok {F : Nat} {PA NE : MM → Option (Int32 × MM)} {B : Nat → Nat} {n k o t v p j : Nat} {mc : MM} {cs : List Nat} (hF : 1000 ≤ F) (hB : BT B n) (hk : KTX k) (h : PRE B n k mc cs t v p j) (hl : cs.length ≤ p) (ht : t = 4 ∨ t = 5) (rec0 : Int32 → Int32 → MM → Option (Int32 × MM)) (rec1 : Int32 → MM → Option (Int32 × MM)) (a0 : Int32) : ∃ mc2, fb_X3_one F rec0 rec1 a0 mc = some (1, mc2) ∧ FC3 k mc mc2 ∧ SUC (atomG F PA NE) B n k o cs t v p j mc2 1 := by
  have hn := hB.1
  have hT := h.2.2.2.1
  have hpj := hT.2.2.1 (by omega)
  have hjn := hT.2.1
  have e3 : rI mc 36 3 = nI t := h.2.2.1.1
  have e5 : rI mc 36 5 = nI v := h.2.2.1.2.2.2 ht
  obtain ⟨m1, a1, a2, a3⟩ := pre_add (x := if t = 4 then v else 10000 + v) hk h (by omega)
  obtain ⟨t2, v2, p2, j2, m2, b1, b2, b3, b4, b5⟩ := adv_pre hF hB hk a3
  have h39 := KT_39 hk
  have hix : ix (nI k) = k := ix_n (by omega)
  refine ⟨m2, ?_, FC3_tr a2 b2, [if t = 4 then v else 10000 + v], t2, v2, p2, j2, b3, by show p + 1 ≤ p2; omega, fun mm fr hm => ?_⟩
  · unfold fb_X3_one
    rw [Jp_d, e3, h.2.1, Gu_of (KT_B hk), Jp_d, hix, e5]
    rcases ht with c | c
    · rw [c, if_pos (show nI 4 = (4 : Int32) from rfl)]
      rw [c, if_pos rfl] at a1
      rw [if_pos (show nI 4 = (4 : Int32) from rfl)]
      dsimp only
      rw [a1, bd1_s, b1, bd1_s]
    · rw [c, if_neg (show ¬ nI 5 = (4 : Int32) by decide), if_pos (show nI 5 = (5 : Int32) from rfl)]
      rw [c, if_neg (by omega)] at a1
      rw [show (10000 : Int32) = nI 10000 from rfl, nI_add, if_neg (show ¬ nI 5 = (4 : Int32) by decide)]
      dsimp only
      rw [a1, bd1_s, b1, bd1_s]
  · obtain ⟨mm1, c1, c2, c3⟩ := b5 mm fr o (by omega) hm
    obtain ⟨k1, k2, k3⟩ := kind_sp hm
    rw [atom_leaf hm (by omega) (by omega)]
    simp only [Jp_d]
    rcases ht with c | c
    · refine ⟨nI v, mm1, ?_, c2, c3, fun st hs => ?_⟩
      · have hv := hT.2.2.2.1 c
        rw [if_pos (k1 c).1, (k1 c).2, Lt_d, c1, bd1_s, toI_lN (by omega)]
      · have hv := hT.2.2.2.1 c
        rw [if_pos c]
        show (match run1 (nmM mm) v st with | some s2 => run (nmM mm) [] s2 | none => none) = _
        unfold run1
        rw [if_pos (by omega), if_neg (by omega), if_pos (by omega), if_neg (by omega)]
        rfl
    · refine ⟨rI mm 0 (19 + v), mm1, ?_, c2, c3, fun st hs => ?_⟩
      · rw [if_neg (k2 (by omega)), if_pos (k3 c), (name_sp hB hT hm (k3 c)).1 c, bd2_s, hm.2.2.2.1, if_pos rfl, c1, bd1_s]
      · have hv := hT.2.2.2.2.1 c
        rw [if_neg (by omega)]
        show (match run1 (nmM mm) (10000 + v) st with | some s2 => run (nmM mm) [] s2 | none => none) = _
        unfold run1
        rw [if_pos (by omega), if_neg (by omega), if_pos (by omega), if_pos (by omega), if_pos (by omega), Nat.add_sub_cancel_left]
        show some (nmM mm v :: st) = _
        unfold nmM
        rw [if_pos hv]
theorem one_no {F : Nat} {mc : MM} {t : Nat} (h3 : rI mc 36 3 = nI t) (ht : t < 100) (h1 : t ≠ 45) (h2 : t ≠ 40) (h4 : t ≠ 4) (h5 : t ≠ 5) (rec0 : Int32 → Int32 → MM → Option (Int32 × MM)) (rec1 : Int32 → MM → Option (Int32 × MM)) (a0 : Int32) : fb_X3_one F rec0 rec1 a0 mc = some (0, mc) := by
  have e : ∀ k, k < 100 → t ≠ k → ¬ nI t = nI k := fun k hk z y => z ((n_eq (by omega) (by omega)).mp y)
  unfold fb_X3_one
  simp only [Jp_d]
  rw [h3, if_neg (show ¬ nI t = (4 : Int32) from e 4 (by decide) h4), if_neg (show ¬ nI t = (5 : Int32) from e 5 (by decide) h5), if_neg (show ¬ nI t = (45 : Int32) from e 45 (by decide) h1), if_neg (show ¬ nI t = (40 : Int32) from e 40 (by decide) h2)]
/-- at the fifth opening nothing more opens -/
theorem sim_atom5 {F : Nat} (hF : 1000 ≤ F) : SIMG (fun d mc => f_X3_joD F d false 0 (nI 5) mc) 1 1 5 (atomG F (shut F) (shut F)) := by
  intro B n k mc cs t v p j d hB hk hd h hl
  obtain ⟨d, rfl⟩ : ∃ z, d = z + 1 := ⟨d - 1, by omega⟩
  show ∃ r mc2, fb_X3_one F (fun a0 a1 m => f_X3_joD F d true a0 a1 m) (fun a0 m => f_X3_joD F d false 0 a0 m) (nI 5) mc = some (r, mc2) ∧ _
  have hT := h.2.2.2.1
  have hpn : p ≤ n := Nat.le_trans hT.1 hT.2.1
  have h3 : rI mc 36 3 = nI t := h.2.2.1.1
  have h4 : rI mc 36 4 = nI p := h.2.2.1.2.1
  by_cases c4 : t = 4 ∨ t = 5
  · obtain ⟨m2, a1, a2, a3⟩ := leaf_ok (PA := shut F) (NE := shut F) (o := 5) hF hB hk h hl c4 (fun a0 a1 m => f_X3_joD F d true a0 a1 m) (fun a0 m => f_X3_joD F d false 0 a0 m) (nI 5)
    exact ⟨1, m2, a1, a2, Or.inl ⟨rfl, a3⟩⟩
  · by_cases c45 : t = 45 ∨ t = 40
    · refine ⟨0, mc, ?_, FC3_rf k mc, Or.inr ⟨rfl, ?_⟩⟩
      · unfold fb_X3_one
        simp only [Jp_d]
        rw [h3, if_neg (show ¬ nI t = (4 : Int32) by rw [show (4 : Int32) = nI 4 from rfl, n_eq (by omega) (by omega)]; omega), if_neg (show ¬ nI t = (5 : Int32) by rw [show (5 : Int32) = nI 5 from rfl, n_eq (by omega) (by omega)]; omega), if_neg (show ¬ nI 5 < (5 : Int32) by decide)]
        rcases c45 with c | c
        · rw [c, if_pos (show nI 45 = (45 : Int32) from rfl)]
        · rw [c, if_neg (show ¬ nI 40 = (45 : Int32) by decide), if_pos (show nI 40 = (40 : Int32) from rfl)]
      · obtain ⟨p2, f1, f2, f3⟩ := shut_fai (F := F) (B := B) (t := t) (v := v) (j := j) hpn h4
        refine ⟨p2, f1, f2, fun mm fr hm => ?_⟩
        obtain ⟨x, mm2, g1, g2⟩ := f3 mm fr hm
        refine ⟨x, mm2, ?_, g2⟩
        rw [← g1]
        rcases c45 with c | c
        · subst c
          exact atom_45 hm
        · subst c
          exact atom_40 hm
    · exact ⟨0, mc, one_no h3 hT.2.2.2.2.2 (by omega) (by omega) (by omega) (by omega) _ _ _, FC3_rf k mc, Or.inr ⟨rfl, leaf_no hB hT h4 (by omega) (by omega) (by omega) (by omega)⟩⟩
theorem bad_31 {m : MM} {v : Int32} {p : Int32} (h : rI m 0 32 = 1) (h2 : rI m 0 33 = p) : rI (wI m 0 31 v) 0 32 = 1 ∧ rI (wI m 0 31 v) 0 33 = p := ⟨(rI_nj (by decide)).trans h, (rI_nj (by decide)).trans h2⟩
/-- what opens: one deeper -/
theorem open_pre {F : Nat} {B : Nat → Nat} {n k o : Nat} {mc : MM} {cs : List Nat} {t v p j : Nat} (hF : 1000 ≤ F) (hB : BT B n) (hk : KTX k) (h : PRE B n k mc cs t v p j) (ho : o < 5) (ht : t ≠ 3) (ht2 : t ≠ 2) : ∃ t2 v2 p2 j2 mc1, f_X3_advance F mc = some mc1 ∧ FC3 k mc mc1 ∧ PRE B n k mc1 cs t2 v2 p2 j2 ∧ p < p2 ∧ ∀ mm fr, OKM B n o t v p j fr mm → ∃ mm1, f_X6_opens F mm = some (1, mm1) ∧ FMX mm mm1 ∧ OKM B n (o + 1) t2 v2 p2 j2 fr mm1 := by
  have hpj := h.2.2.2.1.2.2.1 ht2
  obtain ⟨t2, v2, p2, j2, m2, b1, b2, b3, b4, b5⟩ := adv_pre hF hB hk h
  refine ⟨t2, v2, p2, j2, m2, b1, b2, b3, by omega, fun mm fr hm => ?_⟩
  obtain ⟨mm1, c1, c2, c3⟩ := b5 (wI mm 0 31 (nI (o + 1))) fr (o + 1) ht (OKM_31 hm)
  refine ⟨mm1, ?_, FMX_tr (FMX_w (by decide) (by decide) (FMX_rf mm)) c2, c3⟩
  rw [opens_ok hm ho, c1, bd1_s]
theorem run_end {nm : Nat → Int32} {L : List Nat} {x : Int32} {y : Nat} {h : Nat} (e : EVX nm L x h) (hy : y = 20001 ∨ y = 20011) : EVX nm (L ++ [y]) (onev y x) h := by
  intro st hs
  rw [run_app (e st hs)]
  show (match run1 nm y (x :: st) with | some s2 => run nm [] s2 | none => none) = _
  unfold run1
  rw [if_pos (by omega), if_pos (by omega), if_pos hy]
  rfl
