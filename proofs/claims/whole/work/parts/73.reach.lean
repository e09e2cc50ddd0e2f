/-! THE MODEL'S REACHES; BEST -/
theorem mvc_back {T c t h : Nat} (hc : c < 5 ^ T) (ht : t < T) (hh : h < 5) : mvc T (mvc T c t h) t (dg 5 c t) = c := by
  have hd := dg_lt (b := 5) (c := c) (t := t) (by decide)
  refine dg_ext (mvc_lt hd) hc (fun i hi => ?_)
  rw [mvc_dg hd hi, mvc_dg hh hi]
  by_cases ci : i = t
  · rw [if_pos ci, ci]
  · rw [if_neg ci, if_neg ci]
theorem mvc_same {T c t : Nat} (hc : c < 5 ^ T) : mvc T c t (dg 5 c t) = c := by
  have hd := dg_lt (b := 5) (c := c) (t := t) (by decide)
  refine dg_ext (mvc_lt hd) hc (fun i hi => ?_)
  rw [mvc_dg hd hi]
  by_cases ci : i = t
  · rw [if_pos ci, ci]
  · rw [if_neg ci]
theorem ps_ph {A : LT} {c : Nat} (B : AB A) (h0 : A 6 5 = 0) (hw : u_wl A c = true) (hc : c < 5 ^ (A 6 1)) : ps A (ph A c) = c := by
  refine dg_ext (ps_N B) hc (fun i hi => ?_)
  have e1 := ps_dg (s := ph A c) B hi
  have e2 := ph_dg (wl_t.mp hw) hi
  rw [if_neg (by omega)] at e1 e2
  rw [e1, e2]
/-- what is seen -/
def UI (A : LT) (hm : Nat) (m : MM) (U : Nat → Bool) : Prop := (∀ c, c < 5 ^ (A 6 1) → rI m 15 c = nI (if U c = true then 1 else 0)) ∧ (∀ c, U c = true → c < 5 ^ (A 6 1) ∧ u_wl A c = true ∧ RCH A hm (ph A c)) ∧ U (ps A hm) = true
/-- since a pass began -/
def UP (A : LT) (U0 U : Nat → Bool) (more : Nat) : Prop := (∀ c, U0 c = true → U c = true) ∧ ((more = 0 ∧ U = U0) ∨ (more = 1 ∧ ctP U0 (5 ^ (A 6 1)) < ctP U (5 ^ (A 6 1))))
theorem one_h {F : Nat} {A : LT} {hm c t : Nat} {m : MM} {U0 U : Nat → Bool} {more : Nat} {pr f g : Nat → Nat} (V : AV A) (L : LM0 m A) (h11 : ∀ c, c < 5 ^ (A 6 1) → rI m 11 c = nI (if u_wl A c = true then 1 else 0)) (I : UI A hm m U) (P : UP A U0 U more) (hU : U c = true) (ht : t < A 6 1) (K : Int32 → MM → Option (Int32 × MM)) (hF : 50 ≤ F) : ∃ U' more' m', UI A hm m' U' ∧ UP A U0 U' more' ∧ (∀ c, U c = true → U' c = true) ∧ (∀ q, q ≠ 15 → m'.1 q = m.1 q) ∧ (∀ h, h < A 6 0 → u_wl A (mvc (A 6 1) c t h) = true → U' (mvc (A 6 1) c t h) = true) ∧ f_X6_reaches_L96 (nI c) (nI t) (fun x3_22 x6_23 m24 => K x3_22 m24) F (nI more) 0 m = K (nI more') m' := by
  have b1 := V.1.1
  have b2 := V.1.2.1
  have h0 := V.2.2.2.1
  have hP := p5_le b2
  have hc := (I.2.1 c hU).1
  have hwc := (I.2.1 c hU).2.1
  obtain ⟨st, ⟨U', more', j1, j2, j3, j4, j5, j6⟩, j7⟩ := loop_inv (σ := Int32 × MM) (fun n i st => f_X6_reaches_L96 (nI c) (nI t) (fun x3_22 x6_23 m24 => K x3_22 m24) n st.1 i st.2) (fun st => K st.1 st.2) (A 6 0) (fun x st => ∃ U' more', st.1 = nI more' ∧ UI A hm st.2 U' ∧ UP A U0 U' more' ∧ (∀ c, U c = true → U' c = true) ∧ (∀ q, q ≠ 15 → st.2.1 q = m.1 q) ∧ (∀ h, h < x → u_wl A (mvc (A 6 1) c t h) = true → U' (mvc (A 6 1) c t h) = true)) (fun n st hI => by
    obtain ⟨U', more', j1, j2, j3, j4, j5, j6⟩ := hI
    have e9 : rI st.2 0 9 = nI (A 6 0) := (r_row (j5 0 (by decide)) 9).trans L.1
    show f_X6_reaches_L96 _ _ _ (n + 1) _ _ _ = _
    unfold f_X6_reaches_L96
    rw [e9, if_pos (Int32.le_refl _)]) (fun h n st hh hI => by
    obtain ⟨x0, m1⟩ := st
    obtain ⟨U1, more1, j1, j2, j3, j4, j5, j6⟩ := hI
    have j1 : x0 = nI more1 := j1
    subst j1
    have j2 : UI A hm m1 U1 := j2
    have j5 : ∀ q, q ≠ 15 → m1.1 q = m.1 q := j5
    have e9 : rI m1 0 9 = nI (A 6 0) := (r_row (j5 0 (by decide)) 9).trans L.1
    have nle : ¬ nI (A 6 0) ≤ nI h := by rw [n_le (by omega) (by omega)]; omega
    have h5 : h < 5 := by omega
    have hyN := mvc_lt (T := A 6 1) (c := c) (t := t) h5
    have ea := after_sp (m := m1) b2 hc ht h5
    have hback := mvc_back (t := t) (h := h) hc ht h5
    have hsame := mvc_same (t := t) hc
    have hydg := mvc_dg (c := c) (t := t) h5 ht
    rw [if_pos rfl] at hydg
    have hdl := (wl_t.mp hwc).1 t ht
    have edge : u_wl A (mvc (A 6 1) c t h) = true → h ≠ dg 5 c t → RCH A hm (ph A (mvc (A 6 1) c t h)) := by
      intro hw hne
      have q := edge_c (c := mvc (A 6 1) c t h) (t := t) (h := dg 5 c t) V.1 hw ht (by omega) hdl (by rw [hydg]; exact fun z => hne z.symm) (by rw [hback]; exact hwc)
      rw [hback] at q
      exact RCH_s (I.2.1 c hU).2.2 q
    generalize hy : mvc (A 6 1) c t h = y at *
    have gy := inB_n (by omega : y < 3125) (by decide : 3125 ≤ 2 ^ 31)
    have hxy : ix (nI y) = y := ix_n (by omega)
    have e11 : rI m1 11 y = nI (if u_wl A y = true then 1 else 0) := (r_row (j5 11 (by decide)) y).trans (h11 y hyN)
    have e15 := j2.1 y hyN
    by_cases cw : u_wl A y = true
    · by_cases cu : U1 y = true
      · refine ⟨(nI more1, m1), ⟨U1, more1, rfl, j2, j3, j4, j5, fun h' h1 hw' => ?_⟩, ?_⟩
        · by_cases ch : h' = h
          · rw [ch, hy]
            exact cu
          · exact j6 h' (by omega) hw'
        · show f_X6_reaches_L96 _ _ _ (n + 1) _ _ _ = _
          conv => lhs; unfold f_X6_reaches_L96
          rw [e9, if_neg nle, ea, bd1_s, Gu_of gy, hxy, e11, if_pos (by rw [if_pos cw]; rfl), Gu_of gy, e15, if_neg (by rw [if_pos cu]; decide), Lt_d, n_s]
      · have cuf : U1 y = false := by simpa using cu
        have hne : h ≠ dg 5 c t := by
          intro e
          have : y = c := by
            rw [← hy, e]
            exact hsame
          rw [this] at cu
          exact cu (j4 c hU)
        have hct := ctP_on (W := U1) hyN cuf
        refine ⟨(1, wI m1 15 y 1), ⟨upB U1 y true, 1, rfl, ⟨fun x hx => ?_, fun x hx => ?_, ?_⟩, ⟨fun x hx => ?_, Or.inr ⟨rfl, ?_⟩⟩, fun x hx => ?_, fun q hq => (row_ne hq).trans (j5 q hq), fun h' h1 hw' => ?_⟩, ?_⟩
        · rw [rI_w, upB_at]
          by_cases cx : x = y
          · rw [if_pos ⟨rfl, cx⟩, if_pos cx]
            rfl
          · rw [if_neg (fun z => cx z.2), if_neg cx]
            exact j2.1 x hx
        · rw [upB_at] at hx
          by_cases cx : x = y
          · rw [cx]
            exact ⟨hyN, cw, edge cw hne⟩
          · rw [if_neg cx] at hx
            exact j2.2.1 x hx
        · rw [upB_at]
          by_cases cx : ps A hm = y
          · rw [if_pos cx]
          · rw [if_neg cx]
            exact j2.2.2
        · rw [upB_at]
          by_cases cx : x = y
          · rw [if_pos cx]
          · rw [if_neg cx]
            exact j3.1 x hx
        · rw [hct]
          rcases j3.2 with ⟨_, e⟩ | ⟨_, e⟩
          · rw [e]; omega
          · omega
        · rw [upB_at]
          by_cases cx : x = y
          · rw [if_pos cx]
          · rw [if_neg cx]
            exact j4 x hx
        · rw [upB_at]
          by_cases cx : mvc (A 6 1) c t h' = y
          · rw [if_pos cx]
          · rw [if_neg cx]
            by_cases ch : h' = h
            · exact absurd (by rw [ch]; exact hy) cx
            · exact j6 h' (by omega) hw'
        · show f_X6_reaches_L96 _ _ _ (n + 1) _ _ _ = _
          conv => lhs; unfold f_X6_reaches_L96
          rw [e9, if_neg nle, ea, bd1_s, Gu_of gy, hxy, e11, if_pos (by rw [if_pos cw]; rfl), Gu_of gy, e15, if_pos (by rw [if_neg cu]; rfl), Gu_of gy, Lt_d, Lt_d, n_s]
    · refine ⟨(nI more1, m1), ⟨U1, more1, rfl, j2, j3, j4, j5, fun h' h1 hw' => ?_⟩, ?_⟩
      · by_cases ch : h' = h
        · rw [ch, hy] at hw'
          exact absurd hw' cw
        · exact j6 h' (by omega) hw'
      · show f_X6_reaches_L96 _ _ _ (n + 1) _ _ _ = _
        conv => lhs; unfold f_X6_reaches_L96
        rw [e9, if_neg nle, ea, bd1_s, Gu_of gy, hxy, e11, if_neg (by rw [if_neg cw]; decide), Lt_d, n_s]) F (nI more, m) (by omega) ⟨U, more, rfl, I, P, fun c h => h, fun q _ => rfl, fun h hh => absurd hh (Nat.not_lt_zero h)⟩
  refine ⟨U', more', st.2, j2, j3, j4, j5, j6, ?_⟩
  refine Eq.trans j7 ?_
  rw [j1]
theorem one_c {F : Nat} {A : LT} {hm c : Nat} {m : MM} {U0 U : Nat → Bool} {more : Nat} (V : AV A) (L : LM0 m A) (h11 : ∀ c, c < 5 ^ (A 6 1) → rI m 11 c = nI (if u_wl A c = true then 1 else 0)) (I : UI A hm m U) (P : UP A U0 U more) (hc : c < 5 ^ (A 6 1)) (K : Int32 → MM → Option (Int32 × MM)) (hF : 50 ≤ F) : ∃ U' more' m', UI A hm m' U' ∧ UP A U0 U' more' ∧ (∀ c, U c = true → U' c = true) ∧ (∀ q, q ≠ 15 → m'.1 q = m.1 q) ∧ (U c = true → ∀ t h, t < A 6 1 → h < A 6 0 → u_wl A (mvc (A 6 1) c t h) = true → U' (mvc (A 6 1) c t h) = true) ∧ f_X6_reaches_L73 F (nI c) (fun x3_18 x5_19 m20 => K x3_18 m20) F (nI more) 0 m = K (nI more') m' := by
  have b1 := V.1.1
  have b2 := V.1.2.1
  have hP := p5_le b2
  have gc := inB_n (by omega : c < 3125) (by decide : 3125 ≤ 2 ^ 31)
  have hxc : ix (nI c) = c := ix_n (by omega)
  by_cases cu : U c = true
  · obtain ⟨st, ⟨U', more', j1, j2, j3, j4, j5, j6⟩, j7⟩ := loop_inv (σ := Int32 × MM) (fun n i st => f_X6_reaches_L73 F (nI c) (fun x3_18 x5_19 m20 => K x3_18 m20) n st.1 i st.2) (fun st => K st.1 st.2) (A 6 1) (fun x st => ∃ U' more', st.1 = nI more' ∧ UI A hm st.2 U' ∧ UP A U0 U' more' ∧ (∀ c, U c = true → U' c = true) ∧ (∀ q, q ≠ 15 → st.2.1 q = m.1 q) ∧ (∀ t h, t < x → h < A 6 0 → u_wl A (mvc (A 6 1) c t h) = true → U' (mvc (A 6 1) c t h) = true)) (fun n st hI => by
      obtain ⟨U', more', j1, j2, j3, j4, j5, j6⟩ := hI
      have e14 : rI st.2 0 14 = nI (A 6 1) := (r_row (j5 0 (by decide)) 14).trans L.2.1
      show f_X6_reaches_L73 _ _ _ (n + 1) _ _ _ = _
      unfold f_X6_reaches_L73
      rw [e14, if_pos (Int32.le_refl _)]) (fun t n st ht hI => by
      obtain ⟨x0, m1⟩ := st
      obtain ⟨U1, more1, j1, j2, j3, j4, j5, j6⟩ := hI
      have j1 : x0 = nI more1 := j1
      subst j1
      have j2 : UI A hm m1 U1 := j2
      have j5 : ∀ q, q ≠ 15 → m1.1 q = m.1 q := j5
      have e14 : rI m1 0 14 = nI (A 6 1) := (r_row (j5 0 (by decide)) 14).trans L.2.1
      have e15 := j2.1 c hc
      have cu1 := j4 c cu
      have L1 : LM0 m1 A := LM0_fr (fun q _ _ _ => j5 q (by omega)) (fun i _ => r_row (j5 0 (by decide)) i) L
      obtain ⟨U2, more2, m2, u1, u2, u3, u4, u5, u6⟩ := one_h (F := F) (pr := one) (f := one) (g := one) V L1 (fun c hc => (r_row (j5 11 (by decide)) c).trans (h11 c hc)) j2 j3 cu1 ht (fun x3_22 m24 => Lt (nI t + (1 : Int32)) fun x5_32 => f_X6_reaches_L73 F (nI c) (fun x3_18 x5_19 m20 => K x3_18 m20) n x3_22 x5_32 m24) hF
      refine ⟨(nI more2, m2), ⟨U2, more2, rfl, u1, u2, fun c h => u3 c (j4 c h), fun q hq => (u4 q hq).trans (j5 q hq), fun t' h h1 h2 hw => ?_⟩, ?_⟩
      · by_cases ct : t' = t
        · rw [ct] at hw ⊢
          exact u5 h h2 hw
        · exact u3 _ (j6 t' h (by omega) h2 hw)
      · show f_X6_reaches_L73 _ _ _ (n + 1) _ _ _ = _
        conv => lhs; unfold f_X6_reaches_L73
        rw [e14, if_neg (n_head (n := 0) b2 ht), Gu_of gc, hxc, e15, if_pos (by rw [if_pos cu1]; rfl)]
        refine Eq.trans u6 ?_
        show (Lt (nI t + (1 : Int32)) fun x5_32 => f_X6_reaches_L73 F (nI c) (fun x3_18 x5_19 m20 => K x3_18 m20) n (nI more2) x5_32 m2) = _
        rw [Lt_d, n_s]) F (nI more, m) (by omega) ⟨U, more, rfl, I, P, fun c h => h, fun q _ => rfl, fun t h ht => absurd ht (Nat.not_lt_zero t)⟩
    refine ⟨U', more', st.2, j2, j3, j4, j5, fun _ => j6, ?_⟩
    refine Eq.trans j7 ?_
    rw [j1]
  · refine ⟨U, more, m, I, P, fun c h => h, fun q _ => rfl, fun z => absurd z cu, ?_⟩
    obtain ⟨F, rfl⟩ : ∃ z, F = z + 1 := ⟨F - 1, by omega⟩
    have e15 := I.1 c hc
    conv => lhs; unfold f_X6_reaches_L73
    by_cases ct : rI m 0 14 ≤ 0
    · rw [if_pos ct]
    · rw [if_neg ct, Gu_of gc, hxc, e15, if_neg (by rw [if_neg cu]; decide)]
theorem reach_pass {F : Nat} {A : LT} {hm : Nat} {m : MM} {U : Nat → Bool} (V : AV A) (L : LM0 m A) (h11 : ∀ c, c < 5 ^ (A 6 1) → rI m 11 c = nI (if u_wl A c = true then 1 else 0)) (I : UI A hm m U) (K : Int32 → MM → Option (Int32 × MM)) (hF : 4000 ≤ F) : ∃ U' more' m', UI A hm m' U' ∧ (∀ q, q ≠ 15 → m'.1 q = m.1 q) ∧ ((more' = 0 ∧ U' = U ∧ ∀ c t h, U c = true → t < A 6 1 → h < A 6 0 → u_wl A (mvc (A 6 1) c t h) = true → U (mvc (A 6 1) c t h) = true) ∨ (more' = 1 ∧ ctP U (5 ^ (A 6 1)) < ctP U' (5 ^ (A 6 1)))) ∧ f_X6_reaches_L64 F (nI (5 ^ (A 6 1))) (fun x3_14 x4_15 m16 => K x3_14 m16) F 0 0 m = K (nI more') m' := by
  have b2 := V.1.2.1
  have hP := p5_le b2
  obtain ⟨st, ⟨U', more', j1, j2, j3, j4, j5, j6⟩, j7⟩ := loop_inv (σ := Int32 × MM) (fun n i st => f_X6_reaches_L64 F (nI (5 ^ (A 6 1))) (fun x3_14 x4_15 m16 => K x3_14 m16) n st.1 i st.2) (fun st => K st.1 st.2) (5 ^ (A 6 1)) (fun x st => ∃ U' more', st.1 = nI more' ∧ UI A hm st.2 U' ∧ UP A U U' more' ∧ (∀ c, U c = true → U' c = true) ∧ (∀ q, q ≠ 15 → st.2.1 q = m.1 q) ∧ (more' = 0 → ∀ c t h, c < x → U c = true → t < A 6 1 → h < A 6 0 → u_wl A (mvc (A 6 1) c t h) = true → U (mvc (A 6 1) c t h) = true)) (fun n st hI => by
    show f_X6_reaches_L64 _ _ _ (n + 1) _ _ _ = _
    unfold f_X6_reaches_L64
    rw [if_pos (Int32.le_refl _)]) (fun x n st hx hI => by
    obtain ⟨x0, m1⟩ := st
    obtain ⟨U1, more1, j1, j2, j3, j4, j5, j6⟩ := hI
    have j1 : x0 = nI more1 := j1
    subst j1
    have j2 : UI A hm m1 U1 := j2
    have j5 : ∀ q, q ≠ 15 → m1.1 q = m.1 q := j5
    have L1 : LM0 m1 A := LM0_fr (fun q _ _ _ => j5 q (by omega)) (fun i _ => r_row (j5 0 (by decide)) i) L
    obtain ⟨U2, more2, m2, u1, u2, u3, u4, u5, u6⟩ := one_c (F := F) V L1 (fun c hc => (r_row (j5 11 (by decide)) c).trans (h11 c hc)) j2 j3 hx (fun x3_18 m20 => Lt (nI x + (1 : Int32)) fun x4_33 => f_X6_reaches_L64 F (nI (5 ^ (A 6 1))) (fun x3_14 x4_15 m16 => K x3_14 m16) n x3_18 x4_33 m20) (by omega)
    refine ⟨(nI more2, m2), ⟨U2, more2, rfl, u1, u2, fun c h => u3 c (j4 c h), fun q hq => (u4 q hq).trans (j5 q hq), fun hm0 c t h h1 hU h2 h3 hw => ?_⟩, ?_⟩
    · have e2 : U2 = U := by
        rcases u2.2 with ⟨_, e⟩ | ⟨e, _⟩
        · exact e
        · omega
      by_cases cx : c = x
      · have q := u5 (j4 x (by rw [← cx]; exact hU)) t h h2 h3 (by rw [← cx]; exact hw)
        rw [e2] at q
        rw [cx]
        exact q
      · have hmo1 : more1 = 0 := by
          rcases j3.2 with ⟨e, _⟩ | ⟨_, e⟩
          · exact e
          · exfalso
            have e3 : ctP U1 (5 ^ (A 6 1)) ≤ ctP U2 (5 ^ (A 6 1)) := ctP_mono (fun i _ hi => u3 i hi)
            rw [e2] at e3
            omega
        exact j6 hmo1 c t h (by omega) hU h2 h3 hw
    · show f_X6_reaches_L64 _ _ _ (n + 1) _ _ _ = _
      conv => lhs; unfold f_X6_reaches_L64
      rw [if_neg (by rw [n_le (by omega) (by omega)]; omega)]
      refine Eq.trans u6 ?_
      show (Lt (nI x + (1 : Int32)) fun x4_33 => f_X6_reaches_L64 F (nI (5 ^ (A 6 1))) (fun x3_14 x4_15 m16 => K x3_14 m16) n (nI more2) x4_33 m2) = _
      rw [Lt_d, n_s]) F (0, m) (by omega) ⟨U, 0, rfl, I, ⟨fun c h => h, Or.inl ⟨rfl, rfl⟩⟩, fun c h => h, fun q _ => rfl, fun _ c t h hc => absurd hc (Nat.not_lt_zero c)⟩
  refine ⟨U', more', st.2, j2, j5, ?_, ?_⟩
  · rcases j3.2 with ⟨e1, e2⟩ | e
    · exact Or.inl ⟨e1, e2, fun c t h hU => j6 e1 c t h (j2.2.1 c (j4 c hU)).1 hU⟩
    · exact Or.inr e
  · refine Eq.trans j7 ?_
    rw [j1]
theorem reach_fix {F : Nat} {A : LT} {hm : Nat} (V : AV A) (K : Int32 → MM → Option (Int32 × MM)) (hF : 4000 ≤ F) : ∀ b n m U, 5 ^ (A 6 1) ≤ ctP U (5 ^ (A 6 1)) + b → b + 2 ≤ n → LM0 m A → (∀ c, c < 5 ^ (A 6 1) → rI m 11 c = nI (if u_wl A c = true then 1 else 0)) → UI A hm m U → ∃ U' m', UI A hm m' U' ∧ (∀ q, q ≠ 15 → m'.1 q = m.1 q) ∧ (∀ c t h, U' c = true → t < A 6 1 → h < A 6 0 → u_wl A (mvc (A 6 1) c t h) = true → U' (mvc (A 6 1) c t h) = true) ∧ f_X6_reaches_L55 F (nI (5 ^ (A 6 1))) K n 1 m = K 0 m' := by
  intro b
  induction b with
  | zero =>
    intro n m U hb hn L h11 I
    obtain ⟨n, rfl⟩ : ∃ z, n = z + 2 := ⟨n - 2, by omega⟩
    obtain ⟨U', more', m', u1, u2, u3, u4⟩ := reach_pass (F := F) V L h11 I (fun x3_14 m16 => f_X6_reaches_L55 F (nI (5 ^ (A 6 1))) K (n + 1) x3_14 m16) hF
    rcases u3 with ⟨e1, e2, e3⟩ | ⟨e1, e2⟩
    · refine ⟨U', m', u1, u2, by rw [e2]; exact e3, ?_⟩
      conv => lhs; unfold f_X6_reaches_L55
      rw [if_neg h10]
      refine Eq.trans u4 ?_
      show f_X6_reaches_L55 F (nI (5 ^ (A 6 1))) K (n + 1) (nI more') m' = _
      unfold f_X6_reaches_L55
      rw [e1, if_pos (show nI 0 = 0 from rfl)]
      rfl
    · have : ctP U' (5 ^ (A 6 1)) ≤ 5 ^ (A 6 1) := ctP_le _
      omega
  | succ b ih =>
    intro n m U hb hn L h11 I
    obtain ⟨n, rfl⟩ : ∃ z, n = z + 2 := ⟨n - 2, by omega⟩
    obtain ⟨U', more', m', u1, u2, u3, u4⟩ := reach_pass (F := F) V L h11 I (fun x3_14 m16 => f_X6_reaches_L55 F (nI (5 ^ (A 6 1))) K (n + 1) x3_14 m16) hF
    rcases u3 with ⟨e1, e2, e3⟩ | ⟨e1, e2⟩
    · refine ⟨U', m', u1, u2, by rw [e2]; exact e3, ?_⟩
      conv => lhs; unfold f_X6_reaches_L55
      rw [if_neg h10]
      refine Eq.trans u4 ?_
      show f_X6_reaches_L55 F (nI (5 ^ (A 6 1))) K (n + 1) (nI more') m' = _
      unfold f_X6_reaches_L55
      rw [e1, if_pos (show nI 0 = 0 from rfl)]
      rfl
    · obtain ⟨U2, m2, v1, v2, v3, v4⟩ := ih (n + 1) m' U' (by omega) (by omega) (LM0_fr (fun q _ _ _ => u2 q (by omega)) (fun i _ => r_row (u2 0 (by decide)) i) L) (fun c hc => (r_row (u2 11 (by decide)) c).trans (h11 c hc)) u1
      refine ⟨U2, m2, v1, fun q hq => (v2 q hq).trans (u2 q hq), v3, ?_⟩
      conv => lhs; unfold f_X6_reaches_L55
      rw [if_neg h10]
      refine Eq.trans u4 ?_
      show f_X6_reaches_L55 F (nI (5 ^ (A 6 1))) K (n + 1) (nI more') m' = _
      rw [e1]
      exact v4
theorem alln {A : LT} {α : Type} {m : MM} (b2 : A 6 1 ≤ 5) (J : Int32 → Option α) : (if nI (A 6 1) = 0 then J (1 : Int32) else bd1 (f_X6_place (nI (A 6 1) - (1 : Int32)) m) fun r54 => J (r54 * (5 : Int32))) = J (nI (5 ^ (A 6 1))) := by
  by_cases c : A 6 1 = 0
  · rw [c]
    rfl
  · obtain ⟨T, hT⟩ : ∃ T, A 6 1 = T + 1 := ⟨A 6 1 - 1, by omega⟩
    rw [hT, if_neg (by rw [n_z (by omega)]; omega), n_p, place_sp (by omega), bd1_s, show (5 : Int32) = nI 5 from rfl, n_mul, ← Nat.pow_succ]
theorem reaches_sp {F : Nat} {A : LT} {m : MM} {pr f g : Nat → Nat} (hF : 4000 ≤ F) (V : AV A) (L : LM m A) (G : GA m A pr f g) (a0 : Int32) : ∃ U y m', f_X6_reaches F a0 m = some (if a0 = 0 then nI (ctP U (5 ^ (A 6 1))) else nI y - 1, m') ∧ (∀ c, U c = true → c < 5 ^ (A 6 1) ∧ u_wl A c = true ∧ RCH A (u_hm A) (ph A c)) ∧ (∀ s, RCH A (u_hm A) s → U (ps A s) = true) ∧ (∀ c, U c = true → f c < FAR → f c + 1 ≤ y) ∧ (y = 0 ∨ ∃ c, U c = true ∧ f c < FAR ∧ f c + 1 = y) ∧ (∀ q, q ≠ 15 → m'.1 q = m.1 q) := by
  have b1 := V.1.1
  have b2 := V.1.2.1
  have h0 := V.2.2.2.1
  have hP := p5_le b2
  have FARd : FAR = 99999999 := rfl
  have hmo := hm_ok0 V
  have hnow := ps_N (s := u_hm A) V.1
  unfold f_X6_reaches
  rw [Jp_d, L.2.1]
  -- none is seen
  obtain ⟨m1, ⟨i1, i2⟩, i3⟩ := loop_inv (fun n i m => f_X6_reaches_L25 (nI (5 ^ (A 6 1))) (fun x3_3 m4 => bd1 (f_X6_codeNow F m4) fun r8 => Gu (inB r8 3125) <| Lt (wI m4 15 (ix r8) (1 : Int32)) fun m10 => f_X6_reaches_L55 F (nI (5 ^ (A 6 1))) (fun x3_11 m12 => f_X6_reaches_L178 (nI (5 ^ (A 6 1))) m12 (fun x4_34 x5_35 x6_36 => if a0 = 0 then some (x4_34, m12) else some (x5_35, m12)) F (0 : Int32) (-1 : Int32) (0 : Int32)) F (1 : Int32) m10) n i m) (fun m4 => bd1 (f_X6_codeNow F m4) fun r8 => Gu (inB r8 3125) <| Lt (wI m4 15 (ix r8) (1 : Int32)) fun m10 => f_X6_reaches_L55 F (nI (5 ^ (A 6 1))) (fun x3_11 m12 => f_X6_reaches_L178 (nI (5 ^ (A 6 1))) m12 (fun x4_34 x5_35 x6_36 => if a0 = 0 then some (x4_34, m12) else some (x5_35, m12)) F (0 : Int32) (-1 : Int32) (0 : Int32)) F (1 : Int32) m10) (5 ^ (A 6 1)) (fun x mx => (∀ q, q ≠ 15 → mx.1 q = m.1 q) ∧ ∀ c, c < x → rI mx 15 c = 0) (fun n mx hI => by
    show f_X6_reaches_L25 _ _ (n + 1) _ _ = _
    unfold f_X6_reaches_L25
    rw [if_pos (Int32.le_refl _)]) (fun x n mx hx hI => by
    refine ⟨wI mx 15 x 0, ⟨fun q hq => (row_ne hq).trans (hI.1 q hq), fun s hs => ?_⟩, ?_⟩
    · rw [rI_w]
      by_cases c : s = x
      · rw [if_pos ⟨rfl, c⟩]
      · rw [if_neg (fun z => c z.2)]
        exact hI.2 s (by omega)
    · show f_X6_reaches_L25 _ _ (n + 1) _ _ = _
      conv => lhs; unfold f_X6_reaches_L25
      rw [if_neg (by rw [n_le (by omega) (by omega)]; omega), Gu_of (inB_n (by omega : x < 3125) (by decide)), Lt_d, Lt_d, ix_n (by omega), n_s]) F m (by omega) ⟨fun q _ => rfl, fun c hc => absurd hc (Nat.not_lt_zero c)⟩
  have L1 : LM m1 A := LM_fr (fun q _ _ => i1 q (by omega)) (fun i _ => r_row (i1 0 (by decide)) i) L
  have I0 : UI A (u_hm A) (wI m1 15 (ps A (u_hm A)) 1) (upB (fun _ => false) (ps A (u_hm A)) true) := by
    refine ⟨fun c hc => ?_, fun c hc => ?_, by rw [upB_at, if_pos rfl]⟩
    · rw [rI_w, upB_at]
      by_cases cc : c = ps A (u_hm A)
      · rw [if_pos ⟨rfl, cc⟩, if_pos cc]
        rfl
      · rw [if_neg (fun z => cc z.2), if_neg cc, i2 c hc]
        rfl
    · rw [upB_at] at hc
      by_cases cc : c = ps A (u_hm A)
      · rw [cc]
        exact ⟨hnow, ps_wl V.1 hmo.1, by rw [ph_ps V.1 hmo.1 hmo.2]; exact RCH_0⟩
      · rw [if_neg cc] at hc
        cases hc
  obtain ⟨U, m2, u1, u2, u3, u4⟩ := reach_fix (F := F) (hm := u_hm A) V (fun x3_11 m12 => f_X6_reaches_L178 (nI (5 ^ (A 6 1))) m12 (fun x4_34 x5_35 x6_36 => if a0 = 0 then some (x4_34, m12) else some (x5_35, m12)) F (0 : Int32) (-1 : Int32) (0 : Int32)) hF 3125 F (wI m1 15 (ps A (u_hm A)) 1) _ (by omega) (by omega) (LM0_fr (fun q _ _ _ => row_ne (by omega)) (fun i _ => rI_ne (by decide)) (LM0_of L1)) (fun c hc => (rI_ne (by decide)).trans ((r_row (i1 11 (by decide)) c).trans (G.1.1 c hc))) I0
  have fr2 : ∀ q, q ≠ 15 → m2.1 q = m.1 q := fun q hq => (u2 q hq).trans ((row_ne hq).trans (i1 q hq))
  -- the sums
  obtain ⟨st, ⟨y, j1, j2, j3, j4⟩, j5⟩ := loop_inv (σ := Int32 × Int32) (fun n i st => f_X6_reaches_L178 (nI (5 ^ (A 6 1))) m2 (fun x4_34 x5_35 x6_36 => if a0 = 0 then some (x4_34, m2) else some (x5_35, m2)) n st.1 st.2 i) (fun st => if a0 = 0 then some (st.1, m2) else some (st.2, m2)) (5 ^ (A 6 1)) (fun x st => ∃ y, st = (nI (ctP U x), nI y - 1) ∧ y ≤ FAR ∧ (∀ c, c < x → U c = true → f c < FAR → f c + 1 ≤ y) ∧ (y = 0 ∨ ∃ c, U c = true ∧ f c < FAR ∧ f c + 1 = y)) (fun n st hI => by
    show f_X6_reaches_L178 _ _ _ (n + 1) _ _ _ = _
    unfold f_X6_reaches_L178
    rw [if_pos (Int32.le_refl _)]) (fun x n st hx hI => by
    obtain ⟨y, k1, k2, k3, k4⟩ := hI
    subst k1
    have gx := inB_n (by omega : x < 3125) (by decide : 3125 ≤ 2 ^ 31)
    have hxx : ix (nI x) = x := ix_n (by omega)
    have e15 := u1.1 x hx
    have e12 : rI m2 12 x = nI (f x) := (r_row (fr2 12 (by decide)) x).trans (G.1.2.1 x hx).1
    have hfx := (G.2.1 x hx).1
    have hct : nI (ctP U x) + nI (if U x = true then 1 else 0) = nI (ctP U (x + 1)) := by rw [nI_add, ctP_s]
    have hmost : (if U x = true ∧ f x < FAR ∧ y < f x + 1 then f x + 1 else y) ≤ FAR := by split <;> omega
    refine ⟨(nI (ctP U (x + 1)), nI (if U x = true ∧ f x < FAR ∧ y < f x + 1 then f x + 1 else y) - 1), ⟨_, rfl, hmost, fun c hc hu hl => ?_, ?_⟩, ?_⟩
    · by_cases cx : c = x
      · rw [cx] at hu hl ⊢
        by_cases cc : U x = true ∧ f x < FAR ∧ y < f x + 1
        · rw [if_pos cc]
          exact Nat.le_refl _
        · rw [if_neg cc]
          have : ¬ y < f x + 1 := fun z => cc ⟨hu, hl, z⟩
          omega
      · have := k3 c (by omega) hu hl
        split <;> omega
    · by_cases cc : U x = true ∧ f x < FAR ∧ y < f x + 1
      · rw [if_pos cc]
        exact Or.inr ⟨x, cc.1, cc.2.1, rfl⟩
      · rw [if_neg cc]
        exact k4
    · show f_X6_reaches_L178 _ _ _ (n + 1) _ _ _ = _
      conv => lhs; unfold f_X6_reaches_L178
      rw [if_neg (by rw [n_le (by omega) (by omega)]; omega)]
      simp only [Gu_of gx, hxx, e15, e12, Lt_d, Jp_d, n_s]
      rw [hct]
      have hcmp : nI (f x) ≤ nI y - 1 ↔ ¬ y < f x + 1 := by
        have t1 : (1 : Int32).toInt = 1 := rfl
        rw [i_le, i_sub (by rw [nI_toInt (by omega), t1]; omega) (by rw [nI_toInt (by omega), t1]; omega), nI_toInt (by omega), nI_toInt (by omega), t1]
        omega
      have hfar : (99999999 : Int32) ≤ nI (f x) ↔ ¬ f x < FAR := by
        rw [show (99999999 : Int32) = nI FAR from rfl, n_le (by omega) (by omega)]
        omega
      by_cases cu : U x = true
      · rw [if_pos cu, if_pos (show nI 1 = 1 from rfl)]
        by_cases cf : f x < FAR
        · rw [if_neg (fun z => hfar.mp z cf)]
          by_cases cy : y < f x + 1
          · rw [if_neg (fun z => hcmp.mp z cy), if_pos ⟨cu, cf, cy⟩, n_p]
          · rw [if_pos (hcmp.mpr cy), if_neg (fun z => cy z.2.2)]
        · rw [if_pos (hfar.mpr cf), if_neg (fun z => cf z.2.1)]
      · rw [if_neg cu, if_neg (show ¬ nI 0 = 1 by decide), if_neg (fun z => cu z.1)]) F (0, -1) (by omega) ⟨0, by rfl, by omega, fun c hc => absurd hc (Nat.not_lt_zero c), Or.inl rfl⟩
  refine ⟨U, y, m2, ?_, u1.2.1, fun s hs => ?_, fun c hc hl => j3 c (u1.2.1 c hc).1 hc hl, j4, fr2⟩
  · refine (alln b2 (fun s1 => f_X6_reaches_L25 s1 (fun x3_3 m4 => bd1 (f_X6_codeNow F m4) fun r8 => Gu (inB r8 3125) <| Lt (wI m4 15 (ix r8) (1 : Int32)) fun m10 => f_X6_reaches_L55 F s1 (fun x3_11 m12 => f_X6_reaches_L178 s1 m12 (fun x4_34 x5_35 x6_36 => if a0 = 0 then some (x4_34, m12) else some (x5_35, m12)) F (0 : Int32) (-1 : Int32) (0 : Int32)) F (1 : Int32) m10) F (0 : Int32) m)).trans ?_
    refine Eq.trans i3 ?_
    rw [now_sp (by omega) V.1 L1, bd1_s, Gu_of (inB_n (by omega : ps A (u_hm A) < 3125) (by decide)), ix_n (by omega), Lt_d]
    refine Eq.trans u4 ?_
    refine Eq.trans j5 ?_
    rw [j1]
    by_cases c : a0 = 0
    · rw [if_pos c, if_pos c]
    · rw [if_neg c, if_neg c]
  · have q := RCH_cl (V := fun s => (u_val A s = true ∧ s < (A 6 0) ^ (A 6 1)) ∧ U (ps A s) = true) ⟨hmo, u1.2.2⟩ (fun s p k hs hp => by
      obtain ⟨t, h, ht, hh, hne, hv, e⟩ := nbA_mem.mp hp
      cases e
      refine ⟨⟨hv, mvp_lt hh⟩, ?_⟩
      have hw := ps_wl V.1 hv
      rw [← ps_mv V.1 h0 ht hh] at hw ⊢
      exact u3 _ t h hs.2 ht hh hw) s hs
    exact q.2
theorem reach_n {F : Nat} {A : LT} {mc mm mm2 : MM} {V1 : Nat → Bool} {q : Nat → Nat} {many : Nat} {U : Nat → Bool} (V : AV A) (L : FLO mc A (u_hm A) V1 q many) (hV : ∀ s, V1 s = true ↔ RCH A (u_hm A) s) (h1 : ∀ c, U c = true → c < 5 ^ (A 6 1) ∧ u_wl A c = true ∧ RCH A (u_hm A) (ph A c)) (h2 : ∀ s, RCH A (u_hm A) s → U (ps A s) = true) : many = ctP U (5 ^ (A 6 1)) := by
  have h0 := V.2.2.2.1
  have hmo := hm_ok0 V
  rw [L.2.2.2.1]
  refine Nat.le_antisymm (count_inj (g := ps A) _ U (fun i hi hp => ⟨ps_N V.1, h2 i ((hV i).mp hp)⟩) (fun i j hi hj hp hp2 e => ?_)) (count_inj (g := ph A) _ V1 (fun i hi hp => ⟨ph_N (wl_t.mp (h1 i hp).2.1), (hV _).mpr (h1 i hp).2.2⟩) (fun i j hi hj hp hp2 e => ?_))
  · have v1 := RCH_val V.1 hmo.1 hmo.2 ((hV i).mp hp)
    have v2 := RCH_val V.1 hmo.1 hmo.2 ((hV j).mp hp2)
    rw [← ph_ps V.1 v1.1 v1.2, ← ph_ps V.1 v2.1 v2.2, e]
  · rw [← ps_ph V.1 h0 (h1 i hp).2.1 (h1 i hp).1, ← ps_ph V.1 h0 (h1 j hp2).2.1 (h1 j hp2).1, e]
theorem FX_ff {a b : MM} (h : FF a b) : FX a b := fun q hq => h q (by omega) (by omega) (by omega) (by omega) (by omega)
theorem G_12 {m : MM} {A : LT} {pr f g : Nat → Nat} (G : GA m A pr f g) {c : Nat} (hc : c < 5 ^ (A 6 1)) : rI m 12 c = nI (f c) ∧ rI m 13 c = nI (g c) := G.1.2.1 c hc
theorem t_best {F : Nat} (hF : 1000000000000 ≤ F) (mc mm : MM) (a0 : Int32) (R : RelX (XT F) mc mm) : ∃ r mc2 mm2, f_X5_best F a0 mc = some (r, mc2) ∧ f_X6_best F a0 mm = some (r, mm2) ∧ RelX (XT F) mc2 mm2 := by
  obtain ⟨A, n, r1, r2, V, r4, r5, r6, r7, r8⟩ := id R
  obtain ⟨hi, P, p0, pc, pm⟩ := r7.2.2.2 (A 6 4) r4
  have h0 := V.2.2.2.1
  have b1 := V.1.1
  have b2 := V.1.2.1
  have hP := p5_le b2
  have hmo := hm_ok0 V
  have hnow := ps_N (s := u_hm A) V.1
  have FARd : FAR = 99999999 := rfl
  unfold f_X5_best f_X6_best
  rcases a_cs a0 6 with ⟨w, hw, rfl⟩ | h
  · obtain ⟨n1, f, g, g1, g2, g3, g4⟩ := gath_sp hF p0 pm r2 V.1 V.2.1 (Or.inl h0)
    have e12 := G_12 g2 hnow
    have gnw := inB_n (by omega : ps A (u_hm A) < 3125) (by decide : 3125 ≤ 2 ^ 31)
    have hxn : ix (nI (ps A (u_hm A))) = ps A (u_hm A) := ix_n (by omega)
    have now := now_sp (F := F) (by omega) V.1 g4
    rw [in_t hw (by omega) rfl, bd1_s, i_el, g1, bd1_s]
    rcases (show w = 0 ∨ w = 1 ∨ w = 2 ∨ w = 3 ∨ w = 4 ∨ w = 5 by omega) with rfl | rfl | rfl | rfl | rfl | rfl
    · obtain ⟨m1, fa, k1, k2, k3, k4⟩ := fewestC (F := F) (all := false) (by omega) V r1
      have k1' : f_X5_fewest F 0 mc = some (nI (fa (u_hm A)) - 1, m1) := k1
      have el := few_at V.1 (Or.inl h0) g2 hmo.1 hmo.2 k2
      have hb := k2.2.1 (u_hm A)
      refine ⟨nI (fa (u_hm A)) - 1, m1, n1, ?_, ?_, Rel_fr (XF_T F) (KC_fx k4) (KM_fy g3) R⟩
      · show (bd2 (f_X5_fewest F (0 : Int32) mc) fun r2 m4 => some (r2, m4)) = _
        rw [k1', bd2_s]
      · show (bd1 (f_X6_codeNow F n1) fun r10 => Gu (inB r10 3125) <| bd1 (f_X6_told1 (rI n1 12 (ix r10)) n1) fun r8 => some (r8, n1)) = _
        rw [now, bd1_s, Gu_of gnw, hxn, e12.1, el, told1_sp (by omega), bd1_s]
    · obtain ⟨m1, fa, k1, k2, k3, k4⟩ := fewestC (F := F) (all := false) (by omega) V r1
      have k1' : f_X5_fewest F 0 mc = some (nI (fa (u_hm A)) - 1, m1) := k1
      obtain ⟨r, q1, q2⟩ := first_eq (F := F) (a0 := 0) (d := f) (by omega) V g4 k3 k2 g2 (Or.inl ⟨rfl, rfl, rfl⟩)
      refine ⟨r, m1, n1, ?_, ?_, Rel_fr (XF_T F) (KC_fx k4) (KM_fy g3) R⟩
      · show (bd2 (f_X5_fewest F (0 : Int32) mc) fun r6 m8 => bd1 (f_X1_firstBest F m8) fun r9 => some (r9, m8)) = _
        rw [k1', bd2_s, q1, bd1_s]
      · show (bd1 (f_X6_moveBy F 0 n1) fun r19 => some (r19, n1)) = _
        rw [q2, bd1_s]
    · obtain ⟨m0, e1, e2, e3⟩ := ccosts_sp (F := F) (by omega) p0 pc r1 V.1
      obtain ⟨m1, fa, k1, k2, k3, k4, k5⟩ := leastC (F := F) (g := 0) (w := 0) (by omega) V (Nat.zero_le _) (Nat.zero_le _) (Or.inl rfl) (fun k _ => pr_99 k) (LC_fp e2 r1) e3
      rw [show nI 0 - 1 = (-1 : Int32) by decide, th_00 V] at k1
      rw [th_00 V] at k2
      have el := little_at V.1 (Or.inl h0) g2 hmo.1 hmo.2 k2
      have hb := k2.2.1 (u_hm A)
      refine ⟨nI (fa (u_hm A)) - 1, m1, n1, ?_, ?_, Rel_fr (XF_T F) (KC_fx (FX_tr (FX_fp e2) k4)) (KM_fy g3) R⟩
      · show (bd1 (f_X5_countCosts F mc) fun m13 => bd2 (f_X5_leastIf F (-1 : Int32) (-1 : Int32) m13) fun r14 m16 => some (r14, m16)) = _
        rw [e1, bd1_s, k1, bd2_s]
      · show (bd1 (f_X6_codeNow F n1) fun r10 => Gu (inB r10 3125) <| bd1 (f_X6_told1 (rI n1 13 (ix r10)) n1) fun r8 => some (r8, n1)) = _
        rw [now, bd1_s, Gu_of gnw, hxn, e12.2, el, told1_sp (by omega), bd1_s]
    · obtain ⟨m0, e1, e2, e3⟩ := ccosts_sp (F := F) (by omega) p0 pc r1 V.1
      obtain ⟨m1, fa, k1, k2, k3, k4, k5⟩ := leastC (F := F) (g := 0) (w := 0) (by omega) V (Nat.zero_le _) (Nat.zero_le _) (Or.inl rfl) (fun k _ => pr_99 k) (LC_fp e2 r1) e3
      rw [show nI 0 - 1 = (-1 : Int32) by decide, th_00 V] at k1
      rw [th_00 V] at k2 k3
      obtain ⟨r, q1, q2⟩ := first_eq (F := F) (a0 := 1) (d := g) (by omega) V g4 k3 k2 g2 (Or.inr ⟨rfl, rfl, rfl⟩)
      refine ⟨r, m1, n1, ?_, ?_, Rel_fr (XF_T F) (KC_fx (FX_tr (FX_fp e2) k4)) (KM_fy g3) R⟩
      · show (bd1 (f_X5_countCosts F mc) fun m19 => bd2 (f_X5_leastIf F (-1 : Int32) (-1 : Int32) m19) fun r20 m22 => bd1 (f_X1_firstBest F m22) fun r23 => some (r23, m22)) = _
        rw [e1, bd1_s, k1, bd2_s, q1, bd1_s]
      · show (bd1 (f_X6_moveBy F 1 n1) fun r19 => some (r19, n1)) = _
        rw [q2, bd1_s]
    · obtain ⟨m1, e1, e2, e3⟩ := think_sp (F := F) (g := 0) (w := 0) (by omega) V (Nat.zero_le _) (Nat.zero_le _) (Or.inl rfl) r1
      rw [show nI 0 - 1 = (-1 : Int32) by decide] at e1
      rw [th_00 V] at e2
      obtain ⟨m2, V1, q, many, u1, u2, u3, u4⟩ := flood_sp (F := F) (by omega) V.1 e2
      obtain ⟨U, y, m3, v1, v2, v3, v4, v5, v6⟩ := reaches_sp (F := F) (by omega) V g4 g2 0
      have en := reach_n (F := F) (mm := mm) (mm2 := mm) V u2 u4 v2 v3
      refine ⟨nI many, m2, m3, ?_, ?_, Rel_fr (XF_T F) (KC_fx (FX_tr (FX_th e3) (FX_ff u3))) (KM_fy (FY_tr g3 ⟨fun q h1 h2 => v6 q (by omega), fun i _ => r_row (v6 0 (by decide)) i⟩)) R⟩
      · show (bd1 (f_X5_think F (-1 : Int32) (-1 : Int32) mc) fun m27 => bd2 (f_X1_flood F m27) fun r28 m30 => some (r28, m30)) = _
        rw [e1, bd1_s, u1, bd2_s]
      · show (bd2 (f_X6_reaches F 0 n1) fun r14 m16 => some (r14, m16)) = _
        rw [v1, bd2_s, if_pos rfl, en]
    · obtain ⟨m1, fa, k1, k2, k3, k4⟩ := fewestC (F := F) (all := true) (by omega) V r1
      have k1' : f_X5_fewest F 1 mc = some (nI (fa (u_hm A)) - 1, m1) := k1
      obtain ⟨m2, y, u1, u2, u3⟩ := farthest_sp (F := F) (by omega) V.1 k3.1 k2.1 k2.2.1
      obtain ⟨U, y2, m3, v1, v2, v3, v4, v5, v6⟩ := reaches_sp (F := F) (by omega) V g4 g2 1
      have fs : ∀ s, RCH A (u_hm A) s → f (ps A s) = tM (fa s) := fun s hs => by
        have v := RCH_val V.1 hmo.1 hmo.2 hs
        exact LD_few V.1 (Or.inl h0) g2 v.1 v.2 (k2.2.1 s) (k2.2.2.2.1 rfl s)
      have gr2 : GR A (u_hm A) fa y2 := by
        refine ⟨fun s hs => ?_, ?_⟩
        · have hb := k2.2.1 s
          have tm := tM_lt (x := fa s) (by omega)
          by_cases c : fa s = 0
          · omega
          · have q := v4 (ps A s) (v3 s hs) (by rw [fs s hs, tm.2]; exact c)
            rw [fs s hs] at q
            unfold tM at q
            rw [if_neg c] at q
            omega
        · rcases v5 with e | ⟨c, c1, c2, c3⟩
          · exact Or.inl e
          · right
            have v := v2 c c1
            have e := fs _ v.2.2
            rw [ps_ph V.1 h0 v.2.1 v.1] at e
            have hb := k2.2.1 (ph A c)
            have tm := tM_lt (x := fa (ph A c)) (by omega)
            have hne : fa (ph A c) ≠ 0 := by rw [← tm.2, ← e]; exact c2
            refine ⟨ph A c, v.2.2, ?_⟩
            unfold tM at e
            rw [if_neg hne] at e
            omega
      have ey := GR_un u2 gr2
      refine ⟨nI y - 1, m2, m3, ?_, ?_, Rel_fr (XF_T F) (KC_fx (FX_tr k4 (FX_ff u3))) (KM_fy (FY_tr g3 ⟨fun q h1 h2 => v6 q (by omega), fun i _ => r_row (v6 0 (by decide)) i⟩)) R⟩
      · show (bd2 (f_X5_fewest F (1 : Int32) mc) fun r32 m34 => bd2 (f_X1_farthest F m34) fun r35 m37 => some (r35, m37)) = _
        rw [k1', bd2_s, u1, bd2_s]
      · show (bd2 (f_X6_reaches F 1 n1) fun r14 m16 => some (r14, m16)) = _
        rw [v1, bd2_s, if_neg h10, ey]
  · rw [in_f h rfl, bd1_s, i_if]
    have e : ∀ k, k < 6 → ¬ a0 = nI k := fun k hk z => h (by rw [z, nI_toInt (by omega)]; omega)
    rw [if_neg (show ¬ a0 = 0 from e 0 (by decide)), if_neg (show ¬ a0 = 1 from e 1 (by decide)), if_neg (show ¬ a0 = 2 from e 2 (by decide)), if_neg (show ¬ a0 = 3 from e 3 (by decide)), if_neg (show ¬ a0 = 4 from e 4 (by decide)), if_neg (show ¬ a0 = 5 from e 5 (by decide))]
    exact ⟨_, _, _, rfl, rfl, R⟩
