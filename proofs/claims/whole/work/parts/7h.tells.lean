/-! A WHOLE TEXT, and what its code tells -/
def TXM (mm : MM) (i : Nat) (B : Nat → Nat) (n : Nat) : Prop := (∀ j, j < n → rI mm 1 (160 * i + j) = nI (B j)) ∧ rI mm 2 i = nI n
def REO (F i : Nat) (B : Nat → Nat) (n : Nat) (r : Int32) (mc2 : MM) : Prop := (r = -1 ∧ ∃ L0 L1 L2 : List Nat, CCX mc2 (39 + 4 * i) (L0 ++ L1 ++ L2) ∧ L0.length + L1.length + L2.length ≤ 160 ∧ rI mc2 (39 + 4 * i + 2) 0 = nI 0 ∧ rI mc2 (39 + 4 * i + 2) 1 = nI L0.length ∧ rI mc2 (39 + 4 * i + 2) 2 = nI (L0.length + L1.length) ∧ rI mc2 (39 + 4 * i + 2) 3 = nI (L0.length + L1.length + L2.length) ∧ ∀ mm, TXM mm i B n → ∃ y0 y1 y2, EVX (nmM mm) L0 y0 31 ∧ EVX (nmM mm) L1 y1 31 ∧ EVX (nmM mm) L2 y2 31 ∧ ∀ a1 : Int32, ∃ mm2, f_X6_read F (nI i) a1 mm = some (if a1 = 0 then y0 else if a1 = 1 then y1 else y2, mm2) ∧ FN mm mm2 ∧ rI mm2 0 32 = 0) ∨ (∃ p, p ≤ n ∧ r = nI p ∧ ∀ mm, TXM mm i B n → ∀ a1 : Int32, ∃ v mm2, f_X6_read F (nI i) a1 mm = some (v, mm2) ∧ FN mm mm2 ∧ rI mm2 0 32 = 1 ∧ rI mm2 0 33 = nI p)
theorem FN_x {a b : MM} (h : FMX a b) : FN a b := ⟨h.1, fun i hi => h.2 i (by omega)⟩
theorem KT_i {i : Nat} (hi : i < 6) : KTX (39 + 4 * i) := by
  unfold KTX
  omega
/-- how the model begins -/
theorem begin_M {F i n t v p j : Nat} {B : Nat → Nat} (hi : i < 6) (hB : BT B n) (advM : ∀ (mm : MM) fr, fr ≤ 800 → MTX mm B n fr → rI mm 0 27 = nI 0 → ∃ mm', f_X6_next F mm = some mm' ∧ Q0 mm mm' ∧ MPX mm' B t v p j) (mm : MM) (h : TXM mm i B n) : ∃ mm7, OKM B n 0 t v p j (160 * i) mm7 ∧ FN mm mm7 ∧ nmM mm7 = nmM mm ∧ ∀ a1, f_X6_read F (nI i) a1 mm = R0 F a1 mm7 := by
  have hn := hB.1
  have e160 : (160 : Int32) * nI i = nI (160 * i) := by rw [show (160 : Int32) = nI 160 from rfl, n_mul]
  have f1 : rI (wI mm 0 25 (nI (160 * i))) 2 i = nI n := (rI_ne (by decide)).trans h.2
  obtain ⟨mm7, c1, c2, c3⟩ := advM (wI (wI (wI (wI (wI mm 0 25 (nI (160 * i))) 0 26 (nI n)) 0 27 0) 0 31 0) 0 32 0) (160 * i) (by omega) ⟨(rI_nj (by decide)).trans ((rI_nj (by decide)).trans ((rI_nj (by decide)).trans ((rI_nj (by decide)).trans rI_eq))), (rI_nj (by decide)).trans ((rI_nj (by decide)).trans ((rI_nj (by decide)).trans rI_eq)), fun j hj => (rI_ne (by decide)).trans ((rI_ne (by decide)).trans ((rI_ne (by decide)).trans ((rI_ne (by decide)).trans ((rI_ne (by decide)).trans (h.1 j hj)))))⟩ ((rI_nj (by decide)).trans ((rI_nj (by decide)).trans rI_eq))
  have fn : FN mm (wI (wI (wI (wI (wI mm 0 25 (nI (160 * i))) 0 26 (nI n)) 0 27 0) 0 31 0) 0 32 0) := FN_w (by decide) (by decide) (FN_w (by decide) (by decide) (FN_w (by decide) (by decide) (FN_w (by decide) (by decide) (FN_w (by decide) (by decide) (FN_rf mm)))))
  refine ⟨mm7, ⟨by omega, ?_, ?_, ?_, c3⟩, FN_tr fn (FN_x (FMX_q c2)), ?_, fun a1 => ?_⟩
  · refine MT_q c2 ⟨(rI_nj (by decide)).trans ((rI_nj (by decide)).trans ((rI_nj (by decide)).trans ((rI_nj (by decide)).trans rI_eq))), (rI_nj (by decide)).trans ((rI_nj (by decide)).trans ((rI_nj (by decide)).trans rI_eq)), fun j hj => (rI_ne (by decide)).trans ((rI_ne (by decide)).trans ((rI_ne (by decide)).trans ((rI_ne (by decide)).trans ((rI_ne (by decide)).trans (h.1 j hj)))))⟩
  · rw [c2.2 31 (by omega), rI_nj (by decide), rI_eq]
    rfl
  · rw [c2.2 32 (by omega), rI_eq]
  · rw [nmM_f (FMX_q c2)]
    funext k
    unfold nmM
    by_cases ck : k < 6
    · rw [if_pos ck, if_pos ck, rI_nj (by omega), rI_nj (by omega), rI_nj (by omega), rI_nj (by omega), rI_nj (by omega)]
    · rw [if_neg ck, if_neg ck]
  · rw [read_unf, e160, Lt_d, Gu_of (inB_n hi (by decide)), ix_n (by omega), f1, Lt_d, Lt_d, Lt_d, Gu_of bz0, Lt_d, c1, bd1_s]
theorem read_sim {F i n : Nat} {B : Nat → Nat} {mc : MM} (hF : 1004 ≤ F) (hi : i < 6) (hB : BT B n) (hc : CTX mc B n) : ∃ r mc2, f_X3_read F (39 + 4 * i) mc = some (r, mc2) ∧ (∀ q, q ≠ 36 → q ≠ 39 + 4 * i → q ≠ 39 + 4 * i + 1 → q ≠ 39 + 4 * i + 2 → mc2.1 q = mc.1 q) ∧ REO F i B n r mc2 := by
  have hn := hB.1
  have hk := KT_i hi
  have h39 := KT_39 hk
  obtain ⟨G, rfl⟩ : ∃ G, F = G + 4 := ⟨F - 4, by omega⟩
  have hF' : 1000 ≤ G + 4 := by omega
  unfold REO
  generalize hkk : 39 + 4 * i = k at *
  obtain ⟨t, v, p, j, T0, _, advC, advM⟩ := adv (F := G + 4) (j := 0) hF' hB (Nat.zero_le n)
  have BM := fun mm h => begin_M (F := G + 4) hi hB advM mm h
  have c5 : CTX (wI (wI (wI mc 36 6 (nI k)) k 3 0) 36 2 0) B n := ⟨(rI_nj (by decide)).trans ((rI_ne (by omega)).trans ((rI_nj (by decide)).trans hc.1)), fun i hi => (rI_ne (by decide)).trans ((rI_ne (by omega)).trans ((rI_ne (by decide)).trans (hc.2 i hi)))⟩
  obtain ⟨m7, a1, a2, a3⟩ := advC _ c5 rI_eq
  have P7' : PRE B n k m7 [] t v p j := ⟨CT_q a2 c5, (a2.2 6 (Or.inr rfl)).trans ((rI_nj (by decide)).trans ((rI_ne (by omega)).trans rI_eq)), a3, T0, ⟨(r_row (a2.1 k (by omega)) 3).trans ((rI_ne (by omega)).trans rI_eq), fun i x hx => by cases hx⟩⟩
  have q7 : ∀ q, q ≠ 36 → q ≠ k → q ≠ k + 1 → q ≠ k + 2 → m7.1 q = mc.1 q := fun q h1 h2 h3 h4 => (a2.1 q h1).trans ((row_ne h1).trans ((row_ne h2).trans (row_ne h1)))
  have unf : f_X3_read (G + 4) k mc = f_X3_read_L23 (G + 4) (fun x2_8 m9 => Gu (isTxB (rI m9 36 6)) <| bd1 (f_X4_begin (ix (rI m9 36 6)) (3 : Int32) m9) fun m24 => if (rI m24 36 3) = (2 : Int32) then some ((-1 : Int32), m24) else some (rI m24 36 4, m24)) (G + 3 + 1) (nI 0) m7 := by
    unfold f_X3_read
    rw [Lt_d, rI_eq, Gu_of (KT_B hk), ix_n (by omega)]
    unfold f_X4_clear
    rw [Lt_d, bd1_s, Lt_d, a1, bd1_s]
    rfl
  rcases part_sim (x := 0) hF' hB hk (by decide) P7' (Nat.zero_le _) with ⟨m8, L0, t1, v1, p1, j1, b1, b2, b3, b4, b5, b6⟩ | ⟨m8, p1, b1, b2, b3, b4⟩
  · rcases part_sim (x := 1) hF' hB hk (by decide) b2 b3 with ⟨m9, L1, t2, v2, p2, j2, d1, d2, d3, d4, d5, d6⟩ | ⟨m9, p2, d1, d2, d3, d4⟩
    · rcases part_sim (x := 2) hF' hB hk (by decide) d2 d3 with ⟨m10, L2, t3, v3, p3, j3, e1, e2, e3, e4, e5, e6⟩ | ⟨m10, p3, e1, e2, e3, e4⟩
      · have hT3 := e2.2.2.2.1
        have hp3n := Nat.le_trans hT3.1 hT3.2.1
        have et : rI m10 36 3 = nI t3 := e2.2.2.1.1
        have ep : rI m10 36 4 = nI p3 := e2.2.2.1.2.1
        have hlen : ([] ++ L0 ++ L1 ++ L2 : List Nat).length = L0.length + L1.length + L2.length := by simp [Nat.add_assoc]
        have qa : ∀ q, q ≠ 36 → q ≠ k → q ≠ k + 1 → q ≠ k + 2 → (wI m10 (k + 2) 3 (nI (L0.length + L1.length + L2.length))).1 q = mc.1 q := fun q h1 h2 h3 h4 => (row_ne h4).trans ((e4.1 q h1 h2 h3 h4).trans ((d4.1 q h1 h2 h3 h4).trans ((b4.1 q h1 h2 h3 h4).trans (q7 q h1 h2 h3 h4))))
        have fin : f_X3_read (G + 4) k mc = if t3 = 2 then some (-1, wI m10 (k + 2) 3 (nI (L0.length + L1.length + L2.length))) else some (nI p3, wI m10 (k + 2) 3 (nI (L0.length + L1.length + L2.length))) := by
          rw [unf, b1, show G + 3 = (G + 2) + 1 from rfl, d1, show G + 2 = (G + 1) + 1 from rfl, e1]
          unfold f_X3_read_L23
          rw [if_pos (show (3 : Int32) ≤ nI (2 + 1) by decide), e2.2.1, Gu_of (KT_B hk), ix_n (by omega)]
          unfold f_X4_begin
          rw [Gu_of (show inB (3 : Int32) 4 = true by decide), e2.2.2.2.2.1, hlen, Lt_d, bd1_s, show ix (3 : Int32) = 3 from rfl, rI_ne (by omega), et, rI_ne (by omega), ep]
          by_cases c2 : t3 = 2
          · rw [if_pos c2, if_pos (by rw [c2]; rfl)]
          · rw [if_neg c2, if_neg (by rw [show (2 : Int32) = nI 2 from rfl, n_eq (by have := hT3.2.2.2.2.2; omega) (by omega)]; exact c2)]
        -- the model's side
        have modl : ∀ mm, TXM mm i B n → ∃ y0 y1 y2 mmc, EVX (nmM mm) L0 y0 31 ∧ EVX (nmM mm) L1 y1 31 ∧ EVX (nmM mm) L2 y2 31 ∧ FN mm mmc ∧ OKM B n 0 t3 v3 p3 j3 (160 * i) mmc ∧ ∀ a1, f_X6_read (G + 4) (nI i) a1 mm = R3 (G + 4) a1 y0 y1 y2 mmc := fun mm hm => by
          obtain ⟨mm7, s1, s2, s3, s4⟩ := BM mm hm
          obtain ⟨r0, y0, mma, f1, f2, f3, f4, f5⟩ := b6 mm7 _ s1
          obtain ⟨r1, y1, mmb, g1, g2, g3, g4, g5⟩ := d6 mma _ f4
          obtain ⟨r2, y2, mmc, h1, h2, h3, h4, h5⟩ := e6 mmb _ g4
          rw [s3] at f5
          rw [nmM_f f3, s3] at g5
          rw [nmM_f g3, nmM_f f3, s3] at h5
          refine ⟨y0, y1, y2, mmc, f5, g5, h5, FN_tr s2 (FN_tr (FN_x f3) (FN_tr (FN_x g3) (FN_x h3))), h4, fun a1 => ?_⟩
          rw [s4]
          unfold R0
          rw [f1, bd1_s, f2, bd2_s]
          unfold R1
          rw [f4.2.2.2.1, if_pos rfl, g1, bd1_s, g2, bd2_s]
          unfold R2
          rw [g4.2.2.2.1, if_pos rfl, h1, bd1_s, h2, bd2_s]
        by_cases c2 : t3 = 2
        · refine ⟨-1, _, by rw [fin, if_pos c2], qa, Or.inl ⟨rfl, L0, L1, L2, ?_, ?_, ?_, ?_, ?_, ?_, fun mm hm => ?_⟩⟩
          · have q := e2.2.2.2.2
            rw [List.nil_append] at q
            exact CC_f (row_ne (by omega)) (row_ne (by omega)) q
          · rw [hlen] at e3
            omega
          · rw [rI_nj (by decide), e5, if_neg (by decide), d5, if_neg (by decide), b5, if_pos rfl]
            rfl
          · rw [rI_nj (by decide), e5, if_neg (by decide), d5, if_pos rfl, List.nil_append]
          · rw [rI_nj (by decide), e5, if_pos rfl, List.nil_append, List.length_append]
          · exact rI_eq
          · obtain ⟨y0, y1, y2, mmc, z1, z2, z3, z4, z5, z6⟩ := modl mm hm
            refine ⟨y0, y1, y2, z1, z2, z3, fun a1 => ⟨mmc, ?_, z4, z5.2.2.2.1⟩⟩
            rw [z6]
            unfold R3
            rw [z5.2.2.2.1, if_pos rfl, if_pos ((kind0 z5).mpr c2)]
            by_cases c0 : a1 = 0
            · rw [if_pos c0, if_pos c0]
            · rw [if_neg c0, if_neg c0]
              by_cases c1 : a1 = 1
              · rw [if_pos c1, if_pos c1]
              · rw [if_neg c1, if_neg c1]
        · refine ⟨nI p3, _, by rw [fin, if_neg c2], qa, Or.inr ⟨p3, hp3n, rfl, fun mm hm a1 => ?_⟩⟩
          obtain ⟨y0, y1, y2, mmc, z1, z2, z3, z4, z5, z6⟩ := modl mm hm
          obtain ⟨m2, w1, w2, w3, w4⟩ := fail_ok z5
          rw [z6]
          unfold R3
          rw [z5.2.2.2.1, if_pos rfl, if_neg (fun z => c2 ((kind0 z5).mp z)), w1, bd1_s]
          by_cases c0 : a1 = 0
          · rw [if_pos c0]
            exact ⟨_, m2, rfl, FN_tr z4 (FN_x w2), w3, w4⟩
          · rw [if_neg c0]
            by_cases c1 : a1 = 1
            · rw [if_pos c1]
              exact ⟨_, m2, rfl, FN_tr z4 (FN_x w2), w3, w4⟩
            · rw [if_neg c1]
              exact ⟨_, m2, rfl, FN_tr z4 (FN_x w2), w3, w4⟩
      · refine ⟨nI p3, m10, by rw [unf, b1, show G + 3 = (G + 2) + 1 from rfl, d1, show G + 2 = (G + 1) + 1 from rfl, e1], fun q h1 h2 h3 h4 => (e3.1 q h1 h2 h3 h4).trans ((d4.1 q h1 h2 h3 h4).trans ((b4.1 q h1 h2 h3 h4).trans (q7 q h1 h2 h3 h4))), Or.inr ⟨p3, e2, rfl, fun mm hm a1 => ?_⟩⟩
        obtain ⟨mm7, s1, s2, s3, s4⟩ := BM mm hm
        obtain ⟨r0, y0, mma, f1, f2, f3, f4, f5⟩ := b6 mm7 _ s1
        obtain ⟨r1, y1, mmb, g1, g2, g3, g4, g5⟩ := d6 mma _ f4
        obtain ⟨r2, y2, mmc, h1, h2, h3, h4, h5⟩ := e4 mmb _ g4
        obtain ⟨w, hw⟩ := R3_bad (F := G + 4) (a1 := a1) (a := y0) (b := y1) (c := y2) h4
        refine ⟨w, mmc, ?_, FN_tr s2 (FN_tr (FN_x f3) (FN_tr (FN_x g3) (FN_x h3))), h4, h5⟩
        rw [s4]
        unfold R0
        rw [f1, bd1_s, f2, bd2_s]
        unfold R1
        rw [f4.2.2.2.1, if_pos rfl, g1, bd1_s, g2, bd2_s]
        unfold R2
        rw [g4.2.2.2.1, if_pos rfl, h1, bd1_s, h2, bd2_s]
        exact hw
    · refine ⟨nI p2, m9, by rw [unf, b1, show G + 3 = (G + 2) + 1 from rfl, d1], fun q h1 h2 h3 h4 => (d3.1 q h1 h2 h3 h4).trans ((b4.1 q h1 h2 h3 h4).trans (q7 q h1 h2 h3 h4)), Or.inr ⟨p2, d2, rfl, fun mm hm a1 => ?_⟩⟩
      obtain ⟨mm7, s1, s2, s3, s4⟩ := BM mm hm
      obtain ⟨r0, y0, mma, f1, f2, f3, f4, f5⟩ := b6 mm7 _ s1
      obtain ⟨r1, y1, mmb, g1, g2, g3, g4, g5⟩ := d4 mma _ f4
      obtain ⟨w, hw⟩ := R2_bad (F := G + 4) (a1 := a1) (a := y0) (b := y1) g4
      refine ⟨w, mmb, ?_, FN_tr s2 (FN_tr (FN_x f3) (FN_x g3)), g4, g5⟩
      rw [s4]
      unfold R0
      rw [f1, bd1_s, f2, bd2_s]
      unfold R1
      rw [f4.2.2.2.1, if_pos rfl, g1, bd1_s, g2, bd2_s]
      exact hw
  · refine ⟨nI p1, m8, by rw [unf, b1], fun q h1 h2 h3 h4 => (b3.1 q h1 h2 h3 h4).trans (q7 q h1 h2 h3 h4), Or.inr ⟨p1, b2, rfl, fun mm hm a1 => ?_⟩⟩
    obtain ⟨mm7, s1, s2, s3, s4⟩ := BM mm hm
    obtain ⟨r0, y0, mma, f1, f2, f3, f4, f5⟩ := b4 mm7 _ s1
    obtain ⟨w, hw⟩ := R1_bad (F := G + 4) (a1 := a1) (a := y0) f4
    refine ⟨w, mma, ?_, FN_tr s2 (FN_x f3), f4, f5⟩
    rw [s4]
    unfold R0
    rw [f1, bd1_s, f2, bd2_s]
    exact hw
/-- the stack, its top first -/
def SK (m : MM) (q : Nat) : List Int32 → Prop
  | [] => True
  | x :: r => rI m q r.length = x ∧ SK m q r
theorem SK_w {m : MM} {q i : Nat} {v : Int32} : ∀ {st : List Int32}, st.length ≤ i → SK m q st → SK (wI m q i v) q st
  | [], _, _ => trivial
  | x :: r, h, s => by
    have h' : r.length + 1 ≤ i := h
    exact ⟨(rI_nj (by omega)).trans s.1, SK_w (by omega) s.2⟩
theorem n_m1 (a : Nat) : nI (a + 1) + (-1 : Int32) = nI a := by
  rw [← n_p a, Int32.sub_eq_add_neg]
theorem of2_sp {y : Nat} {a b : Int32} {m : MM} (h1 : 20000 ≤ y) (h2 : y < 30000) : f_X4_ofTwo (nI (y - 20000)) a b m = some (two y a b) := by
  have e : ∀ k, k < 100 → (nI (y - 20000) = nI k ↔ y = 20000 + k) := fun k hk => by
    rw [n_eq (by omega) (by omega)]
    omega
  unfold f_X4_ofTwo two
  by_cases c1 : y = 20010
  · rw [if_pos (show nI (y - 20000) = (10 : Int32) from (e 10 (by decide)).mpr c1), if_pos c1]
    by_cases q : a = 0
    · rw [if_pos q, if_pos q]
    · rw [if_neg q, if_neg q]
      by_cases q2 : b = 0
      · rw [if_pos q2, if_pos q2]
      · rw [if_neg q2, if_neg q2]
  rw [if_neg (show ¬ nI (y - 20000) = (10 : Int32) from fun z => c1 ((e 10 (by decide)).mp z)), if_neg c1]
  by_cases c2 : y = 20042
  · rw [if_pos (show nI (y - 20000) = (42 : Int32) from (e 42 (by decide)).mpr c2), if_pos c2]
  rw [if_neg (show ¬ nI (y - 20000) = (42 : Int32) from fun z => c2 ((e 42 (by decide)).mp z)), if_neg c2]
  by_cases c3 : y = 20043
  · rw [if_pos (show nI (y - 20000) = (43 : Int32) from (e 43 (by decide)).mpr c3), if_pos c3]
  rw [if_neg (show ¬ nI (y - 20000) = (43 : Int32) from fun z => c3 ((e 43 (by decide)).mp z)), if_neg c3]
  by_cases c4 : y = 20045
  · rw [if_pos (show nI (y - 20000) = (45 : Int32) from (e 45 (by decide)).mpr c4), if_pos c4]
  rw [if_neg (show ¬ nI (y - 20000) = (45 : Int32) from fun z => c4 ((e 45 (by decide)).mp z)), if_neg c4]
  by_cases c5 : y = 20060
  · rw [if_pos (show nI (y - 20000) = (60 : Int32) from (e 60 (by decide)).mpr c5), if_pos c5]
    by_cases q : b ≤ a
    · rw [if_pos q, if_pos q]
    · rw [if_neg q, if_neg q]
  rw [if_neg (show ¬ nI (y - 20000) = (60 : Int32) from fun z => c5 ((e 60 (by decide)).mp z)), if_neg c5]
  by_cases c6 : y = 20061
  · rw [if_pos (show nI (y - 20000) = (61 : Int32) from (e 61 (by decide)).mpr c6), if_pos c6]
    by_cases q : a = b
    · rw [if_pos q, if_pos q]
    · rw [if_neg q, if_neg q]
  rw [if_neg (show ¬ nI (y - 20000) = (61 : Int32) from fun z => c6 ((e 61 (by decide)).mp z)), if_neg c6]
  by_cases q : a = 0
  · rw [if_pos q, if_pos q]
    by_cases q2 : b = 0
    · rw [if_pos q2, if_pos q2]
    · rw [if_neg q2, if_neg q2]
  · rw [if_neg q, if_neg q]
theorem of1_sp {y : Nat} {a : Int32} {m : MM} (h : y = 20001 ∨ y = 20011) : f_X4_ofOne (nI (y - 20000)) a m = some (onev y a) := by
  unfold f_X4_ofOne onev
  rcases h with h | h
  · subst h
    rw [if_pos (show nI (20001 - 20000) = (1 : Int32) from rfl), if_pos rfl]
  · subst h
    rw [if_neg (show ¬ nI (20011 - 20000) = (1 : Int32) by decide), if_neg (show ¬ (20011 : Nat) = 20001 by decide)]
    by_cases q : a = 0
    · rw [if_pos q, if_pos q]
    · rw [if_neg q, if_neg q]
