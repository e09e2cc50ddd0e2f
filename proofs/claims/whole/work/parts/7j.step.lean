/-! THE STEP TEXT -/
theorem XT_new {F i n : Nat} {B : Nat → Nat} {mc2 mm : MM} {L0 L1 L2 : List Nat} (hF : 1000 ≤ F) (hi : i < 6) (hn : n ≤ 160) (hT : TXM mm i B n) (hc : CCX mc2 (39 + 4 * i) (L0 ++ L1 ++ L2)) (hl : L0.length + L1.length + L2.length ≤ 160) (b0 : rI mc2 (39 + 4 * i + 2) 0 = nI 0) (b1 : rI mc2 (39 + 4 * i + 2) 1 = nI L0.length) (b2 : rI mc2 (39 + 4 * i + 2) 2 = nI (L0.length + L1.length)) (b3 : rI mc2 (39 + 4 * i + 2) 3 = nI (L0.length + L1.length + L2.length)) (hm : ∀ mm, TXM mm i B n → ∃ y0 y1 y2, EVX (nmM mm) L0 y0 31 ∧ EVX (nmM mm) L1 y1 31 ∧ EVX (nmM mm) L2 y2 31 ∧ ∀ a1 : Int32, ∃ mm2, f_X6_read F (nI i) a1 mm = some (if a1 = 0 then y0 else if a1 = 1 then y1 else y2, mm2) ∧ FN mm mm2 ∧ rI mm2 0 32 = 0) : XT F mc2 mm i := by
  have hk := KT_i hi
  -- the same for any names
  have runs : ∀ nm : Nat → Int32, ∃ y0 y1 y2, run (nm6 nm) L0 [] = some [y0] ∧ run (nm6 nm) L1 [] = some [y1] ∧ run (nm6 nm) L2 [] = some [y2] := fun nm => by
    have tm : TXM (fun q j => if q = 0 then (if 19 ≤ j then nm (j - 19) else 0) else if q = 1 then nI (B (j - 160 * i)) else nI n, fun _ _ => 0) i B n := by
      refine ⟨fun j hj => ?_, rfl⟩
      show nI (B (160 * i + j - 160 * i)) = _
      rw [Nat.add_sub_cancel_left]
    have en : nmM (fun q j => if q = 0 then (if 19 ≤ j then nm (j - 19) else 0) else if q = 1 then nI (B (j - 160 * i)) else nI n, fun _ _ => 0) = nm6 nm := by
      funext k
      unfold nmM nm6
      by_cases c : k < 6
      · rw [if_pos c, if_pos c]
        show (if 19 ≤ 19 + k then nm (19 + k - 19) else 0) = _
        rw [if_pos (by omega), Nat.add_sub_cancel_left]
      · rw [if_neg c, if_neg c]
    obtain ⟨y0, y1, y2, e0, e1, e2, _⟩ := hm _ tm
    rw [en] at e0 e1 e2
    exact ⟨y0, y1, y2, e0 [] (by decide), e1 [] (by decide), e2 [] (by decide)⟩
  have val : ∀ (nm : Nat → Int32) (L : List Nat) y, run (nm6 nm) L [] = some [y] → (match run (nm6 nm) L [] with | some (x :: _) => x | _ => 0) = y := fun nm L y h => by rw [h]
  refine ⟨hi, fun w nm => match run (nm6 nm) (if w = 0 then L0 else if w = 1 then L1 else L2) [] with | some (x :: _) => x | _ => 0, fun w nm nm2 h => ?_, fun mc3 e1 e2 e3 w hw => ?_, fun mm2 e1 e2 w hw => ?_⟩
  · have : nm6 nm = nm6 nm2 := by
      funext k
      unfold nm6
      by_cases c : k < 6
      · rw [if_pos c, if_pos c, h k c]
      · rw [if_neg c, if_neg c]
    show (match run (nm6 nm) _ [] with | some (x :: _) => x | _ => 0) = (match run (nm6 nm2) _ [] with | some (x :: _) => x | _ => 0)
    rw [this]
  · obtain ⟨y0, y1, y2, s0, s1, s2⟩ := runs (mc3.1 72)
    have k1 : 40 + 4 * i = 39 + 4 * i + 1 := by omega
    have k2 : 41 + 4 * i = 39 + 4 * i + 2 := by omega
    have k3 : 42 + 4 * i = 39 + 4 * i + 3 := by omega
    rw [k1] at e2
    rw [k2] at e3
    rw [k3]
    have bg : ∀ x, rI mc3 (39 + 4 * i + 2) x = rI mc2 (39 + 4 * i + 2) x := fun x => r_row e3 x
    have cd : ∀ x y, (L0 ++ L1 ++ L2)[x]? = some y → rI mc3 (39 + 4 * i + 1) x = nI y := fun x y h => (r_row e2 x).trans (hc.2 x y h)
    rcases (show w = 0 ∨ w = 1 ∨ w = 2 by omega) with rfl | rfl | rfl
    · obtain ⟨m2, z1, z2⟩ := tells_sp (F := F) (w := 0) (s := 0) (L := L0) hF hk (by decide) (by omega) ((bg 0).trans b0) ((bg 1).trans (by rw [b1, Nat.zero_add])) (fun x y h => by
        rw [Nat.zero_add]
        refine cd x y ?_
        have hx := (List.getElem?_eq_some_iff.mp h).1
        rw [List.append_assoc, List.getElem?_append_left hx]
        exact h) s0
      exact ⟨m2, by rw [z1]; exact congrArg (fun v => some (v, m2)) (val (mc3.1 72) L0 y0 s0).symm, z2⟩
    · obtain ⟨m2, z1, z2⟩ := tells_sp (F := F) (w := 1) (s := L0.length) (L := L1) hF hk (by decide) (by omega) ((bg 1).trans b1) ((bg 2).trans b2) (fun x y h => by
        refine cd (L0.length + x) y ?_
        have hx := (List.getElem?_eq_some_iff.mp h).1
        rw [List.append_assoc, List.getElem?_append_right (by omega), Nat.add_sub_cancel_left, List.getElem?_append_left hx]
        exact h) s1
      exact ⟨m2, by rw [z1]; exact congrArg (fun v => some (v, m2)) (val (mc3.1 72) L1 y1 s1).symm, z2⟩
    · obtain ⟨m2, z1, z2⟩ := tells_sp (F := F) (w := 2) (s := L0.length + L1.length) (L := L2) hF hk (by decide) (by omega) ((bg 2).trans b2) ((bg 3).trans b3) (fun x y h => by
        refine cd (L0.length + L1.length + x) y ?_
        rw [List.getElem?_append_right (by rw [List.length_append]; omega), List.length_append, Nat.add_sub_cancel_left]
        exact h) s2
      exact ⟨m2, by rw [z1]; exact congrArg (fun v => some (v, m2)) (val (mc3.1 72) L2 y2 s2).symm, z2⟩
  · have tm : TXM mm2 i B n := ⟨fun j hj => (e1 j (by omega)).trans (hT.1 j hj), e2.trans hT.2⟩
    obtain ⟨y0, y1, y2, s0, s1, s2, s3⟩ := hm mm2 tm
    obtain ⟨m3, z1, z2, z3⟩ := s3 (nI w)
    have en : nmM mm2 = nm6 (fun k => rI mm2 0 (19 + k)) := rfl
    rw [en] at s0 s1 s2
    refine ⟨m3, ?_, z2⟩
    rw [z1]
    refine congrArg (fun v => some (v, m3)) ?_
    rcases (show w = 0 ∨ w = 1 ∨ w = 2 by omega) with rfl | rfl | rfl
    · exact (val _ L0 y0 (s0 [] (by decide))).symm
    · exact (val _ L1 y1 (s1 [] (by decide))).symm
    · exact (val _ L2 y2 (s2 [] (by decide))).symm
theorem Rel_text {F nt n2 : Nat} {A : LT} {mc mm mc4 mm4 : MM} (r1 : LC mc 1 A) (r2 : LM mm A) (V : AV A) (r4 : A 6 4 < nt) (r5 : RK mc mm A nt) (r8 : RS mc mm) (h : ∀ q, q ≠ 0 → q ≠ 36 → ¬ (39 ≤ q ∧ q < 63) → mc4.1 q = mc.1 q) (h9 : rI mc4 0 9 = rI mc 0 9) (h36 : rI mc4 36 1 = 0) (g : ∀ q, q ≠ 0 → q ≠ 1 → q ≠ 2 → mm4.1 q = mm.1 q) (g0 : ∀ i, i ≠ 3 → i ≠ 6 → (i < 19 ∨ 33 < i) → rI mm4 0 i = rI mm 0 i) (g6 : rI mm4 0 6 = 0) (hn : nt ≤ n2) (X : RX (XT F) mc4 mm4 n2) : RelX (XT F) mc4 mm4 :=
  ⟨A, n2, LC_fr (fun q h1 h2 => h q (by omega) (by omega) (by omega)) r1, LM_fr (fun q h1 h2 => g q (by omega) (by omega) (by omega)) (fun i hi => g0 i (by omega) (by omega) (by omega)) r2, V, by omega, RK_up hn (fun _ z => z) (RK_fr h9 (fun q h1 h2 => h q (by omega) (by omega) (by omega)) (g 18 (by decide) (by decide) (by decide)) (fun i hi => g0 i (by omega) (by omega) (by omega)) r5), ⟨0, by decide, h36, g6, fun i hi => absurd hi (Nat.not_lt_zero i)⟩, X, RS_fr (fun q h1 h2 => h q (by omega) (by omega) (by omega)) (fun q h1 h2 => g q (by omega) (by omega) (by omega)) r8⟩
theorem X_old {F i nt : Nat} {mc mm mc4 mm4 : MM} (hi : i < nt) (hX : XT F mc mm i) (h : ∀ q, 39 ≤ q → q < 63 → q ≠ 39 + 4 * nt → q ≠ 40 + 4 * nt → q ≠ 41 + 4 * nt → mc4.1 q = mc.1 q) (g1 : ∀ j, j < 160 * nt → rI mm4 1 j = rI mm 1 j) (g2 : ∀ j, j ≠ nt → rI mm4 2 j = rI mm 2 j) : XT F mc4 mm4 i := by
  obtain ⟨h6, P, p0, pc, pm⟩ := hX
  exact ⟨h6, P, p0, PC_fr (h _ (by omega) (by omega) (by omega) (by omega) (by omega)) (h _ (by omega) (by omega) (by omega) (by omega) (by omega)) (h _ (by omega) (by omega) (by omega) (by omega) (by omega)) pc, PM_i (fun j hj => g1 _ (by omega)) (g2 _ (by omega)) pm⟩
theorem copy_text {F nt s : Nat} {mm : MM} (hF : 1000 ≤ F) (hnt : nt < 6) (hs : s ≤ 160) (e3 : rI mm 0 3 = nI nt) (e6 : rI mm 0 6 = nI s) (K : MM → Option (Int32 × MM)) : ∃ m2, f_X6_text_L14 (fun _ m => K m) F 0 mm = K m2 ∧ (∀ q, q ≠ 1 → m2.1 q = mm.1 q) ∧ ∀ j, rI m2 1 j = if 160 * nt ≤ j ∧ j < 160 * nt + s then rI mm 3 (j - 160 * nt) else rI mm 1 j := by
  obtain ⟨m2, ⟨i1, i2⟩, i3⟩ := loop_inv (fun n i mx => f_X6_text_L14 (fun _ m => K m) n i mx) (fun mx => K mx) s (fun x mx => (∀ q, q ≠ 1 → mx.1 q = mm.1 q) ∧ ∀ j, rI mx 1 j = if 160 * nt ≤ j ∧ j < 160 * nt + x then rI mm 3 (j - 160 * nt) else rI mm 1 j) (fun n mx hI => by
    have f6 : rI mx 0 6 = nI s := (r_row (hI.1 0 (by decide)) 6).trans e6
    show f_X6_text_L14 _ (n + 1) _ _ = _
    unfold f_X6_text_L14
    rw [f6, if_pos (Int32.le_refl _)]) (fun x n mx hx hI => by
    have f6 : rI mx 0 6 = nI s := (r_row (hI.1 0 (by decide)) 6).trans e6
    have f3 : rI mx 0 3 = nI nt := (r_row (hI.1 0 (by decide)) 3).trans e3
    have f33 : rI mx 3 x = rI mm 3 x := r_row (hI.1 3 (by decide)) x
    have e160 : (160 : Int32) * nI nt + nI x = nI (160 * nt + x) := by rw [show (160 : Int32) = nI 160 from rfl, n_mul, nI_add]
    refine ⟨wI mx 1 (160 * nt + x) (rI mm 3 x), ⟨fun q hq => (row_ne hq).trans (hI.1 q hq), fun j => ?_⟩, ?_⟩
    · rw [rI_w, hI.2 j]
      by_cases c : j = 160 * nt + x
      · rw [if_pos ⟨rfl, c⟩, if_pos (by omega), c, Nat.add_sub_cancel_left]
      · rw [if_neg (fun z => c z.2)]
        by_cases c2 : 160 * nt ≤ j ∧ j < 160 * nt + x
        · rw [if_pos c2, if_pos (by omega)]
        · rw [if_neg c2, if_neg (by omega)]
    · show f_X6_text_L14 _ (n + 1) _ _ = _
      conv => lhs; unfold f_X6_text_L14
      rw [f6, if_neg (by rw [n_le (by omega) (by omega)]; omega), Gu_of (inB_n (by omega : x < 160) (by decide)), f3, e160, Gu_of (inB_n (by omega : 160 * nt + x < 960) (by decide)), ix_n (by omega : 160 * nt + x < 2 ^ 31), ix_n (by omega : x < 2 ^ 31), f33, Lt_d, Lt_d, n_s]) F mm (by omega) ⟨fun q _ => rfl, fun j => by rw [if_neg (by omega)]⟩
  exact ⟨m2, i3, i1, i2⟩
theorem t_text {F : Nat} (hF : 1000000000000 ≤ F) (mc mm : MM) (R : RelX (XT F) mc mm) : ∃ r mc2 mm2, f_X5_text F mc = some (r, mc2) ∧ f_X6_text F mm = some (r, mm2) ∧ RelX (XT F) mc2 mm2 := by
  obtain ⟨A, nt, r1, r2, V, r4, r5, r6, r7, r8⟩ := id R
  obtain ⟨h6, c8, m3, hX⟩ := r7
  obtain ⟨s, s1, s2, s3, s4⟩ := r6
  unfold f_X5_text f_X6_text
  rw [c8, m3]
  by_cases cn : nt = 6
  · rw [if_neg (show ¬ nI nt < (6 : Int32) by rw [cn]; decide), if_pos (show nI nt = (6 : Int32) by rw [cn]; rfl)]
    exact ⟨_, _, _, rfl, rfl, R⟩
  · have hnt : nt < 6 := by omega
    rw [if_pos (show nI nt < (6 : Int32) by rw [show (6 : Int32) = nI 6 from rfl, n_lt (by omega) (by omega)]; exact hnt), if_neg (show ¬ nI nt = (6 : Int32) by rw [show (6 : Int32) = nI 6 from rfl, n_eq (by omega) (by omega)]; exact cn), Gu_of (inB_n hnt (by decide)), ix_n (by omega : nt < 2 ^ 31)]
    have hB37 : ∀ i, i < s → ∃ b, b < 256 ∧ rI mc 37 i = nI b ∧ rI mm 3 i = nI b ∧ (rI mc 37 i).toInt.toNat = b := fun i hi => by
      obtain ⟨q1, q2, q3⟩ := s4 i hi
      obtain ⟨b, hb, e⟩ := n_of (n := 256) q2 q3
      refine ⟨b, hb, e, by rw [← q1]; exact e, ?_⟩
      rw [e, nI_toInt (by omega)]
      rfl
    have hB : BT (fun i => (rI mc 37 i).toInt.toNat) s := ⟨s1, fun i hi => by
      obtain ⟨b, hb, _, _, e⟩ := hB37 i hi
      show (rI mc 37 i).toInt.toNat < 256
      rw [e]
      exact hb⟩
    have hC : CTX mc (fun i => (rI mc 37 i).toInt.toNat) s := ⟨s2, fun i hi => by
      obtain ⟨b, hb, e1, _, e⟩ := hB37 i hi
      show _ = nI ((rI mc 37 i).toInt.toNat)
      rw [e]
      exact e1⟩
    obtain ⟨r, mc2, a1, a2, a3⟩ := read_sim (F := F) (by omega) hnt hB hC
    obtain ⟨m2, b1, b2, b3⟩ := copy_text (F := F) (by omega) hnt s1 m3 s3 (fun m2 => Gu (inB (rI m2 0 3) 6) <| Lt (wI m2 2 (ix (rI m2 0 3)) (rI m2 0 6)) fun m6 => Lt (wI m6 0 6 (0 : Int32)) fun m7 => bd2 (f_X6_read F (rI m7 0 3) (0 : Int32) m7) fun r8 m10 => if (rI m10 0 32) = 0 then Lt (wI m10 0 3 ((rI m10 0 3) + (1 : Int32))) fun m11 => some ((rI m11 0 3) - (1 : Int32), m11) else some ((-100 : Int32) - (rI m10 0 33), m10))
    have f3 : rI m2 0 3 = nI nt := (r_row (b2 0 (by decide)) 3).trans m3
    have f6 : rI m2 0 6 = nI s := (r_row (b2 0 (by decide)) 6).trans s3
    have f37 : rI (wI (wI m2 2 nt (nI s)) 0 6 0) 0 3 = nI nt := (rI_nj (by decide)).trans ((rI_ne (by decide)).trans f3)
    have tx : TXM (wI (wI m2 2 nt (nI s)) 0 6 0) nt (fun i => (rI mc 37 i).toInt.toNat) s := by
      refine ⟨fun j hj => ?_, (rI_ne (by decide)).trans rI_eq⟩
      rw [rI_ne (by decide), rI_ne (by decide), b3, if_pos (by omega), Nat.add_sub_cancel_left]
      obtain ⟨b, hb, _, e2, e⟩ := hB37 j hj
      show _ = nI ((rI mc 37 j).toInt.toNat)
      rw [e]
      exact e2
    -- what stays, on both sides
    have kc : ∀ q, q ≠ 0 → q ≠ 36 → ¬ (39 ≤ q ∧ q < 63) → (wI mc2 36 1 0).1 q = mc.1 q := fun q h1 h2 h3 => (row_ne h2).trans (a2 q h2 (by omega) (by omega) (by omega))
    have kx : ∀ q, 39 ≤ q → q < 63 → q ≠ 39 + 4 * nt → q ≠ 40 + 4 * nt → q ≠ 41 + 4 * nt → (wI mc2 36 1 0).1 q = mc.1 q := fun q h1 h2 h3 h4 h5 => (row_ne (by omega)).trans (a2 q (by omega) h3 (by omega) (by omega))
    have k0 : (wI mc2 36 1 0).1 0 = mc.1 0 := (row_ne (by decide)).trans (a2 0 (by decide) (by omega) (by omega) (by omega))
    rw [a1, bd2_s]
    unfold f_X3_clear
    rw [Lt_d, bd1_s]
    rcases a3 with ⟨rfl, L0, L1, L2, e1, e2, e3, e4, e5, e6, e7⟩ | ⟨p, hp, rfl, e7⟩
    · obtain ⟨y0, y1, y2, _, _, _, z⟩ := e7 _ tx
      obtain ⟨m8, z1, z2, z3⟩ := z 0
      have f38 : rI m8 0 3 = nI nt := (z2.2 3 (by omega)).trans f37
      have g1 : ∀ j, rI (wI m8 0 3 (nI (nt + 1))) 1 j = rI m2 1 j := fun j => by
        rw [rI_ne (by decide), r_row (z2.1 1 (by decide)), rI_ne (by decide), rI_ne (by decide)]
      have g2 : ∀ j, rI (wI m8 0 3 (nI (nt + 1))) 2 j = if j = nt then nI s else rI mm 2 j := fun j => by
        rw [rI_ne (by decide), r_row (z2.1 2 (by decide)), rI_ne (by decide), rI_w]
        by_cases c : j = nt
        · rw [if_pos ⟨rfl, c⟩, if_pos c]
        · rw [if_neg (fun y => c y.2), if_neg c, r_row (b2 2 (by decide))]
      have c8' : rI (wI mc2 36 1 0) 0 8 = nI nt := (r_row k0 8).trans c8
      refine ⟨nI nt, wI (wI mc2 36 1 0) 0 8 (nI (nt + 1)), wI m8 0 3 (nI (nt + 1)), ?_, ?_, ?_⟩
      · rw [if_pos rfl, c8', n_s, Lt_d]
      · refine Eq.trans b1 ?_
        rw [f3, f6, Gu_of (inB_n hnt (by decide)), ix_n (by omega : nt < 2 ^ 31), Lt_d, Lt_d, f37, z1, bd2_s, z3, if_pos rfl, f38, n_s, Lt_d, rI_eq, n_p]
      · refine Rel_text (nt := nt) (n2 := nt + 1) r1 r2 V r4 r5 r8 (fun q h1 h2 h3 => (row_ne h1).trans (kc q h1 h2 h3)) ((rI_nj (by decide)).trans (r_row k0 9)) ((rI_ne (by decide)).trans rI_eq) (fun q h1 h2 h3 => (row_ne h1).trans ((z2.1 q h1).trans ((row_ne h1).trans ((row_ne h3).trans (b2 q h2))))) (fun i h1 h2 h3 => (rI_nj h1).trans ((z2.2 i h3).trans ((rI_nj h2).trans ((rI_ne (by decide)).trans (r_row (b2 0 (by decide)) i))))) ((rI_nj (by decide)).trans ((z2.2 6 (by omega)).trans rI_eq)) (by omega) ⟨by omega, rI_eq, rI_eq, fun i hi => ?_⟩
        by_cases ci : i = nt
        · rw [ci]
          refine XT_new (F := F) (B := fun i => (rI mc 37 i).toInt.toNat) (n := s) (by omega) hnt s1 ⟨fun j hj => ?_, ?_⟩ (CC_f ((row_ne (by omega)).trans (row_ne (by omega))) ((row_ne (by omega)).trans (row_ne (by omega))) e1) e2 ((rI_ne (by omega)).trans ((rI_ne (by omega)).trans e3)) ((rI_ne (by omega)).trans ((rI_ne (by omega)).trans e4)) ((rI_ne (by omega)).trans ((rI_ne (by omega)).trans e5)) ((rI_ne (by omega)).trans ((rI_ne (by omega)).trans e6)) e7
          · have q := tx.1 j hj
            rw [rI_ne (by decide), rI_ne (by decide)] at q
            rw [g1]
            exact q
          · rw [g2, if_pos rfl]
        · refine X_old (nt := nt) (by omega) (hX i (by omega)) (fun q h1 h2 h3 h4 h5 => (row_ne (by omega)).trans (kx q h1 h2 h3 h4 h5)) (fun j hj => ?_) (fun j hj => ?_)
          · rw [g1, b3, if_neg (by omega)]
          · rw [g2, if_neg hj]
    · obtain ⟨v, m8, z1, z2, z3, z4⟩ := e7 _ tx 0
      have hp' := hp
      refine ⟨(-100 : Int32) - nI p, wI mc2 36 1 0, m8, ?_, ?_, ?_⟩
      · rw [if_neg (n_ne1 (by omega))]
      · refine Eq.trans b1 ?_
        rw [f3, f6, Gu_of (inB_n hnt (by decide)), ix_n (by omega : nt < 2 ^ 31), Lt_d, Lt_d, f37, z1, bd2_s, z3, i_el, z4]
      · refine Rel_text (nt := nt) (n2 := nt) r1 r2 V r4 r5 r8 kc (r_row k0 9) rI_eq (fun q h1 h2 h3 => (z2.1 q h1).trans ((row_ne h1).trans ((row_ne h3).trans (b2 q h2)))) (fun i h1 h2 h3 => (z2.2 i h3).trans ((rI_nj h2).trans ((rI_ne (by decide)).trans (r_row (b2 0 (by decide)) i)))) ((z2.2 6 (by omega)).trans rI_eq) (Nat.le_refl _) ⟨h6, (r_row k0 8).trans c8, (z2.2 3 (by omega)).trans f37, fun i hi => ?_⟩
        refine X_old (nt := nt) hi (hX i hi) kx (fun j hj => ?_) (fun j hj => ?_)
        · rw [r_row (z2.1 1 (by decide)), rI_ne (by decide), rI_ne (by decide), b3, if_neg (by omega)]
        · rw [r_row (z2.1 2 (by decide)), rI_ne (by decide), rI_nj hj, r_row (b2 2 (by decide))]
