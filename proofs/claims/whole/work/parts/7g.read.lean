/-! READING A WHOLE TEXT, on both sides -/
def FC4 (k : Nat) (m m2 : MM) : Prop := (∀ q, q ≠ 36 → q ≠ k → q ≠ k + 1 → q ≠ k + 2 → m2.1 q = m.1 q) ∧ ∀ i, i = 1 ∨ i = 6 → rI m2 36 i = rI m 36 i
theorem FC4_tr {k : Nat} {a b c : MM} (h : FC4 k a b) (g : FC4 k b c) : FC4 k a c := ⟨fun q h1 h2 h3 h4 => (g.1 q h1 h2 h3 h4).trans (h.1 q h1 h2 h3 h4), fun i hi => (g.2 i hi).trans (h.2 i hi)⟩
theorem FC4_3 {k : Nat} {a b : MM} (h : FC3 k a b) : FC4 k a b := ⟨fun q h1 h2 h3 _ => h.1 q h1 h2 h3, h.2.1⟩
def P11 (F : Nat) (s5 : Int32) (m10 : MM) : Option (Int32 × MM) := if (rI m10 0 32) = 0 then bd1 (f_X6_next F m10) fun m13 => some (s5, m13) else some (s5, m10)
def P7 (F : Nat) (s5 : Int32) (m6 : MM) : Option (Int32 × MM) := bd1 (f_X6_isSign (59 : Int32) m6) fun r8 => if r8 = 0 then bd1 (f_X6_fail m6) fun m15 => P11 F s5 m15 else P11 F s5 m6
def P4 (F : Nat) (m3 : MM) : Option (Int32 × MM) := if (rI m3 0 32) = 0 then bd2 (f_X6_either0 F m3) fun r16 m18 => P7 F r16 m18 else P7 F (0 : Int32) m3
def P2 (F : Nat) (m1 : MM) : Option (Int32 × MM) := if (rI m1 0 32) = 0 then bd1 (f_X6_next F m1) fun m20 => P4 F m20 else P4 F m1
theorem part_unf (F : Nat) (a0 : Int32) (m : MM) : f_X6_part_ F a0 m = if a0 = 0 then bd1 (f_X6_fail m) fun m22 => P2 F m22 else P2 F m := rfl
theorem P7_bad {F : Nat} {s : Int32} {m : MM} (h : rI m 0 32 = 1) : P7 F s m = some (s, m) := by
  unfold P7
  rw [sign_bad h, bd1_s, i_if, fail_bad h, bd1_s]
  unfold P11
  rw [h, i_el]
theorem P2_bad {F : Nat} {m : MM} (h : rI m 0 32 = 1) : P2 F m = some (0, m) := by
  unfold P2
  rw [h, i_el]
  unfold P4
  rw [h, i_el]
  exact P7_bad h
theorem PRE_b {B : Nat → Nat} {n k : Nat} {mc : MM} {cs : List Nat} {t v p j x : Nat} {y : Int32} (hk : KTX k) (h : PRE B n k mc cs t v p j) : PRE B n k (wI mc (k + 2) x y) cs t v p j := by
  have h39 := KT_39 hk
  obtain ⟨h1, h2, h3, h4, h5⟩ := h
  have r36 : ∀ i, rI (wI mc (k + 2) x y) 36 i = rI mc 36 i := fun i => rI_ne (by omega)
  exact ⟨⟨(r36 1).trans h1.1, fun i hi => (rI_ne (by omega)).trans (h1.2 i hi)⟩, (r36 6).trans h2, ⟨(r36 3).trans h3.1, (r36 4).trans h3.2.1, (r36 2).trans h3.2.2.1, fun z => (r36 5).trans (h3.2.2.2 z)⟩, h4, CC_f (row_ne (by omega)) (row_ne (by omega)) h5⟩
def wKey (x : Nat) (m : MM) : Option Int32 := f_X6_isWord (lw (6 + x) 0) (lw (6 + x) 1) (lw (6 + x) 2) (lw (6 + x) 3) (lw (6 + x) 4) (lw (6 + x) 5) (lw (6 + x) 6) (lw (6 + x) 7) m
theorem part_sim {F : Nat} {B : Nat → Nat} {n k x : Nat} {mc : MM} {cs : List Nat} {t v p j : Nat} (hF : 1000 ≤ F) (hB : BT B n) (hk : KTX k) (hx : x < 3) (h : PRE B n k mc cs t v p j) (hl : cs.length ≤ p) : (∃ mc2 L t2 v2 p2 j2, (∀ K u, f_X3_read_L23 F K (u + 1) (nI x) mc = f_X3_read_L23 F K u (nI (x + 1)) mc2) ∧ PRE B n k mc2 (cs ++ L) t2 v2 p2 j2 ∧ (cs ++ L).length ≤ p2 ∧ FC4 k mc mc2 ∧ (∀ i, rI mc2 (k + 2) i = if i = x then nI cs.length else rI mc (k + 2) i) ∧ ∀ mm fr, OKM B n 0 t v p j fr mm → ∃ r y mm2, wKey x mm = some r ∧ f_X6_part_ F r mm = some (y, mm2) ∧ FMX mm mm2 ∧ OKM B n 0 t2 v2 p2 j2 fr mm2 ∧ EVX (nmM mm) L y 31) ∨ (∃ mc2 p2, (∀ K u, f_X3_read_L23 F K (u + 1) (nI x) mc = some (nI p2, mc2)) ∧ p2 ≤ n ∧ FC4 k mc mc2 ∧ ∀ mm fr, OKM B n 0 t v p j fr mm → ∃ r y mm2, wKey x mm = some r ∧ f_X6_part_ F r mm = some (y, mm2) ∧ FMX mm mm2 ∧ rI mm2 0 32 = 1 ∧ rI mm2 0 33 = nI p2) := by
  have hn := hB.1
  have h39 := KT_39 hk
  have hT := h.2.2.2.1
  have t100 := hT.2.2.2.2.2
  have hpn := Nat.le_trans hT.1 hT.2.1
  have h3 : rI mc 36 3 = nI t := h.2.2.1.1
  have h4 : rI mc 36 4 = nI p := h.2.2.1.2.1
  have n3 : ¬ (3 : Int32) ≤ nI x := by rw [show (3 : Int32) = nI 3 from rfl, n_le (by omega) (by omega)]; omega
  have key : ∀ mm fr, OKM B n 0 t v p j fr mm → wKey x mm = some (if t = 6 + x then 1 else 0) := fun mm fr hm => word_sp (x := 6 + x) hB hT hm (by omega) (by omega)
  by_cases ct : t = 6 + x
  · have hpj := hT.2.2.1 (by omega)
    obtain ⟨t2, v2, p2, j2, m1, a1, a2, a3, a4, a5⟩ := adv_pre hF hB hk (PRE_b (x := x) (y := nI cs.length) hk h)
    have q1 : FC4 k mc (wI mc (k + 2) x (nI cs.length)) := ⟨fun q _ _ _ h4 => row_ne h4, fun i _ => rI_ne (by omega)⟩
    obtain ⟨r, m2, b1, b2, b3⟩ := sim_e0 hF B n k m1 cs t2 v2 p2 j2 48 hB hk (by decide) a3 (by omega)
    have b1' : f_X3_joined F (0 : Int32) (0 : Int32) m1 = some (r, m2) := b1
    have unf : ∀ K u, f_X3_read_L23 F K (u + 1) (nI x) mc = if r = 0 then some (rI m2 36 4, m2) else if (rI m2 36 3) = (59 : Int32) then bd1 (f_X3_advance F m2) fun m20 => f_X3_read_L23 F K u (nI (x + 1)) m20 else some (rI m2 36 4, m2) := fun K u => by
      conv => lhs; unfold f_X3_read_L23
      rw [if_neg n3, h3, show (6 : Int32) = nI 6 from rfl, nI_add, if_pos (by rw [ct]), h.2.1, Gu_of (KT_B hk), ix_n (by omega)]
      unfold f_X4_begin
      rw [Gu_of (inB_n (by omega : x < 4) (by decide)), ix_n (by omega), h.2.2.2.2.1, Lt_d, bd1_s, a1, bd1_s, b1', bd2_s]
      simp only [Lt_d, n_s]
    have modl : ∀ mm fr, OKM B n 0 t v p j fr mm → ∃ mm1, wKey x mm = some 1 ∧ FMX mm mm1 ∧ OKM B n 0 t2 v2 p2 j2 fr mm1 ∧ f_X6_part_ F 1 mm = bd2 (f_X6_either0 F mm1) fun r16 m18 => P7 F r16 m18 := fun mm fr hm => by
      obtain ⟨mm1, c1, c2, c3⟩ := a5 mm fr 0 (by omega) hm
      refine ⟨mm1, by rw [key mm fr hm, if_pos ct], c2, c3, ?_⟩
      rw [part_unf, i_el]
      unfold P2
      rw [hm.2.2.2.1, if_pos rfl, c1, bd1_s]
      unfold P4
      rw [c3.2.2.2.1, if_pos rfl]
    have rk : ∀ i, rI m2 (k + 2) i = if i = x then nI cs.length else rI mc (k + 2) i := fun i => by
      rw [r_row (b2.1 (k + 2) (by omega) (by omega) (by omega)), r_row (a2.1 (k + 2) (by omega) (by omega) (by omega)), rI_w]
      by_cases c : i = x
      · rw [if_pos ⟨rfl, c⟩, if_pos c]
      · rw [if_neg (fun z => c z.2), if_neg c]
    have q2 := FC4_tr q1 (FC4_tr (FC4_3 a2) (FC4_3 b2))
    rcases b3 with ⟨rfl, L, t3, v3, p3, j3, e1, e2, e3⟩ | ⟨rfl, p3, e1, e2, e3⟩
    · have hT3 := e1.2.2.2.1
      have hll : (cs ++ L).length = cs.length + L.length := List.length_append
      have e3t : rI m2 36 3 = nI t3 := e1.2.2.1.1
      by_cases c59 : t3 = 59
      · have hpj3 := hT3.2.2.1 (by omega)
        obtain ⟨t4, v4, p4, j4, m4, g1, g2, g3, g4, g5⟩ := adv_pre hF hB hk e1
        refine Or.inl ⟨m4, L, t4, v4, p4, j4, fun K u => ?_, g3, by omega, FC4_tr q2 (FC4_3 g2), fun i => ?_, fun mm fr hm => ?_⟩
        · rw [unf, i_el, e3t, c59, if_pos (show nI 59 = (59 : Int32) from rfl), g1, bd1_s]
        · rw [r_row (g2.1 (k + 2) (by omega) (by omega) (by omega))]
          exact rk i
        · obtain ⟨mm1, w1, w2, w3, w4⟩ := modl mm fr hm
          obtain ⟨y, mm2, i1, i2, i3, i4⟩ := e3 mm1 fr w3
          rw [nmM_f w2] at i4
          obtain ⟨mm3, u1, u2, u3⟩ := g5 mm2 fr 0 (by omega) i3
          refine ⟨1, y, mm3, w1, ?_, FMX_tr w2 (FMX_tr i2 u2), u3, EVX_up i4 (by decide)⟩
          rw [w4, i1, bd2_s]
          unfold P7
          rw [show (59 : Int32) = nI 59 from rfl, sign_sp i3 (by unfold SG; omega), if_pos c59, bd1_s, i_el]
          unfold P11
          rw [i3.2.2.2.1, if_pos rfl, u1, bd1_s]
      · refine Or.inr ⟨m2, p3, fun K u => ?_, Nat.le_trans hT3.1 hT3.2.1, q2, fun mm fr hm => ?_⟩
        · rw [unf, i_el, e3t, if_neg (show ¬ nI t3 = (59 : Int32) by rw [show (59 : Int32) = nI 59 from rfl, n_eq (by have := hT3.2.2.2.2.2; omega) (by omega)]; exact c59), e1.2.2.1.2.1]
        · obtain ⟨mm1, w1, w2, w3, w4⟩ := modl mm fr hm
          obtain ⟨y, mm2, i1, i2, i3, i4⟩ := e3 mm1 fr w3
          obtain ⟨mm3, u1, u2, u3, u4⟩ := fail_ok i3
          refine ⟨1, y, mm3, w1, ?_, FMX_tr w2 (FMX_tr i2 u2), u3, u4⟩
          rw [w4, i1, bd2_s]
          unfold P7
          rw [show (59 : Int32) = nI 59 from rfl, sign_sp i3 (by unfold SG; omega), if_neg c59, bd1_s, i_if, u1, bd1_s]
          unfold P11
          rw [u3, i_el]
    · refine Or.inr ⟨m2, p3, fun K u => by rw [unf, i_if, e2], e1, q2, fun mm fr hm => ?_⟩
      obtain ⟨mm1, w1, w2, w3, w4⟩ := modl mm fr hm
      obtain ⟨y, mm2, i1, i2, i3, i4⟩ := e3 mm1 fr w3
      refine ⟨1, y, mm2, w1, ?_, FMX_tr w2 i2, i3, i4⟩
      rw [w4, i1, bd2_s]
      exact P7_bad i3
  · refine Or.inr ⟨mc, p, fun K u => ?_, hpn, ⟨fun q _ _ _ _ => rfl, fun i _ => rfl⟩, fun mm fr hm => ?_⟩
    · conv => lhs; unfold f_X3_read_L23
      rw [if_neg n3, h3, show (6 : Int32) = nI 6 from rfl, nI_add, if_neg (by rw [n_eq (by omega) (by omega)]; exact ct), h4]
    · obtain ⟨m2, e1, e2, e3, e4⟩ := fail_ok hm
      refine ⟨0, 0, m2, by rw [key mm fr hm, if_neg ct], ?_, e2, e3, e4⟩
      rw [part_unf, i_if, e1, bd1_s]
      exact P2_bad e3
theorem kind0 {B : Nat → Nat} {n o t v p j fr : Nat} {m : MM} (h : OKM B n o t v p j fr m) : rI m 0 28 = 0 ↔ t = 2 := by
  rcases h.2.2.2.2.2.2 with ⟨e, k⟩ | ⟨e, k, l⟩ | ⟨e, k, l⟩ | ⟨e, k⟩ | ⟨k, _, _, w⟩
  · exact ⟨fun _ => e, fun _ => k⟩
  · rw [k]
    exact ⟨fun z => absurd z (by decide), fun z => by omega⟩
  · have := SG_40 e
    rw [k]
    exact ⟨fun z => absurd z (by decide), fun z => by omega⟩
  · rw [k]
    exact ⟨fun z => absurd z (by decide), fun z => by omega⟩
  · have := WT_11 w
    rw [k]
    exact ⟨fun z => absurd z (by decide), fun z => by omega⟩
/-- the model's reading, cut in steps -/
def R3 (F : Nat) (a1 r10 s13 s16 : Int32) (m17 : MM) : Option (Int32 × MM) := if (rI m17 0 32) = 0 then if (rI m17 0 28) = 0 then (if a1 = 0 then some (r10, m17) else if a1 = (1 : Int32) then some (s13, m17) else some (s16, m17)) else bd1 (f_X6_fail m17) fun m22 => (if a1 = 0 then some (r10, m22) else if a1 = (1 : Int32) then some (s13, m22) else some (s16, m22)) else (if a1 = 0 then some (r10, m17) else if a1 = (1 : Int32) then some (s13, m17) else some (s16, m17))
def R2 (F : Nat) (a1 r10 s13 : Int32) (m14 : MM) : Option (Int32 × MM) := if (rI m14 0 32) = 0 then bd1 (wKey 2 m14) fun r23 => bd2 (f_X6_part_ F r23 m14) fun r25 m27 => R3 F a1 r10 s13 r25 m27 else R3 F a1 r10 s13 (0 : Int32) m14
def R1 (F : Nat) (a1 r10 : Int32) (m12 : MM) : Option (Int32 × MM) := if (rI m12 0 32) = 0 then bd1 (wKey 1 m12) fun r28 => bd2 (f_X6_part_ F r28 m12) fun r30 m32 => R2 F a1 r10 r30 m32 else R2 F a1 r10 (0 : Int32) m12
def R0 (F : Nat) (a1 : Int32) (m7 : MM) : Option (Int32 × MM) := bd1 (wKey 0 m7) fun r8 => bd2 (f_X6_part_ F r8 m7) fun r10 m12 => R1 F a1 r10 m12
theorem read_unf (F : Nat) (a0 a1 : Int32) (m : MM) : f_X6_read F a0 a1 m = Lt (wI m 0 25 ((160 : Int32) * a0)) fun m1 => Gu (inB a0 6) <| Lt (wI m1 0 26 (rI m1 2 (ix a0))) fun m2 => Lt (wI m2 0 27 (0 : Int32)) fun m3 => Lt (wI m3 0 31 (0 : Int32)) fun m4 => Gu (bz (0 : Int32)) <| Lt (wI m4 0 32 (0 : Int32)) fun m5 => bd1 (f_X6_next F m5) fun m7 => R0 F a1 m7 := rfl
theorem R3_bad {F : Nat} {a1 a b c : Int32} {m : MM} (h : rI m 0 32 = 1) : ∃ v, R3 F a1 a b c m = some (v, m) := by
  unfold R3
  rw [h, i_el]
  by_cases c1 : a1 = 0
  · exact ⟨a, if_pos c1⟩
  · rw [if_neg c1]
    by_cases c2 : a1 = 1
    · exact ⟨b, if_pos c2⟩
    · exact ⟨c, if_neg c2⟩
theorem R2_bad {F : Nat} {a1 a b : Int32} {m : MM} (h : rI m 0 32 = 1) : ∃ v, R2 F a1 a b m = some (v, m) := by
  unfold R2
  rw [h, i_el]
  exact R3_bad h
theorem R1_bad {F : Nat} {a1 a : Int32} {m : MM} (h : rI m 0 32 = 1) : ∃ v, R1 F a1 a m = some (v, m) := by
  unfold R1
  rw [h, i_el]
  exact R2_bad h
