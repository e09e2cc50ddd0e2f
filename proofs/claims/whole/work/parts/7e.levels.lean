/-! THE SIMULATION: the forms, level by level -/
theorem sim_row {F c o h D : Nat} {T : Nat → Bool} {f : MM → Option (Int32 × MM)} {LP : Nat → Int32 → MM → Option (Int32 × MM)} (hF : 1000 ≤ F) (hc : c < 5) (hc2 : c ≠ 2) (hj : ∀ mc t, rI mc 36 3 = nI t → t < 100 → f_X3_joins (nI c) mc = some (if T t = true then 1 else 0)) (hT : ∀ t, T t = true → t ≠ 1 ∧ t ≠ 2 ∧ t ≠ 3 ∧ t ≠ 11) (LK0 : ∀ B, LOOK B T F f LP) (S : SIMG (fun d mc => f_X3_joD F d true (nI (c + 1)) (nI o) mc) D h o f) : SIMG (fun d mc => f_X3_joD F d true (nI c) (nI o) mc) (D + 1) (h + 1) o (fun m => bd2 (f m) fun r1 m3 => LP F r1 m3) := by
  intro B n k mc cs t v p j d hB hk hd hp hl
  obtain ⟨d, rfl⟩ : ∃ z, d = z + 1 := ⟨d - 1, by omega⟩
  have hn := hB.1
  obtain ⟨r, m2, b1, b2, b3⟩ := S B n k mc cs t v p j d hB hk (by omega) hp hl
  have b1' : f_X3_joD F d true (nI (c + 1)) (nI o) mc = some (r, m2) := b1
  have unf : f_X3_joD F (d + 1) true (nI c) (nI o) mc = if r = 0 then some ((0 : Int32), m2) else f_X3_joined_L90 F (nI c) (nI o) (fun a0 a1 m => f_X3_joD F d true a0 a1 m) (160 : Int32) (fun _ m => some ((1 : Int32), m)) F (nI 0) m2 := by
    show fb_X3_joined F (fun a0 a1 m => f_X3_joD F d true a0 a1 m) (fun a0 m => f_X3_joD F d false 0 a0 m) (nI c) (nI o) mc = _
    unfold fb_X3_joined
    simp only [Jp_d]
    rw [if_pos (show nI c < (5 : Int32) by rw [show (5 : Int32) = nI 5 from rfl, n_lt (by omega) (by omega)]; omega), if_neg (show ¬ nI c = (2 : Int32) by rw [show (2 : Int32) = nI 2 from rfl, n_eq (by omega) (by omega)]; omega), n_s]
    rw [b1', bd2_s, if_neg (show ¬ nI c = (2 : Int32) by rw [show (2 : Int32) = nI 2 from rfl, n_eq (by omega) (by omega)]; omega)]
    rfl
  rcases b3 with ⟨rfl, L, t2, v2, p2, j2, e1, e2, e3⟩ | ⟨rfl, p2, e1, e2, e3⟩
  · have hll : (cs ++ L).length = cs.length + L.length := List.length_append
    obtain ⟨r3, m3, i1, i2, i3⟩ := sim_loop hF hc hj hT S (LK0 B) hB hk (show D ≤ d by omega) (n - p2 + 1) m2 (cs ++ L) t2 v2 p2 j2 0 F (by omega) (by omega) (by omega) e1 (by omega)
    refine ⟨r3, m3, ?_, FC3_tr b2 i2, ?_⟩
    · show f_X3_joD F (d + 1) true (nI c) (nI o) mc = _
      rw [unf, i_el]
      exact i1
    · rcases i3 with ⟨rfl, L2, t3, v3, p3, j3, k1, k2, k3⟩ | ⟨rfl, p3, k1, k2, k3⟩
      · refine Or.inl ⟨rfl, L ++ L2, t3, v3, p3, j3, by rw [← List.append_assoc]; exact k1, by rw [List.length_append]; omega, fun mm fr hm => ?_⟩
        obtain ⟨x, mm1, f1, f2, f3, f4⟩ := e3 mm fr hm
        obtain ⟨y, mm2, g1, g2, g3, g4⟩ := k3 mm1 fr x F (by omega) f3
        rw [nmM_f f2] at g4
        refine ⟨y, mm2, ?_, FMX_tr f2 g2, g3, fun st hst => ?_⟩
        · show (bd2 (f mm) fun r1 m3 => LP F r1 m3) = _
          rw [f1, bd2_s, g1]
        · rw [run_app (f4 st (by omega))]
          exact g4 st (by omega)
      · refine Or.inr ⟨rfl, p3, k1, k2, fun mm fr hm => ?_⟩
        obtain ⟨x, mm1, f1, f2, f3, f4⟩ := e3 mm fr hm
        obtain ⟨y, mm2, g1, g2, g3, g4⟩ := k3 mm1 fr x F (by omega) f3
        refine ⟨y, mm2, ?_, FMX_tr f2 g2, g3, g4⟩
        show (bd2 (f mm) fun r1 m3 => LP F r1 m3) = _
        rw [f1, bd2_s, g1]
  · refine ⟨0, m2, ?_, b2, Or.inr ⟨rfl, p2, e1, e2, fun mm fr hm => ?_⟩⟩
    · show f_X3_joD F (d + 1) true (nI c) (nI o) mc = _
      rw [unf, i_if]
    · obtain ⟨x, mm1, f1, f2, f3, f4⟩ := e3 mm fr hm
      refine ⟨x, mm1, ?_, f2, f3, f4⟩
      show (bd2 (f mm) fun r1 m3 => LP F r1 m3) = _
      obtain ⟨G, rfl⟩ : ∃ G, F = G + 1 := ⟨F - 1, by omega⟩
      rw [f1, bd2_s]
      exact (LK0 B).1 G x mm1 f3
/-- comparisons and NOT -/
def cmpG (F : Nat) (fd : MM → Option (Int32 × MM)) (r3 : Int32) (m5 : MM) : Option (Int32 × MM) := bd1 (f_X6_isSign (60 : Int32) m5) fun r6 => Jp (Jp (fun s9 => bd1 (f_X6_next F m5) fun m12 => bd2 (fd m12) fun r13 m15 => if s9 = 0 then if r3 = r13 then some ((1 : Int32), m15) else some ((0 : Int32), m15) else if r13 ≤ r3 then some ((0 : Int32), m15) else some ((1 : Int32), m15)) fun J10 => if (lg_cmp (rL m5 0 30) (60 : Int64)) = 0 then J10 (1 : Int32) else J10 (0 : Int32)) fun J8 => if r6 = 0 then bd1 (f_X6_isSign (61 : Int32) m5) fun r16 => if r16 = 0 then some (r3, m5) else J8 else J8
def notG (F : Nat) (fd NE : MM → Option (Int32 × MM)) (m : MM) : Option (Int32 × MM) := bd1 (f_X6_isWord (110 : Int32) (111 : Int32) (116 : Int32) (0 : Int32) (0 : Int32) (0 : Int32) (0 : Int32) (0 : Int32) m) fun r1 => if r1 = 0 then bd2 (fd m) fun r3 m5 => cmpG F fd r3 m5 else NE m
def ntG (F : Nat) (fn : MM → Option (Int32 × MM)) (m : MM) : Option (Int32 × MM) := bd2 (f_X6_opens F m) fun r18 m20 => if r18 = 0 then some ((0 : Int32), m20) else bd2 (fn m20) fun r21 m23 => Lt (wI m23 0 31 ((rI m23 0 31) - (1 : Int32))) fun m24 => if r21 = 0 then some ((1 : Int32), m24) else some ((0 : Int32), m24)
theorem cmp_bad {F : Nat} {fd : MM → Option (Int32 × MM)} {r3 : Int32} {m : MM} (h : rI m 0 32 = 1) : cmpG F fd r3 m = some (r3, m) := by
  unfold cmpG
  rw [sign_bad h, bd1_s, Jp_d, i_if, sign_bad h, bd1_s, i_if]
theorem cmp_no {F : Nat} {fd : MM → Option (Int32 × MM)} {r3 : Int32} {B : Nat → Nat} {n o t v p j fr : Nat} {m : MM} (h : OKM B n o t v p j fr m) (h1 : t ≠ 60) (h2 : t ≠ 61) : cmpG F fd r3 m = some (r3, m) := by
  unfold cmpG
  rw [show (60 : Int32) = nI 60 from rfl, show (61 : Int32) = nI 61 from rfl, sign_sp h (by unfold SG; omega), if_neg h1, bd1_s, Jp_d, i_if, sign_sp h (by unfold SG; omega), if_neg h2, bd1_s, i_if]
theorem cmp_yes {F : Nat} {fd : MM → Option (Int32 × MM)} {r3 r13 : Int32} {B : Nat → Nat} {n o t v p j fr : Nat} {m m12 m15 : MM} (h : OKM B n o t v p j fr m) (ht : t = 60 ∨ t = 61) (e1 : f_X6_next F m = some m12) (e2 : fd m12 = some (r13, m15)) : cmpG F fd r3 m = some (two (20000 + t) r3 r13, m15) := by
  have hw := worth_sp h (by unfold SG; omega)
  unfold cmpG
  simp only [Jp_d]
  rw [show (60 : Int32) = nI 60 from rfl, show (61 : Int32) = nI 61 from rfl, sign_sp h (by unfold SG; omega), bd1_s, sign_sp h (by unfold SG; omega), bd1_s, hw, show (60 : Int64) = lN 60 from rfl]
  rcases ht with c | c
  · subst c
    rw [if_pos rfl, i_el, if_pos ((lcmp0 (by omega) (by omega)).mpr rfl), e1, bd1_s, e2, bd2_s, i_el]
    by_cases q : r13 ≤ r3
    · rw [if_pos q]
      show _ = some (if r13 ≤ r3 then (0 : Int32) else 1, m15)
      rw [if_pos q]
    · rw [if_neg q]
      show _ = some (if r13 ≤ r3 then (0 : Int32) else 1, m15)
      rw [if_neg q]
  · subst c
    rw [if_neg (show ¬ 61 = 60 by decide), i_if, if_pos rfl, i_el, if_neg (fun z => absurd ((lcmp0 (by omega) (by omega)).mp z) (by decide)), e1, bd1_s, e2, bd2_s, if_pos trivial]
    by_cases q : r3 = r13
    · rw [if_pos q]
      show _ = some (if r3 = r13 then (1 : Int32) else 0, m15)
      rw [if_pos q]
    · rw [if_neg q]
      show _ = some (if r3 = r13 then (1 : Int32) else 0, m15)
      rw [if_neg q]
theorem not_no {F : Nat} {fd NE : MM → Option (Int32 × MM)} {B : Nat → Nat} {n o t v p j fr : Nat} {m : MM} (hB : BT B n) (hT : TKX n t v p j) (h : OKM B n o t v p j fr m) (h1 : t ≠ 11) : notG F fd NE m = bd2 (fd m) fun r3 m5 => cmpG F fd r3 m5 := by
  have q := word_sp (x := 11) hB hT h (by decide) (by decide)
  rw [if_neg h1] at q
  have q' : f_X6_isWord (110 : Int32) (111 : Int32) (116 : Int32) (0 : Int32) (0 : Int32) (0 : Int32) (0 : Int32) (0 : Int32) m = some 0 := q
  unfold notG
  rw [q', bd1_s, i_if]
theorem not_yes {F : Nat} {fd NE : MM → Option (Int32 × MM)} {B : Nat → Nat} {n o v p j fr : Nat} {m : MM} (hB : BT B n) (hT : TKX n 11 v p j) (h : OKM B n o 11 v p j fr m) : notG F fd NE m = NE m := by
  have q := word_sp (x := 11) hB hT h (by decide) (by decide)
  rw [if_pos rfl] at q
  have q' : f_X6_isWord (110 : Int32) (111 : Int32) (116 : Int32) (0 : Int32) (0 : Int32) (0 : Int32) (0 : Int32) (0 : Int32) m = some 1 := q
  unfold notG
  rw [q', bd1_s, i_el]
def T2 (t : Nat) : Bool := t == 60 || t == 61
theorem T2_t {t : Nat} : T2 t = true ↔ (t = 60 ∨ t = 61) := by
  unfold T2
  simp
theorem joins2 {mc : MM} {t : Nat} (h : rI mc 36 3 = nI t) (ht : t < 100) : f_X3_joins (nI 2) mc = some (if T2 t = true then 1 else 0) := by
  unfold f_X3_joins
  rw [if_neg (show ¬ nI 2 = (0 : Int32) by decide), if_neg (show ¬ nI 2 = (1 : Int32) by decide), if_pos (show nI 2 = (2 : Int32) from rfl), h]
  by_cases c : t = 60
  · rw [c]
    rfl
  · rw [if_neg (show ¬ nI t = (60 : Int32) by rw [show (60 : Int32) = nI 60 from rfl, n_eq (by omega) (by omega)]; exact c)]
    by_cases c2 : t = 61
    · rw [c2]
      rfl
    · rw [if_neg (show ¬ nI t = (61 : Int32) by rw [show (61 : Int32) = nI 61 from rfl, n_eq (by omega) (by omega)]; exact c2), if_neg (fun z => by have := T2_t.mp z; omega)]
theorem sim_not {F o D h D2 h2 : Nat} {fd NE : MM → Option (Int32 × MM)} (hF : 1000 ≤ F) (hD : D + 1 ≤ D2) (hh : h + 1 ≤ h2) (S : SIMG (fun d mc => f_X3_joD F d true (nI 3) (nI o) mc) D h o fd) (N : ∀ B n k mc cs v p j d, BT B n → KTX k → D2 ≤ d + 1 → PRE B n k mc cs 11 v p j → cs.length ≤ p → ∃ r mc2, (if nI o < (5 : Int32) then bd1 (f_X3_advance F mc) fun m23 => bd2 (f_X3_joD F d true (2 : Int32) (nI (o + 1)) m23) fun r24 m26 => if r24 = 0 then some ((0 : Int32), m26) else Gu (isTxB (rI m26 36 6)) <| bd1 (f_X4_add (ix (rI m26 36 6)) (20011 : Int32) m26) fun m29 => some ((1 : Int32), m29) else some ((0 : Int32), mc)) = some (r, mc2) ∧ OUT NE B n k o cs 11 v p j mc r mc2 h2) : SIMG (fun d mc => f_X3_joD F d true (nI 2) (nI o) mc) D2 h2 o (notG F fd NE) := by
  intro B n k mc cs t v p j d hB hk hd hp hl
  obtain ⟨d, rfl⟩ : ∃ z, d = z + 1 := ⟨d - 1, by omega⟩
  have hn := hB.1
  have h39 := KT_39 hk
  have hTk := hp.2.2.2.1
  have h3 : rI mc 36 3 = nI t := hp.2.2.1.1
  have t100 := hTk.2.2.2.2.2
  by_cases c11 : t = 11
  · subst c11
    obtain ⟨r, m2, a1, a2, a3⟩ := N B n k mc cs v p j d hB hk hd hp hl
    refine ⟨r, m2, ?_, a2, ?_⟩
    · show fb_X3_joined F (fun a0 a1 m => f_X3_joD F d true a0 a1 m) (fun a0 m => f_X3_joD F d false 0 a0 m) (nI 2) (nI o) mc = _
      unfold fb_X3_joined
      simp only [Jp_d]
      rw [if_pos (show nI 2 < (5 : Int32) by decide), if_pos (show nI 2 = (2 : Int32) from rfl), h3, if_pos (show nI 11 = (11 : Int32) from rfl), n_s]
      exact a1
    · rcases a3 with ⟨rfl, L, t2, v2, p2, j2, e1, e2, e3⟩ | ⟨rfl, p2, e1, e2, e3⟩
      · refine Or.inl ⟨rfl, L, t2, v2, p2, j2, e1, e2, fun mm fr hm => ?_⟩
        obtain ⟨x, mm2, f1, f2⟩ := e3 mm fr hm
        exact ⟨x, mm2, by rw [not_yes hB hTk hm]; exact f1, f2⟩
      · refine Or.inr ⟨rfl, p2, e1, e2, fun mm fr hm => ?_⟩
        obtain ⟨x, mm2, f1, f2⟩ := e3 mm fr hm
        exact ⟨x, mm2, by rw [not_yes hB hTk hm]; exact f1, f2⟩
  · obtain ⟨r, m2, b1, b2, b3⟩ := S B n k mc cs t v p j d hB hk (by omega) hp hl
    have b1' : f_X3_joD F d true (nI 3) (nI o) mc = some (r, m2) := b1
    have unf : f_X3_joD F (d + 1) true (nI 2) (nI o) mc = if r = 0 then some ((0 : Int32), m2) else f_X3_joined_L90 F (nI 2) (nI o) (fun a0 a1 m => f_X3_joD F d true a0 a1 m) (1 : Int32) (fun _ m => some ((1 : Int32), m)) F (nI 0) m2 := by
      show fb_X3_joined F (fun a0 a1 m => f_X3_joD F d true a0 a1 m) (fun a0 m => f_X3_joD F d false 0 a0 m) (nI 2) (nI o) mc = _
      unfold fb_X3_joined
      simp only [Jp_d]
      rw [if_pos (show nI 2 < (5 : Int32) by decide), if_pos (show nI 2 = (2 : Int32) from rfl), h3, if_neg (show ¬ nI t = (11 : Int32) by rw [show (11 : Int32) = nI 11 from rfl, n_eq (by omega) (by omega)]; exact c11), n_s]
      rw [b1', bd2_s, if_pos (show nI 2 = (2 : Int32) from rfl)]
      rfl
    rcases b3 with ⟨rfl, L, t2, v2, p2, j2, e1, e2, e3⟩ | ⟨rfl, p2, e1, e2, e3⟩
    · have hll : (cs ++ L).length = cs.length + L.length := List.length_append
      have hT2 := e1.2.2.2.1
      have h32 : rI m2 36 3 = nI t2 := e1.2.2.1.1
      rw [i_el] at unf
      obtain ⟨G, hG⟩ : ∃ G, F = G + 2 := ⟨F - 2, by omega⟩
      cases hTt : T2 t2 with
      | false =>
        refine ⟨1, m2, ?_, b2, Or.inl ⟨rfl, L, t2, v2, p2, j2, e1, e2, fun mm fr hm => ?_⟩⟩
        · show f_X3_joD F (d + 1) true (nI 2) (nI o) mc = _
          rw [unf]
          have : ∀ u, f_X3_joined_L90 F (nI 2) (nI o) (fun a0 a1 m => f_X3_joD F d true a0 a1 m) (1 : Int32) (fun _ m => some ((1 : Int32), m)) (u + 1) (nI 0) m2 = some (1, m2) := fun u => by
            unfold f_X3_joined_L90
            rw [if_neg (by decide), joins2 h32 hT2.2.2.2.2.2, hTt, if_neg (by decide), bd1_s, i_if]
          have q := this (G + 1)
          rw [show G + 1 + 1 = F by omega] at q
          exact q
        · obtain ⟨x, mm1, f1, f2, f3, f4⟩ := e3 mm fr hm
          refine ⟨x, mm1, ?_, f2, f3, EVX_up f4 (by omega)⟩
          have nt : ¬ (t2 = 60 ∨ t2 = 61) := fun z => by rw [T2_t.mpr z] at hTt; cases hTt
          rw [not_no hB hTk hm c11, f1, bd2_s, cmp_no f3 (by omega) (by omega)]
      | true =>
        have ht2 := T2_t.mp hTt
        have hpj := hT2.2.2.1 (by omega)
        obtain ⟨t3, v3, p3, j3, m3, g1, g2, g3, g4, g5⟩ := adv_pre hF hB hk e1
        obtain ⟨r4, m4, i1, i2, i3⟩ := S B n k m3 (cs ++ L) t3 v3 p3 j3 d hB hk (by omega) g3 (by omega)
        have i1' : f_X3_joD F d true (nI 3) (nI o) m3 = some (r4, m4) := i1
        have unf2 : f_X3_joD F (d + 1) true (nI 2) (nI o) mc = if r4 = 0 then some ((0 : Int32), m4) else Gu (isTxB (rI m4 36 6)) <| bd1 (f_X4_add (ix (rI m4 36 6)) (nI (20000 + t2)) m4) fun m20 => some (1, m20) := by
          rw [unf]
          have st : ∀ u, f_X3_joined_L90 F (nI 2) (nI o) (fun a0 a1 m => f_X3_joD F d true a0 a1 m) (1 : Int32) (fun _ m => some ((1 : Int32), m)) (u + 2) (nI 0) m2 = if r4 = 0 then some ((0 : Int32), m4) else Gu (isTxB (rI m4 36 6)) <| bd1 (f_X4_add (ix (rI m4 36 6)) (nI (20000 + t2)) m4) fun m20 => some (1, m20) := fun u => by
            conv => lhs; unfold f_X3_joined_L90
            rw [if_neg (by decide), joins2 h32 hT2.2.2.2.2.2, hTt, if_pos rfl, bd1_s, i_el, h32, Lt_d, g1, bd1_s, n_s, i1', bd2_s, show (20000 : Int32) = nI 20000 from rfl, nI_add, n_s]
            have fin : ∀ m20, f_X3_joined_L90 F (nI 2) (nI o) (fun a0 a1 m => f_X3_joD F d true a0 a1 m) (1 : Int32) (fun _ m => some ((1 : Int32), m)) (u + 1) (nI (0 + 1)) m20 = some (1, m20) := fun m20 => by
              unfold f_X3_joined_L90
              rw [if_pos (by decide)]
            simp only [Lt_d, fin]
          have q := st G
          rw [show G + 2 = F by omega] at q
          exact q
        rcases i3 with ⟨rfl, L2, t4, v4, p4, j4, k1, k2, k3⟩ | ⟨rfl, p4, k1, k2, k3⟩
        · have hT4 := k1.2.2.2.1
          have hp4n : p4 ≤ n := Nat.le_trans hT4.1 hT4.2.1
          have hll2 : (cs ++ L ++ L2).length = cs.length + L.length + L2.length := by
            rw [List.length_append, hll]
          obtain ⟨m5, s1, s2, s3⟩ := pre_add (x := 20000 + t2) hk k1 (by omega)
          refine ⟨1, m5, ?_, FC3_tr b2 (FC3_tr g2 (FC3_tr i2 s2)), Or.inl ⟨rfl, L ++ (L2 ++ [20000 + t2]), t4, v4, p4, j4, ?_, ?_, fun mm fr hm => ?_⟩⟩
          · show f_X3_joD F (d + 1) true (nI 2) (nI o) mc = _
            rw [unf2, i_el, k1.2.1, Gu_of (KT_B hk), ix_n (by omega), s1, bd1_s]
          · have : cs ++ (L ++ (L2 ++ [20000 + t2])) = cs ++ L ++ L2 ++ [20000 + t2] := by simp
            rw [this]
            exact s3
          · rw [List.length_append, List.length_append]
            show p + (L.length + (L2.length + 1)) ≤ p4
            omega
          · obtain ⟨x, mm1, f1, f2, f3, f4⟩ := e3 mm fr hm
            obtain ⟨mm2, u1, u2, u3⟩ := g5 mm1 fr o (by omega) f3
            obtain ⟨y, mm3, w1, w2, w3, w4⟩ := k3 mm2 fr u3
            rw [nmM_f (FMX_tr f2 u2)] at w4
            refine ⟨two (20000 + t2) x y, mm3, ?_, FMX_tr f2 (FMX_tr u2 w2), w3, fun st hst => ?_⟩
            · rw [not_no hB hTk hm c11, f1, bd2_s, cmp_yes f3 ht2 u1 w1]
            · rw [run_app (f4 st (by omega)), run_two w4 (by omega) (by omega) (by omega) (by omega) (by omega)]
              rfl
        · refine ⟨0, m4, ?_, FC3_tr b2 (FC3_tr g2 i2), Or.inr ⟨rfl, p4, k1, k2, fun mm fr hm => ?_⟩⟩
          · show f_X3_joD F (d + 1) true (nI 2) (nI o) mc = _
            rw [unf2, i_if]
          · obtain ⟨x, mm1, f1, f2, f3, f4⟩ := e3 mm fr hm
            obtain ⟨mm2, u1, u2, u3⟩ := g5 mm1 fr o (by omega) f3
            obtain ⟨y, mm3, w1, w2, w3, w4⟩ := k3 mm2 fr u3
            refine ⟨two (20000 + t2) x y, mm3, ?_, FMX_tr f2 (FMX_tr u2 w2), w3, w4⟩
            rw [not_no hB hTk hm c11, f1, bd2_s, cmp_yes f3 ht2 u1 w1]
    · refine ⟨0, m2, ?_, b2, Or.inr ⟨rfl, p2, e1, e2, fun mm fr hm => ?_⟩⟩
      · show f_X3_joD F (d + 1) true (nI 2) (nI o) mc = _
        rw [unf, i_if]
      · obtain ⟨x, mm1, f1, f2, f3, f4⟩ := e3 mm fr hm
        refine ⟨x, mm1, ?_, f2, f3, f4⟩
        rw [not_no hB hTk hm c11, f1, bd2_s, cmp_bad f3]
theorem not_5 {F D2 h2 : Nat} : ∀ B n k mc cs v p j d, BT B n → KTX k → D2 ≤ d + 1 → PRE B n k mc cs 11 v p j → cs.length ≤ p → ∃ r mc2, (if nI 5 < (5 : Int32) then bd1 (f_X3_advance F mc) fun m23 => bd2 (f_X3_joD F d true (2 : Int32) (nI (5 + 1)) m23) fun r24 m26 => if r24 = 0 then some ((0 : Int32), m26) else Gu (isTxB (rI m26 36 6)) <| bd1 (f_X4_add (ix (rI m26 36 6)) (20011 : Int32) m26) fun m29 => some ((1 : Int32), m29) else some ((0 : Int32), mc)) = some (r, mc2) ∧ OUT (shut F) B n k 5 cs 11 v p j mc r mc2 h2 := by
  intro B n k mc cs v p j d hB hk hd hp hl
  have hT := hp.2.2.2.1
  refine ⟨0, mc, if_neg (by decide), FC3_rf k mc, Or.inr ⟨rfl, shut_fai (Nat.le_trans hT.1 hT.2.1) hp.2.2.1.2.1⟩⟩
theorem not_S {F o D h D2 h2 : Nat} {fn : MM → Option (Int32 × MM)} (hF : 1000 ≤ F) (ho : o < 5) (hD : D + 1 ≤ D2) (hh : h ≤ h2) (S : SIMG (fun d mc => f_X3_joD F d true (nI 2) (nI (o + 1)) mc) D h (o + 1) fn) : ∀ B n k mc cs v p j d, BT B n → KTX k → D2 ≤ d + 1 → PRE B n k mc cs 11 v p j → cs.length ≤ p → ∃ r mc2, (if nI o < (5 : Int32) then bd1 (f_X3_advance F mc) fun m23 => bd2 (f_X3_joD F d true (2 : Int32) (nI (o + 1)) m23) fun r24 m26 => if r24 = 0 then some ((0 : Int32), m26) else Gu (isTxB (rI m26 36 6)) <| bd1 (f_X4_add (ix (rI m26 36 6)) (20011 : Int32) m26) fun m29 => some ((1 : Int32), m29) else some ((0 : Int32), mc)) = some (r, mc2) ∧ OUT (ntG F fn) B n k o cs 11 v p j mc r mc2 h2 := by
  intro B n k mc cs v p j d hB hk hd hp hl
  have hn := hB.1
  have h39 := KT_39 hk
  rw [if_pos (show nI o < (5 : Int32) by rw [show (5 : Int32) = nI 5 from rfl, n_lt (by omega) (by omega)]; omega)]
  obtain ⟨t2, v2, p2, j2, m1, a1, a2, a3, a4, a5⟩ := open_pre hF hB hk hp ho (by omega) (by omega)
  obtain ⟨r, m2, b1, b2, b3⟩ := S B n k m1 cs t2 v2 p2 j2 d hB hk (by omega) a3 (by omega)
  have b1' : f_X3_joD F d true (2 : Int32) (nI (o + 1)) m1 = some (r, m2) := b1
  rw [a1, bd1_s, b1', bd2_s]
  rcases b3 with ⟨rfl, L, t3, v3, p3, j3, e1, e2, e3⟩ | ⟨rfl, p3, e1, e2, e3⟩
  · have hT3 := e1.2.2.2.1
    have hp3n := Nat.le_trans hT3.1 hT3.2.1
    have hll : (cs ++ L).length = cs.length + L.length := List.length_append
    obtain ⟨m3, g1, g2, g3⟩ := pre_add (x := 20011) hk e1 (by omega)
    have g1' : f_X4_add k (20011 : Int32) m2 = some m3 := g1
    refine ⟨1, m3, ?_, FC3_tr a2 (FC3_tr b2 g2), Or.inl ⟨rfl, L ++ [20011], t3, v3, p3, j3, by rw [← List.append_assoc]; exact g3, ?_, fun mm fr hm => ?_⟩⟩
    · rw [i_el, e1.2.1, Gu_of (KT_B hk), ix_n (by omega), g1', bd1_s]
    · rw [List.length_append]
      show p + (L.length + 1) ≤ p3
      omega
    · obtain ⟨mm1, f1, f2, f3⟩ := a5 mm fr hm
      obtain ⟨x, mm2, i1, i2, i3, i4⟩ := e3 mm1 fr f3
      rw [nmM_f f2] at i4
      refine ⟨onev 20011 x, wI mm2 0 31 (rI mm2 0 31 - 1), ?_, FMX_w (by decide) (by decide) (FMX_tr f2 i2), OKM_dn i3, EVX_up (run_end (y := 20011) i4 (Or.inr rfl)) hh⟩
      unfold ntG
      rw [f1, bd2_s, i_el, i1, bd2_s, Lt_d]
      show _ = some (if x = 0 then (1 : Int32) else 0, _)
      by_cases c : x = 0
      · rw [if_pos c, if_pos c]
      · rw [if_neg c, if_neg c]
  · refine ⟨0, m2, by rw [i_if], FC3_tr a2 b2, Or.inr ⟨rfl, p3, e1, e2, fun mm fr hm => ?_⟩⟩
    obtain ⟨mm1, f1, f2, f3⟩ := a5 mm fr hm
    obtain ⟨x, mm2, i1, i2, i3, i4⟩ := e3 mm1 fr f3
    obtain ⟨y1, y2⟩ := bad_31 (v := rI mm2 0 31 - 1) i3 i4
    refine ⟨if x = 0 then 1 else 0, wI mm2 0 31 (rI mm2 0 31 - 1), ?_, FMX_w (by decide) (by decide) (FMX_tr f2 i2), y1, y2⟩
    unfold ntG
    rw [f1, bd2_s, i_el, i1, bd2_s, Lt_d]
    by_cases c : x = 0
    · rw [if_pos c, if_pos c]
    · rw [if_neg c, if_neg c]
