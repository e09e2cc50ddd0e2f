/-! THE SIMULATION: what opens, rows of operands, comparisons -/
theorem one_45 {F o : Nat} {mc : MM} (ho : o < 5) (h3 : rI mc 36 3 = nI 45) (rec0 : Int32 → Int32 → MM → Option (Int32 × MM)) (rec1 : Int32 → MM → Option (Int32 × MM)) : fb_X3_one F rec0 rec1 (nI o) mc = bd1 (f_X3_advance F mc) fun m13 => bd2 (rec1 (nI (o + 1)) m13) fun r19 m21 => if r19 = 0 then some ((0 : Int32), m21) else Gu (isTxB (rI m21 36 6)) <| bd1 (f_X4_add (ix (rI m21 36 6)) (20001 : Int32) m21) fun m24 => some ((1 : Int32), m24) := by
  unfold fb_X3_one
  simp only [Jp_d]
  rw [h3, if_neg (show ¬ nI 45 = (4 : Int32) by decide), if_neg (show ¬ nI 45 = (5 : Int32) by decide), if_pos (show nI 45 = (45 : Int32) from rfl), if_pos (show nI o < (5 : Int32) by rw [show (5 : Int32) = nI 5 from rfl, n_lt (by omega) (by omega)]; omega), if_pos (show nI 45 = (45 : Int32) from rfl), n_s]
  simp only [i_el]
theorem one_40 {F o : Nat} {mc : MM} (ho : o < 5) (h3 : rI mc 36 3 = nI 40) (rec0 : Int32 → Int32 → MM → Option (Int32 × MM)) (rec1 : Int32 → MM → Option (Int32 × MM)) : fb_X3_one F rec0 rec1 (nI o) mc = bd1 (f_X3_advance F mc) fun m13 => bd2 (rec0 (0 : Int32) (nI (o + 1)) m13) fun r14 m16 => if r14 = 0 then some ((0 : Int32), m16) else if (rI m16 36 3) = (41 : Int32) then bd1 (f_X3_advance F m16) fun m18 => some ((1 : Int32), m18) else some ((0 : Int32), m16) := by
  unfold fb_X3_one
  simp only [Jp_d]
  rw [h3, if_neg (show ¬ nI 40 = (4 : Int32) by decide), if_neg (show ¬ nI 40 = (5 : Int32) by decide), if_neg (show ¬ nI 40 = (45 : Int32) by decide), if_pos (show nI 40 = (40 : Int32) from rfl), if_pos (show nI o < (5 : Int32) by rw [show (5 : Int32) = nI 5 from rfl, n_lt (by omega) (by omega)]; omega), if_neg (show ¬ nI 40 = (45 : Int32) by decide), n_s]
  rfl
theorem OKM_dn {B : Nat → Nat} {n o t v p j fr : Nat} {m : MM} (h : OKM B n (o + 1) t v p j fr m) : OKM B n o t v p j fr (wI m 0 31 (rI m 0 31 - 1)) := by
  rw [h.2.2.1, n_p]
  exact OKM_31 h
theorem sim_atomS {F o D0 D1 D h0 h1 h : Nat} {fe fa : MM → Option (Int32 × MM)} (hF : 1000 ≤ F) (ho : o < 5) (hD0 : D0 + 1 ≤ D) (hD1 : D1 + 1 ≤ D) (hh0 : h0 ≤ h) (hh1 : h1 ≤ h) (hh : 1 ≤ h) (Se : SIMG (fun d mc => f_X3_joD F d true 0 (nI (o + 1)) mc) D0 h0 (o + 1) fe) (Sa : SIMG (fun d mc => f_X3_joD F d false 0 (nI (o + 1)) mc) D1 h1 (o + 1) fa) : SIMG (fun d mc => f_X3_joD F d false 0 (nI o) mc) D h o (atomG F (parG F fe) (negG F fa)) := by
  intro B n k mc cs t v p j d hB hk hd hp hl
  obtain ⟨d, rfl⟩ : ∃ z, d = z + 1 := ⟨d - 1, by omega⟩
  show ∃ r mc2, fb_X3_one F (fun a0 a1 m => f_X3_joD F d true a0 a1 m) (fun a0 m => f_X3_joD F d false 0 a0 m) (nI o) mc = some (r, mc2) ∧ _
  have hn := hB.1
  have hT := hp.2.2.2.1
  have hpn : p ≤ n := Nat.le_trans hT.1 hT.2.1
  have h3 : rI mc 36 3 = nI t := hp.2.2.1.1
  have h4 : rI mc 36 4 = nI p := hp.2.2.1.2.1
  by_cases c4 : t = 4 ∨ t = 5
  · obtain ⟨m2, a1, a2, L, t2, v2, p2, j2, a3, a4, a5⟩ := leaf_ok (PA := parG F fe) (NE := negG F fa) (o := o) hF hB hk hp hl c4 (fun a0 a1 m => f_X3_joD F d true a0 a1 m) (fun a0 m => f_X3_joD F d false 0 a0 m) (nI o)
    refine ⟨1, m2, a1, a2, Or.inl ⟨rfl, L, t2, v2, p2, j2, a3, a4, fun mm fr hm => ?_⟩⟩
    obtain ⟨x, mm2, b1, b2, b3, b4⟩ := a5 mm fr hm
    exact ⟨x, mm2, b1, b2, b3, EVX_up b4 hh⟩
  by_cases c45 : t = 45
  · subst c45
    rw [one_45 ho h3]
    obtain ⟨t2, v2, p2, j2, m1, a1, a2, a3, a4, a5⟩ := open_pre hF hB hk hp ho (by omega) (by omega)
    obtain ⟨r, m2, b1, b2, b3⟩ := Sa B n k m1 cs t2 v2 p2 j2 d hB hk (by omega) a3 (by omega)
    have b1' : f_X3_joD F d false 0 (nI (o + 1)) m1 = some (r, m2) := b1
    rw [a1, bd1_s, b1', bd2_s]
    rcases b3 with ⟨rfl, L, t3, v3, p3, j3, e1, e2, e3⟩ | ⟨rfl, p3, e1, e2, e3⟩
    · have hT3 := e1.2.2.2.1
      have hll : (cs ++ L).length = cs.length + L.length := List.length_append
      obtain ⟨m3, g1, g2, g3⟩ := pre_add (x := 20001) hk e1 (by
        have := hT3.1
        have := hT3.2.1
        omega)
      have h39 := KT_39 hk
      refine ⟨1, m3, ?_, FC3_tr a2 (FC3_tr b2 g2), Or.inl ⟨rfl, L ++ [20001], t3, v3, p3, j3, by rw [← List.append_assoc]; exact g3, ?_, fun mm fr hm => ?_⟩⟩
      · have g1' : f_X4_add k (20001 : Int32) m2 = some m3 := g1
        rw [i_el, e1.2.1, Gu_of (KT_B hk), ix_n (by omega), g1', bd1_s]
      · rw [List.length_append]
        show p + (L.length + 1) ≤ p3
        omega
      · obtain ⟨mm1, f1, f2, f3⟩ := a5 mm fr hm
        obtain ⟨x, mm2, i1, i2, i3, i4⟩ := e3 mm1 fr f3
        rw [nmM_f f2] at i4
        refine ⟨-x, wI mm2 0 31 (rI mm2 0 31 - 1), ?_, FMX_w (by decide) (by decide) (FMX_tr f2 i2), OKM_dn i3, ?_⟩
        · rw [atom_45 hm]
          unfold negG
          rw [f1, bd2_s, i_el, i1, bd2_s, Lt_d]
        · have q := run_end (y := 20001) i4 (Or.inl rfl)
          exact EVX_up q hh1
    · refine ⟨0, m2, by rw [i_if], FC3_tr a2 b2, Or.inr ⟨rfl, p3, e1, e2, fun mm fr hm => ?_⟩⟩
      obtain ⟨mm1, f1, f2, f3⟩ := a5 mm fr hm
      obtain ⟨x, mm2, i1, i2, i3, i4⟩ := e3 mm1 fr f3
      obtain ⟨y1, y2⟩ := bad_31 (v := rI mm2 0 31 - 1) i3 i4
      refine ⟨-x, wI mm2 0 31 (rI mm2 0 31 - 1), ?_, FMX_w (by decide) (by decide) (FMX_tr f2 i2), y1, y2⟩
      rw [atom_45 hm]
      unfold negG
      rw [f1, bd2_s, i_el, i1, bd2_s, Lt_d]
  by_cases c40 : t = 40
  · subst c40
    rw [one_40 ho h3]
    obtain ⟨t2, v2, p2, j2, m1, a1, a2, a3, a4, a5⟩ := open_pre hF hB hk hp ho (by omega) (by omega)
    obtain ⟨r, m2, b1, b2, b3⟩ := Se B n k m1 cs t2 v2 p2 j2 d hB hk (by omega) a3 (by omega)
    have b1' : f_X3_joD F d true 0 (nI (o + 1)) m1 = some (r, m2) := b1
    rw [a1, bd1_s, b1', bd2_s]
    rcases b3 with ⟨rfl, L, t3, v3, p3, j3, e1, e2, e3⟩ | ⟨rfl, p3, e1, e2, e3⟩
    · have hT3 := e1.2.2.2.1
      have et : rI m2 36 3 = nI t3 := e1.2.2.1.1
      rw [i_el, et]
      by_cases c41 : t3 = 41
      · subst c41
        obtain ⟨t4, v4, p4, j4, m3, g1, g2, g3, g4, g5⟩ := adv_pre hF hB hk e1
        have hpj := hT3.2.2.1 (by omega)
        refine ⟨1, m3, ?_, FC3_tr a2 (FC3_tr b2 g2), Or.inl ⟨rfl, L, t4, v4, p4, j4, g3, by omega, fun mm fr hm => ?_⟩⟩
        · rw [if_pos (show nI 41 = (41 : Int32) from rfl), g1, bd1_s]
        · obtain ⟨mm1, f1, f2, f3⟩ := a5 mm fr hm
          obtain ⟨x, mm2, i1, i2, i3, i4⟩ := e3 mm1 fr f3
          rw [nmM_f f2] at i4
          have i5 := OKM_dn i3
          obtain ⟨mm3, u1, u2, u3⟩ := g5 (wI mm2 0 31 (rI mm2 0 31 - 1)) fr o (by omega) i5
          refine ⟨x, mm3, ?_, FMX_tr (FMX_tr f2 i2) (FMX_tr (FMX_w (by decide) (by decide) (FMX_rf mm2)) u2), u3, EVX_up i4 hh0⟩
          rw [atom_40 hm]
          unfold parG
          rw [f1, bd2_s, i_el, i1, bd2_s, show (41 : Int32) = nI 41 from rfl, sign_sp i3 (by unfold SG; omega), if_pos rfl, bd1_s, Jp_d, i_el]
          dsimp only
          rw [Lt_d, i5.2.2.2.1, if_pos rfl, u1, bd1_s]
      · refine ⟨0, m2, by rw [if_neg (show ¬ nI t3 = (41 : Int32) by rw [show (41 : Int32) = nI 41 from rfl, n_eq (by have := hT3.2.2.2.2.2; omega) (by omega)]; exact c41)], FC3_tr a2 b2, Or.inr ⟨rfl, p3, Nat.le_trans hT3.1 hT3.2.1, e1.2.2.1.2.1, fun mm fr hm => ?_⟩⟩
        obtain ⟨mm1, f1, f2, f3⟩ := a5 mm fr hm
        obtain ⟨x, mm2, i1, i2, i3, i4⟩ := e3 mm1 fr f3
        obtain ⟨mm3, u1, u2, u3, u4⟩ := fail_ok i3
        obtain ⟨y1, y2⟩ := bad_31 (v := rI mm3 0 31 - 1) u3 u4
        refine ⟨x, wI mm3 0 31 (rI mm3 0 31 - 1), ?_, FMX_w (by decide) (by decide) (FMX_tr (FMX_tr f2 i2) u2), y1, y2⟩
        rw [atom_40 hm]
        unfold parG
        rw [f1, bd2_s, i_el, i1, bd2_s, show (41 : Int32) = nI 41 from rfl, sign_sp i3 (by unfold SG; omega), if_neg c41, bd1_s, Jp_d, i_if, u1, bd1_s]
        dsimp only
        rw [Lt_d, y1, i_el]
    · refine ⟨0, m2, by rw [i_if], FC3_tr a2 b2, Or.inr ⟨rfl, p3, e1, e2, fun mm fr hm => ?_⟩⟩
      obtain ⟨mm1, f1, f2, f3⟩ := a5 mm fr hm
      obtain ⟨x, mm2, i1, i2, i3, i4⟩ := e3 mm1 fr f3
      obtain ⟨y1, y2⟩ := bad_31 (v := rI mm2 0 31 - 1) i3 i4
      refine ⟨x, wI mm2 0 31 (rI mm2 0 31 - 1), ?_, FMX_w (by decide) (by decide) (FMX_tr f2 i2), y1, y2⟩
      rw [atom_40 hm]
      unfold parG
      rw [f1, bd2_s, i_el, i1, bd2_s, sign_bad i3, bd1_s, Jp_d, i_if, fail_bad i3, bd1_s]
      dsimp only
      rw [Lt_d, y1, i_el]
  · exact ⟨0, mc, one_no h3 hT.2.2.2.2.2 c45 c40 (by omega) (by omega) _ _ _, FC3_rf k mc, Or.inr ⟨rfl, leaf_no hB hT h4 c45 c40 (by omega) (by omega)⟩⟩
/-- the innermost of the component's joins -/
theorem sim_5 {F o D h : Nat} {f : MM → Option (Int32 × MM)} (S : SIMG (fun d mc => f_X3_joD F d false 0 (nI o) mc) D h o f) : SIMG (fun d mc => f_X3_joD F d true (nI 5) (nI o) mc) (D + 1) h o f := by
  intro B n k mc cs t v p j d hB hk hd hp hl
  obtain ⟨d, rfl⟩ : ∃ z, d = z + 1 := ⟨d - 1, by omega⟩
  obtain ⟨r, m2, b1, b2⟩ := S B n k mc cs t v p j d hB hk (by omega) hp hl
  have b1' : f_X3_joD F d false 0 (nI o) mc = some (r, m2) := b1
  refine ⟨r, m2, ?_, b2⟩
  show fb_X3_joined F (fun a0 a1 m => f_X3_joD F d true a0 a1 m) (fun a0 m => f_X3_joD F d false 0 a0 m) (nI 5) (nI o) mc = some (r, m2)
  unfold fb_X3_joined
  rw [if_neg (show ¬ nI 5 < (5 : Int32) by decide)]
  dsimp only
  rw [b1', bd2_s]
  rcases b2.2 with ⟨c, _⟩ | ⟨c, _⟩ <;> subst c <;> rfl
/-- a row of operands -/
def LOOK (B : Nat → Nat) (T : Nat → Bool) (F : Nat) (f : MM → Option (Int32 × MM)) (LP : Nat → Int32 → MM → Option (Int32 × MM)) : Prop := (∀ u x mm, rI mm 0 32 = 1 → LP (u + 1) x mm = some (x, mm)) ∧ ∀ u x mm n o t v p j fr, BT B n → TKX n t v p j → OKM B n o t v p j fr mm → (T t = false → LP (u + 1) x mm = some (x, mm)) ∧ (T t = true → LP (u + 1) x mm = bd1 (f_X6_next F mm) fun m2 => bd2 (f m2) fun r m3 => LP u (two (20000 + t) x r) m3)
theorem run_two {nm : Nat → Int32} {L M : List Nat} {b a : Int32} {y h : Nat} (e : EVX nm L b h) (hy : 20000 ≤ y) (hy2 : y < 30000) (h1 : y ≠ 20001) (h2 : y ≠ 20011) {st : List Int32} (hs : st.length + 1 + h ≤ 40) : run nm (L ++ y :: M) (a :: st) = run nm M (two y a b :: st) := by
  rw [run_app (e (a :: st) (by show st.length + 1 + h ≤ 40; exact hs))]
  show (match run1 nm y (b :: a :: st) with | some s2 => run nm M s2 | none => none) = _
  unfold run1
  rw [if_pos hy2, if_pos hy, if_neg (by omega)]
theorem sim_loop {F c o h D : Nat} {T : Nat → Bool} {f : MM → Option (Int32 × MM)} {LP : Nat → Int32 → MM → Option (Int32 × MM)} (hF : 1000 ≤ F) (hc : c < 5) (hj : ∀ mc t, rI mc 36 3 = nI t → t < 100 → f_X3_joins (nI c) mc = some (if T t = true then 1 else 0)) (hT : ∀ t, T t = true → t ≠ 1 ∧ t ≠ 2 ∧ t ≠ 3 ∧ t ≠ 11) (S : SIMG (fun d mc => f_X3_joD F d true (nI (c + 1)) (nI o) mc) D h o f) {B : Nat → Nat} (LK0 : LOOK B T F f LP) {n k d : Nat} (hB : BT B n) (hk : KTX k) (hd : D ≤ d) : ∀ w mc cs t v p j q fu, n - p < w → n - p < fu → q ≤ p → PRE B n k mc cs t v p j → cs.length ≤ p → ∃ r mc2, f_X3_joined_L90 F (nI c) (nI o) (fun a0 a1 m => f_X3_joD F d true a0 a1 m) (160 : Int32) (fun _ m => some ((1 : Int32), m)) fu (nI q) mc = some (r, mc2) ∧ FC3 k mc mc2 ∧ ((r = 1 ∧ ∃ L t2 v2 p2 j2, PRE B n k mc2 (cs ++ L) t2 v2 p2 j2 ∧ p + L.length ≤ p2 ∧ ∀ mm fr a fm, n - p < fm → OKM B n o t v p j fr mm → ∃ x mm2, LP fm a mm = some (x, mm2) ∧ FMX mm mm2 ∧ OKM B n o t2 v2 p2 j2 fr mm2 ∧ ∀ st : List Int32, st.length + 1 + h ≤ 40 → run (nmM mm) L (a :: st) = some (x :: st)) ∨ (r = 0 ∧ ∃ p2, p2 ≤ n ∧ rI mc2 36 4 = nI p2 ∧ ∀ mm fr a fm, n - p < fm → OKM B n o t v p j fr mm → ∃ x mm2, LP fm a mm = some (x, mm2) ∧ FMX mm mm2 ∧ rI mm2 0 32 = 1 ∧ rI mm2 0 33 = nI p2)) := by
  have hn := hB.1
  have h39 := KT_39 hk
  intro w
  induction w with
  | zero => intro mc cs t v p j q fu hw; omega
  | succ w ih =>
    intro mc cs t v p j q fu hw hfu hq hp hl
    obtain ⟨fu, rfl⟩ : ∃ z, fu = z + 1 := ⟨fu - 1, by omega⟩
    have hTk := hp.2.2.2.1
    have hpn : p ≤ n := Nat.le_trans hTk.1 hTk.2.1
    have h3 : rI mc 36 3 = nI t := hp.2.2.1.1
    have t100 := hTk.2.2.2.2.2
    have stop : T t = false → f_X3_joined_L90 F (nI c) (nI o) (fun a0 a1 m => f_X3_joD F d true a0 a1 m) (160 : Int32) (fun _ m => some ((1 : Int32), m)) (fu + 1) (nI q) mc = some (1, mc) := fun hf => by
      unfold f_X3_joined_L90
      by_cases c160 : (160 : Int32) ≤ nI q
      · rw [if_pos c160]
      · rw [if_neg c160, hj mc t h3 t100, hf, if_neg (by decide), bd1_s, i_if]
    cases hTt : T t with
    | false =>
      refine ⟨1, mc, stop hTt, FC3_rf k mc, Or.inl ⟨rfl, [], t, v, p, j, by rw [List.append_nil]; exact hp, Nat.le_refl _, fun mm fr a fm hfm hm => ?_⟩⟩
      obtain ⟨fm, rfl⟩ : ∃ z, fm = z + 1 := ⟨fm - 1, by omega⟩
      exact ⟨a, mm, (LK0.2 fm a mm n o t v p j fr hB hTk hm).1 hTt, FMX_rf mm, hm, fun st _ => rfl⟩
    | true =>
      obtain ⟨z1, z2, z3, z4⟩ := hT t hTt
      have hpj := hTk.2.2.1 z2
      have hjn := hTk.2.1
      obtain ⟨t2, v2, p2, j2, m1, a1, a2, a3, a4, a5⟩ := adv_pre hF hB hk hp
      have hT2 := a3.2.2.2.1
      obtain ⟨r, m2, b1, b2, b3⟩ := S B n k m1 cs t2 v2 p2 j2 d hB hk hd a3 (by omega)
      have b1' : f_X3_joD F d true (nI (c + 1)) (nI o) m1 = some (r, m2) := b1
      have unf : f_X3_joined_L90 F (nI c) (nI o) (fun a0 a1 m => f_X3_joD F d true a0 a1 m) (160 : Int32) (fun _ m => some ((1 : Int32), m)) (fu + 1) (nI q) mc = if r = 0 then some ((0 : Int32), m2) else Gu (isTxB (rI m2 36 6)) <| bd1 (f_X4_add (ix (rI m2 36 6)) (nI (20000 + t)) m2) fun m20 => f_X3_joined_L90 F (nI c) (nI o) (fun a0 a1 m => f_X3_joD F d true a0 a1 m) (160 : Int32) (fun _ m => some ((1 : Int32), m)) fu (nI (q + 1)) m20 := by
        conv => lhs; unfold f_X3_joined_L90
        rw [if_neg (show ¬ (160 : Int32) ≤ nI q by rw [show (160 : Int32) = nI 160 from rfl, n_le (by omega) (by omega)]; omega), hj mc t h3 t100, hTt, if_pos rfl, bd1_s, i_el, h3, Lt_d, a1, bd1_s, n_s, b1', bd2_s, show (20000 : Int32) = nI 20000 from rfl, nI_add, n_s]
        rfl
      rcases b3 with ⟨rfl, L, t3, v3, p3, j3, e1, e2, e3⟩ | ⟨rfl, p3, e1, e2, e3⟩
      · have hT3 := e1.2.2.2.1
        have hp3n : p3 ≤ n := Nat.le_trans hT3.1 hT3.2.1
        have hll : (cs ++ L).length = cs.length + L.length := List.length_append
        obtain ⟨m3, g1, g2, g3⟩ := pre_add (x := 20000 + t) hk e1 (by omega)
        have hll2 : (cs ++ L ++ [20000 + t]).length = cs.length + L.length + 1 := by
          rw [List.length_append, hll]
          rfl
        obtain ⟨r4, m4, i1, i2, i3⟩ := ih m3 (cs ++ L ++ [20000 + t]) t3 v3 p3 j3 (q + 1) fu (by omega) (by omega) (by omega) g3 (by omega)
        refine ⟨r4, m4, ?_, FC3_tr a2 (FC3_tr b2 (FC3_tr g2 i2)), ?_⟩
        · rw [unf, i_el, e1.2.1, Gu_of (KT_B hk), ix_n (by omega), g1, bd1_s]
          exact i1
        · rcases i3 with ⟨rfl, L2, t4, v4, p4, j4, k1, k2, k3⟩ | ⟨rfl, p4, k1, k2, k3⟩
          · refine Or.inl ⟨rfl, L ++ (20000 + t) :: L2, t4, v4, p4, j4, ?_, ?_, fun mm fr a fm hfm hm => ?_⟩
            · have : cs ++ (L ++ (20000 + t) :: L2) = cs ++ L ++ [20000 + t] ++ L2 := by simp
              rw [this]
              exact k1
            · rw [List.length_append, List.length_cons]
              omega
            · obtain ⟨fm, rfl⟩ : ∃ z, fm = z + 1 := ⟨fm - 1, by omega⟩
              obtain ⟨mm1, f1, f2, f3⟩ := a5 mm fr o z3 hm
              obtain ⟨b, mm2, s1, s2, s3, s4⟩ := e3 mm1 fr f3
              rw [nmM_f f2] at s4
              obtain ⟨x, mm3, y1, y2, y3, y4⟩ := k3 mm2 fr (two (20000 + t) a b) fm (by omega) s3
              rw [nmM_f (FMX_tr f2 s2)] at y4
              refine ⟨x, mm3, ?_, FMX_tr f2 (FMX_tr s2 y2), y3, fun st hst => ?_⟩
              · rw [(LK0.2 fm a mm n o t v p j fr hB hTk hm).2 hTt, f1, bd1_s, s1, bd2_s]
                exact y1
              · rw [run_two s4 (by omega) (by omega) (by omega) (by omega) hst]
                exact y4 st hst
          · refine Or.inr ⟨rfl, p4, k1, k2, fun mm fr a fm hfm hm => ?_⟩
            obtain ⟨fm, rfl⟩ : ∃ z, fm = z + 1 := ⟨fm - 1, by omega⟩
            obtain ⟨mm1, f1, f2, f3⟩ := a5 mm fr o z3 hm
            obtain ⟨b, mm2, s1, s2, s3, s4⟩ := e3 mm1 fr f3
            obtain ⟨x, mm3, y1, y2, y3, y4⟩ := k3 mm2 fr (two (20000 + t) a b) fm (by omega) s3
            refine ⟨x, mm3, ?_, FMX_tr f2 (FMX_tr s2 y2), y3, y4⟩
            rw [(LK0.2 fm a mm n o t v p j fr hB hTk hm).2 hTt, f1, bd1_s, s1, bd2_s]
            exact y1
      · refine ⟨0, m2, by rw [unf, i_if], FC3_tr a2 b2, Or.inr ⟨rfl, p3, e1, e2, fun mm fr a fm hfm hm => ?_⟩⟩
        obtain ⟨fm, rfl⟩ : ∃ z, fm = z + 1 := ⟨fm - 1, by omega⟩
        obtain ⟨mm1, f1, f2, f3⟩ := a5 mm fr o z3 hm
        obtain ⟨b, mm2, s1, s2, s3, s4⟩ := e3 mm1 fr f3
        obtain ⟨fm2, hfm2⟩ : ∃ z, fm = z + 1 := ⟨fm - 1, by omega⟩
        refine ⟨two (20000 + t) a b, mm2, ?_, FMX_tr f2 s2, s3, s4⟩
        rw [(LK0.2 fm a mm n o t v p j fr hB hTk hm).2 hTt, f1, bd1_s, s1, bd2_s, hfm2]
        exact LK0.1 fm2 _ mm2 s3
