/-! PACK; FIRST and CHEAP -/
theorem mvp_I {A : LT} {s t h : Nat} (hs : s < (A 6 0) ^ (A 6 1)) (ht : t < A 6 1) : nI s + (nI h - nI (dg (A 6 0) s t)) * nI ((A 6 0) ^ t) = nI (mvp A s t h) := by
  have ar := mvp_ar (h := h) hs ht
  have e : nI (mvp A s t h) + nI (dg (A 6 0) s t) * nI ((A 6 0) ^ t) = nI s + nI h * nI ((A 6 0) ^ t) := by
    rw [n_mul, n_mul, nI_add, nI_add, ar]
  rw [Int32.sub_mul, Int32.sub_eq_add_neg, ← Int32.add_assoc, ← Int32.sub_eq_add_neg, ← e, Int32.add_sub_cancel]
theorem ps_mv {A : LT} {s t h : Nat} (B : AB A) (h0 : A 6 5 = 0) (ht : t < A 6 1) (hh : h < A 6 0) : mvc (A 6 1) (ps A s) t h = ps A (mvp A s t h) := by
  have b1 := B.1
  refine dg_ext (mvc_lt (by omega)) (ps_N B) (fun i hi => ?_)
  have e1 := ps_dg (s := s) B hi
  have e2 := ps_dg (s := mvp A s t h) B hi
  rw [if_neg (by omega)] at e1 e2
  rw [mvc_dg (by omega) hi, e1, e2, mvp_dg hh hi]
theorem wl_ps {A : LT} {p : Nat} (B : AB A) (h0 : A 6 5 = 0) : u_wl A (ps A p) = true ↔ u_val A p = true := by
  constructor
  · intro h
    refine val_t.mpr ⟨MAY_cong (a := dg 5 (ps A p)) (fun i hi => ?_) (fun i hi hg => by rw [ps_dg B hi, if_neg hg]) (wl_t.mp h), fun z => absurd h0 z⟩
    exact dg_lt (by have := (B.2.2.2.2.2.2.2.2 i hi).2.2.2.2; omega)
  · exact ps_wl B
theorem mk_iff {A : LT} {p : Nat} : nI (u_mk A p) = 0 ↔ ¬ u_val A p = true := by
  rw [n_z (by have := mk_le (A := A) (s := p); omega)]
  unfold u_mk
  by_cases c : u_val A p = true
  · rw [if_pos c]
    constructor
    · intro z
      split at z <;> omega
    · exact fun z => absurd c z
  · rw [if_neg c]
    exact ⟨fun _ => c, fun _ => rfl⟩
theorem farWith_sp {A : LT} {m : MM} {hm t h : Nat} {fa : Nat → Nat} (B : AB A) (h0 : A 6 5 = 0) (S : SE m A hm) (hf : ∀ s, s < (A 6 0) ^ (A 6 1) → rI m 27 s = nI (fa s) - 1) (ht : t < A 6 1) (hh : h < A 6 0) : f_X1_farWith (nI t) (nI h) m = some (nI (if u_val A (mvp A hm t h) = true then fa (mvp A hm t h) else 0) - 1) := by
  have b1 := B.1
  have b2 := B.2.1
  have hN := pw_le b1 b2
  obtain ⟨s1, s2, s3, s4, s5, s6, s7, s8, s9, s10⟩ := S
  have g17 : (rI m 25 10 == 17) = true := by rw [s4]; rfl
  have gt := inB_n (by omega : t < 5) (by decide : 5 ≤ 2 ^ 31)
  have hxt : ix (nI t) = t := ix_n (by omega)
  have e24 : rI m 24 t = nI (dg (A 6 0) hm t) := by rw [s3 t ht, if_neg (by omega)]
  have hpl := mvp_lt (s := hm) (t := t) hh
  unfold f_X1_farWith
  rw [Gu_of g17, Gu_of gt, Gu_of gt, hxt, e24, s6, s7 t ht, mvp_I s9 ht, Lt_d, Gu_of (inB_n (by omega : mvp A hm t h < 3125) (by decide)), ix_n (by omega), s8 _ hpl]
  by_cases c : u_val A (mvp A hm t h) = true
  · rw [if_neg (fun z => mk_iff.mp z c), if_pos c, Gu_of (inB_n (by omega : mvp A hm t h < 3125) (by decide)), hf _ hpl]
  · rw [if_pos (mk_iff.mpr c), if_neg c]
    rfl
theorem tM_cmp {x y : Nat} (hx : x ≤ 400000) (hy : y ≤ 400000) : tM y ≤ tM x ↔ ¬ (x ≠ 0 ∧ (y = 0 ∨ x < y)) := by
  have FARd : FAR = 99999999 := rfl
  unfold tM
  by_cases cx : x = 0
  · rw [if_pos cx]
    by_cases cy : y = 0
    · rw [if_pos cy]; omega
    · rw [if_neg cy]; omega
  · rw [if_neg cx]
    by_cases cy : y = 0
    · rw [if_pos cy]; omega
    · rw [if_neg cy]; omega
theorem pack_L {A : LT} {mc mm : MM} {t : Nat} {fa f g pr : Nat → Nat} (a1 : Int32) (V : AV A) (L1 : LC mc 1 A) (LMm : LM mm A) (SE1 : SE mc A (u_hm A)) (S : SPR A one (srcO A) true (u_hm A) mc fa) (G : GA mm A pr f g) (ht : t < A 6 1) : ∀ k h n y (l : Int32), h + k = A 6 0 → k < n → y ≤ 309376 → ∃ r, f_X5_pack_L36 (nI t) mc (fun x3_8 x4_9 x5_10 => if a1 = 0 then some (x3_8, mc) else some (x4_9, mc)) n l (nI y - 1) (nI h) = some (r, mc) ∧ f_X6_pack_L41 (nI t) mm (nI (ps A (u_hm A))) (fun x4_9 x5_10 x6_11 => if a1 = 0 then some (x4_9, mm) else bd1 (f_X6_told1 x5_10 mm) fun r19 => some (r19, mm)) n l (nI (tM y)) (nI h) = some (r, mm) := by
  have b1 := V.1.1
  have b2 := V.1.2.1
  have hP := p5_le b2
  have h0 := V.2.2.2.1
  have FARd : FAR = 99999999 := rfl
  intro k
  induction k with
  | zero =>
    intro h n y l hk hn hy
    obtain ⟨n, rfl⟩ : ∃ z, n = z + 1 := ⟨n - 1, by omega⟩
    have hle : nI (A 6 0) ≤ nI h := (n_le (by omega) (by omega)).mpr (by omega)
    have e7 : rI mc 1 7 = nI (A 6 0) := L1.1
    unfold f_X5_pack_L36 f_X6_pack_L41
    rw [e7, LMm.1, if_pos hle, if_pos hle, told1_sp (by omega), bd1_s]
    by_cases c : a1 = 0
    · rw [if_pos c, if_pos c]
      exact ⟨_, rfl, rfl⟩
    · rw [if_neg c, if_neg c]
      exact ⟨_, rfl, rfl⟩
  | succ k ih =>
    intro h n y l hk hn hy
    obtain ⟨n, rfl⟩ : ∃ z, n = z + 1 := ⟨n - 1, by omega⟩
    have hh : h < A 6 0 := by omega
    have nle : ¬ nI (A 6 0) ≤ nI h := by rw [n_le (by omega) (by omega)]; omega
    have e7 : rI mc 1 7 = nI (A 6 0) := L1.1
    have hpl := mvp_lt (s := u_hm A) (t := t) hh
    have hxb := S.2.1 (mvp A (u_hm A) t h)
    generalize hxd : (if u_val A (mvp A (u_hm A) t h) = true then fa (mvp A (u_hm A) t h) else 0) = x at *
    have hx : x ≤ 309376 := by
      rw [← hxd]
      split <;> omega
    have fw := farWith_sp V.1 h0 SE1 S.1 ht hh
    rw [hxd] at fw
    have isl := isLess_sp (x := x) (y := y) (by omega) (by omega) mc
    have hpsN := ps_N (s := mvp A (u_hm A) t h) V.1
    have unfC : f_X5_pack_L36 (nI t) mc (fun x3_8 x4_9 x5_10 => if a1 = 0 then some (x3_8, mc) else some (x4_9, mc)) (n + 1) l (nI y - 1) (nI h) = if (x ≠ 0 ∧ (y = 0 ∨ x < y)) then f_X5_pack_L36 (nI t) mc (fun x3_8 x4_9 x5_10 => if a1 = 0 then some (x3_8, mc) else some (x4_9, mc)) n (nI h) (nI x - 1) (nI (h + 1)) else f_X5_pack_L36 (nI t) mc (fun x3_8 x4_9 x5_10 => if a1 = 0 then some (x3_8, mc) else some (x4_9, mc)) n l (nI y - 1) (nI (h + 1)) := by
      conv => lhs; unfold f_X5_pack_L36
      rw [e7, if_neg nle, fw, bd1_s, isl, bd1_s]
      by_cases cc : x ≠ 0 ∧ (y = 0 ∨ x < y)
      · rw [if_pos cc, if_pos cc, i_el, Lt_d, n_s]
      · rw [if_neg cc, if_neg cc, i_if, Lt_d, n_s]
    have e11 := G.1.1 _ hpsN
    have e12 := (G.1.2.1 _ hpsN).1
    have gp := inB_n (by omega : ps A (mvp A (u_hm A) t h) < 3125) (by decide : 3125 ≤ 2 ^ 31)
    have hxp : ix (nI (ps A (mvp A (u_hm A) t h))) = ps A (mvp A (u_hm A) t h) := ix_n (by omega)
    have hnow := ps_N (s := u_hm A) V.1
    have ea : f_X6_after (nI (ps A (u_hm A))) (nI t) (nI h) mm = some (nI (ps A (mvp A (u_hm A) t h))) := by
      rw [after_sp b2 hnow ht (by omega), ps_mv V.1 h0 ht hh]
    have unfM : f_X6_pack_L41 (nI t) mm (nI (ps A (u_hm A))) (fun x4_9 x5_10 x6_11 => if a1 = 0 then some (x4_9, mm) else bd1 (f_X6_told1 x5_10 mm) fun r19 => some (r19, mm)) (n + 1) l (nI (tM y)) (nI h) = if (x ≠ 0 ∧ (y = 0 ∨ x < y)) then f_X6_pack_L41 (nI t) mm (nI (ps A (u_hm A))) (fun x4_9 x5_10 x6_11 => if a1 = 0 then some (x4_9, mm) else bd1 (f_X6_told1 x5_10 mm) fun r19 => some (r19, mm)) n (nI h) (nI (tM x)) (nI (h + 1)) else f_X6_pack_L41 (nI t) mm (nI (ps A (u_hm A))) (fun x4_9 x5_10 x6_11 => if a1 = 0 then some (x4_9, mm) else bd1 (f_X6_told1 x5_10 mm) fun r19 => some (r19, mm)) n l (nI (tM y)) (nI (h + 1)) := by
      conv => lhs; unfold f_X6_pack_L41
      rw [LMm.1, if_neg nle, ea, bd1_s, Gu_of gp, hxp, e11]
      by_cases cv : u_val A (mvp A (u_hm A) t h) = true
      · have cw := (wl_ps V.1 h0).mpr cv
        rw [if_pos cv] at hxd
        have hfx : f (ps A (mvp A (u_hm A) t h)) = tM x := by
          rw [← hxd]
          exact LD_few V.1 (Or.inl h0) G cv hpl (by omega) (S.2.2.2.1 rfl _)
        have tx := (tM_lt (x := x) (by omega)).1
        have ty := (tM_lt (x := y) (by omega)).1
        rw [if_pos (by rw [if_pos cw]; rfl), Gu_of gp, Gu_of gp, e12, hfx]
        simp only [n_le (show tM y < 2 ^ 31 by omega) (show tM x < 2 ^ 31 by omega), Lt_d, n_s]
        by_cases cc : x ≠ 0 ∧ (y = 0 ∨ x < y)
        · rw [if_pos cc, if_neg (fun z => (tM_cmp (by omega) (by omega)).mp z cc)]
        · rw [if_neg cc, if_pos ((tM_cmp (by omega) (by omega)).mpr cc)]
      · have cw : ¬ u_wl A (ps A (mvp A (u_hm A) t h)) = true := fun z => cv ((wl_ps V.1 h0).mp z)
        rw [if_neg cv] at hxd
        rw [if_neg (by rw [if_neg cw]; decide), Lt_d, n_s, if_neg (fun z => z.1 hxd.symm)]
    rw [unfC, unfM]
    by_cases cc : x ≠ 0 ∧ (y = 0 ∨ x < y)
    · rw [if_pos cc, if_pos cc]
      exact ih (h + 1) n x (nI h) (by omega) (by omega) hx
    · rw [if_neg cc, if_neg cc]
      exact ih (h + 1) n y l (by omega) (by omega) hy
theorem t_pack {F : Nat} (hF : 1000000000000 ≤ F) (mc mm : MM) (a0 a1 : Int32) (R : RelX (XT F) mc mm) : ∃ r mc2 mm2, f_X5_pack F a0 a1 mc = some (r, mc2) ∧ f_X6_pack F a0 a1 mm = some (r, mm2) ∧ RelX (XT F) mc2 mm2 := by
  obtain ⟨A, n, r1, r2, V, r4, r5, r6, r7, r8⟩ := id R
  obtain ⟨hi, P, p0, pc, pm⟩ := r7.2.2.2 (A 6 4) r4
  have b1 := V.1.1
  have b2 := V.1.2.1
  unfold f_X5_pack f_X6_pack
  rcases a_cs a0 (A 6 1) with ⟨t, ht, rfl⟩ | h
  · rw [htC r1.2.1 b2 ht, htM r2.2.1 b2 ht, bd1_s, bd1_s, i_el, i_el]
    rcases a_cs a1 2 with ⟨w, hw, rfl⟩ | h
    · rw [show (2 : Int32) = nI 2 from rfl, wi_t hw (by omega), in_t hw (by omega) rfl, bd1_s, bd1_s, i_el, i_el]
      obtain ⟨m1, fa, k1, k2, k3, k4⟩ := fewestC (F := F) (all := true) (by omega) V r1
      have k1' : f_X5_fewest F 1 mc = some (nI (fa (u_hm A)) - 1, m1) := k1
      obtain ⟨n1, f, g, g1, g2, g3, g4⟩ := gath_sp hF p0 pm r2 V.1 V.2.1 (Or.inl V.2.2.2.1)
      rw [k1', bd2_s, g1, bd1_s, now_sp (by omega) V.1 g4, bd1_s]
      obtain ⟨r, q1, q2⟩ := pack_L (nI w) V (LC_fx k4 r1) g4 k3.1 k2 g2 ht (A 6 0) 0 F 0 (-1) (by omega) (by omega) (by omega)
      exact ⟨r, m1, n1, q1, q2, Rel_fr (XF_T F) (KC_fx k4) (KM_fy g3) R⟩
    · rw [show (2 : Int32) = nI 2 from rfl, wi_f h (by omega), in_f h rfl, bd1_s, bd1_s, i_if, i_if]
      exact ⟨_, _, _, rfl, rfl, R⟩
  · rw [htC0 r1.2.1 b2 h, htM0 r2.2.1 b2 h, bd1_s, bd1_s, i_if, i_if]
    exact ⟨_, _, _, rfl, rfl, R⟩
theorem RD_ex {A : LT} {pr pr2 : Nat → Nat} {src : Nat → Prop} : ∀ n s c, RD A pr src n s c → ∃ c2, RD A pr2 src n s c2
  | 0, s, c, h => ⟨0, h.1, rfl⟩
  | n + 1, p, c, h => by
    obtain ⟨s, k, c', h1, h2, h3⟩ := h
    obtain ⟨c2, h4⟩ := RD_ex (pr2 := pr2) n s c' h1
    exact ⟨c2 + pr2 k, s, k, c2, h4, h2, rfl⟩
/-- with each move at 1 none is farther than so -/
theorem LD_one {A : LT} {pr : Nat → Nat} {hm : Nat} {m : MM} (B : AB A) (C : CX2 m A pr hm) (s : Nat) : ∃ x, x ≤ 309376 ∧ LDc A one (srcO A) s x := by
  have b1 := B.1
  have b2 := B.2.1
  have C2 : CX2 (wA m 31 (fun _ => 1)) A one hm := by
    have e : ∀ q, q ≠ 31 → (wA m 31 (fun _ => 1)).1 q = m.1 q := fun q hq => if_neg hq
    refine ⟨SE_fr (fun q hq => e q (by omega)) (fun i _ _ => r_row (e 25 (by decide)) i) C.1, fun t a b _ _ _ => ?_, fun k _ => by show 1 ≤ 99; omega⟩
    show (if 31 = 31 then (fun _ => (1 : Int32)) else m.1 31) ((t * 5 + a) * 5 + b) = nI 1
    rw [if_pos rfl]
    rfl
  obtain ⟨m', fa, k1, k2, k3⟩ := open_sp (F := 400000) (all := true) (Nat.le_refl _) B C2
  exact ⟨fa s, k2.2.1 s, k2.2.2.2.1 rfl s⟩
theorem few_0 {A : LT} {pr f g : Nat → Nat} {m : MM} {s : Nat} (B : AB A) (hgk : A 6 5 = 0 ∨ A 6 5 ≠ A 6 2) (G : GA m A pr f g) (hv : u_val A s = true) (hs : s < (A 6 0) ^ (A 6 1)) : f (ps A s) = 0 ↔ u_mk A s = 2 := by
  have q := (G.2.1 (ps A s) (ps_N B)).2.2 (ps_wl B hv)
  have hop : u_open A (dg 5 (ps A s)) = u_open A (dg (A 6 0) s) := open_cong (fun i hi hg => by rw [ps_dg B hi, if_neg hg]) B hgk
  have FARd : FAR = 99999999 := rfl
  constructor
  · intro z
    obtain ⟨n, hn⟩ := q.1 (by omega)
    rw [ph_ps B hv hs, z] at hn
    cases n with
    | zero => exact hn.1.2
    | succ n =>
      obtain ⟨_, k, c', _, _, h3⟩ := hn
      have : one k = 1 := rfl
      omega
  · intro z
    have ho : u_open A (dg (A 6 0) s) = true := by
      unfold u_mk at z
      rw [if_pos hv] at z
      by_cases c : u_open A (dg (A 6 0) s) = true
      · exact c
      · rw [if_neg c] at z
        omega
    exact (q.2.2 (by rw [hop]; exact ho)).1
/-- the first move by which it is nearer, on both sides -/
theorem first_L {A : LT} {mc mm : MM} {hm t : Nat} {fa f g pr pr2 d : Nat → Nat} {a0 : Int32} {F : Nat} (V : AV A) (LMm : LM mm A) (hhm : hm = u_hm A) (C : CX2 mc A pr hm) (S : SPR A pr (srcO A) false hm mc fa) (G : GA mm A pr2 f g) (hfa : fa hm ≠ 0) (ht : t < A 6 1) (hd : (a0 = 0 ∧ pr = one ∧ d = f) ∨ (a0 = 1 ∧ pr = pr2 ∧ d = g)) (K K2 : Int32 → Option Int32) (hK : ∃ r, K (nI (A 6 0)) = some r ∧ K2 (nI (A 6 0)) = some r) : ∀ k h n, h + k = A 6 0 → k < n → ∃ r, f_X1_firstBest_L53 mc (nI t) (nI (dg (A 6 0) hm t)) K n (nI h) = some r ∧ f_X6_moveBy_L41 a0 mm (nI (ps A hm)) (nI t) K2 n (nI h) = some r := by
  have b1 := V.1.1
  have b2 := V.1.2.1
  have h0 := V.2.2.2.1
  have hN := pw_le b1 b2
  have hP := p5_le b2
  have FARd : FAR = 99999999 := rfl
  obtain ⟨s1, s2, s3, s4, s5, s6, s7, s8, s9, s10⟩ := id C.1
  have g17 : (rI mc 25 10 == 17) = true := by rw [s4]; rfl
  have e7 : rI mc 17 7 = nI (A 6 0) := s1.1
  have hnow := ps_N (s := hm) V.1
  have e8 : rI mm 8 t = nI (dg (A 6 0) hm t) := by
    rw [(LMm.2.2.2.2.2.2.2.2 t ht).2.2.2, hhm, hm_dg V.1 ht]
    unfold u_ag
    rw [if_neg (by omega)]
  have hfb := S.2.1 hm
  have h27 : rI mc 27 hm = nI (fa hm - 1) := by
    rw [S.1 hm s9]
    obtain ⟨y, hy⟩ : ∃ y, fa hm = y + 1 := ⟨fa hm - 1, by omega⟩
    rw [hy, n_p, Nat.add_sub_cancel]
  have hdn : d (ps A hm) = fa hm - 1 := by
    have q : d (ps A hm) = tM (fa hm) := by
      rcases hd with ⟨_, h1, h2⟩ | ⟨_, h1, h2⟩
      · rw [h2]
        rw [h1] at S
        exact LD_few V.1 (Or.inl h0) G s10 s9 (by omega) S.2.2.1
      · rw [h2]
        rw [h1] at S
        exact LD_little V.1 (Or.inl h0) G s10 s9 (by omega) S.2.2.1
    rw [q]
    unfold tM
    rw [if_neg hfa]
  intro k
  induction k with
  | zero =>
    intro h n hk hn
    obtain ⟨n, rfl⟩ : ∃ z, n = z + 1 := ⟨n - 1, by omega⟩
    have : h = A 6 0 := by omega
    subst this
    unfold f_X1_firstBest_L53 f_X6_moveBy_L41
    rw [Gu_of g17, e7, LMm.1, if_pos (Int32.le_refl _), if_pos (Int32.le_refl _)]
    exact hK
  | succ k ih =>
    intro h n hk hn
    obtain ⟨n, rfl⟩ : ∃ z, n = z + 1 := ⟨n - 1, by omega⟩
    have hh : h < A 6 0 := by omega
    have ihs := ih (h + 1) n (by omega) (by omega)
    have nle : ¬ nI (A 6 0) ≤ nI h := by rw [n_le (by omega) (by omega)]; omega
    have gt := inB_n (by omega : t < 5) (by decide : 5 ≤ 2 ^ 31)
    have hxt : ix (nI t) = t := ix_n (by omega)
    have hpl := mvp_lt (s := hm) (t := t) hh
    have gp := inB_n (by omega : mvp A hm t h < 3125) (by decide : 3125 ≤ 2 ^ 31)
    have hxp : ix (nI (mvp A hm t h)) = mvp A hm t h := ix_n (by omega)
    have ghm := inB_n (by omega : hm < 3125) (by decide : 3125 ≤ 2 ^ 31)
    have hxm : ix (nI hm) = hm := ix_n (by omega)
    have hdl := dg_lt (b := A 6 0) (c := hm) (t := t) (by omega)
    have hpsN := ps_N (s := mvp A hm t h) V.1
    have gq := inB_n (by omega : ps A (mvp A hm t h) < 3125) (by decide : 3125 ≤ 2 ^ 31)
    have hxq : ix (nI (ps A (mvp A hm t h))) = ps A (mvp A hm t h) := ix_n (by omega)
    have gn := inB_n (by omega : ps A hm < 3125) (by decide : 3125 ≤ 2 ^ 31)
    have hxn : ix (nI (ps A hm)) = ps A hm := ix_n (by omega)
    have ea : f_X6_after (nI (ps A hm)) (nI t) (nI h) mm = some (nI (ps A (mvp A hm t h))) := by
      rw [after_sp b2 hnow ht (by omega), ps_mv V.1 h0 ht hh]
    have e26 := s8 _ hpl
    have e11 := G.1.1 _ hpsN
    have e12 := (G.1.2.1 _ hpsN)
    have e12n := (G.1.2.1 _ hnow)
    generalize hp : mvp A hm t h = p at *
    by_cases c1 : h = dg (A 6 0) hm t
    · have ephm : p = hm := by
        rw [← hp]
        refine dg_ext (mvp_lt hh) s9 (fun i hi => ?_)
        rw [mvp_dg hh hi]
        by_cases ci : i = t
        · rw [if_pos ci, c1, ci]
        · rw [if_neg ci]
      have uC : f_X1_firstBest_L53 mc (nI t) (nI (dg (A 6 0) hm t)) K (n + 1) (nI h) = f_X1_firstBest_L53 mc (nI t) (nI (dg (A 6 0) hm t)) K n (nI (h + 1)) := by
        conv => lhs; unfold f_X1_firstBest_L53
        rw [Gu_of g17, e7, if_neg nle, Gu_of gt, hxt, s6, s7 t ht, mvp_I s9 ht, hp, Lt_d, Gu_of gp, hxp, e26, if_neg (fun z => mk_iff.mp z (by rw [ephm]; exact s10)), if_pos (by rw [ephm]), Lt_d, n_s]
      have uM : f_X6_moveBy_L41 a0 mm (nI (ps A hm)) (nI t) K2 (n + 1) (nI h) = f_X6_moveBy_L41 a0 mm (nI (ps A hm)) (nI t) K2 n (nI (h + 1)) := by
        conv => lhs; unfold f_X6_moveBy_L41
        rw [LMm.1, if_neg nle, ea, bd1_s, Gu_of gt, hxt, e8, if_pos (by rw [← c1]), Lt_d, n_s]
      rw [uC, uM]
      exact ihs
    · have nhd : ¬ nI h = nI (dg (A 6 0) hm t) := by rw [n_eq (by omega) (by omega)]; exact c1
      by_cases cv : u_val A p = true
      · have cw := (wl_ps V.1 h0).mpr cv
        have hphm : p ≠ hm := by
          intro e
          have q := mvp_dg (s := hm) (t := t) hh ht
          rw [hp, if_pos rfl, e] at q
          exact c1 q.symm
        have npm : ¬ nI p = nI hm := by rw [n_eq (by omega) (by omega)]; exact hphm
        have hfp := S.2.1 p
        have hk125 : (t * 5 + dg (A 6 0) hm t) * 5 + h < 125 := by omega
        have hp9 := C.2.2 _ hk125
        have e31 := C.2.1 t (dg (A 6 0) hm t) h ht hdl hh
        have e27 := S.1 p hpl
        generalize hq : pr ((t * 5 + dg (A 6 0) hm t) * 5 + h) = w at *
        -- the two conditions are one
        have cond : (fa p ≠ 0 ∧ fa hm - 1 = fa p - 1 + w) ↔ d (ps A p) + w = fa hm - 1 := by
          have dsp : (LDc A pr (srcO A) p (fa p) → d (ps A p) = tM (fa p)) ∧ (d (ps A p) ≤ FAR ∧ (d (ps A p) < FAR → ∃ n, RD A pr (srcO A) n p (d (ps A p)))) := by
            have qg := G.2.1 (ps A p) hpsN
            have qw := qg.2.2 cw
            rw [ph_ps V.1 cv hpl] at qw
            rcases hd with ⟨_, h1, h2⟩ | ⟨_, h1, h2⟩
            · rw [h2, h1]
              exact ⟨fun D => LD_few V.1 (Or.inl h0) G cv hpl (by omega) D, qg.1, qw.1⟩
            · rw [h2, h1]
              exact ⟨fun D => LD_little V.1 (Or.inl h0) G cv hpl (by omega) D, qg.2.1, qw.2.1⟩
          rcases S.2.2.2.2 p with D | ⟨D1, D2, D3⟩
          · rw [dsp.1 D]
            unfold tM
            by_cases cp : fa p = 0
            · rw [if_pos cp]
              omega
            · rw [if_neg cp]
              omega
          · constructor
            · rintro ⟨z1, z2⟩
              omega
            · intro z
              have hlt : d (ps A p) < FAR := by omega
              obtain ⟨n, hn⟩ := dsp.2.2 hlt
              have := D3 n _ hn
              omega
        have uC : f_X1_firstBest_L53 mc (nI t) (nI (dg (A 6 0) hm t)) K (n + 1) (nI h) = if d (ps A p) + w = fa hm - 1 then some (((10 : Int32) * nI t) + nI h) else f_X1_firstBest_L53 mc (nI t) (nI (dg (A 6 0) hm t)) K n (nI (h + 1)) := by
          conv => lhs; unfold f_X1_firstBest_L53 f_X1_placeOf
          rw [Gu_of g17, e7, if_neg nle, Gu_of gt, hxt, s6, s7 t ht, mvp_I s9 ht, hp, Lt_d, Gu_of gp, hxp, e26, if_neg (fun z => mk_iff.mp z cv), if_neg npm, Gu_of gp, e27]
          by_cases cp : fa p = 0
          · rw [if_pos ((nJ_m1 (by omega)).mpr cp), if_neg (fun z => (cond.mpr z).1 cp), Lt_d, n_s]
          · have e27' : nI (fa p) - 1 = nI (fa p - 1) := by
              obtain ⟨y, hy⟩ : ∃ y, fa p = y + 1 := ⟨fa p - 1, by omega⟩
              rw [hy, n_p, Nat.add_sub_cancel]
            have e5 : (nI t * (5 : Int32) + nI (dg (A 6 0) hm t)) * (5 : Int32) + nI h = nI ((t * 5 + dg (A 6 0) hm t) * 5 + h) := by
              rw [show (5 : Int32) = nI 5 from rfl, n_mul, nI_add, n_mul, nI_add]
            rw [if_neg (fun z => cp ((nJ_m1 (by omega)).mp z)), Gu_of ghm, Gu_of gp, bd1_s, e5, Gu_of (inB_n hk125 (by decide)), hxm, ix_n (by omega), h27, e27', e31]
            have es : nI (fa hm - 1) - nI (fa p - 1) = nI w ↔ fa hm - 1 = fa p - 1 + w := by
              rw [i_eq, i_sub (by rw [nI_toInt (by omega), nI_toInt (by omega)]; omega) (by rw [nI_toInt (by omega), nI_toInt (by omega)]; omega), nI_toInt (by omega), nI_toInt (by omega), nI_toInt (by omega)]
              omega
            by_cases ce : d (ps A p) + w = fa hm - 1
            · rw [if_pos (es.mpr (cond.mpr ce).2), if_pos ce]
            · rw [if_neg (fun z => ce (cond.mp ⟨cp, es.mp z⟩)), if_neg ce, Lt_d, n_s]
        have uM : f_X6_moveBy_L41 a0 mm (nI (ps A hm)) (nI t) K2 (n + 1) (nI h) = if d (ps A p) + w = fa hm - 1 then some (((10 : Int32) * nI t) + nI h) else f_X6_moveBy_L41 a0 mm (nI (ps A hm)) (nI t) K2 n (nI (h + 1)) := by
          have e25 : (25 : Int32) * nI t + (5 : Int32) * nI (dg (A 6 0) hm t) + nI h = nI (25 * t + 5 * dg (A 6 0) hm t + h) := by
            rw [show (25 : Int32) = nI 25 from rfl, show (5 : Int32) = nI 5 from rfl, n_mul, n_mul, nI_add, nI_add]
          have e14 := G.1.2.2 t (dg (A 6 0) hm t) h ht hdl hh
          have gk := inB_n (by omega : 25 * t + 5 * dg (A 6 0) hm t + h < 125) (by decide : 125 ≤ 2 ^ 31)
          have hxk : ix (nI (25 * t + 5 * dg (A 6 0) hm t + h)) = 25 * t + 5 * dg (A 6 0) hm t + h := ix_n (by omega)
          conv => lhs; unfold f_X6_moveBy_L41
          rw [LMm.1, if_neg nle, ea, bd1_s, Gu_of gt, hxt, e8, if_neg nhd, Gu_of gq, hxq, e11, if_pos (by rw [if_pos cw]; rfl)]
          have gfp := (G.2.1 (ps A p) hpsN)
          rcases hd with ⟨z1, z2, z3⟩ | ⟨z1, z2, z3⟩
          · have hw1 : w = 1 := by
              rw [← hq, z2]
              rfl
            have hf1 : f (ps A p) ≤ FAR := gfp.1
            rw [if_pos z1, Gu_of gq, Gu_of gn, hxn, e12.1, e12n.1, n_s]
            rw [z3] at hdn
            rw [hdn, z3, hw1]
            by_cases ce : f (ps A p) + 1 = fa hm - 1
            · rw [if_pos (by rw [ce]), if_pos ce]
            · rw [if_neg (by rw [n_eq (by omega) (by omega)]; exact ce), if_neg ce, Lt_d, n_s]
          · have hf1 : g (ps A p) ≤ FAR := gfp.2.1
            rw [← z2, hq] at e14
            rw [if_neg (by rw [z1]; exact h10), Gu_of gq, Gu_of gt, e25, Gu_of gk, Gu_of gn, hxn, hxk, e12.2, e12n.2, e14, nI_add]
            rw [z3] at hdn
            rw [hdn, z3]
            by_cases ce : g (ps A p) + w = fa hm - 1
            · rw [if_pos (by rw [ce]), if_pos ce]
            · rw [if_neg (by rw [n_eq (by omega) (by omega)]; exact ce), if_neg ce, Lt_d, n_s]
        rw [uC, uM]
        by_cases ce : d (ps A p) + w = fa hm - 1
        · rw [if_pos ce, if_pos ce]
          exact ⟨_, rfl, rfl⟩
        · rw [if_neg ce, if_neg ce]
          exact ihs
      · have cw : ¬ u_wl A (ps A p) = true := fun z => cv ((wl_ps V.1 h0).mp z)
        have uC : f_X1_firstBest_L53 mc (nI t) (nI (dg (A 6 0) hm t)) K (n + 1) (nI h) = f_X1_firstBest_L53 mc (nI t) (nI (dg (A 6 0) hm t)) K n (nI (h + 1)) := by
          conv => lhs; unfold f_X1_firstBest_L53
          rw [Gu_of g17, e7, if_neg nle, Gu_of gt, hxt, s6, s7 t ht, mvp_I s9 ht, hp, Lt_d, Gu_of gp, hxp, e26, if_pos (mk_iff.mpr cv), Lt_d, n_s]
        have uM : f_X6_moveBy_L41 a0 mm (nI (ps A hm)) (nI t) K2 (n + 1) (nI h) = f_X6_moveBy_L41 a0 mm (nI (ps A hm)) (nI t) K2 n (nI (h + 1)) := by
          conv => lhs; unfold f_X6_moveBy_L41
          rw [LMm.1, if_neg nle, ea, bd1_s, Gu_of gt, hxt, e8, if_neg nhd, Gu_of gq, hxq, e11, if_neg (by rw [if_neg cw]; decide), Lt_d, n_s]
        rw [uC, uM]
        exact ihs
theorem first_eq {A : LT} {mc mm : MM} {fa f g pr pr2 d : Nat → Nat} {a0 : Int32} {F : Nat} (hF : 50 ≤ F) (V : AV A) (LMm : LM mm A) (C : CX2 mc A pr (u_hm A)) (S : SPR A pr (srcO A) false (u_hm A) mc fa) (G : GA mm A pr2 f g) (hd : (a0 = 0 ∧ pr = one ∧ d = f) ∨ (a0 = 1 ∧ pr = pr2 ∧ d = g)) : ∃ r, f_X1_firstBest F mc = some r ∧ f_X6_moveBy F a0 mm = some r := by
  have b1 := V.1.1
  have b2 := V.1.2.1
  have h0 := V.2.2.2.1
  have hN := pw_le b1 b2
  have hP := p5_le b2
  have FARd : FAR = 99999999 := rfl
  obtain ⟨s1, s2, s3, s4, s5, s6, s7, s8, s9, s10⟩ := id C.1
  have g17 : (rI mc 25 10 == 17) = true := by rw [s4]; rfl
  have ghm := inB_n (by omega : u_hm A < 3125) (by decide : 3125 ≤ 2 ^ 31)
  have hxm : ix (nI (u_hm A)) = u_hm A := ix_n (by omega)
  have hnow := ps_N (s := u_hm A) V.1
  have gn := inB_n (by omega : ps A (u_hm A) < 3125) (by decide : 3125 ≤ 2 ^ 31)
  have hxn : ix (nI (ps A (u_hm A))) = ps A (u_hm A) := ix_n (by omega)
  have e12 := (G.1.2.1 _ hnow).1
  have hf0 := few_0 V.1 (Or.inl h0) G s10 s9
  have hfb := S.2.1 (u_hm A)
  have hmk := mk_le (A := A) (s := u_hm A)
  obtain ⟨x1, hx1, D1⟩ := LD_one V.1 C (u_hm A)
  have hfx := LD_few V.1 (Or.inl h0) G s10 s9 hx1 D1
  have hfF : f (ps A (u_hm A)) ≤ FAR := (G.2.1 _ hnow).1
  have hz : fa (u_hm A) = 0 ↔ x1 = 0 := by
    constructor
    · intro z
      rcases S.2.2.1 with ⟨_, q⟩ | ⟨q, _⟩
      · rcases D1 with ⟨p, _⟩ | ⟨_, ⟨n, p⟩, _⟩
        · exact p
        · obtain ⟨c2, hc2⟩ := RD_ex (pr2 := pr) n _ _ p
          exact absurd hc2 (q n c2)
      · exact absurd z q
    · intro z
      rcases D1 with ⟨_, q⟩ | ⟨q, _⟩
      · rcases S.2.2.1 with ⟨p, _⟩ | ⟨_, ⟨n, p⟩, _⟩
        · exact p
        · obtain ⟨c2, hc2⟩ := RD_ex (pr2 := one) n _ _ p
          exact absurd hc2 (q n c2)
      · exact absurd z q
  unfold f_X1_firstBest f_X6_moveBy
  rw [s6, hxm, Gu_of ghm, s8 _ s9, now_sp hF V.1 LMm, bd1_s, Gu_of gn, hxn, e12]
  by_cases c2 : u_mk A (u_hm A) = 2
  · rw [if_pos (by rw [c2]; rfl), if_pos (by rw [hf0.mpr c2]; rfl)]
    exact ⟨_, rfl, rfl⟩
  · rw [if_neg (by rw [show (2 : Int32) = nI 2 from rfl, n_eq (by omega) (by omega)]; exact c2), if_neg (show ¬ nI (f (ps A (u_hm A))) = 0 by rw [n_z (by omega)]; exact fun z => c2 (hf0.mp z)), Gu_of ghm, S.1 _ s9, Gu_of gn, show (99999999 : Int32) = nI FAR from rfl]
    by_cases cf : fa (u_hm A) = 0
    · have e : f (ps A (u_hm A)) = FAR := by rw [hfx, if_pos (hz.mp cf)]
      rw [if_pos ((nJ_m1 (by omega)).mpr cf), if_neg (by rw [n_lt (by omega) (by omega), e]; omega)]
      exact ⟨_, rfl, rfl⟩
    · have cx : x1 ≠ 0 := fun z => cf (hz.mpr z)
      have e : f (ps A (u_hm A)) < FAR := by
        rw [hfx, if_neg cx]
        omega
      rw [if_neg (fun z => cf ((nJ_m1 (by omega)).mp z)), if_pos ((n_lt (by omega) (by omega)).mpr e)]
      have key : ∀ k t n, t + k = A 6 1 → k < n → ∃ r, f_X1_firstBest_L30 F mc (fun x1_1 => some (-1 : Int32)) n (nI t) = some r ∧ f_X6_moveBy_L30 F a0 mm (nI (ps A (u_hm A))) (fun x3_3 => some (-1 : Int32)) n (nI t) = some r := by
        intro k
        induction k with
        | zero =>
          intro t n hk hn
          obtain ⟨n, rfl⟩ : ∃ z, n = z + 1 := ⟨n - 1, by omega⟩
          have hle : nI (A 6 1) ≤ nI t := (n_le (by omega) (by omega)).mpr (by omega)
          unfold f_X1_firstBest_L30 f_X6_moveBy_L30
          rw [Gu_of g17, s1.2.1, LMm.2.1, if_pos hle, if_pos hle]
          exact ⟨_, rfl, rfl⟩
        | succ k ih =>
          intro t n hk hn
          obtain ⟨n, rfl⟩ : ∃ z, n = z + 1 := ⟨n - 1, by omega⟩
          have ht : t < A 6 1 := by omega
          obtain ⟨r, i1, i2⟩ := ih (t + 1) n (by omega) (by omega)
          have gt := inB_n (by omega : t < 5) (by decide : 5 ≤ 2 ^ 31)
          have hxt : ix (nI t) = t := ix_n (by omega)
          have e24 : rI mc 24 t = nI (dg (A 6 0) (u_hm A) t) := by rw [s3 t ht, if_neg (by omega)]
          have uM : f_X6_moveBy_L30 F a0 mm (nI (ps A (u_hm A))) (fun x3_3 => some (-1 : Int32)) (n + 1) (nI t) = f_X6_moveBy_L41 a0 mm (nI (ps A (u_hm A))) (nI t) (fun x4_5 => Lt (nI t + (1 : Int32)) fun x3_13 => f_X6_moveBy_L30 F a0 mm (nI (ps A (u_hm A))) (fun x3_3 => some (-1 : Int32)) n x3_13) F (0 : Int32) := by
            conv => lhs; unfold f_X6_moveBy_L30
            rw [LMm.2.1, if_neg (n_head (n := 0) b2 ht)]
          have uC : f_X1_firstBest_L30 F mc (fun x1_1 => some (-1 : Int32)) (n + 1) (nI t) = f_X1_firstBest_L53 mc (nI t) (nI (dg (A 6 0) (u_hm A) t)) (fun x3_4 => Lt (nI t + (1 : Int32)) fun x1_13 => f_X1_firstBest_L30 F mc (fun x1_1 => some (-1 : Int32)) n x1_13) F (0 : Int32) := by
            conv => lhs; unfold f_X1_firstBest_L30
            rw [Gu_of g17, s1.2.1, if_neg (n_head (n := 0) b2 ht), Gu_of g17, Gu_of gt, hxt, e24, Lt_d]
          rw [uC, uM]
          exact first_L (F := F) V LMm rfl C S G cf ht hd (fun x3_4 => Lt (nI t + (1 : Int32)) fun x1_13 => f_X1_firstBest_L30 F mc (fun x1_1 => some (-1 : Int32)) n x1_13) (fun x4_5 => Lt (nI t + (1 : Int32)) fun x3_13 => f_X6_moveBy_L30 F a0 mm (nI (ps A (u_hm A))) (fun x3_3 => some (-1 : Int32)) n x3_13) (by
            refine ⟨r, ?_, ?_⟩
            · show (Lt (nI t + (1 : Int32)) fun x1_13 => f_X1_firstBest_L30 F mc (fun x1_1 => some (-1 : Int32)) n x1_13) = _
              rw [Lt_d, n_s, i1]
            · show (Lt (nI t + (1 : Int32)) fun x3_13 => f_X6_moveBy_L30 F a0 mm (nI (ps A (u_hm A))) (fun x3_3 => some (-1 : Int32)) n x3_13) = _
              rw [Lt_d, n_s, i2]) (A 6 0) 0 F (by omega) (by omega)
      exact key (A 6 1) 0 F (by omega) (by omega)
