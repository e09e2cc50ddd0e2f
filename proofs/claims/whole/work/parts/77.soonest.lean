/-! WAYS, SOONEST: both sides -/
/-- what a sheet's cells say: a code of the model, a goal of the component -/
theorem cells_sp {F : Nat} {A : LT} {mc mm : MM} {s : Nat} (hF : 4000 ≤ F) (V : AV A) (L : LM mm A) (hs : s < 4) (hw : ∀ j, j < A 6 1 → rI mc (64 + 2 * s + 1) j = rI mm 22 (40 * s + j)) : ∃ c g, (c = 0 ∨ (∃ k, c = k + 1 ∧ k < 5 ^ (A 6 1))) ∧ (g = 0 ∨ ∃ x, g = x + 1 ∧ x < (A 6 0) ^ (A 6 1) ∧ u_val A x = true) ∧ f_X6_codeOf F (nI s) mm = some (nI c - 1) ∧ (∀ m2 : MM, m2.1 (64 + 2 * s + 1) = mc.1 (64 + 2 * s + 1) → SE m2 A (u_hm A) → f_X1_stateOf F (64 + 2 * s + 1) m2 = some (nI g - 1)) ∧ (c = 0 → g = 0) ∧ ∀ n, c ≠ 0 → wC A n (c - 1) = if g = 0 then 0 else WW A (u_hm A) n (g - 1) := by
  have b1 := V.1.1
  have b2 := V.1.2.1
  have h0 := V.2.2.2.1
  rcases cells_cs (H := A 6 0) (fun j => rI mc (64 + 2 * s + 1) j) (A 6 1) with ⟨a, ha⟩ | ⟨x, hx, ⟨a, ha⟩, hn⟩
  · have eps : enc 5 a (A 6 1) = ps A (enc (A 6 0) a (A 6 1)) := by
      refine enc_cong (fun i hi => ?_)
      rw [if_neg (by omega), enc_dg (by have := (ha i hi).1; omega) (fun j hj => (ha j hj).1) hi]
    have hl : enc (A 6 0) a (A 6 1) < (A 6 0) ^ (A 6 1) := enc_lt (fun i hi => (ha i hi).1)
    refine ⟨enc 5 a (A 6 1) + 1, if u_val A (enc (A 6 0) a (A 6 1)) = true then enc (A 6 0) a (A 6 1) + 1 else 0, Or.inr ⟨_, rfl, by rw [eps]; exact ps_N V.1⟩, ?_, ?_, fun m2 h1 S => stC (by omega) V.1 S (fun j hj => ⟨(ha j hj).1, (r_row h1 j).trans (ha j hj).2⟩), fun z => absurd z (by omega), fun n _ => ?_⟩
    · by_cases c : u_val A (enc (A 6 0) a (A 6 1)) = true
      · rw [if_pos c]
        exact Or.inr ⟨_, rfl, hl, c⟩
      · rw [if_neg c]
        exact Or.inl rfl
    · rw [n_p]
      exact stM (by omega) b1 b2 hs L.1 L.2.1 (fun j hj => ⟨(ha j hj).1, (hw j hj).symm.trans (ha j hj).2⟩)
    · rw [Nat.add_sub_cancel, eps]
      unfold wC
      by_cases c : u_val A (enc (A 6 0) a (A 6 1)) = true
      · rw [if_pos (ps_wl V.1 c), if_pos c, if_neg (by omega), ph_ps V.1 c hl, Nat.add_sub_cancel]
      · rw [if_neg (fun z => c ((wl_ps V.1 h0).mp z)), if_neg c, if_pos rfl]
  · have hn' : ¬ (0 ≤ (rI mc (64 + 2 * s + 1) x).toInt ∧ (rI mc (64 + 2 * s + 1) x).toInt < A 6 0) := hn
    refine ⟨0, 0, Or.inl rfl, Or.inl rfl, ?_, fun m2 h1 S => ?_, fun _ => rfl, fun n h => absurd rfl h⟩
    · rw [show nI 0 - 1 = (-1 : Int32) by decide]
      rw [hw x hx] at hn'
      exact stM0 (by omega) b1 b2 hs L.1 L.2.1 hx (fun j hj => ⟨(ha j hj).1, (hw j (by omega)).symm.trans (ha j hj).2⟩) hn'
    · rw [show nI 0 - 1 = (-1 : Int32) by decide]
      rw [← r_row h1 x] at hn'
      exact stC0 (by omega) V.1 S hx (fun j hj => ⟨(ha j hj).1, (r_row h1 j).trans (ha j hj).2⟩) hn'
theorem t_ways {F : Nat} (hF : 1000000000000 ≤ F) (mc mm : MM) (a0 a1 : Int32) (R : RelX (XT F) mc mm) : ∃ r mc2 mm2, f_X5_ways F a0 a1 mc = some (r, mc2) ∧ f_X6_ways F a0 a1 mm = some (r, mm2) ∧ RelX (XT F) mc2 mm2 := by
  obtain ⟨A, n, r1, r2, V, r4, r5, r6, r7, r8⟩ := id R
  obtain ⟨hi, P, p0, pc, pm⟩ := r7.2.2.2 (A 6 4) r4
  have b1 := V.1.1
  have b2 := V.1.2.1
  have hN := pw_le b1 b2
  have hP := p5_le b2
  unfold f_X5_ways f_X6_ways
  rcases a_cs a0 4 with ⟨s, hs, rfl⟩ | h
  · have hx : ix (nI s) = s := ix_n (by omega)
    have g := inB_n hs (by decide : 4 ≤ 2 ^ 31)
    rw [show (4 : Int32) = nI 4 from rfl, wi_t hs (by omega), shM hs, bd1_s, bd1_s, i_el, i_el]
    rcases a_cs a1 9 with ⟨k, hk, rfl⟩ | h
    · rw [show (9 : Int32) = nI 9 from rfl, wi_t hk (by omega), in_t hk (by omega) rfl, bd1_s, bd1_s, i_el, i_el, Gu_of g, Gu_of g, hx, isMC, bd1_s]
      have e8 : rI mc 1 8 = nI (A 6 1) := r1.2.1
      have e14 : rI mm 0 14 = nI (A 6 1) := r2.2.1
      rcases r8 s hs with ⟨q1, q2⟩ | ⟨so, z, q1, q2, q3, q4, q5, q6, q7, q8⟩
      · rw [q1, q2, i_if, if_pos rfl, i_el]
        exact ⟨_, _, _, rfl, rfl, R⟩
      · rw [q3, q4, q6, q7, e8, e14, i_el, if_neg (n_ne1 (by omega)), i_if, Gu_of g]
        by_cases cz : z = A 6 1
        · subst cz
          rw [if_pos rfl, if_pos rfl]
          obtain ⟨c, go, d1, d2, d3, d4, d5, d6⟩ := cells_sp (F := F) (by omega) V r2 hs q8
          obtain ⟨m1, e1, e2, e3⟩ := think_sp (F := F) (g := 0) (w := 0) (by omega) V (Nat.zero_le _) (Nat.zero_le _) (Or.inl rfl) r1
          rw [show nI 0 - 1 = (-1 : Int32) by decide] at e1
          rw [th_00 V] at e2
          obtain ⟨m2, f1, f2⟩ := rowsTo_sp (F := F) (by omega) V.1 e2 d2 hk
          have fx : FX mc m2 := FX_tr (FX_th e3) (fun q hq => f2 q (by omega) (by omega) (by omega) (by omega) (by omega) (by omega))
          rw [e1, bd1_s, d4 m1 (e3 _ (by omega)) e2, bd1_s, f1, bd2_s, d3, bd1_s]
          rcases d1 with rfl | ⟨y, rfl, hy⟩
          · rw [d5 rfl, if_pos rfl, if_pos (show nI 0 - 1 = (-1 : Int32) by decide)]
            exact ⟨_, _, _, rfl, rfl, Rel_fr (XF_T F) (KC_fx fx) (KM_rf mm) R⟩
          · rw [n_p, if_neg (n_ne1 (by omega))]
            obtain ⟨n1, u1, u2, u3⟩ := begins_sp hF p0 pm r2 V
            rw [u1, bd1_s]
            have gy := inB_n (by omega : y < 3125) (by decide : 3125 ≤ 2 ^ 31)
            have hxy : ix (nI y) = y := ix_n (by omega)
            obtain ⟨n2, v1, v2⟩ := loop_inv (fun n i mx => f_X6_ways_L65 F (nI k) (fun x4_9 m10 => Gu (inB (nI y) 3125) <| some (rL m10 16 (ix (nI y)), m10)) n i mx) (fun m10 => Gu (inB (nI y) 3125) <| some (rL m10 16 (ix (nI y)), m10)) k (fun x mx => RW A mx x ∧ mx.1 = n1.1) (fun n mx hI => by
              show f_X6_ways_L65 _ _ _ (n + 1) _ _ = _
              unfold f_X6_ways_L65
              rw [if_pos (Int32.le_refl _)]) (fun x n mx hx hI => by
              obtain ⟨n3, w1, w2, w3⟩ := rw_sp (F := F) (by omega) V (show x < 12 by omega) hI.1
              refine ⟨n3, ⟨w2, w3.trans hI.2⟩, ?_⟩
              show f_X6_ways_L65 _ _ _ (n + 1) _ _ = _
              conv => lhs; unfold f_X6_ways_L65
              rw [if_neg (by rw [n_le (by omega) (by omega)]; omega), w1, bd1_s, Lt_d, n_s]) F n1 (by omega) ⟨u2, rfl⟩
            have fy : FY mm n2 := ⟨fun q h1 h2 => (show n2.1 q = mm.1 q by rw [v1.2]; exact u3.1 q h1 h2), fun i hi => (rI_1 v1.2 0 i).trans (u3.2 i hi)⟩
            refine ⟨lN (if go = 0 then 0 else WW A (u_hm A) k (go - 1)), m2, n2, rfl, ?_, Rel_fr (XF_T F) (KC_fx fx) (KM_fy fy) R⟩
            refine Eq.trans v2 ?_
            have q := v1.1.2.2 y hy
            have d := d6 k (by omega)
            rw [Nat.add_sub_cancel] at d
            rw [Gu_of gy, hxy, q, d]
        · have hz : ¬ nI z = nI (A 6 1) := fun e => cz ((n_eq (by omega) (by omega)).mp e)
          rw [if_neg hz, if_neg hz]
          exact ⟨_, _, _, rfl, rfl, R⟩
    · rw [show (9 : Int32) = nI 9 from rfl, wi_f h (by omega), in_f h rfl, bd1_s, bd1_s, i_if, i_if]
      exact ⟨_, _, _, rfl, rfl, R⟩
  · rw [show (4 : Int32) = nI 4 from rfl, wi_f h (by omega), shM0 h, bd1_s, bd1_s, i_if, i_if]
    exact ⟨_, _, _, rfl, rfl, R⟩
theorem sm_ex {z : Nat → Nat} : ∀ {n : Nat}, sm z n ≠ 0 ↔ ∃ i, i < n ∧ z i ≠ 0
  | 0 => ⟨fun h => absurd rfl h, fun ⟨i, hi, _⟩ => absurd hi (Nat.not_lt_zero i)⟩
  | n + 1 => by
    rw [sm_s]
    constructor
    · intro h
      by_cases c : z n = 0
      · obtain ⟨i, hi, h2⟩ := sm_ex.mp (show sm z n ≠ 0 by omega)
        exact ⟨i, by omega, h2⟩
      · exact ⟨n, by omega, c⟩
    · rintro ⟨i, hi, h⟩
      by_cases c : i = n
      · subst c
        omega
      · have := sm_ex.mpr ⟨i, (show i < n by omega), h⟩
        omega
theorem RD_one {A : LT} {src : Nat → Prop} : ∀ n s c, RD A one src n s c → c = n
  | 0, s, c, h => h.2
  | n + 1, p, c, h => by
    obtain ⟨s, k, c', h1, h2, h3⟩ := h
    have := RD_one n s c' h1
    have e : one k = 1 := rfl
    omega
theorem WW_RD {A : LT} {x : Nat} (B : AB A) (hx : x < (A 6 0) ^ (A 6 1)) : ∀ n p, p < (A 6 0) ^ (A 6 1) → (WW A x n p ≠ 0 ↔ RD A one (fun s => x + 1 = s + 1) n p n)
  | 0, p, hp => by
    show (if p = x then 1 else 0) ≠ 0 ↔ (x + 1 = p + 1 ∧ 0 = 0)
    by_cases c : p = x
    · rw [if_pos c]
      exact ⟨fun _ => ⟨by omega, rfl⟩, fun _ => by decide⟩
    · rw [if_neg c]
      exact ⟨fun h => absurd rfl h, fun h => absurd (show p = x by have := h.1; omega) c⟩
  | n + 1, p, hp => by
    show sm (fun s => WW A x n s * mM A s p) ((A 6 0) ^ (A 6 1)) ≠ 0 ↔ ∃ s k c', RD A one (fun s => x + 1 = s + 1) n s c' ∧ (p, k) ∈ nb A s ∧ n + 1 = c' + one k
    rw [sm_ex]
    constructor
    · rintro ⟨s, hs, h⟩
      have h1 : WW A x n s ≠ 0 := fun z => h (by rw [z, Nat.zero_mul])
      have h2 : mM A s p ≠ 0 := fun z => h (by rw [z, Nat.mul_zero])
      rw [← nb_cnt hs hp] at h2
      obtain ⟨y, hy, e⟩ := List.countP_pos_iff.mp (Nat.pos_of_ne_zero h2)
      have e' : y.1 = p := by simpa using e
      exact ⟨s, y.2, n, (WW_RD B hx n s hs).mp h1, by rw [← e']; exact hy, rfl⟩
    · rintro ⟨s, k, c', h1, h2, h3⟩
      have e := RD_one n s c' h1
      subst e
      have hs : s < (A 6 0) ^ (A 6 1) := by
        cases c' with
        | zero =>
          have := h1.1
          omega
        | succ n =>
          obtain ⟨s2, k2, c2, _, q, _⟩ := h1
          exact (nb_in B.1 B.2.1 q).1
      refine ⟨s, hs, fun z => ?_⟩
      have h4 := (WW_RD B hx c' s hs).mpr h1
      have h5 : mM A s p ≠ 0 := by
        rw [← nb_cnt hs hp]
        exact Nat.pos_iff_ne_zero.mp (List.countP_pos_iff.mpr ⟨(p, k), h2, by simp⟩)
      rcases Nat.mul_eq_zero.mp z with z | z
      · exact h4 z
      · exact h5 z
theorem WW_sym {A : LT} {a b n : Nat} (ha : u_val A a = true) (hb : u_val A b = true) (haN : a < (A 6 0) ^ (A 6 1)) (hbN : b < (A 6 0) ^ (A 6 1)) : WW A a n b = WW A b n a := by
  have q := WW_ck ha hb hbN n 0
  rw [Nat.zero_add] at q
  rw [← q, sm_one haN (fun s _ h => by
    show (if s = a then 1 else 0) * _ = 0
    rw [if_neg h, Nat.zero_mul])]
  show (if a = a then 1 else 0) * _ = _
  rw [if_pos rfl, Nat.one_mul]
theorem t_soonest {F : Nat} (hF : 1000000000000 ≤ F) (mc mm : MM) (a0 : Int32) (R : RelX (XT F) mc mm) : ∃ r mc2 mm2, f_X5_soonest F a0 mc = some (r, mc2) ∧ f_X6_soonest F a0 mm = some (r, mm2) ∧ RelX (XT F) mc2 mm2 := by
  obtain ⟨A, n, r1, r2, V, r4, r5, r6, r7, r8⟩ := id R
  obtain ⟨hi, P, p0, pc, pm⟩ := r7.2.2.2 (A 6 4) r4
  have b1 := V.1.1
  have b2 := V.1.2.1
  have hN := pw_le b1 b2
  have hP := p5_le b2
  have hmo := hm_ok0 V
  unfold f_X5_soonest f_X6_soonest
  rcases a_cs a0 4 with ⟨s, hs, rfl⟩ | h
  · have hx : ix (nI s) = s := ix_n (by omega)
    have g := inB_n hs (by decide : 4 ≤ 2 ^ 31)
    rw [show (4 : Int32) = nI 4 from rfl, wi_t hs (by omega), shM hs, bd1_s, bd1_s, i_el, i_el, Gu_of g, Gu_of g, hx, isMC, bd1_s]
    have e8 : rI mc 1 8 = nI (A 6 1) := r1.2.1
    have e14 : rI mm 0 14 = nI (A 6 1) := r2.2.1
    rcases r8 s hs with ⟨q1, q2⟩ | ⟨so, z, q1, q2, q3, q4, q5, q6, q7, q8⟩
    · rw [q1, q2, i_if, if_pos rfl, i_el]
      exact ⟨_, _, _, rfl, rfl, R⟩
    · rw [q3, q4, q6, q7, e8, e14, i_el, if_neg (n_ne1 (by omega)), i_if, Gu_of g]
      by_cases cz : z = A 6 1
      · subst cz
        rw [if_pos rfl, if_pos rfl]
        obtain ⟨c, go, d1, d2, d3, d4, d5, d6⟩ := cells_sp (F := F) (by omega) V r2 hs q8
        obtain ⟨m1, e1, e2, e3⟩ := think_sp (F := F) (g := 0) (w := 0) (by omega) V (Nat.zero_le _) (Nat.zero_le _) (Or.inl rfl) r1
        rw [show nI 0 - 1 = (-1 : Int32) by decide] at e1
        rw [th_00 V] at e2
        obtain ⟨m2, c1, c2, c3⟩ := cmoves_sp (F := F) (m := m1) (by omega)
        have C2 : CX2 m2 A one (u_hm A) := ⟨SE_fr (fun q hq => c2 q (by omega)) (fun i _ _ => r_row (c2 25 (by decide)) i) e2, fun t a b h1 h2 h3 => c3 _ (by omega), fun k _ => by show 1 ≤ 99; omega⟩
        have hgo : go ≤ (A 6 0) ^ (A 6 1) := by
          rcases d2 with rfl | ⟨x, rfl, hx, _⟩
          · omega
          · omega
        obtain ⟨m3, fa, f1, f2, f3⟩ := from_sp (F := F) (g := go) (by omega) V.1 C2 hgo
        have fx : FX mc m3 := FX_tr (FX_th e3) (FX_tr (fun q hq => c2 q (by omega)) (FX_fe f3))
        rw [e1, bd1_s, c1, bd1_s, d4 m2 ((c2 _ (by omega)).trans (e3 _ (by omega))) C2.1, bd1_s, f1, bd2_s, d3, bd1_s]
        have hfb := f2.2.1 (u_hm A)
        have hld := f2.2.2.1
        rcases d1 with rfl | ⟨y, rfl, hy⟩
        · have e0 : fa (u_hm A) = 0 := by
            rcases hld with h | ⟨_, ⟨n, hn⟩, _⟩
            · exact h.1
            · exfalso
              have key : ∀ n s c, ¬ RD A one (fun s => go = s + 1) n s c := by
                intro n
                induction n with
                | zero =>
                  intro s c h
                  have := h.1
                  have := d5 rfl
                  omega
                | succ n ih =>
                  intro s c h
                  obtain ⟨s2, k2, c2, q, _, _⟩ := h
                  exact ih _ _ q
              exact key _ _ _ hn
          rw [e0, if_pos (show nI 0 - 1 = (-1 : Int32) by decide), if_neg (show ¬ (8 : Int32) < nI 0 - 1 by decide)]
          exact ⟨_, _, _, rfl, rfl, Rel_fr (XF_T F) (KC_fx fx) (KM_rf mm) R⟩
        · rw [n_p, if_neg (n_ne1 (by omega))]
          obtain ⟨n1, u1, u2, u3⟩ := begins_sp hF p0 pm r2 V
          rw [u1, bd1_s]
          have gy := inB_n (by omega : y < 3125) (by decide : 3125 ≤ 2 ^ 31)
          have hxy : ix (nI y) = y := ix_n (by omega)
          have hw : ∀ n, wC A n y ≠ 0 ↔ RD A one (fun s => go = s + 1) n (u_hm A) n := by
            intro n
            have d := d6 n (by omega)
            rw [Nat.add_sub_cancel] at d
            rw [d]
            rcases d2 with rfl | ⟨x, rfl, hx, vx⟩
            · rw [if_pos rfl]
              refine ⟨fun h => absurd rfl h, fun h => ?_⟩
              exfalso
              have key : ∀ n s c, ¬ RD A one (fun s => 0 = s + 1) n s c := by
                intro n
                induction n with
                | zero =>
                  intro s c h
                  have := h.1
                  omega
                | succ n ih =>
                  intro s c h
                  obtain ⟨s2, k2, c2, q, _, _⟩ := h
                  exact ih _ _ q
              exact key _ _ _ h
            · rw [if_neg (by omega), Nat.add_sub_cancel, WW_sym hmo.1 vx hmo.2 hx]
              exact WW_RD V.1 hx n _ hmo.2
          -- the first number of moves at which there is a way
          have key : ∀ k x f mx, x + k = 9 → k < f → RW A mx x → mx.1 = n1.1 → (∀ j, j < x → wC A j y = 0) → ∃ r mx2, f_X6_soonest_L57 F (nI y) (fun x3_7 m8 => some ((-1 : Int32), m8)) f (nI x) mx = some (r, mx2) ∧ mx2.1 = n1.1 ∧ ((r = -1 ∧ ∀ j, j < 9 → wC A j y = 0) ∨ ∃ j, j < 9 ∧ r = nI j ∧ wC A j y ≠ 0 ∧ ∀ i, i < j → wC A i y = 0) := by
            intro k
            induction k with
            | zero =>
              intro x f mx hx hf hR h1 hj
              obtain ⟨f, rfl⟩ : ∃ z, f = z + 1 := ⟨f - 1, by omega⟩
              have : x = 9 := by omega
              subst this
              refine ⟨-1, mx, ?_, h1, Or.inl ⟨rfl, hj⟩⟩
              unfold f_X6_soonest_L57
              rw [if_pos (show (9 : Int32) ≤ nI 9 by decide)]
            | succ k ih =>
              intro x f mx hx hf hR h1 hj
              obtain ⟨f, rfl⟩ : ∃ z, f = z + 1 := ⟨f - 1, by omega⟩
              have hb : wC A x y < 2 ^ 63 := by
                have := wC_le (n := x) (c := y) V
                have p : 25 ^ x ≤ 25 ^ 12 := Nat.pow_le_pow_right (by decide) (by omega)
                omega
              have eL := hR.2.2 y hy
              by_cases cw : wC A x y = 0
              · obtain ⟨n3, w1, w2, w3⟩ := rw_sp (F := F) (by omega) V (show x < 12 by omega) hR
                obtain ⟨r, mx2, q1, q2, q3⟩ := ih (x + 1) f n3 (by omega) (by omega) w2 (w3.trans h1) (fun j hj2 => by
                  by_cases ce : j = x
                  · rw [ce]; exact cw
                  · exact hj j (by omega))
                refine ⟨r, mx2, ?_, q2, q3⟩
                unfold f_X6_soonest_L57
                rw [if_neg (show ¬ (9 : Int32) ≤ nI x by rw [show (9 : Int32) = nI 9 from rfl, n_le (by omega) (by omega)]; omega), Gu_of gy, hxy, eL, if_pos ((lN_pos hb).mpr cw), w1, bd1_s, Lt_d, n_s]
                exact q1
              · refine ⟨nI x, mx, ?_, h1, Or.inr ⟨x, by omega, rfl, cw, hj⟩⟩
                unfold f_X6_soonest_L57
                rw [if_neg (show ¬ (9 : Int32) ≤ nI x by rw [show (9 : Int32) = nI 9 from rfl, n_le (by omega) (by omega)]; omega), Gu_of gy, hxy, eL, if_neg (fun z => cw ((lN_pos hb).mp z))]
          obtain ⟨r, n2, v1, v2, v3⟩ := key 9 0 F n1 (by omega) (by omega) u2 rfl (fun j hj => absurd hj (Nat.not_lt_zero j))
          have fy : FY mm n2 := ⟨fun q h1 h2 => (show n2.1 q = mm.1 q by rw [v2]; exact u3.1 q h1 h2), fun i hi => (rI_1 v2 0 i).trans (u3.2 i hi)⟩
          refine ⟨r, m3, n2, ?_, v1, Rel_fr (XF_T F) (KC_fx fx) (KM_fy fy) R⟩
          rcases hld with ⟨h1, h2⟩ | ⟨h1, ⟨nn, h2⟩, h3⟩
          · rw [h1]
            rw [if_neg (show ¬ (8 : Int32) < nI 0 - 1 by decide)]
            rcases v3 with ⟨e, _⟩ | ⟨j, hj, e, hne, _⟩
            · rw [e]
              rfl
            · exact absurd ((hw j).mp hne) (h2 j j)
          · obtain ⟨x, hx⟩ : ∃ x, fa (u_hm A) = x + 1 := ⟨fa (u_hm A) - 1, by omega⟩
            rw [hx, n_p]
            rw [hx, Nat.add_sub_cancel] at h2
            have enn := RD_one nn _ _ h2
            subst enn
            have hxw := (hw x).mpr h2
            rcases v3 with ⟨e, hall⟩ | ⟨j, hj, e, hne, hmin⟩
            · have h8 : ¬ x < 9 := fun z => hxw (hall x z)
              rw [if_pos (show (8 : Int32) < nI x by rw [show (8 : Int32) = nI 8 from rfl, n_lt (by omega) (by omega)]; omega), e]
            · have q1 := h3 j j ((hw j).mp hne)
              rw [hx, Nat.add_sub_cancel] at q1
              have q2 : ¬ x < j := fun z => hxw (hmin x z)
              have : x = j := by omega
              subst this
              rw [if_neg (show ¬ (8 : Int32) < nI x by rw [show (8 : Int32) = nI 8 from rfl, n_lt (by omega) (by omega)]; omega), e]
      · have hz : ¬ nI z = nI (A 6 1) := fun e => cz ((n_eq (by omega) (by omega)).mp e)
        rw [if_neg hz, if_neg hz]
        exact ⟨_, _, _, rfl, rfl, R⟩
  · rw [show (4 : Int32) = nI 4 from rfl, wi_f h (by omega), shM0 h, bd1_s, bd1_s, i_if, i_if]
    exact ⟨_, _, _, rfl, rfl, R⟩
