/-! THING, IMAGE, BACK, THINGS -/
/-- a loop that keeps what it keeps -/
theorem loop_inv {β σ : Type} (L : Nat → Int32 → σ → Option β) (z : σ → Option β) (N : Nat) (I : Nat → σ → Prop) (h0 : ∀ n m, I N m → L (n + 1) (nI N) m = z m) (hs : ∀ i n m, i < N → I i m → ∃ m', I (i + 1) m' ∧ L (n + 1) (nI i) m = L n (nI (i + 1)) m') : ∀ n m, N < n → I 0 m → ∃ m', I N m' ∧ L n (nI 0) m = z m' := by
  have key : ∀ d i n m, i + d = N → d < n → I i m → ∃ m', I N m' ∧ L n (nI i) m = z m' := by
    intro d
    induction d with
    | zero =>
      intro i n m hi hn hI
      obtain ⟨n, rfl⟩ : ∃ k, n = k + 1 := ⟨n - 1, by omega⟩
      have : i = N := by omega
      subst this
      exact ⟨m, hI, h0 n m hI⟩
    | succ d ih =>
      intro i n m hi hn hI
      obtain ⟨n, rfl⟩ : ∃ k, n = k + 1 := ⟨n - 1, by omega⟩
      obtain ⟨m', h1, h2⟩ := hs i n m (by omega) hI
      obtain ⟨m3, h3, h4⟩ := ih (i + 1) n m' (by omega) (by omega) h1
      exact ⟨m3, h3, h2.trans h4⟩
  intro n m hn hI
  exact key N 0 n m (by omega) hn hI
theorem RelX_now {X : MM → MM → Nat → Prop} (hX : XF X) {mc mm mc2 mm2 : MM} {A2 : LT} {n : Nat} (c : ∀ q, ¬ (1 ≤ q ∧ q ≤ 8) → mc2.1 q = mc.1 q) (g : ∀ q, q ≠ 0 → ¬ (4 ≤ q ∧ q ≤ 9) → mm2.1 q = mm.1 q) (g0 : ∀ i, i = 3 ∨ i = 6 ∨ (45 ≤ i ∧ i ≤ 49) → rI mm2 0 i = rI mm 0 i) (h1 : LC mc2 1 A2) (h2 : LM mm2 A2) (h3 : AV A2) (h4 : A2 6 4 < n) (r5 : RK mc mm A2 n) (r6 : RT mc mm) (r7 : RX X mc mm n) (r8 : RS mc mm) : RelX X mc2 mm2 := by
  exact ⟨A2, n, h1, h2, h3, h4, RK_fr (r_row (c 0 (by omega)) 9) (fun q h1 h2 => c q (by omega)) (g 18 (by omega) (by omega)) (fun i hi => g0 i (by omega)) r5, RT_fr (r_row (c 36 (by omega)) 1) (c 37 (by omega)) (g0 6 (by omega)) (g 3 (by omega) (by omega)) r6, RX_fr hX (r_row (c 0 (by omega)) 8) (g0 3 (by omega)) (fun q h1 h2 h3 => c q (by omega)) (g 1 (by omega) (by omega)) (g 2 (by omega) (by omega)) r7, RS_fr (fun q h1 h2 => c q (by omega)) (fun q h1 h2 => g q (by omega) (by omega)) r8⟩
theorem td10 (z : Int) : (z < 10 → z.tdiv 10 < 1) ∧ (100 ≤ z → 10 ≤ z.tdiv 10) := by
  constructor
  · intro h
    by_cases c : 0 ≤ z
    · rw [Int.tdiv_eq_ediv_of_nonneg c]; omega
    · obtain ⟨y, rfl⟩ : ∃ y, z = -y := ⟨-z, by omega⟩
      rw [Int.neg_tdiv, Int.tdiv_eq_ediv_of_nonneg (by omega)]; omega
  · intro h
    rw [Int.tdiv_eq_ediv_of_nonneg (by omega)]; omega
theorem i_d10 (a : Int32) : (a / 10).toInt = a.toInt.tdiv 10 := Int32.toInt_div_of_ne_right a 10 (by decide)
theorem w_d10 : ∀ w, w < 100 → nI w / 10 = nI (w / 10) ∧ remI (nI w) 10 = nI (w % 10) := by decide +kernel
theorem rf_0 {su ct rm kd dr bits : Nat} : u_rf su ct rm kd dr bits = 0 ↔ (su ≤ rm ∧ ct ≤ u_mo kd ∧ ¬ (dr = 1 ∧ u_we kd = 1) ∧ bits = 0) := by
  unfold u_rf
  by_cases c1 : rm < su
  · rw [if_pos c1]; omega
  · rw [if_neg c1]
    by_cases c2 : u_mo kd < ct
    · rw [if_pos c2]; omega
    · rw [if_neg c2]
      by_cases c3 : dr = 1 ∧ u_we kd = 1
      · rw [if_pos c3]; omega
      · rw [if_neg c3]
        by_cases c4 : bits = 0
        · rw [if_pos c4]; omega
        · rw [if_neg c4]; omega
theorem rf_6 {su ct rm kd dr bits : Nat} : u_rf su ct rm kd dr bits < 6 := by
  unfold u_rf
  repeat' split
  all_goals omega
theorem u_p_cong {A A2 : LT} {a a2 : Nat → Nat} {h i : Nat} (h1 : A2 6 5 = A 6 5) (h2 : a2 i = a i) : u_p A2 a2 h i = u_p A a h i := by
  unfold u_p
  rw [h1, h2]
theorem bit_off : ∀ T, T < 5 → ∀ a, a < 32 → a < 2 ^ T → nI a &&& (shlI 1 (nI T) ^^^ -1) = nI a := by decide +kernel
theorem bit_off0 : ∀ T, T < 5 → (0 : Int32) &&& (shlI 1 (nI T) ^^^ -1) = 0 := by decide +kernel
theorem thing117 {T F : Nat} (hF : 6 ≤ F) (hT : T < 5) (m : MM) (h14 : rI m 0 14 = nI T) (K : Int32 → MM → Option (Int32 × MM)) : ∃ m2, ((∀ q, q ≠ 9 → m2.1 q = m.1 q) ∧ ∀ j, j < 5 → rI m2 9 j = rI m 9 j &&& (shlI 1 (nI T) ^^^ -1)) ∧ f_X6_thing_L117 K F 0 m = K 5 m2 := by
  obtain ⟨m2, ⟨h1, h2, h3⟩, h4⟩ := loop_inv (fun n i m => f_X6_thing_L117 K n i m) (fun m => K 5 m) 5 (fun i m1 => (∀ q, q ≠ 9 → m1.1 q = m.1 q) ∧ (∀ j, j < i → rI m1 9 j = rI m 9 j &&& (shlI 1 (nI T) ^^^ -1)) ∧ (∀ j, i ≤ j → rI m1 9 j = rI m 9 j)) (fun n m1 hI => by
    show f_X6_thing_L117 K (n + 1) _ m1 = _
    unfold f_X6_thing_L117
    rw [if_pos (by decide)]
    rfl) (fun i n m1 hi hI => by
    obtain ⟨i1, i2, i3⟩ := hI
    have e14 : rI m1 0 14 = nI T := (r_row (i1 0 (by decide)) 14).trans h14
    have hx : ix (nI i) = i := ix_n (by omega)
    refine ⟨wI m1 9 i (rI m1 9 i &&& (shlI 1 (nI T) ^^^ -1)), ⟨fun q hq => (row_ne hq).trans (i1 q hq), fun j hj => ?_, fun j hj => ?_⟩, ?_⟩
    · by_cases c : j = i
      · subst c
        rw [rI_eq, i3 j (Nat.le_refl _)]
      · rw [rI_nj c]
        exact i2 j (by omega)
    · rw [rI_nj (by omega)]
      exact i3 j (by omega)
    · show f_X6_thing_L117 K (n + 1) (nI i) m1 = _
      conv => lhs; unfold f_X6_thing_L117
      rw [if_neg (show ¬ (5 : Int32) ≤ nI i by rw [show (5 : Int32) = nI 5 from rfl, n_le (by omega) (by omega)]; omega), Gu_of (inB_n hi (by decide)), Gu_of (inB_n hi (by decide))]
      simp only [Lt_d]
      rw [hx, e14, n_s]) F m (by omega) ⟨fun q hq => rfl, fun j hj => absurd hj (Nat.not_lt_zero j), fun j hj => rfl⟩
  exact ⟨m2, ⟨h1, fun j hj => h2 j hj⟩, h4⟩
theorem t_thing2 {X : MM → MM → Nat → Prop} (hX : XF X) {F : Nat} (hF : 7 ≤ F) (mc mm : MM) (a0 a1 : Int32) (R : RelX X mc mm) : ∃ r mc2 mm2, f_X5_thing F a0 a1 mc = some (r, mc2) ∧ f_X6_thing F a0 a1 mm = some (r, mm2) ∧ RelX X mc2 mm2 ∧ (∀ q, 64 ≤ q → mc2.1 q = mc.1 q) ∧ (∀ q, 19 ≤ q → mm2.1 q = mm.1 q) := by
  obtain ⟨A, n, r1, r2, r3, r4, r5, r6, r7, r8⟩ := id R
  obtain ⟨B, sy, my, h0, h6⟩ := id r3
  obtain ⟨b1, b2, b3, b4, b5, b6, b7, b8, b9⟩ := id B
  have g10 : nz (10 : Int32) = true := rfl
  unfold f_X5_thing f_X6_thing
  simp only [Gu_of g10, Lt_d]
  rw [in_sp, bd1_s, l_i, show (10 : Int64).toInt = 10 from rfl, show (99 : Int64).toInt = 99 from rfl]
  by_cases cz : 10 ≤ a0.toInt ∧ a0.toInt ≤ 99
  · obtain ⟨w, hw, rfl⟩ := n_of (a := a0) (n := 100) (by omega) (by omega)
    have w10 : 10 ≤ w := by rw [nI_toInt (by omega)] at cz; omega
    have s9 : w / 10 ≤ 9 := by omega
    have s1 : 1 ≤ w / 10 := by omega
    rw [if_pos cz, i_el, (w_d10 w hw).1, (w_d10 w hw).2]
    generalize hsz : w / 10 = sz at *
    generalize hdr : w % 10 = dr at *
    have d10 : dr < 10 := by omega
    rw [if_neg (show ¬ nI sz < 1 by rw [show (1 : Int32) = nI 1 from rfl, n_lt (by omega) (by omega)]; omega), if_neg (show ¬ 9 < nI sz by rw [show (9 : Int32) = nI 9 from rfl, n_lt (by omega) (by omega)]; omega)]
    by_cases cd : dr < 2
    · rw [show (2 : Int32) = nI 2 from rfl, wi_t cd (by omega), bd1_s, i_el, if_neg (show ¬ 1 < nI dr by rw [show (1 : Int32) = nI 1 from rfl, n_lt (by omega) (by omega)]; omega)]
      rcases a_cs a1 (A 6 0) with ⟨h, hh, rfl⟩ | h
      · rw [hhC r1.1 b1 hh, hhM r2.1 b1 hh, bd1_s, bd1_s, i_el, i_el, r1.2.1, r2.2.1, show (5 : Int32) = nI 5 from rfl]
        simp only [n_lt (show A 6 1 < 2 ^ 31 by omega) (show 5 < 2 ^ 31 by omega), n_eq (show A 6 1 < 2 ^ 31 by omega) (show 5 < 2 ^ 31 by omega)]
        by_cases c : A 6 1 = 5
        · rw [if_neg (by omega), if_pos c]
          exact ⟨_, _, _, rfl, rfl, R, fun q _ => rfl, fun q _ => rfl⟩
        · generalize hTd : A 6 1 = T at *
          have hT5 : T < 5 := by omega
          rw [if_pos hT5, if_neg c]
          have hx : ix (nI T) = T := ix_n (by omega)
          have g := inB_n hT5 (by decide : 5 ≤ 2 ^ 31)
          have bh := b8 h hh
          have hl := r1.2.2.2.2.2.2.2
          have hk := r1.2.2.2.2.2.2.1 h hh
          simp only [Gu_of g, hx]
          -- the component's refusal
          have hT1 : rI (wI (wI (wI (wI mc 5 T (nI sz)) 6 T (nI dr)) 7 T 0) 8 T (-1)) 1 8 = nI T := by
            simp [rI_w]
            have := r1.2.1
            rw [hTd] at this
            exact this
          have hrr := u_rm_lt (A := A) (h := h) bh.2
          have eC : f_X0_refusal F 1 (nI T) (nI h) (wI (wI (wI (wI mc 5 T (nI sz)) 6 T (nI dr)) 7 T 0) 8 T (-1)) = some (nI (u_rf (sz + smP (u_p A (A 5) h) (A 2) T) (1 + ctP (u_p A (A 5) h) T) (u_rm A h) (A 0 h) dr (0 &&& mkP (u_p A (A 5) h) T))) := by
            have q := refusal_C (m := wI (wI (wI (wI mc 5 T (nI sz)) 6 T (nI dr)) 7 T 0) 8 T (-1)) (k := 1) (T := T) (t := T) (h := h) (F := F) (p := u_p A (A 5) h) (z := fun i => if i = T then sz else A 2 i) (rm := u_rm A h) (kd := A 0 h) (dr := dr) (ap := 0) (by omega) hT1 (by omega) hT5 (by omega) (fun i hi => by
              have e : rI (wI (wI (wI (wI mc 5 T (nI sz)) 6 T (nI dr)) 7 T 0) 8 T (-1)) (1 + 7) i = nI (A 5 i) := by
                have hn : ¬ i = T := by omega
                simp [rI_w, hn]
                exact (hl i (by omega)).2.2.2
              have := (b9 i (by omega)).2.2.2.2
              rw [e, p_iff, n_eq (by omega) (by omega), h0]
              exact ⟨fun z => z.2, fun z => ⟨by omega, z⟩⟩) (fun i hi _ => by
              have hn : ¬ i = T := by omega
              simp [rI_w, hn]
              exact (hl i (by omega)).1) (fun i hi => by
              have hn : ¬ i = T := by omega
              simp only [if_neg hn]
              exact (b9 i (by omega)).2.1) (by simp [rI_w]) (by simp; omega) (by simp [rI_w]; exact hk.2.2) (by omega) (by simp [rI_w]; exact hk.1) bh.1 (by simp [rI_w]; rfl) (by omega) (by simp [rI_w]) cd
            rw [q]
            have e7 : rI (wI (wI (wI (wI mc 5 T (nI sz)) 6 T (nI dr)) 7 T 0) 8 T (-1)) (1 + 7) T = -1 := rI_eq
            rw [e7, if_neg (fun z => n_ne1 (show h < 2 ^ 31 by omega) z.symm), if_pos rfl]
            have e8 : smP (u_p A (A 5) h) (fun i => if i = T then sz else A 2 i) T = smP (u_p A (A 5) h) (A 2) T := smP_cong (fun i hi => rfl) (fun i hi _ => if_neg (by omega))
            rw [e8]
          have eM1 := insideM (h := h) (F := F) (by omega) r2 B (by omega)
          have eM2 := barsM (p := u_p A (A 5) h) (s := sz) (d := dr) (ap := 0) hF r2 B hh s9 cd (by omega)
          rw [hTd] at eM1 eM2
          rw [eC, bd1_s, eM1, bd1_s, show (0 : Int32) = nI 0 from rfl, eM2, bd1_s]
          have hu := rf_6 (su := sz + smP (u_p A (A 5) h) (A 2) T) (ct := 1 + ctP (u_p A (A 5) h) T) (rm := u_rm A h) (kd := A 0 h) (dr := dr) (bits := 0 &&& mkP (u_p A (A 5) h) T)
          simp only [n_eq (show u_rf (sz + smP (u_p A (A 5) h) (A 2) T) (1 + ctP (u_p A (A 5) h) T) (u_rm A h) (A 0 h) dr (0 &&& mkP (u_p A (A 5) h) T) < 2 ^ 31 by omega) (show 0 < 2 ^ 31 by omega)]
          by_cases cu : u_rf (sz + smP (u_p A (A 5) h) (A 2) T) (1 + ctP (u_p A (A 5) h) T) (u_rm A h) (A 0 h) dr (0 &&& mkP (u_p A (A 5) h) T) = 0
          · rw [if_pos cu, if_pos cu]
            obtain ⟨c1, c2, c3, c4⟩ := rf_0.mp cu
            have e15 : rI (wI (wI (wI (wI (wI mc 5 T (nI sz)) 6 T (nI dr)) 7 T (nI 0)) 8 T (-1)) 8 T (nI h)) 1 8 = nI T := by
              rw [rI_ne (by decide)]
              exact hT1
            have m14 : rI mm 0 14 = nI T := by
              have := r2.2.1
              rw [hTd] at this
              exact this
            have e16 : rI (wI mm 6 T (nI sz)) 0 14 = nI T := by rw [rI_ne (by decide), m14]
            have e17 : rI (wI (wI mm 6 T (nI sz)) 7 T (nI dr)) 0 14 = nI T := by rw [rI_ne (by decide), e16]
            have e18 : rI (wI (wI (wI mm 6 T (nI sz)) 7 T (nI dr)) 8 T (nI h)) 0 14 = nI T := by rw [rI_ne (by decide), e17]
            have e19 : rI (wI (wI (wI (wI mm 6 T (nI sz)) 7 T (nI dr)) 8 T (nI h)) 9 T (nI 0)) 0 14 = nI T := by rw [rI_ne (by decide), e18]
            rw [e15]
            have e14' : rI mm 0 14 = nI T := m14
            simp only [e16, e17, e18, Gu_of g, hx, n_s]
            obtain ⟨m2, ⟨k1, k2⟩, k3⟩ := thing117 (F := F) (by omega) hT5 (wI (wI (wI (wI mm 6 T (nI sz)) 7 T (nI dr)) 8 T (nI h)) 9 T (nI 0)) e19 (fun x3_13 m14 => some ((rI (wI m14 0 14 ((rI m14 0 14) + (1 : Int32))) 0 14) - (1 : Int32), wI m14 0 14 ((rI m14 0 14) + (1 : Int32))))
            have e20 : rI m2 0 14 = nI T := (r_row (k1 0 (by decide)) 14).trans e19
            have e0 : nI 0 = (0 : Int32) := rfl
            refine ⟨nI T, _, wI m2 0 14 (nI (T + 1)), rfl, ?_, ?_, fun q hq => ?_, fun q hq => ?_⟩
            · refine Eq.trans k3 ?_
              show some (rI (wI m2 0 14 (rI m2 0 14 + 1)) 0 14 - 1, wI m2 0 14 (rI m2 0 14 + 1)) = _
              rw [e20, n_s, rI_eq, n_p]
            · refine RelX_now hX (A2 := uA (uA (uA (uA (uA A 2 T sz) 3 T dr) 4 T 0) 5 T h) 6 1 (T + 1)) (n := n) (fun q hq => ?_) (fun q hq1 hq2 => ?_) (fun i hi => ?_) ?_ ?_ ?_ r4 (RK_up (Nat.le_refl _) (fun K hKA => ?_) r5) r6 r7 r8
              · repeat' first | exact rfl | refine row_c (by omega) ?_
              · refine row_c hq1 ((k1 q (by omega)).trans ?_)
                repeat' first | exact rfl | refine row_c (by omega) ?_
              · rw [rI_nj (by omega), r_row (k1 0 (by decide)) i]
                simp [rI_w]
              · obtain ⟨l1, l2, l3, l4, l5, l6, l7, l8⟩ := r1
                refine ⟨by simpa [rI_w, uA] using l1, by simp [rI_w, uA], by simpa [rI_w, uA] using l3, by simpa [rI_w, uA] using l4, by simpa [rI_w, uA] using l5, by simpa [rI_w, uA] using l6, ?_, ?_⟩
                · intro i hi
                  have q := l7 i hi
                  simpa [rI_w, uA, u_rm] using q
                · intro i hi
                  have hi2 : i < T + 1 := hi
                  by_cases e : i = T
                  · subst e
                    simp [rI_w, uA, e0]
                  · have q := l8 i (by omega)
                    simpa [rI_w, uA, e] using q
              · obtain ⟨l1, l2, l3, l4, l5, l6, l7, l8, l9⟩ := r2
                have kk : ∀ q i, q ≠ 9 → rI m2 q i = rI (wI (wI (wI (wI mm 6 T (nI sz)) 7 T (nI dr)) 8 T (nI h)) 9 T (nI 0)) q i := fun q i hq => r_row (k1 q hq) i
                refine ⟨?_, by simp [rI_w, uA], ?_, ?_, ?_, ?_, ?_, ?_, ?_⟩
                · simpa [rI_w, uA, kk] using l1
                · simpa [rI_w, uA, kk] using l3
                · simpa [rI_w, uA, kk] using l4
                · simpa [rI_w, uA, kk] using l5
                · simpa [rI_w, uA, kk] using l6
                · simpa [rI_w, uA, kk] using l7
                · intro i hi
                  have q := l8 i hi
                  simpa [rI_w, uA, kk] using q
                · intro i hi
                  have hi2 : i < T + 1 := hi
                  have k9 := k2 i (by omega)
                  by_cases e : i = T
                  · subst e
                    rw [rI_eq, show nI 0 = (0 : Int32) from rfl, bit_off0 _ hT5] at k9
                    simp [rI_w, uA, kk, k9]
                    rfl
                  · have q := l9 i (by omega)
                    have bi := (b9 i (by omega)).2.2.2.1
                    have p5 : 2 ^ T ≤ 2 ^ 5 := Nat.pow_le_pow_right (by decide) (by omega)
                    rw [rI_nj e, rI_ne (by decide), rI_ne (by decide), rI_ne (by decide), q.2.2.1, bit_off _ hT5 _ (by omega) bi] at k9
                    refine ⟨?_, ?_, ?_, ?_⟩
                    · simpa [rI_w, uA, kk, e] using q.1
                    · simpa [rI_w, uA, kk, e] using q.2.1
                    · simpa [rI_w, uA, e] using k9
                    · simpa [rI_w, uA, kk, e] using q.2.2.2
              · have p2 : 2 ^ T ≤ 2 ^ (T + 1) := Nat.pow_le_pow_right (by decide) (by omega)
                have pos : 0 < 2 ^ (T + 1) := Nat.two_pow_pos _
                have ub : u_p (uA (uA (uA (uA (uA A 2 T sz) 3 T dr) 4 T 0) 5 T h) 6 1 (T + 1)) (uA (uA (uA (uA (uA A 2 T sz) 3 T dr) 4 T 0) 5 T h) 6 1 (T + 1) 5) = u_p A (fun j => if j = T then h else A 5 j) := by
                  funext x y
                  refine u_p_cong rfl ?_
                  by_cases e : y = T <;> simp [uA, e]
                have ub2 : ∀ x i, i < T → u_p A (fun j => if j = T then h else A 5 j) x i = u_p A (A 5) x i := fun x i hi => u_p_cong rfl (if_neg (by omega))
                have ubT : ∀ x, u_p A (fun j => if j = T then h else A 5 j) x T = (h == x) := by
                  intro x
                  unfold u_p
                  rw [h0]
                  show (!(0 == T + 1) && ((if T = T then h else A 5 T) == x)) = _
                  rw [if_pos rfl]
                  rfl
                have a2T : ∀ i, uA (uA (uA (uA (uA A 2 T sz) 3 T dr) 4 T 0) 5 T h) 6 1 (T + 1) 2 i = if i = T then sz else A 2 i := by
                  intro i
                  by_cases e : i = T <;> simp [uA, e]
                have a4T : ∀ i, uA (uA (uA (uA (uA A 2 T sz) 3 T dr) 4 T 0) 5 T h) 6 1 (T + 1) 4 i = if i = T then 0 else A 4 i := by
                  intro i
                  by_cases e : i = T <;> simp [uA, e]
                have a5T : ∀ i, uA (uA (uA (uA (uA A 2 T sz) 3 T dr) 4 T 0) 5 T h) 6 1 (T + 1) 5 i = if i = T then h else A 5 i := by
                  intro i
                  by_cases e : i = T <;> simp [uA, e]
                have a3T : ∀ i, uA (uA (uA (uA (uA A 2 T sz) 3 T dr) 4 T 0) 5 T h) 6 1 (T + 1) 3 i = if i = T then dr else A 3 i := by
                  intro i
                  by_cases e : i = T <;> simp [uA, e]
                refine ⟨⟨b1, (by show T + 1 ≤ 5; omega), (by show A 6 2 ≤ T + 1; omega), b4, b5, (by show A 6 5 ≤ T + 1; omega), b7, b8, fun i hi => ?_⟩, fun i j hi hj => ?_, ⟨fun i hi => ?_, fun x hx => ?_, fun i hi _ => ?_, fun i j hi hj _ _ he => ?_⟩, h0, h6⟩
                · have hi2 : i < T + 1 := hi
                  rw [a2T, a3T, a4T, a5T]
                  show 1 ≤ _ ∧ _ ≤ 9 ∧ _ < 2 ∧ _ < 2 ^ (T + 1) ∧ _ < A 6 0
                  by_cases e : i = T
                  · simp only [if_pos e]
                    exact ⟨s1, s9, cd, pos, hh⟩
                  · simp only [if_neg e]
                    have q := b9 i (by omega)
                    exact ⟨q.1, q.2.1, q.2.2.1, by omega, q.2.2.2.2⟩
                · have hi2 : i < T + 1 := hi
                  have hj2 : j < T + 1 := hj
                  rw [a4T, a4T]
                  by_cases e : i = T
                  · rw [if_pos e]
                    by_cases e2 : j = T
                    · rw [if_pos e2]
                      simp
                    · rw [if_neg e2, e, Nat.zero_testBit, Nat.testBit_lt_two_pow (b9 j (by omega)).2.2.2.1]
                      simp
                  · rw [if_neg e]
                    by_cases e2 : j = T
                    · rw [if_pos e2, e2, Nat.zero_testBit, Nat.testBit_lt_two_pow (b9 i (by omega)).2.2.2.1]
                      exact ⟨rfl, (sy i i (by omega) (by omega)).2⟩
                    · rw [if_neg e2]
                      exact sy i j (by omega) (by omega)
                · have hi2 : i < T + 1 := hi
                  rw [a5T]
                  show _ < A 6 0
                  by_cases e : i = T
                  · rw [if_pos e]; exact hh
                  · rw [if_neg e]; exact my.1 i (by omega)
                · have hx2 : x < A 6 0 := hx
                  have q := my.2.1 x hx2
                  rw [hTd] at q
                  rw [ub]
                  show smP (u_p A (fun j => if j = T then h else A 5 j) x) _ (T + 1) ≤ u_rm A x ∧ ctP (u_p A (fun j => if j = T then h else A 5 j) x) (T + 1) ≤ u_mo (A 0 x)
                  have es : ∀ z, smP (u_p A (fun j => if j = T then h else A 5 j) x) z (T + 1) = smP (u_p A (fun j => if j = T then h else A 5 j) x) z T + (if u_p A (fun j => if j = T then h else A 5 j) x T = true then z T else 0) := fun z => rfl
                  have ec : ctP (u_p A (fun j => if j = T then h else A 5 j) x) (T + 1) = ctP (u_p A (fun j => if j = T then h else A 5 j) x) T + (if u_p A (fun j => if j = T then h else A 5 j) x T = true then 1 else 0) := rfl
                  rw [es, ec, ubT, smP_cong (q := u_p A (A 5) x) (w := A 2) (fun i hi => ub2 x i hi) (fun i hi _ => by rw [a2T, if_neg (by omega)]), ctP_cong (fun i hi => ub2 x i hi), a2T, if_pos rfl]
                  by_cases e : h = x
                  · subst e
                    rw [if_pos (by simp), if_pos (by simp)]
                    omega
                  · rw [if_neg (by simpa using e), if_neg (by simpa using e)]
                    omega
                · have hi2 : i < T + 1 := hi
                  rw [a3T, a5T]
                  show ¬ (_ ∧ u_we (A 0 _) = 1)
                  by_cases e : i = T
                  · rw [if_pos e, if_pos e]; exact c3
                  · rw [if_neg e, if_neg e]; exact my.2.2.1 i (by omega) (by omega)
                · have hi2 : i < T + 1 := hi
                  have hj2 : j < T + 1 := hj
                  rw [a5T, a5T] at he
                  rw [a4T]
                  by_cases e : i = T
                  · rw [if_pos e]; exact Nat.zero_testBit _
                  · rw [if_neg e]
                    by_cases e2 : j = T
                    · rw [e2]; exact Nat.testBit_lt_two_pow (b9 i (by omega)).2.2.2.1
                    · rw [if_neg e, if_neg e2] at he
                      exact my.2.2.2 i j (by omega) (by omega) (by omega) (by omega) he
              · obtain ⟨p1, p2, p3, p4⟩ := hKA
                refine ⟨p1, (by show K 6 1 ≤ T + 1; omega), p3, fun i hi => ?_⟩
                have : ¬ i = T := by omega
                simpa [uA, this] using p4 i hi
            · repeat' first | exact rfl | refine row_c (by omega) ?_
            · refine row_c (by omega) ((k1 q (by omega)).trans ?_)
              repeat' first | exact rfl | refine row_c (by omega) ?_
          · rw [if_neg cu, if_neg cu]
            refine ⟨_, _, _, rfl, rfl, ?_, fun q hq => ?_, fun q hq => rfl⟩
            have hTd' : A 6 1 = T := hTd
            refine RelX_now hX (A2 := A) (n := n) (fun q hq => ?_) (fun q hq1 hq2 => rfl) (fun i hi => rfl) ?_ r2 r3 r4 r5 r6 r7 r8
            · repeat' first | exact rfl | refine row_c (by omega) ?_
            · obtain ⟨l1, l2, l3, l4, l5, l6, l7, l8⟩ := r1
              refine ⟨by simpa [rI_w] using l1, by simpa [rI_w] using l2, by simpa [rI_w] using l3, by simpa [rI_w] using l4, by simpa [rI_w] using l5, by simpa [rI_w] using l6, ?_, ?_⟩
              · intro i hi
                have q := l7 i hi
                simpa [rI_w] using q
              · intro i hi
                have e : ¬ i = T := by omega
                have q := l8 i hi
                simpa [rI_w, e] using q
            · repeat' first | exact rfl | refine row_c (by omega) ?_
      · rw [hhC0 r1.1 b1 h, hhM0 r2.1 b1 h, bd1_s, bd1_s, i_if, i_if]
        exact ⟨_, _, _, rfl, rfl, R, fun q _ => rfl, fun q _ => rfl⟩
    · rw [show (2 : Int32) = nI 2 from rfl, wi_f (by rw [nI_toInt (by omega)]; omega) (by omega), bd1_s, i_if, if_pos (show 1 < nI dr from (n_lt (a := 1) (by omega) (by omega)).mpr (by omega))]
      exact ⟨_, _, _, rfl, rfl, R, fun q _ => rfl, fun q _ => rfl⟩
  · rw [if_neg cz, i_if]
    have q := td10 a0.toInt
    have e1 : (1 : Int32).toInt = 1 := rfl
    have e9 : (9 : Int32).toInt = 9 := rfl
    by_cases c : a0.toInt < 10
    · rw [if_pos (by rw [i_lt, i_d10, e1]; exact q.1 c)]
      exact ⟨_, _, _, rfl, rfl, R, fun q _ => rfl, fun q _ => rfl⟩
    · have := q.2 (by omega)
      rw [if_neg (by rw [i_lt, i_d10, e1]; omega), if_pos (by rw [i_lt, i_d10, e9]; omega)]
      exact ⟨_, _, _, rfl, rfl, R, fun q _ => rfl, fun q _ => rfl⟩
theorem t_thing {X : MM → MM → Nat → Prop} (hX : XF X) {F : Nat} (hF : 7 ≤ F) (mc mm : MM) (a0 a1 : Int32) (R : RelX X mc mm) : ∃ r mc2 mm2, f_X5_thing F a0 a1 mc = some (r, mc2) ∧ f_X6_thing F a0 a1 mm = some (r, mm2) ∧ RelX X mc2 mm2 := by
  obtain ⟨r, mc2, mm2, h1, h2, h3, h4, h5⟩ := t_thing2 hX hF mc mm a0 a1 R
  exact ⟨r, mc2, mm2, h1, h2, h3⟩
theorem so_eq {α β : Type} {a b : α} {m : β} (h : a = b) : some (a, m) = some (b, m) := by rw [h]
theorem rI_cpy {m : MM} {a b q j : Nat} : rI (cpy m a 0 b 0 5) q j = if q = b ∧ j < 5 then rI m a j else rI m q j := by
  have h0 : (0 : Int32).toNatClampNeg = 0 := rfl
  have h5 : (5 : Int32).toNatClampNeg = 5 := rfl
  unfold cpy wA rI va_cpy
  rw [h0, h5]
  by_cases c : q = b
  · subst c
    by_cases c2 : j < 5
    · simp [c2]
    · simp [c2]
  · simp [c]
theorem row_cpy {m : MM} {a b q : Nat} (h : q ≠ b) : (cpy m a 0 b 0 5).1 q = m.1 q := by
  unfold cpy wA
  simp [h]
theorem row_cc {m m0 : MM} {a b q : Nat} (h : q ≠ b) (g : m.1 q = m0.1 q) : (cpy m a 0 b 0 5).1 q = m0.1 q := (row_cpy h).trans g
theorem becC {k k2 : Nat} (hk : (k = 9 ∧ k2 = 1) ∨ (k = 1 ∧ k2 = 9) ∨ (k = 17 ∧ k2 = 1)) (m : MM) : ∃ m2, f_X0_become k k2 m = some m2 ∧ (∀ q, q < k ∨ k + 8 ≤ q → m2.1 q = m.1 q) ∧ (∀ r i, 1 ≤ r → r ≤ 7 → i < 5 → rI m2 (k + r) i = rI m (k2 + r) i) ∧ (∀ i, 7 ≤ i → i ≤ 11 → rI m2 k i = rI m k2 i) ∧ rI m2 k 12 = -1 := by
  have g5 : cpyOk 0 0 5 5 5 = true := by decide
  unfold f_X0_become
  simp only [Gu_of g5, Lt_d]
  refine ⟨_, rfl, fun q hq => ?_, fun r i h1 h2 h3 => ?_, fun i h1 h2 => ?_, ?_⟩
  · repeat' first | exact rfl | refine row_c (by omega) ?_ | refine row_cc (by omega) ?_
  · rcases hk with ⟨rfl, rfl⟩ | ⟨rfl, rfl⟩ | ⟨rfl, rfl⟩ <;> rcases (show r = 1 ∨ r = 2 ∨ r = 3 ∨ r = 4 ∨ r = 5 ∨ r = 6 ∨ r = 7 by omega) with rfl | rfl | rfl | rfl | rfl | rfl | rfl <;> simp [rI_w, rI_cpy, h3]
  · rcases hk with ⟨rfl, rfl⟩ | ⟨rfl, rfl⟩ | ⟨rfl, rfl⟩ <;> rcases (show i = 7 ∨ i = 8 ∨ i = 9 ∨ i = 10 ∨ i = 11 by omega) with rfl | rfl | rfl | rfl | rfl <;> simp [rI_w, rI_cpy]
  · exact rI_eq
theorem LC_bec {k k2 : Nat} {m m2 : MM} {A : LT} (b1 : A 6 0 ≤ 5) (b2 : A 6 1 ≤ 5) (h0 : A 6 5 = 0) (e1 : ∀ r i, 1 ≤ r → r ≤ 7 → i < 5 → rI m2 (k + r) i = rI m (k2 + r) i) (e2 : ∀ i, 7 ≤ i → i ≤ 11 → rI m2 k i = rI m k2 i) (e3 : rI m2 k 12 = -1) (L : LC m k2 A) : LC m2 k A := by
  obtain ⟨l1, l2, l3, l4, l5, l6, l7, l8⟩ := L
  refine ⟨(e2 7 (by omega) (by omega)).trans l1, (e2 8 (by omega) (by omega)).trans l2, (e2 9 (by omega) (by omega)).trans l3, (e2 10 (by omega) (by omega)).trans l4, (e2 11 (by omega) (by omega)).trans l5, ?_, fun i hi => ?_, fun i hi => ?_⟩
  · rw [e3, h0]
    decide
  · have q := l7 i hi
    exact ⟨(e1 1 i (by omega) (by omega) (by omega)).trans q.1, (e1 2 i (by omega) (by omega) (by omega)).trans q.2.1, (e1 3 i (by omega) (by omega) (by omega)).trans q.2.2⟩
  · have q := l8 i hi
    exact ⟨(e1 4 i (by omega) (by omega) (by omega)).trans q.1, (e1 5 i (by omega) (by omega) (by omega)).trans q.2.1, (e1 6 i (by omega) (by omega) (by omega)).trans q.2.2.1, (e1 7 i (by omega) (by omega) (by omega)).trans q.2.2.2⟩
theorem not5 {i : Nat} (h : i < 5) : ¬ (5 : Int32) ≤ nI i := by
  rw [show (5 : Int32) = nI 5 from rfl, n_le (by omega) (by omega)]
  omega
theorem image2 {F : Nat} (hF : 6 ≤ F) (m : MM) (K : Int32 → MM → Option (Int32 × MM)) : ∃ m2, ((∀ q, q ≠ 18 → m2.1 q = m.1 q) ∧ ∀ j, j < 5 → rI m2 18 j = rI m 5 j ∧ rI m2 18 (5 + j) = rI m 8 j ∧ rI m2 18 (10 + j) = rI m 7 j ∧ rI m2 18 (15 + j) = rI m 9 j) ∧ f_X6_image_L2 K F 0 m = K 5 m2 := by
  obtain ⟨m2, ⟨h1, h2⟩, h4⟩ := loop_inv (fun n i m => f_X6_image_L2 K n i m) (fun m => K 5 m) 5 (fun i m1 => (∀ q, q ≠ 18 → m1.1 q = m.1 q) ∧ (∀ j, j < i → rI m1 18 j = rI m 5 j ∧ rI m1 18 (5 + j) = rI m 8 j ∧ rI m1 18 (10 + j) = rI m 7 j ∧ rI m1 18 (15 + j) = rI m 9 j)) (fun n m1 hI => by
    show f_X6_image_L2 K (n + 1) _ m1 = _
    unfold f_X6_image_L2
    rw [if_pos (by decide)]
    rfl) (fun i n m1 hi hI => by
    obtain ⟨i1, i2⟩ := hI
    have hx : ix (nI i) = i := ix_n (by omega)
    have f : ∀ q j, q ≠ 18 → rI m1 q j = rI m q j := fun q j hq => r_row (i1 q hq) j
    refine ⟨wI (wI (wI (wI m1 18 i (rI m 5 i)) 18 (5 + i) (rI m 8 i)) 18 (10 + i) (rI m 7 i)) 18 (15 + i) (rI m 9 i), ⟨fun q hq => (row_ne hq).trans ((row_ne hq).trans ((row_ne hq).trans ((row_ne hq).trans (i1 q hq)))), fun j hj => ?_⟩, ?_⟩
    · by_cases c : j = i
      · subst c
        refine ⟨?_, ?_, ?_, ?_⟩
        · rw [rI_nj (by omega), rI_nj (by omega), rI_nj (by omega), rI_eq]
        · rw [rI_nj (by omega), rI_nj (by omega), rI_eq]
        · rw [rI_nj (by omega), rI_eq]
        · rw [rI_eq]
      · have q := i2 j (by omega)
        refine ⟨?_, ?_, ?_, ?_⟩
        · rw [rI_nj (by omega), rI_nj (by omega), rI_nj (by omega), rI_nj (by omega)]; exact q.1
        · rw [rI_nj (by omega), rI_nj (by omega), rI_nj (by omega), rI_nj (by omega)]; exact q.2.1
        · rw [rI_nj (by omega), rI_nj (by omega), rI_nj (by omega), rI_nj (by omega)]; exact q.2.2.1
        · rw [rI_nj (by omega), rI_nj (by omega), rI_nj (by omega), rI_nj (by omega)]; exact q.2.2.2
    · show f_X6_image_L2 K (n + 1) (nI i) m1 = _
      conv => lhs; unfold f_X6_image_L2
      have e5 : (5 : Int32) + nI i = nI (5 + i) := nI_add 5 i
      have e10 : (10 : Int32) + nI i = nI (10 + i) := nI_add 10 i
      have e15 : (15 : Int32) + nI i = nI (15 + i) := nI_add 15 i
      rw [if_neg (not5 hi), e5, e10, e15]
      simp only [Gu_of (inB_n hi (by decide : 5 ≤ 2 ^ 31)), Gu_of (inB_n (by omega : i < 20) (by decide : 20 ≤ 2 ^ 31)), Gu_of (inB_n (by omega : 5 + i < 20) (by decide : 20 ≤ 2 ^ 31)), Gu_of (inB_n (by omega : 10 + i < 20) (by decide : 20 ≤ 2 ^ 31)), Gu_of (inB_n (by omega : 15 + i < 20) (by decide : 20 ≤ 2 ^ 31)), Lt_d, hx, ix_n (show 5 + i < 2 ^ 31 by omega), ix_n (show 10 + i < 2 ^ 31 by omega), ix_n (show 15 + i < 2 ^ 31 by omega), n_s]
      rw [f 5 i (by decide), rI_ne (by decide), f 8 i (by decide), rI_ne (by decide), rI_ne (by decide), f 7 i (by decide), rI_ne (by decide), rI_ne (by decide), rI_ne (by decide), f 9 i (by decide)]) F m (by omega) ⟨fun q hq => rfl, fun j hj => absurd hj (Nat.not_lt_zero j)⟩
  exact ⟨m2, ⟨h1, h2⟩, h4⟩
theorem t_image {X : MM → MM → Nat → Prop} (hX : XF X) {F : Nat} (hF : 7 ≤ F) (mc mm : MM) (R : RelX X mc mm) : ∃ r mc2 mm2, f_X5_image mc = some (r, mc2) ∧ f_X6_image F mm = some (r, mm2) ∧ RelX X mc2 mm2 := by
  obtain ⟨A, n, r1, r2, r3, r4, r5, r6, r7, r8⟩ := id R
  obtain ⟨B, sy, my, h0, h6⟩ := id r3
  obtain ⟨b1, b2, b3, b4, b5, b6, b7, b8, b9⟩ := id B
  unfold f_X5_image f_X6_image
  obtain ⟨m1, e1, e2, e3, e4, e5⟩ := becC (k := 9) (k2 := 1) (by omega) mc
  obtain ⟨m2, ⟨k1, k2⟩, k3⟩ := image2 (F := F) (by omega) mm (fun x1_1 m2 => Lt (wI m2 0 45 (rI m2 0 14)) fun m9 => Lt (wI m9 0 46 (rI m9 0 9)) fun m10 => Lt (wI m10 0 47 (rI m10 0 15)) fun m11 => Lt (wI m11 0 48 (rI m11 0 16)) fun m12 => Lt (wI m12 0 49 (rI m12 0 4)) fun m13 => some (rI m13 0 14, m13))
  have L9 := LC_bec (k := 9) (k2 := 1) b1 b2 h0 e3 e4 e5 r1
  have f0 : ∀ i, rI m2 0 i = rI mm 0 i := fun i => r_row (k1 0 (by decide)) i
  rw [e1, bd1_s, Gu_of bz1, k3]
  simp only [Lt_d]
  have q : rI (wI m1 0 9 1) 9 8 = nI (A 6 1) := by
    rw [rI_ne (by decide)]
    exact L9.2.1
  have q0 : rI mm 0 14 = nI (A 6 1) := r2.2.1
  have q2 : ∀ z y x w v, rI (wI (wI (wI (wI (wI m2 0 45 z) 0 46 y) 0 47 x) 0 48 w) 0 49 v) 0 14 = nI (A 6 1) := by
    intro z y x w v
    rw [rI_nj (by decide), rI_nj (by decide), rI_nj (by decide), rI_nj (by decide), rI_nj (by decide), f0, q0]
  refine ⟨nI (A 6 1), _, _, so_eq q, so_eq (q2 _ _ _ _ _), A, n, ?_, ?_, r3, r4, Or.inr ⟨rI_eq, A, ?_, ?_, r3, r4, ⟨Nat.le_refl _, Nat.le_refl _, fun i hi => rfl, fun i hi => rfl⟩⟩, ?_, ?_, ?_⟩
  · exact LC_fr (fun q h1 h2 => (row_ne (by omega)).trans (e2 q (by omega))) r1
  · refine LM_fr (fun q h1 h2 => ?_) (fun i hi => ?_) r2
    · refine Eq.trans ?_ (k1 q (by omega))
      repeat' first | exact rfl | refine row_c (by omega) ?_
    · rw [rI_nj (by omega), rI_nj (by omega), rI_nj (by omega), rI_nj (by omega), rI_nj (by omega), f0]
  · exact LC_fr (fun q h1 h2 => row_ne (by omega)) L9
  · obtain ⟨l1, l2, l3, l4, l5, l6, l7, l8, l9⟩ := r2
    refine ⟨?_, ?_, ?_, ?_, ?_, fun i hi => ?_, fun i hi => ?_⟩
    · simp [rI_w, f0, l1]
    · simp [rI_w, f0, l2]
    · simp [rI_w, f0, l3]
    · simp [rI_w, f0, l4]
    · simp [rI_w, f0, l5]
    · have q := k2 i (by omega)
      have q2 := l8 i hi
      simp [rI_w, q.1, q2.2]
    · have q := k2 i (by omega)
      have q2 := l9 i hi
      simp [rI_w, q.2.1, q.2.2.1, q.2.2.2, q2.2.1, q2.2.2.1, q2.2.2.2]
  · refine RT_fr ((rI_ne (by decide)).trans (r_row (e2 36 (by omega)) 1)) ((row_ne (by decide)).trans (e2 37 (by omega))) ?_ ?_ r6
    · rw [rI_nj (by decide), rI_nj (by decide), rI_nj (by decide), rI_nj (by decide), rI_nj (by decide), f0]
    · refine Eq.trans ?_ (k1 3 (by omega))
      repeat' first | exact rfl | refine row_c (by omega) ?_
  · refine RX_fr hX ((rI_nj (by decide)).trans (r_row (e2 0 (by omega)) 8)) ?_ (fun q h1 h2 h3 => (row_ne (by omega)).trans (e2 q (by omega))) ?_ ?_ r7
    · rw [rI_nj (by decide), rI_nj (by decide), rI_nj (by decide), rI_nj (by decide), rI_nj (by decide), f0]
    · refine Eq.trans ?_ (k1 1 (by omega))
      repeat' first | exact rfl | refine row_c (by omega) ?_
    · refine Eq.trans ?_ (k1 2 (by omega))
      repeat' first | exact rfl | refine row_c (by omega) ?_
  · refine RS_fr (fun q h1 h2 => (row_ne (by omega)).trans (e2 q (by omega))) (fun q h1 h2 => ?_) r8
    refine Eq.trans ?_ (k1 q (by omega))
    repeat' first | exact rfl | refine row_c (by omega) ?_
theorem back13 {F : Nat} (hF : 6 ≤ F) (m : MM) (K : Int32 → MM → Option (Int32 × MM)) : ∃ m2, ((∀ q, q ≠ 5 → q ≠ 7 → q ≠ 8 → q ≠ 9 → m2.1 q = m.1 q) ∧ ∀ j, j < 5 → rI m2 5 j = rI m 18 j ∧ rI m2 8 j = rI m 18 (5 + j) ∧ rI m2 7 j = rI m 18 (10 + j) ∧ rI m2 9 j = rI m 18 (15 + j)) ∧ f_X6_back_L13 K F 0 m = K 5 m2 := by
  obtain ⟨m2, ⟨h1, h2⟩, h4⟩ := loop_inv (fun n i m => f_X6_back_L13 K n i m) (fun m => K 5 m) 5 (fun i m1 => (∀ q, q ≠ 5 → q ≠ 7 → q ≠ 8 → q ≠ 9 → m1.1 q = m.1 q) ∧ (∀ j, j < i → rI m1 5 j = rI m 18 j ∧ rI m1 8 j = rI m 18 (5 + j) ∧ rI m1 7 j = rI m 18 (10 + j) ∧ rI m1 9 j = rI m 18 (15 + j))) (fun n m1 hI => by
    show f_X6_back_L13 K (n + 1) _ m1 = _
    unfold f_X6_back_L13
    rw [if_pos (by decide)]
    rfl) (fun i n m1 hi hI => by
    obtain ⟨i1, i2⟩ := hI
    have hx : ix (nI i) = i := ix_n (by omega)
    have f : ∀ j, rI m1 18 j = rI m 18 j := fun j => r_row (i1 18 (by decide) (by decide) (by decide) (by decide)) j
    refine ⟨wI (wI (wI (wI m1 5 i (rI m 18 i)) 8 i (rI m 18 (5 + i))) 7 i (rI m 18 (10 + i))) 9 i (rI m 18 (15 + i)), ⟨fun q h1 h2 h3 h4 => (row_ne h4).trans ((row_ne h2).trans ((row_ne h3).trans ((row_ne h1).trans (i1 q h1 h2 h3 h4)))), fun j hj => ?_⟩, ?_⟩
    · by_cases c : j = i
      · subst c
        simp [rI_w]
      · have q := i2 j (by omega)
        simpa [rI_w, c] using q
    · show f_X6_back_L13 K (n + 1) (nI i) m1 = _
      conv => lhs; unfold f_X6_back_L13
      have e5 : (5 : Int32) + nI i = nI (5 + i) := nI_add 5 i
      have e10 : (10 : Int32) + nI i = nI (10 + i) := nI_add 10 i
      have e15 : (15 : Int32) + nI i = nI (15 + i) := nI_add 15 i
      rw [if_neg (not5 hi), e5, e10, e15]
      simp only [Gu_of (inB_n hi (by decide : 5 ≤ 2 ^ 31)), Gu_of (inB_n (by omega : i < 20) (by decide : 20 ≤ 2 ^ 31)), Gu_of (inB_n (by omega : 5 + i < 20) (by decide : 20 ≤ 2 ^ 31)), Gu_of (inB_n (by omega : 10 + i < 20) (by decide : 20 ≤ 2 ^ 31)), Gu_of (inB_n (by omega : 15 + i < 20) (by decide : 20 ≤ 2 ^ 31)), Lt_d, hx, ix_n (show 5 + i < 2 ^ 31 by omega), ix_n (show 10 + i < 2 ^ 31 by omega), ix_n (show 15 + i < 2 ^ 31 by omega), n_s]
      rw [f i, rI_ne (by decide), f (5 + i), rI_ne (by decide), rI_ne (by decide), f (10 + i), rI_ne (by decide), rI_ne (by decide), rI_ne (by decide), f (15 + i)]) F m (by omega) ⟨fun q _ _ _ _ => rfl, fun j hj => absurd hj (Nat.not_lt_zero j)⟩
  exact ⟨m2, ⟨h1, h2⟩, h4⟩
theorem t_back {X : MM → MM → Nat → Prop} (hX : XF X) {F : Nat} (hF : 7 ≤ F) (mc mm : MM) (R : RelX X mc mm) : ∃ r mc2 mm2, f_X5_back mc = some (r, mc2) ∧ f_X6_back F mm = some (r, mm2) ∧ RelX X mc2 mm2 := by
  obtain ⟨A, n, r1, r2, r3, r4, r5, r6, r7, r8⟩ := id R
  unfold f_X5_back f_X6_back
  rcases id r5 with ⟨q1, q2⟩ | ⟨q1, K, L9, LK1, aK, kn, KA1⟩
  · rw [if_pos q1, if_pos q2]
    exact ⟨_, _, _, rfl, rfl, R⟩
  · obtain ⟨B, sy, my, h0, h6⟩ := id aK
    obtain ⟨b1, b2, b3, b4, b5, b6, b7, b8, b9⟩ := id B
    obtain ⟨v1, v2, v3, v4, v5, v6, v7⟩ := LK1
    rw [if_neg (by rw [q1]; decide), if_neg (by rw [v2]; exact n_ne1 (by omega))]
    obtain ⟨m1, e1, e2, e3, e4, e5⟩ := becC (k := 1) (k2 := 9) (by omega) mc
    obtain ⟨m2, ⟨k1, k2⟩, k3⟩ := back13 (F := F) (by omega) mm (fun x1_1 m2 => Lt (wI m2 0 14 (rI m2 0 45)) fun m9 => Lt (wI m9 0 9 (rI m9 0 46)) fun m10 => Lt (wI m10 0 15 (rI m10 0 47)) fun m11 => Lt (wI m11 0 16 (rI m11 0 48)) fun m12 => Lt (wI m12 0 4 (rI m12 0 49)) fun m13 => some (rI m13 0 14, m13))
    have L1 := LC_bec (k := 1) (k2 := 9) b1 b2 h0 e3 e4 e5 L9
    have f0 : ∀ i, rI m2 0 i = rI mm 0 i := fun i => r_row (k1 0 (by decide) (by decide) (by decide) (by decide)) i
    have f4 : ∀ i, rI m2 4 i = rI mm 4 i := fun i => r_row (k1 4 (by decide) (by decide) (by decide) (by decide)) i
    have f6 : ∀ i, rI m2 6 i = rI mm 6 i := fun i => r_row (k1 6 (by decide) (by decide) (by decide) (by decide)) i
    rw [e1, bd1_s, k3]
    simp only [Lt_d]
    have q2 : ∀ z y x w, rI (wI (wI (wI (wI (wI m2 0 14 (rI m2 0 45)) 0 9 z) 0 15 y) 0 16 x) 0 4 w) 0 14 = nI (K 6 1) := by
      intro z y x w
      rw [rI_nj (by decide), rI_nj (by decide), rI_nj (by decide), rI_nj (by decide), rI_eq, f0, v2]
    refine ⟨nI (K 6 1), _, _, so_eq L1.2.1, so_eq (q2 _ _ _ _), ?_⟩
    · refine RelX_now hX (A2 := K) (n := n) (fun q hq => e2 q (by omega)) (fun q hq1 hq2 => ?_) (fun i hi => ?_) L1 ?_ aK kn (Or.inr ⟨q1, K, L9, ⟨v1, v2, v3, v4, v5, v6, v7⟩, aK, kn, ⟨Nat.le_refl _, Nat.le_refl _, fun i hi => rfl, fun i hi => rfl⟩⟩) r6 r7 r8
      · refine Eq.trans ?_ (k1 q (by omega) (by omega) (by omega) (by omega))
        repeat' first | exact rfl | refine row_c (by omega) ?_
      · rw [rI_nj (by omega), rI_nj (by omega), rI_nj (by omega), rI_nj (by omega), rI_nj (by omega), f0]
      · obtain ⟨l1, l2, l3, l4, l5, l6, l7, l8, l9⟩ := r2
        obtain ⟨_, _, _, a0, a6⟩ := r3
        refine ⟨?_, ?_, ?_, ?_, ?_, ?_, ?_, fun i hi => ?_, fun i hi => ?_⟩
        · simp [rI_w, f0, v1]
        · simp [rI_w, f0, v2]
        · simp [rI_w, f0, v3]
        · simp [rI_w, f0, v4]
        · simp [rI_w, f0, v5]
        · rw [h0]; rw [a0] at l6; simpa [rI_w, f0] using l6
        · rw [h6]; rw [a6] at l7; simpa [rI_w, f0] using l7
        · have q := k2 i (by omega)
          have q2 := l8 i (by have := KA1.1; omega)
          have q3 := KA1.2.2.1 i hi
          have q4 := v6 i hi
          rw [q3]
          simp [rI_w, f4, q.1, q2.1, q4]
        · have q := k2 i (by omega)
          have q2 := l9 i (by have := KA1.2.1; omega)
          have q3 := KA1.2.2.2 i hi
          have q4 := v7 i hi
          rw [q3]
          simp [rI_w, f6, q.2.1, q.2.2.1, q.2.2.2, q2.1, q4.1, q4.2.1, q4.2.2]
theorem things_L {X : MM → MM → Nat → Prop} (hX : XF X) {F : Nat} (hF : 7 ≤ F) {s n0 n : Nat} {a2 : Int32} (hs : s < 4) (hn0 : n0 ≤ 40) (hn : n ≤ 5) : ∀ d k f (c : Int32) mc mm, k + d = n → d < f → RelX X mc mm → rI mc (64 + 2 * s) 2 = nI n0 → rI mm 21 s = nI n0 → (∀ j, j < n0 → rI mc (64 + 2 * s + 1) j = rI mm 22 (40 * s + j)) → ∃ r mc2 mm2, f_X5_things_L67 F (nI s) a2 (nI n) (fun x6_8 x7_9 m10 => some (x6_8, m10)) f c (nI k) mc = some (r, mc2) ∧ f_X6_things_L75 F (nI s) a2 (nI n) (fun x5_8 x6_9 m10 => some (x5_8, m10)) f c (nI k) mm = some (r, mm2) ∧ RelX X mc2 mm2 := by
  intro d
  induction d with
  | zero =>
    intro k f c mc mm hk hf R _ _ _
    obtain ⟨f, rfl⟩ : ∃ z, f = z + 1 := ⟨f - 1, by omega⟩
    have : k = n := by omega
    subst this
    unfold f_X5_things_L67 f_X6_things_L75
    rw [if_pos (Int32.le_refl _), if_pos (Int32.le_refl _)]
    exact ⟨_, _, _, rfl, rfl, R⟩
  | succ d ih =>
    intro k f c mc mm hk hf R h1 h2 h3
    obtain ⟨f, rfl⟩ : ∃ z, f = z + 1 := ⟨f - 1, by omega⟩
    have hx : ix (nI s) = s := ix_n (by omega)
    have g := inB_n hs (by decide : 4 ≤ 2 ^ 31)
    have e2k : (2 : Int32) * nI k = nI (2 * k) := n_mul 2 k
    have e2k2 : nI (2 * k) + 2 = nI (2 * k + 2) := nI_add (2 * k) 2
    have t0 : (0 : Int32).toInt = 0 := rfl
    have t2 : (2 : Int32).toInt = 2 := rfl
    have s1 : (nI n0 - nI (2 * k + 2)).toInt = (n0 : Int) - (2 * k + 2) := by
      rw [i_sub (by rw [nI_toInt (by omega), nI_toInt (by omega)]; omega) (by rw [nI_toInt (by omega), nI_toInt (by omega)]; omega), nI_toInt (by omega), nI_toInt (by omega)]
      omega
    have s2 : (nI n0 - nI (2 * k)).toInt = (n0 : Int) - 2 * k := by
      rw [i_sub (by rw [nI_toInt (by omega), nI_toInt (by omega)]; omega) (by rw [nI_toInt (by omega), nI_toInt (by omega)]; omega), nI_toInt (by omega), nI_toInt (by omega)]
      omega
    have s3 : (nI n0 - nI (2 * k) - 2).toInt = (n0 : Int) - 2 * k - 2 := by
      rw [i_sub (by rw [s2, t2]; omega) (by rw [s2, t2]; omega), s2, t2]
    unfold f_X5_things_L67 f_X6_things_L75 f_X2_hasPart
    have hnk : ¬ nI n ≤ nI k := by rw [n_le (by omega) (by omega)]; omega
    rw [if_neg hnk, if_neg hnk, hx, h1, h2, e2k, e2k2, Gu_of g]
    simp only [i_lt, i_le, t0, s1, s3, nI_toInt (show 2 * k + 2 < 2 ^ 31 by omega), nI_toInt (show n0 < 2 ^ 31 by omega)]
    by_cases c1 : a2.toInt < 0
    · rw [if_pos c1, if_pos c1, bd1_s, i_if]
      exact ⟨_, _, _, rfl, rfl, R⟩
    · rw [if_neg c1, if_neg c1, if_neg (show ¬ ((2 * k + 2 : Nat) : Int) < 0 by omega)]
      by_cases c2 : a2.toInt ≤ (n0 : Int) - 2 * k - 2
      · obtain ⟨b, hb, rfl⟩ := n_of (a := a2) (n := n0) (by omega) (by omega)
        rw [nI_toInt (by omega)] at c2
        rw [if_neg (by omega), if_neg (by rw [nI_toInt (by omega)]; omega), if_pos (by rw [nI_toInt (by omega)]; exact c2), bd1_s, i_el, show (40 : Int32) * nI s = nI (40 * s) from n_mul 40 s, nI_add, nI_add, nI_add, n_s, n_s, Gu_of (inB_n (by omega : b + 2 * k < 40) (by decide)), Gu_of (inB_n (by omega : b + 2 * k + 1 < 40) (by decide)), Lt_d, n_s, Gu_of (inB_n (by omega : 40 * s + b + 2 * k < 160) (by decide)), Gu_of (inB_n (by omega : 40 * s + b + 2 * k + 1 < 160) (by decide)), ix_n (by omega), ix_n (by omega), ix_n (by omega), ix_n (by omega)]
        have v1 := h3 (b + 2 * k) (by omega)
        have v2 := h3 (b + 2 * k + 1) (by omega)
        rw [show 40 * s + (b + 2 * k) = 40 * s + b + 2 * k by omega] at v1
        rw [show 40 * s + (b + 2 * k + 1) = 40 * s + b + 2 * k + 1 by omega] at v2
        rw [v1, v2]
        obtain ⟨r, mc2, mm2, p1, p2, p3, p4, p5⟩ := t_thing2 hX hF mc mm (rI mm 22 (40 * s + b + 2 * k)) (rI mm 22 (40 * s + b + 2 * k + 1)) R
        rw [p1, p2, bd2_s, bd2_s]
        have k1 : rI mc2 (64 + 2 * s) 2 = nI n0 := (r_row (p4 _ (by omega)) 2).trans h1
        have k2 : rI mm2 21 s = nI n0 := (r_row (p5 _ (by omega)) s).trans h2
        have k3 : ∀ j, j < n0 → rI mc2 (64 + 2 * s + 1) j = rI mm2 22 (40 * s + j) := fun j hj => ((r_row (p4 _ (by omega)) j).trans (h3 j hj)).trans (r_row (p5 _ (by omega)) _).symm
        simp only [Lt_d, Jp_d, n_s]
        by_cases c3 : r.toInt < 0
        · rw [if_pos c3, if_pos c3, Int32.add_zero]
          exact ih (k + 1) f c mc2 mm2 (by omega) (by omega) p3 k1 k2 k3
        · rw [if_neg c3, if_neg c3]
          exact ih (k + 1) f (c + 1) mc2 mm2 (by omega) (by omega) p3 k1 k2 k3
      · rw [if_neg c2]
        have e : (if (n0 : Int) < ((2 * k + 2 : Nat) : Int) then some (0 : Int32) else if (n0 : Int) - (2 * (k : Int) + 2) < a2.toInt then some 0 else some 1) = some 0 := by
          by_cases c4 : (n0 : Int) < ((2 * k + 2 : Nat) : Int)
          · rw [if_pos c4]
          · rw [if_neg c4, if_pos (by omega)]
        rw [e, bd1_s, i_if]
        exact ⟨_, _, _, rfl, rfl, R⟩
theorem t_things {X : MM → MM → Nat → Prop} (hX : XF X) {F : Nat} (hF : 7 ≤ F) (mc mm : MM) (a0 a1 a2 a3 : Int32) (R : RelX X mc mm) : ∃ r mc2 mm2, f_X5_things F a0 a1 a2 a3 mc = some (r, mc2) ∧ f_X6_things F a0 a1 a2 a3 mm = some (r, mm2) ∧ RelX X mc2 mm2 := by
  have r8 : RS mc mm := by
    obtain ⟨A, n, r1, r2, r3, r4, r5, r6, r7, r8⟩ := R
    exact r8
  unfold f_X5_things f_X6_things
  simp only [Jp_d]
  rcases a_cs a0 4 with ⟨s, hs, rfl⟩ | h
  · have hx : ix (nI s) = s := ix_n (by omega)
    have g := inB_n hs (by decide : 4 ≤ 2 ^ 31)
    rw [show (4 : Int32) = nI 4 from rfl, wi_t hs (by omega), shM hs, bd1_s, bd1_s, i_el, i_el]
    rcases a_cs a1 3 with ⟨so, hso, rfl⟩ | h
    · rw [show (3 : Int32) = nI 3 from rfl, wi_t hso (by omega), in_t hso (by omega) rfl, bd1_s, bd1_s, i_el, i_el]
      rcases a_cs a3 6 with ⟨n, hn, rfl⟩ | h
      · rw [in_t hn (by omega) rfl, bd1_s, i_el, if_neg (show ¬ nI n < 0 by rw [show (0 : Int32) = nI 0 from rfl, n_lt (by omega) (by omega)]; omega), if_pos (show nI n ≤ 5 by rw [show (5 : Int32) = nI 5 from rfl, n_le (by omega) (by omega)]; omega)]
        simp only [Gu_of g, hx]
        rw [isMC, bd1_s]
        rcases r8 s hs with ⟨q1, q2⟩ | ⟨so2, n2, q1, q2, q3, q4, q5, q6, q7, q8⟩
        · rw [q1, q2, if_pos rfl, i_el, i_if, i_if]
          exact ⟨_, _, _, rfl, rfl, R⟩
        · rw [q3, q4, q5, i_el, if_neg (n_ne1 (by omega)), i_if, i_el]
          simp only [n_eq (show so2 < 2 ^ 31 by omega) (show so < 2 ^ 31 by omega)]
          by_cases c : so2 = so
          · rw [if_pos c, if_pos c]
            exact things_L hX hF hs q2 (by omega) n 0 F 0 mc mm (by omega) (by omega) R q6 q7 q8
          · rw [if_neg c, if_neg c]
            exact ⟨_, _, _, rfl, rfl, R⟩
      · rw [in_f h rfl, bd1_s, i_if]
        have t0 : (0 : Int32).toInt = 0 := rfl
        have t5 : (5 : Int32).toInt = 5 := rfl
        simp only [i_lt, i_le, t0, t5]
        by_cases c : a3.toInt < 0
        · rw [if_pos c]
          exact ⟨_, _, _, rfl, rfl, R⟩
        · rw [if_neg c, if_neg (by omega)]
          exact ⟨_, _, _, rfl, rfl, R⟩
    · rw [show (3 : Int32) = nI 3 from rfl, wi_f h (by omega), in_f h rfl, bd1_s, bd1_s, i_if, i_if]
      exact ⟨_, _, _, rfl, rfl, R⟩
  · rw [show (4 : Int32) = nI 4 from rfl, wi_f h (by omega), shM0 h, bd1_s, bd1_s, i_if, i_if]
    exact ⟨_, _, _, rfl, rfl, R⟩
