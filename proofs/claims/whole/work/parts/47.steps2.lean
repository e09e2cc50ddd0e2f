/-! HOLD, TOLD, WHY, OPEN, TAKEN -/
theorem bz1 : bz 1 = true := rfl
theorem bz0 : bz 0 = true := rfl
theorem hhC {m : MM} {k h H : Nat} (L : rI m k 7 = nI H) (h5 : H ≤ 5) (hh : h < H) : f_X0_hasHold k (nI h) m = some 1 := by
  unfold f_X0_hasHold
  rw [L, wi_t hh (by omega), bd1_s, Gu_of bz1]
theorem hhC0 {m : MM} {k H : Nat} {a : Int32} (L : rI m k 7 = nI H) (h5 : H ≤ 5) (hh : ¬ (0 ≤ a.toInt ∧ a.toInt < H)) : f_X0_hasHold k a m = some 0 := by
  unfold f_X0_hasHold
  rw [L, wi_f hh (by omega), bd1_s, Gu_of bz0]
theorem htC {m : MM} {k t T : Nat} (L : rI m k 8 = nI T) (h5 : T ≤ 5) (hh : t < T) : f_X0_hasThing k (nI t) m = some 1 := by
  unfold f_X0_hasThing
  rw [L, wi_t hh (by omega), bd1_s, Gu_of bz1]
theorem htC0 {m : MM} {k T : Nat} {a : Int32} (L : rI m k 8 = nI T) (h5 : T ≤ 5) (hh : ¬ (0 ≤ a.toInt ∧ a.toInt < T)) : f_X0_hasThing k a m = some 0 := by
  unfold f_X0_hasThing
  rw [L, wi_f hh (by omega), bd1_s, Gu_of bz0]
theorem hhM {m : MM} {h H : Nat} (L : rI m 0 9 = nI H) (h5 : H ≤ 5) (hh : h < H) : f_X6_isHold (nI h) m = some 1 := by
  unfold f_X6_isHold
  rw [L, in_t hh (by omega) (hi_n (by omega)), bd1_s, Gu_of bz1]
theorem hhM0 {m : MM} {H : Nat} {a : Int32} (L : rI m 0 9 = nI H) (h5 : H ≤ 5) (hh : ¬ (0 ≤ a.toInt ∧ a.toInt < H)) : f_X6_isHold a m = some 0 := by
  unfold f_X6_isHold
  rw [L, in_f hh (hi_n (by omega)), bd1_s, Gu_of bz0]
theorem htM {m : MM} {t T : Nat} (L : rI m 0 14 = nI T) (h5 : T ≤ 5) (hh : t < T) : f_X6_isThing (nI t) m = some 1 := by
  unfold f_X6_isThing
  rw [L, in_t hh (by omega) (hi_n (by omega)), bd1_s, Gu_of bz1]
theorem htM0 {m : MM} {T : Nat} {a : Int32} (L : rI m 0 14 = nI T) (h5 : T ≤ 5) (hh : ¬ (0 ≤ a.toInt ∧ a.toInt < T)) : f_X6_isThing a m = some 0 := by
  unfold f_X6_isThing
  rw [L, in_f hh (hi_n (by omega)), bd1_s, Gu_of bz0]
theorem p_not {A : LT} {a : Nat → Nat} {h t : Nat} (hn : a t ≠ h) : (fun i => u_p A a h i && !(i == t)) = u_p A a h := by
  funext i
  by_cases e : i = t
  · subst e
    have : u_p A a h i = false := by
      unfold u_p
      have : (a i == h) = false := by simpa using hn
      rw [this, Bool.and_false]
    rw [this]
    rfl
  · have : (i == t) = false := by simpa using e
    rw [this]
    cases u_p A a h i <;> rfl
theorem refC {m : MM} {A : LT} {k t h F : Nat} (hF : 6 ≤ F) (L : LC m k A) (B : AB A) (h0 : A 6 5 = 0) (ht : t < A 6 1) (hh : h < A 6 0) : f_X0_refusal F k (nI t) (nI h) m = some (if A 5 t = h then 1 else nI (u_bar A (A 5) t h)) := by
  obtain ⟨b1, b2, b3, b4, b5, b6, b7, b8, b9⟩ := id B
  have hb := b9 t ht
  have hl := L.2.2.2.2.2.2.2
  have hk := L.2.2.2.2.2.2.1 h hh
  have h32 : A 4 t < 32 := Nat.lt_of_lt_of_le hb.2.2.2.1 (Nat.pow_le_pow_right (by decide) b2 : 2 ^ A 6 1 ≤ 2 ^ 5)
  have hr := u_rm_lt (A := A) (h := h) (b8 h hh).2
  rw [refusal_C (p := u_p A (A 5) h) (z := A 2) hF L.2.1 b2 (by omega) (by omega) (fun i hi => ?_) (fun i hi _ => (hl i hi).1) (fun i hi => (b9 i hi).2.1) (hl t ht).1 hb.2.1 hk.2.2 (by omega) hk.1 (b8 h hh).1 (hl t ht).2.2.1 h32 (hl t ht).2.1 hb.2.2.1, (hl t ht).2.2.2]
  · simp only [n_eq (show A 5 t < 2 ^ 31 by omega) (show h < 2 ^ 31 by omega)]
    by_cases c : A 5 t = h
    · rw [if_pos c, if_pos c]
    · rw [if_neg c, if_neg c]
      unfold u_bar
      rw [p_not c]
  · have := (b9 i hi).2.2.2.2
    rw [p_iff, (hl i hi).2.2.2, n_eq (by omega) (by omega), h0]
    exact ⟨fun z => z.2, fun z => ⟨by omega, z⟩⟩
theorem t_why {X : MM → MM → Nat → Prop} {F : Nat} (hF : 7 ≤ F) (mc mm : MM) (a0 a1 : Int32) (R : RelX X mc mm) : ∃ r, f_X5_why F a0 a1 mc = some r ∧ f_X6_why F a0 a1 mm = some r ∧ RelX X mc mm := by
  obtain ⟨A, n, r1, r2, r3, r4, r5, r6, r7, r8⟩ := id R
  have B := r3.1
  obtain ⟨b1, b2, b3, b4, b5, b6, b7, b8, b9⟩ := id B
  unfold f_X5_why f_X6_why
  rcases a_cs a0 (A 6 1) with ⟨t, ht, rfl⟩ | h
  · rw [htC r1.2.1 b2 ht, htM r2.2.1 b2 ht, bd1_s, bd1_s, i_el, i_el]
    rcases a_cs a1 (A 6 0) with ⟨h, hh, rfl⟩ | h
    · rw [hhC r1.1 b1 hh, hhM r2.1 b1 hh, bd1_s, bd1_s, i_el, i_el, refC (by omega) r1 B r3.2.2.2.1 ht hh, bd1_s, Gu_of (inB_n (by omega : t < 5) (by decide)), ix_n (by omega), (r2.2.2.2.2.2.2.2.2 t ht).2.2.2, barsThingM hF r2 B ht hh, bd1_s]
      have := (b9 t ht).2.2.2.2
      simp only [n_eq (show A 5 t < 2 ^ 31 by omega) (show h < 2 ^ 31 by omega)]
      by_cases c : A 5 t = h
      · rw [if_pos c, if_pos c]
        exact ⟨_, rfl, rfl, R⟩
      · rw [if_neg c, if_neg c]
        exact ⟨_, rfl, rfl, R⟩
    · rw [hhC0 r1.1 b1 h, hhM0 r2.1 b1 h, bd1_s, bd1_s, i_if, i_if]
      exact ⟨_, rfl, rfl, R⟩
  · rw [htC0 r1.2.1 b2 h, htM0 r2.2.1 b2 h, bd1_s, bd1_s, i_if, i_if]
    exact ⟨_, rfl, rfl, R⟩
/-- how many moves can be: of thing t, of the first n things -/
def u_mv (A : LT) (t h : Nat) : Bool := decide (A 5 t ≠ h ∧ u_bar A (A 5) t h = 0)
def u_mvs (A : LT) : Nat → Nat
  | 0 => 0
  | t + 1 => u_mvs A t + ctP (u_mv A t) (A 6 0)
theorem u_bar_lt {A : LT} {a : Nat → Nat} {t h : Nat} : u_bar A a t h < 6 := by
  unfold u_bar u_rf
  repeat' split
  all_goals omega
theorem mvC {m : MM} {A : LT} {k F : Nat} (hF : 7 ≤ F) (L : LC m k A) (B : AB A) (h0 : A 6 5 = 0) : f_X0_movesThatCanBe F k m = some (nI (u_mvs A (A 6 1))) := by
  obtain ⟨b1, b2, b3, b4, b5, b6, b7, b8, b9⟩ := id B
  unfold f_X0_movesThatCanBe
  refine loop_up (fun n s i => f_X0_movesThatCanBe_L4 F k m (fun x1_1 x2_2 => some x1_1) n s i) _ (A 6 1) (fun t => nI (u_mvs A t)) (fun n => ?_) (fun t n ht => ?_) F (by omega)
  · show f_X0_movesThatCanBe_L4 F k m _ (n + 1) _ _ = _
    unfold f_X0_movesThatCanBe_L4
    rw [L.2.1, if_pos (Int32.le_refl _)]
  · show f_X0_movesThatCanBe_L4 F k m _ (n + 1) _ _ = _
    conv => lhs; unfold f_X0_movesThatCanBe_L4
    rw [L.2.1, if_neg (n_head (n := 0) b2 ht)]
    refine loop_up (fun n s i => f_X0_movesThatCanBe_L14 F k m (nI t) _ n s i) _ (A 6 0) (fun h => nI (u_mvs A t + ctP (u_mv A t) h)) (fun n => ?_) (fun h n hh => ?_) F (by omega)
    · show f_X0_movesThatCanBe_L14 F k m _ _ (n + 1) _ _ = _
      unfold f_X0_movesThatCanBe_L14
      rw [L.1, if_pos (Int32.le_refl _), Lt_d, n_s]
      rfl
    · show f_X0_movesThatCanBe_L14 F k m _ _ (n + 1) _ _ = _
      conv => lhs; unfold f_X0_movesThatCanBe_L14
      have hu := u_bar_lt (A := A) (a := A 5) (t := t) (h := h)
      rw [L.1, if_neg (n_head (n := 0) b1 hh), refC (by omega) L B h0 ht hh, bd1_s]
      simp only [Lt_d]
      have hv : u_mv A t h = decide (A 5 t ≠ h ∧ u_bar A (A 5) t h = 0) := rfl
      have hc := ctP_s (u_mv A t) h
      by_cases c : A 5 t = h
      · rw [if_neg (by rw [hv]; simp [c])] at hc
        rw [hc, if_pos c, if_neg h10]
        simp only [n_s] <;> rfl
      · rw [if_neg c]
        by_cases c2 : u_bar A (A 5) t h = 0
        · rw [if_pos (by rw [hv]; simp [c, c2])] at hc
          rw [hc, if_pos ((n_z (by omega)).mpr c2)]
          simp only [n_s] <;> rfl
        · rw [if_neg (by rw [hv]; simp [c2])] at hc
          rw [hc, if_neg (by rw [n_z (by omega)]; exact c2)]
          simp only [n_s] <;> rfl
theorem n_p0 {a : Nat} : nI a + 0 = nI a := nI_add a 0
theorem mvM {m : MM} {A : LT} {F : Nat} (hF : 7 ≤ F) (L : LM m A) (B : AB A) (h0 : A 6 5 = 0) (K : Int32 → Int32 → Option Int32) : f_X6_open_L84 F m K F 0 0 = K (nI (u_mvs A (A 6 1))) (nI (A 6 1)) := by
  obtain ⟨b1, b2, b3, b4, b5, b6, b7, b8, b9⟩ := id B
  refine loop_up (fun n s i => f_X6_open_L84 F m K n s i) _ (A 6 1) (fun t => nI (u_mvs A t)) (fun n => ?_) (fun t n ht => ?_) F (by omega)
  · show f_X6_open_L84 F m _ (n + 1) _ _ = _
    unfold f_X6_open_L84
    rw [L.2.1, if_pos (Int32.le_refl _)]
  · show f_X6_open_L84 F m _ (n + 1) _ _ = _
    conv => lhs; unfold f_X6_open_L84
    rw [L.2.1, if_neg (n_head (n := 0) b2 ht)]
    refine loop_up (fun n s i => f_X6_open_L95 F m (nI t) _ n s i) _ (A 6 0) (fun h => nI (u_mvs A t + ctP (u_mv A t) h)) (fun n => ?_) (fun h n hh => ?_) F (by omega)
    · show f_X6_open_L95 F m _ _ (n + 1) _ _ = _
      unfold f_X6_open_L95
      rw [L.1, if_pos (Int32.le_refl _), Lt_d, n_s]
      rfl
    · show f_X6_open_L95 F m _ _ (n + 1) _ _ = _
      conv => lhs; unfold f_X6_open_L95
      have hu := u_bar_lt (A := A) (a := A 5) (t := t) (h := h)
      rw [L.1, if_neg (n_head (n := 0) b1 hh), canGoM hF L B ht hh, bd1_s]
      simp only [Lt_d, Jp_d]
      have hv : u_mv A t h = decide (A 5 t ≠ h ∧ u_bar A (A 5) t h = 0) := rfl
      have hc := ctP_s (u_mv A t) h
      by_cases c : A 5 t ≠ h ∧ u_bar A (A 5) t h = 0
      · rw [if_pos (by rw [hv]; exact decide_eq_true c)] at hc
        rw [hc, if_pos (show A 6 5 ≠ t + 1 ∧ A 5 t ≠ h ∧ u_bar A (A 5) t h = 0 from ⟨by omega, c⟩), if_neg h10]
        simp only [n_s] <;> rfl
      · rw [if_neg (by rw [hv]; simpa using c)] at hc
        rw [hc, if_neg (show ¬ (A 6 5 ≠ t + 1 ∧ A 5 t ≠ h ∧ u_bar A (A 5) t h = 0) from fun z => c z.2), i_if]
        simp only [n_s, n_p0] <;> rfl
theorem t_open {X : MM → MM → Nat → Prop} {F : Nat} (hF : 7 ≤ F) (mc mm : MM) (a0 : Int32) (R : RelX X mc mm) : ∃ r, f_X5_open F a0 mc = some r ∧ f_X6_open F a0 mm = some r ∧ RelX X mc mm := by
  obtain ⟨A, n, r1, r2, r3, r4, r5, r6, r7, r8⟩ := id R
  have B := r3.1
  have h0 := r3.2.2.2.1
  have hli := LI_of r1 h0
  have hla : ∀ i, i < A 6 1 → A 6 5 ≠ i + 1 → A 5 i < A 6 0 := fun i hi _ => (B.2.2.2.2.2.2.2.2 i hi).2.2.2.2
  unfold f_X5_open f_X6_open
  rcases a_cs a0 3 with ⟨k, hk, rfl⟩ | h
  · rw [in_t hk (by omega) rfl, bd1_s, i_el]
    rcases (show k = 0 ∨ k = 1 ∨ k = 2 by omega) with rfl | rfl | rfl
    · refine ⟨if (if u_open A (A 5) = true then (1 : Int32) else 0) = 0 then 0 else 1, ?_, ?_, R⟩
      · show (bd1 (f_X0_isOpen F 1 mc) fun r2 => if r2 = 0 then some 0 else some 1) = _
        rw [isOpenC (by omega) (HO_of r1) B hli hla (Or.inl h0), bd1_s]
        split <;> split <;> simp_all
      · show (bd1 (f_X6_isOpen F mm) fun r2 => if r2 = 0 then some 0 else some 1) = _
        rw [isOpenM hF r2 B (Or.inl h0), bd1_s]
        split <;> split <;> simp_all
    · refine ⟨nI (u_free A (A 5)), ?_, ?_, R⟩
      · show (bd1 (f_X0_freeHands F 1 mc) fun r5 => some r5) = _
        rw [freeC (by omega) (HO_of r1) B hli (fun i hi hq => Nat.lt_of_lt_of_le (hla i hi hq) B.1), bd1_s]
      · show (f_X6_open_L41 F mm (fun x2_5 x3_6 => some x2_5) F 0 0) = _
        rw [open41 hF r2 B]
    · refine ⟨nI (u_mvs A (A 6 1)), ?_, ?_, R⟩
      · show (bd1 (f_X0_movesThatCanBe F 1 mc) fun r8 => some r8) = _
        rw [mvC hF r1 B h0, bd1_s]
      · show (f_X6_open_L84 F mm (fun x2_17 x3_18 => some x2_17) F 0 0) = _
        rw [mvM hF r2 B h0]
  · rw [in_f h rfl, bd1_s, i_if]
    have e : ∀ k, k < 3 → ¬ a0 = nI k := fun k hk z => h (by rw [z, nI_toInt (by omega)]; omega)
    rw [if_neg (show ¬ a0 = 0 from e 0 (by decide)), if_neg (show ¬ a0 = 1 from e 1 (by decide)), if_neg (show ¬ a0 = 2 from e 2 (by decide))]
    exact ⟨_, rfl, rfl, R⟩
