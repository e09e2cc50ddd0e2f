/-! WHICH MOVES MAY BE; MOVE -/
def up (a : Nat → Nat) (t h : Nat) : Nat → Nat := fun i => if i = t then h else a i
theorem smP_in {p : Nat → Bool} {z : Nat → Nat} {t : Nat} : ∀ {n : Nat}, t < n → p t = true → smP p z n = smP (fun i => p i && !(i == t)) z n + z t
  | 0, h, _ => absurd h (Nat.not_lt_zero t)
  | n + 1, h, hp => by
    have e1 : smP p z (n + 1) = smP p z n + (if p n = true then z n else 0) := rfl
    have e2 : smP (fun i => p i && !(i == t)) z (n + 1) = smP (fun i => p i && !(i == t)) z n + (if (p n && !(n == t)) = true then z n else 0) := rfl
    rw [e1, e2]
    by_cases c : n = t
    · subst c
      have e3 : smP (fun i => p i && !(i == n)) z n = smP p z n := smP_cong (fun i hi => by
        have : (i == n) = false := by simpa using (by omega : ¬ i = n)
        rw [this]
        simp) (fun i hi _ => rfl)
      rw [e3, if_pos hp, if_neg (by simp)]
      rfl
    · rw [smP_in (n := n) (by omega) hp]
      have : (n == t) = false := by simpa using c
      rw [this]
      simp only [Bool.not_false, Bool.and_true]
      omega
theorem ctP_sm {p : Nat → Bool} : ∀ n : Nat, ctP p n = smP p (fun _ => 1) n
  | 0 => rfl
  | n + 1 => by
    show ctP p n + _ = smP p (fun _ => 1) n + _
    rw [ctP_sm n]
theorem ctP_in {p : Nat → Bool} {t n : Nat} (h : t < n) (hp : p t = true) : ctP p n = ctP (fun i => p i && !(i == t)) n + 1 := by
  rw [ctP_sm, ctP_sm, smP_in h hp]
theorem smP_mono {p q : Nat → Bool} {z : Nat → Nat} : ∀ {n : Nat}, (∀ i, i < n → p i = true → q i = true) → smP p z n ≤ smP q z n
  | 0, _ => Nat.le_refl _
  | n + 1, h => by
    have e1 : smP p z (n + 1) = smP p z n + (if p n = true then z n else 0) := rfl
    have e2 : smP q z (n + 1) = smP q z n + (if q n = true then z n else 0) := rfl
    have e3 := smP_mono (p := p) (q := q) (z := z) (n := n) (fun i hi => h i (by omega))
    rw [e1, e2]
    by_cases c : p n = true
    · rw [if_pos c, if_pos (h n (by omega) c)]
      omega
    · rw [if_neg c]
      omega
theorem ctP_mono {p q : Nat → Bool} {n : Nat} (h : ∀ i, i < n → p i = true → q i = true) : ctP p n ≤ ctP q n := by
  rw [ctP_sm, ctP_sm]
  exact smP_mono h
theorem mk_and0 {a : Nat} {q : Nat → Bool} {n : Nat} : a &&& mkP q n = 0 ↔ ∀ i, i < n → q i = true → a.testBit i = false := by
  constructor
  · intro h i hi hq
    have e : (a &&& mkP q n).testBit i = false := by rw [h, Nat.zero_testBit]
    rw [Nat.testBit_and, mkP_bit q hi, hq, Bool.and_true] at e
    exact e
  · intro h
    apply Nat.eq_of_testBit_eq
    intro i
    rw [Nat.zero_testBit, Nat.testBit_and]
    by_cases hi : i < n
    · rw [mkP_bit q hi]
      cases hq : q i with
      | false => rw [Bool.and_false]
      | true => rw [h i hi hq]; rfl
    · rw [Nat.testBit_lt_two_pow (Nat.lt_of_lt_of_le (mkP_lt q n) (Nat.pow_le_pow_right (by decide) (by omega) : 2 ^ n ≤ 2 ^ i)), Bool.and_false]
/-- who lies well: the others in his hold, and he -/
def u_q (A : LT) (a : Nat → Nat) (t h : Nat) : Nat → Bool := fun i => u_p A a h i && !(i == t)
theorem u_q_t {A : LT} {a : Nat → Nat} {t h i : Nat} : u_q A a t h i = true ↔ A 6 5 ≠ i + 1 ∧ a i = h ∧ i ≠ t := by
  unfold u_q
  rw [Bool.and_eq_true, p_iff]
  simp [and_assoc]
theorem bar_0 {A : LT} {a : Nat → Nat} {t h : Nat} : u_bar A a t h = 0 ↔ (A 2 t + smP (u_q A a t h) (A 2) (A 6 1) ≤ u_rm A h ∧ 1 + ctP (u_q A a t h) (A 6 1) ≤ u_mo (A 0 h) ∧ ¬ (A 3 t = 1 ∧ u_we (A 0 h) = 1) ∧ ∀ i, i < A 6 1 → A 6 5 ≠ i + 1 → a i = h → i ≠ t → (A 4 t).testBit i = false) := by
  have e : u_bar A a t h = u_rf (A 2 t + smP (u_q A a t h) (A 2) (A 6 1)) (1 + ctP (u_q A a t h) (A 6 1)) (u_rm A h) (A 0 h) (A 3 t) (A 4 t &&& mkP (u_q A a t h) (A 6 1)) := rfl
  rw [e, rf_0, mk_and0]
  constructor
  · rintro ⟨h1, h2, h3, h4⟩
    exact ⟨h1, h2, h3, fun i hi g1 g2 g3 => h4 i hi (u_q_t.mpr ⟨g1, g2, g3⟩)⟩
  · rintro ⟨h1, h2, h3, h4⟩
    exact ⟨h1, h2, h3, fun i hi hq => h4 i hi (u_q_t.mp hq).1 (u_q_t.mp hq).2.1 (u_q_t.mp hq).2.2⟩
theorem MAY_bar {A : LT} {a : Nat → Nat} (S : SY A) : MAY A a ↔ ∀ i, i < A 6 1 → a i < A 6 0 ∧ (A 6 5 ≠ i + 1 → u_bar A a i (a i) = 0) := by
  constructor
  · rintro ⟨m1, m2, m3, m4⟩ i hi
    refine ⟨m1 i hi, fun hg => bar_0.mpr ?_⟩
    have hp : u_p A a (a i) i = true := p_iff.mpr ⟨hg, rfl⟩
    have q := m2 (a i) (m1 i hi)
    rw [smP_in hi hp, ctP_in hi hp] at q
    have q1 : smP (u_q A a i (a i)) (A 2) (A 6 1) + A 2 i ≤ u_rm A (a i) := q.1
    have q2 : ctP (u_q A a i (a i)) (A 6 1) + 1 ≤ u_mo (A 0 (a i)) := q.2
    exact ⟨by omega, by omega, m3 i hi hg, fun j hj g1 g2 g3 => m4 i j hi hj hg g1 g2.symm⟩
  · intro h
    refine ⟨fun i hi => (h i hi).1, fun x hx => ?_, fun i hi hg => (bar_0.mp ((h i hi).2 hg)).2.2.1, fun i j hi hj g1 g2 he => ?_⟩
    · by_cases c : exP (u_p A a x) (A 6 1) = true
      · obtain ⟨i, hi, hp⟩ := exP_t.mp c
        obtain ⟨g1, rfl⟩ := p_iff.mp hp
        have q := bar_0.mp ((h i hi).2 g1)
        have q1 : A 2 i + smP (fun j => u_p A a (a i) j && !(j == i)) (A 2) (A 6 1) ≤ u_rm A (a i) := q.1
        have q2 : 1 + ctP (fun j => u_p A a (a i) j && !(j == i)) (A 6 1) ≤ u_mo (A 0 (a i)) := q.2.1
        rw [smP_in hi hp, ctP_in hi hp]
        omega
      · have hn : ∀ i, i < A 6 1 → u_p A a x i = false := fun i hi => by
          cases hq : u_p A a x i with
          | false => rfl
          | true => exact absurd (exP_t.mpr ⟨i, hi, hq⟩) c
        rw [smP_0 hn, ct_0.mpr hn]
        exact ⟨Nat.zero_le _, Nat.zero_le _⟩
    · by_cases c : j = i
      · subst c
        exact (S j j hi hi).2
      · exact (bar_0.mp ((h i hi).2 g1)).2.2.2 j hj g2 he.symm c
theorem MAY_up {A : LT} {a : Nat → Nat} {t h : Nat} (S : SY A) (ht : t < A 6 1) (hh : h < A 6 0) (hg : A 6 5 ≠ t + 1) (M : MAY A a) : MAY A (up a t h) ↔ u_bar A a t h = 0 := by
  have eq1 : ∀ i, u_q A (up a t h) t h i = u_q A a t h i := by
    intro i
    unfold u_q u_p up
    by_cases c : i = t
    · subst c; simp
    · simp [c]
  have et : up a t h t = h := if_pos rfl
  constructor
  · intro M2
    have q := ((MAY_bar S).mp M2 t ht).2 hg
    rw [et, bar_0] at q
    rw [bar_0]
    rw [smP_cong (w := A 2) (fun i _ => eq1 i) (fun i _ _ => rfl), ctP_cong (fun i _ => eq1 i)] at q
    refine ⟨q.1, q.2.1, q.2.2.1, fun i hi g1 g2 g3 => q.2.2.2 i hi g1 ?_ g3⟩
    unfold up
    rw [if_neg g3]
    exact g2
  · intro hb
    obtain ⟨c1, c2, c3, c4⟩ := bar_0.mp hb
    obtain ⟨m1, m2, m3, m4⟩ := M
    refine ⟨fun i hi => ?_, fun x hx => ?_, fun i hi g => ?_, fun i j hi hj g1 g2 he => ?_⟩
    · unfold up
      split
      · exact hh
      · exact m1 i hi
    · by_cases c : x = h
      · subst c
        have hp : u_p A (up a t x) x t = true := p_iff.mpr ⟨hg, et⟩
        rw [smP_in ht hp, ctP_in ht hp]
        show smP (u_q A (up a t x) t x) _ _ + _ ≤ _ ∧ ctP (u_q A (up a t x) t x) _ + 1 ≤ _
        rw [smP_cong (w := A 2) (fun i _ => eq1 i) (fun i _ _ => rfl), ctP_cong (fun i _ => eq1 i)]
        omega
      · have hm : ∀ i, i < A 6 1 → u_p A (up a t h) x i = true → u_p A a x i = true := by
          intro i hi hp
          obtain ⟨g1, g2⟩ := p_iff.mp hp
          refine p_iff.mpr ⟨g1, ?_⟩
          unfold up at g2
          by_cases ci : i = t
          · rw [if_pos ci] at g2
            exact absurd g2.symm c
          · rw [if_neg ci] at g2
            exact g2
        have q := m2 x hx
        exact ⟨Nat.le_trans (smP_mono hm) q.1, Nat.le_trans (ctP_mono hm) q.2⟩
    · unfold up
      by_cases ci : i = t
      · rw [if_pos ci, ci]
        exact c3
      · rw [if_neg ci]
        exact m3 i hi g
    · unfold up at he
      by_cases ci : i = t
      · rw [if_pos ci] at he
        by_cases cj : j = t
        · rw [ci, cj]
          exact (S t t ht ht).2
        · rw [if_neg cj] at he
          rw [ci]
          exact c4 j hj g2 he.symm cj
      · rw [if_neg ci] at he
        by_cases cj : j = t
        · rw [if_pos cj] at he
          rw [cj, (S i t hi ht).1]
          exact c4 i hi g1 he ci
        · rw [if_neg cj] at he
          exact m4 i j hi hj g1 g2 he
theorem MAY_cong {A : LT} {a b : Nat → Nat} (hb : ∀ i, i < A 6 1 → b i < A 6 0) (h : ∀ i, i < A 6 1 → A 6 5 ≠ i + 1 → a i = b i) (M : MAY A a) : MAY A b := by
  obtain ⟨m1, m2, m3, m4⟩ := M
  have hp : ∀ x i, i < A 6 1 → u_p A b x i = u_p A a x i := by
    intro x i hi
    by_cases c : A 6 5 = i + 1
    · unfold u_p
      rw [c]
      simp
    · exact u_p_cong rfl (h i hi c).symm
  refine ⟨hb, fun x hx => ?_, fun i hi hg => ?_, fun i j hi hj g1 g2 he => ?_⟩
  · rw [smP_cong (w := A 2) (fun i hi => hp x i hi) (fun i hi _ => rfl), ctP_cong (fun i hi => hp x i hi)]
    exact m2 x hx
  · rw [← h i hi hg]
    exact m3 i hi hg
  · rw [← h i hi g1, ← h j hj g2] at he
    exact m4 i j hi hj g1 g2 he
theorem open_cong {A : LT} {a b : Nat → Nat} (h : ∀ i, i < A 6 1 → A 6 5 ≠ i + 1 → a i = b i) (B : AB A) (hg : A 6 5 = 0 ∨ A 6 5 ≠ A 6 2) : u_open A a = u_open A b := by
  have hp : ∀ x i, i < A 6 1 → u_p A b x i = u_p A a x i := by
    intro x i hi
    by_cases c : A 6 5 = i + 1
    · unfold u_p
      rw [c]
      simp
    · exact u_p_cong rfl (h i hi c).symm
  have hf : u_free A a = u_free A b := by
    unfold u_free
    refine ctP_cong (fun x hx => ?_)
    rw [ctP_cong (fun i hi => hp x i hi)]
  have b3 := B.2.2.1
  unfold u_open
  rw [hf]
  by_cases c : A 6 2 = 0
  · simp [c]
  · rw [h (A 6 2 - 1) (by omega) (by omega)]
theorem sA_5 {A : LT} {a : Nat → Nat} : sA A a 5 = a := by
  funext i
  show (if 5 = 5 then a i else A 5 i) = a i
  rw [if_pos rfl]
theorem sA_r {A : LT} {a : Nat → Nat} {r : Nat} (h : r ≠ 5) : sA A a r = A r := by
  funext i
  show (if r = 5 then a i else A r i) = A r i
  rw [if_neg h]
theorem sA_self {A : LT} : sA A (A 5) = A := by
  funext r i
  show (if r = 5 then A 5 i else A r i) = A r i
  by_cases c : r = 5
  · rw [if_pos c, c]
  · rw [if_neg c]
theorem AB_s {A : LT} {a : Nat → Nat} (B : AB A) (h : ∀ i, i < A 6 1 → a i < A 6 0) : AB (sA A a) := by
  obtain ⟨b1, b2, b3, b4, b5, b6, b7, b8, b9⟩ := B
  exact ⟨b1, b2, b3, b4, b5, b6, b7, b8, fun i hi => ⟨(b9 i hi).1, (b9 i hi).2.1, (b9 i hi).2.2.1, (b9 i hi).2.2.2.1, h i hi⟩⟩
theorem AV_s {A : LT} {a : Nat → Nat} (V : AV A) (M : MAY A a) : AV (sA A a) := ⟨AB_s V.1 M.1, V.2.1, M, V.2.2.2.1, V.2.2.2.2⟩
theorem LC_s {m m2 : MM} {k : Nat} {A : LT} {a : Nat → Nat} (h : ∀ q, k ≤ q → q ≤ k + 6 → m2.1 q = m.1 q) (L : LC m k A) (hl : ∀ i, i < A 6 1 → rI m2 (k + 7) i = nI (a i)) : LC m2 k (sA A a) := by
  obtain ⟨l1, l2, l3, l4, l5, l6, l7, l8⟩ := L
  have e : ∀ q i, k ≤ q → q ≤ k + 6 → rI m2 q i = rI m q i := fun q i h1 h2 => r_row (h q h1 h2) i
  refine ⟨(e _ _ (by omega) (by omega)).trans l1, (e _ _ (by omega) (by omega)).trans l2, (e _ _ (by omega) (by omega)).trans l3, (e _ _ (by omega) (by omega)).trans l4, (e _ _ (by omega) (by omega)).trans l5, (e _ _ (by omega) (by omega)).trans l6, fun i hi => ?_, fun i hi => ?_⟩
  · have q := l7 i hi
    exact ⟨(e _ _ (by omega) (by omega)).trans q.1, (e _ _ (by omega) (by omega)).trans q.2.1, (e _ _ (by omega) (by omega)).trans q.2.2⟩
  · have q := l8 i hi
    exact ⟨(e _ _ (by omega) (by omega)).trans q.1, (e _ _ (by omega) (by omega)).trans q.2.1, (e _ _ (by omega) (by omega)).trans q.2.2.1, hl i hi⟩
theorem LM_s {m m2 : MM} {A : LT} {a : Nat → Nat} (h : ∀ q, 4 ≤ q → q ≤ 9 → q ≠ 8 → m2.1 q = m.1 q) (g : ∀ i, i = 4 ∨ i = 9 ∨ (14 ≤ i ∧ i ≤ 18) → rI m2 0 i = rI m 0 i) (L : LM m A) (hl : ∀ i, i < A 6 1 → rI m2 8 i = nI (a i)) : LM m2 (sA A a) := by
  obtain ⟨l1, l2, l3, l4, l5, l6, l7, l8, l9⟩ := L
  have e : ∀ q i, 4 ≤ q → q ≤ 9 → q ≠ 8 → rI m2 q i = rI m q i := fun q i h1 h2 h3 => r_row (h q h1 h2 h3) i
  refine ⟨(g _ (by omega)).trans l1, (g _ (by omega)).trans l2, (g _ (by omega)).trans l3, (g _ (by omega)).trans l4, (g _ (by omega)).trans l5, (g _ (by omega)).trans l6, (g _ (by omega)).trans l7, fun i hi => ?_, fun i hi => ?_⟩
  · have q := l8 i hi
    exact ⟨(e _ _ (by omega) (by omega) (by omega)).trans q.1, (e _ _ (by omega) (by omega) (by omega)).trans q.2⟩
  · have q := l9 i hi
    exact ⟨(e _ _ (by omega) (by omega) (by omega)).trans q.1, (e _ _ (by omega) (by omega) (by omega)).trans q.2.1, (e _ _ (by omega) (by omega) (by omega)).trans q.2.2.1, hl i hi⟩
theorem moveM {F : Nat} {P : Nat → (Nat → Int32) → Int32} {mm : MM} {A : LT} {t h : Nat} (hF : 7 ≤ F) (p0 : P0 P) (pm : PM F P mm (A 6 4)) (L : LM mm A) (B : AB A) (h0 : A 6 5 = 0) (ht : t < A 6 1) (hh : h < A 6 0) : (¬ (A 5 t ≠ h ∧ u_bar A (A 5) t h = 0) ∧ f_X6_move F (nI t) (nI h) mm = some (-3, mm)) ∨ ((A 5 t ≠ h ∧ u_bar A (A 5) t h = 0) ∧ ∃ mm1, FN mm mm1 ∧ f_X6_move F (nI t) (nI h) mm = some (nI (u_sa P A 0 t (A 5 t) h), wI mm1 8 t (nI h))) := by
  have b1 := B.1
  have b2 := B.2.1
  have hx : ix (nI t) = t := ix_n (by omega)
  have g := inB_n (by omega : t < 5) (by decide : 5 ≤ 2 ^ 31)
  unfold f_X6_move
  rw [htM L.2.1 b2 ht, bd1_s, i_el, hhM L.1 b1 hh, bd1_s, i_el, canGoM hF L B ht hh, bd1_s]
  by_cases c : A 5 t ≠ h ∧ u_bar A (A 5) t h = 0
  · refine Or.inr ⟨c, ?_⟩
    obtain ⟨mm2, k3, k4⟩ := saysM0 (f := A 5 t) p0 pm L B ht hh
    rw [show (if A 6 5 ≠ t + 1 ∧ A 5 t ≠ h ∧ u_bar A (A 5) t h = 0 then (1 : Int32) else 0) = 1 from if_pos ⟨by omega, c⟩, i_el, Gu_of g, hx, (L.2.2.2.2.2.2.2.2 t ht).2.2.2, k3, bd2_s, Gu_of g, Lt_d]
    exact ⟨mm2, k4, rfl⟩
  · refine Or.inl ⟨c, ?_⟩
    rw [show (if A 6 5 ≠ t + 1 ∧ A 5 t ≠ h ∧ u_bar A (A 5) t h = 0 then (1 : Int32) else 0) = 0 from if_neg (fun z => c z.2), i_if]
theorem t_move {F : Nat} (hF : 7 ≤ F) (mc mm : MM) (a0 a1 : Int32) (R : RelX (XT F) mc mm) : ∃ r mc2 mm2, f_X5_move F a0 a1 mc = some (r, mc2) ∧ f_X6_move F a0 a1 mm = some (r, mm2) ∧ RelX (XT F) mc2 mm2 := by
  obtain ⟨A, n, r1, r2, r3, r4, r5, r6, r7, r8⟩ := id R
  have B := r3.1
  obtain ⟨b1, b2, b3, b4, b5, b6, b7, b8, b9⟩ := id B
  have h0 := r3.2.2.2.1
  obtain ⟨hi, P, p0, pc, pm⟩ := r7.2.2.2 (A 6 4) r4
  rcases a_cs a0 (A 6 1) with ⟨t, ht, rfl⟩ | h
  · rcases a_cs a1 (A 6 0) with ⟨h, hh, rfl⟩ | h
    · have hx : ix (nI t) = t := ix_n (by omega)
      have g := inB_n (by omega : t < 5) (by decide : 5 ≤ 2 ^ 31)
      have hu := u_bar_lt (A := A) (a := A 5) (t := t) (h := h)
      unfold f_X5_move
      rw [htC r1.2.1 b2 ht, bd1_s, i_el, hhC r1.1 b1 hh, bd1_s, i_el, refC (by omega) r1 B h0 ht hh, bd1_s]
      rcases moveM hF p0 pm r2 B h0 ht hh with ⟨c, k⟩ | ⟨c, mm1, k1, k2⟩
      · rw [k]
        have e : ¬ (if A 5 t = h then (1 : Int32) else nI (u_bar A (A 5) t h)) = 0 := by
          by_cases c1 : A 5 t = h
          · rw [if_pos c1]; exact h10
          · rw [if_neg c1, n_z (by omega)]
            exact fun z => c ⟨c1, z⟩
        rw [if_neg e]
        exact ⟨_, _, _, rfl, rfl, R⟩
      · rw [k2, if_neg c.1, c.2, if_pos (show nI 0 = 0 from rfl), Gu_of g, hx]
        obtain ⟨mc1, k3, k4⟩ := costsC (f := A 5 t) p0 pc r1 B ht hh
        have e5 : rI mc 8 t = nI (A 5 t) := (r1.2.2.2.2.2.2.2 t ht).2.2.2
        rw [e5, k3, bd2_s, Gu_of g, Lt_d]
        refine ⟨_, _, _, rfl, rfl, ?_⟩
        have M2 := (MAY_up r3.2.1 ht hh (by omega) r3.2.2.1).mpr c.2
        have R2 := Rel_fr (XF_T F) (KC_fc k4) (KM_fn k1) R
        obtain ⟨A2, n2, q1, q2, q3, q4, q5, q6, q7, q8⟩ := R2
        have L1 : LC mc1 1 A := LC_fr (fun q h1 h2 => k4 q (by omega) (by omega)) r1
        have L2 : LM mm1 A := LM_fn k1 r2
        refine RelX_now (XF_T F) (A2 := sA A (up (A 5) t h)) (n := n) (mc := mc1) (mm := mm1) (fun q hq => row_ne (by omega)) (fun q hq1 hq2 => row_ne (by omega)) (fun i hi => rI_ne (by decide)) ?_ ?_ (AV_s r3 M2) r4 ?_ ?_ ?_ ?_
        · refine LC_s (m := mc1) (fun q h1 h2 => row_ne (by omega)) L1 (fun i hi => ?_)
          unfold up
          by_cases ci : i = t
          · rw [ci, rI_eq, if_pos rfl]
          · rw [rI_nj ci, if_neg ci]
            exact (L1.2.2.2.2.2.2.2 i hi).2.2.2
        · refine LM_s (m := mm1) (fun q h1 h2 h3 => row_ne (by omega)) (fun i hi => rI_ne (by decide)) L2 (fun i hi => ?_)
          unfold up
          by_cases ci : i = t
          · rw [ci, rI_eq, if_pos rfl]
          · rw [rI_nj ci, if_neg ci]
            exact (L2.2.2.2.2.2.2.2.2 i hi).2.2.2
        · exact RK_fr (r_row (k4 0 (by omega) (by omega)) 9) (fun q h1 h2 => k4 q (by omega) (by omega)) (k1.1 18 (by omega)) (fun i hi => k1.2 i (by omega)) (RK_up (Nat.le_refl _) (fun K hK => hK) r5)
        · exact RT_fr (r_row (k4 36 (by omega) (by omega)) 1) (k4 37 (by omega) (by omega)) (k1.2 6 (by omega)) (k1.1 3 (by omega)) r6
        · exact RX_fr (XF_T F) (r_row (k4 0 (by omega) (by omega)) 8) (k1.2 3 (by omega)) (fun q h1 h2 h3 => k4 q (by omega) (by omega)) (k1.1 1 (by omega)) (k1.1 2 (by omega)) r7
        · exact RS_fr (fun q h1 h2 => k4 q (by omega) (by omega)) (fun q h1 h2 => k1.1 q (by omega)) r8
    · unfold f_X5_move f_X6_move
      rw [htC r1.2.1 b2 ht, htM r2.2.1 b2 ht, bd1_s, bd1_s, i_el, i_el, hhC0 r1.1 b1 h, hhM0 r2.1 b1 h, bd1_s, bd1_s, i_if, i_if]
      exact ⟨_, _, _, rfl, rfl, R⟩
  · unfold f_X5_move f_X6_move
    rw [htC0 r1.2.1 b2 h, htM0 r2.2.1 b2 h, bd1_s, bd1_s, i_if, i_if]
    exact ⟨_, _, _, rfl, rfl, R⟩
