/-! STATES AS NUMBERS; the component looks -/
def dg (b c t : Nat) : Nat := c / b ^ t % b
def enc (b : Nat) (a : Nat → Nat) : Nat → Nat
  | 0 => 0
  | n + 1 => enc b a n + a n * b ^ n
theorem dg_lt {b c t : Nat} (hb : 0 < b) : dg b c t < b := Nat.mod_lt _ hb
theorem pw_pos {b n : Nat} (hb : 0 < b) : 0 < b ^ n := Nat.pow_pos hb
theorem dg_low {b s h t i : Nat} (hb : 0 < b) (hi : i < t) : dg b (s + h * b ^ t) i = dg b s i := by
  unfold dg
  obtain ⟨k, rfl⟩ : ∃ k, t = i + 1 + k := ⟨t - i - 1, by omega⟩
  have e : h * b ^ (i + 1 + k) = b ^ i * (b * (h * b ^ k)) := by
    rw [Nat.pow_add, Nat.pow_succ]
    ac_rfl
  rw [e, Nat.add_mul_div_left _ _ (pw_pos hb), Nat.add_mul_mod_self_left]
theorem dg_top {b s h t : Nat} (hs : s < b ^ t) (hh : h < b) : dg b (s + h * b ^ t) t = h := by
  unfold dg
  rw [Nat.add_mul_div_right _ _ (by omega), Nat.div_eq_of_lt hs, Nat.zero_add, Nat.mod_eq_of_lt hh]
theorem enc_cong {b : Nat} {a c : Nat → Nat} : ∀ {n : Nat}, (∀ i, i < n → a i = c i) → enc b a n = enc b c n
  | 0, _ => rfl
  | n + 1, h => by
    unfold enc
    rw [enc_cong (fun i hi => h i (by omega)), h n (by omega)]
theorem enc_lt {b : Nat} {a : Nat → Nat} : ∀ {n : Nat}, (∀ i, i < n → a i < b) → enc b a n < b ^ n
  | 0, _ => Nat.zero_lt_one
  | n + 1, h => by
    unfold enc
    have h1 := enc_lt (n := n) (fun i hi => h i (by omega))
    have h2 := h n (by omega)
    rw [Nat.pow_succ]
    have h3 : a n * b ^ n ≤ (b - 1) * b ^ n := Nat.mul_le_mul_right _ (by omega)
    have h4 : (b - 1) * b ^ n + b ^ n = b ^ n * b := by
      rw [← Nat.succ_mul, Nat.mul_comm, show (b - 1).succ = b by omega]
    omega
theorem enc_dg {b : Nat} {a : Nat → Nat} (hb : 0 < b) : ∀ {n i : Nat}, (∀ i, i < n → a i < b) → i < n → dg b (enc b a n) i = a i
  | 0, i, _, h => absurd h (Nat.not_lt_zero i)
  | n + 1, i, h, hi => by
    unfold enc
    by_cases c : i = n
    · subst c
      exact dg_top (enc_lt (fun j hj => h j (by omega))) (h i (by omega))
    · rw [dg_low hb (by omega)]
      exact enc_dg hb (fun j hj => h j (by omega)) (by omega)
theorem dg_enc {b c : Nat} : ∀ n : Nat, enc b (dg b c) n = c % b ^ n
  | 0 => by
    show 0 = c % 1
    omega
  | n + 1 => by
    show enc b (dg b c) n + dg b c n * b ^ n = _
    rw [dg_enc n, Nat.mod_pow_succ, Nat.mul_comm]
    rfl
theorem dg_enc' {b c n : Nat} (h : c < b ^ n) : enc b (dg b c) n = c := by rw [dg_enc, Nat.mod_eq_of_lt h]
theorem dg_ext {b c d n : Nat} (hc : c < b ^ n) (hd : d < b ^ n) (h : ∀ i, i < n → dg b c i = dg b d i) : c = d := by
  rw [← dg_enc' hc, ← dg_enc' hd]
  exact enc_cong h
theorem enc_up {b : Nat} {a : Nat → Nat} {t h : Nat} : ∀ {n : Nat}, t < n → enc b (up a t h) n + a t * b ^ t = enc b a n + h * b ^ t
  | 0, hn => absurd hn (Nat.not_lt_zero t)
  | n + 1, hn => by
    show enc b (up a t h) n + up a t h n * b ^ n + a t * b ^ t = enc b a n + a n * b ^ n + h * b ^ t
    rw [up_at]
    by_cases c : n = t
    · subst c
      rw [if_pos rfl, enc_cong (c := a) (fun i hi => by rw [up_at, if_neg (by omega)])]
      omega
    · rw [if_neg c]
      have := enc_up (b := b) (a := a) (h := h) (n := n) (t := t) (by omega)
      omega
theorem pw_le {H t : Nat} (h1 : H ≤ 5) (h2 : t ≤ 5) : H ^ t ≤ 3125 := Nat.le_trans (Nat.pow_le_pow_left h1 t) (Nat.pow_le_pow_right (by decide) h2 : 5 ^ t ≤ 5 ^ 5)
/-- well, of the first n things -/
def MYn (A : LT) (n : Nat) (a : Nat → Nat) : Prop := (∀ i, i < n → a i < A 6 0) ∧ (∀ h, h < A 6 0 → smP (u_p A a h) (A 2) n ≤ u_rm A h ∧ ctP (u_p A a h) n ≤ u_mo (A 0 h)) ∧ (∀ i, i < n → A 6 5 ≠ i + 1 → ¬ (A 3 i = 1 ∧ u_we (A 0 (a i)) = 1)) ∧ (∀ i j, i < n → j < n → A 6 5 ≠ i + 1 → A 6 5 ≠ j + 1 → a i = a j → (A 4 i).testBit j = false)
theorem MYn_T {A : LT} {a : Nat → Nat} : MYn A (A 6 1) a ↔ MAY A a := Iff.rfl
theorem smP_s {p : Nat → Bool} {z : Nat → Nat} {n : Nat} : smP p z (n + 1) = smP p z n + (if p n = true then z n else 0) := rfl
theorem smP_up {p : Nat → Bool} {z : Nat → Nat} {n m : Nat} (h : n ≤ m) : smP p z n ≤ smP p z m := by
  induction m with
  | zero => rw [show n = 0 by omega]; exact Nat.le_refl _
  | succ m ih =>
    by_cases c : n = m + 1
    · rw [c]; exact Nat.le_refl _
    · rw [smP_s]
      have := ih (by omega)
      omega
theorem MYn_dn {A : LT} {a : Nat → Nat} {n m : Nat} (h : n ≤ m) (M : MYn A m a) : MYn A n a := by
  obtain ⟨m1, m2, m3, m4⟩ := M
  refine ⟨fun i hi => m1 i (by omega), fun x hx => ⟨Nat.le_trans (smP_up h) (m2 x hx).1, ?_⟩, fun i hi => m3 i (by omega), fun i j hi hj => m4 i j (by omega) (by omega)⟩
  have := (m2 x hx).2
  rw [ctP_sm] at this ⊢
  exact Nat.le_trans (smP_up h) this
theorem MYn_cong {A : LT} {a b : Nat → Nat} {n : Nat} (h : ∀ i, i < n → a i = b i) (M : MYn A n a) : MYn A n b := by
  obtain ⟨m1, m2, m3, m4⟩ := M
  have hp : ∀ x i, i < n → u_p A b x i = u_p A a x i := fun x i hi => u_p_cong rfl (h i hi).symm
  refine ⟨fun i hi => by rw [← h i hi]; exact m1 i hi, fun x hx => ?_, fun i hi hg => ?_, fun i j hi hj g1 g2 he => ?_⟩
  · rw [smP_cong (w := A 2) (fun i hi => hp x i hi) (fun i hi _ => rfl), ctP_cong (fun i hi => hp x i hi)]
    exact m2 x hx
  · rw [← h i hi]
    exact m3 i hi hg
  · rw [← h i hi, ← h j hj] at he
    exact m4 i j hi hj g1 g2 he
/-- one thing more -/
def EXT (A : LT) (a : Nat → Nat) (t h : Nat) : Prop := A 2 t + smP (u_p A a h) (A 2) t ≤ u_rm A h ∧ 1 + ctP (u_p A a h) t ≤ u_mo (A 0 h) ∧ ¬ (A 3 t = 1 ∧ u_we (A 0 h) = 1) ∧ ∀ i, i < t → A 6 5 ≠ i + 1 → a i = h → (A 4 t).testBit i = false
theorem MYn_s {A : LT} {a : Nat → Nat} {t : Nat} (S : SY A) (ht : t < A 6 1) (hg : A 6 5 ≠ t + 1) : MYn A (t + 1) a ↔ MYn A t a ∧ a t < A 6 0 ∧ EXT A a t (a t) := by
  have hp : u_p A a (a t) t = true := p_iff.mpr ⟨hg, rfl⟩
  constructor
  · intro M
    refine ⟨MYn_dn (by omega) M, M.1 t (by omega), ?_⟩
    obtain ⟨m1, m2, m3, m4⟩ := M
    have q := m2 (a t) (m1 t (by omega))
    rw [smP_s, if_pos hp, ctP_s, if_pos hp] at q
    exact ⟨by omega, by omega, m3 t (by omega) hg, fun i hi g1 g2 => m4 t i (by omega) (by omega) hg g1 g2.symm⟩
  · rintro ⟨⟨m1, m2, m3, m4⟩, hl, c1, c2, c3, c4⟩
    refine ⟨fun i hi => ?_, fun x hx => ?_, fun i hi g => ?_, fun i j hi hj g1 g2 he => ?_⟩
    · by_cases c : i = t
      · rw [c]; exact hl
      · exact m1 i (by omega)
    · have q := m2 x hx
      rw [smP_s, ctP_s]
      by_cases c : u_p A a x t = true
      · have cx := (p_iff.mp c).2
        rw [← cx] at q ⊢
        rw [if_pos hp, if_pos hp]
        omega
      · rw [if_neg c, if_neg c]
        omega
    · by_cases c : i = t
      · rw [c]; exact c3
      · exact m3 i (by omega) g
    · by_cases ci : i = t
      · by_cases cj : j = t
        · rw [ci, cj]; exact (S t t ht ht).2
        · rw [ci]
          rw [ci] at he
          exact c4 j (by omega) g2 he.symm
      · by_cases cj : j = t
        · rw [cj, (S i t (by omega) ht).1]
          rw [cj] at he
          exact c4 i (by omega) g1 he
        · exact m4 i j (by omega) (by omega) g1 g2 he
theorem MYn_g {A : LT} {a : Nat → Nat} {t : Nat} (hg : A 6 5 = t + 1) : MYn A (t + 1) a ↔ MYn A t a ∧ a t < A 6 0 := by
  have hp : ∀ x, ¬ u_p A a x t = true := fun x z => (p_iff.mp z).1 hg
  constructor
  · intro M
    exact ⟨MYn_dn (by omega) M, M.1 t (by omega)⟩
  · rintro ⟨⟨m1, m2, m3, m4⟩, hl⟩
    refine ⟨fun i hi => ?_, fun x hx => ?_, fun i hi g => ?_, fun i j hi hj g1 g2 he => ?_⟩
    · by_cases c : i = t
      · rw [c]; exact hl
      · exact m1 i (by omega)
    · rw [smP_s, ctP_s, if_neg (hp x), if_neg (hp x)]
      exact m2 x hx
    · exact m3 i (by omega) g
    · exact m4 i j (by omega) (by omega) g1 g2 he
theorem smP_hi {p : Nat → Bool} {z : Nat → Nat} : ∀ {n m : Nat}, n ≤ m → (∀ i, n ≤ i → i < m → p i = false) → smP p z m = smP p z n
  | n, 0, h, _ => by rw [show n = 0 by omega]
  | n, m + 1, h, g => by
    by_cases e : n = m + 1
    · rw [e]
    · rw [smP_s, smP_hi (n := n) (m := m) (by omega) (fun i h1 h2 => g i h1 (by omega)), g m (by omega) (by omega)]
      rfl
/-- the states of a lot in thought, as the component counts them -/
noncomputable def u_val (A : LT) (s : Nat) : Bool := @decide (MAY A (dg (A 6 0) s) ∧ (A 6 5 ≠ 0 → dg (A 6 0) s (A 6 5 - 1) = 0)) (Classical.propDecidable _)
theorem val_t {A : LT} {s : Nat} : u_val A s = true ↔ (MAY A (dg (A 6 0) s) ∧ (A 6 5 ≠ 0 → dg (A 6 0) s (A 6 5 - 1) = 0)) := @decide_eq_true_iff _ (Classical.propDecidable _)
noncomputable def u_mk (A : LT) (s : Nat) : Nat := if u_val A s = true then (if u_open A (dg (A 6 0) s) = true then 2 else 1) else 0
theorem lay_sp {F : Nat} {A : LT} (hF : 50 ≤ F) (B : AB A) (S : SY A) (hgk : A 6 5 = 0 ∨ A 6 5 ≠ A 6 2) : ∀ k t d s m, t + k = A 6 1 → k < d → s < (A 6 0) ^ t → MYn A t (dg (A 6 0) s) → (A 6 5 ≠ 0 → A 6 5 ≤ t → dg (A 6 0) s (A 6 5 - 1) = 0) → HO m 17 A → rI m 17 12 = nI (A 6 5) - 1 → rI m 25 10 = 17 → (∀ i, i < A 6 1 → rI m 32 i = nI ((A 6 0) ^ i)) → (∀ i, i < A 6 1 → rI m 24 i = if i < t ∧ A 6 5 ≠ i + 1 then nI (dg (A 6 0) s i) else -1) → (0 < A 6 0 ∨ A 6 1 = 0) → ∃ m', f_X1_layD F d (nI t) (nI s) m = some m' ∧ (∀ q, q ≠ 24 → q ≠ 26 → m'.1 q = m.1 q) ∧ (∀ i, i < A 6 1 → rI m' 24 i = rI m 24 i) ∧ ∀ c, c < (A 6 0) ^ (A 6 1) → rI m' 26 c = if c % (A 6 0) ^ t = s ∧ u_val A c = true then nI (u_mk A c) else rI m 26 c := by
  have b1 := B.1
  have b2 := B.2.1
  have b6 := B.2.2.2.2.2.1
  have b8 := B.2.2.2.2.2.2.2.1
  have b9 := B.2.2.2.2.2.2.2.2
  have all : ∀ k t d s m, t + k = A 6 1 → k < d → s < (A 6 0) ^ t → MYn A t (dg (A 6 0) s) → (A 6 5 ≠ 0 → A 6 5 ≤ t → dg (A 6 0) s (A 6 5 - 1) = 0) → HO m 17 A → rI m 17 12 = nI (A 6 5) - 1 → rI m 25 10 = 17 → (∀ i, i < A 6 1 → rI m 32 i = nI ((A 6 0) ^ i)) → (∀ i, i < A 6 1 → rI m 24 i = if i < t ∧ A 6 5 ≠ i + 1 then nI (dg (A 6 0) s i) else -1) → (0 < A 6 0 ∨ A 6 1 = 0) → ∃ m', f_X1_layD F d (nI t) (nI s) m = some m' ∧ (∀ q, q ≠ 24 → q ≠ 26 → m'.1 q = m.1 q) ∧ (∀ i, i < A 6 1 → rI m' 24 i = rI m 24 i) ∧ ∀ c, c < (A 6 0) ^ (A 6 1) → rI m' 26 c = if c % (A 6 0) ^ t = s ∧ u_val A c = true then nI (u_mk A c) else rI m 26 c := by
    intro k
    induction k with
    | zero =>
      intro t d s m hk hd hs M hg0 L h12 h25 h32 h24 hH
      obtain ⟨d, rfl⟩ : ∃ k, d = k + 1 := ⟨d - 1, by omega⟩
      have tT : t = A 6 1 := by omega
      subst tT
      have g17 : (rI m 25 10 == 17) = true := by rw [h25]; rfl
      have hsl : s < 3125 := Nat.lt_of_lt_of_le hs (pw_le b1 b2)
      have hli : LI m 17 (A 6 1) (fun i => !(A 6 5 == i + 1)) (dg (A 6 0) s) := by
        intro i hi
        show rI m 24 i = _
        rw [h24 i hi]
        by_cases c : A 6 5 = i + 1
        · rw [if_neg (fun z => z.2 c), if_neg (by simp [c])]
        · rw [if_pos ⟨hi, c⟩, if_pos (by simp [c])]
      have eo := isOpenC (F := F) (by omega) L B hli (fun i hi _ => M.1 i hi) hgk
      have vs : u_val A s = true := val_t.mpr ⟨M, fun h => hg0 h b6⟩
      have ev : u_mk A s = if u_open A (dg (A 6 0) s) = true then 2 else 1 := if_pos vs
      refine ⟨wI m 26 s (nI (u_mk A s)), ?_, fun q h1 h2 => row_ne h2, fun i hi => rI_ne (by decide), fun c hc => ?_⟩
      · unfold f_X1_layD fb_X1_lay
        rw [Gu_of g17, L.2.1, if_neg (by rw [n_lt (by omega) (by omega)]; omega), Gu_of g17, eo, bd1_s]
        simp only [Jp_d, Lt_d, Gu_of (inB_n hsl (by decide : 3125 ≤ 2 ^ 31))]
        rw [ix_n (by omega), ev]
        by_cases c : u_open A (dg (A 6 0) s) = true
        · rw [if_pos c, if_neg h10, if_pos c]
          rfl
        · rw [if_neg c, i_if, if_neg c]
          rfl
      · rw [rI_w]
        by_cases cc : c = s
        · subst cc
          rw [if_pos ⟨rfl, rfl⟩, if_pos ⟨Nat.mod_eq_of_lt hs, vs⟩]
        · rw [if_neg (fun z => cc z.2), if_neg (fun z => cc (by rw [← z.1, Nat.mod_eq_of_lt hc]))]
    | succ k ih =>
      intro t d s m hk hd hs M hg0 L h12 h25 h32 h24 hH
      obtain ⟨d, rfl⟩ : ∃ k, d = k + 1 := ⟨d - 1, by omega⟩
      have ht : t < A 6 1 := by omega
      have hH0 : 0 < A 6 0 := by omega
      have g17 : (rI m 25 10 == 17) = true := by rw [h25]; rfl
      have hsl : s < 3125 := Nat.lt_of_lt_of_le hs (pw_le b1 (by omega))
      by_cases cg : A 6 5 = t + 1
      · have hs2 : s < (A 6 0) ^ (t + 1) := Nat.lt_of_lt_of_le hs (Nat.pow_le_pow_right hH0 (by omega))
        have d0 : dg (A 6 0) s t = 0 := by
          unfold dg
          rw [Nat.div_eq_of_lt hs]
          exact Nat.zero_mod _
        obtain ⟨m', e1, e2, e3, e4⟩ := ih (t + 1) d s m (by omega) (by omega) hs2 ((MYn_g cg).mpr ⟨M, by rw [d0]; exact hH0⟩) (fun _ _ => by rw [cg]; exact d0) L h12 h25 h32 (fun i hi => by
          rw [h24 i hi]
          by_cases c : i = t
          · subst c
            rw [if_neg (by omega), if_neg (fun z => z.2 cg)]
          · by_cases c2 : i < t ∧ A 6 5 ≠ i + 1
            · rw [if_pos c2, if_pos ⟨by omega, c2.2⟩]
            · rw [if_neg c2, if_neg (fun z => c2 ⟨by omega, z.2⟩)]) hH
        refine ⟨m', ?_, e2, e3, fun c hc => ?_⟩
        · unfold f_X1_layD fb_X1_lay
          rw [Gu_of g17, L.2.1, if_pos (by rw [n_lt (by omega) (by omega)]; omega), Gu_of g17, h12, if_pos (by rw [g_eq (by omega) (by omega)]; exact cg), n_s, e1, bd1_s]
        · rw [e4 c hc]
          by_cases cv : u_val A c = true
          · have cz := (val_t.mp cv).2 (by omega)
            rw [cg, Nat.add_sub_cancel] at cz
            have : c % (A 6 0) ^ (t + 1) = c % (A 6 0) ^ t := by
              rw [Nat.mod_pow_succ]
              have : c / A 6 0 ^ t % A 6 0 = 0 := cz
              rw [this]
              omega
            rw [this]
          · rw [if_neg (fun z => cv z.2), if_neg (fun z => cv z.2)]
      · have h24t : rI m 24 t = -1 := by rw [h24 t ht, if_neg (by omega)]
        have loop := loop_inv (fun n i m => f_X1_lay_L55 F (nI t) (nI s) (f_X1_layD F d) (fun x3_3 m4 => some m4) n i m) (fun m => some m) (A 6 0) (fun x m1 => (∀ q, q ≠ 24 → q ≠ 26 → m1.1 q = m.1 q) ∧ (∀ i, i < A 6 1 → rI m1 24 i = rI m 24 i) ∧ ∀ c, c < (A 6 0) ^ (A 6 1) → rI m1 26 c = if (c % (A 6 0) ^ t = s ∧ dg (A 6 0) c t < x) ∧ u_val A c = true then nI (u_mk A c) else rI m 26 c) (fun n m1 hI => by
          have g17' : (rI m1 25 10 == 17) = true := by rw [r_row (hI.1 25 (by decide) (by decide)), h25]; rfl
          have l7 : rI m1 17 7 = nI (A 6 0) := (r_row (hI.1 17 (by decide) (by decide)) 7).trans L.1
          show f_X1_lay_L55 F (nI t) (nI s) (f_X1_layD F d) (fun x3_3 m4 => some m4) (n + 1) _ m1 = _
          unfold f_X1_lay_L55
          rw [Gu_of g17', l7, if_pos (Int32.le_refl _)]) (fun h n m1 hh hI => by
          obtain ⟨i1, i2, i3⟩ := hI
          have fr : ∀ q i, q ≠ 24 → q ≠ 26 → rI m1 q i = rI m q i := fun q i h1 h2 => r_row (i1 q h1 h2) i
          have g17' : (rI m1 25 10 == 17) = true := by rw [fr 25 10 (by decide) (by decide), h25]; rfl
          have l7 : rI m1 17 7 = nI (A 6 0) := (fr 17 7 (by decide) (by decide)).trans L.1
          have bh := b8 h hh
          have bt := b9 t ht
          have h32' : A 4 t < 32 := Nat.lt_of_lt_of_le bt.2.2.2.1 (Nat.pow_le_pow_right (by decide) b2 : 2 ^ A 6 1 ≤ 2 ^ 5)
          have hr := u_rm_lt (A := A) (h := h) bh.2
          have hi5 : inB (nI t) 5 = true := inB_n (by omega) (by decide)
          have hxt : ix (nI t) = t := ix_n (by omega)
          have eR := refusal_C (m := m1) (k := 17) (T := A 6 1) (t := t) (h := h) (F := F) (p := fun i => decide (i < t) && u_p A (dg (A 6 0) s) h i) (z := A 2) (rm := u_rm A h) (kd := A 0 h) (dr := A 3 t) (ap := A 4 t) (by omega) ((fr 17 8 (by decide) (by decide)).trans L.2.1) b2 (by omega) (by omega) (fun i hi => by
            show _ ↔ rI m1 24 i = nI h
            rw [i2 i hi, h24 i hi]
            have bl : i < t → dg (A 6 0) s i < A 6 0 := fun _ => dg_lt hH0
            simp only [Bool.and_eq_true, decide_eq_true_eq, p_iff]
            by_cases c : i < t ∧ A 6 5 ≠ i + 1
            · have := bl c.1
              rw [if_pos c, n_eq (by omega) (by omega)]
              exact ⟨fun z => z.2.2, fun z => ⟨c.1, c.2, z⟩⟩
            · rw [if_neg c]
              exact ⟨fun z => absurd ⟨z.1, z.2.1⟩ c, fun z => absurd z.symm (n_ne1 (by omega))⟩) (fun i hi _ => (fr 21 i (by decide) (by decide)).trans (L.2.2.2.2.2 i hi).1) (fun i hi => (b9 i hi).2.1) ((fr 21 t (by decide) (by decide)).trans (L.2.2.2.2.2 t ht).1) bt.2.1 ((fr 20 h (by decide) (by decide)).trans (L.2.2.2.2.1 h hh).2) (by omega) ((fr 18 h (by decide) (by decide)).trans (L.2.2.2.2.1 h hh).1) bh.1 ((fr 23 t (by decide) (by decide)).trans (L.2.2.2.2.2 t ht).2.2) h32' ((fr 22 t (by decide) (by decide)).trans (L.2.2.2.2.2 t ht).2.1) bt.2.2.1
          have e24 : rI m1 (17 + 7) t = -1 := (i2 t ht).trans h24t
          rw [e24, if_neg (fun z => n_ne1 (show h < 2 ^ 31 by omega) z.symm)] at eR
          have pf : ∀ i, t ≤ i → i < A 6 1 → (decide (i < t) && u_p A (dg (A 6 0) s) h i) = false := fun i h1 _ => by
            rw [decide_eq_false (by omega)]
            rfl
          have pt : ∀ i, i < t → (decide (i < t) && u_p A (dg (A 6 0) s) h i) = u_p A (dg (A 6 0) s) h i := fun i h1 => by
            rw [decide_eq_true h1]
            rfl
          have hu := rf_6 (su := A 2 t + smP (fun i => decide (i < t) && u_p A (dg (A 6 0) s) h i) (A 2) (A 6 1)) (ct := 1 + ctP (fun i => decide (i < t) && u_p A (dg (A 6 0) s) h i) (A 6 1)) (rm := u_rm A h) (kd := A 0 h) (dr := A 3 t) (bits := A 4 t &&& mkP (fun i => decide (i < t) && u_p A (dg (A 6 0) s) h i) (A 6 1))
          have eX : u_rf (A 2 t + smP (fun i => decide (i < t) && u_p A (dg (A 6 0) s) h i) (A 2) (A 6 1)) (1 + ctP (fun i => decide (i < t) && u_p A (dg (A 6 0) s) h i) (A 6 1)) (u_rm A h) (A 0 h) (A 3 t) (A 4 t &&& mkP (fun i => decide (i < t) && u_p A (dg (A 6 0) s) h i) (A 6 1)) = 0 ↔ EXT A (dg (A 6 0) s) t h := by
            rw [rf_0, mk_and0, smP_hi (by omega) pf, ct_hi (by omega) pf, smP_cong (w := A 2) (fun i hi => pt i hi) (fun i hi _ => rfl), ctP_cong (fun i hi => pt i hi)]
            unfold EXT
            constructor
            · rintro ⟨h1, h2, h3, h4⟩
              exact ⟨h1, h2, h3, fun i hi g1 g2 => h4 i (by omega) (by rw [decide_eq_true hi, p_iff.mpr ⟨g1, g2⟩]; rfl)⟩
            · rintro ⟨h1, h2, h3, h4⟩
              refine ⟨h1, h2, h3, fun i hi hp => ?_⟩
              simp only [Bool.and_eq_true, decide_eq_true_eq, p_iff] at hp
              exact h4 i hp.1 hp.2.1 hp.2.2
          -- digits of the longer number
          have dlow : ∀ i, i < t → dg (A 6 0) (s + h * (A 6 0) ^ t) i = dg (A 6 0) s i := fun i hi => dg_low hH0 hi
          have dtop : dg (A 6 0) (s + h * (A 6 0) ^ t) t = h := dg_top hs hh
          have upc : ∀ x i, i < t → u_p A (dg (A 6 0) (s + h * (A 6 0) ^ t)) x i = u_p A (dg (A 6 0) s) x i := fun x i hi => u_p_cong rfl (dlow i hi)
          have eE : EXT A (dg (A 6 0) (s + h * (A 6 0) ^ t)) t h ↔ EXT A (dg (A 6 0) s) t h := by
            unfold EXT
            rw [smP_cong (w := A 2) (fun i hi => upc h i hi) (fun i hi _ => rfl), ctP_cong (fun i hi => upc h i hi)]
            refine and_congr Iff.rfl (and_congr Iff.rfl (and_congr Iff.rfl ⟨fun q i hi g1 g2 => q i hi g1 (by rw [dlow i hi]; exact g2), fun q i hi g1 g2 => q i hi g1 (by rw [← dlow i hi]; exact g2)⟩))
          have hs2 : s + h * (A 6 0) ^ t < (A 6 0) ^ (t + 1) := by
            rw [Nat.pow_succ]
            have h3 : h * A 6 0 ^ t ≤ (A 6 0 - 1) * A 6 0 ^ t := Nat.mul_le_mul_right _ (by omega)
            have h4 : (A 6 0 - 1) * A 6 0 ^ t + A 6 0 ^ t = A 6 0 ^ t * A 6 0 := by
              rw [← Nat.succ_mul, Nat.mul_comm, show (A 6 0 - 1).succ = A 6 0 by omega]
            omega
          have hpw := pw_le b1 (show t + 1 ≤ 5 by omega)
          have hm : ∀ c, c % (A 6 0) ^ (t + 1) = s + h * (A 6 0) ^ t ↔ (c % (A 6 0) ^ t = s ∧ dg (A 6 0) c t = h) := by
            intro c
            rw [Nat.mod_pow_succ]
            have hlt : c % A 6 0 ^ t < A 6 0 ^ t := Nat.mod_lt _ (pw_pos hH0)
            constructor
            · intro z
              have z1 : (c % A 6 0 ^ t + A 6 0 ^ t * (c / A 6 0 ^ t % A 6 0)) % A 6 0 ^ t = (s + h * A 6 0 ^ t) % A 6 0 ^ t := by rw [z]
              rw [Nat.add_mul_mod_self_left, Nat.add_mul_mod_self_right, Nat.mod_mod, Nat.mod_eq_of_lt hs] at z1
              have z2 : (c % A 6 0 ^ t + A 6 0 ^ t * (c / A 6 0 ^ t % A 6 0)) / A 6 0 ^ t = (s + h * A 6 0 ^ t) / A 6 0 ^ t := by rw [z]
              rw [Nat.add_mul_div_left _ _ (pw_pos hH0), Nat.add_mul_div_right _ _ (pw_pos hH0), Nat.div_eq_of_lt hlt, Nat.div_eq_of_lt hs, Nat.zero_add, Nat.zero_add] at z2
              exact ⟨z1, z2⟩
            · rintro ⟨z1, z2⟩
              have z3 : c / A 6 0 ^ t % A 6 0 = h := z2
              rw [z1, z3, Nat.mul_comm]
          have e32 : rI m1 32 t = nI ((A 6 0) ^ t) := (fr 32 t (by decide) (by decide)).trans (h32 t ht)
          have nle : ¬ nI (A 6 0) ≤ nI h := by rw [n_le (by omega) (by omega)]; omega
          by_cases ce : EXT A (dg (A 6 0) s) t h
          · have M2 : MYn A (t + 1) (dg (A 6 0) (s + h * (A 6 0) ^ t)) := (MYn_s S ht cg).mpr ⟨MYn_cong (fun i hi => (dlow i hi).symm) M, by rw [dtop]; exact hh, by rw [dtop]; exact eE.mpr ce⟩
            obtain ⟨m', e1, e2, e3, e4⟩ := ih (t + 1) d (s + h * (A 6 0) ^ t) (wI m1 24 t (nI h)) (by omega) (by omega) hs2 M2 (fun h1 h2 => by
              rw [dlow _ (by omega)]
              exact hg0 h1 (by omega)) ⟨(rI_ne (by decide)).trans l7, (rI_ne (by decide)).trans ((fr 17 8 (by decide) (by decide)).trans L.2.1), (rI_ne (by decide)).trans ((fr 17 9 (by decide) (by decide)).trans L.2.2.1), (rI_ne (by decide)).trans ((fr 17 10 (by decide) (by decide)).trans L.2.2.2.1), fun i hi => ⟨(rI_ne (by decide)).trans ((fr 18 i (by decide) (by decide)).trans (L.2.2.2.2.1 i hi).1), (rI_ne (by decide)).trans ((fr 20 i (by decide) (by decide)).trans (L.2.2.2.2.1 i hi).2)⟩, fun i hi => ⟨(rI_ne (by decide)).trans ((fr 21 i (by decide) (by decide)).trans (L.2.2.2.2.2 i hi).1), (rI_ne (by decide)).trans ((fr 22 i (by decide) (by decide)).trans (L.2.2.2.2.2 i hi).2.1), (rI_ne (by decide)).trans ((fr 23 i (by decide) (by decide)).trans (L.2.2.2.2.2 i hi).2.2)⟩⟩ ((rI_ne (by decide)).trans ((fr 17 12 (by decide) (by decide)).trans h12)) ((rI_ne (by decide)).trans ((fr 25 10 (by decide) (by decide)).trans h25)) (fun i hi => (rI_ne (by decide)).trans ((fr 32 i (by decide) (by decide)).trans (h32 i hi))) (fun i hi => by
              rw [rI_w]
              by_cases c : i = t
              · subst c
                rw [if_pos ⟨rfl, rfl⟩, if_pos ⟨by omega, cg⟩, dtop]
              · rw [if_neg (fun z => c z.2), i2 i hi, h24 i hi]
                by_cases c2 : i < t ∧ A 6 5 ≠ i + 1
                · rw [if_pos c2, if_pos ⟨by omega, c2.2⟩, dlow i c2.1]
                · rw [if_neg c2, if_neg (fun z => c2 ⟨by omega, z.2⟩)]) hH
            have g17b : (rI (wI m1 24 t (nI h)) 25 10 == 17) = true := by rw [rI_ne (by decide)]; exact g17'
            have g17c : (rI m' 25 10 == 17) = true := by rw [r_row (e2 25 (by decide) (by decide)), rI_ne (by decide)]; exact g17'
            have e32b : rI (wI m1 24 t (nI h)) 32 t = nI ((A 6 0) ^ t) := (rI_ne (by decide)).trans e32
            refine ⟨wI m' 24 t (-1), ⟨fun q h1 h2 => (row_ne h1).trans ((e2 q h1 h2).trans ((row_ne h1).trans (i1 q h1 h2))), fun i hi => ?_, fun c hc => ?_⟩, ?_⟩
            · rw [rI_w]
              by_cases c : i = t
              · subst c
                rw [if_pos ⟨rfl, rfl⟩, h24t]
              · rw [if_neg (fun z => c z.2), e3 i hi, rI_nj c]
                exact i2 i hi
            · rw [rI_ne (by decide), e4 c hc, rI_ne (by decide), i3 c hc]
              by_cases cv : u_val A c = true
              · simp only [cv, and_true, hm c]
                by_cases c1 : c % A 6 0 ^ t = s
                · by_cases c2 : dg (A 6 0) c t = h
                  · rw [if_pos ⟨c1, c2⟩, if_pos ⟨c1, by omega⟩]
                  · rw [if_neg (fun z => c2 z.2)]
                    by_cases c3 : dg (A 6 0) c t < h
                    · rw [if_pos ⟨c1, c3⟩, if_pos ⟨c1, by omega⟩]
                    · rw [if_neg (fun z => c3 z.2), if_neg (fun z => absurd z.2 (by omega))]
                · rw [if_neg (fun z => c1 z.1), if_neg (fun z => c1 z.1), if_neg (fun z => c1 z.1)]
              · rw [if_neg (fun z => cv z.2), if_neg (fun z => cv z.2), if_neg (fun z => cv z.2)]
            · show f_X1_lay_L55 F (nI t) (nI s) (f_X1_layD F d) (fun x3_3 m4 => some m4) (n + 1) (nI h) m1 = _
              conv => lhs; unfold f_X1_lay_L55
              rw [Gu_of g17', l7, if_neg nle, Gu_of g17', eR, bd1_s, if_pos ((n_z (by omega)).mpr (eX.mpr ce)), Gu_of g17', Gu_of hi5, hxt]
              simp only [Lt_d]
              rw [Gu_of hi5, e32b, n_mul, nI_add, n_s, e1, bd1_s, Gu_of g17c, Gu_of hi5, n_s]
          · refine ⟨m1, ⟨i1, i2, fun c hc => ?_⟩, ?_⟩
            · rw [i3 c hc]
              by_cases cv : u_val A c = true
              · have hne : ¬ (c % (A 6 0) ^ t = s ∧ dg (A 6 0) c t = h) := by
                  rintro ⟨z1, z2⟩
                  have Mc := MYn_dn (show t + 1 ≤ A 6 1 by omega) (MYn_T.mpr (val_t.mp cv).1)
                  have q := ((MYn_s S ht cg).mp Mc).2.2
                  rw [z2] at q
                  have dl : ∀ i, i < t → dg (A 6 0) c i = dg (A 6 0) s i := by
                    intro i hi
                    have e1 := enc_dg (n := t) (i := i) (a := dg (A 6 0) c) hH0 (fun j _ => dg_lt hH0) hi
                    rw [dg_enc, z1] at e1
                    exact e1.symm
                  apply ce
                  unfold EXT at q ⊢
                  have upd : ∀ x i, i < t → u_p A (dg (A 6 0) c) x i = u_p A (dg (A 6 0) s) x i := fun x i hi => u_p_cong rfl (dl i hi)
                  rw [smP_cong (w := A 2) (fun i hi => upd h i hi) (fun i hi _ => rfl), ctP_cong (fun i hi => upd h i hi)] at q
                  exact ⟨q.1, q.2.1, q.2.2.1, fun i hi g1 g2 => q.2.2.2 i hi g1 (by rw [dl i hi]; exact g2)⟩
                simp only [cv, and_true]
                by_cases c1 : c % A 6 0 ^ t = s ∧ dg (A 6 0) c t < h
                · rw [if_pos c1, if_pos ⟨c1.1, by omega⟩]
                · rw [if_neg c1, if_neg (fun z => c1 ⟨z.1, by
                    have : ¬ dg (A 6 0) c t = h := fun z2 => hne ⟨z.1, z2⟩
                    omega⟩)]
              · rw [if_neg (fun z => cv z.2), if_neg (fun z => cv z.2)]
            · show f_X1_lay_L55 F (nI t) (nI s) (f_X1_layD F d) (fun x3_3 m4 => some m4) (n + 1) (nI h) m1 = _
              conv => lhs; unfold f_X1_lay_L55
              rw [Gu_of g17', l7, if_neg nle, Gu_of g17', eR, bd1_s, if_neg (by rw [n_z (by omega), eX]; exact ce), Lt_d, n_s]) F m (by omega) ⟨fun q _ _ => rfl, fun i _ => rfl, fun c _ => by rw [if_neg (fun z => absurd z.1.2 (Nat.not_lt_zero _))]⟩
        obtain ⟨m', ⟨i1, i2, i3⟩, i4⟩ := loop
        refine ⟨m', ?_, i1, i2, fun c hc => ?_⟩
        · unfold f_X1_layD fb_X1_lay
          rw [Gu_of g17, L.2.1, if_pos (by rw [n_lt (by omega) (by omega)]; omega), Gu_of g17, h12, if_neg (by rw [g_eq (by omega) (by omega)]; exact cg)]
          exact i4
        · rw [i3 c hc]
          have := dg_lt (c := c) (t := t) hH0
          by_cases c1 : c % A 6 0 ^ t = s ∧ u_val A c = true
          · rw [if_pos c1, if_pos ⟨⟨c1.1, this⟩, c1.2⟩]
          · rw [if_neg c1, if_neg (fun z => c1 ⟨z.1.1, z.2⟩)]
  exact all
