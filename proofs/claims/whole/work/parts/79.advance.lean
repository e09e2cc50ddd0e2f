/-! THE NEXT TOKEN, on both sides -/
def WTX (B : Nat → Nat) (p q t v : Nat) : Prop := (∃ x, x < 6 ∧ WRD B p q x ∧ t = 5 ∧ v = x) ∨ (∃ x, 6 ≤ x ∧ x < 12 ∧ WRD B p q x ∧ t = x) ∨ (t = 3 ∧ ∀ x, x < 12 → ¬ WRD B p q x)
def MPX (m : MM) (B : Nat → Nat) (t v p j : Nat) : Prop := (t ≠ 3 → rI m 0 27 = nI j) ∧ rI m 0 29 = nI p ∧ ((t = 2 ∧ rI m 0 28 = 0) ∨ (t = 4 ∧ rI m 0 28 = 2 ∧ rL m 0 30 = lN v) ∨ (SG t ∧ rI m 0 28 = 3 ∧ rL m 0 30 = lN t) ∨ (t = 3 ∧ rI m 0 28 = 4) ∨ (rI m 0 28 = 1 ∧ rI m 0 27 = nI j ∧ (∀ k, p ≤ k → k < j → isL (B k)) ∧ WTX B p j t v))
def CPX (m : MM) (t v p j : Nat) : Prop := rI m 36 3 = nI t ∧ rI m 36 4 = nI p ∧ rI m 36 2 = nI j ∧ (t = 4 ∨ t = 5 → rI m 36 5 = nI v)
def TKX (n t v p j : Nat) : Prop := p ≤ j ∧ j ≤ n ∧ (t ≠ 2 → p < j) ∧ (t = 4 → v < 10000) ∧ (t = 5 → v < 6) ∧ t < 100
def spc (c : Nat) : Prop := c = 32 ∨ c = 10
theorem skipC {B : Nat → Nat} {n p : Nat} (hB : BT B n) (hpn : p ≤ n) (he : p = n ∨ (p < n ∧ ¬ spc (B p))) : ∀ d j f m, j + d = p → d < f → CTX m B n → rI m 36 2 = nI j → (∀ i, j ≤ i → i < p → spc (B i)) → ∃ m1, Q36 m m1 ∧ rI m1 36 2 = nI p ∧ ∀ K : MM → Option MM, f_X3_advance_L0 K f m = K m1 := by
  have hn := hB.1
  intro d
  induction d with
  | zero =>
    intro j f m hj hf hc h2 hs
    obtain ⟨f, rfl⟩ : ∃ z, f = z + 1 := ⟨f - 1, by omega⟩
    have : j = p := by omega
    subst this
    refine ⟨m, Q36_rf m, h2, ?_⟩
    intro K
    conv => lhs; unfold f_X3_advance_L0
    rw [hc.1, h2]
    by_cases c : j = n
    · rw [if_pos ((n_le (by omega) (by omega)).mpr (by omega))]
    · have hjn : j < n := by omega
      have hb := hB.2 j hjn
      have hns : ¬ spc (B j) := by
        rcases he with e | e
        · exact absurd e c
        · exact e.2
      unfold spc at hns
      rw [if_neg (by rw [n_le (by omega) (by omega)]; omega), Gu_of (inB_n (by omega : j < 160) (by decide)), Jp_d, ix_n (by omega), hc.2 j hjn, if_neg (by rw [show (32 : Int32) = nI 32 from rfl, n_eq (by omega) (by omega)]; omega), Gu_of (inB_n (by omega : j < 160) (by decide)), if_neg (by rw [show (10 : Int32) = nI 10 from rfl, n_eq (by omega) (by omega)]; omega)]
  | succ d ih =>
    intro j f m hj hf hc h2 hs
    obtain ⟨f, rfl⟩ : ∃ z, f = z + 1 := ⟨f - 1, by omega⟩
    have hjn : j < n := by omega
    have hb := hB.2 j hjn
    have hsp := hs j (Nat.le_refl _) (by omega)
    have q : Q36 m (wI m 36 2 (nI (j + 1))) := Q36_w (by decide) (by decide) (Q36_rf m)
    obtain ⟨m1, e1, e2, e3⟩ := ih (j + 1) f (wI m 36 2 (nI (j + 1))) (by omega) (by omega) (CT_q q hc) rI_eq (fun i h1 h2 => hs i (by omega) h2)
    refine ⟨m1, Q36_tr q e1, e2, ?_⟩
    intro K
    rw [← e3 K]
    conv => lhs; unfold f_X3_advance_L0
    rw [hc.1, h2, if_neg (by rw [n_le (by omega) (by omega)]; omega), Gu_of (inB_n (by omega : j < 160) (by decide)), Jp_d, ix_n (by omega), hc.2 j hjn, n_s, Lt_d]
    rcases hsp with c | c
    · rw [if_pos (by rw [c]; rfl)]
    · rw [if_neg (by rw [c]; decide), Gu_of (inB_n (by omega : j < 160) (by decide)), if_pos (by rw [c]; rfl)]
theorem skipM {B : Nat → Nat} {n p fr : Nat} (hB : BT B n) (hfr : fr ≤ 800) (hpn : p ≤ n) (he : p = n ∨ (p < n ∧ ¬ spc (B p))) : ∀ d j f m, j + d = p → d < f → MTX m B n fr → rI m 0 27 = nI j → (∀ i, j ≤ i → i < p → spc (B i)) → ∃ m1, Q0 m m1 ∧ rI m1 0 27 = nI p ∧ ∀ K : MM → Option MM, f_X6_next_L0 K f m = K m1 := by
  have hn := hB.1
  intro d
  induction d with
  | zero =>
    intro j f m hj hf hc h2 hs
    obtain ⟨f, rfl⟩ : ∃ z, f = z + 1 := ⟨f - 1, by omega⟩
    have : j = p := by omega
    subst this
    refine ⟨m, Q0_rf m, h2, ?_⟩
    intro K
    conv => lhs; unfold f_X6_next_L0
    rw [h2, byte_sp hB hfr hc (by omega), bd1_s, Jp_d, bd1_s]
    by_cases c : j = n
    · rw [if_neg (show ¬ j < n by omega), if_neg (by decide), if_neg (by decide)]
    · have hjn : j < n := by omega
      have hb := hB.2 j hjn
      have hns : ¬ spc (B j) := by
        rcases he with e | e
        · exact absurd e c
        · exact e.2
      unfold spc at hns
      rw [if_pos hjn, if_neg (by rw [show (32 : Int32) = nI 32 from rfl, n_eq (by omega) (by omega)]; omega), if_neg (by rw [show (10 : Int32) = nI 10 from rfl, n_eq (by omega) (by omega)]; omega)]
  | succ d ih =>
    intro j f m hj hf hc h2 hs
    obtain ⟨f, rfl⟩ : ∃ z, f = z + 1 := ⟨f - 1, by omega⟩
    have hjn : j < n := by omega
    have hb := hB.2 j hjn
    have hsp := hs j (Nat.le_refl _) (by omega)
    have q : Q0 m (wI m 0 27 (nI (j + 1))) := Q0_w (by decide) (by decide) (Q0_rf m)
    obtain ⟨m1, e1, e2, e3⟩ := ih (j + 1) f (wI m 0 27 (nI (j + 1))) (by omega) (by omega) (MT_q q hc) rI_eq (fun i h1 h2 => hs i (by omega) h2)
    refine ⟨m1, Q0_tr q e1, e2, ?_⟩
    intro K
    rw [← e3 K]
    conv => lhs; unfold f_X6_next_L0
    rw [h2, byte_sp hB hfr hc (by omega), bd1_s, Jp_d, bd1_s, if_pos hjn, n_s, Lt_d]
    rcases hsp with c | c
    · rw [if_pos (by rw [c]; rfl)]
    · rw [if_neg (by rw [c]; decide), if_pos (by rw [c]; rfl)]
theorem letC {B : Nat → Nat} {n p : Nat} (hB : BT B n) (hpn : p ≤ n) (he : p = n ∨ (p < n ∧ ¬ isL (B p))) : ∀ d j f m, j + d = p → d < f → CTX m B n → rI m 36 2 = nI j → (∀ i, j ≤ i → i < p → isL (B i)) → ∃ m1, Q36 m m1 ∧ rI m1 36 2 = nI p ∧ rI m1 36 4 = rI m 36 4 ∧ ∀ K : MM → Option MM, f_X3_takeWord_L0 K f m = K m1 := by
  have hn := hB.1
  intro d
  induction d with
  | zero =>
    intro j f m hj hf hc h2 hs
    obtain ⟨f, rfl⟩ : ∃ z, f = z + 1 := ⟨f - 1, by omega⟩
    have : j = p := by omega
    subst this
    refine ⟨m, Q36_rf m, h2, rfl, ?_⟩
    intro K
    conv => lhs; unfold f_X3_takeWord_L0
    rw [hc.1, h2]
    by_cases c : j = n
    · rw [if_pos ((n_le (by omega) (by omega)).mpr (by omega))]
    · have hjn : j < n := by omega
      have hns : ¬ isL (B j) := by
        rcases he with e | e
        · exact absurd e c
        · exact e.2
      rw [if_neg (by rw [n_le (by omega) (by omega)]; omega), Gu_of (inB_n (by omega : j < 160) (by decide)), ix_n (by omega), hc.2 j hjn, (let_sp (hB.2 j hjn) m).2 hns, bd1_s, i_if]
  | succ d ih =>
    intro j f m hj hf hc h2 hs
    obtain ⟨f, rfl⟩ : ∃ z, f = z + 1 := ⟨f - 1, by omega⟩
    have hjn : j < n := by omega
    have hsp := hs j (Nat.le_refl _) (by omega)
    have q : Q36 m (wI m 36 2 (nI (j + 1))) := Q36_w (by decide) (by decide) (Q36_rf m)
    obtain ⟨m1, e1, e2, e4, e3⟩ := ih (j + 1) f (wI m 36 2 (nI (j + 1))) (by omega) (by omega) (CT_q q hc) rI_eq (fun i h1 h2 => hs i (by omega) h2)
    refine ⟨m1, Q36_tr q e1, e2, e4.trans (rI_nj (by decide)), ?_⟩
    intro K
    rw [← e3 K]
    conv => lhs; unfold f_X3_takeWord_L0
    rw [hc.1, h2, if_neg (by rw [n_le (by omega) (by omega)]; omega), Gu_of (inB_n (by omega : j < 160) (by decide)), ix_n (by omega), hc.2 j hjn, (let_sp (hB.2 j hjn) m).1 hsp, bd1_s, i_el, n_s, Lt_d]
theorem letM {B : Nat → Nat} {n p fr : Nat} (hB : BT B n) (hfr : fr ≤ 800) (hpn : p ≤ n) (he : p = n ∨ (p < n ∧ ¬ isL (B p))) : ∀ d j f m, j + d = p → d < f → MTX m B n fr → rI m 0 27 = nI j → (∀ i, j ≤ i → i < p → isL (B i)) → ∃ m1, Q0 m m1 ∧ rI m1 0 27 = nI p ∧ rI m1 0 28 = rI m 0 28 ∧ rI m1 0 29 = rI m 0 29 ∧ ∀ K : MM → Option MM, f_X6_next_L100 K f m = some m1 := by
  have hn := hB.1
  intro d
  induction d with
  | zero =>
    intro j f m hj hf hc h2 hs
    obtain ⟨f, rfl⟩ : ∃ z, f = z + 1 := ⟨f - 1, by omega⟩
    have : j = p := by omega
    subst this
    refine ⟨m, Q0_rf m, h2, rfl, rfl, ?_⟩
    intro K
    conv => lhs; unfold f_X6_next_L100
    rw [h2, byte_sp hB hfr hc (by omega), bd1_s, show (97 : Int64) = lN 97 from rfl, show (122 : Int64) = lN 122 from rfl]
    by_cases c : j = n
    · rw [if_neg (show ¬ j < n by omega), in_m1 (by decide) (by decide), bd1_s, i_if]
    · have hjn : j < n := by omega
      have hb := hB.2 j hjn
      have hns : ¬ isL (B j) := by
        rcases he with e | e
        · exact absurd e c
        · exact e.2
      unfold isL at hns
      rw [if_pos hjn, in_by (by omega) (by decide) (by decide), bd1_s, if_neg hns, i_if]
  | succ d ih =>
    intro j f m hj hf hc h2 hs
    obtain ⟨f, rfl⟩ : ∃ z, f = z + 1 := ⟨f - 1, by omega⟩
    have hjn : j < n := by omega
    have hb := hB.2 j hjn
    have hsp := hs j (Nat.le_refl _) (by omega)
    unfold isL at hsp
    have q : Q0 m (wI m 0 27 (nI (j + 1))) := Q0_w (by decide) (by decide) (Q0_rf m)
    obtain ⟨m1, e1, e2, e4, e5, e3⟩ := ih (j + 1) f (wI m 0 27 (nI (j + 1))) (by omega) (by omega) (MT_q q hc) rI_eq (fun i h1 h2 => hs i (by omega) h2)
    refine ⟨m1, Q0_tr q e1, e2, e4.trans (rI_nj (by decide)), e5.trans (rI_nj (by decide)), ?_⟩
    intro K
    rw [← e3 K]
    conv => lhs; unfold f_X6_next_L100
    rw [h2, byte_sp hB hfr hc (by omega), bd1_s, show (97 : Int64) = lN 97 from rfl, show (122 : Int64) = lN 122 from rfl, if_pos hjn, in_by (by omega) (by decide) (by decide), bd1_s, if_pos hsp, i_el, n_s, Lt_d]
theorem wordC {F : Nat} {m : MM} {B : Nat → Nat} {n p q : Nat} (hF : 20 ≤ F) (hB : BT B n) (h : CTX m B n) (hp : rI m 36 4 = nI p) (hq : rI m 36 2 = nI q) (hpq : p ≤ q) (hqn : q ≤ n) (hl : ∀ k, p ≤ k → k < q → isL (B k)) (K : Int32 → Option MM) : ∀ d k f, k + d = 12 → d < f → (∃ x, x < 12 ∧ WRD B p q x ∧ f_X3_takeWord_L46 F m K f (nI k) = some (wI (wI m 36 3 (nI (if 6 ≤ x then x else 5))) 36 5 (nI x))) ∨ ((∀ x, k ≤ x → x < 12 → ¬ WRD B p q x) ∧ f_X3_takeWord_L46 F m K f (nI k) = K (nI 12)) := by
  intro d
  induction d with
  | zero =>
    intro k f hk hf
    obtain ⟨f, rfl⟩ : ∃ z, f = z + 1 := ⟨f - 1, by omega⟩
    have : k = 12 := by omega
    subst this
    refine Or.inr ⟨fun x h1 h2 => by omega, ?_⟩
    unfold f_X3_takeWord_L46
    rw [if_pos (by decide)]
  | succ d ih =>
    intro k f hk hf
    obtain ⟨f, rfl⟩ : ∃ z, f = z + 1 := ⟨f - 1, by omega⟩
    have hk12 : k < 12 := by omega
    have cw := cmpW (x := k) hF hB h hp hq hpq hqn hl hk12
    by_cases c : WRD B p q k
    · refine Or.inl ⟨k, hk12, c, ?_⟩
      unfold f_X3_takeWord_L46
      rw [if_neg (by rw [show (12 : Int32) = nI 12 from rfl, n_le (by omega) (by omega)]; omega), cw.1 c, bd1_s, i_el, Jp_d]
      by_cases c6 : 6 ≤ k
      · rw [if_pos (by rw [show (6 : Int32) = nI 6 from rfl, n_le (by omega) (by omega)]; exact c6), if_pos c6, show (6 : Int32) = nI 6 from rfl, nI_add, n_subn (by omega), Nat.add_sub_cancel_left]
        rfl
      · rw [if_neg (by rw [show (6 : Int32) = nI 6 from rfl, n_le (by omega) (by omega)]; exact c6), if_neg c6]
        rfl
    · have unf : f_X3_takeWord_L46 F m K (f + 1) (nI k) = f_X3_takeWord_L46 F m K f (nI (k + 1)) := by
        conv => lhs; unfold f_X3_takeWord_L46
        rw [if_neg (by rw [show (12 : Int32) = nI 12 from rfl, n_le (by omega) (by omega)]; omega), cw.2 c, bd1_s, i_if, Lt_d, n_s]
      rw [unf]
      rcases ih (k + 1) f (by omega) (by omega) with h1 | ⟨h1, h2⟩
      · exact Or.inl h1
      · refine Or.inr ⟨fun x h3 h4 => ?_, h2⟩
        by_cases e : x = k
        · rw [e]; exact c
        · exact h1 x (by omega) h4
/-- numbers -/
def dN (B : Nat → Nat) (p : Nat) : Nat → Nat
  | 0 => 0
  | k + 1 => dN B p k * 10 + (B (p + k) - 48)
theorem dN_lt {B : Nat → Nat} {p : Nat} : ∀ {k : Nat}, (∀ i, i < k → isD (B (p + i))) → dN B p k < 10 ^ k
  | 0, _ => Nat.one_pos
  | k + 1, h => by
    have := dN_lt (B := B) (p := p) (k := k) (fun i hi => h i (by omega))
    have := h k (by omega)
    unfold isD at this
    show dN B p k * 10 + (B (p + k) - 48) < _
    rw [Nat.pow_succ]
    omega
theorem dN_4 {B : Nat → Nat} {p k : Nat} (hk : k ≤ 4) (h : ∀ i, i < k → isD (B (p + i))) : dN B p k < 10000 := Nat.lt_of_lt_of_le (dN_lt h) (Nat.pow_le_pow_right (by decide) hk : 10 ^ k ≤ 10 ^ 4)
theorem digC {B : Nat → Nat} {n p s : Nat} (hB : BT B n) (hpn : p ≤ n) (he : p = n ∨ (p < n ∧ ¬ isD (B p))) (hd : ∀ i, s ≤ i → i < p → isD (B i)) : ∀ d j f m, j + d = p → s ≤ j → d < f → CTX m B n → rI m 36 2 = nI j → (j - s ≤ 4 → rI m 36 5 = nI (dN B s (j - s))) → ∃ m1, Q36 m m1 ∧ rI m1 36 2 = nI p ∧ rI m1 36 4 = rI m 36 4 ∧ (p - s ≤ 4 → rI m1 36 5 = nI (dN B s (p - s))) ∧ ∀ K : MM → Option MM, f_X3_takeNumber_L5 K f m = K m1 := by
  have hn := hB.1
  intro d
  induction d with
  | zero =>
    intro j f m hj hsj hf hc h2 h5
    obtain ⟨f, rfl⟩ : ∃ z, f = z + 1 := ⟨f - 1, by omega⟩
    have : j = p := by omega
    subst this
    refine ⟨m, Q36_rf m, h2, rfl, h5, ?_⟩
    intro K
    conv => lhs; unfold f_X3_takeNumber_L5
    rw [hc.1, h2]
    by_cases c : j = n
    · rw [if_pos ((n_le (by omega) (by omega)).mpr (by omega))]
    · have hjn : j < n := by omega
      have hns : ¬ isD (B j) := by
        rcases he with e | e
        · exact absurd e c
        · exact e.2
      rw [if_neg (by rw [n_le (by omega) (by omega)]; omega), Gu_of (inB_n (by omega : j < 160) (by decide)), ix_n (by omega), hc.2 j hjn, (dig_sp (hB.2 j hjn) m).2 hns, bd1_s, i_if]
  | succ d ih =>
    intro j f m hj hsj hf hc h2 h5
    obtain ⟨f, rfl⟩ : ∃ z, f = z + 1 := ⟨f - 1, by omega⟩
    have hjn : j < n := by omega
    have hsp := hd j hsj (by omega)
    have hbb := hB.2 j hjn
    have q : Q36 m (wI (wI m 36 5 ((rI m 36 5) * (10 : Int32) + nI (B j) - (48 : Int32))) 36 2 (nI (j + 1))) := Q36_w (by decide) (by decide) (Q36_w (by decide) (by decide) (Q36_rf m))
    obtain ⟨m1, e1, e2, e4, e5, e3⟩ := ih (j + 1) f (wI (wI m 36 5 ((rI m 36 5) * (10 : Int32) + nI (B j) - (48 : Int32))) 36 2 (nI (j + 1))) (by omega) (by omega) (by omega) (CT_q q hc) rI_eq (fun h4 => by
      have h5' := h5 (by omega)
      rw [rI_nj (by decide), rI_eq, h5', show (10 : Int32) = nI 10 from rfl, show (48 : Int32) = nI 48 from rfl, n_mul, nI_add, n_subn (by unfold isD at hsp; omega), show j + 1 - s = (j - s) + 1 by omega]
      show _ = nI (dN B s (j - s) * 10 + (B (s + (j - s)) - 48))
      rw [show s + (j - s) = j by omega, Nat.add_sub_assoc (by unfold isD at hsp; omega)])
    refine ⟨m1, Q36_tr q e1, e2, e4.trans ((rI_nj (by decide)).trans (rI_nj (by decide))), e5, ?_⟩
    intro K
    rw [← e3 K]
    conv => lhs; unfold f_X3_takeNumber_L5
    rw [hc.1, h2, if_neg (by rw [n_le (by omega) (by omega)]; omega), Gu_of (inB_n (by omega : j < 160) (by decide)), ix_n (by omega), hc.2 j hjn, (dig_sp hbb m).1 hsp, bd1_s, i_el, Gu_of (inB_n (by omega : j < 160) (by decide)), Lt_d, rI_nj (by decide), h2, n_s, Lt_d]
theorem digM {B : Nat → Nat} {n p s fr : Nat} (hB : BT B n) (hfr : fr ≤ 800) (hpn : p ≤ n) (he : p = n ∨ (p < n ∧ ¬ isD (B p))) (hd : ∀ i, s ≤ i → i < p → isD (B i)) : ∀ d j f m, j + d = p → s ≤ j → d < f → MTX m B n fr → rI m 0 27 = nI j → (rL m 0 30 = lN (dN B s (if j - s ≤ 4 then j - s else 4))) → ∃ m1, Q0 m m1 ∧ rI m1 0 27 = nI p ∧ rI m1 0 29 = rI m 0 29 ∧ rL m1 0 30 = lN (dN B s (if p - s ≤ 4 then p - s else 4)) ∧ ∀ K : Int32 → MM → Option MM, f_X6_next_L160 K f (nI (j - s)) m = K (nI (p - s)) m1 := by
  have hn := hB.1
  intro d
  induction d with
  | zero =>
    intro j f m hj hsj hf hc h2 h5
    obtain ⟨f, rfl⟩ : ∃ z, f = z + 1 := ⟨f - 1, by omega⟩
    have : j = p := by omega
    subst this
    refine ⟨m, Q0_rf m, h2, rfl, h5, ?_⟩
    intro K
    conv => lhs; unfold f_X6_next_L160
    rw [h2, byte_sp hB hfr hc (by omega), bd1_s, show (48 : Int64) = lN 48 from rfl, show (57 : Int64) = lN 57 from rfl]
    by_cases c : j = n
    · rw [if_neg (show ¬ j < n by omega), in_m1 (by decide) (by decide), bd1_s, i_if]
    · have hjn : j < n := by omega
      have hb := hB.2 j hjn
      have hns : ¬ isD (B j) := by
        rcases he with e | e
        · exact absurd e c
        · exact e.2
      unfold isD at hns
      rw [if_pos hjn, in_by (by omega) (by decide) (by decide), bd1_s, if_neg hns, i_if]
  | succ d ih =>
    intro j f m hj hsj hf hc h2 h5
    obtain ⟨f, rfl⟩ : ∃ z, f = z + 1 := ⟨f - 1, by omega⟩
    have hjn : j < n := by omega
    have hb := hB.2 j hjn
    have hsp := hd j hsj (by omega)
    unfold isD at hsp
    have q : ∀ y : Int64, Q0 m (wI (wL m 0 30 y) 0 27 (nI (j + 1))) := fun y => ⟨fun r hr => row_ne hr, fun i hi => rI_nj (by omega)⟩
    by_cases c4 : 4 ≤ j - s
    · obtain ⟨m1, e1, e2, e4, e5, e3⟩ := ih (j + 1) f (wI (wL m 0 30 (rL m 0 30)) 0 27 (nI (j + 1))) (by omega) (by omega) (by omega) (MT_q (q _) hc) rI_eq (by
        show rL (wL m 0 30 (rL m 0 30)) 0 30 = _
        rw [rL_eq, h5]
        by_cases c5 : j - s ≤ 4
        · rw [if_pos c5, if_neg (by omega), show j - s = 4 by omega]
        · rw [if_neg c5, if_neg (by omega)])
      refine ⟨m1, Q0_tr (q _) e1, e2, e4.trans (rI_nj (by decide)), e5, ?_⟩
      rw [show nI (j + 1 - s) = nI (j - s + 1) by rw [show j + 1 - s = j - s + 1 by omega]] at e3
      intro K
      rw [← e3 K]
      conv => lhs; unfold f_X6_next_L160
      rw [h2, byte_sp hB hfr hc (by omega), bd1_s, show (48 : Int64) = lN 48 from rfl, show (57 : Int64) = lN 57 from rfl, if_pos hjn, in_by (by omega) (by decide) (by decide), bd1_s, if_pos hsp, i_el, Jp_d, if_pos (by rw [show (4 : Int32) = nI 4 from rfl, n_le (by omega) (by omega)]; exact c4)]
      show f_X6_next_L160 K f (nI (j - s) + 1) (wI (wL m 0 30 (rL m 0 30)) 0 27 (rI (wL m 0 30 (rL m 0 30)) 0 27 + 1)) = _
      rw [rI_L, h2, n_s, n_s]
    · obtain ⟨m1, e1, e2, e4, e5, e3⟩ := ih (j + 1) f (wI (wL m 0 30 (lN (dN B s (j - s + 1)))) 0 27 (nI (j + 1))) (by omega) (by omega) (by omega) (MT_q (q _) hc) rI_eq (by
        show rL (wL m 0 30 (lN (dN B s (j - s + 1)))) 0 30 = _
        rw [rL_eq, if_pos (by omega), show j + 1 - s = j - s + 1 by omega])
      refine ⟨m1, Q0_tr (q _) e1, e2, e4.trans (rI_nj (by decide)), e5, ?_⟩
      rw [show nI (j + 1 - s) = nI (j - s + 1) by rw [show j + 1 - s = j - s + 1 by omega]] at e3
      intro K
      rw [← e3 K]
      have hin : f_X6_in (Int32.toInt64 (nI (B j))) (48 : Int64) (57 : Int64) m = some 1 := (in_by (by omega) (by decide) (by decide) m).trans (by rw [if_pos hsp])
      have ev : (10 : Int64) * rL m 0 30 + Int32.toInt64 (nI (B j)) - (48 : Int64) = lN (dN B s (j - s + 1)) := by
        rw [h5, if_pos (by omega), lN_nI (by omega), show (10 : Int64) = lN 10 from rfl, zl_mul, zl_add]
        show _ = lN (dN B s (j - s) * 10 + (B (s + (j - s)) - 48))
        rw [show s + (j - s) = j by omega]
        obtain ⟨y, hy⟩ : ∃ y, B j = y + 48 := ⟨B j - 48, by omega⟩
        rw [hy, Nat.add_sub_cancel, ← Nat.add_assoc, ← zl_add (10 * dN B s (j - s) + y) 48, show (48 : Int64) = lN 48 from rfl, Int64.add_sub_cancel, Nat.mul_comm]
      conv => lhs; unfold f_X6_next_L160
      rw [h2, byte_sp hB hfr hc (by omega), bd1_s, if_pos hjn, hin, bd1_s, i_el, Jp_d, if_neg (by rw [show (4 : Int32) = nI 4 from rfl, n_le (by omega) (by omega)]; exact c4), bd1_s, ev]
      show f_X6_next_L160 K f (nI (j - s) + 1) (wI (wL m 0 30 (lN (dN B s (j - s + 1)))) 0 27 (rI (wL m 0 30 (lN (dN B s (j - s + 1)))) 0 27 + 1)) = _
      rw [rI_L, h2, n_s, n_s]
