/-! THE MODEL LAYS: states as the model counts them -/
def LM0 (m : MM) (A : LT) : Prop := rI m 0 9 = nI (A 6 0) ∧ rI m 0 14 = nI (A 6 1) ∧ rI m 0 15 = nI (A 6 2) - 1 ∧ rI m 0 16 = nI (A 6 3) ∧ rI m 0 4 = nI (A 6 4) ∧ rI m 0 18 = nI (A 6 5) - 1 ∧ rI m 0 17 = nI (A 6 6) - 1 ∧ (∀ i, i < A 6 0 → rI m 4 i = nI (A 0 i) ∧ rI m 5 i = nI (A 1 i)) ∧ (∀ i, i < A 6 1 → rI m 6 i = nI (A 2 i) ∧ rI m 7 i = nI (A 3 i) ∧ rI m 9 i = nI (A 4 i))
theorem roomM0 {m : MM} {A : LT} {h : Nat} (L : LM0 m A) (B : AB A) (hh : h < A 6 0) : f_X6_roomOf (nI h) m = some (nI (u_rm A h)) := by
  obtain ⟨l1, l2, l3, l4, l5, l6, l7, l8, l9⟩ := L
  obtain ⟨b1, b2, b3, b4, b5, b6, b7, b8, b9⟩ := B
  have hx : ix (nI h) = h := ix_n (by omega)
  have hb := b8 h hh
  unfold f_X6_roomOf
  rw [Gu_of (inB_n (by omega : h < 5) (by decide)), hx, Lt_d, Gu_of (inB_n (by omega : h < 5) (by decide)), Lt_d, Jp_d, (l8 h hh).1, (l8 h hh).2, l7]
  have hw : (nI h = nI (A 6 6) - 1) ↔ A 6 6 = h + 1 := by
    rw [i_eq, i_sub, nI_toInt (by omega), nI_toInt (by omega)]
    · have : (1 : Int32).toInt = 1 := rfl
      omega
    · rw [nI_toInt (by omega)]; have : (1 : Int32).toInt = 1 := rfl; omega
    · rw [nI_toInt (by omega)]; have : (1 : Int32).toInt = 1 := rfl; omega
  have key : ∀ k, k < 6 → ∀ v, v < 10 → ∀ G : Int32 → Option Int32, (if nI k = 0 then G (nI v + 6) else if nI k = 1 then G (nI v + 6 - 3) else Jp (G (2 * (nI v + 6))) fun J5 => if nI k = 2 then J5 else if nI k = 5 then J5 else if nI k = 3 then Gu (nz 2) <| G ((nI v + 6 - 3) / 2) else Gu (inB (nI h) 5) <| G (nI v + 1)) = G (nI (u_rm0 k v)) := by
    intro k hk v hv G
    rw [Gu_of (inB_n (by omega : h < 5) (by decide))]
    have e1 : ∀ v, v < 10 → nI v + 6 = nI (v + 6) := fun v _ => nI_add v 6
    have e2 : ∀ v, v < 10 → nI v + 6 - 3 = nI (v + 3) := by decide +kernel
    have e3 : ∀ v, v < 10 → 2 * (nI v + 6) = nI (2 * (v + 6)) := by decide +kernel
    rw [e2 v hv, e3 v hv, e1 v hv, div2_k _ (by omega), n_s, Jp_d]
    unfold u_rm0
    rcases (show k = 0 ∨ k = 1 ∨ k = 2 ∨ k = 3 ∨ k = 4 ∨ k = 5 by omega) with rfl | rfl | rfl | rfl | rfl | rfl <;> rfl
  refine (key _ hb.1 _ hb.2 (fun s3 => if nI h = nI (A 6 6) - 1 then some (s3 + 1) else some s3)).trans ?_
  unfold u_rm
  by_cases c : A 6 6 = h + 1
  · rw [if_pos (hw.mpr c), if_pos c, n_s]
  · rw [if_neg (fun q => c (hw.mp q)), if_neg c, Nat.add_zero]
theorem mostM0 {m : MM} {A : LT} {h : Nat} (L : LM0 m A) (B : AB A) (hh : h < A 6 0) : f_X6_mostOf (nI h) m = some (nI (u_mo (A 0 h))) := by
  have hb := B.2.2.2.2.2.2.2.1 h hh
  have hH := B.1
  have hx : ix (nI h) = h := ix_n (by omega)
  unfold f_X6_mostOf
  rw [Gu_of (inB_n (by omega : h < 5) (by decide)), hx, Lt_d, (L.2.2.2.2.2.2.2.1 h hh).1]
  have key : ∀ k, k < 6 → (if nI k = 1 then some (3 : Int32) else if nI k = 3 then some (1 : Int32) else if nI k = 4 then some (1 : Int32) else some (5 : Int32)) = some (nI (u_mo k)) := by decide +kernel
  exact key _ hb.1
theorem wetM0 {m : MM} {A : LT} {h : Nat} (L : LM0 m A) (B : AB A) (hh : h < A 6 0) : f_X6_wetOf (nI h) m = some (nI (u_we (A 0 h))) := by
  have hb := B.2.2.2.2.2.2.2.1 h hh
  have hH := B.1
  have hx : ix (nI h) = h := ix_n (by omega)
  unfold f_X6_wetOf
  rw [Gu_of (inB_n (by omega : h < 5) (by decide)), hx, (L.2.2.2.2.2.2.2.1 h hh).1]
  have key : ∀ k, k < 6 → (if nI k = 5 then some (1 : Int32) else some (0 : Int32)) = some (nI (u_we k)) := by decide +kernel
  exact key _ hb.1
theorem barsM0 {m : MM} {A : LT} {h s d ap F : Nat} {p : Nat → Bool} (hF : 7 ≤ F) (L : LM0 m A) (B : AB A) (hh : h < A 6 0) (hs : s ≤ 9) (hd : d < 2) (ha : ap < 32) : f_X6_bars F (nI s) (nI d) (nI ap) (nI h) (nI (mkP p (A 6 1))) m = some (nI (u_rf (s + smP p (A 2) (A 6 1)) (1 + ctP p (A 6 1)) (u_rm A h) (A 0 h) d (ap &&& mkP p (A 6 1)))) := by
  have hb := B.2.2.2.2.2.2.2.1 h hh
  have h5 := B.2.1
  have h9 : ∀ i, i < A 6 1 → A 2 i ≤ 9 := fun i hi => (B.2.2.2.2.2.2.2.2 i hi).2.1
  have hm := mk_32 (p := p) h5
  obtain ⟨F, rfl⟩ : ∃ k, F = k + 6 := ⟨F - 6, by omega⟩
  unfold f_X6_bars
  rw [sizeOf_sp (z := A 2) (by omega) L.2.1 h5 hm (fun i hi _ => (L.2.2.2.2.2.2.2.2 i hi).1), bd1_s, roomM0 L B hh, bd1_s, mk_sm, nI_add, pop_k _ hm, bd1_s, mostM0 L B hh, bd1_s, mk_ct h5, n_s, Jp_d, wetM0 L B hh, bd1_s, n_and]
  have b1 := smP_le (p := p) h9
  have b2 := ctP_le (p := p) (A 6 1)
  have b3 : A 6 1 * 9 ≤ 45 := by omega
  have b4 := u_mo_le (A 0 h)
  have b5 : ap &&& mkP p (A 6 1) < 2 ^ 31 := Nat.lt_of_le_of_lt Nat.and_le_left (by omega)
  have b6 := u_we_le (A 0 h)
  have b7 := u_rm_lt hb.2
  rw [Nat.and_comm] at b5
  simp only [n_le (show smP p (A 2) (A 6 1) + s < 2 ^ 31 by omega) (show u_rm A h < 2 ^ 31 by omega), n_le (show ctP p (A 6 1) + 1 < 2 ^ 31 by omega) (show u_mo (A 0 h) < 2 ^ 31 by omega), n_z b5, n_1 (show d < 2 ^ 31 by omega), n_1 (show u_we (A 0 h) < 2 ^ 31 by omega)]
  unfold u_rf
  rw [Nat.and_comm ap, Nat.add_comm s, Nat.add_comm 1]
  by_cases c1 : u_rm A h < smP p (A 2) (A 6 1) + s
  · rw [if_neg (by omega), if_pos c1]; rfl
  · rw [if_pos (by omega), if_neg c1]
    by_cases c2 : u_mo (A 0 h) < ctP p (A 6 1) + 1
    · rw [if_neg (by omega), if_pos c2]; rfl
    · rw [if_pos (by omega), if_neg c2]
      by_cases c3 : d = 1 <;> by_cases c4 : u_we (A 0 h) = 1 <;> by_cases c5 : mkP p (A 6 1) &&& ap = 0 <;> simp [c3, c4, c5] <;> rfl
theorem LM0_of {m : MM} {A : LT} (L : LM m A) : LM0 m A := ⟨L.1, L.2.1, L.2.2.1, L.2.2.2.1, L.2.2.2.2.1, L.2.2.2.2.2.1, L.2.2.2.2.2.2.1, L.2.2.2.2.2.2.2.1, fun i hi => ⟨(L.2.2.2.2.2.2.2.2 i hi).1, (L.2.2.2.2.2.2.2.2 i hi).2.1, (L.2.2.2.2.2.2.2.2 i hi).2.2.1⟩⟩
theorem LM0_fr {m m2 : MM} {A : LT} (h : ∀ q, 4 ≤ q → q ≤ 9 → q ≠ 8 → m2.1 q = m.1 q) (g : ∀ i, i = 4 ∨ i = 9 ∨ (14 ≤ i ∧ i ≤ 18) → rI m2 0 i = rI m 0 i) (L : LM0 m A) : LM0 m2 A := by
  obtain ⟨l1, l2, l3, l4, l5, l6, l7, l8, l9⟩ := L
  have e : ∀ q i, 4 ≤ q → q ≤ 9 → q ≠ 8 → rI m2 q i = rI m q i := fun q i h1 h2 h3 => r_row (h q h1 h2 h3) i
  refine ⟨(g _ (by omega)).trans l1, (g _ (by omega)).trans l2, (g _ (by omega)).trans l3, (g _ (by omega)).trans l4, (g _ (by omega)).trans l5, (g _ (by omega)).trans l6, (g _ (by omega)).trans l7, fun i hi => ?_, fun i hi => ?_⟩
  · have q := l8 i hi
    exact ⟨(e _ _ (by omega) (by omega) (by omega)).trans q.1, (e _ _ (by omega) (by omega) (by omega)).trans q.2⟩
  · have q := l9 i hi
    exact ⟨(e _ _ (by omega) (by omega) (by omega)).trans q.1, (e _ _ (by omega) (by omega) (by omega)).trans q.2.1, (e _ _ (by omega) (by omega) (by omega)).trans q.2.2⟩
theorem LM_of0 {m : MM} {A : LT} {a : Nat → Nat} (L : LM0 m A) (h : ∀ i, i < A 6 1 → rI m 8 i = nI (a i)) : LM m (sA A a) := ⟨L.1, L.2.1, L.2.2.1, L.2.2.2.1, L.2.2.2.2.1, L.2.2.2.2.2.1, L.2.2.2.2.2.2.1, L.2.2.2.2.2.2.2.1, fun i hi => ⟨(L.2.2.2.2.2.2.2.2 i hi).1, (L.2.2.2.2.2.2.2.2 i hi).2.1, (L.2.2.2.2.2.2.2.2 i hi).2.2, h i hi⟩⟩
theorem insideM0 {m : MM} {A : LT} {a : Nat → Nat} {h F : Nat} (hF : 6 ≤ F) (L : LM0 m A) (B : AB A) (hl : ∀ i, i < A 6 1 → rI m 8 i = nI (a i)) (ha : ∀ i, i < A 6 1 → a i < 100) (hh : h < 5) : f_X6_inside F (nI h) m = some (nI (mkP (u_p A a h) (A 6 1))) := by
  have b2 := B.2.1
  have b6 := B.2.2.2.2.2.1
  refine inside_sp hF L.2.1 b2 (fun i hi => ?_)
  have hb := ha i hi
  rw [p_iff, L.2.2.2.2.2.1, hl i hi, g_eq (by omega) (by omega), n_eq (by omega) (by omega)]
theorem barsThingM0 {m : MM} {A : LT} {a : Nat → Nat} {t h F : Nat} (hF : 7 ≤ F) (L : LM0 m A) (B : AB A) (hl : ∀ i, i < A 6 1 → rI m 8 i = nI (a i)) (ha : ∀ i, i < A 6 1 → a i < 100) (ht : t < A 6 1) (hh : h < A 6 0) : f_X6_barsThing F (nI t) (nI h) m = some (nI (u_bar A a t h)) := by
  have b1 := B.1
  have b2 := B.2.1
  have hlt := L.2.2.2.2.2.2.2.2 t ht
  have hb := B.2.2.2.2.2.2.2.2 t ht
  have hx : ix (nI t) = t := ix_n (by omega)
  have g := inB_n (by omega : t < 5) (by decide : 5 ≤ 2 ^ 31)
  have h32 : A 4 t < 32 := Nat.lt_of_lt_of_le hb.2.2.2.1 (Nat.pow_le_pow_right (by decide) b2 : 2 ^ A 6 1 ≤ 2 ^ 5)
  unfold f_X6_barsThing
  rw [Gu_of g, Gu_of g, Gu_of g, insideM0 (by omega) L B hl ha (by omega), bd1_s, hx, hlt.1, hlt.2.1, hlt.2.2, mk_not (by omega) b2, barsM0 hF L B hh hb.2.1 hb.2.2.1 h32, bd1_s]
  rfl
theorem place_sp {t : Nat} (ht : t < 5) (m : MM) : f_X6_place (nI t) m = some (nI (5 ^ t)) := by
  rcases (show t = 0 ∨ t = 1 ∨ t = 2 ∨ t = 3 ∨ t = 4 by omega) with rfl | rfl | rfl | rfl | rfl <;> rfl
theorem p5_le {t : Nat} (ht : t ≤ 5) : 5 ^ t ≤ 3125 := Nat.pow_le_pow_right (by decide) ht
theorem p5_pos {t : Nat} : 0 < 5 ^ t := Nat.pow_pos (by decide)
theorem lays_sp {F : Nat} {T c : Nat} {m : MM} (hF : 50 ≤ F) (hT : T ≤ 5) (h14 : rI m 0 14 = nI T) (hc : c < 2 ^ 31) : ∃ m', f_X6_lays F (nI c) m = some m' ∧ (∀ q, q ≠ 8 → m'.1 q = m.1 q) ∧ ∀ i, rI m' 8 i = if i < T then nI (dg 5 c i) else rI m 8 i := by
  obtain ⟨m', ⟨i1, i2⟩, i3⟩ := loop_inv (fun n i m => f_X6_lays_L2 (nI c) (fun x2_1 m2 => some m2) n i m) (fun m => some m) T (fun t m1 => (∀ q, q ≠ 8 → m1.1 q = m.1 q) ∧ ∀ i, rI m1 8 i = if i < t then nI (dg 5 c i) else rI m 8 i) (fun n m1 hI => by
    have e : rI m1 0 14 = nI T := (r_row (hI.1 0 (by decide)) 14).trans h14
    show f_X6_lays_L2 _ _ (n + 1) _ m1 = _
    unfold f_X6_lays_L2
    rw [e, if_pos (Int32.le_refl _)]) (fun t n m1 ht hI => by
    have e : rI m1 0 14 = nI T := (r_row (hI.1 0 (by decide)) 14).trans h14
    have hp := p5_le (show t ≤ 5 by omega)
    have hq : c / 5 ^ t < 2 ^ 31 := Nat.lt_of_le_of_lt (Nat.div_le_self _ _) hc
    refine ⟨wI m1 8 t (nI (dg 5 c t)), ⟨fun q hq => (row_ne hq).trans (hI.1 q hq), fun i => ?_⟩, ?_⟩
    · rw [rI_w, hI.2]
      by_cases c : i = t
      · rw [if_pos ⟨rfl, c⟩, if_pos (by omega), c]
      · rw [if_neg (fun z => c z.2)]
        by_cases c2 : i < t
        · rw [if_pos c2, if_pos (by omega)]
        · rw [if_neg c2, if_neg (by omega)]
    · show f_X6_lays_L2 _ _ (n + 1) _ m1 = _
      conv => lhs; unfold f_X6_lays_L2
      rw [e, if_neg (n_head (n := 0) hT ht), place_sp (by omega), bd1_s, Gu_of (nz_n p5_pos (by omega)), Gu_of (show nz (5 : Int32) = true from rfl), Gu_of (inB_n (by omega : t < 5) (by decide)), ix_n (by omega), n_div hc (by omega), show (5 : Int32) = nI 5 from rfl, n_rem hq (by decide), Lt_d, Lt_d, n_s]
      rfl) F m (by omega) ⟨fun q _ => rfl, fun i => by rw [if_neg (Nat.not_lt_zero i)]⟩
  exact ⟨m', i3, i1, i2⟩
theorem codeNow_sp {F : Nat} {T : Nat} {a : Nat → Nat} {m : MM} (hF : 50 ≤ F) (hT : T ≤ 5) (h14 : rI m 0 14 = nI T) (hl : ∀ i, i < T → rI m 8 i = nI (a i)) : f_X6_codeNow F m = some (nI (enc 5 a T)) := by
  unfold f_X6_codeNow
  obtain ⟨x, hx, e⟩ := loop_inv (fun n i x => f_X6_codeNow_L4 m (fun x1_1 x2_2 => some x1_1) n x i) (fun x => some x) T (fun t x => x = nI (enc 5 a t)) (fun n x hI => by
    show f_X6_codeNow_L4 _ _ (n + 1) x _ = _
    unfold f_X6_codeNow_L4
    rw [h14, if_pos (Int32.le_refl _)]) (fun t n x ht hI => by
    refine ⟨nI (enc 5 a (t + 1)), rfl, ?_⟩
    show f_X6_codeNow_L4 _ _ (n + 1) x _ = _
    conv => lhs; unfold f_X6_codeNow_L4
    rw [h14, if_neg (n_head (n := 0) hT ht), place_sp (by omega), bd1_s, Gu_of (inB_n (by omega : t < 5) (by decide)), ix_n (by omega), hl t ht, n_mul, hI, nI_add, Lt_d, Lt_d, n_s, Nat.mul_comm]
    rfl) F 0 (by omega) rfl
  rw [hx] at e
  exact e
/-- the model's state behind a move -/
def mvc (T c t h : Nat) : Nat := enc 5 (up (dg 5 c) t h) T
theorem mvc_lt {T c t h : Nat} (hh : h < 5) : mvc T c t h < 5 ^ T := enc_lt (fun i _ => by
  rw [up_at]
  split
  · exact hh
  · exact dg_lt (by decide))
theorem mvc_dg {T c t h i : Nat} (hh : h < 5) (hi : i < T) : dg 5 (mvc T c t h) i = if i = t then h else dg 5 c i := enc_dg (by decide) (fun j _ => by
  rw [up_at]
  split
  · exact hh
  · exact dg_lt (by decide)) hi
theorem mvc_ar {T c t h : Nat} (hc : c < 5 ^ T) (ht : t < T) : mvc T c t h + dg 5 c t * 5 ^ t = c + h * 5 ^ t := by
  have q := enc_up (b := 5) (a := dg 5 c) (t := t) (h := h) ht
  rw [dg_enc' hc] at q
  exact q
theorem after_sp {T c t h : Nat} {m : MM} (hT : T ≤ 5) (hc : c < 5 ^ T) (ht : t < T) (hh : h < 5) : f_X6_after (nI c) (nI t) (nI h) m = some (nI (mvc T c t h)) := by
  have hp := p5_le (show t ≤ 5 by omega)
  have hP := p5_le hT
  have hq : c / 5 ^ t < 2 ^ 31 := Nat.lt_of_le_of_lt (Nat.div_le_self _ _) (by omega)
  have ar := mvc_ar (h := h) hc ht
  have hml := mvc_lt (T := T) (c := c) (t := t) hh
  unfold f_X6_after
  rw [place_sp (by omega), bd1_s, bd1_s, Gu_of (nz_n p5_pos (by omega)), Gu_of (show nz (5 : Int32) = true from rfl), n_div (by omega) (by omega), show (5 : Int32) = nI 5 from rfl, n_rem hq (by decide)]
  have e : nI (mvc T c t h) + nI (5 ^ t) * nI (dg 5 c t) = nI c + nI (5 ^ t) * nI h := by
    rw [n_mul, n_mul, nI_add, nI_add, Nat.mul_comm (5 ^ t) (dg 5 c t), Nat.mul_comm (5 ^ t) h, ar]
  have e2 : nI c + nI (5 ^ t) * (nI h - nI (c / 5 ^ t % 5)) = nI (mvc T c t h) := by
    show nI c + nI (5 ^ t) * (nI h - nI (dg 5 c t)) = _
    rw [Int32.mul_sub, Int32.sub_eq_add_neg, ← Int32.add_assoc, ← Int32.sub_eq_add_neg, ← e, Int32.add_sub_cancel]
  rw [e2]
theorem well_sp {F : Nat} {A : LT} {a : Nat → Nat} {m : MM} (hF : 50 ≤ F) (L : LM0 m A) (B : AB A) (S : SY A) (hl : ∀ i, i < A 6 1 → rI m 8 i = nI (a i)) (ha : ∀ i, i < A 6 1 → a i < 100) : ∃ r : Nat, r ≤ 1 ∧ f_X6_areWell F m = some (nI r) ∧ (r = 1 ↔ MAY A a) := by
  have b1 := B.1
  have b2 := B.2.1
  have b6 := B.2.2.2.2.2.1
  have key : ∀ k t f, t + k = A 6 1 → k < f → ∃ r : Nat, r ≤ 1 ∧ f_X6_areWell_L2 F m (fun x1_1 => some (1 : Int32)) f (nI t) = some (nI r) ∧ (r = 1 ↔ ∀ i, t ≤ i → i < A 6 1 → a i < A 6 0 ∧ (A 6 5 ≠ i + 1 → u_bar A a i (a i) = 0)) := by
    intro k
    induction k with
    | zero =>
      intro t f hk hf
      obtain ⟨f, rfl⟩ : ∃ z, f = z + 1 := ⟨f - 1, by omega⟩
      refine ⟨1, by omega, ?_, ⟨fun _ i h1 h2 => by omega, fun _ => rfl⟩⟩
      unfold f_X6_areWell_L2
      rw [L.2.1, if_pos (by rw [n_le (by omega) (by omega)]; omega)]
      rfl
    | succ k ih =>
      intro t f hk hf
      obtain ⟨f, rfl⟩ : ∃ z, f = z + 1 := ⟨f - 1, by omega⟩
      have ht : t < A 6 1 := by omega
      have hat := ha t ht
      have gt := inB_n (by omega : t < 5) (by decide : 5 ≤ 2 ^ 31)
      have hxt : ix (nI t) = t := ix_n (by omega)
      obtain ⟨r, r1, r2, r3⟩ := ih (t + 1) f (by omega) (by omega)
      have more : (∀ i, t ≤ i → i < A 6 1 → a i < A 6 0 ∧ (A 6 5 ≠ i + 1 → u_bar A a i (a i) = 0)) ↔ ((a t < A 6 0 ∧ (A 6 5 ≠ t + 1 → u_bar A a t (a t) = 0)) ∧ ∀ i, t + 1 ≤ i → i < A 6 1 → a i < A 6 0 ∧ (A 6 5 ≠ i + 1 → u_bar A a i (a i) = 0)) := by
        constructor
        · exact fun h => ⟨h t (Nat.le_refl _) ht, fun i h1 h2 => h i (by omega) h2⟩
        · rintro ⟨h1, h2⟩ i h3 h4
          by_cases c : i = t
          · rw [c]; exact h1
          · exact h2 i (by omega) h4
      by_cases c1 : a t < A 6 0
      · by_cases c2 : A 6 5 = t + 1
        · refine ⟨r, r1, ?_, ?_⟩
          · conv => lhs; unfold f_X6_areWell_L2
            rw [L.2.1, if_neg (n_head (n := 0) b2 ht), Gu_of gt, hxt, hl t ht, hhM L.1 b1 c1, bd1_s, i_el, L.2.2.2.2.2.1, if_pos (by rw [g_eq (by omega) (by omega)]; exact c2), Lt_d, n_s]
            exact r2
          · rw [r3, more]
            exact ⟨fun h => ⟨⟨c1, fun z => absurd c2 z⟩, h⟩, fun h => h.2⟩
        · have hu := u_bar_lt (A := A) (a := a) (t := t) (h := a t)
          have unf : f_X6_areWell_L2 F m (fun x1_1 => some (1 : Int32)) (f + 1) (nI t) = if nI (u_bar A a t (a t)) = 0 then f_X6_areWell_L2 F m (fun x1_1 => some (1 : Int32)) f (nI (t + 1)) else some 0 := by
            conv => lhs; unfold f_X6_areWell_L2
            rw [L.2.1, if_neg (n_head (n := 0) b2 ht), Gu_of gt, hxt, hl t ht, hhM L.1 b1 c1, bd1_s, i_el, L.2.2.2.2.2.1, if_neg (by rw [g_eq (by omega) (by omega)]; exact c2), Gu_of gt, barsThingM0 (by omega) L B hl ha ht c1, bd1_s]
            simp only [Lt_d, n_s]
          by_cases c3 : u_bar A a t (a t) = 0
          · refine ⟨r, r1, ?_, ?_⟩
            · rw [unf, if_pos ((n_z (by omega)).mpr c3)]
              exact r2
            · rw [r3, more]
              exact ⟨fun h => ⟨⟨c1, fun _ => c3⟩, h⟩, fun h => h.2⟩
          · refine ⟨0, by omega, ?_, ⟨fun z => by omega, fun h => absurd ((more.mp h).1.2 c2) c3⟩⟩
            rw [unf, if_neg (by rw [n_z (by omega)]; exact c3)]
            rfl
      · refine ⟨0, by omega, ?_, ⟨fun z => by omega, fun h => absurd (more.mp h).1.1 c1⟩⟩
        conv => lhs; unfold f_X6_areWell_L2
        rw [L.2.1, if_neg (n_head (n := 0) b2 ht), Gu_of gt, hxt, hl t ht, hhM0 L.1 b1 (by rw [nI_toInt (by omega)]; omega), bd1_s, i_if]
        rfl
  obtain ⟨r, r1, r2, r3⟩ := key (A 6 1) 0 F (by omega) (by omega)
  refine ⟨r, r1, r2, ?_⟩
  rw [r3, MAY_bar S]
  exact ⟨fun h i hi => h i (Nat.zero_le _) hi, fun h i _ hi => h i hi⟩
