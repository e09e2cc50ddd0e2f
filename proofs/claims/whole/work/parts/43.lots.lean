/-! THE ABSTRACT LOT: rows 0 kind, 1 number, 2 size, 3 dry, 4 apart, 5 lies; row 6: 0 holds, 1 things, 2 key + 1, 3 free, 4 rule, 5 gone + 1, 6 wider + 1 -/
abbrev LT : Type := Nat → Nat → Nat
def u_rm0 (k v : Nat) : Nat := if k = 1 then v + 3 else if k = 2 ∨ k = 5 then 2 * (v + 6) else if k = 3 then (v + 3) / 2 else if k = 4 then v + 1 else v + 6
def u_rm (A : LT) (h : Nat) : Nat := u_rm0 (A 0 h) (A 1 h) + (if A 6 6 = h + 1 then 1 else 0)
def u_mo (k : Nat) : Nat := if k = 1 then 3 else if k = 3 ∨ k = 4 then 1 else 5
def u_we (k : Nat) : Nat := if k = 5 then 1 else 0
def u_op (k : Nat) : Nat := if k = 1 then 1 else 0
def u_un (k : Nat) : Nat := if k = 0 then 0 else if k = 3 then 2 else if k = 4 ∨ k = 5 then 3 else 1
/-- thing i lies in h, by the row a of holds -/
def u_p (A : LT) (a : Nat → Nat) (h i : Nat) : Bool := !(A 6 5 == i + 1) && a i == h
def u_rf (su ct rm kd dr bits : Nat) : Nat := if rm < su then 2 else if u_mo kd < ct then 3 else if dr = 1 ∧ u_we kd = 1 then 4 else if bits = 0 then 0 else 5
def LC (m : MM) (k : Nat) (A : LT) : Prop := rI m k 7 = nI (A 6 0) ∧ rI m k 8 = nI (A 6 1) ∧ rI m k 9 = nI (A 6 2) - 1 ∧ rI m k 10 = nI (A 6 3) ∧ rI m k 11 = nI (A 6 4) ∧ rI m k 12 = nI (A 6 5) - 1 ∧ (∀ i, i < A 6 0 → rI m (k + 1) i = nI (A 0 i) ∧ rI m (k + 2) i = nI (A 1 i) ∧ rI m (k + 3) i = nI (u_rm A i)) ∧ (∀ i, i < A 6 1 → rI m (k + 4) i = nI (A 2 i) ∧ rI m (k + 5) i = nI (A 3 i) ∧ rI m (k + 6) i = nI (A 4 i) ∧ rI m (k + 7) i = nI (A 5 i))
def LM (m : MM) (A : LT) : Prop := rI m 0 9 = nI (A 6 0) ∧ rI m 0 14 = nI (A 6 1) ∧ rI m 0 15 = nI (A 6 2) - 1 ∧ rI m 0 16 = nI (A 6 3) ∧ rI m 0 4 = nI (A 6 4) ∧ rI m 0 18 = nI (A 6 5) - 1 ∧ rI m 0 17 = nI (A 6 6) - 1 ∧ (∀ i, i < A 6 0 → rI m 4 i = nI (A 0 i) ∧ rI m 5 i = nI (A 1 i)) ∧ (∀ i, i < A 6 1 → rI m 6 i = nI (A 2 i) ∧ rI m 7 i = nI (A 3 i) ∧ rI m 9 i = nI (A 4 i) ∧ rI m 8 i = nI (A 5 i))
/-- the bounds of a lot -/
def AB (A : LT) : Prop := A 6 0 ≤ 5 ∧ A 6 1 ≤ 5 ∧ A 6 2 ≤ A 6 1 ∧ A 6 3 ≤ 3 ∧ A 6 4 < 6 ∧ A 6 5 ≤ A 6 1 ∧ A 6 6 ≤ A 6 0 ∧ (∀ i, i < A 6 0 → A 0 i < 6 ∧ A 1 i < 10) ∧ (∀ i, i < A 6 1 → 1 ≤ A 2 i ∧ A 2 i ≤ 9 ∧ A 3 i < 2 ∧ A 4 i < 2 ^ A 6 1 ∧ A 5 i < A 6 0)
/-- all lie well by the row a -/
def MAY (A : LT) (a : Nat → Nat) : Prop := (∀ i, i < A 6 1 → a i < A 6 0) ∧ (∀ h, h < A 6 0 → smP (u_p A a h) (A 2) (A 6 1) ≤ u_rm A h ∧ ctP (u_p A a h) (A 6 1) ≤ u_mo (A 0 h)) ∧ (∀ i, i < A 6 1 → A 6 5 ≠ i + 1 → ¬ (A 3 i = 1 ∧ u_we (A 0 (a i)) = 1)) ∧ (∀ i j, i < A 6 1 → j < A 6 1 → A 6 5 ≠ i + 1 → A 6 5 ≠ j + 1 → a i = a j → (A 4 i).testBit j = false)
/-- what is apart is so both ways, and none from itself -/
def SY (A : LT) : Prop := ∀ i j, i < A 6 1 → j < A 6 1 → (A 4 i).testBit j = (A 4 j).testBit i ∧ (A 4 i).testBit i = false
def AV (A : LT) : Prop := AB A ∧ SY A ∧ MAY A (A 5) ∧ A 6 5 = 0 ∧ A 6 6 = 0
theorem u_rm0_lt {k v : Nat} (h : v < 10) : u_rm0 k v < 32 := by
  unfold u_rm0
  repeat' split
  all_goals omega
theorem u_rm_lt {A : LT} {h : Nat} (hv : A 1 h < 10) : u_rm A h < 33 := by
  unfold u_rm
  have := u_rm0_lt (k := A 0 h) hv
  split <;> omega
theorem st1 : ∀ k, k < 6 → stT 1 k = nI (u_mo k) := by decide +kernel
theorem st2 : ∀ k, k < 6 → stT 2 k = nI (u_we k) := by decide +kernel
theorem st3 : ∀ k, k < 6 → stT 3 k = nI (u_op k) := by decide +kernel
theorem st0 : ∀ k, k < 6 → stT 0 k = nI (u_un k) - 1 := by decide +kernel
theorem u_mo_le (k : Nat) : u_mo k ≤ 5 := by
  unfold u_mo
  repeat' split
  all_goals omega
theorem u_we_le (k : Nat) : u_we k ≤ 1 := by
  unfold u_we
  split <;> omega
theorem u_op_le (k : Nat) : u_op k ≤ 1 := by
  unfold u_op
  split <;> omega
theorem n_0 : (0 : Int32) = nI 0 := rfl
theorem n_z {a : Nat} (h : a < 2 ^ 31) : nI a = 0 ↔ a = 0 := n_eq (b := 0) h (by decide)
theorem n_1 {a : Nat} (h : a < 2 ^ 31) : nI a = 1 ↔ a = 1 := n_eq (b := 1) h (by decide)
/-- the component's refusal -/
theorem refusal_C {m : MM} {k T t h F : Nat} {p : Nat → Bool} {z : Nat → Nat} {rm kd dr ap : Nat} (hF : 6 ≤ F) (hT : rI m k 8 = nI T) (h5 : T ≤ 5) (ht : t < 5) (hh : h < 5) (hp : ∀ i, i < T → (p i = true ↔ rI m (k + 7) i = nI h)) (hz : ∀ i, i < T → p i = true → rI m (k + 4) i = nI (z i)) (hzb : ∀ i, i < T → z i ≤ 9) (ht4 : rI m (k + 4) t = nI (z t)) (htb : z t ≤ 9) (hrm : rI m (k + 3) h = nI rm) (hrb : rm < 100) (hkd : rI m (k + 1) h = nI kd) (hkb : kd < 6) (hap : rI m (k + 6) t = nI ap) (hab : ap < 32) (hdr : rI m (k + 5) t = nI dr) (hdb : dr < 2) :
    f_X0_refusal F k (nI t) (nI h) m = some (if rI m (k + 7) t = nI h then 1 else nI (u_rf (z t + smP p z T) (1 + ctP p T) rm kd dr (ap &&& mkP p T))) := by
  unfold f_X0_refusal
  have hx : ix (nI t) = t := ix_n (by omega)
  have hy : ix (nI h) = h := ix_n (by omega)
  have hk : ix (nI kd) = kd := ix_n (by omega)
  have g1 : inB (nI t) 5 = true := inB_n ht (by decide)
  have g2 : inB (nI h) 5 = true := inB_n hh (by decide)
  have g3 : inB (nI kd) 6 = true := inB_n hkb (by decide)
  rw [Gu_of g1, hx]
  by_cases h1 : rI m (k + 7) t = nI h
  · rw [if_pos h1, if_pos h1]
  · rw [if_neg h1, if_neg h1, Gu_of g1, Lt_d, ht4]
    have q := refuse_L (z := z) (a1 := nI h) hT h5 hp hz (fun x3_2 x4_3 x5_4 x6_5 => Gu (inB (nI h) 5) <| if x3_2 ≤ (rI m (k + 3) (ix (nI h))) then Gu (inB (nI h) 5) <| Gu (inB (rI m (k + 1) (ix (nI h))) 6) <| if x4_3 ≤ (stT 1 (ix (rI m (k + 1) (ix (nI h))))) then Gu (inB (nI t) 5) <| Jp (Gu (inB (nI t) 5) <| if ((rI m (k + 6) t) &&& x5_4) = 0 then some (0 : Int32) else some (5 : Int32)) fun J12 => if (rI m (k + 5) t) = (1 : Int32) then Gu (inB (nI h) 5) <| Gu (inB (rI m (k + 1) (ix (nI h))) 6) <| if (stT 2 (ix (rI m (k + 1) (ix (nI h))))) = (1 : Int32) then some (4 : Int32) else J12 else J12 else some (3 : Int32) else some (2 : Int32)) (z t) 1 T 0 F (by omega) (by omega)
    refine q.trans ?_
    have b1 := smP_le (p := p) hzb
    have b2 := ctP_le (p := p) T
    have b3 : T * 9 ≤ 45 := by omega
    have b4 := u_mo_le kd
    rw [Gu_of g2, hy, hrm]
    unfold u_rf
    by_cases c1 : rm < z t + smP p z T
    · rw [if_neg (by rw [n_le (by omega) (by omega)]; omega), if_pos c1]
      rfl
    · rw [if_pos ((n_le (by omega) (by omega)).mpr (by omega)), if_neg c1, Gu_of g2, hkd, Gu_of g3, hk, st1 kd hkb]
      by_cases c2 : u_mo kd < 1 + ctP p T
      · rw [if_neg (by rw [n_le (by omega) (by omega)]; omega), if_pos c2]
        rfl
      · rw [if_pos ((n_le (by omega) (by omega)).mpr (by omega)), if_neg c2, Gu_of g1, Jp_d, Gu_of g1, hap, n_and, hdr, Gu_of g2, Gu_of g3, st2 kd hkb]
        have b5 : ap &&& mkP p T < 2 ^ 31 := Nat.lt_of_le_of_lt Nat.and_le_left (by omega)
        have b6 := u_we_le kd
        simp only [n_z b5, n_1 (show dr < 2 ^ 31 by omega), n_1 (show u_we kd < 2 ^ 31 by omega)]
        by_cases c3 : dr = 1 <;> by_cases c4 : u_we kd = 1 <;> by_cases c5 : ap &&& mkP p T = 0 <;> simp [c3, c4, c5] <;> rfl
/-- bits of a mask that was made from p -/
theorem mk_sm {p : Nat → Bool} {z : Nat → Nat} {T : Nat} : smP (fun i => (mkP p T).testBit i) z T = smP p z T := smP_cong (fun i hi => mkP_bit p hi) (fun i hi _ => rfl)
theorem ct_hi {p : Nat → Bool} : ∀ {n m : Nat}, n ≤ m → (∀ i, n ≤ i → i < m → p i = false) → ctP p m = ctP p n
  | n, 0, h, _ => by
    obtain rfl : n = 0 := by omega
    rfl
  | n, m + 1, h, g => by
    by_cases e : n = m + 1
    · rw [e]
    · have q : ctP p (m + 1) = ctP p m + (if p m = true then 1 else 0) := rfl
      rw [q, ct_hi (by omega) (fun i h1 h2 => g i h1 (by omega)), g m (by omega) (by omega)]
      rfl
theorem mk_ct {p : Nat → Bool} {T : Nat} (h : T ≤ 5) : ctP (fun i => (mkP p T).testBit i) 5 = ctP p T := by
  rw [ct_hi h (fun i h1 _ => Nat.testBit_lt_two_pow (Nat.lt_of_lt_of_le (mkP_lt p T) (Nat.pow_le_pow_right (by decide) h1)))]
  exact ctP_cong (fun i hi => mkP_bit p hi)
theorem mk_32 {p : Nat → Bool} {T : Nat} (h : T ≤ 5) : mkP p T < 32 := Nat.lt_of_lt_of_le (mkP_lt p T) (Nat.pow_le_pow_right (by decide) h : 2 ^ T ≤ 2 ^ 5)
/-- the model's hold: room, most, wet, opens -/
theorem div2_k : ∀ n, n < 32 → nI n / 2 = nI (n / 2) := by decide +kernel
theorem roomM {m : MM} {A : LT} {h : Nat} (L : LM m A) (B : AB A) (hh : h < A 6 0) : f_X6_roomOf (nI h) m = some (nI (u_rm A h)) := by
  obtain ⟨l1, l2, l3, l4, l5, l6, l7, l8, l9⟩ := L
  obtain ⟨b1, b2, b3, b4, b5, b6, b7, b8, b9⟩ := B
  have hx : ix (nI h) = h := ix_n (by omega)
  have hb := b8 h hh
  unfold f_X6_roomOf
  rw [Gu_of (inB_n (by omega : h < 5) (by decide)), hx, Lt_d, Gu_of (inB_n (by omega : h < 5) (by decide)), Lt_d, Jp_d, (l8 h hh).1, (l8 h hh).2, l7]
  have hw : (nI h = nI (A 6 6) - 1) ↔ A 6 6 = h + 1 := by
    rw [i_eq, i_sub, nI_toInt (by omega), nI_toInt (by omega)]
    · have : (1 : Int32).toInt = 1 := rfl
      omega
    · rw [nI_toInt (by omega)]; have : (1 : Int32).toInt = 1 := rfl; omega
    · rw [nI_toInt (by omega)]; have : (1 : Int32).toInt = 1 := rfl; omega
  have key : ∀ k, k < 6 → ∀ v, v < 10 → ∀ G : Int32 → Option Int32, (if nI k = 0 then G (nI v + 6) else if nI k = 1 then G (nI v + 6 - 3) else Jp (G (2 * (nI v + 6))) fun J5 => if nI k = 2 then J5 else if nI k = 5 then J5 else if nI k = 3 then Gu (nz 2) <| G ((nI v + 6 - 3) / 2) else Gu (inB (nI h) 5) <| G (nI v + 1)) = G (nI (u_rm0 k v)) := by
    intro k hk v hv G
    rw [Gu_of (inB_n (by omega : h < 5) (by decide))]
    have e1 : ∀ v, v < 10 → nI v + 6 = nI (v + 6) := fun v _ => nI_add v 6
    have e2 : ∀ v, v < 10 → nI v + 6 - 3 = nI (v + 3) := by decide +kernel
    have e3 : ∀ v, v < 10 → 2 * (nI v + 6) = nI (2 * (v + 6)) := by decide +kernel
    rw [e2 v hv, e3 v hv, e1 v hv, div2_k _ (by omega), n_s, Jp_d]
    unfold u_rm0
    rcases (show k = 0 ∨ k = 1 ∨ k = 2 ∨ k = 3 ∨ k = 4 ∨ k = 5 by omega) with rfl | rfl | rfl | rfl | rfl | rfl <;> rfl
  refine (key _ hb.1 _ hb.2 (fun s3 => if nI h = nI (A 6 6) - 1 then some (s3 + 1) else some s3)).trans ?_
  unfold u_rm
  by_cases c : A 6 6 = h + 1
  · rw [if_pos (hw.mpr c), if_pos c, n_s]
  · rw [if_neg (fun q => c (hw.mp q)), if_neg c, Nat.add_zero]
theorem mostM {m : MM} {A : LT} {h : Nat} (L : LM m A) (B : AB A) (hh : h < A 6 0) : f_X6_mostOf (nI h) m = some (nI (u_mo (A 0 h))) := by
  have hb := B.2.2.2.2.2.2.2.1 h hh
  have hH := B.1
  have hx : ix (nI h) = h := ix_n (by omega)
  unfold f_X6_mostOf
  rw [Gu_of (inB_n (by omega : h < 5) (by decide)), hx, Lt_d, (L.2.2.2.2.2.2.2.1 h hh).1]
  have key : ∀ k, k < 6 → (if nI k = 1 then some (3 : Int32) else if nI k = 3 then some (1 : Int32) else if nI k = 4 then some (1 : Int32) else some (5 : Int32)) = some (nI (u_mo k)) := by decide +kernel
  exact key _ hb.1
theorem wetM {m : MM} {A : LT} {h : Nat} (L : LM m A) (B : AB A) (hh : h < A 6 0) : f_X6_wetOf (nI h) m = some (nI (u_we (A 0 h))) := by
  have hb := B.2.2.2.2.2.2.2.1 h hh
  have hH := B.1
  have hx : ix (nI h) = h := ix_n (by omega)
  unfold f_X6_wetOf
  rw [Gu_of (inB_n (by omega : h < 5) (by decide)), hx, (L.2.2.2.2.2.2.2.1 h hh).1]
  have key : ∀ k, k < 6 → (if nI k = 5 then some (1 : Int32) else some (0 : Int32)) = some (nI (u_we k)) := by decide +kernel
  exact key _ hb.1
theorem opensM {m : MM} {A : LT} {h : Nat} (L : LM m A) (B : AB A) (hh : h < A 6 0) : f_X6_opensOf (nI h) m = some (nI (u_op (A 0 h))) := by
  have hb := B.2.2.2.2.2.2.2.1 h hh
  have hH := B.1
  have hx : ix (nI h) = h := ix_n (by omega)
  unfold f_X6_opensOf
  rw [Gu_of (inB_n (by omega : h < 5) (by decide)), hx, (L.2.2.2.2.2.2.2.1 h hh).1]
  have key : ∀ k, k < 6 → (if nI k = 1 then some (1 : Int32) else some (0 : Int32)) = some (nI (u_op k)) := by decide +kernel
  exact key _ hb.1
/-- the model's bars -/
theorem barsM {m : MM} {A : LT} {h s d ap F : Nat} {p : Nat → Bool} (hF : 7 ≤ F) (L : LM m A) (B : AB A) (hh : h < A 6 0) (hs : s ≤ 9) (hd : d < 2) (ha : ap < 32) : f_X6_bars F (nI s) (nI d) (nI ap) (nI h) (nI (mkP p (A 6 1))) m = some (nI (u_rf (s + smP p (A 2) (A 6 1)) (1 + ctP p (A 6 1)) (u_rm A h) (A 0 h) d (ap &&& mkP p (A 6 1)))) := by
  have hb := B.2.2.2.2.2.2.2.1 h hh
  have h5 := B.2.1
  have h9 : ∀ i, i < A 6 1 → A 2 i ≤ 9 := fun i hi => (B.2.2.2.2.2.2.2.2 i hi).2.1
  have hm := mk_32 (p := p) h5
  obtain ⟨F, rfl⟩ : ∃ k, F = k + 6 := ⟨F - 6, by omega⟩
  unfold f_X6_bars
  rw [sizeOf_sp (z := A 2) (by omega) L.2.1 h5 hm (fun i hi _ => (L.2.2.2.2.2.2.2.2 i hi).1), bd1_s, roomM L B hh, bd1_s, mk_sm, nI_add, pop_k _ hm, bd1_s, mostM L B hh, bd1_s, mk_ct h5, n_s, Jp_d, wetM L B hh, bd1_s, n_and]
  have b1 := smP_le (p := p) h9
  have b2 := ctP_le (p := p) (A 6 1)
  have b3 : A 6 1 * 9 ≤ 45 := by omega
  have b4 := u_mo_le (A 0 h)
  have b5 : ap &&& mkP p (A 6 1) < 2 ^ 31 := Nat.lt_of_le_of_lt Nat.and_le_left (by omega)
  have b6 := u_we_le (A 0 h)
  have b7 := u_rm_lt hb.2
  rw [Nat.and_comm] at b5
  simp only [n_le (show smP p (A 2) (A 6 1) + s < 2 ^ 31 by omega) (show u_rm A h < 2 ^ 31 by omega), n_le (show ctP p (A 6 1) + 1 < 2 ^ 31 by omega) (show u_mo (A 0 h) < 2 ^ 31 by omega), n_z b5, n_1 (show d < 2 ^ 31 by omega), n_1 (show u_we (A 0 h) < 2 ^ 31 by omega)]
  unfold u_rf
  rw [Nat.and_comm ap, Nat.add_comm s, Nat.add_comm 1]
  by_cases c1 : u_rm A h < smP p (A 2) (A 6 1) + s
  · rw [if_neg (by omega), if_pos c1]; rfl
  · rw [if_pos (by omega), if_neg c1]
    by_cases c2 : u_mo (A 0 h) < ctP p (A 6 1) + 1
    · rw [if_neg (by omega), if_pos c2]; rfl
    · rw [if_pos (by omega), if_neg c2]
      by_cases c3 : d = 1 <;> by_cases c4 : u_we (A 0 h) = 1 <;> by_cases c5 : mkP p (A 6 1) &&& ap = 0 <;> simp [c3, c4, c5] <;> rfl
