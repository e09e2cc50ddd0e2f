/-! GATHERS: what eases -/
noncomputable def u_wl (A : LT) (c : Nat) : Bool := @decide (MAY A (dg 5 c)) (Classical.propDecidable _)
theorem wl_t {A : LT} {c : Nat} : u_wl A c = true ↔ MAY A (dg 5 c) := @decide_eq_true_iff _ (Classical.propDecidable _)
def ph (A : LT) (c : Nat) : Nat := enc (A 6 0) (fun i => if A 6 5 = i + 1 then 0 else dg 5 c i) (A 6 1)
def ps (A : LT) (s : Nat) : Nat := enc 5 (fun i => if A 6 5 = i + 1 then A 5 i else dg (A 6 0) s i) (A 6 1)
def srcO (A : LT) (s : Nat) : Prop := s < (A 6 0) ^ (A 6 1) ∧ u_mk A s = 2
abbrev FAR : Nat := 99999999
theorem ph_lt {A : LT} {c : Nat} (M : MAY A (dg 5 c)) : ∀ i, i < A 6 1 → (if A 6 5 = i + 1 then 0 else dg 5 c i) < A 6 0 := fun i hi => by
  have := M.1 i hi
  split <;> omega
theorem ph_dg {A : LT} {c : Nat} (M : MAY A (dg 5 c)) {i : Nat} (hi : i < A 6 1) : dg (A 6 0) (ph A c) i = if A 6 5 = i + 1 then 0 else dg 5 c i := enc_dg (by have := M.1 i hi; omega) (fun j hj => ph_lt M j hj) hi
theorem ph_N {A : LT} {c : Nat} (M : MAY A (dg 5 c)) : ph A c < (A 6 0) ^ (A 6 1) := enc_lt (fun j hj => ph_lt M j hj)
theorem ph_val {A : LT} {c : Nat} (B : AB A) (M : MAY A (dg 5 c)) : u_val A (ph A c) = true := by
  refine val_t.mpr ⟨MAY_cong (a := dg 5 c) (fun i hi => by rw [ph_dg M hi]; exact ph_lt M i hi) (fun i hi hg => by rw [ph_dg M hi, if_neg hg]) M, fun hg => ?_⟩
  have b6 := B.2.2.2.2.2.1
  rw [ph_dg M (by omega), if_pos (by omega)]
theorem ps_dg {A : LT} {s : Nat} (B : AB A) {i : Nat} (hi : i < A 6 1) : dg 5 (ps A s) i = if A 6 5 = i + 1 then A 5 i else dg (A 6 0) s i := enc_dg (by decide) (fun j hj => by
  have b1 := B.1
  have q := (B.2.2.2.2.2.2.2.2 j hj).2.2.2.2
  have := dg_lt (b := A 6 0) (c := s) (t := j) (by omega)
  split <;> omega) hi
theorem ps_N {A : LT} {s : Nat} (B : AB A) : ps A s < 5 ^ (A 6 1) := enc_lt (fun j hj => by
  have b1 := B.1
  have q := (B.2.2.2.2.2.2.2.2 j hj).2.2.2.2
  have := dg_lt (b := A 6 0) (c := s) (t := j) (by omega)
  split <;> omega)
theorem ps_wl {A : LT} {s : Nat} (B : AB A) (h : u_val A s = true) : u_wl A (ps A s) = true := by
  refine wl_t.mpr (MAY_cong (a := dg (A 6 0) s) (fun i hi => ?_) (fun i hi hg => by rw [ps_dg B hi, if_neg hg]) (val_t.mp h).1)
  have q := (B.2.2.2.2.2.2.2.2 i hi).2.2.2.2
  rw [ps_dg B hi]
  split
  · exact q
  · exact dg_lt (by omega)
theorem ph_ps {A : LT} {s : Nat} (B : AB A) (h : u_val A s = true) (hs : s < (A 6 0) ^ (A 6 1)) : ph A (ps A s) = s := by
  have M := wl_t.mp (ps_wl B h)
  refine dg_ext (ph_N M) hs (fun i hi => ?_)
  rw [ph_dg M hi]
  by_cases c : A 6 5 = i + 1
  · rw [if_pos c]
    have := (val_t.mp h).2 (by omega)
    rw [c, Nat.add_sub_cancel] at this
    exact this.symm
  · rw [if_neg c, ps_dg B hi, if_neg c]
theorem edge_c {A : LT} {c t h : Nat} (B : AB A) (hw : u_wl A c = true) (ht : t < A 6 1) (hg : A 6 5 ≠ t + 1) (hh : h < A 6 0) (hne : h ≠ dg 5 c t) (hw2 : u_wl A (mvc (A 6 1) c t h) = true) : (ph A c, (t * 5 + dg 5 c t) * 5 + h) ∈ nb A (ph A (mvc (A 6 1) c t h)) := by
  have b1 := B.1
  have M := wl_t.mp hw
  have M2 := wl_t.mp hw2
  have h5 : h < 5 := by omega
  have ec : ∀ i, i < A 6 1 → dg 5 (mvc (A 6 1) c t h) i = if i = t then h else dg 5 c i := fun i hi => mvc_dg h5 hi
  have e1 : dg (A 6 0) (ph A (mvc (A 6 1) c t h)) t = h := by
    rw [ph_dg M2 ht, if_neg hg, ec t ht, if_pos rfl]
  have hf := M.1 t ht
  have e2 : mvp A (ph A (mvc (A 6 1) c t h)) t (dg 5 c t) = ph A c := by
    refine dg_ext (mvp_lt hf) (ph_N M) (fun i hi => ?_)
    rw [mvp_dg hf hi, ph_dg M hi, ph_dg M2 hi, ec i hi]
    by_cases ci : i = t
    · rw [if_pos ci, ci, if_neg hg]
    · rw [if_neg ci, if_neg ci]
  refine nbA_mem.mpr ⟨t, dg 5 c t, ht, hf, ?_, ?_, ?_⟩
  · rw [e1]
    exact fun z => hne z.symm
  · rw [e2]
    exact ph_val B M
  · rw [e2, e1]
/-- the rows of the model's numbers -/
def AR (m : MM) (A : LT) (pr : Nat → Nat) (f g : Nat → Nat) : Prop := (∀ c, c < 5 ^ (A 6 1) → rI m 11 c = nI (if u_wl A c = true then 1 else 0)) ∧ (∀ c, c < 5 ^ (A 6 1) → rI m 12 c = nI (f c) ∧ rI m 13 c = nI (g c)) ∧ (∀ t a b, t < A 6 1 → a < A 6 0 → b < A 6 0 → rI m 14 (25 * t + 5 * a + b) = nI (pr ((t * 5 + a) * 5 + b)))
def one : Nat → Nat := fun _ => 1
def GI (A : LT) (pr : Nat → Nat) (f g : Nat → Nat) : Prop := ∀ c, c < 5 ^ (A 6 1) → f c ≤ FAR ∧ g c ≤ FAR ∧ (u_wl A c = true → (f c < FAR → ∃ n, RD A one (srcO A) n (ph A c) (f c)) ∧ (g c < FAR → ∃ n, RD A pr (srcO A) n (ph A c) (g c)) ∧ (u_open A (dg 5 c) = true → f c = 0 ∧ g c = 0))
/-- at c no move eases -/
def CLt (A : LT) (pr : Nat → Nat) (f g : Nat → Nat) (c t h : Nat) : Prop := A 6 5 ≠ t + 1 → h ≠ dg 5 c t → u_wl A (mvc (A 6 1) c t h) = true → f c ≤ f (mvc (A 6 1) c t h) + 1 ∧ g c ≤ g (mvc (A 6 1) c t h) + pr ((t * 5 + dg 5 c t) * 5 + h)
def JE (A : LT) (pr : Nat → Nat) (c : Nat) (m0 : MM) (f0 g0 : Nat → Nat) (is : Nat) (m : MM) (f g : Nat → Nat) : Prop := (∀ x, x ≠ c → f x = f0 x ∧ g x = g0 x) ∧ f c ≤ f0 c ∧ g c ≤ g0 c ∧ ((is = 0 ∧ f c = f0 c ∧ g c = g0 c) ∨ (is = 1 ∧ f c + g c < f0 c + g0 c)) ∧ GI A pr f g ∧ AR m A pr f g ∧ (∀ q, q ≠ 12 → q ≠ 13 → m.1 q = m0.1 q)
theorem mvc_ne {T c t h : Nat} (hh : h < 5) (ht : t < T) (hne : h ≠ dg 5 c t) : mvc T c t h ≠ c := by
  intro e
  have := mvc_dg (c := c) (t := t) hh ht
  rw [e, if_pos rfl] at this
  exact hne this.symm
/-- one move is looked at -/
theorem JE_step {A : LT} {pr : Nat → Nat} {c t h : Nat} {m0 m : MM} {f0 g0 f g : Nat → Nat} {is : Nat} (B : AB A) (hpr : ∀ k, k < 125 → pr k ≤ 99) (hc : c < 5 ^ (A 6 1)) (hw : u_wl A c = true) (ht : t < A 6 1) (hh : h < A 6 0) (hg : A 6 5 ≠ t + 1) (hne : h ≠ dg 5 c t) (hw2 : u_wl A (mvc (A 6 1) c t h) = true) (J : JE A pr c m0 f0 g0 is m f g) (K : Int32 → MM → Option (Int32 × MM)) : ∃ is' f' g' m', (Jp (fun (x2_15 : Int32) (m16 : MM) => Gu (inB (nI (mvc (A 6 1) c t h)) 3125) <| Gu (inB ((((25 : Int32) * nI t) + ((5 : Int32) * nI (dg 5 c t))) + nI h) 125) <| Gu (inB (nI c) 3125) <| if (rI m16 13 (ix (nI c))) ≤ ((rI m16 13 (ix (nI (mvc (A 6 1) c t h)))) + (rI m16 14 (ix ((((25 : Int32) * nI t) + ((5 : Int32) * nI (dg 5 c t))) + nI h)))) then K x2_15 m16 else Gu (inB (nI (mvc (A 6 1) c t h)) 3125) <| Gu (inB ((((25 : Int32) * nI t) + ((5 : Int32) * nI (dg 5 c t))) + nI h) 125) <| Gu (inB (nI c) 3125) <| Lt (wI m16 13 (ix (nI c)) ((rI m16 13 (ix (nI (mvc (A 6 1) c t h)))) + (rI m16 14 (ix ((((25 : Int32) * nI t) + ((5 : Int32) * nI (dg 5 c t))) + nI h))))) fun m19 => K (1 : Int32) m19) fun J17 => if (rI m 12 (ix (nI c))) ≤ ((rI m 12 (ix (nI (mvc (A 6 1) c t h)))) + (1 : Int32)) then J17 (nI is) m else Gu (inB (nI (mvc (A 6 1) c t h)) 3125) <| Gu (inB (nI c) 3125) <| Lt (wI m 12 (ix (nI c)) ((rI m 12 (ix (nI (mvc (A 6 1) c t h)))) + (1 : Int32))) fun m21 => J17 (1 : Int32) m21) = K (nI is') m' ∧ JE A pr c m0 f0 g0 is' m' f' g' ∧ f' c ≤ f c ∧ g' c ≤ g c ∧ (f' c ≤ f' (mvc (A 6 1) c t h) + 1 ∧ g' c ≤ g' (mvc (A 6 1) c t h) + pr ((t * 5 + dg 5 c t) * 5 + h)) := by
  have b1 := B.1
  have b2 := B.2.1
  have hP := p5_le b2
  have h5 : h < 5 := by omega
  have hyN := mvc_lt (T := A 6 1) (c := c) (t := t) h5
  have hyc := mvc_ne (T := A 6 1) h5 ht hne
  have ed := edge_c B hw ht hg hh hne hw2
  have hk : (t * 5 + dg 5 c t) * 5 + h < 125 := by
    have := dg_lt (b := 5) (c := c) (t := t) (by decide)
    omega
  have hp9 := hpr _ hk
  have hdl : dg 5 c t < A 6 0 := (wl_t.mp hw).1 t ht
  generalize hy : mvc (A 6 1) c t h = y at *
  generalize hd : dg 5 c t = d at *
  have gy := inB_n (by omega : y < 3125) (by decide : 3125 ≤ 2 ^ 31)
  have gc := inB_n (by omega : c < 3125) (by decide : 3125 ≤ 2 ^ 31)
  have hxy : ix (nI y) = y := ix_n (by omega)
  have hxc : ix (nI c) = c := ix_n (by omega)
  have e25 : (25 : Int32) * nI t + (5 : Int32) * nI d + nI h = nI (25 * t + 5 * d + h) := by
    rw [show (25 : Int32) = nI 25 from rfl, show (5 : Int32) = nI 5 from rfl, n_mul, n_mul, nI_add, nI_add]
  have gk := inB_n (by omega : 25 * t + 5 * d + h < 125) (by decide : 125 ≤ 2 ^ 31)
  have hxk : ix (nI (25 * t + 5 * d + h)) = 25 * t + 5 * d + h := ix_n (by omega)
  have hkk : (t * 5 + d) * 5 + h = 25 * t + 5 * d + h := by omega
  obtain ⟨j1, j2, j3, j4, j5, j6, j7⟩ := J
  obtain ⟨a1, a2, a3⟩ := id j6
  have gic := j5 c hc
  have giy := j5 y hyN
  have fc := (a2 c hc).1
  have fy := (a2 y hyN).1
  have FARd : FAR = 99999999 := rfl
  simp only [Jp_d, Lt_d, e25, hxy, hxc, hxk, Gu_of gy, Gu_of gc, Gu_of gk, fc, fy, n_s]
  -- few
  have few : ∃ is1 f1 m1, (∀ J : Int32 → MM → Option (Int32 × MM), (if nI (f c) ≤ nI (f y + 1) then J (nI is) m else J 1 (wI m 12 c (nI (f y + 1)))) = J (nI is1) m1) ∧ JE A pr c m0 f0 g0 is1 m1 f1 g ∧ f1 c ≤ f c ∧ f1 c ≤ f1 y + 1 ∧ f1 y = f y := by
    by_cases cf : f c ≤ f y + 1
    · exact ⟨is, f, m, fun J => if_pos ((n_le (by omega) (by omega)).mpr cf), ⟨j1, j2, j3, j4, j5, j6, j7⟩, Nat.le_refl _, cf, rfl⟩
    · have ey : up f c (f y + 1) y = f y := by rw [up_at, if_neg hyc]
      have ec : up f c (f y + 1) c = f y + 1 := by rw [up_at, if_pos rfl]
      refine ⟨1, up f c (f y + 1), wI m 12 c (nI (f y + 1)), fun J => if_neg (by rw [n_le (by omega) (by omega)]; exact cf), ⟨fun x hx => ?_, ?_, j3, ?_, fun x hx => ?_, ⟨fun x hx => (rI_ne (by decide)).trans (a1 x hx), fun x hx => ⟨?_, (rI_ne (by decide)).trans (a2 x hx).2⟩, fun t a b h1 h2 h3 => (rI_ne (by decide)).trans (a3 t a b h1 h2 h3)⟩, fun q h1 h2 => (row_ne h1).trans (j7 q h1 h2)⟩, by rw [ec]; omega, by rw [ec, ey]; omega, ey⟩
      · rw [up_at, if_neg hx]
        exact j1 x hx
      · rw [ec]
        omega
      · right
        rw [ec]
        omega
      · rw [up_at]
        by_cases cx : x = c
        · rw [if_pos cx, cx]
          refine ⟨by omega, gic.2.1, fun hwx => ⟨fun hlt => ?_, (gic.2.2 hwx).2.1, fun ho => ?_⟩⟩
          · obtain ⟨n, hn⟩ := (giy.2.2 hw2).1 (by omega)
            exact ⟨n + 1, ph A y, _, f y, hn, ed, rfl⟩
          · have := ((gic.2.2 hwx).2.2 ho).1
            omega
        · rw [if_neg cx]
          exact j5 x hx
      · rw [rI_w, up_at]
        by_cases cx : x = c
        · rw [if_pos ⟨rfl, cx⟩, if_pos cx]
        · rw [if_neg (fun z => cx z.2), if_neg cx]
          exact (a2 x hx).1
  obtain ⟨is1, f1, m1, k1, k2, k3, k4, k5⟩ := few
  obtain ⟨i1, i2, i3, i4, i5, i6, i7⟩ := id k2
  obtain ⟨c1, c2, c3⟩ := id i6
  have gc1 := i5 c hc
  have gy1 := i5 y hyN
  have e14 : rI m1 14 (25 * t + 5 * d + h) = nI (pr ((t * 5 + d) * 5 + h)) := c3 t d h ht hdl hh
  have fc1 := (c2 c hc).2
  have fy1 := (c2 y hyN).2
  have lit : ∃ is' g' m', (∀ J : Int32 → MM → Option (Int32 × MM), (if rI m1 13 c ≤ rI m1 13 y + rI m1 14 (25 * t + 5 * d + h) then J (nI is1) m1 else J 1 (wI m1 13 c (rI m1 13 y + rI m1 14 (25 * t + 5 * d + h)))) = J (nI is') m') ∧ JE A pr c m0 f0 g0 is' m' f1 g' ∧ g' c ≤ g c ∧ g' c ≤ g' y + pr ((t * 5 + d) * 5 + h) := by
    rw [e14, fc1, fy1, nI_add]
    by_cases cf : g c ≤ g y + pr ((t * 5 + d) * 5 + h)
    · exact ⟨is1, g, m1, fun J => if_pos ((n_le (by omega) (by omega)).mpr cf), k2, Nat.le_refl _, cf⟩
    · have ey : up g c (g y + pr ((t * 5 + d) * 5 + h)) y = g y := by rw [up_at, if_neg hyc]
      have ec : up g c (g y + pr ((t * 5 + d) * 5 + h)) c = g y + pr ((t * 5 + d) * 5 + h) := by rw [up_at, if_pos rfl]
      refine ⟨1, up g c (g y + pr ((t * 5 + d) * 5 + h)), wI m1 13 c (nI (g y + pr ((t * 5 + d) * 5 + h))), fun J => if_neg (by rw [n_le (by omega) (by omega)]; exact cf), ⟨fun x hx => ?_, i2, ?_, ?_, fun x hx => ?_, ⟨fun x hx => (rI_ne (by decide)).trans (c1 x hx), fun x hx => ⟨(rI_ne (by decide)).trans (c2 x hx).1, ?_⟩, fun t a b h1 h2 h3 => (rI_ne (by decide)).trans (c3 t a b h1 h2 h3)⟩, fun q h1 h2 => (row_ne h2).trans (i7 q h1 h2)⟩, by rw [ec]; omega, by rw [ec, ey]; omega⟩
      · rw [up_at, if_neg hx]
        exact i1 x hx
      · rw [ec]
        omega
      · right
        rw [ec]
        omega
      · rw [up_at]
        by_cases cx : x = c
        · rw [if_pos cx, cx]
          refine ⟨gc1.1, by omega, fun hwx => ⟨(gc1.2.2 hwx).1, fun hlt => ?_, fun ho => ?_⟩⟩
          · obtain ⟨n, hn⟩ := (gy1.2.2 hw2).2.1 (by omega)
            exact ⟨n + 1, ph A y, _, g y, hn, ed, rfl⟩
          · have := ((gc1.2.2 hwx).2.2 ho)
            omega
        · rw [if_neg cx]
          exact i5 x hx
      · rw [rI_w, up_at]
        by_cases cx : x = c
        · rw [if_pos ⟨rfl, cx⟩, if_pos cx]
        · rw [if_neg (fun z => cx z.2), if_neg cx]
          exact (c2 x hx).2
  obtain ⟨is', g', m', l1, l2, l3, l4⟩ := lit
  refine ⟨is', f1, g', m', ?_, l2, k3, l3, k4, l4⟩
  refine (k1 (fun x2_15 m16 => if rI m16 13 c ≤ rI m16 13 y + rI m16 14 (25 * t + 5 * d + h) then K x2_15 m16 else K 1 (wI m16 13 c (rI m16 13 y + rI m16 14 (25 * t + 5 * d + h))))).trans ?_
  exact l1 K
theorem eases_sp {F : Nat} {A : LT} {pr : Nat → Nat} {c : Nat} {m : MM} {f g : Nat → Nat} (hF : 50 ≤ F) (B : AB A) (L : LM0 m A) (hpr : ∀ k, k < 125 → pr k ≤ 99) (hc : c < 5 ^ (A 6 1)) (hw : u_wl A c = true) (G : GI A pr f g) (R : AR m A pr f g) : ∃ is f' g' m', f_X6_eases F (nI c) m = some (nI is, m') ∧ JE A pr c m f g is m' f' g' ∧ ∀ t h, t < A 6 1 → h < A 6 0 → CLt A pr f' g' c t h := by
  have b1 := B.1
  have b2 := B.2.1
  have b6 := B.2.2.2.2.2.1
  have hP := p5_le b2
  have J0 : JE A pr c m f g 0 m f g := ⟨fun x _ => ⟨rfl, rfl⟩, Nat.le_refl _, Nat.le_refl _, Or.inl ⟨rfl, rfl, rfl⟩, G, R, fun q _ _ => rfl⟩
  unfold f_X6_eases
  -- what was looked at stays so
  have keep : ∀ {f1 g1 f2 g2 : Nat → Nat} {is1 is2 : Nat} {m1 m2 : MM} {t h : Nat}, JE A pr c m f g is1 m1 f1 g1 → JE A pr c m f g is2 m2 f2 g2 → f2 c ≤ f1 c → g2 c ≤ g1 c → t < A 6 1 → h < A 6 0 → CLt A pr f1 g1 c t h → CLt A pr f2 g2 c t h := by
    intro f1 g1 f2 g2 is1 is2 m1 m2 t h J1 J2 hf hg ht hh C hg0 hne hw2
    have q := C hg0 hne hw2
    have hy := mvc_ne (T := A 6 1) (c := c) (by omega : h < 5) ht hne
    have e1 := J1.1 _ hy
    have e2 := J2.1 _ hy
    rw [e2.1, e2.2, ← e1.1, ← e1.2]
    omega
  obtain ⟨st, ⟨is, f', g', k1, k2, k3⟩, k4⟩ := loop_inv (σ := Int32 × MM) (fun n i st => f_X6_eases_L4 F (nI c) (fun x2_1 x3_2 m3 => Gu (bz x2_1) <| some (x2_1, m3)) n st.1 i st.2) (fun st => Gu (bz st.1) <| some (st.1, st.2)) (A 6 1) (fun t st => ∃ is f' g', st.1 = nI is ∧ JE A pr c m f g is st.2 f' g' ∧ ∀ t' h', t' < t → h' < A 6 0 → CLt A pr f' g' c t' h') (fun n st hI => by
    obtain ⟨is, f', g', k1, k2, k3⟩ := hI
    have e : rI st.2 0 14 = nI (A 6 1) := (r_row (k2.2.2.2.2.2.2 0 (by decide) (by decide)) 14).trans L.2.1
    show f_X6_eases_L4 _ _ _ (n + 1) _ _ _ = _
    unfold f_X6_eases_L4
    rw [e, if_pos (Int32.le_refl _)]) (fun t n st ht hI => by
    obtain ⟨x0, m1⟩ := st
    obtain ⟨is, f', g', k1, k2, k3⟩ := hI
    have k1 : x0 = nI is := k1
    subst k1
    have k2 : JE A pr c m f g is m1 f' g' := k2
    have e14 : rI m1 0 14 = nI (A 6 1) := (r_row (k2.2.2.2.2.2.2 0 (by decide) (by decide)) 14).trans L.2.1
    have hp := p5_le (show t ≤ 5 by omega)
    have hq : c / 5 ^ t < 2 ^ 31 := Nat.lt_of_le_of_lt (Nat.div_le_self _ _) (by omega)
    have hd5 := dg_lt (b := 5) (c := c) (t := t) (by decide)
    have unf : f_X6_eases_L4 F (nI c) (fun x2_1 x3_2 m3 => Gu (bz x2_1) <| some (x2_1, m3)) (n + 1) (nI is) (nI t) m1 = f_X6_eases_L25 (nI c) (nI t) (nI (dg 5 c t)) (fun x2_8 x5_9 m10 => Lt (nI t + (1 : Int32)) fun x3_23 => f_X6_eases_L4 F (nI c) (fun x2_1 x3_2 m3 => Gu (bz x2_1) <| some (x2_1, m3)) n x2_8 x3_23 m10) F (nI is) (0 : Int32) m1 := by
      conv => lhs; unfold f_X6_eases_L4
      rw [e14, if_neg (n_head (n := 0) b2 ht), place_sp (by omega), bd1_s, Gu_of (nz_n p5_pos (by omega)), Gu_of (show nz (5 : Int32) = true from rfl), n_div (by omega) (by omega), show (5 : Int32) = nI 5 from rfl, n_rem hq (by decide), Lt_d]
      rfl
    by_cases cg : A 6 5 = t + 1
    · refine ⟨(nI is, m1), ⟨is, f', g', rfl, k2, fun t' h' h1 h2 => ?_⟩, ?_⟩
      · by_cases ct : t' = t
        · rw [ct]
          exact fun z => absurd cg z
        · exact k3 t' h' (by omega) h2
      · show f_X6_eases_L4 _ _ _ (n + 1) _ _ _ = _
        rw [unf]
        obtain ⟨F, rfl⟩ : ∃ z, F = z + 1 := ⟨F - 1, by omega⟩
        unfold f_X6_eases_L25
        have e18 : rI m1 0 18 = nI (A 6 5) - 1 := (r_row (k2.2.2.2.2.2.2 0 (by decide) (by decide)) 18).trans L.2.2.2.2.2.1
        have e9 : rI m1 0 9 = nI (A 6 0) := (r_row (k2.2.2.2.2.2.2 0 (by decide) (by decide)) 9).trans L.1
        rw [e18, e9, if_pos (show nI t = nI (A 6 5) - 1 by rw [g_eq (by omega) (by omega)]; exact cg)]
        simp only [Lt_d, n_s, ite_self]
    · obtain ⟨st2, ⟨is2, f2, g2, u1, u2, u3, u4, u5⟩, u6⟩ := loop_inv (σ := Int32 × MM) (fun n2 i st => f_X6_eases_L25 (nI c) (nI t) (nI (dg 5 c t)) (fun x2_8 x5_9 m10 => Lt (nI t + (1 : Int32)) fun x3_23 => f_X6_eases_L4 F (nI c) (fun x2_1 x3_2 m3 => Gu (bz x2_1) <| some (x2_1, m3)) n x2_8 x3_23 m10) n2 st.1 i st.2) (fun st => f_X6_eases_L4 F (nI c) (fun x2_1 x3_2 m3 => Gu (bz x2_1) <| some (x2_1, m3)) n st.1 (nI (t + 1)) st.2) (A 6 0) (fun h st => ∃ is2 f2 g2, st.1 = nI is2 ∧ JE A pr c m f g is2 st.2 f2 g2 ∧ f2 c ≤ f' c ∧ g2 c ≤ g' c ∧ ∀ h', h' < h → CLt A pr f2 g2 c t h') (fun n2 st hI => by
        obtain ⟨is2, f2, g2, u1, u2, u3, u4, u5⟩ := hI
        have e9 : rI st.2 0 9 = nI (A 6 0) := (r_row (u2.2.2.2.2.2.2 0 (by decide) (by decide)) 9).trans L.1
        show f_X6_eases_L25 _ _ _ _ (n2 + 1) _ _ _ = _
        unfold f_X6_eases_L25
        rw [e9, if_pos (Int32.le_refl _), Lt_d, n_s]) (fun h n2 st hh hI => by
        obtain ⟨x1, m2⟩ := st
        obtain ⟨is2, f2, g2, u1, u2, u3, u4, u5⟩ := hI
        have u1 : x1 = nI is2 := u1
        subst u1
        have u2 : JE A pr c m f g is2 m2 f2 g2 := u2
        have e9 : rI m2 0 9 = nI (A 6 0) := (r_row (u2.2.2.2.2.2.2 0 (by decide) (by decide)) 9).trans L.1
        have e18 : rI m2 0 18 = nI (A 6 5) - 1 := (r_row (u2.2.2.2.2.2.2 0 (by decide) (by decide)) 18).trans L.2.2.2.2.2.1
        have nle : ¬ nI (A 6 0) ≤ nI h := by rw [n_le (by omega) (by omega)]; omega
        have ng : ¬ nI t = nI (A 6 5) - 1 := by rw [g_eq (by omega) (by omega)]; exact cg
        have hyN := mvc_lt (T := A 6 1) (c := c) (t := t) (by omega : h < 5)
        have gy := inB_n (by omega : mvc (A 6 1) c t h < 3125) (by decide : 3125 ≤ 2 ^ 31)
        have gc := inB_n (by omega : c < 3125) (by decide : 3125 ≤ 2 ^ 31)
        have hxy : ix (nI (mvc (A 6 1) c t h)) = mvc (A 6 1) c t h := ix_n (by omega)
        have e11 : rI m2 11 (mvc (A 6 1) c t h) = nI (if u_wl A (mvc (A 6 1) c t h) = true then 1 else 0) := u2.2.2.2.2.2.1.1 _ hyN
        have stay : (∀ h', h' = h → CLt A pr f2 g2 c t h') → f_X6_eases_L25 (nI c) (nI t) (nI (dg 5 c t)) (fun x2_8 x5_9 m10 => Lt (nI t + (1 : Int32)) fun x3_23 => f_X6_eases_L4 F (nI c) (fun x2_1 x3_2 m3 => Gu (bz x2_1) <| some (x2_1, m3)) n x2_8 x3_23 m10) (n2 + 1) (nI is2) (nI h) m2 = f_X6_eases_L25 (nI c) (nI t) (nI (dg 5 c t)) (fun x2_8 x5_9 m10 => Lt (nI t + (1 : Int32)) fun x3_23 => f_X6_eases_L4 F (nI c) (fun x2_1 x3_2 m3 => Gu (bz x2_1) <| some (x2_1, m3)) n x2_8 x3_23 m10) n2 (nI is2) (nI (h + 1)) m2 → ∃ st' : Int32 × MM, (∃ is2 f2 g2, st'.1 = nI is2 ∧ JE A pr c m f g is2 st'.2 f2 g2 ∧ f2 c ≤ f' c ∧ g2 c ≤ g' c ∧ ∀ h', h' < h + 1 → CLt A pr f2 g2 c t h') ∧ f_X6_eases_L25 (nI c) (nI t) (nI (dg 5 c t)) (fun x2_8 x5_9 m10 => Lt (nI t + (1 : Int32)) fun x3_23 => f_X6_eases_L4 F (nI c) (fun x2_1 x3_2 m3 => Gu (bz x2_1) <| some (x2_1, m3)) n x2_8 x3_23 m10) (n2 + 1) (nI is2) (nI h) m2 = f_X6_eases_L25 (nI c) (nI t) (nI (dg 5 c t)) (fun x2_8 x5_9 m10 => Lt (nI t + (1 : Int32)) fun x3_23 => f_X6_eases_L4 F (nI c) (fun x2_1 x3_2 m3 => Gu (bz x2_1) <| some (x2_1, m3)) n x2_8 x3_23 m10) n2 st'.1 (nI (h + 1)) st'.2 := by
          intro hs he
          refine ⟨(nI is2, m2), ⟨is2, f2, g2, rfl, u2, u3, u4, fun h' h1 => ?_⟩, he⟩
          by_cases ch : h' = h
          · exact hs h' ch
          · exact u5 h' (by omega)
        by_cases c1 : h = dg 5 c t
        · refine stay (fun h' e => ?_) ?_
          · rw [e]
            exact fun _ z => absurd c1 z
          · conv => lhs; unfold f_X6_eases_L25
            rw [e9, if_neg nle, e18, if_neg ng, after_sp b2 hc ht (by omega), bd1_s, if_pos (by rw [c1]), Lt_d, n_s, n_s]
        · have nd : ¬ nI h = nI (dg 5 c t) := by rw [n_eq (by omega) (by omega)]; exact c1
          by_cases c2 : u_wl A (mvc (A 6 1) c t h) = true
          · obtain ⟨is3, f3, g3, m3, v1, v2, v3, v4, v5⟩ := JE_step B hpr hc hw ht hh cg c1 c2 u2 (fun x2 m => f_X6_eases_L25 (nI c) (nI t) (nI (dg 5 c t)) (fun x2_8 x5_9 m10 => Lt (nI t + (1 : Int32)) fun x3_23 => f_X6_eases_L4 F (nI c) (fun x2_1 x3_2 m3 => Gu (bz x2_1) <| some (x2_1, m3)) n x2_8 x3_23 m10) n2 x2 (nI h + 1) m)
            refine ⟨(nI is3, m3), ⟨is3, f3, g3, rfl, v2, by omega, by omega, fun h' h1 => ?_⟩, ?_⟩
            · by_cases ch : h' = h
              · rw [ch]
                exact fun _ _ _ => v5
              · exact keep u2 v2 v3 v4 ht (by omega) (u5 h' (by omega))
            · show f_X6_eases_L25 _ _ _ _ (n2 + 1) _ _ _ = _
              conv => lhs; unfold f_X6_eases_L25
              rw [e9, if_neg nle, e18, if_neg ng, after_sp b2 hc ht (by omega), bd1_s, if_neg nd, Gu_of gy, hxy, e11, if_pos (by rw [if_pos c2]; rfl), Gu_of gy, Gu_of gc]
              rw [hxy] at v1
              refine Eq.trans v1 ?_
              show f_X6_eases_L25 _ _ _ _ n2 (nI is3) (nI h + 1) m3 = _
              rw [n_s, n_s]
          · refine stay (fun h' e => ?_) ?_
            · rw [e]
              exact fun _ _ z => absurd z c2
            · conv => lhs; unfold f_X6_eases_L25
              rw [e9, if_neg nle, e18, if_neg ng, after_sp b2 hc ht (by omega), bd1_s, if_neg nd, Gu_of gy, hxy, e11, if_neg (by rw [if_neg c2]; decide), Lt_d, n_s, n_s]) F (nI is, m1) (by omega) ⟨is, f', g', rfl, k2, Nat.le_refl _, Nat.le_refl _, fun h' h1 => absurd h1 (Nat.not_lt_zero h')⟩
      refine ⟨st2, ⟨is2, f2, g2, u1, u2, fun t' h' h1 h2 => ?_⟩, ?_⟩
      · by_cases ct : t' = t
        · rw [ct]
          exact u5 h' h2
        · exact keep k2 u2 u3 u4 (by omega) h2 (k3 t' h' (by omega) h2)
      · show f_X6_eases_L4 _ _ _ (n + 1) _ _ _ = _
        rw [unf]
        exact u6) F (0, m) (by omega) ⟨0, f, g, rfl, J0, fun t' h' h1 => absurd h1 (Nat.not_lt_zero t')⟩
  refine ⟨is, f', g', st.2, ?_, k2, fun t h h1 h2 => k3 t h h1 h2⟩
  refine Eq.trans k4 ?_
  show (Gu (bz st.1) <| some (st.1, st.2)) = _
  have hb : bz st.1 = true := by
    rw [k1]
    rcases k2.2.2.2.1 with ⟨h, _⟩ | ⟨h, _⟩ <;> rw [h] <;> rfl
  rw [Gu_of hb, k1]
