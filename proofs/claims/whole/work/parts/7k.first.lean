/-! THE FIRST TEXT -/
def obs (x : Int32 × MM) : List Int32 := [x.1, rI x.2 39 3, rI x.2 40 0, rI x.2 40 1, rI x.2 40 2, rI x.2 41 0, rI x.2 41 1, rI x.2 41 2, rI x.2 41 3]
def fbB (i : Nat) : Nat := ([99, 111, 115, 116, 115, 32, 115, 105, 122, 101, 32, 59, 32, 98, 101, 108, 108, 32, 50, 48, 32, 59, 32, 119, 111, 114, 116, 104, 32, 49, 48, 32, 59] : List Nat).getD i 32
def mcF (n : Nat) : MM := (fun q j => if q = 36 then (if j = 1 then nI n else 0) else if q = 37 then nI (fbB j) else 0, fun _ _ => 0)
theorem e_40 : (f_X3_read 1000000000000 39 (mcF 40)).map obs = some [-1, 3, 10000, 20, 10, 0, 1, 2, 3] := by decide +kernel
def obC (m : MM) : List Int32 := [rI m 39 3, rI m 40 0, rI m 40 1, rI m 40 2, rI m 41 0, rI m 41 1, rI m 41 2, rI m 41 3, rI m 1 7, rI m 1 8, rI m 1 9, rI m 1 10, rI m 1 11, rI m 1 12, rI m 0 9, rI m 36 1, rI m 0 8, rI m 64 1, rI m 66 1, rI m 68 1, rI m 70 1]
def obM (m : MM) : List Int32 := [rI m 0 9, rI m 0 14, rI m 0 15, rI m 0 16, rI m 0 4, rI m 0 18, rI m 0 17, rI m 0 45, rI m 0 6, rI m 0 3, rI m 2 0, rI m 19 0, rI m 19 1, rI m 19 2, rI m 19 3]
theorem e_C : (f_X5_tail 1000000000000 m0C).map obC = some [3, 10000, 20, 10, 0, 1, 2, 3, 0, 0, -1, 1, 0, -1, 0, 0, 1, -1, -1, -1, -1] := by decide +kernel
theorem e_M : (f_X6_tail m0M).map obM = some [0, 0, -1, 1, 0, -1, -1, -1, 0, 1, 40, 0, 0, 0, 0] := by decide +kernel
theorem e_M1 : ∀ j, j < 40 → (f_X6_tail m0M).map (fun m => rI m 1 j) = some (nI (fbB j)) := by decide +kernel
theorem BT_40 : BT fbB 40 := ⟨by decide, by decide +kernel⟩
theorem CTX_40 : CTX (mcF 40) fbB 40 := ⟨rfl, fun i _ => rfl⟩
theorem run_lt {nm : Nat → Int32} {a : Nat} {y : Int32} (h : run nm [a] [] = some [y]) : a < 30000 := by
  have h' : (match run1 nm a [] with | some s2 => run nm [] s2 | none => none) = some [y] := h
  by_cases c : a < 30000
  · exact c
  · unfold run1 at h'
    rw [if_neg c] at h'
    cases h'
theorem len1 {L : List Nat} (h : L.length = 1) : ∃ a, L = [a] := by
  cases L with
  | nil => cases h
  | cons a r =>
    cases r with
    | nil => exact ⟨a, rfl⟩
    | cons b r =>
      simp at h
theorem first_hm : ∀ mm, TXM mm 0 fbB 40 → ∃ y0 y1 y2, EVX (nmM mm) [10000] y0 31 ∧ EVX (nmM mm) [20] y1 31 ∧ EVX (nmM mm) [10] y2 31 ∧ ∀ a1 : Int32, ∃ mm2, f_X6_read 1000000000000 (nI 0) a1 mm = some (if a1 = 0 then y0 else if a1 = 1 then y1 else y2, mm2) ∧ FN mm mm2 ∧ rI mm2 0 32 = 0 := by
  obtain ⟨r, mc2, a1, a2, a3⟩ := read_sim (F := 1000000000000) (i := 0) (by decide) (by decide) BT_40 CTX_40
  have e := e_40
  have a1' : f_X3_read 1000000000000 39 (mcF 40) = some (r, mc2) := a1
  rw [a1'] at e
  have e' : obs (r, mc2) = [-1, 3, 10000, 20, 10, 0, 1, 2, 3] := Option.some.inj e
  unfold obs at e'
  simp only [List.cons.injEq, and_true] at e'
  obtain ⟨x0, x1, x2, x3, x4, x5, x6, x7, x8⟩ := e'
  rcases a3 with ⟨_, L0, L1, L2, b1, b2, b3, b4, b5, b6, b7⟩ | ⟨p, hp, b1, _⟩
  · have f4 : rI mc2 41 1 = nI L0.length := b4
    have f5 : rI mc2 41 2 = nI (L0.length + L1.length) := b5
    have f6 : rI mc2 41 3 = nI (L0.length + L1.length + L2.length) := b6
    rw [x6] at f4
    rw [x7] at f5
    rw [x8] at f6
    have l0 : 1 = L0.length := (n_eq (a := 1) (by omega) (by omega)).mp f4
    have l1 : 2 = L0.length + L1.length := (n_eq (a := 2) (by omega) (by omega)).mp f5
    have l2 : 3 = L0.length + L1.length + L2.length := (n_eq (a := 3) (by omega) (by omega)).mp f6
    obtain ⟨a, rfl⟩ := len1 (show L0.length = 1 by omega)
    obtain ⟨b, rfl⟩ := len1 (show L1.length = 1 by omega)
    obtain ⟨c, rfl⟩ := len1 (show L2.length = 1 by omega)
    intro mm hm
    obtain ⟨y0, y1, y2, z0, z1, z2, z3⟩ := b7 mm hm
    have g0 := run_lt (z0 [] (by decide))
    have g1 := run_lt (z1 [] (by decide))
    have g2 := run_lt (z2 [] (by decide))
    have c0 : rI mc2 40 0 = nI a := b1.2 0 a rfl
    have c1 : rI mc2 40 1 = nI b := b1.2 1 b rfl
    have c2 : rI mc2 40 2 = nI c := b1.2 2 c rfl
    rw [x2] at c0
    rw [x3] at c1
    rw [x4] at c2
    have d0 : 10000 = a := (n_eq (a := 10000) (by omega) (by omega)).mp c0
    have d1 : 20 = b := (n_eq (a := 20) (by omega) (by omega)).mp c1
    have d2 : 10 = c := (n_eq (a := 10) (by omega) (by omega)).mp c2
    rw [← d0] at z0
    rw [← d1] at z1
    rw [← d2] at z2
    exact ⟨y0, y1, y2, z0, z1, z2, z3⟩
  · rw [x0] at b1
    exact absurd b1.symm (n_ne1 (by omega))
def A0 : LT := fun r i => if r = 6 ∧ i = 3 then 1 else 0
theorem start_rel : ∃ mc0 mm0, f_X5_tail 1000000000000 m0C = some mc0 ∧ f_X6_tail m0M = some mm0 ∧ RelX (XT 1000000000000) mc0 mm0 := by
  have eC := e_C
  have eM := e_M
  have eM1 := e_M1
  cases hC : f_X5_tail 1000000000000 m0C with
  | none =>
    rw [hC] at eC
    cases eC
  | some mc0 =>
    cases hM : f_X6_tail m0M with
    | none =>
      rw [hM] at eM
      cases eM
    | some mm0 =>
      rw [hC] at eC
      rw [hM] at eM eM1
      have eC' : obC mc0 = [3, 10000, 20, 10, 0, 1, 2, 3, 0, 0, -1, 1, 0, -1, 0, 0, 1, -1, -1, -1, -1] := Option.some.inj eC
      have eM' : obM mm0 = [0, 0, -1, 1, 0, -1, -1, -1, 0, 1, 40, 0, 0, 0, 0] := Option.some.inj eM
      have eM1' : ∀ j, j < 40 → rI mm0 1 j = nI (fbB j) := fun j hj => Option.some.inj (eM1 j hj)
      unfold obC at eC'
      unfold obM at eM'
      simp only [List.cons.injEq, and_true] at eC' eM'
      obtain ⟨x1, x2, x3, x4, x5, x6, x7, x8, x9, x10, x11, x12, x13, x14, x15, x16, x17, x18, x19, x20, x21⟩ := eC'
      obtain ⟨y1, y2, y3, y4, y5, y6, y7, y8, y9, y10, y11, y12, y13, y14, y15⟩ := eM'
      refine ⟨mc0, mm0, rfl, rfl, A0, 1, ⟨x9, x10, x11, x12, x13, x14, fun i hi => absurd hi (Nat.not_lt_zero i), fun i hi => absurd hi (Nat.not_lt_zero i)⟩, ⟨y1, y2, y3, y4, y5, y6, y7, fun i hi => absurd hi (Nat.not_lt_zero i), fun i hi => absurd hi (Nat.not_lt_zero i)⟩, ⟨⟨by decide, by decide, by decide, by decide, by decide, by decide, by decide, fun i hi => absurd hi (Nat.not_lt_zero i), fun i hi => absurd hi (Nat.not_lt_zero i)⟩, fun i j hi => absurd hi (Nat.not_lt_zero i), ⟨fun i hi => absurd hi (Nat.not_lt_zero i), fun i hi => absurd hi (Nat.not_lt_zero i), fun i hi => absurd hi (Nat.not_lt_zero i), fun i j hi => absurd hi (Nat.not_lt_zero i)⟩, rfl, rfl⟩, by decide, Or.inl ⟨x15, y8⟩, ⟨0, by decide, x16, y9, fun i hi => absurd hi (Nat.not_lt_zero i)⟩, ⟨by decide, x17, y10, fun i hi => ?_⟩, fun i hi => Or.inl ?_⟩
      · have : i = 0 := by omega
        subst this
        exact XT_new (F := 1000000000000) (B := fbB) (n := 40) (L0 := [10000]) (L1 := [20]) (L2 := [10]) (by decide) (by decide) (by decide) ⟨fun j hj => by
          rw [show 160 * 0 + j = j by omega]
          exact eM1' j hj, y11⟩ ⟨x1, fun i x hx => by
          rcases (show i = 0 ∨ i = 1 ∨ i = 2 ∨ 3 ≤ i by omega) with rfl | rfl | rfl | h
          · cases hx
            exact x2
          · cases hx
            exact x3
          · cases hx
            exact x4
          · rw [List.getElem?_eq_none (by simpa using h)] at hx
            cases hx⟩ (by decide) x5 x6 x7 x8 first_hm
      · rcases (show i = 0 ∨ i = 1 ∨ i = 2 ∨ i = 3 by omega) with rfl | rfl | rfl | rfl
        · exact ⟨x18, y12⟩
        · exact ⟨x19, y13⟩
        · exact ⟨x20, y14⟩
        · exact ⟨x21, y15⟩
