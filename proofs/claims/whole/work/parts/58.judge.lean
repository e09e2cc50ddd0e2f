/-! JUDGE, DRAWN, CHANCE -/
theorem n_subn {a b : Nat} (h : b ≤ a) : nI a - nI b = nI (a - b) := by
  have e : nI a = nI (a - b) + nI b := by rw [nI_add, Nat.sub_add_cancel h]
  rw [e, Int32.add_sub_cancel]
theorem n_div {x y : Nat} (hx : x < 2 ^ 31) (hy : y < 2 ^ 31) : nI x / nI y = nI (x / y) := by
  have h1 : x / y ≤ x := Nat.div_le_self x y
  rw [i_eq, Int32.toInt_div_of_ne_right _ _ (n_ne1 hy), nI_toInt hx, nI_toInt hy, nI_toInt (by omega), Int.tdiv_eq_ediv_of_nonneg (by omega)]
  exact (Int.natCast_ediv x y).symm
theorem n_rem {x y : Nat} (hx : x < 2 ^ 31) (hy : y < 2 ^ 31) : remI (nI x) (nI y) = nI (x % y) := by
  unfold remI
  rw [n_div hx hy, n_mul, n_subn (Nat.div_mul_le_self x y), Nat.mod_def, Nat.mul_comm]
theorem nz_n {T : Nat} (h0 : 0 < T) (h : T < 2 ^ 31) : nz (nI T) = true := by
  unfold nz
  rw [Bool.not_eq_true', beq_eq_false_iff_ne]
  intro z
  rw [n_z h] at z
  omega
theorem ush_n (z : Int32) (k : Int32) (j : Nat) (hj : j = 9 ∨ j = 17) (hk : k = nI j) : ∃ x, x < 2 ^ 31 ∧ ushI z k = nI x := by
  refine ⟨(z.toUInt32 >>> (k.toUInt32 &&& Int32.toUInt32 31)).toNat, ?_, ?_⟩
  · rw [UInt32.toNat_shiftRight, Nat.shiftRight_eq_div_pow]
    have h1 : z.toUInt32.toNat < 2 ^ 32 := z.toUInt32.toNat_lt
    rcases hj with rfl | rfl
    · subst hk
      have e : (nI 9).toUInt32 &&& Int32.toUInt32 31 = 9 := by decide
      rw [e]
      have e2 : (9 : UInt32).toNat % 32 = 9 := by decide
      rw [e2]
      omega
    · subst hk
      have e : (nI 17).toUInt32 &&& Int32.toUInt32 31 = 17 := by decide
      rw [e]
      have e2 : (17 : UInt32).toNat % 32 = 17 := by decide
      rw [e2]
      omega
  · unfold ushI
    generalize (z.toUInt32 >>> (k.toUInt32 &&& Int32.toUInt32 31)) = u
    refine Int32.toBitVec_inj.mp (BitVec.eq_of_toNat_eq ?_)
    show u.toNat = (BitVec.ofNat 32 u.toNat).toNat
    rw [BitVec.toNat_ofNat, Nat.mod_eq_of_lt u.toNat_lt]
theorem sA_sA {A : LT} {a b : Nat → Nat} : sA (sA A a) b = sA A b := by
  funext r i
  show (if r = 5 then b i else (if r = 5 then a i else A r i)) = (if r = 5 then b i else A r i)
  by_cases c : r = 5
  · rw [if_pos c, if_pos c]
  · rw [if_neg c, if_neg c, if_neg c]
theorem bar_s {A : LT} {a x : Nat → Nat} {t h : Nat} : u_bar (sA A a) x t h = u_bar A x t h := rfl
theorem sa_s {P : Nat → (Nat → Int32) → Int32} {A : LT} {a : Nat → Nat} {w t f h : Nat} : u_sa P (sA A a) w t f h = u_sa P A w t f h := rfl
theorem open_s {A : LT} {a x : Nat → Nat} : u_open (sA A a) x = u_open A x := rfl
theorem up_at {a : Nat → Nat} {t h i : Nat} : up a t h i = if i = t then h else a i := rfl
/-- five numbers of a row come to another one -/
theorem copy5 {β : Type} (L : Nat → Int32 → MM → Option β) (z : MM → Option β) (sr ds : Nat) (hne : sr ≠ ds) (h0 : ∀ n m, L (n + 1) (nI 5) m = z m) (hs : ∀ i n m, i < 5 → L (n + 1) (nI i) m = L n (nI (i + 1)) (wI m ds i (rI m sr i))) : ∀ n m, 5 < n → ∃ m2, ((∀ q, q ≠ ds → m2.1 q = m.1 q) ∧ (∀ j, rI m2 ds j = if j < 5 then rI m sr j else rI m ds j)) ∧ L n (nI 0) m = z m2 := by
  intro n m hn
  obtain ⟨m2, ⟨h1, h2⟩, h3⟩ := loop_inv L z 5 (fun i m1 => (∀ q, q ≠ ds → m1.1 q = m.1 q) ∧ (∀ j, rI m1 ds j = if j < i then rI m sr j else rI m ds j)) (fun n m1 _ => h0 n m1) (fun i n m1 hi hI => ⟨wI m1 ds i (rI m1 sr i), ⟨fun q hq => (row_ne hq).trans (hI.1 q hq), fun j => by
    rw [rI_w, hI.2, r_row (hI.1 sr hne)]
    by_cases c : j = i
    · rw [if_pos ⟨rfl, c⟩, if_pos (by omega), c]
    · rw [if_neg (fun z => c z.2)]
      by_cases c2 : j < i
      · rw [if_pos c2, if_pos (by omega)]
      · rw [if_neg c2, if_neg (by omega)]⟩, hs i n m1 hi⟩) n m hn ⟨fun q _ => rfl, fun j => by rw [if_neg (Nat.not_lt_zero j)]⟩
  exact ⟨m2, ⟨h1, h2⟩, h3⟩
theorem goes2 {F : Nat} (hF : 6 ≤ F) (m : MM) (K : Int32 → MM → Option (Int32 × MM)) : ∃ m2, ((∀ q, q ≠ 10 → m2.1 q = m.1 q) ∧ (∀ j, rI m2 10 j = if j < 5 then rI m 8 j else rI m 10 j)) ∧ f_X6_goesBy_L2 K F 0 m = K 5 m2 :=
  copy5 (fun n i m => f_X6_goesBy_L2 K n i m) (fun m => K 5 m) 8 10 (by decide) (fun n m => by
    show f_X6_goesBy_L2 K (n + 1) _ m = _
    unfold f_X6_goesBy_L2
    rw [if_pos (by decide)]
    rfl) (fun i n m hi => by
    show f_X6_goesBy_L2 K (n + 1) (nI i) m = _
    conv => lhs; unfold f_X6_goesBy_L2
    rw [if_neg (not5 hi), Gu_of (inB_n hi (by decide)), Gu_of (inB_n hi (by decide)), ix_n (by omega)]
    simp only [Lt_d, n_s]) F m (by omega)
theorem goes133 {F : Nat} (hF : 6 ≤ F) (m : MM) (K : Int32 → MM → Option (Int32 × MM)) : ∃ m2, ((∀ q, q ≠ 8 → m2.1 q = m.1 q) ∧ (∀ j, rI m2 8 j = if j < 5 then rI m 10 j else rI m 8 j)) ∧ f_X6_goesBy_L133 K F 0 m = K 5 m2 :=
  copy5 (fun n i m => f_X6_goesBy_L133 K n i m) (fun m => K 5 m) 10 8 (by decide) (fun n m => by
    show f_X6_goesBy_L133 K (n + 1) _ m = _
    unfold f_X6_goesBy_L133
    rw [if_pos (by decide)]
    rfl) (fun i n m hi => by
    show f_X6_goesBy_L133 K (n + 1) (nI i) m = _
    conv => lhs; unfold f_X6_goesBy_L133
    rw [if_neg (not5 hi), Gu_of (inB_n hi (by decide)), Gu_of (inB_n hi (by decide)), ix_n (by omega)]
    simp only [Lt_d, n_s]) F m (by omega)
theorem draws2 {F : Nat} (hF : 6 ≤ F) (m : MM) (K : Int32 → MM → Option (Int32 × MM)) : ∃ m2, ((∀ q, q ≠ 10 → m2.1 q = m.1 q) ∧ (∀ j, rI m2 10 j = if j < 5 then rI m 8 j else rI m 10 j)) ∧ f_X6_draws_L2 K F 0 m = K 5 m2 :=
  copy5 (fun n i m => f_X6_draws_L2 K n i m) (fun m => K 5 m) 8 10 (by decide) (fun n m => by
    show f_X6_draws_L2 K (n + 1) _ m = _
    unfold f_X6_draws_L2
    rw [if_pos (by decide)]
    rfl) (fun i n m hi => by
    show f_X6_draws_L2 K (n + 1) (nI i) m = _
    conv => lhs; unfold f_X6_draws_L2
    rw [if_neg (not5 hi), Gu_of (inB_n hi (by decide)), Gu_of (inB_n hi (by decide)), ix_n (by omega)]
    simp only [Lt_d, n_s]) F m (by omega)
theorem draws139 {F : Nat} (hF : 6 ≤ F) (m : MM) (K : Int32 → MM → Option (Int32 × MM)) : ∃ m2, ((∀ q, q ≠ 8 → m2.1 q = m.1 q) ∧ (∀ j, rI m2 8 j = if j < 5 then rI m 10 j else rI m 8 j)) ∧ f_X6_draws_L139 K F 0 m = K 5 m2 :=
  copy5 (fun n i m => f_X6_draws_L139 K n i m) (fun m => K 5 m) 10 8 (by decide) (fun n m => by
    show f_X6_draws_L139 K (n + 1) _ m = _
    unfold f_X6_draws_L139
    rw [if_pos (by decide)]
    rfl) (fun i n m hi => by
    show f_X6_draws_L139 K (n + 1) (nI i) m = _
    conv => lhs; unfold f_X6_draws_L139
    rw [if_neg (not5 hi), Gu_of (inB_n hi (by decide)), Gu_of (inB_n hi (by decide)), ix_n (by omega)]
    simp only [Lt_d, n_s]) F m (by omega)
/-- the lot in thought, as now -/
theorem LC_17 {m m2 : MM} {A : LT} (V : AV A) (h : (∀ r i, 1 ≤ r → r ≤ 7 → i < 5 → rI m2 (17 + r) i = rI m (1 + r) i) ∧ (∀ i, 7 ≤ i → i ≤ 11 → rI m2 17 i = rI m 1 i) ∧ rI m2 17 12 = -1) (L : LC m 1 A) : LC m2 17 (sA A (A 5)) := by
  rw [sA_self]
  exact LC_bec V.1.1 V.1.2.1 V.2.2.2.1 h.1 h.2.1 h.2.2 L
theorem refS {m : MM} {A : LT} {a : Nat → Nat} {t h F : Nat} (hF : 6 ≤ F) (V : AV A) (M : MAY A a) (L : LC m 17 (sA A a)) (ht : t < A 6 1) (hh : h < A 6 0) : f_X0_refusal F 17 (nI t) (nI h) m = some (if a t = h then 1 else nI (u_bar A a t h)) := by
  have q := refC (k := 17) (t := t) (h := h) hF L (AV_s V M).1 V.2.2.2.1 ht hh
  rw [sA_5] at q
  exact q
theorem openS {m : MM} {A : LT} {a : Nat → Nat} {F : Nat} (hF : 6 ≤ F) (V : AV A) (M : MAY A a) (L : LC m 17 (sA A a)) : f_X0_isOpen F 17 m = some (if u_open A a = true then 1 else 0) := by
  have V2 := AV_s V M
  have hli := LI_of L V2.2.2.2.1
  have q := isOpenC (k := 17) hF (HO_of L) V2.1 hli (fun i hi _ => (V2.1.2.2.2.2.2.2.2.2 i hi).2.2.2.2) (Or.inl V2.2.2.2.1)
  rw [sA_5] at q
  exact q
theorem openT {m : MM} {A : LT} {a : Nat → Nat} {F : Nat} (hF : 7 ≤ F) (V : AV A) (M : MAY A a) (L : LM m (sA A a)) : f_X6_isOpen F m = some (if u_open A a = true then 1 else 0) := by
  have V2 := AV_s V M
  have q := isOpenM hF L V2.1 (Or.inl V2.2.2.2.1)
  rw [sA_5] at q
  exact q
/-- rows of the lot after one thing came to another hold -/
theorem LC_mv {m m1 : MM} {A : LT} {a : Nat → Nat} {t h : Nat} (e : ∀ q, 17 ≤ q → q ≤ 24 → m1.1 q = m.1 q) (L : LC m 17 (sA A a)) : LC (wI m1 24 t (nI h)) 17 (sA A (up a t h)) := by
  have q : LC (wI m1 24 t (nI h)) 17 (sA (sA A a) (up a t h)) := by
    refine LC_s (m := m) (fun q h1 h2 => (row_ne (by omega)).trans (e q (by omega) (by omega))) L (fun i hi => ?_)
    rw [up_at]
    by_cases c : i = t
    · rw [if_pos c, c, rI_eq]
    · rw [if_neg c, rI_nj c]
      have := (L.2.2.2.2.2.2.2 i hi).2.2.2
      rw [sA_5] at this
      exact (r_row (e 24 (by omega) (by omega)) i).trans this
  rw [sA_sA] at q
  exact q
theorem LM_mv {m m1 : MM} {A : LT} {a : Nat → Nat} {t h : Nat} (e : ∀ q, 4 ≤ q → q ≤ 9 → m1.1 q = m.1 q) (e2 : ∀ i, i = 4 ∨ i = 9 ∨ (14 ≤ i ∧ i ≤ 18) → rI m1 0 i = rI m 0 i) (L : LM m (sA A a)) : LM (wI m1 8 t (nI h)) (sA A (up a t h)) := by
  have q : LM (wI m1 8 t (nI h)) (sA (sA A a) (up a t h)) := by
    refine LM_s (m := m) (fun q h1 h2 h3 => (row_ne h3).trans (e q h1 h2)) (fun i hi => (rI_ne (by decide)).trans (e2 i hi)) L (fun i hi => ?_)
    rw [up_at]
    by_cases c : i = t
    · rw [if_pos c, c, rI_eq]
    · rw [if_neg c, rI_nj c]
      have := (L.2.2.2.2.2.2.2.2 i hi).2.2.2
      rw [sA_5] at this
      exact (r_row (e 8 (by omega) (by omega)) i).trans this
  rw [sA_sA] at q
  exact q
def FJC (m m2 : MM) : Prop := ∀ q, q ≠ 24 → q ≠ 72 → ¬ (39 ≤ q ∧ q < 63 ∧ (q - 39) % 4 = 3) → m2.1 q = m.1 q
def FJM (m m2 : MM) : Prop := (∀ q, q ≠ 0 → q ≠ 8 → m2.1 q = m.1 q) ∧ (∀ i, i < 19 ∨ (33 < i ∧ i ≠ 40) → rI m2 0 i = rI m 0 i) ∧ ∀ j, 5 ≤ j → rI m2 8 j = rI m 8 j
theorem FJC_tr {a b c : MM} (h : FJC a b) (g : FJC b c) : FJC a c := fun q h1 h2 h3 => (g q h1 h2 h3).trans (h q h1 h2 h3)
theorem FJM_tr {a b c : MM} (h : FJM a b) (g : FJM b c) : FJM a c := ⟨fun q h1 h2 => (g.1 q h1 h2).trans (h.1 q h1 h2), fun i hi => (g.2.1 i hi).trans (h.2.1 i hi), fun j hj => (g.2.2 j hj).trans (h.2.2 j hj)⟩
theorem judge_L {F : Nat} {P : Nat → (Nat → Int32) → Int32} {A : LT} {s n0 : Nat} (hF : 7 ≤ F) (V : AV A) (p0 : P0 P) (hs : s < 4) (hn : n0 ≤ 40) (K : Int32 → Int32 → MM → Option (Int32 × MM)) (K2 : Int32 → Int32 → MM → Option (Int32 × MM)) : ∀ d i f f2 a c mc mm, i + d = n0 → d < f → d < f2 → MAY A a → PC F P mc (A 6 4) → PM F P mm (A 6 4) → LC mc 1 A → LC mc 17 (sA A a) → LM mm (sA A a) → rI mm 0 40 = c → rI mc (64 + 2 * s) 2 = nI n0 → rI mm 21 s = nI n0 → (∀ j, j < n0 → rI mc (64 + 2 * s + 1) j = rI mm 22 (40 * s + j)) → ∃ iE c2 a2 mc2 mm2 x, iE ≤ n0 ∧ MAY A a2 ∧ f_X5_judge_L53 F (nI s) K f c (nI i) mc = K c2 (nI iE) mc2 ∧ f_X6_goesBy_L34 F (nI s) K2 f2 (-1) (nI i) mm = K2 (if iE = n0 then -1 else nI iE) x mm2 ∧ rI mm2 0 40 = c2 ∧ LC mc2 17 (sA A a2) ∧ LM mm2 (sA A a2) ∧ FJC mc mc2 ∧ FJM mm mm2 := by
  have b1 := V.1.1
  have b2 := V.1.2.1
  have b5 := V.1.2.2.2.2.1
  have hx : ix (nI s) = s := ix_n (by omega)
  have g4 := inB_n hs (by decide : 4 ≤ 2 ^ 31)
  intro d
  induction d with
  | zero =>
    intro i f f2 a c mc mm hi hf hf2 M pc pm L1 L17 LMm hc z1 z2 z3
    obtain ⟨f, rfl⟩ : ∃ k, f = k + 1 := ⟨f - 1, by omega⟩
    obtain ⟨f2, rfl⟩ : ∃ k, f2 = k + 1 := ⟨f2 - 1, by omega⟩
    have : i = n0 := by omega
    subst this
    refine ⟨i, c, a, mc, mm, nI i, Nat.le_refl _, M, ?_, ?_, hc, L17, LMm, fun q _ _ _ => rfl, ⟨fun q _ _ => rfl, fun i _ => rfl, fun j _ => rfl⟩⟩
    · unfold f_X5_judge_L53
      rw [hx, z1, if_pos (Int32.le_refl _)]
    · unfold f_X6_goesBy_L34
      rw [Gu_of g4, hx, z2, if_pos (Int32.le_refl _), if_pos rfl]
  | succ d ih =>
    intro i f f2 a c mc mm hi hf hf2 M pc pm L1 L17 LMm hc z1 z2 z3
    obtain ⟨f, rfl⟩ : ∃ k, f = k + 1 := ⟨f - 1, by omega⟩
    obtain ⟨f2, rfl⟩ : ∃ k, f2 = k + 1 := ⟨f2 - 1, by omega⟩
    have hin : i < n0 := by omega
    have hle : ¬ nI n0 ≤ nI i := by rw [n_le (by omega) (by omega)]; omega
    have gi := inB_n (by omega : i < 40) (by decide : 40 ≤ 2 ^ 31)
    have hxi : ix (nI i) = i := ix_n (by omega)
    have e40 : (40 : Int32) * nI s + nI i = nI (40 * s + i) := by
      rw [show (40 : Int32) = nI 40 from rfl, n_mul, nI_add]
    have gv := inB_n (by omega : 40 * s + i < 160) (by decide : 160 ≤ 2 ^ 31)
    have hxv : ix (nI (40 * s + i)) = 40 * s + i := ix_n (by omega)
    have z3i := z3 i hin
    have e1 : (-1 : Int32).toInt = -1 := rfl
    have em2 : (-2 : Int32).toInt = -2 := rfl
    have em3 : (-3 : Int32).toInt = -3 := rfl
    have g10 : nz (10 : Int32) = true := rfl
    -- the end that comes when it can't be
    have stop : ∀ r : Int32, r.toInt < 0 → (f_X5_canBe F (rI mm 22 (40 * s + i)) mc = some 0) → (∀ J : Int32 → MM → Option (Int32 × MM), (bd1 (f_X6_in (Int32.toInt64 (rI mm 22 (40 * s + i))) (0 : Int64) (99 : Int64) mm) fun r12 => if r12 = 0 then J (-2 : Int32) mm else Gu (nz (10 : Int32)) <| Gu (nz (10 : Int32)) <| bd2 (f_X6_move F ((rI mm 22 (40 * s + i)) / (10 : Int32)) (remI (rI mm 22 (40 * s + i)) (10 : Int32)) mm) fun r20 m22 => J r20 m22) = J r mm) → ∃ iE c2 a2 mc2 mm2 x, iE ≤ n0 ∧ MAY A a2 ∧ f_X5_judge_L53 F (nI s) K (f + 1) c (nI i) mc = K c2 (nI iE) mc2 ∧ f_X6_goesBy_L34 F (nI s) K2 (f2 + 1) (-1) (nI i) mm = K2 (if iE = n0 then -1 else nI iE) x mm2 ∧ rI mm2 0 40 = c2 ∧ LC mc2 17 (sA A a2) ∧ LM mm2 (sA A a2) ∧ FJC mc mc2 ∧ FJM mm mm2 := by
      intro r hr h1 h2
      refine ⟨i, c, a, mc, mm, nI (i + 1), by omega, M, ?_, ?_, hc, L17, LMm, fun q _ _ _ => rfl, ⟨fun q _ _ => rfl, fun i _ => rfl, fun j _ => rfl⟩⟩
      · conv => lhs; unfold f_X5_judge_L53
        rw [hx, z1, if_neg hle, Gu_of gi, hxi, z3i, h1, bd1_s, i_if]
      · conv => lhs; unfold f_X6_goesBy_L34
        rw [Gu_of g4, hx, z2, if_neg hle, if_pos rfl, e40, Gu_of gv, hxv]
        simp only [Lt_d, Jp_d]
        refine (h2 (fun s14 m15 => if 0 ≤ s14 then f_X6_goesBy_L34 F (nI s) K2 f2 (-1) (nI i + 1) (wI m15 0 40 (rI m15 0 40 + s14)) else f_X6_goesBy_L34 F (nI s) K2 f2 (nI i) (nI i + 1) m15)).trans ?_
        show (if 0 ≤ r then f_X6_goesBy_L34 F (nI s) K2 f2 (-1) (nI i + 1) (wI mm 0 40 (rI mm 0 40 + r)) else f_X6_goesBy_L34 F (nI s) K2 f2 (nI i) (nI i + 1) mm) = _
        rw [if_neg (by rw [i_le, t0i]; omega), n_s, if_neg (by omega)]
        obtain ⟨f2, rfl⟩ : ∃ k, f2 = k + 1 := ⟨f2 - 1, by omega⟩
        unfold f_X6_goesBy_L34
        rw [Gu_of g4, hx, z2]
        by_cases c2 : nI n0 ≤ nI (i + 1)
        · rw [if_pos c2]
        · rw [if_neg c2, if_neg (n_ne1 (by omega))]
    by_cases cneg : (rI mm 22 (40 * s + i)).toInt < 0
    · refine stop (-2) (by rw [em2]; omega) ?_ (fun J => ?_)
      · unfold f_X5_canBe
        simp only [Lt_d, Gu_of g10]
        rw [if_pos (by rw [i_lt, t0i]; exact cneg)]
      · rw [in_f (n := 100) (by omega) rfl, bd1_s, i_if]
    · obtain ⟨w, hw, ew⟩ := n_of (a := rI mm 22 (40 * s + i)) (n := 2 ^ 31) (by omega) (by have := i_rng (rI mm 22 (40 * s + i)); omega)
      have d10 : nI w / 10 = nI (w / 10) := n_div hw (by decide : 10 < 2 ^ 31)
      have r10 : remI (nI w) 10 = nI (w % 10) := n_rem hw (by decide : 10 < 2 ^ 31)
      have hwn : ¬ nI w < 0 := by rw [i_lt, t0i, nI_toInt hw]; omega
      have hlt : ∀ q, q < 2 ^ 31 → ¬ q < A 6 1 → ¬ (0 ≤ (nI q).toInt ∧ (nI q).toInt < (A 6 1 : Nat)) := fun q hq hn => by rw [nI_toInt hq]; omega
      have hlh : ∀ q, q < 2 ^ 31 → ¬ q < A 6 0 → ¬ (0 ≤ (nI q).toInt ∧ (nI q).toInt < (A 6 0 : Nat)) := fun q hq hn => by rw [nI_toInt hq]; omega
      have hdl : w / 10 < 2 ^ 31 := by omega
      have hml : w % 10 < 2 ^ 31 := by omega
      by_cases ct : w / 10 < A 6 1
      · by_cases ch : w % 10 < A 6 0
        · have w99 : w < 100 := by omega
          have hxt : ix (nI (w / 10)) = w / 10 := ix_n (by omega)
          have gt := inB_n (by omega : w / 10 < 5) (by decide : 5 ≤ 2 ^ 31)
          have mv := moveM (A := sA A a) (F := F) (t := w / 10) (h := w % 10) hF p0 pm LMm (AV_s V M).1 V.2.2.2.1 ct ch
          rw [sA_5, bar_s, sa_s] at mv
          have hu := u_bar_lt (A := A) (a := a) (t := w / 10) (h := w % 10)
          have cb : f_X5_canBe F (nI w) mc = some (if a (w / 10) ≠ w % 10 ∧ u_bar A a (w / 10) (w % 10) = 0 then 1 else 0) := by
            unfold f_X5_canBe
            simp only [Lt_d, Gu_of g10]
            rw [if_neg hwn, d10, r10, htC L17.2.1 b2 ct, bd1_s, i_el, hhC L17.1 b1 ch, bd1_s, i_el, refS (by omega) V M L17 ct ch, bd1_s]
            by_cases c1 : a (w / 10) = w % 10
            · rw [if_pos c1, if_neg h10, if_neg (fun z => z.1 c1)]
            · rw [if_neg c1]
              by_cases c2 : u_bar A a (w / 10) (w % 10) = 0
              · rw [if_pos ((n_z (by omega)).mpr c2), if_pos ⟨c1, c2⟩]
              · rw [if_neg (by rw [n_z (by omega)]; exact c2), if_neg (fun z => c2 z.2)]
          rcases mv with ⟨cm, km⟩ | ⟨cm, mm1, k1, k2⟩
          · refine stop (-3) (by rw [em3]; omega) ?_ (fun J => ?_)
            · rw [ew, cb, if_neg cm]
            · rw [ew, in_t (n := 100) w99 (by omega) rfl, bd1_s, i_el, Gu_of g10, Gu_of g10, d10, r10, km, bd2_s]
          · have M2 := (MAY_up V.2.1 ct ch (by rw [V.2.2.2.1]; omega) M).mpr cm.2
            obtain ⟨mc1, k3, k4⟩ := costsC (F := F) (f := a (w / 10)) p0 pc L1 V.1 ct ch
            have e24 : rI mc 24 (w / 10) = nI (a (w / 10)) := by
              have := (L17.2.2.2.2.2.2.2 (w / 10) ct).2.2.2
              rw [sA_5] at this
              exact this
            have L17b := LC_mv (t := w / 10) (h := w % 10) (fun q h1 h2 => k4 q (by omega) (by omega)) L17
            have LMb := LM_mv (t := w / 10) (h := w % 10) (m1 := mm1) (fun q h1 h2 => k1.1 q (by omega)) (fun i hi => k1.2 i (by omega)) LMm
            generalize hco : u_sa P A 0 (w / 10) (a (w / 10)) (w % 10) = co at *
            have hc99 : co ≤ 99 := by
              rw [← hco]
              exact cl_le _ _
            have e40s : rI (wI mm1 8 (w / 10) (nI (w % 10))) 0 40 = c := by
              rw [rI_ne (by decide), k1.2 40 (by omega)]
              exact hc
            have fC : FJC mc (wI mc1 24 (w / 10) (nI (w % 10))) := fun q h1 h2 h3 => (row_ne h1).trans (k4 q h2 h3)
            have fM : FJM mm (wI (wI mm1 8 (w / 10) (nI (w % 10))) 0 40 (c + nI co)) := ⟨fun q h1 h2 => (row_ne h1).trans ((row_ne h2).trans (k1.1 q h1)), fun j hj => (rI_nj (by omega)).trans ((rI_ne (by decide)).trans (k1.2 j (by omega))), fun j hj => (rI_ne (by decide)).trans ((rI_nj (by omega)).trans (r_row (k1.1 8 (by decide)) j))⟩
            obtain ⟨iE, c2, a2, mc2, mm2, x, q1, q2, q3, q4, q5, q6, q7, q8, q9⟩ := ih (i + 1) f f2 (up a (w / 10) (w % 10)) (c + nI co) (wI mc1 24 (w / 10) (nI (w % 10))) (wI (wI mm1 8 (w / 10) (nI (w % 10))) 0 40 (c + nI co)) (by omega) (by omega) (by omega) M2 (PC_fr (fC _ (by omega) (by omega) (by omega)) (fC _ (by omega) (by omega) (by omega)) (fC _ (by omega) (by omega) (by omega)) pc) (PM_fr (fM.1 1 (by decide) (by decide)) (fM.1 2 (by decide) (by decide)) pm) (LC_fr (fun q h1 h2 => fC q (by omega) (by omega) (by omega)) L1) L17b (LM_fr (fun q h1 h2 => row_ne (by omega)) (fun i hi => rI_nj (by omega)) LMb) rI_eq ((r_row (fC (64 + 2 * s) (by omega) (by omega) (by omega)) 2).trans z1) ((r_row (fM.1 21 (by decide) (by decide)) s).trans z2) (fun j hj => ((r_row (fC (64 + 2 * s + 1) (by omega) (by omega) (by omega)) j).trans (z3 j hj)).trans (r_row (fM.1 22 (by decide) (by decide)) _).symm)
            refine ⟨iE, c2, a2, mc2, mm2, x, q1, q2, ?_, ?_, q5, q6, q7, FJC_tr fC q8, FJM_tr fM q9⟩
            · rw [← q3]
              conv => lhs; unfold f_X5_judge_L53
              rw [hx, z1, if_neg hle, Gu_of gi, hxi, z3i, ew, cb, if_pos cm, bd1_s, i_el, Gu_of gi, Gu_of g10]
              simp only [Lt_d]
              rw [Gu_of gi, Gu_of g10, d10, r10, Gu_of gt, hxt, e24, k3, bd2_s, Gu_of gt, n_s]
            · rw [← q4]
              conv => lhs; unfold f_X6_goesBy_L34
              rw [Gu_of g4, hx, z2, if_neg hle, if_pos rfl, e40, Gu_of gv, hxv]
              simp only [Lt_d, Jp_d]
              rw [ew, in_t (n := 100) w99 (by omega) rfl, bd1_s, i_el, Gu_of g10, Gu_of g10, d10, r10, k2, bd2_s, if_pos (by rw [i_le, t0i, nI_toInt (by omega)]; omega), e40s, n_s]
        · refine stop (-2) (by rw [em2]; omega) ?_ (fun J => ?_)
          · rw [ew]
            unfold f_X5_canBe
            simp only [Lt_d, Gu_of g10]
            rw [if_neg hwn, d10, r10, htC L17.2.1 b2 ct, bd1_s, i_el, hhC0 L17.1 b1 (hlh _ hml ch), bd1_s, i_if]
          · have w99 : w < 100 := by omega
            rw [ew, in_t (n := 100) w99 (by omega) rfl, bd1_s, i_el, Gu_of g10, Gu_of g10, d10, r10]
            unfold f_X6_move
            rw [htM LMm.2.1 b2 ct, bd1_s, i_el, hhM0 LMm.1 b1 (hlh _ hml ch), bd1_s, i_if, bd2_s]
      · refine stop (-2) (by rw [em2]; omega) ?_ (fun J => ?_)
        · rw [ew]
          unfold f_X5_canBe
          simp only [Lt_d, Gu_of g10]
          rw [if_neg hwn, d10, r10, htC0 L17.2.1 b2 (hlt _ hdl ct), bd1_s, i_if]
        · rw [ew]
          by_cases w99 : w < 100
          · rw [in_t (n := 100) w99 (by omega) rfl, bd1_s, i_el, Gu_of g10, Gu_of g10, d10, r10]
            unfold f_X6_move
            rw [htM0 LMm.2.1 b2 (hlt _ hdl ct), bd1_s, i_if, bd2_s]
          · rw [in_f (n := 100) (by rw [nI_toInt hw]; omega) rfl, bd1_s, i_if]
theorem t_judge {F : Nat} (hF : 50 ≤ F) (mc mm : MM) (a0 a1 : Int32) (R : RelX (XT F) mc mm) : ∃ r mc2 mm2, f_X5_judge F a0 a1 mc = some (r, mc2) ∧ f_X6_judge F a0 a1 mm = some (r, mm2) ∧ RelX (XT F) mc2 mm2 := by
  obtain ⟨A, n, r1, r2, V, r4, r5, r6, r7, r8⟩ := id R
  obtain ⟨hi, P, p0, pc, pm⟩ := r7.2.2.2 (A 6 4) r4
  unfold f_X5_judge f_X6_judge
  rcases a_cs a0 4 with ⟨s, hs, rfl⟩ | h
  · have hx : ix (nI s) = s := ix_n (by omega)
    have g := inB_n hs (by decide : 4 ≤ 2 ^ 31)
    rw [show (4 : Int32) = nI 4 from rfl, wi_t hs (by omega), shM hs, bd1_s, bd1_s, i_el, i_el]
    rcases a_cs a1 3 with ⟨w, hw, rfl⟩ | h
    · rw [show (3 : Int32) = nI 3 from rfl, wi_t hw (by omega), in_t hw (by omega) rfl, bd1_s, bd1_s, i_el, i_el, Gu_of g, Gu_of g, hx, isMC, bd1_s]
      rcases r8 s hs with ⟨q1, q2⟩ | ⟨so, n0, q1, q2, q3, q4, q5, q6, q7, q8⟩
      · rw [q1, q2, if_pos rfl, i_el, i_if]
        exact ⟨_, _, _, rfl, rfl, R⟩
      · rw [q3, q4, i_el, if_neg (n_ne1 (by omega)), i_if]
        obtain ⟨m1, e1, e2, e3, e4, e5⟩ := becC (k := 17) (k2 := 1) (by omega) mc
        rw [e1, bd1_s]
        have L17 := LC_17 V ⟨e3, e4, e5⟩ r1
        have L1 : LC m1 1 A := LC_fr (fun q h1 h2 => e2 q (by omega)) r1
        unfold f_X6_goesBy
        obtain ⟨m2, ⟨k1, k2⟩, k3⟩ := goes2 (F := F) (by omega) mm (fun x2_1 m2 => Lt (wI m2 0 40 (0 : Int32)) fun m6 => f_X6_goesBy_L34 F (nI s) (fun x2_7 x3_8 m9 => bd1 (f_X6_isOpen F m9) fun r23 => Gu (bz r23) <| Lt (wI m9 0 41 r23) fun m25 => f_X6_goesBy_L133 (fun x3_26 m27 => some (x2_7, m27)) F (0 : Int32) m25) F (-1 : Int32) (0 : Int32) m6)
        rw [k3, Lt_d]
        have fk : FJM mm m2 → True := fun _ => trivial
        obtain ⟨iE, c2, a2, mc2, mm2, x, u1, u2, u3, u4, u5, u6, u7, u8, u9⟩ := judge_L (F := F) (P := P) (s := s) (n0 := n0) (by omega) V p0 hs q2 (fun x4_10 x5_11 m12 => if nI w = 0 then if (rI m12 (64 + 2 * s) 2) ≤ x5_11 then some ((-1 : Int32), m12) else some (x5_11, m12) else if nI w = (1 : Int32) then some (x4_10, m12) else bd1 (f_X0_isOpen F 17 m12) fun r24 => if r24 = 0 then some ((0 : Int32), m12) else some ((1 : Int32), m12)) (fun x2_7 x3_8 m9 => bd1 (f_X6_isOpen F m9) fun r23 => Gu (bz r23) <| Lt (wI m9 0 41 r23) fun m25 => f_X6_goesBy_L133 (fun x3_26 m27 => some (x2_7, m27)) F (0 : Int32) m25) n0 0 F F (A 5) 0 m1 (wI m2 0 40 0) (by omega) (by omega) (by omega) V.2.2.1 (PC_fr (e2 _ (by omega)) (e2 _ (by omega)) (e2 _ (by omega)) pc) (PM_fr ((row_ne (by decide)).trans (k1 1 (by decide))) ((row_ne (by decide)).trans (k1 2 (by decide))) pm) L1 L17 (by
          rw [sA_self]
          exact LM_fr (fun q h1 h2 => (row_ne (by omega)).trans (k1 q (by omega))) (fun i hi => (rI_nj (by omega)).trans (r_row (k1 0 (by decide)) i)) r2) rI_eq ((r_row (e2 (64 + 2 * s) (by omega)) 2).trans q6) ((rI_ne (by decide)).trans ((r_row (k1 21 (by decide)) s).trans q7)) (fun j hj => ((r_row (e2 (64 + 2 * s + 1) (by omega)) j).trans (q8 j hj)).trans ((rI_ne (by decide)).trans (r_row (k1 22 (by decide)) _)).symm)
        rw [show (0 : Int32) = nI 0 from rfl] at u3 u4
        have u3' := u3
        have u4' := u4
        have eo := openT (F := F) (by omega) V u2 u7
        have ec := openS (F := F) (by omega) V u2 u6
        have z1 : rI mc2 (64 + 2 * s) 2 = nI n0 := (r_row (u8 (64 + 2 * s) (by omega) (by omega) (by omega)) 2).trans ((r_row (e2 (64 + 2 * s) (by omega)) 2).trans q6)
        have gb : bz (if u_open A a2 = true then (1 : Int32) else 0) = true := by
          split <;> rfl
        obtain ⟨m5, ⟨v1, v2⟩, v3⟩ := goes133 (F := F) (by omega) (wI mm2 0 41 (if u_open A a2 = true then (1 : Int32) else 0)) (fun x3_26 m27 => some ((if iE = n0 then (-1 : Int32) else nI iE), m27))
        have eM : f_X6_goesBy_L34 F (nI s) (fun x2_7 x3_8 m9 => bd1 (f_X6_isOpen F m9) fun r23 => Gu (bz r23) <| Lt (wI m9 0 41 r23) fun m25 => f_X6_goesBy_L133 (fun x3_26 m27 => some (x2_7, m27)) F (0 : Int32) m25) F (-1 : Int32) (0 : Int32) (wI m2 0 40 0) = some ((if iE = n0 then (-1 : Int32) else nI iE), m5) := by
          refine Eq.trans u4' ?_
          show (bd1 (f_X6_isOpen F mm2) fun r23 => Gu (bz r23) <| Lt (wI mm2 0 41 r23) fun m25 => f_X6_goesBy_L133 (fun x3_26 m27 => some ((if iE = n0 then (-1 : Int32) else nI iE), m27)) F (0 : Int32) m25) = _
          rw [eo, bd1_s, Gu_of gb, Lt_d]
          exact v3
        rw [eM, bd2_s]
        have g0 : ∀ i, i ≠ 41 → rI m5 0 i = rI mm2 0 i := fun i hi => (r_row (v1 0 (by decide)) i).trans (rI_nj hi)
        have e41 : rI m5 0 41 = if u_open A a2 = true then (1 : Int32) else 0 := (r_row (v1 0 (by decide)) 41).trans rI_eq
        have e40 : rI m5 0 40 = c2 := (g0 40 (by decide)).trans u5
        have fin : RelX (XT F) mc2 m5 := by
          refine Rel_fr (XF_T F) ⟨fun q hq => ?_, ?_⟩ ⟨fun q hq => ?_, fun i hi => ?_⟩ R
          · simp [kcB] at hq
            exact (u8 q (by omega) (by omega) (by omega)).trans (e2 q (by omega))
          · exact (r_row (u8 36 (by omega) (by omega) (by omega)) 1).trans (r_row (e2 36 (by omega)) 1)
          · simp [kmB] at hq
            by_cases c8 : q = 8
            · subst c8
              funext j
              show rI m5 8 j = rI mm 8 j
              rw [v2]
              by_cases cj : j < 5
              · rw [if_pos cj, rI_ne (by decide), r_row (u9.1 10 (by decide) (by decide)), rI_ne (by decide), k2, if_pos cj]
              · rw [if_neg cj, rI_ne (by decide), u9.2.2 j (by omega), rI_ne (by decide), r_row (k1 8 (by decide))]
            · rw [v1 q c8, row_ne (by omega), u9.1 q (by omega) c8, row_ne (by omega)]
              exact k1 q (by omega)
          · simp [kmS] at hi
            rw [g0 i (by omega), u9.2.1 i (by omega), rI_nj (by omega)]
            exact r_row (k1 0 (by decide)) i
        have eC : f_X5_judge_L53 F (nI s) (fun x4_10 x5_11 m12 => if nI w = 0 then if (rI m12 (64 + 2 * s) 2) ≤ x5_11 then some ((-1 : Int32), m12) else some (x5_11, m12) else if nI w = (1 : Int32) then some (x4_10, m12) else bd1 (f_X0_isOpen F 17 m12) fun r24 => if r24 = 0 then some ((0 : Int32), m12) else some ((1 : Int32), m12)) F 0 0 m1 = (if nI w = 0 then if (rI mc2 (64 + 2 * s) 2) ≤ nI iE then some ((-1 : Int32), mc2) else some (nI iE, mc2) else if nI w = (1 : Int32) then some (c2, mc2) else bd1 (f_X0_isOpen F 17 mc2) fun r24 => if r24 = 0 then some ((0 : Int32), mc2) else some ((1 : Int32), mc2)) := u3'
        rw [eC, e40, e41, ec, bd1_s, z1]
        rcases (show w = 0 ∨ w = 1 ∨ w = 2 by omega) with rfl | rfl | rfl
        · rw [if_pos (show nI 0 = 0 from rfl), if_pos (show nI 0 = 0 from rfl)]
          by_cases c3 : iE = n0
          · rw [if_pos c3, if_pos (by rw [c3]; exact Int32.le_refl _)]
            exact ⟨_, _, _, rfl, rfl, fin⟩
          · rw [if_neg c3, if_neg (by rw [n_le (by omega) (by omega)]; omega)]
            exact ⟨_, _, _, rfl, rfl, fin⟩
        · rw [if_neg (show ¬ nI 1 = 0 by decide), if_neg (show ¬ nI 1 = 0 by decide), if_pos (show nI 1 = 1 from rfl), if_pos (show nI 1 = 1 from rfl)]
          exact ⟨_, _, _, rfl, rfl, fin⟩
        · rw [if_neg (show ¬ nI 2 = 0 by decide), if_neg (show ¬ nI 2 = 0 by decide), if_neg (show ¬ nI 2 = 1 by decide), if_neg (show ¬ nI 2 = 1 by decide)]
          by_cases c3 : (if u_open A a2 = true then (1 : Int32) else 0) = 0
          · rw [if_pos c3, if_pos c3]
            exact ⟨_, _, _, rfl, rfl, fin⟩
          · rw [if_neg c3, if_neg c3]
            exact ⟨_, _, _, rfl, rfl, fin⟩
    · rw [show (3 : Int32) = nI 3 from rfl, wi_f h (by omega), in_f h rfl, bd1_s, bd1_s, i_if, i_if]
      exact ⟨_, _, _, rfl, rfl, R⟩
  · rw [show (4 : Int32) = nI 4 from rfl, wi_f h (by omega), shM0 h, bd1_s, bd1_s, i_if, i_if]
    exact ⟨_, _, _, rfl, rfl, R⟩
