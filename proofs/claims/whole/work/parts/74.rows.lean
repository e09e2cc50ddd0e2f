/-! ROWS OF MOVES: how many lead from a state to another -/
def sm (z : Nat → Nat) (n : Nat) : Nat := smP (fun _ => true) z n
theorem sm_s {z : Nat → Nat} {n : Nat} : sm z (n + 1) = sm z n + z n := rfl
theorem sm_cong {z w : Nat → Nat} {n : Nat} (h : ∀ i, i < n → z i = w i) : sm z n = sm w n := smP_cong (fun _ _ => rfl) (fun i hi _ => h i hi)
theorem sm_add {z w : Nat → Nat} : ∀ n, sm (fun i => z i + w i) n = sm z n + sm w n
  | 0 => rfl
  | n + 1 => by
    rw [sm_s, sm_s, sm_s, sm_add n]
    omega
theorem sm_mul {z : Nat → Nat} {c : Nat} : ∀ n, sm (fun i => z i * c) n = sm z n * c
  | 0 => (Nat.zero_mul c).symm
  | n + 1 => by rw [sm_s, sm_s, sm_mul n, Nat.add_mul]
theorem sm_zero : ∀ n, sm (fun _ => 0) n = 0
  | 0 => rfl
  | n + 1 => by rw [sm_s, sm_zero n]
theorem sm_swap {z : Nat → Nat → Nat} {m : Nat} : ∀ n, sm (fun i => sm (z i) m) n = sm (fun j => sm (fun i => z i j) n) m
  | 0 => by
    show 0 = _
    exact (sm_zero m).symm
  | n + 1 => by
    rw [sm_s, sm_swap n]
    have e : ∀ j, sm (fun i => z i j) (n + 1) = sm (fun i => z i j) n + z n j := fun j => rfl
    rw [sm_cong (w := fun j => sm (fun i => z i j) n + z n j) (fun j _ => e j), sm_add]
theorem sm_one {z : Nat → Nat} {a n : Nat} (ha : a < n) (h : ∀ i, i < n → i ≠ a → z i = 0) : sm z n = z a := by
  have e := smP_in (p := fun _ => true) (z := z) ha rfl
  have e2 : smP (fun i => true && !(i == a)) z n = 0 := by
    have : smP (fun i => true && !(i == a)) z n = smP (fun i => true && !(i == a)) (fun _ => 0) n := smP_cong (fun _ _ => rfl) (fun i hi hp => h i hi (by simpa using hp))
    rw [this]
    have q := smP_le (p := fun i => true && !(i == a)) (z := fun _ => 0) (c := 0) (n := n) (fun _ _ => Nat.le_refl _)
    omega
  show smP (fun _ => true) z n = z a
  rw [e, e2, Nat.zero_add]
theorem sm_le {z : Nat → Nat} {c n : Nat} (h : ∀ i, i < n → z i ≤ c) : sm z n ≤ n * c := smP_le h
theorem sm_mono {z w : Nat → Nat} : ∀ {n : Nat}, (∀ i, i < n → z i ≤ w i) → sm z n ≤ sm w n
  | 0, _ => Nat.le_refl _
  | n + 1, h => by
    rw [sm_s, sm_s]
    have := sm_mono (z := z) (w := w) (n := n) (fun i hi => h i (by omega))
    have := h n (by omega)
    omega
theorem sm_part {z : Nat → Nat} {i n : Nat} (h : i ≤ n) : sm z i ≤ sm z n := smP_up h
/-- a sum over those of one side is a sum over those of the other -/
theorem sum_inj {z w : Nat → Nat} {g : Nat → Nat} {m : Nat} {p : Nat → Bool} : ∀ (n : Nat) (q : Nat → Bool), (∀ i, i < n → p i = true → g i < m ∧ q (g i) = true ∧ z i = w (g i)) → (∀ i j, i < n → j < n → p i = true → p j = true → g i = g j → i = j) → smP p z n ≤ smP q w m
  | 0, q, _, _ => Nat.zero_le _
  | n + 1, q, h1, h2 => by
    rw [smP_s]
    by_cases c : p n = true
    · rw [if_pos c]
      have q1 := h1 n (by omega) c
      have e := smP_in (z := w) (t := g n) q1.1 q1.2.1
      have ih := sum_inj (z := z) (w := w) (g := g) (m := m) (p := p) n (fun i => q i && !(i == g n)) (fun i hi hp => by
        have q2 := h1 i (by omega) hp
        refine ⟨q2.1, ?_, q2.2.2⟩
        have : g i ≠ g n := fun z => by
          have := h2 i n (by omega) (by omega) hp c z
          omega
        simp [q2.2.1, this]) (fun i j hi hj => h2 i j (by omega) (by omega))
      omega
    · rw [if_neg c]
      exact sum_inj n q (fun i hi => h1 i (by omega)) (fun i j hi hj => h2 i j (by omega) (by omega))
theorem ctP_one {p : Nat → Bool} {a n : Nat} (ha : a < n) (h : ∀ i, i < n → p i = true → i = a) : ctP p n = if p a = true then 1 else 0 := by
  by_cases c : p a = true
  · rw [if_pos c, ctP_in ha c]
    have : ctP (fun i => p i && !(i == a)) n = 0 := ct_0.mpr (fun i hi => by
      by_cases ci : i = a
      · rw [ci]; simp
      · cases hp : p i with
        | false => rfl
        | true => exact absurd (h i hi hp) ci)
    omega
  · rw [if_neg c]
    exact ct_0.mpr (fun i hi => by
      cases hp : p i with
      | false => rfl
      | true => rw [h i hi hp] at hp; exact absurd hp c)
/-- one move leads from s to p, by thing t -/
noncomputable def aj (A : LT) (s p t : Nat) : Bool := u_val A p && (!(dg (A 6 0) p t == dg (A 6 0) s t) && (mvp A s t (dg (A 6 0) p t) == p))
noncomputable def mM (A : LT) (s p : Nat) : Nat := ctP (aj A s p) (A 6 1)
theorem aj_t {A : LT} {s p t : Nat} : aj A s p t = true ↔ u_val A p = true ∧ dg (A 6 0) p t ≠ dg (A 6 0) s t ∧ mvp A s t (dg (A 6 0) p t) = p := by
  unfold aj
  simp [and_assoc]
theorem mvp_off {A : LT} {s p t : Nat} (hH : 0 < A 6 0) (hp : p < (A 6 0) ^ (A 6 1)) : mvp A s t (dg (A 6 0) p t) = p ↔ ∀ i, i < A 6 1 → i ≠ t → dg (A 6 0) s i = dg (A 6 0) p i := by
  have hd := dg_lt (b := A 6 0) (c := p) (t := t) hH
  constructor
  · intro e i hi hit
    have q := mvp_dg (s := s) (t := t) hd hi
    rw [e, if_neg hit] at q
    exact q.symm
  · intro h
    refine dg_ext (mvp_lt hd) hp (fun i hi => ?_)
    rw [mvp_dg hd hi]
    by_cases c : i = t
    · rw [if_pos c, c]
    · rw [if_neg c]
      exact h i hi c
theorem mM_sym {A : LT} {s p : Nat} (hs : s < (A 6 0) ^ (A 6 1)) (hp : p < (A 6 0) ^ (A 6 1)) (vs : u_val A s = true) (vp : u_val A p = true) : mM A s p = mM A p s := by
  refine ctP_cong (fun t ht => ?_)
  have hH : 0 < A 6 0 := by
    by_cases c : A 6 0 = 0
    · rw [c, Nat.zero_pow (by omega)] at hs
      omega
    · omega
  have e : aj A s p t = true ↔ aj A p s t = true := by
    rw [aj_t, aj_t, mvp_off hH hp, mvp_off hH hs]
    exact ⟨fun h => ⟨vs, h.2.1.symm, fun i hi hit => (h.2.2 i hi hit).symm⟩, fun h => ⟨vp, h.2.1.symm, fun i hi hit => (h.2.2 i hi hit).symm⟩⟩
  cases h1 : aj A s p t <;> cases h2 : aj A p s t <;> simp_all
/-- how many rows of n moves lead from a to each -/
noncomputable def WW (A : LT) (a : Nat) : Nat → Nat → Nat
  | 0, s => if s = a then 1 else 0
  | n + 1, p => sm (fun s => WW A a n s * mM A s p) ((A 6 0) ^ (A 6 1))
theorem WW_val {A : LT} {a : Nat} (va : u_val A a = true) : ∀ n s, u_val A s ≠ true → WW A a n s = 0
  | 0, s, h => if_neg (fun z => h (by rw [z]; exact va))
  | n + 1, p, h => by
    show sm _ _ = 0
    have e : ∀ s, WW A a n s * mM A s p = 0 := fun s => by
      have : mM A s p = 0 := ct_0.mpr (fun t _ => by
        cases c : aj A s p t with
        | false => rfl
        | true => exact absurd (aj_t.mp c).1 h)
      rw [this, Nat.mul_zero]
    rw [sm_cong (w := fun _ => 0) (fun s _ => e s), sm_zero]
theorem WW_ck {A : LT} {a b : Nat} (ha : u_val A a = true) (hb : u_val A b = true) (hbN : b < (A 6 0) ^ (A 6 1)) : ∀ j i, sm (fun s => WW A a i s * WW A b j s) ((A 6 0) ^ (A 6 1)) = WW A a (i + j) b
  | 0, i => by
    rw [sm_one hbN (fun s _ h => by
      show WW A a i s * (if s = b then 1 else 0) = 0
      rw [if_neg h, Nat.mul_zero])]
    show WW A a i b * (if b = b then 1 else 0) = _
    rw [if_pos rfl, Nat.mul_one]
    rfl
  | j + 1, i => by
    have e1 : ∀ s, s < (A 6 0) ^ (A 6 1) → WW A a i s * WW A b (j + 1) s = sm (fun r => WW A a i s * mM A s r * WW A b j r) ((A 6 0) ^ (A 6 1)) := by
      intro s hs
      show WW A a i s * sm (fun r => WW A b j r * mM A r s) ((A 6 0) ^ (A 6 1)) = _
      rw [Nat.mul_comm, ← sm_mul]
      refine sm_cong (fun r hr => ?_)
      by_cases c1 : u_val A s = true
      · by_cases c2 : u_val A r = true
        · rw [mM_sym hr hs c2 c1]
          ac_rfl
        · rw [WW_val hb j r c2]
          simp
      · rw [WW_val ha i s c1]
        simp
    rw [sm_cong e1, sm_swap]
    have e2 : ∀ r, sm (fun s => WW A a i s * mM A s r * WW A b j r) ((A 6 0) ^ (A 6 1)) = WW A a (i + 1) r * WW A b j r := fun r => sm_mul _
    rw [sm_cong (w := fun r => WW A a (i + 1) r * WW A b j r) (fun r _ => e2 r), WW_ck ha hb hbN j (i + 1)]
    congr 1
    omega
theorem mM_sum {A : LT} {s : Nat} (b1 : A 6 0 ≤ 5) (b2 : A 6 1 ≤ 5) (hs : s < (A 6 0) ^ (A 6 1)) (vs : u_val A s = true) : sm (fun p => mM A p s) ((A 6 0) ^ (A 6 1)) ≤ 25 := by
  have e : sm (fun p => mM A p s) ((A 6 0) ^ (A 6 1)) = sm (fun t => ctP (fun p => aj A p s t) ((A 6 0) ^ (A 6 1))) (A 6 1) := by
    have e1 : ∀ p, mM A p s = sm (fun t => if aj A p s t = true then 1 else 0) (A 6 1) := fun p => by
      have : ∀ n, ctP (aj A p s) n = sm (fun t => if aj A p s t = true then 1 else 0) n := fun n => by
        induction n with
        | zero => rfl
        | succ n ih => rw [ctP_s, sm_s, ih]
      exact this _
    rw [sm_cong (fun p _ => e1 p), sm_swap]
    refine sm_cong (fun t _ => ?_)
    have : ∀ n, sm (fun p => if aj A p s t = true then 1 else 0) n = ctP (fun p => aj A p s t) n := fun n => by
      induction n with
      | zero => rfl
      | succ n ih => rw [ctP_s, sm_s, ih]
    exact this _
  rw [e]
  have key : ∀ t, t < A 6 1 → ctP (fun p => aj A p s t) ((A 6 0) ^ (A 6 1)) ≤ 5 := by
    intro t ht
    have hH : 0 < A 6 0 := by
      by_cases c : A 6 0 = 0
      · rw [c, Nat.zero_pow (by omega)] at hs
        omega
      · omega
    have q := count_inj (p := fun p => aj A p s t) (g := fun p => dg (A 6 0) p t) (m := A 6 0) ((A 6 0) ^ (A 6 1)) (fun _ => true) (fun p hp _ => ⟨dg_lt hH, rfl⟩) (fun i j hi hj h1 h2 he => by
      have o1 := (mvp_off hH hs).mp (aj_t.mp h1).2.2
      have o2 := (mvp_off hH hs).mp (aj_t.mp h2).2.2
      refine dg_ext hi hj (fun x hx => ?_)
      by_cases c : x = t
      · rw [c]; exact he
      · rw [o1 x hx c, o2 x hx c])
    have q2 := ctP_le (p := fun _ => true) (A 6 0)
    omega
  have := sm_le key
  omega
theorem WW_le {A : LT} {a : Nat} (b1 : A 6 0 ≤ 5) (b2 : A 6 1 ≤ 5) (va : u_val A a = true) : ∀ n s, s < (A 6 0) ^ (A 6 1) → WW A a n s ≤ 25 ^ n
  | 0, s, hs => by
    show (if s = a then 1 else 0) ≤ 1
    split <;> omega
  | n + 1, p, hp => by
    by_cases vp : u_val A p = true
    · show sm (fun s => WW A a n s * mM A s p) ((A 6 0) ^ (A 6 1)) ≤ _
      have h1 : sm (fun s => WW A a n s * mM A s p) ((A 6 0) ^ (A 6 1)) ≤ sm (fun s => mM A s p * 25 ^ n) ((A 6 0) ^ (A 6 1)) := sm_mono (fun s hs => by
        rw [Nat.mul_comm]
        exact Nat.mul_le_mul_left _ (WW_le b1 b2 va n s hs))
      rw [sm_mul] at h1
      have h2 := Nat.mul_le_mul_right (25 ^ n) (mM_sum b1 b2 hp vp)
      rw [Nat.pow_succ]
      omega
    · rw [WW_val va (n + 1) p vp]
      exact Nat.zero_le _
theorem nb_cnt {A : LT} {s p : Nat} (hs : s < (A 6 0) ^ (A 6 1)) (hp : p < (A 6 0) ^ (A 6 1)) : (nb A s).countP (fun x => x.1 == p) = mM A s p := by
  have hcnt : ∀ t n, (nbH A s t n).countP (fun x => x.1 == p) = ctP (fun h => (!(h == dg (A 6 0) s t) && u_val A (mvp A s t h)) && (mvp A s t h == p)) n := by
    intro t n
    induction n with
    | zero => rfl
    | succ n ih =>
      unfold nbH
      rw [List.countP_append, ih, ctP_s]
      by_cases c : n ≠ dg (A 6 0) s t ∧ u_val A (mvp A s t n) = true
      · rw [if_pos c, List.countP_singleton]
        have e : (!(n == dg (A 6 0) s t) && u_val A (mvp A s t n)) = true := by simp [c.1, c.2]
        rw [e, Bool.true_and]
      · rw [if_neg c]
        have e : (!(n == dg (A 6 0) s t) && u_val A (mvp A s t n)) = false := by
          cases hh : (!(n == dg (A 6 0) s t) && u_val A (mvp A s t n)) with
          | false => rfl
          | true =>
            simp only [Bool.and_eq_true, Bool.not_eq_true', beq_eq_false_iff_ne] at hh
            exact absurd hh c
        rw [e, Bool.false_and]
        rfl
  have hA : ∀ n, n ≤ A 6 1 → (nbA A s n).countP (fun x => x.1 == p) = ctP (aj A s p) n := by
    intro n
    induction n with
    | zero => intro _; rfl
    | succ n ih =>
      intro hn
      unfold nbA
      rw [List.countP_append, ih (by omega), ctP_s, hcnt]
      congr 1
      have hH : 0 < A 6 0 := by
        by_cases c : A 6 0 = 0
        · rw [c, Nat.zero_pow (by omega)] at hs
          omega
        · omega
      have hd := dg_lt (b := A 6 0) (c := p) (t := n) hH
      rw [ctP_one hd (fun h hh hq => by
        simp only [Bool.and_eq_true, beq_iff_eq] at hq
        have q := mvp_dg (s := s) (t := n) hh (show n < A 6 1 by omega)
        rw [hq.2, if_pos rfl] at q
        exact q.symm)]
      have e : ((!(dg (A 6 0) p n == dg (A 6 0) s n) && u_val A (mvp A s n (dg (A 6 0) p n))) && (mvp A s n (dg (A 6 0) p n) == p)) = true ↔ aj A s p n = true := by
        rw [aj_t]
        simp only [Bool.and_eq_true, Bool.not_eq_true', beq_eq_false_iff_ne, beq_iff_eq]
        constructor
        · rintro ⟨⟨h1, h2⟩, h3⟩
          rw [h3] at h2
          exact ⟨h2, h1, h3⟩
        · rintro ⟨h1, h2, h3⟩
          exact ⟨⟨h2, by rw [h3]; exact h1⟩, h3⟩
      by_cases c : aj A s p n = true
      · rw [if_pos (e.mpr c), if_pos c]
      · rw [if_neg (fun z => c (e.mp z)), if_neg c]
  exact hA _ (Nat.le_refl _)
theorem stepOnce_sp {F : Nat} {A : LT} {m : MM} {s r hm : Nat} {z : Nat → Nat} (hF : 50 ≤ F) (B : AB A) (S : SE m A hm) (hs : s < (A 6 0) ^ (A 6 1)) (hz : ∀ p, p < (A 6 0) ^ (A 6 1) → rI m 28 p = nI (z p)) : ∃ m', f_X1_stepOnce F (nI s) (nI r) m = some m' ∧ (∀ q, q ≠ 28 → q ≠ 33 → q ≠ 34 → q ≠ 35 → m'.1 q = m.1 q) ∧ ∀ p, p < (A 6 0) ^ (A 6 1) → rI m' 28 p = nI (z p + r * mM A s p) := by
  have b1 := B.1
  have b2 := B.2.1
  have hN := pw_le b1 b2
  obtain ⟨m3, e1, e2, e3⟩ := around_sp (F := F) hF B S hs
  have hlen := nbA_len (A := A) (s := s) b1 (A 6 1)
  have hlen2 : (nb A s).length ≤ 25 := Nat.le_trans hlen (by omega)
  unfold f_X1_stepOnce
  rw [e1, bd2_s]
  obtain ⟨m', ⟨j1, j2, j3⟩, j4⟩ := loop_inv (fun n x m => f_X1_stepOnce_L9 (nI r) (nI (nb A s).length) (fun x4_4 m5 => some m5) n x m) (fun m => some m) (nb A s).length (fun x mx => (∀ q, q ≠ 28 → mx.1 q = m3.1 q) ∧ LN mx (nb A s) ∧ ∀ p, p < (A 6 0) ^ (A 6 1) → rI mx 28 p = nI (z p + r * ((nb A s).take x).countP (fun y => y.1 == p))) (fun n mx hI => by
    show f_X1_stepOnce_L9 _ _ _ (n + 1) _ _ = _
    unfold f_X1_stepOnce_L9
    rw [if_pos (Int32.le_refl _)]) (fun x n mx hx hI => by
    obtain ⟨k1, k2, k3⟩ := hI
    obtain ⟨pk, hpk⟩ : ∃ pk, (nb A s)[x]? = some pk := ⟨(nb A s)[x], List.getElem?_eq_getElem hx⟩
    obtain ⟨p, k⟩ := pk
    have hmem : (p, k) ∈ nb A s := List.mem_iff_getElem?.mpr ⟨x, hpk⟩
    obtain ⟨hpN, hk, _⟩ := nb_in b1 b2 hmem
    have ln : rI mx 34 x = nI p := (k2 x (p, k) hpk).1
    have gx := inB_n (by omega : x < 25) (by decide : 25 ≤ 2 ^ 31)
    have hxx : ix (nI x) = x := ix_n (by omega)
    have gp := inB_n (by omega : p < 3125) (by decide : 3125 ≤ 2 ^ 31)
    have hxp : ix (nI p) = p := ix_n (by omega)
    have tk : ∀ y, ((nb A s).take (x + 1)).countP (fun w => w.1 == y) = ((nb A s).take x).countP (fun w => w.1 == y) + (if p = y then 1 else 0) := by
      intro y
      rw [List.take_succ, hpk, List.countP_append]
      show _ + List.countP _ [(p, k)] = _
      rw [List.countP_singleton]
      congr 1
      by_cases c : p = y
      · rw [if_pos c, if_pos (by simpa using c)]
      · rw [if_neg c, if_neg (by simpa using c)]
    refine ⟨wI mx 28 p (nI (z p + r * ((nb A s).take x).countP (fun y => y.1 == p)) + nI r), ⟨fun q hq => (row_ne hq).trans (k1 q hq), fun j y hj => ?_, fun y hy => ?_⟩, ?_⟩
    · have v := k2 j y hj
      exact ⟨(rI_ne (by decide)).trans v.1, (rI_ne (by decide)).trans v.2⟩
    · rw [rI_w, tk]
      by_cases cy : y = p
      · rw [if_pos ⟨rfl, cy⟩, if_pos cy.symm, cy, nI_add]
        congr 1
        rw [Nat.mul_add, Nat.mul_one, Nat.add_assoc]
      · rw [if_neg (fun q => cy q.2), if_neg (fun q => cy q.symm), Nat.add_zero]
        exact k3 y hy
    · show f_X1_stepOnce_L9 _ _ _ (n + 1) _ _ = _
      conv => lhs; unfold f_X1_stepOnce_L9
      rw [if_neg (by rw [n_le (by omega) (by omega)]; omega)]
      simp only [Gu_of gx, hxx, ln, Gu_of gp, hxp, Lt_d, n_s, k3 p hpN]) F m3 (by omega) ⟨fun q _ => rfl, e3, fun p hp => by
    rw [r_row (e2 28 (by decide) (by decide) (by decide)), hz p hp]
    rfl⟩
  refine ⟨m', j4, fun q h1 h2 h3 h4 => (j1 q h1).trans (e2 q h2 h3 h4), fun p hp => ?_⟩
  rw [j3 p hp, List.take_of_length_le (Nat.le_refl _), nb_cnt hs hp]
theorem rI_cpyN {m : MM} {a b q j n : Nat} (hn : n < 2 ^ 31) : rI (cpy m a 0 b 0 (nI n)) q j = if q = b ∧ j < n then rI m a j else rI m q j := by
  have h0 : (0 : Int32).toNatClampNeg = 0 := rfl
  have h5 : (nI n).toNatClampNeg = n := ix_n hn
  unfold cpy wA rI va_cpy
  rw [h0, h5]
  by_cases c : q = b
  · subst c
    by_cases c2 : j < n
    · simp [c2]
    · simp [c2]
  · simp [c]
theorem row_cpyN {m : MM} {a b q n : Nat} (h : q ≠ b) : (cpy m a 0 b 0 (nI n)).1 q = m.1 q := by
  unfold cpy wA
  simp [h]
theorem zero_row {L : Nat → Int32 → MM → Option MM} {z : MM → Option MM} {N q : Nat} {m : MM} {F : Nat} (hF : N < F) (h0 : ∀ n mx, (∀ r, r ≠ q → mx.1 r = m.1 r) → L (n + 1) (nI N) mx = z mx) (hs : ∀ i n mx, i < N → (∀ r, r ≠ q → mx.1 r = m.1 r) → L (n + 1) (nI i) mx = L n (nI (i + 1)) (wI mx q i 0)) : ∃ m', (∀ r, r ≠ q → m'.1 r = m.1 r) ∧ (∀ i, i < N → rI m' q i = 0) ∧ L F (nI 0) m = z m' := by
  obtain ⟨m', ⟨i1, i2⟩, i3⟩ := loop_inv L z N (fun x mx => (∀ r, r ≠ q → mx.1 r = m.1 r) ∧ ∀ i, i < x → rI mx q i = 0) (fun n mx hI => h0 n mx hI.1) (fun x n mx hx hI => ⟨wI mx q x 0, ⟨fun r hr => (row_ne hr).trans (hI.1 r hr), fun i hi => by
    rw [rI_w]
    by_cases c : i = x
    · rw [if_pos ⟨rfl, c⟩]
    · rw [if_neg (fun y => c y.2)]
      exact hI.2 i (by omega)⟩, hs x n mx hx hI.1⟩) F m hF ⟨fun r _ => rfl, fun i hi => absurd hi (Nat.not_lt_zero i)⟩
  exact ⟨m', i1, i2, i3⟩
def FS (q : Nat) (m m2 : MM) : Prop := ∀ r, r ≠ q → r ≠ 28 → r ≠ 33 → r ≠ 34 → r ≠ 35 → m2.1 r = m.1 r
theorem step_sp {F : Nat} {A : LT} {m : MM} {a n hm q : Nat} (hF : 4000 ≤ F) (B : AB A) (S : SE m A hm) (hq : q = 27 ∨ q = 29) (ha : a < (A 6 0) ^ (A 6 1)) (hn : n < 100) : ∃ m', f_X1_step F q (nI a) (nI n) m = some m' ∧ FS q m m' ∧ ∀ p, p < (A 6 0) ^ (A 6 1) → rI m' q p = nI (WW A a n p) := by
  have b1 := B.1
  have b2 := B.2.1
  have hN := pw_le b1 b2
  have hq28 : q ≠ 28 := by omega
  have SEf : ∀ {m2 : MM}, FS q m m2 → SE m2 A hm := fun h => SE_fr (fun r hr => h r (by omega) (by omega) (by omega) (by omega) (by omega)) (fun i _ _ => r_row (h 25 (by omega) (by decide) (by decide) (by decide) (by decide)) i) S
  unfold f_X1_step
  have s5 := S.2.2.2.2.1
  obtain ⟨m1, i1, i2, i3⟩ := zero_row (L := fun k i m => f_X1_step_L3 q (fun x4_1 m2 => Gu (inB (nI a) 3125) <| Lt (wI m2 q (ix (nI a)) (1 : Int32)) fun m6 => f_X1_step_L30 F q (nI n) (fun x4_7 m8 => some m8) F (0 : Int32) m6) k i m) (z := fun m2 => Gu (inB (nI a) 3125) <| Lt (wI m2 q (ix (nI a)) (1 : Int32)) fun m6 => f_X1_step_L30 F q (nI n) (fun x4_7 m8 => some m8) F (0 : Int32) m6) (N := (A 6 0) ^ (A 6 1)) (q := q) (m := m) (F := F) (by omega) (fun k mx h => by
    have e : rI mx 25 11 = nI ((A 6 0) ^ (A 6 1)) := (r_row (h 25 (by omega)) 11).trans s5
    show f_X1_step_L3 _ _ (k + 1) _ _ = _
    unfold f_X1_step_L3
    rw [e, if_pos (Int32.le_refl _)]) (fun x k mx hx h => by
    have e : rI mx 25 11 = nI ((A 6 0) ^ (A 6 1)) := (r_row (h 25 (by omega)) 11).trans s5
    show f_X1_step_L3 _ _ (k + 1) _ _ = _
    conv => lhs; unfold f_X1_step_L3
    rw [e, if_neg (by rw [n_le (by omega) (by omega)]; omega), Gu_of (inB_n (by omega : x < 3125) (by decide)), Lt_d, Lt_d, ix_n (show x < 2 ^ 31 by omega), n_s])
  have F0 : FS q m (wI m1 q a 1) := fun r h1 _ _ _ _ => (row_ne h1).trans (i1 r h1)
  obtain ⟨m2, ⟨j1, j2⟩, j3⟩ := loop_inv (fun k i m => f_X1_step_L30 F q (nI n) (fun x4_7 m8 => some m8) k i m) (fun m => some m) n (fun x mx => FS q m mx ∧ ∀ p, p < (A 6 0) ^ (A 6 1) → rI mx q p = nI (WW A a x p)) (fun k mx hI => by
    show f_X1_step_L30 _ _ _ _ (k + 1) _ _ = _
    unfold f_X1_step_L30
    rw [if_pos (Int32.le_refl _)]) (fun x k mx hx hI => by
    obtain ⟨k1, k2⟩ := hI
    -- next is emptied
    obtain ⟨m3, u1, u2, u3⟩ := zero_row (L := fun k2 i m => f_X1_step_L39 (fun x5_10 m11 => f_X1_step_L65 F q (fun x5_15 m16 => Gu (cpyOk (0 : Int32) (0 : Int32) (rI m16 25 11) 3125 3125) <| Lt (cpy m16 28 (0 : Int32) q (0 : Int32) (rI m16 25 11)) fun m22 => Lt (nI x + (1 : Int32)) fun x4_23 => f_X1_step_L30 F q (nI n) (fun x4_7 m8 => some m8) k x4_23 m22) F (0 : Int32) m11) k2 i m) (z := fun m11 => f_X1_step_L65 F q (fun x5_15 m16 => Gu (cpyOk (0 : Int32) (0 : Int32) (rI m16 25 11) 3125 3125) <| Lt (cpy m16 28 (0 : Int32) q (0 : Int32) (rI m16 25 11)) fun m22 => Lt (nI x + (1 : Int32)) fun x4_23 => f_X1_step_L30 F q (nI n) (fun x4_7 m8 => some m8) k x4_23 m22) F (0 : Int32) m11) (N := (A 6 0) ^ (A 6 1)) (q := 28) (m := mx) (F := F) (by omega) (fun k mx2 h => by
      have e : rI mx2 25 11 = nI ((A 6 0) ^ (A 6 1)) := (r_row (h 25 (by decide)) 11).trans (SEf k1).2.2.2.2.1
      show f_X1_step_L39 _ (k + 1) _ _ = _
      unfold f_X1_step_L39
      rw [e, if_pos (Int32.le_refl _)]) (fun x2 k mx2 hx2 h => by
      have e : rI mx2 25 11 = nI ((A 6 0) ^ (A 6 1)) := (r_row (h 25 (by decide)) 11).trans (SEf k1).2.2.2.2.1
      show f_X1_step_L39 _ (k + 1) _ _ = _
      conv => lhs; unfold f_X1_step_L39
      rw [e, if_neg (by rw [n_le (by omega) (by omega)]; omega), Gu_of (inB_n (by omega : x2 < 3125) (by decide)), Lt_d, Lt_d, ix_n (show x2 < 2 ^ 31 by omega), n_s, n_s])
    have k3 : FS q m m3 := fun r h1 h2 h3 h4 h5 => (u1 r h2).trans (k1 r h1 h2 h3 h4 h5)
    -- all states
    obtain ⟨m4, ⟨v1, v2, v3⟩, v4⟩ := loop_inv (fun k2 i m => f_X1_step_L65 F q (fun x5_15 m16 => Gu (cpyOk (0 : Int32) (0 : Int32) (rI m16 25 11) 3125 3125) <| Lt (cpy m16 28 (0 : Int32) q (0 : Int32) (rI m16 25 11)) fun m22 => Lt (nI x + (1 : Int32)) fun x4_23 => f_X1_step_L30 F q (nI n) (fun x4_7 m8 => some m8) k x4_23 m22) k2 i m) (fun m16 => Gu (cpyOk (0 : Int32) (0 : Int32) (rI m16 25 11) 3125 3125) <| Lt (cpy m16 28 (0 : Int32) q (0 : Int32) (rI m16 25 11)) fun m22 => Lt (nI x + (1 : Int32)) fun x4_23 => f_X1_step_L30 F q (nI n) (fun x4_7 m8 => some m8) k x4_23 m22) ((A 6 0) ^ (A 6 1)) (fun y my => FS q m my ∧ (∀ p, p < (A 6 0) ^ (A 6 1) → rI my q p = nI (WW A a x p)) ∧ ∀ p, p < (A 6 0) ^ (A 6 1) → rI my 28 p = nI (sm (fun s => WW A a x s * mM A s p) y)) (fun k2 my hI => by
      have e : rI my 25 11 = nI ((A 6 0) ^ (A 6 1)) := (SEf hI.1).2.2.2.2.1
      show f_X1_step_L65 _ _ _ (k2 + 1) _ _ = _
      unfold f_X1_step_L65
      rw [e, if_pos (Int32.le_refl _)]) (fun y k2 my hy hI => by
      obtain ⟨w1, w2, w3⟩ := hI
      have e : rI my 25 11 = nI ((A 6 0) ^ (A 6 1)) := (SEf w1).2.2.2.2.1
      have gy := inB_n (by omega : y < 3125) (by decide : 3125 ≤ 2 ^ 31)
      have hxy : ix (nI y) = y := ix_n (by omega)
      by_cases c : nI (WW A a x y) = 0
      · refine ⟨my, ⟨w1, w2, fun p hp => ?_⟩, ?_⟩
        · rw [w3 p hp, sm_s, ← nI_add, ← n_mul, c, Int32.zero_mul, Int32.add_zero]
        · show f_X1_step_L65 _ _ _ (k2 + 1) _ _ = _
          conv => lhs; unfold f_X1_step_L65
          rw [e, if_neg (by rw [n_le (by omega) (by omega)]; omega), Gu_of gy, hxy, w2 y hy, if_pos c, Lt_d, n_s, n_s]
      · obtain ⟨m5, z1, z2, z3⟩ := stepOnce_sp (F := F) (r := WW A a x y) (by omega) B (SEf w1) hy w3
        refine ⟨m5, ⟨fun r h1 h2 h3 h4 h5 => (z2 r h2 h3 h4 h5).trans (w1 r h1 h2 h3 h4 h5), fun p hp => (r_row (z2 q hq28 (by omega) (by omega) (by omega)) p).trans (w2 p hp), fun p hp => z3 p hp⟩, ?_⟩
        show f_X1_step_L65 _ _ _ (k2 + 1) _ _ = _
        conv => lhs; unfold f_X1_step_L65
        rw [e, if_neg (by rw [n_le (by omega) (by omega)]; omega), Gu_of gy, hxy, w2 y hy, if_neg c, Gu_of gy, z1, bd1_s, Lt_d, n_s, n_s]) F m3 (by omega) ⟨k3, fun p hp => (r_row (u1 q hq28) p).trans (k2 p hp), fun p hp => u2 p hp⟩
    have e : rI m4 25 11 = nI ((A 6 0) ^ (A 6 1)) := (SEf v1).2.2.2.2.1
    have gcp : cpyOk (0 : Int32) (0 : Int32) (nI ((A 6 0) ^ (A 6 1))) 3125 3125 = true := by
      have h0 : (0 : Int32).toNatClampNeg = 0 := rfl
      have h5 : (nI ((A 6 0) ^ (A 6 1))).toNatClampNeg = (A 6 0) ^ (A 6 1) := ix_n (by omega)
      unfold cpyOk
      rw [h0, h5]
      simp only [Bool.and_eq_true, decide_eq_true_eq]
      exact ⟨Int32.le_refl _, Int32.le_refl _, nI_pos' (by omega), by omega, by omega⟩
    refine ⟨cpy m4 28 0 q 0 (nI ((A 6 0) ^ (A 6 1))), ⟨fun r h1 h2 h3 h4 h5 => (row_cpyN h1).trans (v1 r h1 h2 h3 h4 h5), fun p hp => ?_⟩, ?_⟩
    · rw [rI_cpyN (by omega), if_pos ⟨rfl, hp⟩]
      exact v3 p hp
    · show f_X1_step_L30 _ _ _ _ (k + 1) _ _ = _
      conv => lhs; unfold f_X1_step_L30
      rw [if_neg (by rw [n_le (by omega) (by omega)]; omega)]
      refine Eq.trans u3 ?_
      refine Eq.trans v4 ?_
      rw [e, Gu_of gcp, Lt_d, Lt_d, n_s]) F (wI m1 q a 1) (by omega) ⟨F0, fun p hp => by
    rw [rI_w]
    show _ = nI (if p = a then 1 else 0)
    by_cases c : p = a
    · rw [if_pos ⟨rfl, c⟩, if_pos c]
      rfl
    · rw [if_neg (fun z => c z.2), if_neg c, i2 p hp]
      rfl⟩
  refine ⟨m2, ?_, j1, j2⟩
  refine Eq.trans i3 ?_
  rw [Gu_of (inB_n (by omega : a < 3125) (by decide)), ix_n (by omega), Lt_d]
  exact j3
