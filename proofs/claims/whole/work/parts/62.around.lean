/-! THINK; LOOK AROUND -/
def u_th (A : LT) (g w : Nat) : LT := uA (uA A 6 5 g) 6 6 w
theorem th_rm {A : LT} {g w h : Nat} (h6 : A 6 6 = 0) : u_rm (u_th A g w) h = u_rm A h + (if w = h + 1 then 1 else 0) := by
  unfold u_rm
  have e : u_th A g w 6 6 = w := rfl
  have e0 : u_th A g w 0 h = A 0 h := rfl
  have e1 : u_th A g w 1 h = A 1 h := rfl
  rw [e, e0, e1, h6]
  simp
theorem th_AB {A : LT} {g w : Nat} (B : AB A) (hg : g ≤ A 6 1) (hw : w ≤ A 6 0) : AB (u_th A g w) := by
  obtain ⟨b1, b2, b3, b4, b5, b6, b7, b8, b9⟩ := B
  exact ⟨b1, b2, b3, b4, b5, hg, hw, b8, b9⟩
theorem th_MAY {A : LT} {g w : Nat} (V : AV A) : MAY (u_th A g w) (A 5) := by
  obtain ⟨B, S, ⟨m1, m2, m3, m4⟩, h0, h6⟩ := V
  have hp : ∀ x i, u_p (u_th A g w) (A 5) x i = true → u_p A (A 5) x i = true := by
    intro x i h
    refine p_iff.mpr ⟨by omega, (p_iff.mp h).2⟩
  refine ⟨m1, fun x hx => ?_, fun i hi _ => m3 i hi (by omega), fun i j hi hj _ _ he => m4 i j hi hj (by omega) (by omega) he⟩
  have q := m2 x hx
  rw [th_rm h6]
  exact ⟨Nat.le_trans (smP_mono (fun i _ => hp x i)) (Nat.le_trans q.1 (Nat.le_add_right _ _)), Nat.le_trans (ctP_mono (fun i _ => hp x i)) q.2⟩
theorem think_sp {F : Nat} {A : LT} {m : MM} {g w : Nat} (hF : 4000 ≤ F) (V : AV A) (hg : g ≤ A 6 1) (hw : w ≤ A 6 0) (hgk : g = 0 ∨ g ≠ A 6 2) (L : LC m 1 A) : ∃ m', f_X5_think F (nI g - 1) (nI w - 1) m = some m' ∧ SE m' (u_th A g w) (u_hm (u_th A g w)) ∧ ∀ q, ¬ (17 ≤ q ∧ q ≤ 33) ∨ q = 31 → m'.1 q = m.1 q := by
  obtain ⟨B, S, M, h0, h6⟩ := id V
  have b1 := B.1
  have b2 := B.2.1
  obtain ⟨m1, e1, e2, e3, e4, e5⟩ := becC (k := 17) (k2 := 1) (by omega) m
  have L17 := LC_bec (k := 17) (k2 := 1) b1 b2 h0 e3 e4 e5 L
  unfold f_X5_think
  rw [e1, bd1_s]
  simp only [Lt_d, Jp_d]
  have key : ∀ m8 : MM, (∀ q, ¬ (17 ≤ q ∧ q ≤ 24) → m8.1 q = m.1 q) → LC m8 17 (u_th A g w) → ∃ m', (bd1 (f_X1_look F m8) fun m7 => some m7) = some m' ∧ SE m' (u_th A g w) (u_hm (u_th A g w)) ∧ ∀ q, ¬ (17 ≤ q ∧ q ≤ 33) ∨ q = 31 → m'.1 q = m.1 q := by
    intro m8 hf L8
    obtain ⟨m', k1, k2, k3⟩ := look_sp (F := F) hF (th_AB B hg hw) S hgk (th_MAY V) L8
    rw [k1, bd1_s]
    exact ⟨m', rfl, k2, fun q hq => (k3 q (by omega)).trans (hf q (by omega))⟩
  obtain ⟨l1, l2, l3, l4, l5, l6, l7, l8⟩ := L17
  by_cases c : w = 0
  · subst c
    rw [if_pos (show nI 0 - 1 = -1 by decide)]
    refine key _ (fun q hq => (row_ne (by omega)).trans (e2 q (by omega))) ⟨(rI_nj (by decide)).trans l1, (rI_nj (by decide)).trans l2, (rI_nj (by decide)).trans l3, (rI_nj (by decide)).trans l4, (rI_nj (by decide)).trans l5, rI_eq, fun i hi => ?_, fun i hi => ?_⟩
    · rw [th_rm h6, if_neg (by omega)]
      have q := l7 i hi
      exact ⟨(rI_ne (by decide)).trans q.1, (rI_ne (by decide)).trans q.2.1, (rI_ne (by decide)).trans q.2.2⟩
    · have q := l8 i hi
      exact ⟨(rI_ne (by decide)).trans q.1, (rI_ne (by decide)).trans q.2.1, (rI_ne (by decide)).trans q.2.2.1, (rI_ne (by decide)).trans q.2.2.2⟩
  · obtain ⟨v, rfl⟩ : ∃ v, w = v + 1 := ⟨w - 1, by omega⟩
    have gv := inB_n (by omega : v < 5) (by decide : 5 ≤ 2 ^ 31)
    have hxv : ix (nI v) = v := ix_n (by omega)
    have q20 : rI m1 20 v = nI (u_rm A v) := (l7 v (by omega)).2.2
    rw [n_p, if_neg (n_ne1 (by omega)), Gu_of gv, Gu_of gv, hxv, rI_ne (by decide), q20, n_s]
    refine key _ (fun q hq => (row_ne (by omega)).trans ((row_ne (by omega)).trans (e2 q (by omega)))) ⟨(rI_ne (by decide)).trans ((rI_nj (by decide)).trans l1), (rI_ne (by decide)).trans ((rI_nj (by decide)).trans l2), (rI_ne (by decide)).trans ((rI_nj (by decide)).trans l3), (rI_ne (by decide)).trans ((rI_nj (by decide)).trans l4), (rI_ne (by decide)).trans ((rI_nj (by decide)).trans l5), (rI_ne (by decide)).trans rI_eq, fun i hi => ?_, fun i hi => ?_⟩
    · rw [th_rm h6]
      have q := l7 i hi
      refine ⟨(rI_ne (by decide)).trans ((rI_ne (by decide)).trans q.1), (rI_ne (by decide)).trans ((rI_ne (by decide)).trans q.2.1), ?_⟩
      show rI (wI (wI m1 17 12 (nI g - 1)) 20 v (nI (u_rm A v + 1))) 20 i = _
      rw [rI_w]
      by_cases ci : i = v
      · rw [if_pos ⟨rfl, ci⟩, if_pos (by omega), ci]
      · rw [if_neg (fun z => ci z.2), if_neg (by omega), rI_ne (by decide)]
        exact q.2.2
    · have q := l8 i hi
      exact ⟨(rI_ne (by decide)).trans ((rI_ne (by decide)).trans q.1), (rI_ne (by decide)).trans ((rI_ne (by decide)).trans q.2.1), (rI_ne (by decide)).trans ((rI_ne (by decide)).trans q.2.2.1), (rI_ne (by decide)).trans ((rI_ne (by decide)).trans q.2.2.2)⟩
theorem mk_le {A : LT} {s : Nat} : u_mk A s ≤ 2 := by
  unfold u_mk
  repeat' split
  all_goals omega
/-- the state behind a move -/
def mvp (A : LT) (s t h : Nat) : Nat := enc (A 6 0) (up (dg (A 6 0) s) t h) (A 6 1)
theorem up_lt {A : LT} {s t h : Nat} (hh : h < A 6 0) : ∀ i, i < A 6 1 → up (dg (A 6 0) s) t h i < A 6 0 := fun i _ => by
  rw [up_at]
  split
  · exact hh
  · exact dg_lt (by omega)
theorem mvp_lt {A : LT} {s t h : Nat} (hh : h < A 6 0) : mvp A s t h < (A 6 0) ^ (A 6 1) := enc_lt (up_lt hh)
theorem mvp_dg {A : LT} {s t h i : Nat} (hh : h < A 6 0) (hi : i < A 6 1) : dg (A 6 0) (mvp A s t h) i = if i = t then h else dg (A 6 0) s i := enc_dg (by omega) (up_lt hh) hi
theorem mvp_ar {A : LT} {s t h : Nat} (hs : s < (A 6 0) ^ (A 6 1)) (ht : t < A 6 1) : mvp A s t h + dg (A 6 0) s t * (A 6 0) ^ t = s + h * (A 6 0) ^ t := by
  have q := enc_up (b := A 6 0) (a := dg (A 6 0) s) (t := t) (h := h) ht
  rw [dg_enc' hs] at q
  exact q
theorem dg_le {b s t : Nat} : dg b s t * b ^ t ≤ s := Nat.le_trans (Nat.mul_le_mul_right _ (Nat.mod_le _ _)) (Nat.div_mul_le_self _ _)
/-- what stands around a state: the state, and the place of the price of the move back -/
noncomputable def nbH (A : LT) (s t : Nat) : Nat → List (Nat × Nat)
  | 0 => []
  | h + 1 => nbH A s t h ++ (if h ≠ dg (A 6 0) s t ∧ u_val A (mvp A s t h) = true then [(mvp A s t h, (t * 5 + h) * 5 + dg (A 6 0) s t)] else [])
noncomputable def nbA (A : LT) (s : Nat) : Nat → List (Nat × Nat)
  | 0 => []
  | t + 1 => nbA A s t ++ nbH A s t (A 6 0)
noncomputable def nb (A : LT) (s : Nat) : List (Nat × Nat) := nbA A s (A 6 1)
theorem nbH_len {A : LT} {s t : Nat} : ∀ n, (nbH A s t n).length ≤ n
  | 0 => Nat.le_refl _
  | n + 1 => by
    have q := nbH_len (A := A) (s := s) (t := t) n
    unfold nbH
    rw [List.length_append]
    split
    · simp only [List.length_cons, List.length_nil]; omega
    · simp only [List.length_nil]; omega
theorem nbA_len {A : LT} {s : Nat} (b1 : A 6 0 ≤ 5) : ∀ n, (nbA A s n).length ≤ n * 5
  | 0 => Nat.le_refl _
  | n + 1 => by
    have q := nbA_len (s := s) b1 n
    have q2 := nbH_len (A := A) (s := s) (t := n) (A 6 0)
    unfold nbA
    rw [List.length_append]
    omega
theorem nbH_mem {A : LT} {s t : Nat} {x : Nat × Nat} : ∀ {n}, x ∈ nbH A s t n ↔ ∃ h, h < n ∧ h ≠ dg (A 6 0) s t ∧ u_val A (mvp A s t h) = true ∧ x = (mvp A s t h, (t * 5 + h) * 5 + dg (A 6 0) s t)
  | 0 => by
    constructor
    · intro h; cases h
    · rintro ⟨h, h1, _⟩; exact absurd h1 (Nat.not_lt_zero h)
  | n + 1 => by
    unfold nbH
    rw [List.mem_append, nbH_mem]
    constructor
    · rintro (⟨h, h1, h2⟩ | h)
      · exact ⟨h, by omega, h2⟩
      · by_cases c : n ≠ dg (A 6 0) s t ∧ u_val A (mvp A s t n) = true
        · rw [if_pos c] at h
          exact ⟨n, by omega, c.1, c.2, List.mem_singleton.mp h⟩
        · rw [if_neg c] at h
          cases h
    · rintro ⟨h, h1, h2, h3, h4⟩
      by_cases c : h = n
      · subst c
        right
        rw [if_pos ⟨h2, h3⟩]
        exact List.mem_singleton.mpr h4
      · exact Or.inl ⟨h, by omega, h2, h3, h4⟩
theorem nbA_mem {A : LT} {s : Nat} {x : Nat × Nat} : ∀ {n}, x ∈ nbA A s n ↔ ∃ t h, t < n ∧ h < A 6 0 ∧ h ≠ dg (A 6 0) s t ∧ u_val A (mvp A s t h) = true ∧ x = (mvp A s t h, (t * 5 + h) * 5 + dg (A 6 0) s t)
  | 0 => by
    constructor
    · intro h; cases h
    · rintro ⟨t, h, h1, _⟩; exact absurd h1 (Nat.not_lt_zero t)
  | n + 1 => by
    unfold nbA
    rw [List.mem_append, nbA_mem, nbH_mem]
    constructor
    · rintro (⟨t, h, h1, h2⟩ | ⟨h, h1, h2⟩)
      · exact ⟨t, h, by omega, h2⟩
      · exact ⟨n, h, by omega, h1, h2⟩
    · rintro ⟨t, h, h1, h2⟩
      by_cases c : t = n
      · subst c
        exact Or.inr ⟨h, h2⟩
      · exact Or.inl ⟨t, h, by omega, h2⟩
/-- a list stands in the rows near and backBy -/
def LN (m : MM) (l : List (Nat × Nat)) : Prop := ∀ i p, l[i]? = some p → rI m 34 i = nI p.1 ∧ rI m 35 i = nI p.2
theorem LN_add {m : MM} {l : List (Nat × Nat)} {p : Nat × Nat} (h : LN m l) : LN (wI (wI m 34 l.length (nI p.1)) 35 l.length (nI p.2)) (l ++ [p]) := by
  intro i q hq
  by_cases c : i < l.length
  · rw [List.getElem?_append_left c] at hq
    rw [rI_ne (by decide), rI_nj (by omega), rI_nj (by omega), rI_ne (by decide)]
    exact h i q hq
  · have h1 := (List.getElem?_eq_some_iff.mp hq).1
    simp only [List.length_append, List.length_cons, List.length_nil] at h1
    have e : i = l.length := by omega
    subst e
    simp at hq
    subst hq
    rw [rI_ne (by decide), rI_eq, rI_eq]
    exact ⟨rfl, rfl⟩
theorem around_sp {F : Nat} {A : LT} {m : MM} {s hm : Nat} (hF : 50 ≤ F) (B : AB A) (S : SE m A hm) (hs : s < (A 6 0) ^ (A 6 1)) : ∃ m', f_X1_lookAround F (nI s) m = some (nI (nb A s).length, m') ∧ (∀ q, q ≠ 33 → q ≠ 34 → q ≠ 35 → m'.1 q = m.1 q) ∧ LN m' (nb A s) := by
  have b1 := B.1
  have b2 := B.2.1
  have hN := pw_le b1 b2
  obtain ⟨s1, s2, s3, s4, s5, s6, s7, s8, s9, s10⟩ := S
  have hH : 0 < A 6 0 ∨ A 6 1 = 0 := by
    by_cases c : A 6 1 = 0
    · exact Or.inr c
    · have := (B.2.2.2.2.2.2.2.2 0 (by omega)).2.2.2.2
      exact Or.inl (by omega)
  obtain ⟨m1, e1, e2, e3⟩ := split_sp (F := F) (m := m) (s := s) hF B hH (by omega) s1.1 s1.2.1 s4
  unfold f_X1_lookAround
  rw [e1, bd1_s]
  obtain ⟨st, ⟨i1, i2, i3⟩, i4⟩ := loop_inv (σ := Int32 × MM) (fun n i st => f_X1_lookAround_L9 F (nI s) (fun x2_3 x3_4 m5 => some (x2_3, m5)) n st.1 i st.2) (fun st => some st) (A 6 1) (fun t st => st.1 = nI (nbA A s t).length ∧ (∀ q, q ≠ 34 → q ≠ 35 → st.2.1 q = m1.1 q) ∧ LN st.2 (nbA A s t)) (fun n st hI => by
    have g : (rI st.2 25 10 == 17) = true := by rw [r_row (hI.2.1 25 (by decide) (by decide)), r_row (e2 25 (by decide)), s4]; rfl
    have e8 : rI st.2 17 8 = nI (A 6 1) := (r_row (hI.2.1 17 (by decide) (by decide)) 8).trans ((r_row (e2 17 (by decide)) 8).trans s1.2.1)
    show f_X1_lookAround_L9 F (nI s) (fun x2_3 x3_4 m5 => some (x2_3, m5)) (n + 1) _ _ _ = _
    unfold f_X1_lookAround_L9
    rw [Gu_of g, e8, if_pos (Int32.le_refl _)]) (fun t n st ht hI => by
    obtain ⟨x, mx⟩ := st
    obtain ⟨i1, i2, i3⟩ := hI
    have i1 : x = nI (nbA A s t).length := i1
    have i2 : ∀ q, q ≠ 34 → q ≠ 35 → mx.1 q = m1.1 q := i2
    have i3 : LN mx (nbA A s t) := i3
    subst i1
    have hH0 : 0 < A 6 0 := by omega
    have g : (rI mx 25 10 == 17) = true := by rw [r_row (i2 25 (by decide) (by decide)), r_row (e2 25 (by decide)), s4]; rfl
    have e8 : rI mx 17 8 = nI (A 6 1) := (r_row (i2 17 (by decide) (by decide)) 8).trans ((r_row (e2 17 (by decide)) 8).trans s1.2.1)
    have gt := inB_n (by omega : t < 5) (by decide : 5 ≤ 2 ^ 31)
    have hxt : ix (nI t) = t := ix_n (by omega)
    have e33 : rI mx 33 t = nI (dg (A 6 0) s t) := (r_row (i2 33 (by decide) (by decide)) t).trans (e3 t ht)
    have e32 : rI mx 32 t = nI ((A 6 0) ^ t) := (r_row (i2 32 (by decide) (by decide)) t).trans ((r_row (e2 32 (by decide)) t).trans (s7 t ht))
    have hd := dg_lt (c := s) (t := t) hH0
    have hdl : dg (A 6 0) s t * (A 6 0) ^ t ≤ s := dg_le
    have hlenA := nbA_len (A := A) (s := s) b1 t
    -- the inner loop
    obtain ⟨st2, ⟨j1, j2, j3, j4⟩, j5⟩ := loop_inv (σ := Int32 × Int32 × MM) (fun n2 i st => f_X1_lookAround_L44 (nI t) (nI (dg (A 6 0) s t)) (fun x2_9 x5_10 x6_11 m12 => Lt (nI t + (1 : Int32)) fun x3_24 => f_X1_lookAround_L9 F (nI s) (fun x2_3 x3_4 m5 => some (x2_3, m5)) n x2_9 x3_24 m12) n2 st.1 st.2.1 i st.2.2) (fun st => f_X1_lookAround_L9 F (nI s) (fun x2_3 x3_4 m5 => some (x2_3, m5)) n st.1 (nI (t + 1)) st.2.2) (A 6 0) (fun h st => st.1 = nI (nbA A s t ++ nbH A s t h).length ∧ st.2.1 = nI (s - dg (A 6 0) s t * (A 6 0) ^ t + h * (A 6 0) ^ t) ∧ (∀ q, q ≠ 34 → q ≠ 35 → st.2.2.1 q = m1.1 q) ∧ LN st.2.2 (nbA A s t ++ nbH A s t h)) (fun n2 st hI => by
      obtain ⟨x2, x5, my⟩ := st
      obtain ⟨j1, j2, j3, j4⟩ := hI
      have j3 : ∀ q, q ≠ 34 → q ≠ 35 → my.1 q = m1.1 q := j3
      have g : (rI my 25 10 == 17) = true := by rw [r_row (j3 25 (by decide) (by decide)), r_row (e2 25 (by decide)), s4]; rfl
      have e7 : rI my 17 7 = nI (A 6 0) := (r_row (j3 17 (by decide) (by decide)) 7).trans ((r_row (e2 17 (by decide)) 7).trans s1.1)
      show f_X1_lookAround_L44 _ _ _ (n2 + 1) _ _ _ my = _
      unfold f_X1_lookAround_L44
      rw [Gu_of g, e7, if_pos (Int32.le_refl _), Lt_d, n_s]) (fun h n2 st hh hI => by
      obtain ⟨x2, x5, my⟩ := st
      obtain ⟨j1, j2, j3, j4⟩ := hI
      have j1 : x2 = nI (nbA A s t ++ nbH A s t h).length := j1
      have j2 : x5 = nI (s - dg (A 6 0) s t * (A 6 0) ^ t + h * (A 6 0) ^ t) := j2
      have j3 : ∀ q, q ≠ 34 → q ≠ 35 → my.1 q = m1.1 q := j3
      have j4 : LN my (nbA A s t ++ nbH A s t h) := j4
      subst j1 j2
      have g : (rI my 25 10 == 17) = true := by rw [r_row (j3 25 (by decide) (by decide)), r_row (e2 25 (by decide)), s4]; rfl
      have e7 : rI my 17 7 = nI (A 6 0) := (r_row (j3 17 (by decide) (by decide)) 7).trans ((r_row (e2 17 (by decide)) 7).trans s1.1)
      have e32' : rI my 32 t = nI ((A 6 0) ^ t) := (r_row (j3 32 (by decide) (by decide)) t).trans ((r_row (e2 32 (by decide)) t).trans (s7 t ht))
      have ar := mvp_ar (t := t) (h := h) hs ht
      have ep : s - dg (A 6 0) s t * (A 6 0) ^ t + h * (A 6 0) ^ t = mvp A s t h := by omega
      have hpl := mvp_lt (s := s) (t := t) hh
      have epn : s - dg (A 6 0) s t * (A 6 0) ^ t + h * (A 6 0) ^ t + (A 6 0) ^ t = s - dg (A 6 0) s t * (A 6 0) ^ t + (h + 1) * (A 6 0) ^ t := by
        rw [Nat.succ_mul, Nat.add_assoc]
      have e26 : rI my 26 (mvp A s t h) = nI (u_mk A (mvp A s t h)) := (r_row (j3 26 (by decide) (by decide)) _).trans ((r_row (e2 26 (by decide)) _).trans (s8 _ hpl))
      have hlen : (nbA A s t ++ nbH A s t h).length < 25 := by
        have := nbH_len (A := A) (s := s) (t := t) h
        rw [List.length_append]
        omega
      have gl := inB_n hlen (by decide : 25 ≤ 2 ^ 31)
      have hxl : ix (nI (nbA A s t ++ nbH A s t h).length) = (nbA A s t ++ nbH A s t h).length := ix_n (by omega)
      have nle : ¬ nI (A 6 0) ≤ nI h := by rw [n_le (by omega) (by omega)]; omega
      have hmk : nI (u_mk A (mvp A s t h)) = 0 ↔ ¬ u_val A (mvp A s t h) = true := by
        rw [n_z (by have := mk_le (A := A) (s := mvp A s t h); omega)]
        unfold u_mk
        by_cases c : u_val A (mvp A s t h) = true
        · rw [if_pos c]
          constructor
          · intro z
            split at z <;> omega
          · exact fun z => absurd c z
        · rw [if_neg c]
          exact ⟨fun _ => c, fun _ => rfl⟩
      by_cases c : h ≠ dg (A 6 0) s t ∧ u_val A (mvp A s t h) = true
      · refine ⟨(nI ((nbA A s t ++ nbH A s t h).length + 1), nI (s - dg (A 6 0) s t * (A 6 0) ^ t + (h + 1) * (A 6 0) ^ t), wI (wI my 34 (nbA A s t ++ nbH A s t h).length (nI (mvp A s t h))) 35 (nbA A s t ++ nbH A s t h).length (nI ((t * 5 + h) * 5 + dg (A 6 0) s t))), ?_, ?_⟩
        · have el : nbA A s t ++ nbH A s t (h + 1) = (nbA A s t ++ nbH A s t h) ++ [(mvp A s t h, (t * 5 + h) * 5 + dg (A 6 0) s t)] := by
            conv => lhs; unfold nbH
            rw [if_pos c, List.append_assoc]
          refine ⟨?_, rfl, fun q h1 h2 => (row_ne h2).trans ((row_ne h1).trans (j3 q h1 h2)), ?_⟩
          · rw [el]
            simp only [List.length_append, List.length_cons, List.length_nil]
          · rw [el]
            exact LN_add j4
        · show f_X1_lookAround_L44 _ _ _ (n2 + 1) _ _ _ my = _
          conv => lhs; unfold f_X1_lookAround_L44
          rw [Gu_of g, e7, if_neg nle, Jp_d, if_neg (by rw [n_eq (by omega) (by omega)]; exact c.1), ep, Gu_of (inB_n (by omega : mvp A s t h < 3125) (by decide)), ix_n (by omega), e26, if_neg (fun z => hmk.mp z c.2), Gu_of gl, hxl, Lt_d]
          unfold f_X1_placeOf
          rw [bd1_s, Gu_of gl]
          have e5 : (nI t * 5 + nI h) * 5 + nI (dg (A 6 0) s t) = nI ((t * 5 + h) * 5 + dg (A 6 0) s t) := by
            rw [show (5 : Int32) = nI 5 from rfl, n_mul, nI_add, n_mul, nI_add]
          rw [e5, Lt_d, Lt_d]
          dsimp only
          have e32'' : rI (wI (wI my 34 (nbA A s t ++ nbH A s t h).length (nI (mvp A s t h))) 35 (nbA A s t ++ nbH A s t h).length (nI ((t * 5 + h) * 5 + dg (A 6 0) s t))) 32 t = nI ((A 6 0) ^ t) := (rI_ne (by decide)).trans ((rI_ne (by decide)).trans e32')
          rw [Gu_of gt, hxt, e32'', ← ep, nI_add, epn, n_s, Lt_d, Lt_d, n_s, n_s]
      · refine ⟨(nI (nbA A s t ++ nbH A s t h).length, nI (s - dg (A 6 0) s t * (A 6 0) ^ t + (h + 1) * (A 6 0) ^ t), my), ?_, ?_⟩
        · have el : nbA A s t ++ nbH A s t (h + 1) = nbA A s t ++ nbH A s t h := by
            conv => lhs; unfold nbH
            rw [if_neg c, List.append_nil]
          exact ⟨by rw [el], rfl, j3, by rw [el]; exact j4⟩
        · show f_X1_lookAround_L44 _ _ _ (n2 + 1) _ _ _ my = _
          conv => lhs; unfold f_X1_lookAround_L44
          rw [Gu_of g, e7, if_neg nle, Jp_d]
          by_cases c1 : h = dg (A 6 0) s t
          · rw [if_pos (by rw [← c1])]
            dsimp only
            rw [Gu_of gt, hxt, e32', nI_add, epn, Lt_d, Lt_d, n_s, n_s]
          · rw [if_neg (by rw [n_eq (by omega) (by omega)]; exact c1), ep, Gu_of (inB_n (by omega : mvp A s t h < 3125) (by decide)), ix_n (by omega), e26, if_pos (hmk.mpr (fun z => c ⟨c1, z⟩))]
            dsimp only
            rw [Gu_of gt, hxt, e32', ← ep, nI_add, epn, Lt_d, Lt_d, n_s, n_s]) F (nI (nbA A s t).length, nI (s - dg (A 6 0) s t * (A 6 0) ^ t), mx) (by omega) ⟨by show _ = nI (nbA A s t ++ []).length; rw [List.append_nil], by show _ = nI (_ + 0 * _); rw [Nat.zero_mul, Nat.add_zero], i2, by show LN mx (nbA A s t ++ []); rw [List.append_nil]; exact i3⟩
    refine ⟨(st2.1, st2.2.2), ⟨j1, j3, j4⟩, ?_⟩
    show f_X1_lookAround_L9 F (nI s) (fun x2_3 x3_4 m5 => some (x2_3, m5)) (n + 1) _ _ _ = _
    conv => lhs; unfold f_X1_lookAround_L9
    rw [Gu_of g, e8, if_neg (n_head (n := 0) b2 ht), Gu_of gt, hxt, e33, Lt_d, Gu_of gt, e32, n_mul, n_subn hdl, Lt_d]
    exact j5) F (0, m1) (by omega) ⟨rfl, fun q _ _ => rfl, fun i p h => by cases h⟩
  refine ⟨st.2, ?_, fun q h1 h2 h3 => (i2 q h2 h3).trans (e2 q h1), i3⟩
  rw [show nI (nb A s).length = st.1 from i1.symm]
  exact i4
