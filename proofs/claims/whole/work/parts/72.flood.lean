/-! FLOOD, REACHES; BEST -/
theorem count_inj {p : Nat → Bool} {g : Nat → Nat} {m : Nat} : ∀ (n : Nat) (q : Nat → Bool), (∀ i, i < n → p i = true → g i < m ∧ q (g i) = true) → (∀ i j, i < n → j < n → p i = true → p j = true → g i = g j → i = j) → ctP p n ≤ ctP q m
  | 0, q, _, _ => Nat.zero_le _
  | n + 1, q, h1, h2 => by
    rw [ctP_s]
    by_cases c : p n = true
    · rw [if_pos c]
      have q1 := h1 n (by omega) c
      have e := ctP_out (W := q) q1.1 q1.2
      have ih := count_inj (p := p) (g := g) (m := m) n (upB q (g n) false) (fun i hi hp => ⟨(h1 i (by omega) hp).1, by
        rw [upB_at, if_neg (fun z => by
          have := h2 i n (by omega) (by omega) hp c z
          omega)]
        exact (h1 i (by omega) hp).2⟩) (fun i j hi hj => h2 i j (by omega) (by omega))
      omega
    · rw [if_neg c]
      exact count_inj n q (fun i hi => h1 i (by omega)) (fun i j hi hj => h2 i j (by omega) (by omega))
def RCH (A : LT) (hm s : Nat) : Prop := ∃ n c, RD A one (fun x => x = hm) n s c
theorem RCH_0 {A : LT} {hm : Nat} : RCH A hm hm := ⟨0, 0, rfl, rfl⟩
theorem RCH_s {A : LT} {hm s p k : Nat} (h : RCH A hm s) (hp : (p, k) ∈ nb A s) : RCH A hm p := by
  obtain ⟨n, c, h1⟩ := h
  exact ⟨n + 1, c + one k, s, k, c, h1, hp, rfl⟩
theorem RCH_cl {A : LT} {hm : Nat} {V : Nat → Prop} (h0 : V hm) (hs : ∀ s p k, V s → (p, k) ∈ nb A s → V p) : ∀ s, RCH A hm s → V s := by
  have key : ∀ n s c, RD A one (fun x => x = hm) n s c → V s := by
    intro n
    induction n with
    | zero =>
      intro s c h
      rw [show s = hm from h.1]
      exact h0
    | succ n ih =>
      rintro p c ⟨s, k, c', h1, h2, h3⟩
      exact hs s p k (ih s c' h1) h2
  rintro s ⟨n, c, h⟩
  exact key n s c h
theorem RCH_val {A : LT} {hm s : Nat} (B : AB A) (hv : u_val A hm = true) (hN : hm < (A 6 0) ^ (A 6 1)) (h : RCH A hm s) : u_val A s = true ∧ s < (A 6 0) ^ (A 6 1) :=
  RCH_cl (V := fun s => u_val A s = true ∧ s < (A 6 0) ^ (A 6 1)) ⟨hv, hN⟩ (fun s p k _ hp => by
    have q := nb_in B.1 B.2.1 hp
    exact ⟨q.2.2, q.1⟩) s h
/-- the flood's rows -/
def FLO (m : MM) (A : LT) (hm : Nat) (V : Nat → Bool) (q : Nat → Nat) (many : Nat) : Prop := (∀ s, s < (A 6 0) ^ (A 6 1) → rI m 29 s = nI (if V s = true then 1 else 0)) ∧ (∀ j, j < many → rI m 28 j = nI (q j) ∧ q j < (A 6 0) ^ (A 6 1) ∧ V (q j) = true) ∧ (∀ s, V s = true → s < (A 6 0) ^ (A 6 1) ∧ RCH A hm s ∧ ∃ j, j < many ∧ q j = s) ∧ many = ctP V ((A 6 0) ^ (A 6 1)) ∧ V hm = true
def FF (m m2 : MM) : Prop := ∀ q, q ≠ 28 → q ≠ 29 → q ≠ 33 → q ≠ 34 → q ≠ 35 → m2.1 q = m.1 q
theorem floodOnce_sp {F : Nat} {A : LT} {m : MM} {hm i many : Nat} {V : Nat → Bool} {q : Nat → Nat} (hF : 50 ≤ F) (B : AB A) (S : SE m A hm) (L : FLO m A hm V q many) (hi : i < many) : ∃ m' V' q' many', f_X1_floodOnce F (nI (q i)) (nI many) m = some (nI many', m') ∧ FLO m' A hm V' q' many' ∧ FF m m' ∧ many ≤ many' ∧ (∀ j, j < many → q' j = q j) ∧ (∀ s, V s = true → V' s = true) ∧ ∀ p k, (p, k) ∈ nb A (q i) → V' p = true := by
  have b1 := B.1
  have b2 := B.2.1
  have hN := pw_le b1 b2
  obtain ⟨l1, l2, l3, l4, l5⟩ := id L
  have hz := (l2 i hi).2.1
  have hrz := (l3 _ (l2 i hi).2.2).2.1
  obtain ⟨m3, e1, e2, e3⟩ := around_sp (F := F) hF B S hz
  have hlen := nbA_len (A := A) (s := q i) b1 (A 6 1)
  have hlen2 : (nb A (q i)).length ≤ 25 := Nat.le_trans hlen (by omega)
  unfold f_X1_floodOnce
  rw [e1, bd2_s]
  have L3 : FLO m3 A hm V q many := ⟨fun s hs => (r_row (e2 29 (by decide) (by decide) (by decide)) s).trans (l1 s hs), fun j hj => ⟨(r_row (e2 28 (by decide) (by decide) (by decide)) j).trans (l2 j hj).1, (l2 j hj).2⟩, l3, l4, l5⟩
  obtain ⟨st, ⟨V', q', many', j1, j2, j3, j4, j5, j6, j7, j8⟩, j9⟩ := loop_inv (σ := Int32 × MM) (fun n x st => f_X1_floodOnce_L12 (nI (nb A (q i)).length) (fun x3_4 x5_5 m6 => some (x3_4, m6)) n st.1 x st.2) (fun st => some st) (nb A (q i)).length (fun x st => ∃ V' q' many', st.1 = nI many' ∧ FLO st.2 A hm V' q' many' ∧ LN st.2 (nb A (q i)) ∧ (∀ r, r ≠ 28 → r ≠ 29 → st.2.1 r = m3.1 r) ∧ many ≤ many' ∧ (∀ j, j < many → q' j = q j) ∧ (∀ s, V s = true → V' s = true) ∧ ∀ j p k, j < x → (nb A (q i))[j]? = some (p, k) → V' p = true) (fun n st hI => by
    show f_X1_floodOnce_L12 _ _ (n + 1) _ _ _ = _
    unfold f_X1_floodOnce_L12
    rw [if_pos (Int32.le_refl _)]) (fun x n st hx hI => by
    obtain ⟨x0, m1⟩ := st
    obtain ⟨V1, q1, many1, k1, k2, k3, k4, k5, k6, k7, k8⟩ := hI
    have k1 : x0 = nI many1 := k1
    subst k1
    have k2 : FLO m1 A hm V1 q1 many1 := k2
    have k3 : LN m1 (nb A (q i)) := k3
    have k4 : ∀ r, r ≠ 28 → r ≠ 29 → m1.1 r = m3.1 r := k4
    obtain ⟨pk, hpk⟩ : ∃ pk, (nb A (q i))[x]? = some pk := ⟨(nb A (q i))[x], List.getElem?_eq_getElem hx⟩
    obtain ⟨p, k⟩ := pk
    have hmem : (p, k) ∈ nb A (q i) := List.mem_iff_getElem?.mpr ⟨x, hpk⟩
    obtain ⟨hpN, hk, _⟩ := nb_in b1 b2 hmem
    have ln : rI m1 34 x = nI p := (k3 x (p, k) hpk).1
    have gx := inB_n (by omega : x < 25) (by decide : 25 ≤ 2 ^ 31)
    have hxx : ix (nI x) = x := ix_n (by omega)
    have gp := inB_n (by omega : p < 3125) (by decide : 3125 ≤ 2 ^ 31)
    have hxp : ix (nI p) = p := ix_n (by omega)
    obtain ⟨u1, u2, u3, u4, u5⟩ := id k2
    have e29 := u1 p hpN
    have nle : ¬ nI (nb A (q i)).length ≤ nI x := by rw [n_le (by omega) (by omega)]; omega
    by_cases cp : V1 p = true
    · refine ⟨(nI many1, m1), ⟨V1, q1, many1, rfl, k2, k3, k4, k5, k6, k7, fun j p' k' hj hp' => ?_⟩, ?_⟩
      · by_cases cj : j = x
        · rw [cj, hpk] at hp'
          cases hp'
          exact cp
        · exact k8 j p' k' (by omega) hp'
      · show f_X1_floodOnce_L12 _ _ (n + 1) _ _ _ = _
        conv => lhs; unfold f_X1_floodOnce_L12
        rw [if_neg nle, Gu_of gx, hxx, ln, Gu_of gp, hxp, e29, if_pos cp, if_neg (show ¬ nI 1 = 0 by decide), Lt_d, n_s]
    · have cpf : V1 p = false := by simpa using cp
      have hct := ctP_on (W := V1) hpN cpf
      have hle : ctP (upB V1 p true) ((A 6 0) ^ (A 6 1)) ≤ (A 6 0) ^ (A 6 1) := ctP_le _
      have gm := inB_n (by omega : many1 < 3125) (by decide : 3125 ≤ 2 ^ 31)
      have hxm : ix (nI many1) = many1 := ix_n (by omega)
      have ln2 : rI (wI m1 29 p 1) 34 x = nI p := (rI_ne (by decide)).trans ln
      refine ⟨(nI (many1 + 1), wI (wI m1 29 p 1) 28 many1 (nI p)), ⟨upB V1 p true, up q1 many1 p, many1 + 1, rfl, ⟨fun s hs => ?_, fun j hj => ?_, fun s hs => ?_, by rw [hct, u4], ?_⟩, fun j pk hj => ?_, fun r h1 h2 => (row_ne h1).trans ((row_ne h2).trans (k4 r h1 h2)), by omega, fun j hj => ?_, fun s hs => ?_, fun j p' k' hj hp' => ?_⟩, ?_⟩
      · rw [rI_ne (by decide), rI_w, upB_at]
        by_cases cs : s = p
        · rw [if_pos ⟨rfl, cs⟩, if_pos cs]
          rfl
        · rw [if_neg (fun z => cs z.2), if_neg cs]
          exact u1 s hs
      · rw [rI_w, up_at, upB_at]
        by_cases cj : j = many1
        · rw [if_pos ⟨rfl, cj⟩, if_pos cj, if_pos rfl]
          exact ⟨rfl, hpN, rfl⟩
        · rw [if_neg (fun z => cj z.2), if_neg cj, rI_ne (by decide)]
          have v := u2 j (by omega)
          refine ⟨v.1, v.2.1, ?_⟩
          by_cases cq : q1 j = p
          · rw [if_pos cq]
          · rw [if_neg cq]
            exact v.2.2
      · rw [upB_at] at hs
        by_cases cs : s = p
        · rw [cs]
          exact ⟨hpN, RCH_s hrz hmem, many1, by omega, by rw [up_at, if_pos rfl]⟩
        · rw [if_neg cs] at hs
          obtain ⟨v1, v2, j, v3, v4⟩ := u3 s hs
          exact ⟨v1, v2, j, by omega, by rw [up_at, if_neg (by omega)]; exact v4⟩
      · rw [upB_at]
        by_cases c : hm = p
        · rw [if_pos c]
        · rw [if_neg c]
          exact u5
      · have v := k3 j pk hj
        exact ⟨(rI_ne (by decide)).trans ((rI_ne (by decide)).trans v.1), (rI_ne (by decide)).trans ((rI_ne (by decide)).trans v.2)⟩
      · rw [up_at, if_neg (by omega)]
        exact k6 j hj
      · rw [upB_at]
        by_cases c : s = p
        · rw [if_pos c]
        · rw [if_neg c]
          exact k7 s hs
      · rw [upB_at]
        by_cases c : p' = p
        · rw [if_pos c]
        · rw [if_neg c]
          by_cases cj : j = x
          · rw [cj, hpk] at hp'
            cases hp'
            exact absurd rfl c
          · exact k8 j p' k' (by omega) hp'
      · show f_X1_floodOnce_L12 _ _ (n + 1) _ _ _ = _
        conv => lhs; unfold f_X1_floodOnce_L12
        rw [if_neg nle, Gu_of gx, hxx, ln, Gu_of gp, hxp, e29, if_neg cp, if_pos (show nI 0 = 0 from rfl), Gu_of gx, Gu_of gp, Lt_d, Lt_d, Gu_of gx, Gu_of gm, hxm, ln2, Lt_d, Lt_d, n_s, n_s]) F (nI many, m3) (by omega) ⟨V, q, many, rfl, L3, e3, fun r _ _ => rfl, Nat.le_refl _, fun j _ => rfl, fun s h => h, fun j p k hj => absurd hj (Nat.not_lt_zero j)⟩
  refine ⟨st.2, V', q', many', ?_, j2, fun r h1 h2 h3 h4 h5 => (j4 r h1 h2).trans (e2 r h3 h4 h5), j5, j6, j7, fun p k hp => ?_⟩
  · rw [← j1]
    exact j9
  · obtain ⟨j, hj⟩ := List.mem_iff_getElem?.mp hp
    exact j8 j p k (List.getElem?_eq_some_iff.mp hj).1 hj
theorem FF_tr {a b c : MM} (h : FF a b) (g : FF b c) : FF a c := fun q h1 h2 h3 h4 h5 => (g q h1 h2 h3 h4 h5).trans (h q h1 h2 h3 h4 h5)
theorem SE_ff {m m2 : MM} {A : LT} {hm : Nat} (h : FF m m2) (S : SE m A hm) : SE m2 A hm := SE_fr (fun q hq => h q (by omega) (by omega) (by omega) (by omega) (by omega)) (fun i _ _ => r_row (h 25 (by decide) (by decide) (by decide) (by decide) (by decide)) i) S
theorem flood_sp {F : Nat} {A : LT} {m : MM} {hm : Nat} (hF : 4000 ≤ F) (B : AB A) (S : SE m A hm) : ∃ m' V q many, f_X1_flood F m = some (nI many, m') ∧ FLO m' A hm V q many ∧ FF m m' ∧ ∀ s, V s = true ↔ RCH A hm s := by
  have b1 := B.1
  have b2 := B.2.1
  have hN := pw_le b1 b2
  obtain ⟨s1, s2, s3, s4, s5, s6, s7, s8, s9, s10⟩ := id S
  unfold f_X1_flood
  obtain ⟨m1, ⟨i1, i2⟩, i3⟩ := loop_inv (fun n i m => f_X1_flood_L2 (fun x1_1 m2 => Gu (inB (rI m2 25 12) 3125) <| Lt (wI m2 29 (ix (rI m2 25 12)) (1 : Int32)) fun m6 => Gu (inB (0 : Int32) 3125) <| Lt (wI m6 28 (ix (0 : Int32)) (rI m6 25 12)) fun m7 => f_X1_flood_L47 F (fun x1_8 x2_9 m10 => some (x1_8, m10)) F (1 : Int32) (0 : Int32) m7) n i m) (fun m2 => Gu (inB (rI m2 25 12) 3125) <| Lt (wI m2 29 (ix (rI m2 25 12)) (1 : Int32)) fun m6 => Gu (inB (0 : Int32) 3125) <| Lt (wI m6 28 (ix (0 : Int32)) (rI m6 25 12)) fun m7 => f_X1_flood_L47 F (fun x1_8 x2_9 m10 => some (x1_8, m10)) F (1 : Int32) (0 : Int32) m7) ((A 6 0) ^ (A 6 1)) (fun x mx => (∀ q, q ≠ 29 → mx.1 q = m.1 q) ∧ ∀ s, s < x → rI mx 29 s = 0) (fun n mx hI => by
    have e : rI mx 25 11 = nI ((A 6 0) ^ (A 6 1)) := (r_row (hI.1 25 (by decide)) 11).trans s5
    show f_X1_flood_L2 _ (n + 1) _ _ = _
    unfold f_X1_flood_L2
    rw [e, if_pos (Int32.le_refl _)]) (fun x n mx hx hI => by
    have e : rI mx 25 11 = nI ((A 6 0) ^ (A 6 1)) := (r_row (hI.1 25 (by decide)) 11).trans s5
    refine ⟨wI mx 29 x 0, ⟨fun q hq => (row_ne hq).trans (hI.1 q hq), fun s hs => ?_⟩, ?_⟩
    · rw [rI_w]
      by_cases c : s = x
      · rw [if_pos ⟨rfl, c⟩]
      · rw [if_neg (fun z => c z.2)]
        exact hI.2 s (by omega)
    · show f_X1_flood_L2 _ (n + 1) _ _ = _
      conv => lhs; unfold f_X1_flood_L2
      rw [e, if_neg (by rw [n_le (by omega) (by omega)]; omega), Gu_of (inB_n (by omega : x < 3125) (by decide)), Lt_d, Lt_d, ix_n (by omega), n_s]) F m (by omega) ⟨fun q _ => rfl, fun s hs => absurd hs (Nat.not_lt_zero s)⟩
  have e12 : rI m1 25 12 = nI hm := (r_row (i1 25 (by decide)) 12).trans s6
  have e12' : rI (wI m1 29 hm 1) 25 12 = nI hm := (rI_ne (by decide)).trans e12
  have L0 : FLO (wI (wI m1 29 hm 1) 28 0 (nI hm)) A hm (upB (fun _ => false) hm true) (fun _ => hm) 1 := by
    refine ⟨fun s hs => ?_, fun j hj => ?_, fun s hs => ?_, ?_, by rw [upB_at, if_pos rfl]⟩
    · rw [rI_ne (by decide), rI_w, upB_at]
      by_cases c : s = hm
      · rw [if_pos ⟨rfl, c⟩, if_pos c]
        rfl
      · rw [if_neg (fun z => c z.2), if_neg c, i2 s hs]
        rfl
    · rw [show j = 0 by omega, rI_eq]
      exact ⟨rfl, s9, by rw [upB_at, if_pos rfl]⟩
    · rw [upB_at] at hs
      by_cases c : s = hm
      · rw [c]
        exact ⟨s9, RCH_0, 0, by omega, rfl⟩
      · rw [if_neg c] at hs
        cases hs
    · rw [ctP_on s9 rfl, ct_0.mpr (fun i _ => rfl)]
  have F0 : FF m (wI (wI m1 29 hm 1) 28 0 (nI hm)) := fun q h1 h2 _ _ _ => (row_ne h1).trans ((row_ne h2).trans (i1 q h2))
  -- the loop
  have key : ∀ k i n mx V q many, i + k = (A 6 0) ^ (A 6 1) → k < n → FF m mx → FLO mx A hm V q many → i ≤ many → (∀ j, j < i → ∀ p k, (p, k) ∈ nb A (q j) → V p = true) → ∃ m' V' q' many', f_X1_flood_L47 F (fun x1_8 x2_9 m10 => some (x1_8, m10)) n (nI many) (nI i) mx = some (nI many', m') ∧ FLO m' A hm V' q' many' ∧ FF m m' ∧ ∀ j, j < many' → ∀ p k, (p, k) ∈ nb A (q' j) → V' p = true := by
    intro k
    induction k with
    | zero =>
      intro i n mx V q many hk hn hF0 L him hcl
      obtain ⟨n, rfl⟩ : ∃ z, n = z + 1 := ⟨n - 1, by omega⟩
      have hml : many ≤ (A 6 0) ^ (A 6 1) := by
        rw [L.2.2.2.1]
        exact ctP_le _
      have e11 : rI mx 25 11 = nI ((A 6 0) ^ (A 6 1)) := (SE_ff hF0 S).2.2.2.2.1
      refine ⟨mx, V, q, many, ?_, L, hF0, fun j hj => hcl j (by omega)⟩
      unfold f_X1_flood_L47
      by_cases c : nI many ≤ nI i
      · rw [if_pos c]
      · rw [if_neg c, e11, if_pos ((n_le (by omega) (by omega)).mpr (by omega))]
    | succ k ih =>
      intro i n mx V q many hk hn hF0 L him hcl
      obtain ⟨n, rfl⟩ : ∃ z, n = z + 1 := ⟨n - 1, by omega⟩
      have hml : many ≤ (A 6 0) ^ (A 6 1) := by
        rw [L.2.2.2.1]
        exact ctP_le _
      have e11 : rI mx 25 11 = nI ((A 6 0) ^ (A 6 1)) := (SE_ff hF0 S).2.2.2.2.1
      by_cases c : many ≤ i
      · refine ⟨mx, V, q, many, ?_, L, hF0, fun j hj => hcl j (by omega)⟩
        unfold f_X1_flood_L47
        rw [if_pos ((n_le (by omega) (by omega)).mpr c)]
      · have hi : i < many := by omega
        obtain ⟨m2, V2, q2, many2, u1, u2, u3, u4, u5, u6, u7⟩ := floodOnce_sp (F := F) (by omega) B (SE_ff hF0 S) L hi
        obtain ⟨m', V', q', many', v1, v2, v3, v4⟩ := ih (i + 1) n m2 V2 q2 many2 (by omega) (by omega) (FF_tr hF0 u3) u2 (by omega) (fun j hj p k hp => by
          rw [u5 j (by omega)] at hp
          by_cases cj : j = i
          · rw [cj] at hp
            exact u7 p k hp
          · exact u6 p (hcl j (by omega) p k hp))
        refine ⟨m', V', q', many', ?_, v2, v3, v4⟩
        rw [← v1]
        conv => lhs; unfold f_X1_flood_L47
        rw [if_neg (by rw [n_le (by omega) (by omega)]; exact c), e11, if_neg (by rw [n_le (by omega) (by omega)]; omega), Gu_of (inB_n (by omega : i < 3125) (by decide)), ix_n (by omega), (L.2.1 i hi).1, u1, bd2_s, Lt_d, n_s]
  obtain ⟨m', V, q, many, v1, v2, v3, v4⟩ := key ((A 6 0) ^ (A 6 1)) 0 F _ _ _ 1 (by omega) (by omega) F0 L0 (by omega) (fun j hj => absurd hj (Nat.not_lt_zero j))
  refine ⟨m', V, q, many, ?_, v2, v3, fun s => ⟨fun h => (v2.2.2.1 s h).2.1, fun h => ?_⟩⟩
  · refine Eq.trans i3 ?_
    rw [e12, Gu_of (inB_n (by omega : hm < 3125) (by decide)), ix_n (by omega), Lt_d, Gu_of (by decide), e12', Lt_d]
    exact v1
  · exact RCH_cl (V := fun s => V s = true) v2.2.2.2.2 (fun s p k hs hp => by
      obtain ⟨_, _, j, hj, e⟩ := v2.2.2.1 s hs
      rw [← e] at hp
      exact v4 j hj p k hp) s h
theorem maxI_sp {a b : Nat} (ha : a < 2 ^ 31) (hb : b < 2 ^ 31) : maxI (nI a - 1) (nI b - 1) = nI (if a < b then b else a) - 1 := by
  unfold maxI
  have t1 : (1 : Int32).toInt = 1 := rfl
  have e : ∀ z, z < 2 ^ 31 → (nI z - 1).toInt = (z : Int) - 1 := fun z hz => by rw [i_sub (by rw [nI_toInt hz, t1]; omega) (by rw [nI_toInt hz, t1]; omega), nI_toInt hz, t1]
  by_cases c : a < b
  · rw [if_pos c, if_pos (by rw [i_lt, e a ha, e b hb]; omega)]
  · rw [if_neg c, if_neg (by rw [i_lt, e a ha, e b hb]; omega)]
/-- the greatest of those that are reached -/
def GR (A : LT) (hm : Nat) (fa : Nat → Nat) (y : Nat) : Prop := (∀ s, RCH A hm s → fa s ≤ y) ∧ (y = 0 ∨ ∃ s, RCH A hm s ∧ fa s = y)
theorem GR_un {A : LT} {hm : Nat} {fa : Nat → Nat} {y z : Nat} (h : GR A hm fa y) (g : GR A hm fa z) : y = z := by
  have a : y ≤ z := by
    rcases h.2 with e | ⟨s, h1, h2⟩
    · omega
    · rw [← h2]; exact g.1 s h1
  have b : z ≤ y := by
    rcases g.2 with e | ⟨s, h1, h2⟩
    · omega
    · rw [← h2]; exact h.1 s h1
  omega
theorem farthest_sp {F : Nat} {A : LT} {m : MM} {hm : Nat} {fa : Nat → Nat} (hF : 4000 ≤ F) (B : AB A) (S : SE m A hm) (hf : ∀ s, s < (A 6 0) ^ (A 6 1) → rI m 27 s = nI (fa s) - 1) (hb : ∀ s, fa s ≤ 309376) : ∃ m' y, f_X1_farthest F m = some (nI y - 1, m') ∧ GR A hm fa y ∧ FF m m' := by
  have hN := pw_le B.1 B.2.1
  obtain ⟨m1, V, q, many, e1, e2, e3, e4⟩ := flood_sp (F := F) hF B S
  have hml : many ≤ (A 6 0) ^ (A 6 1) := by
    rw [e2.2.2.2.1]
    exact ctP_le _
  unfold f_X1_farthest
  rw [e1, bd2_s]
  obtain ⟨st, ⟨y, i1, i2, i3, i4⟩, i5⟩ := loop_inv (fun n i st => f_X1_farthest_L9 (nI many) m1 (fun x2_4 x3_5 => some (x2_4, m1)) n st i) (fun st => some (st, m1)) many (fun x st => ∃ y, st = nI y - 1 ∧ y ≤ 309376 ∧ (∀ j, j < x → fa (q j) ≤ y) ∧ (y = 0 ∨ ∃ s, RCH A hm s ∧ fa s = y)) (fun n st hI => by
    show f_X1_farthest_L9 _ _ _ (n + 1) _ _ = _
    unfold f_X1_farthest_L9
    rw [if_pos (Int32.le_refl _)]) (fun x n st hx hI => by
    obtain ⟨y, k1, k2, k3, k4⟩ := hI
    have l := e2.2.1 x hx
    have hq := hb (q x)
    have e27 : rI m1 27 (q x) = nI (fa (q x)) - 1 := (r_row (e3 27 (by decide) (by decide) (by decide) (by decide) (by decide)) _).trans (hf _ l.2.1)
    refine ⟨nI (if y < fa (q x) then fa (q x) else y) - 1, ⟨_, rfl, by split <;> omega, fun j hj => ?_, ?_⟩, ?_⟩
    · by_cases cj : j = x
      · rw [cj]
        split <;> omega
      · have := k3 j (by omega)
        split <;> omega
    · by_cases c : y < fa (q x)
      · rw [if_pos c]
        exact Or.inr ⟨q x, (e4 _).mp l.2.2, rfl⟩
      · rw [if_neg c]
        exact k4
    · show f_X1_farthest_L9 _ _ _ (n + 1) _ _ = _
      conv => lhs; unfold f_X1_farthest_L9
      rw [if_neg (by rw [n_le (by omega) (by omega)]; omega), Gu_of (inB_n (by omega : x < 3125) (by decide)), ix_n (by omega), l.1, Gu_of (inB_n (by omega : q x < 3125) (by decide)), ix_n (by omega), e27, k1, maxI_sp (by omega) (by omega), Lt_d, Lt_d, n_s]) F (-1) (by omega) ⟨0, by decide, by omega, fun j hj => absurd hj (Nat.not_lt_zero j), Or.inl rfl⟩
  refine ⟨m1, y, ?_, ⟨fun s hs => ?_, i4⟩, e3⟩
  · rw [← i1]
    exact i5
  · obtain ⟨_, _, j, hj, e⟩ := e2.2.2.1 s ((e4 s).mpr hs)
    rw [← e]
    exact i3 j hj
