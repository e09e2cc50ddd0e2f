/-! TURNS: the chains of those that wait -/
def upB (W : Nat → Bool) (s : Nat) (b : Bool) : Nat → Bool := fun i => if i = s then b else W i
theorem upB_at {W : Nat → Bool} {s i : Nat} {b : Bool} : upB W s b i = if i = s then b else W i := rfl
theorem ctP_off {p q : Nat → Bool} {s : Nat} : ∀ {n : Nat}, n ≤ s → (∀ i, i ≠ s → p i = q i) → ctP p n = ctP q n := fun h g => ctP_cong (fun i hi => g i (by omega))
theorem ctP_on {W : Nat → Bool} {s : Nat} : ∀ {n : Nat}, s < n → W s = false → ctP (upB W s true) n = ctP W n + 1
  | 0, h, _ => absurd h (Nat.not_lt_zero s)
  | n + 1, h, hw => by
    rw [ctP_s, ctP_s]
    by_cases c : n = s
    · subst c
      rw [ctP_off (q := W) (Nat.le_refl _) (fun i hi => by rw [upB_at, if_neg hi]), upB_at, if_pos rfl, hw]
      simp
    · rw [ctP_on (n := n) (by omega) hw, upB_at, if_neg c]
      omega
theorem upB_self {W : Nat → Bool} {s : Nat} {b : Bool} (h : W s = b) : upB W s b = W := by
  funext i
  rw [upB_at]
  by_cases c : i = s
  · rw [if_pos c, c, h]
  · rw [if_neg c]
theorem upB_upB {W : Nat → Bool} {s : Nat} {b c : Bool} : upB (upB W s b) s c = upB W s c := by
  funext i
  rw [upB_at, upB_at, upB_at]
  by_cases h : i = s
  · rw [if_pos h, if_pos h]
  · rw [if_neg h, if_neg h, if_neg h]
theorem ctP_out {W : Nat → Bool} {s n : Nat} (h : s < n) (hw : W s = true) : ctP (upB W s false) n + 1 = ctP W n := by
  have q := ctP_on (W := upB W s false) (s := s) h (by rw [upB_at, if_pos rfl])
  rw [upB_upB, upB_self hw] at q
  exact q.symm
def MD (m : MM) (N : Nat) (fa nx bf hd : Nat → Nat) (W : Nat → Bool) : Prop := (∀ s, s < N → rI m 27 s = nI (fa s) - 1) ∧ (∀ s, s < N → W s = true → rI m 28 s = nI (nx s) - 1 ∧ rI m 29 s = nI (bf s) - 1) ∧ (∀ i, i < 100 → rI m 30 i = nI (hd i) - 1) ∧ rI m 25 13 = nI (ctP W N)
def QS (N : Nat) (fa nx bf hd : Nat → Nat) (W : Nat → Bool) (ta : Nat → Nat) (M : Nat) : Prop := (∀ s, W s = true → s < N ∧ fa s ≠ 0 ∧ ta s < M) ∧ (∀ s, W s = true → bf s = 0 → hd ((fa s - 1) % 100) = s + 1) ∧ (∀ s t, W s = true → bf s = t + 1 → W t = true ∧ nx t = s + 1 ∧ (fa t - 1) % 100 = (fa s - 1) % 100 ∧ ta s < ta t) ∧ (∀ s t, W s = true → nx s = t + 1 → W t = true ∧ bf t = s + 1) ∧ (∀ i s, i < 100 → hd i = s + 1 → W s = true ∧ bf s = 0 ∧ (fa s - 1) % 100 = i)
def DQ (m : MM) (N : Nat) (fa : Nat → Nat) (W : Nat → Bool) : Prop := ∃ nx bf hd ta M, MD m N fa nx bf hd W ∧ QS N fa nx bf hd W ta M
theorem nJ_m1 {g : Nat} (h : g < 2 ^ 31) : nI g - 1 = -1 ↔ g = 0 := by
  have h1 : (1 : Int32).toInt = 1 := rfl
  have h2 : (-1 : Int32).toInt = -1 := rfl
  rw [i_eq, i_sub (by rw [nI_toInt h, h1]; omega) (by rw [nI_toInt h, h1]; omega), nI_toInt h, h1, h2]
  omega
theorem QS_in {N : Nat} {fa nx bf hd : Nat → Nat} {W : Nat → Bool} {ta : Nat → Nat} {M s d : Nat} (Q : QS N fa nx bf hd W ta M) (hs : s < N) (hw : W s = false) : QS N (up fa s (d + 1)) (up nx s (hd (d % 100))) (if hd (d % 100) = 0 then up bf s 0 else up (up bf s 0) (hd (d % 100) - 1) (s + 1)) (up hd (d % 100) (s + 1)) (upB W s true) (up ta s M) (M + 1) := by
  obtain ⟨q1, q2, q3, q4, q5⟩ := Q
  have ht : d % 100 < 100 := Nat.mod_lt _ (by decide)
  generalize hT : d % 100 = T at *
  have hne : ∀ x, W x = true → x ≠ s := fun x hx z => by rw [z, hw] at hx; cases hx
  have hW : ∀ x, x ≠ s → upB W s true x = W x := fun x hx => by rw [upB_at, if_neg hx]
  have hWs : upB W s true s = true := by rw [upB_at, if_pos rfl]
  have fs : (up fa s (d + 1) s - 1) % 100 = T := by rw [up_at, if_pos rfl, Nat.add_sub_cancel, hT]
  have fx : ∀ x, x ≠ s → up fa s (d + 1) x = fa x := fun x hx => by rw [up_at, if_neg hx]
  -- how it was before the head
  have hb : ∀ x, (if hd T = 0 then up bf s 0 else up (up bf s 0) (hd T - 1) (s + 1)) x = if hd T = x + 1 then s + 1 else if x = s then 0 else bf x := by
    intro x
    by_cases c : hd T = 0
    · rw [if_pos c, if_neg (by omega), up_at]
    · rw [if_neg c, up_at, up_at]
      by_cases c2 : x = hd T - 1
      · rw [if_pos c2, if_pos (by omega)]
      · rw [if_neg c2, if_neg (show ¬ hd T = x + 1 by omega)]
  have hh : ∀ h, hd T = h + 1 → W h = true ∧ bf h = 0 ∧ (fa h - 1) % 100 = T := fun h e => q5 T h ht e
  refine ⟨fun x hx => ?_, fun x hx hb0 => ?_, fun x t hx hbt => ?_, fun x t hx hnt => ?_, fun i x hi hx => ?_⟩
  · by_cases c : x = s
    · subst c
      exact ⟨hs, by rw [up_at, if_pos rfl]; omega, by rw [up_at, if_pos rfl]; omega⟩
    · rw [hW x c] at hx
      have q := q1 x hx
      exact ⟨q.1, by rw [fx x c]; exact q.2.1, by rw [up_at, if_neg c]; omega⟩
  · rw [hb] at hb0
    by_cases c : x = s
    · subst c
      rw [fs, up_at, if_pos rfl]
    · rw [hW x c] at hx
      by_cases c2 : hd T = x + 1
      · rw [if_pos c2] at hb0
        omega
      · rw [if_neg c2, if_neg c] at hb0
        have q := q2 x hx hb0
        rw [fx x c, up_at]
        by_cases c3 : (fa x - 1) % 100 = T
        · rw [c3] at q
          exact absurd q c2
        · rw [if_neg c3]
          exact q
  · rw [hb] at hbt
    by_cases c2 : hd T = x + 1
    · rw [if_pos c2] at hbt
      have hts : t = s := by omega
      subst hts
      have q := hh x c2
      have hxs := hne x q.1
      have q1x := q1 x q.1
      refine ⟨hWs, by rw [up_at, if_pos rfl]; exact c2, by rw [fs, fx x hxs]; exact q.2.2.symm, ?_⟩
      rw [up_at, if_neg hxs, up_at, if_pos rfl]
      exact q1x.2.2
    · rw [if_neg c2] at hbt
      by_cases c : x = s
      · rw [if_pos c] at hbt
        omega
      · rw [if_neg c] at hbt
        rw [hW x c] at hx
        have q := q3 x t hx hbt
        have hts := hne t q.1
        exact ⟨by rw [hW t hts]; exact q.1, by rw [up_at, if_neg hts]; exact q.2.1, by rw [fx t hts, fx x c]; exact q.2.2.1, by rw [up_at, if_neg c, up_at, if_neg hts]; exact q.2.2.2⟩
  · rw [up_at] at hnt
    by_cases c : x = s
    · rw [if_pos c] at hnt
      have q := hh t hnt
      have hts := hne t q.1
      refine ⟨by rw [hW t hts]; exact q.1, ?_⟩
      rw [hb, if_pos hnt, c]
    · rw [if_neg c] at hnt
      rw [hW x c] at hx
      have q := q4 x t hx hnt
      have hts := hne t q.1
      refine ⟨by rw [hW t hts]; exact q.1, ?_⟩
      rw [hb, if_neg (fun z => by have := (hh t z).2.1; omega), if_neg hts]
      exact q.2
  · rw [up_at] at hx
    by_cases c : i = T
    · rw [if_pos c] at hx
      have : x = s := by omega
      subst this
      refine ⟨hWs, ?_, by rw [fs, c]⟩
      rw [hb, if_neg (fun z => hne x (hh x z).1 rfl), if_pos rfl]
    · rw [if_neg c] at hx
      have q := q5 i x hi hx
      have hxs := hne x q.1
      refine ⟨by rw [hW x hxs]; exact q.1, ?_, by rw [fx x hxs]; exact q.2.2⟩
      rw [hb, if_neg (fun z => c (by rw [← q.2.2]; exact (hh x z).2.2)), if_neg hxs]
      exact q.2.1
theorem QS_out {N : Nat} {fa nx bf hd : Nat → Nat} {W : Nat → Bool} {ta : Nat → Nat} {M s : Nat} (Q : QS N fa nx bf hd W ta M) (hw : W s = true) : QS N fa (if bf s = 0 then nx else up nx (bf s - 1) (nx s)) (if nx s = 0 then bf else up bf (nx s - 1) (bf s)) (if bf s = 0 then up hd ((fa s - 1) % 100) (nx s) else hd) (upB W s false) ta M := by
  obtain ⟨q1, q2, q3, q4, q5⟩ := Q
  have hW : ∀ x, upB W s false x = true ↔ x ≠ s ∧ W x = true := fun x => by
    rw [upB_at]
    by_cases c : x = s
    · rw [if_pos c]
      exact ⟨fun z => Bool.noConfusion z, fun z => absurd c z.1⟩
    · rw [if_neg c]
      exact ⟨fun z => ⟨c, z⟩, fun z => z.2⟩
  have hb : ∀ x, (if nx s = 0 then bf else up bf (nx s - 1) (bf s)) x = if nx s = x + 1 then bf s else bf x := by
    intro x
    by_cases c : nx s = 0
    · rw [if_pos c, if_neg (by omega)]
    · rw [if_neg c, up_at]
      by_cases c2 : x = nx s - 1
      · rw [if_pos c2, if_pos (by omega)]
      · rw [if_neg c2, if_neg (by omega)]
  have hn : ∀ x, (if bf s = 0 then nx else up nx (bf s - 1) (nx s)) x = if bf s = x + 1 then nx s else nx x := by
    intro x
    by_cases c : bf s = 0
    · rw [if_pos c, if_neg (by omega)]
    · rw [if_neg c, up_at]
      by_cases c2 : x = bf s - 1
      · rw [if_pos c2, if_pos (by omega)]
      · rw [if_neg c2, if_neg (by omega)]
  have hh : ∀ i, (if bf s = 0 then up hd ((fa s - 1) % 100) (nx s) else hd) i = if bf s = 0 ∧ i = (fa s - 1) % 100 then nx s else hd i := by
    intro i
    by_cases c : bf s = 0
    · rw [if_pos c, up_at]
      by_cases c2 : i = (fa s - 1) % 100
      · rw [if_pos c2, if_pos ⟨c, c2⟩]
      · rw [if_neg c2, if_neg (fun z => c2 z.2)]
    · rw [if_neg c, if_neg (fun z => c z.1)]
  -- the next one
  have nn : ∀ n, nx s = n + 1 → W n = true ∧ bf n = s + 1 ∧ n ≠ s ∧ (fa n - 1) % 100 = (fa s - 1) % 100 ∧ ta n < ta s := by
    intro n e
    have q := q4 s n hw e
    have q' := q3 n s q.1 q.2
    exact ⟨q.1, q.2, fun z => by rw [z] at q'; omega, q'.2.2.1.symm, q'.2.2.2⟩
  have bb : ∀ b, bf s = b + 1 → W b = true ∧ nx b = s + 1 ∧ b ≠ s ∧ (fa b - 1) % 100 = (fa s - 1) % 100 ∧ ta s < ta b := by
    intro b e
    have q := q3 s b hw e
    exact ⟨q.1, q.2.1, fun z => by rw [z] at q; omega, q.2.2.1, q.2.2.2⟩
  refine ⟨fun x hx => q1 x ((hW x).mp hx).2, fun x hx hb0 => ?_, fun x t hx hbt => ?_, fun x t hx hnt => ?_, fun i x hi hx => ?_⟩
  · obtain ⟨c, hx⟩ := (hW x).mp hx
    rw [hb] at hb0
    rw [hh]
    by_cases c1 : nx s = x + 1
    · rw [if_pos c1] at hb0
      have q := nn x c1
      rw [if_pos ⟨hb0, q.2.2.2.1⟩]
      exact c1
    · rw [if_neg c1] at hb0
      have q := q2 x hx hb0
      rw [if_neg (fun z => by
        have q' := q2 s hw z.1
        rw [← z.2, q] at q'
        omega)]
      exact q
  · obtain ⟨c, hx⟩ := (hW x).mp hx
    rw [hb] at hbt
    by_cases c1 : nx s = x + 1
    · rw [if_pos c1] at hbt
      have q := nn x c1
      have q' := bb t hbt
      refine ⟨(hW t).mpr ⟨q'.2.2.1, q'.1⟩, by rw [hn, if_pos hbt]; exact c1, by rw [q'.2.2.2.1, q.2.2.2.1], by omega⟩
    · rw [if_neg c1] at hbt
      have q := q3 x t hx hbt
      refine ⟨(hW t).mpr ⟨fun z => c1 (by rw [← z]; exact q.2.1), q.1⟩, ?_, q.2.2⟩
      rw [hn, if_neg (fun z => by
        have q' := (bb t z).2.1
        rw [q.2.1] at q'
        omega)]
      exact q.2.1
  · obtain ⟨c, hx⟩ := (hW x).mp hx
    rw [hn] at hnt
    by_cases c1 : bf s = x + 1
    · rw [if_pos c1] at hnt
      have q := nn t hnt
      refine ⟨(hW t).mpr ⟨q.2.2.1, q.1⟩, ?_⟩
      rw [hb, if_pos hnt]
      exact c1
    · rw [if_neg c1] at hnt
      have q := q4 x t hx hnt
      refine ⟨(hW t).mpr ⟨fun z => c1 (by rw [← z]; exact q.2), q.1⟩, ?_⟩
      rw [hb, if_neg (fun z => by
        have q' := (nn t z).2.1
        rw [q.2] at q'
        omega)]
      exact q.2
  · rw [hh] at hx
    by_cases c1 : bf s = 0 ∧ i = (fa s - 1) % 100
    · rw [if_pos c1] at hx
      have q := nn x hx
      refine ⟨(hW x).mpr ⟨q.2.2.1, q.1⟩, ?_, by rw [q.2.2.2.1, c1.2]⟩
      rw [hb, if_pos hx]
      exact c1.1
    · rw [if_neg c1] at hx
      have q := q5 i x hi hx
      have hxs : x ≠ s := fun z => c1 ⟨by rw [← z]; exact q.2.1, by rw [← z]; exact q.2.2.symm⟩
      refine ⟨(hW x).mpr ⟨hxs, q.1⟩, ?_, q.2.2⟩
      rw [hb, if_neg (fun z => by
        have q' := (nn x z).2.1
        rw [q.2.1] at q'
        omega)]
      exact q.2.1
/-- who waits for a turn stands in its chain -/
theorem DQ_head {m : MM} {N : Nat} {fa : Nat → Nat} {W : Nat → Bool} (hN : N ≤ 3125) (D : DQ m N fa W) {i : Nat} (hi : i < 100) : (rI m 30 i = -1 ∧ ∀ s, W s = true → (fa s - 1) % 100 ≠ i) ∨ (∃ s, rI m 30 i = nI s ∧ W s = true ∧ s < N ∧ (fa s - 1) % 100 = i) := by
  obtain ⟨nx, bf, hd, ta, M, ⟨d1, d2, d3, d4⟩, q1, q2, q3, q4, q5⟩ := D
  by_cases c : hd i = 0
  · left
    refine ⟨by rw [d3 i hi, c]; decide, ?_⟩
    have key : ∀ k s, W s = true → (fa s - 1) % 100 = i → M ≤ ta s + k → False := by
      intro k
      induction k with
      | zero =>
        intro s hs _ hk
        have := (q1 s hs).2.2
        omega
      | succ k ih =>
        intro s hs hb hk
        cases hbf : bf s with
        | zero =>
          have q := q2 s hs hbf
          rw [hb, c] at q
          omega
        | succ t =>
          have q := q3 s t hs hbf
          exact ih t q.1 (by rw [q.2.2.1]; exact hb) (by omega)
    exact fun s hs hb => key M s hs hb (by omega)
  · right
    obtain ⟨s, hs⟩ : ∃ s, hd i = s + 1 := ⟨hd i - 1, by omega⟩
    have q := q5 i s hi hs
    exact ⟨s, by rw [d3 i hi, hs, n_p], q.1, (q1 s q.1).1, q.2.2⟩
def FD (m m2 : MM) : Prop := (∀ q, q ≠ 25 → ¬ (27 ≤ q ∧ q ≤ 30) → m2.1 q = m.1 q) ∧ ∀ i, i ≠ 13 → rI m2 25 i = rI m 25 i
theorem FD_rf (m : MM) : FD m m := ⟨fun _ _ _ => rfl, fun _ _ => rfl⟩
theorem FD_tr {a b c : MM} (h : FD a b) (g : FD b c) : FD a c := ⟨fun q h1 h2 => (g.1 q h1 h2).trans (h.1 q h1 h2), fun i hi => (g.2 i hi).trans (h.2 i hi)⟩
theorem FD_w {m m2 : MM} {k i : Nat} {v : Int32} (hk : 27 ≤ k ∧ k ≤ 30) (h : FD m m2) : FD m (wI m2 k i v) := ⟨fun q h1 h2 => (row_ne (by omega)).trans (h.1 q h1 h2), fun j hj => (rI_ne (by omega)).trans (h.2 j hj)⟩
theorem FD_13 {m m2 : MM} {v : Int32} (h : FD m m2) : FD m (wI m2 25 13 v) := ⟨fun q h1 h2 => (row_ne h1).trans (h.1 q h1 h2), fun j hj => (rI_nj hj).trans (h.2 j hj)⟩
theorem enter_sp {m : MM} {N : Nat} {fa : Nat → Nat} {W : Nat → Bool} {s d : Nat} (hN : N ≤ 3125) (D : DQ m N fa W) (hs : s < N) (hw : W s = false) (hd2 : d < 2 ^ 31) : ∃ m', f_X1_enterTurn (nI s) (nI d) m = some m' ∧ DQ m' N (up fa s (d + 1)) (upB W s true) ∧ FD m m' := by
  obtain ⟨nx, bf, hd, ta, M, ⟨d1, d2, d3, d4⟩, Q⟩ := D
  have ht : d % 100 < 100 := Nat.mod_lt _ (by decide)
  have Q2 := QS_in (d := d) Q hs hw
  have gs := inB_n (by omega : s < 3125) (by decide : 3125 ≤ 2 ^ 31)
  have hxs : ix (nI s) = s := ix_n (by omega)
  have gt := inB_n ht (by decide : 100 ≤ 2 ^ 31)
  have hxt : ix (nI (d % 100)) = d % 100 := ix_n (by omega)
  have r100 : remI (nI d) 100 = nI (d % 100) := n_rem hd2 (by decide : 100 < 2 ^ 31)
  have g100 : nz (100 : Int32) = true := rfl
  have hct : ctP W N ≤ 3125 := Nat.le_trans (ctP_le N) hN
  unfold f_X1_enterTurn
  simp only [Gu_of g100, Lt_d, r100, Gu_of gt, hxt, Gu_of gs, hxs, Jp_d, d3 _ ht]
  have hhead : ∀ h, hd (d % 100) = h + 1 → W h = true ∧ h < N := fun h e => ⟨(Q.2.2.2.2 _ h ht e).1, (Q.1 h (Q.2.2.2.2 _ h ht e).1).1⟩
  have hne : ∀ x, W x = true → x ≠ s := fun x hx z => by rw [z, hw] at hx; cases hx
  by_cases c : hd (d % 100) = 0
  · rw [c] at Q2 ⊢
    rw [if_pos (show nI 0 - 1 = -1 by decide)]
    have e13 : rI (wI (wI (wI (wI m 27 s (nI d)) 28 s (nI 0 - 1)) 29 s (-1)) 30 (d % 100) (nI s)) 25 13 = nI (ctP W N) := (rI_ne (by decide)).trans ((rI_ne (by decide)).trans ((rI_ne (by decide)).trans ((rI_ne (by decide)).trans d4)))
    rw [e13, n_s]
    refine ⟨_, rfl, ⟨up nx s 0, up bf s 0, up hd (d % 100) (s + 1), up ta s M, M + 1, ⟨fun x hx => ?_, fun x hx hwx => ?_, fun i hi => ?_, ?_⟩, ?_⟩, FD_13 (FD_w (by omega) (FD_w (by omega) (FD_w (by omega) (FD_w (by omega) (FD_rf m)))))⟩
    · rw [rI_ne (by decide), rI_ne (by decide), rI_ne (by decide), rI_ne (by decide), rI_w, up_at]
      by_cases cx : x = s
      · rw [if_pos ⟨rfl, cx⟩, if_pos cx, n_p]
      · rw [if_neg (fun z => cx z.2), if_neg cx]
        exact d1 x hx
    · rw [upB_at] at hwx
      by_cases cx : x = s
      · subst cx
        refine ⟨?_, ?_⟩
        · rw [rI_ne (by decide), rI_ne (by decide), rI_ne (by decide), rI_eq, up_at, if_pos rfl]
        · rw [rI_ne (by decide), rI_ne (by decide), rI_eq, up_at, if_pos rfl]
          decide
      · rw [if_neg cx] at hwx
        refine ⟨?_, ?_⟩
        · rw [rI_ne (by decide), rI_ne (by decide), rI_ne (by decide), rI_nj cx, rI_ne (by decide), up_at, if_neg cx]
          exact (d2 x hx hwx).1
        · rw [rI_ne (by decide), rI_ne (by decide), rI_nj cx, rI_ne (by decide), rI_ne (by decide), up_at, if_neg cx]
          exact (d2 x hx hwx).2
    · rw [rI_ne (by decide), rI_w, up_at]
      by_cases ci : i = d % 100
      · rw [if_pos ⟨rfl, ci⟩, if_pos ci, n_p]
      · rw [if_neg (fun z => ci z.2), if_neg ci, rI_ne (by decide), rI_ne (by decide), rI_ne (by decide)]
        exact d3 i hi
    · rw [rI_eq, ctP_on hs hw]
    · rw [if_pos rfl] at Q2
      exact Q2
  · obtain ⟨h, hh⟩ : ∃ h, hd (d % 100) = h + 1 := ⟨hd (d % 100) - 1, by omega⟩
    obtain ⟨hwh, hhN⟩ := hhead h hh
    have hhs := hne h hwh
    rw [hh] at Q2 ⊢
    rw [n_p, if_neg (n_ne1 (by omega)), Gu_of (inB_n (by omega : h < 3125) (by decide)), ix_n (by omega)]
    have e13 : rI (wI (wI (wI (wI (wI m 27 s (nI d)) 28 s (nI h)) 29 s (-1)) 29 h (nI s)) 30 (d % 100) (nI s)) 25 13 = nI (ctP W N) := (rI_ne (by decide)).trans ((rI_ne (by decide)).trans ((rI_ne (by decide)).trans ((rI_ne (by decide)).trans ((rI_ne (by decide)).trans d4))))
    rw [e13, n_s]
    rw [if_neg (by omega), Nat.add_sub_cancel] at Q2
    refine ⟨_, rfl, ⟨up nx s (h + 1), up (up bf s 0) h (s + 1), up hd (d % 100) (s + 1), up ta s M, M + 1, ⟨fun x hx => ?_, fun x hx hwx => ?_, fun i hi => ?_, ?_⟩, Q2⟩, FD_13 (FD_w (by omega) (FD_w (by omega) (FD_w (by omega) (FD_w (by omega) (FD_w (by omega) (FD_rf m))))))⟩
    · rw [rI_ne (by decide), rI_ne (by decide), rI_ne (by decide), rI_ne (by decide), rI_ne (by decide), rI_w, up_at]
      by_cases cx : x = s
      · rw [if_pos ⟨rfl, cx⟩, if_pos cx, n_p]
      · rw [if_neg (fun z => cx z.2), if_neg cx]
        exact d1 x hx
    · rw [upB_at] at hwx
      by_cases cx : x = s
      · subst cx
        have hxh : ¬ x = h := fun z => hhs z.symm
        refine ⟨?_, ?_⟩
        · rw [rI_ne (by decide), rI_ne (by decide), rI_ne (by decide), rI_ne (by decide), rI_eq, up_at, if_pos rfl, n_p]
        · rw [rI_ne (by decide), rI_ne (by decide), rI_nj hxh, rI_eq, up_at, if_neg hxh, up_at, if_pos rfl]
          decide
      · rw [if_neg cx] at hwx
        refine ⟨?_, ?_⟩
        · rw [rI_ne (by decide), rI_ne (by decide), rI_ne (by decide), rI_ne (by decide), rI_nj cx, rI_ne (by decide), up_at, if_neg cx]
          exact (d2 x hx hwx).1
        · by_cases ch : x = h
          · rw [rI_ne (by decide), rI_ne (by decide), ch, rI_eq, up_at, if_pos rfl, n_p]
          · rw [rI_ne (by decide), rI_ne (by decide), rI_nj ch, rI_nj cx, rI_ne (by decide), rI_ne (by decide), up_at, if_neg ch, up_at, if_neg cx]
            exact (d2 x hx hwx).2
    · rw [rI_ne (by decide), rI_w, up_at]
      by_cases ci : i = d % 100
      · rw [if_pos ⟨rfl, ci⟩, if_pos ci, n_p]
      · rw [if_neg (fun z => ci z.2), if_neg ci, rI_ne (by decide), rI_ne (by decide), rI_ne (by decide), rI_ne (by decide)]
        exact d3 i hi
    · rw [rI_eq, ctP_on hs hw]
theorem leave_sp {m : MM} {N : Nat} {fa : Nat → Nat} {W : Nat → Bool} {s : Nat} (hN : N ≤ 3125) (D : DQ m N fa W) (hw : W s = true) (hf : fa s < 2 ^ 31) : ∃ m', f_X1_leaveTurn (nI s) m = some m' ∧ DQ m' N fa (upB W s false) ∧ FD m m' ∧ m'.1 27 = m.1 27 := by
  obtain ⟨nx, bf, hd, ta, M, ⟨d1, d2, d3, d4⟩, Q⟩ := D
  have q1s := Q.1 s hw
  have hs := q1s.1
  have ht : (fa s - 1) % 100 < 100 := Nat.mod_lt _ (by decide)
  have Q2 := QS_out Q hw
  have gs := inB_n (by omega : s < 3125) (by decide : 3125 ≤ 2 ^ 31)
  have hxs : ix (nI s) = s := ix_n (by omega)
  have gt := inB_n ht (by decide : 100 ≤ 2 ^ 31)
  have hxt : ix (nI ((fa s - 1) % 100)) = (fa s - 1) % 100 := ix_n (by omega)
  have ef : rI m 27 s = nI (fa s - 1) := by
    rw [d1 s hs]
    obtain ⟨k, hk⟩ : ∃ k, fa s = k + 1 := ⟨fa s - 1, by omega⟩
    rw [hk, n_p, Nat.add_sub_cancel]
  have r100 : remI (nI (fa s - 1)) 100 = nI ((fa s - 1) % 100) := n_rem (by omega) (by decide : 100 < 2 ^ 31)
  have g100 : nz (100 : Int32) = true := rfl
  have hct : ctP W N ≤ 3125 := Nat.le_trans (ctP_le N) hN
  have en := (d2 s hs hw).1
  have eb := (d2 s hs hw).2
  have hcw := ctP_out hs hw
  have hbN : ∀ b, bf s = b + 1 → b < N ∧ b ≠ s := fun b e => ⟨(Q.1 b (Q.2.2.1 s b hw e).1).1, fun z => by have := (Q.2.2.1 s b hw e).2.2.2; rw [z] at this; omega⟩
  have hnN : ∀ n, nx s = n + 1 → n < N ∧ n ≠ s := fun n e => by
    have q := Q.2.2.2.1 s n hw e
    have q' := Q.2.2.1 n s q.1 q.2
    exact ⟨(Q.1 n q.1).1, fun z => by rw [z] at q'; omega⟩
  have hbl : bf s < 2 ^ 31 := by
    cases h : bf s with
    | zero => decide
    | succ b => have := (hbN b h).1; omega
  have hnl : nx s < 2 ^ 31 := by
    cases h : nx s with
    | zero => decide
    | succ b => have := (hnN b h).1; omega
  -- the first half
  have half1 : ∃ m1, (∀ J : MM → Option MM, (if (rI m 29 s) = (-1 : Int32) then Gu (inB (nI s) 3125) <| Gu (nz (100 : Int32)) <| Gu (inB (nI s) 3125) <| Gu (inB (remI (rI m 27 s) (100 : Int32)) 100) <| Lt (wI m 30 (ix (remI (rI m 27 s) (100 : Int32))) (rI m 28 s)) fun m7 => J m7 else Gu (inB (nI s) 3125) <| Gu (inB (nI s) 3125) <| Gu (inB (rI m 29 s) 3125) <| Lt (wI m 28 (ix (rI m 29 s)) (rI m 28 s)) fun m8 => J m8) = J m1) ∧ FD m m1 ∧ m1.1 27 = m.1 27 ∧ m1.1 29 = m.1 29 ∧ (∀ x, rI m1 28 x = if bf s = x + 1 then nI (nx s) - 1 else rI m 28 x) ∧ (∀ i, rI m1 30 i = if bf s = 0 ∧ i = (fa s - 1) % 100 then nI (nx s) - 1 else rI m 30 i) ∧ rI m1 25 13 = rI m 25 13 := by
    rw [eb, en, ef, r100, hxt]
    by_cases c : bf s = 0
    · refine ⟨wI m 30 ((fa s - 1) % 100) (nI (nx s) - 1), fun J => ?_, FD_w (by omega) (FD_rf m), row_ne (by decide), row_ne (by decide), fun x => ?_, fun i => ?_, rI_ne (by decide)⟩
      · rw [if_pos ((nJ_m1 hbl).mpr c), Gu_of gs, Gu_of g100, Gu_of gs, Gu_of gt, Lt_d]
      · rw [rI_ne (by decide), if_neg (by omega)]
      · rw [rI_w]
        by_cases ci : i = (fa s - 1) % 100
        · rw [if_pos ⟨rfl, ci⟩, if_pos ⟨c, ci⟩]
        · rw [if_neg (fun z => ci z.2), if_neg (fun z => ci z.2)]
    · obtain ⟨b, hb⟩ : ∃ b, bf s = b + 1 := ⟨bf s - 1, by omega⟩
      have hbb := hbN b hb
      refine ⟨wI m 28 b (nI (nx s) - 1), fun J => ?_, FD_w (by omega) (FD_rf m), row_ne (by decide), row_ne (by decide), fun x => ?_, fun i => ?_, rI_ne (by decide)⟩
      · rw [if_neg (fun z => c ((nJ_m1 hbl).mp z)), hb, n_p, Gu_of gs, Gu_of gs, Gu_of (inB_n (by omega : b < 3125) (by decide)), Lt_d, ix_n (by omega)]
      · rw [rI_w, hb]
        by_cases ci : x = b
        · rw [if_pos ⟨rfl, ci⟩, if_pos (by omega)]
        · rw [if_neg (fun z => ci z.2), if_neg (by omega)]
      · rw [rI_ne (by decide), if_neg (fun z => c z.1)]
  obtain ⟨m1, k1, k2, k3, k4, k5, k6, k7⟩ := half1
  have en1 : rI m1 28 s = nI (nx s) - 1 := by
    rw [k5, if_neg (fun z => (hbN s z).2 rfl), en]
  have eb1 : rI m1 29 s = nI (bf s) - 1 := (r_row k4 s).trans eb
  have half2 : ∃ m2, (∀ J : MM → Option MM, (if (rI m1 28 s) = (-1 : Int32) then J m1 else Gu (inB (nI s) 3125) <| Gu (inB (nI s) 3125) <| Gu (inB (rI m1 28 s) 3125) <| Lt (wI m1 29 (ix (rI m1 28 s)) (rI m1 29 s)) fun m6 => J m6) = J m2) ∧ FD m1 m2 ∧ m2.1 27 = m1.1 27 ∧ m2.1 28 = m1.1 28 ∧ m2.1 30 = m1.1 30 ∧ (∀ x, rI m2 29 x = if nx s = x + 1 then nI (bf s) - 1 else rI m1 29 x) ∧ rI m2 25 13 = rI m1 25 13 := by
    rw [eb1, en1]
    by_cases c : nx s = 0
    · refine ⟨m1, fun J => ?_, FD_rf m1, rfl, rfl, rfl, fun x => ?_, rfl⟩
      · rw [if_pos ((nJ_m1 hnl).mpr c)]
      · rw [if_neg (by omega)]
    · obtain ⟨n, hn⟩ : ∃ n, nx s = n + 1 := ⟨nx s - 1, by omega⟩
      have hnn := hnN n hn
      refine ⟨wI m1 29 n (nI (bf s) - 1), fun J => ?_, FD_w (by omega) (FD_rf m1), row_ne (by decide), row_ne (by decide), row_ne (by decide), fun x => ?_, rI_ne (by decide)⟩
      · rw [if_neg (fun z => c ((nJ_m1 hnl).mp z)), hn, n_p, Gu_of gs, Gu_of gs, Gu_of (inB_n (by omega : n < 3125) (by decide)), Lt_d, ix_n (by omega)]
      · rw [rI_w, hn]
        by_cases ci : x = n
        · rw [if_pos ⟨rfl, ci⟩, if_pos (by omega)]
        · rw [if_neg (fun z => ci z.2), if_neg (by omega)]
  obtain ⟨m2, j1, j2, j3, j4, j5, j6, j7⟩ := half2
  have e13 : rI m2 25 13 = nI (ctP W N) := j7.trans (k7.trans d4)
  refine ⟨wI m2 25 13 (nI (ctP (upB W s false) N)), ?_, ⟨_, _, _, ta, M, ⟨fun x hx => ?_, fun x hx hwx => ?_, fun i hi => ?_, rI_eq⟩, Q2⟩, FD_13 (FD_tr k2 j2), (row_ne (by decide)).trans (j3.trans k3)⟩
  · unfold f_X1_leaveTurn
    rw [Gu_of gs, hxs, Jp_d]
    refine (k1 _).trans ?_
    try dsimp only
    rw [Gu_of gs, Jp_d]
    refine (j1 _).trans ?_
    try dsimp only
    rw [e13, ← hcw, Lt_d, n_p]
  · rw [rI_ne (by decide), r_row j3, r_row k3]
    exact d1 x hx
  · rw [upB_at] at hwx
    by_cases cx : x = s
    · rw [if_pos cx] at hwx
      cases hwx
    · rw [if_neg cx] at hwx
      have q := d2 x hx hwx
      rw [rI_ne (by decide), rI_ne (by decide), r_row j4, k5, j6, r_row k4]
      refine ⟨?_, ?_⟩
      · by_cases c : bf s = 0
        · rw [if_pos c, if_neg (by omega)]
          exact q.1
        · rw [if_neg c, up_at]
          by_cases c2 : x = bf s - 1
          · rw [if_pos c2, if_pos (by omega)]
          · rw [if_neg c2, if_neg (by omega)]
            exact q.1
      · by_cases c : nx s = 0
        · rw [if_pos c, if_neg (by omega)]
          exact q.2
        · rw [if_neg c, up_at]
          by_cases c2 : x = nx s - 1
          · rw [if_pos c2, if_pos (by omega)]
          · rw [if_neg c2, if_neg (by omega)]
            exact q.2
  · rw [rI_ne (by decide), r_row j5, k6]
    by_cases c : bf s = 0
    · rw [if_pos c, up_at]
      by_cases c2 : i = (fa s - 1) % 100
      · rw [if_pos ⟨c, c2⟩, if_pos c2]
      · rw [if_neg (fun z => c2 z.2), if_neg c2]
        exact d3 i hi
    · rw [if_neg c, if_neg (fun z => c z.1)]
      exact d3 i hi
