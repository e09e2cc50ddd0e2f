/-! WHAT CODE TELLS; the step TEXT -/
theorem tl_sp {F k w e : Nat} {nm : Nat → Int32} (hk : KTX k) (hw : w + 1 < 4) (he : e ≤ 160) (K : Int32 → Int32 → MM → Option (Int32 × MM)) : ∀ (L : List Nat) (st st2 : List Int32) idx m f, run nm L st = some st2 → L.length < f → st.length ≤ 40 → idx + L.length = e → (∀ i y, L[i]? = some y → rI m (k + 1) (idx + i) = nI y) → rI m (k + 2) (w + 1) = nI e → (∀ i, i < 6 → rI m 72 i = nm i) → SK m (k + 3) st → ∃ m2, f_X4_tells_L10 k (nI w) K f (nI st.length) (nI idx) m = K (nI st2.length) (nI e) m2 ∧ (∀ q, q ≠ k + 3 → m2.1 q = m.1 q) ∧ SK m2 (k + 3) st2 := by
  have h39 := KT_39 hk
  intro L
  induction L with
  | nil =>
    intro st st2 idx m f hr hf hs hi hcd hbg hnm hst
    obtain ⟨f, rfl⟩ : ∃ z, f = z + 1 := ⟨f - 1, by omega⟩
    cases hr
    have hie : idx = e := hi
    subst hie
    refine ⟨m, ?_, fun q _ => rfl, hst⟩
    unfold f_X4_tells_L10
    rw [n_s, Gu_of (inB_n hw (by decide)), ix_n (by omega), hbg, if_pos (Int32.le_refl _)]
  | cons y L ih =>
    intro st st2 idx m f hr hf hs hi hcd hbg hnm hst
    have hl : (y :: L).length = L.length + 1 := rfl
    obtain ⟨f, rfl⟩ : ∃ z, f = z + 1 := ⟨f - 1, by omega⟩
    have hy : rI m (k + 1) idx = nI y := hcd 0 y rfl
    have hr' : (match run1 nm y st with | some s2 => run nm L s2 | none => none) = some st2 := hr
    have cont : ∀ (st3 : List Int32) (m3 : MM), run1 nm y st = some st3 → st3.length ≤ 40 → (∀ q, q ≠ k + 3 → m3.1 q = m.1 q) → SK m3 (k + 3) st3 → ∃ m2, f_X4_tells_L10 k (nI w) K f (nI st3.length) (nI (idx + 1)) m3 = K (nI st2.length) (nI e) m2 ∧ (∀ q, q ≠ k + 3 → m2.1 q = m.1 q) ∧ SK m2 (k + 3) st2 := by
      intro st3 m3 h1 h2 h3 h4
      rw [h1] at hr'
      obtain ⟨m2, e1, e2, e3⟩ := ih st3 st2 (idx + 1) m3 f hr' (by omega) h2 (by omega) (fun i x hx => by
        have q := hcd (i + 1) x (by rw [List.getElem?_cons_succ]; exact hx)
        rw [r_row (h3 (k + 1) (by omega)), show idx + 1 + i = idx + (i + 1) by omega]
        exact q) ((r_row (h3 (k + 2) (by omega)) _).trans hbg) (fun i hi => (r_row (h3 72 (by omega)) i).trans (hnm i hi)) h4
      exact ⟨m2, e1, fun q hq => (e2 q hq).trans (h3 q hq), e3⟩
    have y30 : y < 30000 := by
      by_cases c : y < 30000
      · exact c
      · unfold run1 at hr'
        rw [if_neg c] at hr'
        cases hr'
    have i20 : (20000 : Int32) ≤ nI y ↔ 20000 ≤ y := n_le (a := 20000) (by omega) (by omega)
    have head : ∀ X : Option (Int32 × MM), (if (20000 : Int32) ≤ nI y then Jp (if (1 : Int32) ≤ nI st.length then Gu (inB (nI st.length - (1 : Int32)) 40) <| bd1 (f_X4_ofOne (nI y - (20000 : Int32)) (rI m (k + 3) (ix (nI st.length - (1 : Int32)))) m) fun r8 => Gu (inB (nI st.length - (1 : Int32)) 40) <| Lt (wI m (k + 3) (ix (nI st.length - (1 : Int32))) r8) fun m10 => Lt (nI idx + (1 : Int32)) fun x4_11 => f_X4_tells_L10 k (nI w) K f (nI st.length) x4_11 m10 else some ((0 : Int32), m)) fun J7 => if nI y = (20001 : Int32) then J7 else if nI y = (20011 : Int32) then J7 else if (2 : Int32) ≤ nI st.length then Lt (nI st.length + (-1 : Int32)) fun x3_12 => Gu (inB (x3_12 - (1 : Int32)) 40) <| Gu (inB x3_12 40) <| bd1 (f_X4_ofTwo (nI y - (20000 : Int32)) (rI m (k + 3) (ix (x3_12 - (1 : Int32)))) (rI m (k + 3) (ix x3_12)) m) fun r13 => Gu (inB (x3_12 - (1 : Int32)) 40) <| Lt (wI m (k + 3) (ix (x3_12 - (1 : Int32))) r13) fun m15 => Lt (nI idx + (1 : Int32)) fun x4_16 => f_X4_tells_L10 k (nI w) K f x3_12 x4_16 m15 else some ((0 : Int32), m) else if nI st.length < (40 : Int32) then Lt (nI st.length + (1 : Int32)) fun x3_17 => Jp (fun s18 => Gu (inB (nI st.length) 40) <| Lt (wI m (k + 3) (ix (nI st.length)) s18) fun m20 => Lt (nI idx + (1 : Int32)) fun x4_21 => f_X4_tells_L10 k (nI w) K f x3_17 x4_21 m20) fun J19 => if (10000 : Int32) ≤ nI y then Gu (inB (nI y - (10000 : Int32)) 6) <| J19 (rI m 72 (ix (nI y - (10000 : Int32)))) else J19 (nI y) else some ((0 : Int32), m)) = X → f_X4_tells_L10 k (nI w) K (f + 1) (nI st.length) (nI idx) m = X := fun X hX => by
      conv => lhs; unfold f_X4_tells_L10
      rw [n_s, Gu_of (inB_n hw (by decide)), ix_n (by omega : w + 1 < 2 ^ 31), hbg, if_neg (by rw [n_le (by omega) (by omega)]; omega), Gu_of (inB_n (by omega : idx < 160) (by decide)), ix_n (by omega : idx < 2 ^ 31), hy, Lt_d]
      exact hX
    by_cases c20 : 20000 ≤ y
    · by_cases cu : y = 20001 ∨ y = 20011
      · cases st with
        | nil =>
          unfold run1 at hr'
          rw [if_pos y30, if_pos c20, if_pos cu] at hr'
          cases hr'
        | cons a r =>
          have hlr : (a :: r).length = r.length + 1 := rfl
          have r1 : run1 nm y (a :: r) = some (onev y a :: r) := by
            unfold run1
            rw [if_pos y30, if_pos c20, if_pos cu]
          obtain ⟨m2, e1, e2, e3⟩ := cont (onev y a :: r) (wI m (k + 3) r.length (onev y a)) r1 hs (fun q hq => row_ne hq) ⟨rI_eq, SK_w (Nat.le_refl _) hst.2⟩
          refine ⟨m2, head _ ?_, e2, e3⟩
          have g40 := inB_n (by omega : r.length < 40) (by decide : 40 ≤ 2 ^ 31)
          have J7e : (if (1 : Int32) ≤ nI (a :: r).length then Gu (inB (nI (a :: r).length - (1 : Int32)) 40) <| bd1 (f_X4_ofOne (nI y - (20000 : Int32)) (rI m (k + 3) (ix (nI (a :: r).length - (1 : Int32)))) m) fun r8 => Gu (inB (nI (a :: r).length - (1 : Int32)) 40) <| Lt (wI m (k + 3) (ix (nI (a :: r).length - (1 : Int32))) r8) fun m10 => Lt (nI idx + (1 : Int32)) fun x4_11 => f_X4_tells_L10 k (nI w) K f (nI (a :: r).length) x4_11 m10 else some ((0 : Int32), m)) = K (nI st2.length) (nI e) m2 := by
            rw [hlr, if_pos (show (1 : Int32) ≤ nI (r.length + 1) by rw [show (1 : Int32) = nI 1 from rfl, n_le (by omega) (by omega)]; omega), n_p, Gu_of g40, ix_n (by omega : r.length < 2 ^ 31), hst.1, show (20000 : Int32) = nI 20000 from rfl, n_subn c20, of1_sp cu, bd1_s, Gu_of g40, Lt_d, Lt_d, n_s]
            exact e1
          rw [if_pos (i20.mpr c20), Jp_d, J7e]
          rcases cu with c | c
          · rw [if_pos (by rw [c]; rfl)]
          · rw [if_neg (by rw [c]; decide), if_pos (by rw [c]; rfl)]
      · have nu1 : ¬ nI y = (20001 : Int32) := by rw [show (20001 : Int32) = nI 20001 from rfl, n_eq (by omega) (by omega)]; omega
        have nu2 : ¬ nI y = (20011 : Int32) := by rw [show (20011 : Int32) = nI 20011 from rfl, n_eq (by omega) (by omega)]; omega
        cases st with
        | nil =>
          unfold run1 at hr'
          rw [if_pos y30, if_pos c20, if_neg cu] at hr'
          cases hr'
        | cons b r0 =>
          cases r0 with
          | nil =>
            unfold run1 at hr'
            rw [if_pos y30, if_pos c20, if_neg cu] at hr'
            cases hr'
          | cons a r =>
            have hlr : (b :: a :: r).length = r.length + 2 := rfl
            have hlr2 : (a :: r).length = r.length + 1 := rfl
            have r1 : run1 nm y (b :: a :: r) = some (two y a b :: r) := by
              unfold run1
              rw [if_pos y30, if_pos c20, if_neg cu]
            obtain ⟨m2, e1, e2, e3⟩ := cont (two y a b :: r) (wI m (k + 3) r.length (two y a b)) r1 (by show r.length + 1 ≤ 40; omega) (fun q hq => row_ne hq) ⟨rI_eq, SK_w (Nat.le_refl _) hst.2.2⟩
            refine ⟨m2, head _ ?_, e2, e3⟩
            have g40 := inB_n (by omega : r.length < 40) (by decide : 40 ≤ 2 ^ 31)
            have g41 := inB_n (by omega : r.length + 1 < 40) (by decide : 40 ≤ 2 ^ 31)
            have t1 : rI m (k + 3) (r.length + 1) = b := hst.1
            have t2 : rI m (k + 3) r.length = a := hst.2.1
            rw [if_pos (i20.mpr c20), Jp_d, if_neg nu1, if_neg nu2, hlr, if_pos (show (2 : Int32) ≤ nI (r.length + 2) by rw [show (2 : Int32) = nI 2 from rfl, n_le (by omega) (by omega)]; omega), show r.length + 2 = (r.length + 1) + 1 from rfl, n_m1, Lt_d, n_p, Gu_of g40, Gu_of g41, ix_n (by omega : r.length < 2 ^ 31), ix_n (by omega : r.length + 1 < 2 ^ 31), t1, t2, show (20000 : Int32) = nI 20000 from rfl, n_subn c20, of2_sp c20 y30, bd1_s, Gu_of g40, Lt_d, Lt_d, n_s]
            exact e1
    · have c40 : st.length < 40 := by
        by_cases c : st.length < 40
        · exact c
        · unfold run1 at hr'
          rw [if_pos y30, if_neg c20, if_neg c] at hr'
          cases hr'
      have g40 := inB_n c40 (by decide : 40 ≤ 2 ^ 31)
      by_cases c10 : 10000 ≤ y
      · have c16 : y < 10006 := by
          by_cases c : y < 10006
          · exact c
          · unfold run1 at hr'
            rw [if_pos y30, if_neg c20, if_pos c40, if_pos c10, if_neg c] at hr'
            cases hr'
        have r1 : run1 nm y st = some (nm (y - 10000) :: st) := by
          unfold run1
          rw [if_pos y30, if_neg c20, if_pos c40, if_pos c10, if_pos c16]
        obtain ⟨m2, e1, e2, e3⟩ := cont (nm (y - 10000) :: st) (wI m (k + 3) st.length (nm (y - 10000))) r1 (by show st.length + 1 ≤ 40; omega) (fun q hq => row_ne hq) ⟨rI_eq, SK_w (Nat.le_refl _) hst⟩
        refine ⟨m2, head _ ?_, e2, e3⟩
        rw [if_neg (fun z => c20 (i20.mp z)), if_pos (show nI st.length < (40 : Int32) by rw [show (40 : Int32) = nI 40 from rfl, n_lt (by omega) (by omega)]; exact c40), Lt_d, Jp_d, if_pos (show (10000 : Int32) ≤ nI y by rw [show (10000 : Int32) = nI 10000 from rfl, n_le (by omega) (by omega)]; exact c10), show (10000 : Int32) = nI 10000 from rfl, n_subn c10, Gu_of (inB_n (by omega : y - 10000 < 6) (by decide)), ix_n (by omega : y - 10000 < 2 ^ 31), hnm _ (by omega)]
        dsimp only
        rw [Gu_of g40, ix_n (by omega : st.length < 2 ^ 31), n_s, Lt_d, Lt_d, n_s]
        exact e1
      · have r1 : run1 nm y st = some (nI y :: st) := by
          unfold run1
          rw [if_pos y30, if_neg c20, if_pos c40, if_neg c10]
        obtain ⟨m2, e1, e2, e3⟩ := cont (nI y :: st) (wI m (k + 3) st.length (nI y)) r1 (by show st.length + 1 ≤ 40; omega) (fun q hq => row_ne hq) ⟨rI_eq, SK_w (Nat.le_refl _) hst⟩
        refine ⟨m2, head _ ?_, e2, e3⟩
        rw [if_neg (fun z => c20 (i20.mp z)), if_pos (show nI st.length < (40 : Int32) by rw [show (40 : Int32) = nI 40 from rfl, n_lt (by omega) (by omega)]; exact c40), Lt_d, Jp_d, if_neg (show ¬ (10000 : Int32) ≤ nI y by rw [show (10000 : Int32) = nI 10000 from rfl, n_le (by omega) (by omega)]; exact c10)]
        dsimp only
        rw [Gu_of g40, ix_n (by omega : st.length < 2 ^ 31), n_s, Lt_d, Lt_d, n_s]
        exact e1
def nm6 (nm : Nat → Int32) : Nat → Int32 := fun i => if i < 6 then nm i else 0
theorem tells_sp {F k w s : Nat} {L : List Nat} {m : MM} {y : Int32} (hF : 1000 ≤ F) (hk : KTX k) (hw : w + 1 < 4) (he : s + L.length ≤ 160) (hb : rI m (k + 2) w = nI s) (hb2 : rI m (k + 2) (w + 1) = nI (s + L.length)) (hcd : ∀ i x, L[i]? = some x → rI m (k + 1) (s + i) = nI x) (hr : run (nm6 (m.1 72)) L [] = some [y]) : ∃ m2, f_X4_tells F k (nI w) m = some (y, m2) ∧ ∀ q, q ≠ k + 3 → m2.1 q = m.1 q := by
  obtain ⟨m2, e1, e2, e3⟩ := tl_sp (F := F) (w := w) (e := s + L.length) hk hw he (fun x3_2 x4_3 m4 => Gu (inB (0 : Int32) 40) <| some (rI m4 (k + 3) (ix (0 : Int32)), m4)) L [] [y] s m F hr (by omega) (by decide) rfl hcd hb2 (fun i hi => by
    show _ = (if i < 6 then m.1 72 i else 0)
    rw [if_pos hi]
    rfl) trivial
  refine ⟨m2, ?_, e2⟩
  unfold f_X4_tells
  rw [Gu_of (inB_n (by omega : w < 4) (by decide)), ix_n (by omega), hb, Lt_d]
  refine Eq.trans e1 ?_
  rw [Gu_of (show inB (0 : Int32) 40 = true by decide)]
  have : rI m2 (k + 3) 0 = y := e3.1
  rw [show ix (0 : Int32) = 0 from rfl, this]
