/-! ADVANCE and NEXT in step -/
def sgB (w : Nat) : Bool := w == 40 || w == 41 || w == 59 || w == 43 || w == 45 || w == 42 || w == 60 || w == 61
theorem sgB_t {w : Nat} : sgB w = true ↔ SG w := by
  unfold sgB SG
  simp [or_assoc]
theorem sg_if {α : Type} {w : Nat} (hw : w < 256) (X Y : α) : (if nI w = (40 : Int32) then X else if nI w = (41 : Int32) then X else if nI w = (59 : Int32) then X else if nI w = (43 : Int32) then X else if nI w = (45 : Int32) then X else if nI w = (42 : Int32) then X else if nI w = (60 : Int32) then X else if nI w = (61 : Int32) then X else Y) = if sgB w = true then X else Y := by
  have e : ∀ k, k < 256 → (nI w = nI k ↔ w = k) := fun k hk => n_eq (by omega) (by omega)
  by_cases h : sgB w = true
  · rw [if_pos h]
    rcases sgB_t.mp h with c | c | c | c | c | c | c | c <;> subst c <;> rfl
  · rw [if_neg h]
    have h2 : ¬ SG w := fun z => h (sgB_t.mpr z)
    unfold SG at h2
    have n : ∀ k, k < 256 → w ≠ k → ¬ nI w = nI k := fun k hk z y => z ((e k hk).mp y)
    rw [if_neg (show ¬ nI w = (40 : Int32) from n 40 (by decide) (by omega)), if_neg (show ¬ nI w = (41 : Int32) from n 41 (by decide) (by omega)), if_neg (show ¬ nI w = (59 : Int32) from n 59 (by decide) (by omega)), if_neg (show ¬ nI w = (43 : Int32) from n 43 (by decide) (by omega)), if_neg (show ¬ nI w = (45 : Int32) from n 45 (by decide) (by omega)), if_neg (show ¬ nI w = (42 : Int32) from n 42 (by decide) (by omega)), if_neg (show ¬ nI w = (60 : Int32) from n 60 (by decide) (by omega)), if_neg (show ¬ nI w = (61 : Int32) from n 61 (by decide) (by omega))]
theorem adv {F : Nat} {B : Nat → Nat} {n j : Nat} (hF : 1000 ≤ F) (hB : BT B n) (hj : j ≤ n) : ∃ t v p j2, TKX n t v p j2 ∧ j ≤ p ∧ (∀ mc : MM, CTX mc B n → rI mc 36 2 = nI j → ∃ mc', f_X3_advance F mc = some mc' ∧ Q36 mc mc' ∧ CPX mc' t v p j2) ∧ (∀ (mm : MM) fr, fr ≤ 800 → MTX mm B n fr → rI mm 0 27 = nI j → ∃ mm', f_X6_next F mm = some mm' ∧ Q0 mm mm' ∧ MPX mm' B t v p j2) := by
  have hn := hB.1
  obtain ⟨p, hp1, hp2, hp3, hp4⟩ := first_ex (fun i => spc (B i)) n (n - j) j (by omega)
  by_cases cn : p = n
  · -- the end
    refine ⟨2, 0, n, n, ⟨Nat.le_refl _, Nat.le_refl _, fun z => absurd rfl z, fun z => by omega, fun z => by omega, by omega⟩, hj, fun mc hc h2 => ?_, fun mm fr hfr hc h2 => ?_⟩
    · obtain ⟨m1, e1, e2, e3⟩ := skipC hB hp2 hp4 (p - j) j F mc (by omega) (by omega) hc h2 hp3
      have q : Q36 mc (wI m1 36 4 (nI p)) := Q36_w (by decide) (by decide) e1
      have f1 : rI (wI m1 36 4 (nI p)) 36 2 = nI p := (rI_nj (by decide)).trans e2
      have f2 : rI (wI m1 36 4 (nI p)) 36 1 = nI n := (CT_q q hc).1
      refine ⟨wI (wI m1 36 4 (nI p)) 36 3 2, ?_, Q36_w (by decide) (by decide) q, rI_eq, ?_, ?_, fun z => by omega⟩
      · unfold f_X3_advance
        rw [e3, e2, Lt_d, f1, f2, if_neg (by rw [n_lt (by omega) (by omega)]; omega), Lt_d]
      · rw [rI_nj (by decide), rI_eq, cn]
      · rw [rI_nj (by decide), f1, cn]
    · obtain ⟨m1, e1, e2, e3⟩ := skipM hB hfr hp2 hp4 (p - j) j F mm (by omega) (by omega) hc h2 hp3
      have q : Q0 mm (wI m1 0 29 (nI p)) := Q0_w (by decide) (by decide) e1
      have q2 : Q0 mm (wI (wI m1 0 29 (nI p)) 0 28 4) := Q0_w (by decide) (by decide) q
      have f1 : rI (wI m1 0 29 (nI p)) 0 27 = nI p := (rI_nj (by decide)).trans e2
      have f26 : rI (wI (wI (wI m1 0 29 (nI p)) 0 28 4) 0 28 0) 0 26 = nI n := by
        rw [rI_nj (by decide)]
        exact (MT_q q2 hc).2.1
      refine ⟨wI (wI (wI (wI m1 0 29 (nI p)) 0 28 4) 0 28 0) 0 29 (nI n), ?_, Q0_w (by decide) (by decide) (Q0_w (by decide) (by decide) q2), fun _ => ?_, rI_eq, Or.inl ⟨rfl, ?_⟩⟩
      · unfold f_X6_next
        rw [e3, e2, Lt_d, f1, byte_sp hB hfr (MT_q q hc) (by omega), bd1_s, Lt_d, if_neg (show ¬ p < n by omega), if_neg (show ¬ (0 : Int32) ≤ -1 by decide), Lt_d, f26, Lt_d]
      · rw [rI_nj (by decide), rI_nj (by decide), rI_nj (by decide), f1, cn]
      · rw [rI_nj (by decide), rI_eq]
  have hpn : p < n := by omega
  have hns : ¬ spc (B p) := by
    rcases hp4 with e | e
    · exact absurd e cn
    · exact e.2
  have hb := hB.2 p hpn
  -- what both do before they look at the first byte
  have preC : ∀ mc : MM, CTX mc B n → rI mc 36 2 = nI j → ∃ m5, Q36 mc m5 ∧ rI m5 36 2 = nI p ∧ rI m5 36 4 = nI p ∧ f_X3_advance F mc = bd1 (f_X3_isLetter (nI (B p)) m5) fun r6 => if r6 = 0 then bd1 (f_X3_isDigit (nI (B p)) m5) fun r8 => if r8 = 0 then bd1 (f_J0_indexOf_0f7a4 F 1 (nI (B p)) m5) fun r10 => if r10 < 0 then some (wI (wI m5 36 3 3) 36 2 (nI (p + 1))) else some (wI (wI m5 36 3 (nI (B p))) 36 2 (nI (p + 1))) else bd1 (f_X3_takeNumber F m5) fun m17 => some m17 else bd1 (f_X3_takeWord F m5) fun m19 => some m19 := by
    intro mc hc h2
    obtain ⟨m1, e1, e2, e3⟩ := skipC hB hp2 hp4 (p - j) j F mc (by omega) (by omega) hc h2 hp3
    have q : Q36 mc (wI m1 36 4 (nI p)) := Q36_w (by decide) (by decide) e1
    have f1 : rI (wI m1 36 4 (nI p)) 36 2 = nI p := (rI_nj (by decide)).trans e2
    have f2 : rI (wI m1 36 4 (nI p)) 36 1 = nI n := (CT_q q hc).1
    have f3 : rI (wI m1 36 4 (nI p)) 37 p = nI (B p) := (CT_q q hc).2 p hpn
    have gp := inB_n (by omega : p < 160) (by decide : 160 ≤ 2 ^ 31)
    refine ⟨wI m1 36 4 (nI p), q, f1, rI_eq, ?_⟩
    unfold f_X3_advance
    rw [e3, e2, Lt_d, f1, f2, if_pos ((n_lt (by omega) (by omega)).mpr hpn), Gu_of gp, ix_n (by omega), f3]
    simp only [Gu_of gp, by_ok (B p) hb, Jp_d, Lt_d]
    have g1 : ∀ v : Int32, rI (wI (wI m1 36 4 (nI p)) 36 3 v) 36 2 + 1 = nI (p + 1) := fun v => by rw [rI_nj (by decide), f1, n_s]
    simp only [g1]
  have preM : ∀ (mm : MM) fr, fr ≤ 800 → MTX mm B n fr → rI mm 0 27 = nI j → ∃ m12, Q0 mm m12 ∧ rI m12 0 27 = nI p ∧ rI m12 0 29 = nI p ∧ rI m12 0 28 = 4 ∧ f_X6_next F mm = bd1 (f_X6_in (Int32.toInt64 (nI (B p))) (97 : Int64) (122 : Int64) m12) fun r13 => if r13 = 0 then bd1 (f_X6_in (Int32.toInt64 (nI (B p))) (48 : Int64) (57 : Int64) m12) fun r15 => if r15 = 0 then (if sgB (B p) = true then some (wI (wL (wI m12 0 28 3) 0 30 (lN (B p))) 0 27 (nI (p + 1))) else some m12) else Lt (wI m12 0 28 (2 : Int32)) fun m21 => Lt (wL m21 0 30 (0 : Int64)) fun m22 => f_X6_next_L160 (fun x2_23 m24 => Jp (fun s37 => Lt (wI m24 0 28 s37) fun m39 => some m39) fun J38 => if x2_23 ≤ (4 : Int32) then J38 (2 : Int32) else J38 (4 : Int32)) F (0 : Int32) m22 else Lt (wI m12 0 28 (1 : Int32)) fun m40 => f_X6_next_L100 (fun m41 => none) F m40 := by
    intro mm fr hfr hc h2
    obtain ⟨m1, e1, e2, e3⟩ := skipM hB hfr hp2 hp4 (p - j) j F mm (by omega) (by omega) hc h2 hp3
    have q : Q0 mm (wI m1 0 29 (nI p)) := Q0_w (by decide) (by decide) e1
    have f1 : rI (wI m1 0 29 (nI p)) 0 27 = nI p := (rI_nj (by decide)).trans e2
    refine ⟨wI (wI m1 0 29 (nI p)) 0 28 4, Q0_w (by decide) (by decide) q, (rI_nj (by decide)).trans f1, (rI_nj (by decide)).trans rI_eq, rI_eq, ?_⟩
    unfold f_X6_next
    rw [e3, e2, Lt_d, f1, byte_sp hB hfr (MT_q q hc) (by omega), bd1_s, Lt_d, if_pos hpn, if_pos (show (0 : Int32) ≤ nI (B p) by rw [show (0 : Int32) = nI 0 from rfl, n_le (by omega) (by omega)]; omega)]
    simp only [Jp_d, sg_if hb, lN_nI (show B p < 2 ^ 31 by omega)]
    have g1 : rI (wL (wI (wI (wI m1 0 29 (nI p)) 0 28 4) 0 28 3) 0 30 (lN (B p))) 0 27 + 1 = nI (p + 1) := by
      rw [rI_L, rI_nj (by decide), rI_nj (by decide), f1, n_s]
    simp only [Lt_d, g1]
  -- a word
  by_cases cL : isL (B p)
  · obtain ⟨q, hq1, hq2, hq3, hq4⟩ := first_ex (fun i => isL (B i)) n (n - p) p (by omega)
    have hpq : p < q := by
      rcases hq4 with e | e
      · omega
      · by_cases c : p = q
        · rw [← c] at e
          exact absurd cL e.2
        · omega
    have core : ∃ t v, (t ≠ 2 ∧ t ≠ 4 ∧ (t = 5 → v < 6) ∧ t < 100) ∧ WTX B p q t v ∧ ∀ m : MM, CTX m B n → rI m 36 4 = nI p → rI m 36 2 = nI q → ∃ m2, f_X3_takeWord_L46 F (wI m 36 3 3) (fun x1_7 => some (wI m 36 3 3)) F (nI 0) = some m2 ∧ Q36 m m2 ∧ CPX m2 t v p q := by
      by_cases cx : ∃ x, x < 12 ∧ WRD B p q x
      · obtain ⟨x, hx, hw⟩ := cx
        refine ⟨if 6 ≤ x then x else 5, x, ?_, ?_, fun m hc h4 h2 => ?_⟩
        · by_cases c6 : 6 ≤ x
          · rw [if_pos c6]; omega
          · rw [if_neg c6]; omega
        · by_cases c6 : 6 ≤ x
          · rw [if_pos c6]
            exact Or.inr (Or.inl ⟨x, c6, hx, hw, rfl⟩)
          · rw [if_neg c6]
            exact Or.inl ⟨x, by omega, hw, rfl, rfl⟩
        · have q3 : Q36 m (wI m 36 3 3) := Q36_w (by decide) (by decide) (Q36_rf m)
          rcases wordC (F := F) (by omega) hB (CT_q q3 hc) ((rI_nj (by decide)).trans h4) ((rI_nj (by decide)).trans h2) (by omega) hq2 hq3 (fun x1_7 => some (wI m 36 3 3)) 12 0 F (by omega) (by omega) with ⟨y, hy, hwy, e⟩ | ⟨hno, _⟩
          · have := WD_un hy hx hwy hw
            subst this
            refine ⟨_, e, Q36_w (by decide) (by decide) (Q36_w (by decide) (by decide) q3), ?_, ?_, ?_, fun _ => rI_eq⟩
            · rw [rI_nj (by decide), rI_eq]
            · rw [rI_nj (by decide), rI_nj (by decide), rI_nj (by decide), h4]
            · rw [rI_nj (by decide), rI_nj (by decide), rI_nj (by decide), h2]
          · exact absurd hw (hno x (Nat.zero_le _) hx)
      · refine ⟨3, 0, by omega, Or.inr (Or.inr ⟨rfl, fun x hx hw => cx ⟨x, hx, hw⟩⟩), fun m hc h4 h2 => ?_⟩
        have q3 : Q36 m (wI m 36 3 3) := Q36_w (by decide) (by decide) (Q36_rf m)
        rcases wordC (F := F) (by omega) hB (CT_q q3 hc) ((rI_nj (by decide)).trans h4) ((rI_nj (by decide)).trans h2) (by omega) hq2 hq3 (fun x1_7 => some (wI m 36 3 3)) 12 0 F (by omega) (by omega) with ⟨y, hy, hwy, e⟩ | ⟨_, e⟩
        · exact absurd ⟨y, hy, hwy⟩ cx
        · refine ⟨_, e, q3, rI_eq, ?_, ?_, fun z => by omega⟩
          · rw [rI_nj (by decide), h4]
          · rw [rI_nj (by decide), h2]
    obtain ⟨t, v, ht, hwt, hcC⟩ := core
    refine ⟨t, v, p, q, ⟨by omega, hq2, fun _ => hpq, fun z => absurd z ht.2.1, ht.2.2.1, ht.2.2.2⟩, hp1, fun mc hc h2 => ?_, fun mm fr hfr hc h2 => ?_⟩
    · obtain ⟨m5, a1, a2, a3, a4⟩ := preC mc hc h2
      obtain ⟨m6, b1, b2, b3, b4⟩ := letC hB hq2 hq4 (q - p) p F m5 (by omega) (by omega) (CT_q a1 hc) a2 hq3
      obtain ⟨m7, c1, c2, c3⟩ := hcC m6 (CT_q (Q36_tr a1 b1) hc) (b3.trans a3) b2
      refine ⟨m7, ?_, Q36_tr (Q36_tr a1 b1) c2, c3⟩
      rw [a4, (let_sp hb m5).1 cL, bd1_s, i_el]
      unfold f_X3_takeWord
      rw [b4, Lt_d]
      have c1' : f_X3_takeWord_L46 F (wI m6 36 3 3) (fun x1_7 => some (wI m6 36 3 3)) F 0 = some m7 := c1
      rw [c1', bd1_s]
    · obtain ⟨m12, a1, a2, a3, a5, a4⟩ := preM mm fr hfr hc h2
      have q1 : Q0 mm (wI m12 0 28 1) := Q0_w (by decide) (by decide) a1
      obtain ⟨m6, b1, b2, b3, b5, b4⟩ := letM hB hfr hq2 hq4 (q - p) p F (wI m12 0 28 1) (by omega) (by omega) (MT_q q1 hc) ((rI_nj (by decide)).trans a2) hq3
      have hcl : 97 ≤ B p ∧ B p ≤ 122 := cL
      refine ⟨m6, ?_, Q0_tr q1 b1, fun _ => b2, ?_, Or.inr (Or.inr (Or.inr (Or.inr ⟨?_, b2, hq3, hwt⟩)))⟩
      · rw [a4, show (97 : Int64) = lN 97 from rfl, show (122 : Int64) = lN 122 from rfl, in_by (by omega) (by decide) (by decide), bd1_s, if_pos hcl, i_el, Lt_d, b4]
      · rw [b5, rI_nj (by decide), a3]
      · rw [b3, rI_eq]
  · have hncl : ¬ (97 ≤ B p ∧ B p ≤ 122) := cL
    have hin97 : ∀ m : MM, f_X6_in (Int32.toInt64 (nI (B p))) (97 : Int64) (122 : Int64) m = some 0 := fun m => (in_by (lo := 97) (hi := 122) (by omega) (by decide) (by decide) m).trans (by rw [if_neg hncl])
    by_cases cD : isD (B p)
    · have hcd : 48 ≤ B p ∧ B p ≤ 57 := cD
      have hin48 : ∀ m : MM, f_X6_in (Int32.toInt64 (nI (B p))) (48 : Int64) (57 : Int64) m = some 1 := fun m => (in_by (lo := 48) (hi := 57) (by omega) (by decide) (by decide) m).trans (by rw [if_pos hcd])
      obtain ⟨q, hq1, hq2, hq3, hq4⟩ := first_ex (fun i => isD (B i)) n (n - p) p (by omega)
      have hpq : p < q := by
        rcases hq4 with e | e
        · omega
        · by_cases c : p = q
          · rw [← c] at e
            exact absurd cD e.2
          · omega
      have hdv : ∀ k, p + k ≤ q → k ≤ 4 → dN B p k < 10000 := fun k h1 h2 => dN_4 h2 (fun i hi => hq3 (p + i) (by omega) (by omega))
      refine ⟨if q - p ≤ 4 then 4 else 3, dN B p (q - p), p, q, ⟨by omega, hq2, fun _ => hpq, fun z => ?_, fun z => ?_, ?_⟩, hp1, fun mc hc h2 => ?_, fun mm fr hfr hc h2 => ?_⟩
      · by_cases c4 : q - p ≤ 4
        · exact hdv _ (by omega) c4
        · rw [if_neg c4] at z
          omega
      · split at z <;> omega
      · split <;> omega
      · obtain ⟨m5, a1, a2, a3, a4⟩ := preC mc hc h2
        have q5 : Q36 mc (wI m5 36 5 0) := Q36_w (by decide) (by decide) a1
        obtain ⟨m6, b1, b2, b3, b5, b4⟩ := digC (s := p) hB hq2 hq4 hq3 (q - p) p F (wI m5 36 5 0) (by omega) (Nat.le_refl _) (by omega) (CT_q q5 hc) ((rI_nj (by decide)).trans a2) (fun _ => by
          rw [rI_eq, Nat.sub_self]
          rfl)
        have b3' : rI m6 36 4 = nI p := b3.trans ((rI_nj (by decide)).trans a3)
        refine ⟨wI m6 36 3 (nI (if q - p ≤ 4 then 4 else 3)), ?_, Q36_w (by decide) (by decide) (Q36_tr q5 b1), rI_eq, (rI_nj (by decide)).trans b3', (rI_nj (by decide)).trans b2, fun z => ?_⟩
        · rw [a4, (let_sp hb m5).2 cL, bd1_s, i_if, (dig_sp hb m5).1 cD, bd1_s, i_el]
          unfold f_X3_takeNumber
          rw [Lt_d, b4, b2, b3', n_subn (by omega), Jp_d]
          by_cases c4 : q - p ≤ 4
          · rw [if_neg (by rw [show (4 : Int32) = nI 4 from rfl, n_lt (by omega) (by omega)]; omega), if_pos c4]
            rfl
          · rw [if_pos (by rw [show (4 : Int32) = nI 4 from rfl, n_lt (by omega) (by omega)]; omega), if_neg c4]
            rfl
        · by_cases c4 : q - p ≤ 4
          · exact (rI_nj (by decide)).trans (b5 c4)
          · rw [if_neg c4] at z
            omega
      · obtain ⟨m12, a1, a2, a3, a5, a4⟩ := preM mm fr hfr hc h2
        have q1 : Q0 mm (wL (wI m12 0 28 2) 0 30 0) := Q0_w (by decide) (by decide) a1
        obtain ⟨m6, b1, b2, b3, b5, b4⟩ := digM (s := p) hB hfr hq2 hq4 hq3 (q - p) p F (wL (wI m12 0 28 2) 0 30 0) (by omega) (Nat.le_refl _) (by omega) (MT_q q1 hc) (rI_L.trans ((rI_nj (by decide)).trans a2)) (by
          rw [rL_eq, Nat.sub_self]
          rfl)
        rw [Nat.sub_self] at b4
        refine ⟨wI m6 0 28 (nI (if q - p ≤ 4 then 2 else 4)), ?_, Q0_w (by decide) (by decide) (Q0_tr q1 b1), fun _ => (rI_nj (by decide)).trans b2, ?_, ?_⟩
        · rw [a4, hin97, bd1_s, i_if, hin48, bd1_s, i_el, Lt_d, Lt_d]
          refine Eq.trans (b4 _) ?_
          rw [Jp_d]
          by_cases c4 : q - p ≤ 4
          · rw [if_pos (by rw [show (4 : Int32) = nI 4 from rfl, n_le (by omega) (by omega)]; exact c4), if_pos c4]
            rfl
          · rw [if_neg (by rw [show (4 : Int32) = nI 4 from rfl, n_le (by omega) (by omega)]; exact c4), if_neg c4]
            rfl
        · rw [rI_nj (by decide), b3, rI_L, rI_nj (by decide), a3]
        · by_cases c4 : q - p ≤ 4
          · rw [if_pos c4, if_pos c4]
            rw [if_pos c4] at b5
            exact Or.inr (Or.inl ⟨rfl, rI_eq, b5⟩)
          · rw [if_neg c4, if_neg c4]
            exact Or.inr (Or.inr (Or.inr (Or.inl ⟨rfl, rI_eq⟩)))
    · have hncd : ¬ (48 ≤ B p ∧ B p ≤ 57) := cD
      have hin48 : ∀ m : MM, f_X6_in (Int32.toInt64 (nI (B p))) (48 : Int64) (57 : Int64) m = some 0 := fun m => (in_by (lo := 48) (hi := 57) (by omega) (by decide) (by decide) m).trans (by rw [if_neg hncd])
      have hsg := sg_ok (B p) hb
      by_cases cS : SG (B p)
      · refine ⟨B p, 0, p, p + 1, ⟨by omega, by omega, fun _ => by omega, fun z => ?_, fun z => ?_, ?_⟩, hp1, fun mc hc h2 => ?_, fun mm fr hfr hc h2 => ?_⟩
        · unfold SG at cS
          omega
        · unfold SG at cS
          omega
        · unfold SG at cS
          omega
        · obtain ⟨m5, a1, a2, a3, a4⟩ := preC mc hc h2
          refine ⟨wI (wI m5 36 3 (nI (B p))) 36 2 (nI (p + 1)), ?_, Q36_w (by decide) (by decide) (Q36_w (by decide) (by decide) a1), ?_, ?_, rI_eq, fun z => ?_⟩
          · rw [a4, (let_sp hb m5).2 cL, bd1_s, i_if, (dig_sp hb m5).2 cD, bd1_s, i_if, idx_sp (by omega) hb, bd1_s, if_neg (fun z => hsg.mp z cS)]
          · rw [rI_nj (by decide), rI_eq]
          · rw [rI_nj (by decide), rI_nj (by decide), a3]
          · unfold SG at cS
            omega
        · obtain ⟨m12, a1, a2, a3, a5, a4⟩ := preM mm fr hfr hc h2
          have q1 : Q0 mm (wL (wI m12 0 28 3) 0 30 (lN (B p))) := Q0_w (by decide) (by decide) a1
          refine ⟨wI (wL (wI m12 0 28 3) 0 30 (lN (B p))) 0 27 (nI (p + 1)), ?_, Q0_w (by decide) (by decide) q1, fun _ => rI_eq, ?_, Or.inr (Or.inr (Or.inl ⟨cS, ?_, ?_⟩))⟩
          · rw [a4, hin97, bd1_s, i_if, hin48, bd1_s, i_if, if_pos (sgB_t.mpr cS)]
          · rw [rI_nj (by decide), rI_L, rI_nj (by decide), a3]
          · rw [rI_nj (by decide), rI_L, rI_eq]
          · show rL (wL (wI m12 0 28 3) 0 30 (lN (B p))) 0 30 = _
            rw [rL_eq]
      · refine ⟨3, 0, p, p + 1, ⟨by omega, by omega, fun _ => by omega, fun z => by omega, fun z => by omega, by omega⟩, hp1, fun mc hc h2 => ?_, fun mm fr hfr hc h2 => ?_⟩
        · obtain ⟨m5, a1, a2, a3, a4⟩ := preC mc hc h2
          refine ⟨wI (wI m5 36 3 3) 36 2 (nI (p + 1)), ?_, Q36_w (by decide) (by decide) (Q36_w (by decide) (by decide) a1), ?_, ?_, rI_eq, fun z => by omega⟩
          · rw [a4, (let_sp hb m5).2 cL, bd1_s, i_if, (dig_sp hb m5).2 cD, bd1_s, i_if, idx_sp (by omega) hb, bd1_s, if_pos (hsg.mpr cS)]
          · rw [rI_nj (by decide), rI_eq]
            rfl
          · rw [rI_nj (by decide), rI_nj (by decide), a3]
        · obtain ⟨m12, a1, a2, a3, a5, a4⟩ := preM mm fr hfr hc h2
          refine ⟨m12, ?_, a1, fun z => absurd rfl z, a3, Or.inr (Or.inr (Or.inr (Or.inl ⟨rfl, a5⟩)))⟩
          rw [a4, hin97, bd1_s, i_if, hin48, bd1_s, i_if, if_neg (fun z => cS (sgB_t.mp z))]
