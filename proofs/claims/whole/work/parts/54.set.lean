/-! SET -/
theorem n_sub_le {a b : Nat} (ha : a < 1000) (hb : b < 1000) : (0 ≤ nI a - nI b) ↔ b ≤ a := by
  have h0 : (0 : Int32).toInt = 0 := rfl
  rw [i_le, h0, i_sub (by rw [nI_toInt (by omega), nI_toInt (by omega)]; omega) (by rw [nI_toInt (by omega), nI_toInt (by omega)]; omega), nI_toInt (by omega), nI_toInt (by omega)]
  omega
theorem LC_num {m : MM} {A : LT} {h v : Nat} (hz : A 6 6 = 0) (L : LC m 1 A) : LC (wI (wI m 3 h (nI v)) 4 h (nI (u_rm0 (A 0 h) v))) 1 (uA A 1 h v) := by
  obtain ⟨l1, l2, l3, l4, l5, l6, l7, l8⟩ := L
  refine ⟨by simpa [rI_w, uA] using l1, by simpa [rI_w, uA] using l2, by simpa [rI_w, uA] using l3, by simpa [rI_w, uA] using l4, by simpa [rI_w, uA] using l5, by simpa [rI_w, uA] using l6, ?_, ?_⟩
  · intro i hi
    have q := l7 i hi
    by_cases c : i = h
    · subst c
      have : ¬ A 6 6 = i + 1 := by omega
      simpa [rI_w, uA, u_rm, this] using q.1
    · simpa [rI_w, uA, u_rm, c] using q
  · intro i hi
    have q := l8 i hi
    simpa [rI_w, uA] using q
theorem LM_num {m : MM} {A : LT} {h v : Nat} (L : LM m A) : LM (wI m 5 h (nI v)) (uA A 1 h v) := by
  obtain ⟨l1, l2, l3, l4, l5, l6, l7, l8, l9⟩ := L
  refine ⟨by simpa [rI_w, uA] using l1, by simpa [rI_w, uA] using l2, by simpa [rI_w, uA] using l3, by simpa [rI_w, uA] using l4, by simpa [rI_w, uA] using l5, by simpa [rI_w, uA] using l6, by simpa [rI_w, uA] using l7, ?_, ?_⟩
  · intro i hi
    have q := l8 i hi
    by_cases c : i = h
    · subst c
      simpa [rI_w, uA] using q.1
    · simpa [rI_w, uA, c] using q
  · intro i hi
    have q := l9 i hi
    simpa [rI_w, uA] using q
theorem AB_num {A : LT} {h v : Nat} (hv : v < 10) (B : AB A) : AB (uA A 1 h v) := by
  obtain ⟨b1, b2, b3, b4, b5, b6, b7, b8, b9⟩ := B
  refine ⟨b1, b2, b3, b4, b5, b6, b7, fun i hi => ?_, b9⟩
  have q := b8 i hi
  by_cases c : i = h
  · subst c
    simpa [uA, hv] using q.1
  · simpa [uA, c] using q
theorem uA_self {A : LT} {h v : Nat} : uA (uA A 1 h v) 1 h (A 1 h) = A := by
  funext r i
  by_cases c : r = 1 ∧ i = h
  · rw [c.1, c.2]
    simp [uA]
  · simp [uA, c]
theorem z_set {X : MM → MM → Nat → Prop} (hX : XF X) {F : Nat} (hF : 7 ≤ F) (mc mm : MM) (a0 a1 a2 : Int32) (R : RelX X mc mm) : ∃ r mc2 mm2, f_X5_set F a0 a1 a2 mc = some (r, mc2) ∧ f_X6_set F a0 a1 a2 mm = some (r, mm2) ∧ RelX X mc2 mm2 := by
  obtain ⟨A, n, r1, r2, r3, r4, r5, r6, r7, r8⟩ := id R
  have B := r3.1
  have h0 := r3.2.2.2.1
  have h6 := r3.2.2.2.2
  have my := r3.2.2.1
  obtain ⟨b1, b2, b3, b4, b5, b6, b7, b8, b9⟩ := id B
  unfold f_X5_set f_X6_set
  simp only [Jp_d]
  rcases a_cs a0 4 with ⟨w, hw, rfl⟩ | h
  · rw [in_t hw (by omega) rfl, bd1_s, i_el]
    rcases (show w = 0 ∨ w = 1 ∨ w = 2 ∨ w = 3 by omega) with rfl | rfl | rfl | rfl
    · show ∃ r mc2 mm2, (bd2 (f_X5_setFree a2 mc) fun r2 m4 => some (r2, m4)) = some (r, mc2) ∧ (bd1 (f_X6_in (Int32.toInt64 a2) (0 : Int64) 3 mm) fun r26 => if r26 = 0 then some ((-100 : Int32), mm) else Lt (wI mm 0 16 a2) fun m8 => some (rI mm 0 16, m8)) = some (r, mm2) ∧ _
      unfold f_X5_setFree
      rcases a_cs a2 4 with ⟨v, hv, rfl⟩ | h
      · rw [show (4 : Int32) = nI 4 from rfl, wi_t hv (by omega), in_t hv (by omega) rfl, bd1_s, bd1_s, i_el, i_el, r1.2.2.2.1, r2.2.2.2.1]
        simp only [Lt_d, bd2_s]
        refine ⟨_, _, _, rfl, rfl, uA A 6 3 v, n, ?_, ?_, ⟨⟨b1, b2, b3, (by show v ≤ 3; omega), b5, b6, b7, b8, b9⟩, r3.2.1, my, h0, h6⟩, r4, RK_up (Nat.le_refl _) (fun K h => h) (RK_fr (by simp [rI_w]) (fun q h1 h2 => ?_) ?_ (fun i h => by simp [rI_w]; omega) r5), RT_fr (by simp [rI_w]) ?_ (by simp [rI_w]) ?_ r6, RX_fr hX (by simp [rI_w]) (by simp [rI_w]) (fun q h1 h2 h3 => ?_) ?_ ?_ r7, RS_fr (fun q h1 h2 => ?_) (fun q h1 h2 => ?_) r8⟩
        · obtain ⟨l1, l2, l3, l4, l5, l6, l7, l8⟩ := r1
          exact ⟨by simpa [rI_w, uA] using l1, by simpa [rI_w, uA] using l2, by simpa [rI_w, uA] using l3, by simp [rI_w, uA], by simpa [rI_w, uA] using l5, by simpa [rI_w, uA] using l6, fun i hi => by simpa [rI_w, uA, u_rm] using l7 i hi, fun i hi => by simpa [rI_w, uA] using l8 i hi⟩
        · obtain ⟨l1, l2, l3, l4, l5, l6, l7, l8, l9⟩ := r2
          exact ⟨by simpa [rI_w, uA] using l1, by simpa [rI_w, uA] using l2, by simpa [rI_w, uA] using l3, by simp [rI_w, uA], by simpa [rI_w, uA] using l5, by simpa [rI_w, uA] using l6, by simpa [rI_w, uA] using l7, fun i hi => by simpa [rI_w, uA] using l8 i hi, fun i hi => by simpa [rI_w, uA] using l9 i hi⟩
        all_goals (repeat' first | exact rfl | refine row_c (by omega) ?_)
      · rw [show (4 : Int32) = nI 4 from rfl, wi_f h (by omega), in_f h rfl, bd1_s, bd1_s, i_if, i_if]
        exact ⟨_, _, _, rfl, rfl, R⟩
    · show ∃ r mc2 mm2, (bd2 (f_X5_setKey a2 mc) fun r2 m4 => some (r2, m4)) = some (r, mc2) ∧ (if a2 = (-1 : Int32) then (Lt (wI mm 0 15 a2) fun m9 => some (rI mm 0 15, m9)) else bd1 (f_X6_isThing a2 mm) fun r22 => if r22 = 0 then some ((-100 : Int32), mm) else (Lt (wI mm 0 15 a2) fun m9 => some (rI mm 0 15, m9))) = some (r, mm2) ∧ _
      unfold f_X5_setKey
      simp only [Jp_d, Lt_d]
      have fin : ∀ v, v ≤ A 6 1 → a2 = nI v - 1 → ∃ r mc2 mm2, some (rI mc 1 9, wI mc 1 9 a2) = some (r, mc2) ∧ some (rI mm 0 15, wI mm 0 15 a2) = some (r, mm2) ∧ RelX X mc2 mm2 := by
        intro v hv ha
        subst ha
        rw [r1.2.2.1, r2.2.2.1]
        refine ⟨_, _, _, rfl, rfl, uA A 6 2 v, n, ?_, ?_, ⟨⟨b1, b2, hv, b4, b5, b6, b7, b8, b9⟩, r3.2.1, my, h0, h6⟩, r4, RK_up (Nat.le_refl _) (fun K h => h) (RK_fr (by simp [rI_w]) (fun q h1 h2 => ?_) ?_ (fun i h => by simp [rI_w]; omega) r5), RT_fr (by simp [rI_w]) ?_ (by simp [rI_w]) ?_ r6, RX_fr hX (by simp [rI_w]) (by simp [rI_w]) (fun q h1 h2 h3 => ?_) ?_ ?_ r7, RS_fr (fun q h1 h2 => ?_) (fun q h1 h2 => ?_) r8⟩
        · obtain ⟨l1, l2, l3, l4, l5, l6, l7, l8⟩ := r1
          exact ⟨by simpa [rI_w, uA] using l1, by simpa [rI_w, uA] using l2, by simp [rI_w, uA], by simpa [rI_w, uA] using l4, by simpa [rI_w, uA] using l5, by simpa [rI_w, uA] using l6, fun i hi => by simpa [rI_w, uA, u_rm] using l7 i hi, fun i hi => by simpa [rI_w, uA] using l8 i hi⟩
        · obtain ⟨l1, l2, l3, l4, l5, l6, l7, l8, l9⟩ := r2
          exact ⟨by simpa [rI_w, uA] using l1, by simpa [rI_w, uA] using l2, by simp [rI_w, uA], by simpa [rI_w, uA] using l4, by simpa [rI_w, uA] using l5, by simpa [rI_w, uA] using l6, by simpa [rI_w, uA] using l7, fun i hi => by simpa [rI_w, uA] using l8 i hi, fun i hi => by simpa [rI_w, uA] using l9 i hi⟩
        all_goals (repeat' first | exact rfl | refine row_c (by omega) ?_)
      by_cases c : a2 = -1
      · rw [if_pos c, if_pos c, bd2_s]
        exact fin 0 (Nat.zero_le _) c
      · rw [if_neg c, if_neg c]
        rcases a_cs a2 (A 6 1) with ⟨v, hv, rfl⟩ | h
        · rw [htC r1.2.1 b2 hv, htM r2.2.1 b2 hv, bd1_s, bd1_s, i_el, i_el, bd2_s]
          exact fin (v + 1) hv (n_p v).symm
        · rw [htC0 r1.2.1 b2 h, htM0 r2.2.1 b2 h, bd1_s, bd1_s, i_if, i_if]
          exact ⟨_, _, _, rfl, rfl, R⟩
    · show ∃ r mc2 mm2, (bd2 (f_X5_setNumber F a1 a2 mc) fun r2 m4 => some (r2, m4)) = some (r, mc2) ∧ (bd1 (f_X6_isHold a1 mm) fun r30 => if r30 = 0 then some ((-100 : Int32), mm) else bd1 (f_X6_in (Int32.toInt64 a2) (0 : Int64) 9 mm) fun r26 => if r26 = 0 then some ((-100 : Int32), mm) else Gu (inB a1 5) <| Gu (inB a1 5) <| Lt (wI mm 5 (ix a1) a2) fun m10 => bd1 (f_X6_inside F a1 m10) fun r11 => bd1 (f_X6_sizeOf F r11 m10) fun r13 => bd1 (f_X6_roomOf a1 m10) fun r15 => if r13 ≤ r15 then some (rI mm 5 (ix a1), m10) else Gu (inB a1 5) <| Lt (wI m10 5 (ix a1) (rI mm 5 (ix a1))) fun m17 => some ((-3 : Int32), m17)) = some (r, mm2) ∧ _
      unfold f_X5_setNumber
      rcases a_cs a1 (A 6 0) with ⟨h, hh, rfl⟩ | h
      · rw [hhC r1.1 b1 hh, hhM r2.1 b1 hh, bd1_s, bd1_s, i_el, i_el]
        rcases a_cs a2 10 with ⟨v, hv, rfl⟩ | hn
        · have hx : ix (nI h) = h := ix_n (by omega)
          have g := inB_n (by omega : h < 5) (by decide : 5 ≤ 2 ^ 31)
          have lh := r1.2.2.2.2.2.2.1 h hh
          have mh := r2.2.2.2.2.2.2.2.1 h hh
          have bh := b8 h hh
          rw [show (10 : Int32) = nI 10 from rfl, wi_t hv (by omega), in_t hv (by omega) rfl, bd1_s, bd1_s, i_el, i_el]
          simp only [Gu_of g, Lt_d]
          have LC2 := LC_num (h := h) (v := v) h6 r1
          have LM2 := LM_num (h := h) (v := v) r2
          have B2 := AB_num (h := h) hv B
          have e1 : rI mc 3 h = nI (A 1 h) := lh.2.1
          rw [hx, e1, mh.2, renumC (by omega) lh.1 bh.1 hv, bd1_s, leftC (by omega) LC2 B2 h0 hh, bd1_s, insideM (by omega) LM2 B2 (by omega), bd1_s, sizM (by omega) LM2 B2, bd1_s, roomM LM2 B2 hh, bd1_s]
          have hrm := u_rm_lt (A := uA A 1 h v) (h := h) (B2.2.2.2.2.2.2.2.1 h hh).2
          have hsm := smP_le (p := u_p (uA A 1 h v) (uA A 1 h v 5) h) (z := A 2) (c := 9) (n := A 6 1) (fun i hi => (b9 i hi).2.1)
          have h45 : A 6 1 * 9 ≤ 45 := by omega
          have hsm2 : smP (u_p (uA A 1 h v) (uA A 1 h v 5) h) (uA A 1 h v 2) (uA A 1 h v 6 1) ≤ 45 := Nat.le_trans hsm h45
          simp only [n_sub_le (show u_rm (uA A 1 h v) h < 1000 by omega) (show smP (u_p (uA A 1 h v) (uA A 1 h v 5) h) (uA A 1 h v 2) (uA A 1 h v 6 1) < 1000 by omega), n_le (show smP (u_p (uA A 1 h v) (uA A 1 h v 5) h) (uA A 1 h v 2) (uA A 1 h v 6 1) < 2 ^ 31 by omega) (show u_rm (uA A 1 h v) h < 2 ^ 31 by omega)]
          by_cases c : smP (u_p (uA A 1 h v) (uA A 1 h v 5) h) (uA A 1 h v 2) (uA A 1 h v 6 1) ≤ u_rm (uA A 1 h v) h
          · rw [if_pos c, if_pos c, bd2_s]
            refine ⟨_, _, _, rfl, rfl, uA A 1 h v, n, LC2, LM2, ⟨B2, r3.2.1, ⟨my.1, fun i hi => ?_, my.2.2.1, my.2.2.2⟩, h0, h6⟩, r4, RK_up (Nat.le_refl _) (fun K h => h) (RK_fr (by simp [rI_w]) (fun q h1 h2 => ?_) ?_ (fun i h => by simp [rI_w]) r5), RT_fr (by simp [rI_w]) ?_ (by simp [rI_w]) ?_ r6, RX_fr hX (by simp [rI_w]) (by simp [rI_w]) (fun q h1 h2 h3 => ?_) ?_ ?_ r7, RS_fr (fun q h1 h2 => ?_) (fun q h1 h2 => ?_) r8⟩
            · have q := my.2.1 i hi
              refine ⟨?_, q.2⟩
              by_cases ci : i = h
              · subst ci
                exact c
              · have e : u_rm (uA A 1 h v) i = u_rm A i := by simp [u_rm, uA, ci]
                rw [e]
                exact q.1
            all_goals (repeat' first | exact rfl | refine row_c (by omega) ?_)
          · rw [if_neg c, if_neg c]
            have e2 : rI (wI (wI mc 3 h (nI v)) 4 h (nI (u_rm0 (A 0 h) v))) 2 h = nI (A 0 h) := (LC2.2.2.2.2.2.2.1 h hh).1
            rw [renumC (by omega) e2 bh.1 bh.2, bd1_s, bd2_s]
            have e3 : uA (uA A 1 h v) 1 h (A 1 h) = A := uA_self
            have LC3 := LC_num (A := uA A 1 h v) (h := h) (v := A 1 h) h6 LC2
            have LM3 := LM_num (A := uA A 1 h v) (h := h) (v := A 1 h) LM2
            rw [e3] at LC3 LM3
            refine ⟨_, _, _, rfl, rfl, A, n, LC3, LM3, r3, r4, RK_up (Nat.le_refl _) (fun K h => h) (RK_fr (by simp [rI_w]) (fun q h1 h2 => ?_) ?_ (fun i h => by simp [rI_w]) r5), RT_fr (by simp [rI_w]) ?_ (by simp [rI_w]) ?_ r6, RX_fr hX (by simp [rI_w]) (by simp [rI_w]) (fun q h1 h2 h3 => ?_) ?_ ?_ r7, RS_fr (fun q h1 h2 => ?_) (fun q h1 h2 => ?_) r8⟩
            all_goals (repeat' first | exact rfl | refine row_c (by omega) ?_)
        · rw [show (10 : Int32) = nI 10 from rfl, wi_f hn (by omega), in_f hn rfl, bd1_s, bd1_s, i_if, i_if]
          exact ⟨_, _, _, rfl, rfl, R⟩
      · rw [hhC0 r1.1 b1 h, hhM0 r2.1 b1 h, bd1_s, bd1_s, i_if, i_if]
        exact ⟨_, _, _, rfl, rfl, R⟩
    · show ∃ r mc2 mm2, (bd2 (f_X5_setDry a1 a2 mc) fun r2 m4 => some (r2, m4)) = some (r, mc2) ∧ (bd1 (f_X6_isThing a1 mm) fun r30 => if r30 = 0 then some ((-100 : Int32), mm) else bd1 (f_X6_in (Int32.toInt64 a2) (0 : Int64) 1 mm) fun r26 => if r26 = 0 then some ((-100 : Int32), mm) else Gu (inB a1 5) <| if a2 = (1 : Int32) then Gu (inB a1 5) <| bd1 (f_X6_wetOf (rI mm 8 (ix a1)) mm) fun r20 => if r20 = (1 : Int32) then some ((-3 : Int32), mm) else (Gu (inB a1 5) <| Lt (wI mm 7 (ix a1) a2) fun m19 => some (rI mm 7 (ix a1), m19)) else (Gu (inB a1 5) <| Lt (wI mm 7 (ix a1) a2) fun m19 => some (rI mm 7 (ix a1), m19))) = some (r, mm2) ∧ _
      unfold f_X5_setDry
      rcases a_cs a1 (A 6 1) with ⟨t, ht, rfl⟩ | h
      · rw [htC r1.2.1 b2 ht, htM r2.2.1 b2 ht, bd1_s, bd1_s, i_el, i_el]
        rcases a_cs a2 2 with ⟨v, hv, rfl⟩ | hn
        · have hx : ix (nI t) = t := ix_n (by omega)
          have g := inB_n (by omega : t < 5) (by decide : 5 ≤ 2 ^ 31)
          have lt := r1.2.2.2.2.2.2.2 t ht
          have mt := r2.2.2.2.2.2.2.2.2 t ht
          have bt := b9 t ht
          rw [show (2 : Int32) = nI 2 from rfl, wi_t hv (by omega), in_t hv (by omega) rfl, bd1_s, bd1_s, i_el, i_el]
          simp only [Gu_of g, Lt_d, Jp_d]
          have e1 : rI mc 6 t = nI (A 3 t) := lt.2.1
          have e2 : rI mc 8 t = nI (A 5 t) := lt.2.2.2
          rw [hx, e1, e2, mt.2.1, mt.2.2.2, wetC r1 B bt.2.2.2.2, wetM r2 B bt.2.2.2.2, bd1_s, bd1_s]
          have hwe := u_we_le (A 0 (A 5 t))
          have fin : (v = 1 → ¬ u_we (A 0 (A 5 t)) = 1) → ∃ r mc2 mm2, (bd2 (some (nI (A 3 t), wI mc 6 t (nI v))) fun r2 m4 => some (r2, m4)) = some (r, mc2) ∧ some (nI (A 3 t), wI mm 7 t (nI v)) = some (r, mm2) ∧ RelX X mc2 mm2 := by
            intro hne
            rw [bd2_s]
            refine ⟨_, _, _, rfl, rfl, uA A 3 t v, n, ?_, ?_, ⟨⟨b1, b2, b3, b4, b5, b6, b7, b8, fun i hi => ?_⟩, r3.2.1, ⟨my.1, my.2.1, fun i hi hg => ?_, my.2.2.2⟩, h0, h6⟩, r4, RK_up (Nat.le_refl _) (fun K h => h) (RK_fr (by simp [rI_w]) (fun q h1 h2 => ?_) ?_ (fun i h => by simp [rI_w]) r5), RT_fr (by simp [rI_w]) ?_ (by simp [rI_w]) ?_ r6, RX_fr hX (by simp [rI_w]) (by simp [rI_w]) (fun q h1 h2 h3 => ?_) ?_ ?_ r7, RS_fr (fun q h1 h2 => ?_) (fun q h1 h2 => ?_) r8⟩
            · obtain ⟨l1, l2, l3, l4, l5, l6, l7, l8⟩ := r1
              refine ⟨by simpa [rI_w, uA] using l1, by simpa [rI_w, uA] using l2, by simpa [rI_w, uA] using l3, by simpa [rI_w, uA] using l4, by simpa [rI_w, uA] using l5, by simpa [rI_w, uA] using l6, fun i hi => by simpa [rI_w, uA, u_rm] using l7 i hi, fun i hi => ?_⟩
              have q := l8 i hi
              by_cases c : i = t
              · subst c
                simpa [rI_w, uA] using ⟨q.1, q.2.2.1, q.2.2.2⟩
              · simpa [rI_w, uA, c] using q
            · obtain ⟨l1, l2, l3, l4, l5, l6, l7, l8, l9⟩ := r2
              refine ⟨by simpa [rI_w, uA] using l1, by simpa [rI_w, uA] using l2, by simpa [rI_w, uA] using l3, by simpa [rI_w, uA] using l4, by simpa [rI_w, uA] using l5, by simpa [rI_w, uA] using l6, by simpa [rI_w, uA] using l7, fun i hi => by simpa [rI_w, uA] using l8 i hi, fun i hi => ?_⟩
              have q := l9 i hi
              by_cases c : i = t
              · subst c
                simpa [rI_w, uA] using ⟨q.1, q.2.2.1, q.2.2.2⟩
              · simpa [rI_w, uA, c] using q
            · have q := b9 i hi
              refine ⟨q.1, q.2.1, ?_, q.2.2.2⟩
              by_cases c : i = t
              · subst c
                simpa [uA] using hv
              · simpa [uA, c] using q.2.2.1
            · have q := my.2.2.1 i hi hg
              by_cases c : i = t
              · subst c
                intro z
                have z1 : v = 1 := by simpa [uA] using z.1
                exact hne z1 z.2
              · intro z
                have z1 : A 3 i = 1 := by simpa [uA, c] using z.1
                exact q ⟨z1, z.2⟩
            all_goals (repeat' first | exact rfl | refine row_c (by omega) ?_)
          by_cases c2 : nI v = 1
          · rw [if_pos c2, if_pos c2]
            simp only [n_1 (show u_we (A 0 (A 5 t)) < 2 ^ 31 by omega)]
            by_cases c3 : u_we (A 0 (A 5 t)) = 1
            · rw [if_pos c3, if_pos c3, bd2_s]
              exact ⟨_, _, _, rfl, rfl, R⟩
            · rw [if_neg c3, if_neg c3]
              exact fin (fun _ => c3)
          · rw [if_neg c2, if_neg c2]
            exact fin (fun z => absurd (by rw [z]; rfl) c2)
        · rw [show (2 : Int32) = nI 2 from rfl, wi_f hn (by omega), in_f hn rfl, bd1_s, bd1_s, i_if, i_if]
          exact ⟨_, _, _, rfl, rfl, R⟩
      · rw [htC0 r1.2.1 b2 h, htM0 r2.2.1 b2 h, bd1_s, bd1_s, i_if, i_if]
        exact ⟨_, _, _, rfl, rfl, R⟩
  · rw [in_f h rfl, bd1_s, i_if]
    have e : ∀ k, k < 4 → ¬ a0 = nI k := fun k hk z => h (by rw [z, nI_toInt (by omega)]; omega)
    rw [if_neg (show ¬ a0 = 0 from e 0 (by decide)), if_neg (show ¬ a0 = 1 from e 1 (by decide)), if_neg (show ¬ a0 = 2 from e 2 (by decide)), if_neg (show ¬ a0 = 3 from e 3 (by decide))]
    exact ⟨_, _, _, rfl, rfl, R⟩
