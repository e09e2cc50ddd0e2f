/-! THE SIMULATION: all levels -/
theorem look_term {B : Nat → Nat} {F : Nat} {fa : MM → Option (Int32 × MM)} {LP : Nat → Int32 → MM → Option (Int32 × MM)} (hL : ∀ u x m, LP (u + 1) x m = bd1 (f_X6_isSign (42 : Int32) m) fun r7 => if r7 = 0 then some (x, m) else bd1 (f_X6_next F m) fun m10 => bd2 (fa m10) fun r11 m13 => Lt (x * r11) fun x1_14 => LP u x1_14 m13) : LOOK B (fun t => t == 42) F fa LP := by
  refine ⟨fun u x mm hb => ?_, fun u x mm n o t v p j fr hB hT h => ⟨fun ht => ?_, fun ht => ?_⟩⟩
  · rw [hL, sign_bad hb, bd1_s, i_if]
  · have : t ≠ 42 := by simpa using ht
    rw [hL, show (42 : Int32) = nI 42 from rfl, sign_sp h (by unfold SG; omega), if_neg this, bd1_s, i_if]
  · have : t = 42 := by simpa using ht
    subst this
    rw [hL, show (42 : Int32) = nI 42 from rfl, sign_sp h (by unfold SG; omega), if_pos rfl, bd1_s, i_el]
    rfl
theorem look_added {B : Nat → Nat} {F : Nat} {fa : MM → Option (Int32 × MM)} {LP : Nat → Int32 → MM → Option (Int32 × MM)} (hL : ∀ u x m, LP (u + 1) x m = bd1 (f_X6_isSign (43 : Int32) m) fun r7 => Jp (Jp (fun s10 => bd1 (f_X6_next F m) fun m13 => bd2 (fa m13) fun r14 m16 => Jp (fun s17 => LP u s17 m16) fun J18 => if s10 = 0 then J18 (x - r14) else J18 (x + r14)) fun J11 => if (lg_cmp (rL m 0 30) (43 : Int64)) = 0 then J11 (1 : Int32) else J11 (0 : Int32)) fun J9 => if r7 = 0 then bd1 (f_X6_isSign (45 : Int32) m) fun r19 => if r19 = 0 then some (x, m) else J9 else J9) : LOOK B (fun t => t == 43 || t == 45) F fa LP := by
  refine ⟨fun u x mm hb => ?_, fun u x mm n o t v p j fr hB hT h => ⟨fun ht => ?_, fun ht => ?_⟩⟩
  · rw [hL, sign_bad hb, bd1_s, Jp_d, i_if, sign_bad hb, bd1_s, i_if]
  · have : t ≠ 43 ∧ t ≠ 45 := by simpa using ht
    rw [hL, show (43 : Int32) = nI 43 from rfl, show (45 : Int32) = nI 45 from rfl, sign_sp h (by unfold SG; omega), if_neg this.1, bd1_s, Jp_d, i_if, sign_sp h (by unfold SG; omega), if_neg this.2, bd1_s, i_if]
  · have : t = 43 ∨ t = 45 := by simpa using ht
    have hw := worth_sp h (by unfold SG; omega)
    rw [hL, show (43 : Int32) = nI 43 from rfl, show (45 : Int32) = nI 45 from rfl, sign_sp h (by unfold SG; omega), bd1_s, Jp_d, sign_sp h (by unfold SG; omega), bd1_s, hw, Jp_d, show (43 : Int64) = lN 43 from rfl]
    rcases this with c | c
    · subst c
      rw [if_pos rfl, i_el, if_pos ((lcmp0 (by omega) (by omega)).mpr rfl)]
      rfl
    · subst c
      rw [if_neg (show ¬ 45 = 43 by decide), i_if, if_pos rfl, i_el, if_neg (fun z => absurd ((lcmp0 (by omega) (by omega)).mp z) (by decide))]
      rfl
theorem look_both {B : Nat → Nat} {F : Nat} {fa : MM → Option (Int32 × MM)} {LP : Nat → Int32 → MM → Option (Int32 × MM)} (hL : ∀ u x m, LP (u + 1) x m = bd1 (f_X6_isWord (97 : Int32) (110 : Int32) (100 : Int32) (0 : Int32) (0 : Int32) (0 : Int32) (0 : Int32) (0 : Int32) m) fun r7 => if r7 = 0 then some (x, m) else bd1 (f_X6_next F m) fun m10 => bd2 (fa m10) fun r11 m13 => Jp (fun s14 => LP u s14 m13) fun J15 => Jp (J15 (0 : Int32)) fun J16 => if x = 0 then J16 else if r11 = 0 then J16 else J15 (1 : Int32)) : LOOK B (fun t => t == 10) F fa LP := by
  refine ⟨fun u x mm hb => ?_, fun u x mm n o t v p j fr hB hT h => ⟨fun ht => ?_, fun ht => ?_⟩⟩
  · rw [hL, word_bad hb, bd1_s, i_if]
  · have : t ≠ 10 := by simpa using ht
    have q := word_sp (x := 10) hB hT h (by decide) (by decide)
    rw [if_neg this] at q
    have q' : f_X6_isWord (97 : Int32) (110 : Int32) (100 : Int32) (0 : Int32) (0 : Int32) (0 : Int32) (0 : Int32) (0 : Int32) mm = some 0 := q
    rw [hL, q', bd1_s, i_if]
  · have : t = 10 := by simpa using ht
    subst this
    have q := word_sp (x := 10) hB hT h (by decide) (by decide)
    rw [if_pos rfl] at q
    have q' : f_X6_isWord (97 : Int32) (110 : Int32) (100 : Int32) (0 : Int32) (0 : Int32) (0 : Int32) (0 : Int32) (0 : Int32) mm = some 1 := q
    rw [hL, q', bd1_s, i_el]
    congr 1
    funext m2
    congr 1
    funext r m3
    show (if x = 0 then LP u 0 m3 else if r = 0 then LP u 0 m3 else LP u 1 m3) = LP u (if x = 0 then (0 : Int32) else if r = 0 then 0 else 1) m3
    by_cases c : x = 0
    · rw [if_pos c, if_pos c]
    · rw [if_neg c, if_neg c]
      by_cases c2 : r = 0
      · rw [if_pos c2, if_pos c2]
      · rw [if_neg c2, if_neg c2]
theorem look_either {B : Nat → Nat} {F : Nat} {fa : MM → Option (Int32 × MM)} {LP : Nat → Int32 → MM → Option (Int32 × MM)} (hL : ∀ u x m, LP (u + 1) x m = bd1 (f_X6_isWord (111 : Int32) (114 : Int32) (0 : Int32) (0 : Int32) (0 : Int32) (0 : Int32) (0 : Int32) (0 : Int32) m) fun r7 => if r7 = 0 then some (x, m) else bd1 (f_X6_next F m) fun m10 => bd2 (fa m10) fun r11 m13 => Jp (fun s14 => LP u s14 m13) fun J15 => Jp (J15 (1 : Int32)) fun J16 => if x = 0 then if r11 = 0 then J15 (0 : Int32) else J16 else J16) : LOOK B (fun t => t == 9) F fa LP := by
  refine ⟨fun u x mm hb => ?_, fun u x mm n o t v p j fr hB hT h => ⟨fun ht => ?_, fun ht => ?_⟩⟩
  · rw [hL, word_bad hb, bd1_s, i_if]
  · have : t ≠ 9 := by simpa using ht
    have q := word_sp (x := 9) hB hT h (by decide) (by decide)
    rw [if_neg this] at q
    have q' : f_X6_isWord (111 : Int32) (114 : Int32) (0 : Int32) (0 : Int32) (0 : Int32) (0 : Int32) (0 : Int32) (0 : Int32) mm = some 0 := q
    rw [hL, q', bd1_s, i_if]
  · have : t = 9 := by simpa using ht
    subst this
    have q := word_sp (x := 9) hB hT h (by decide) (by decide)
    rw [if_pos rfl] at q
    have q' : f_X6_isWord (111 : Int32) (114 : Int32) (0 : Int32) (0 : Int32) (0 : Int32) (0 : Int32) (0 : Int32) (0 : Int32) mm = some 1 := q
    rw [hL, q', bd1_s, i_el]
    congr 1
    funext m2
    congr 1
    funext r m3
    show (if x = 0 then if r = 0 then LP u 0 m3 else LP u 1 m3 else LP u 1 m3) = LP u (if x = 0 then if r = 0 then (0 : Int32) else 1 else 1) m3
    by_cases c : x = 0
    · rw [if_pos c, if_pos c]
      by_cases c2 : r = 0
      · rw [if_pos c2, if_pos c2]
      · rw [if_neg c2, if_neg c2]
    · rw [if_neg c, if_neg c]
theorem jn {mc : MM} {t k : Nat} (h : rI mc 36 3 = nI t) (ht : t < 100) (hk : k < 100) : (t = k → (if rI mc 36 3 = nI k then some (1 : Int32) else some 0) = some 1) ∧ (t ≠ k → (if rI mc 36 3 = nI k then some (1 : Int32) else some 0) = some 0) := by
  rw [h]
  constructor
  · intro z
    rw [if_pos (by rw [z])]
  · intro z
    rw [if_neg (by rw [n_eq (by omega) (by omega)]; exact z)]
theorem jn_eq {mc : MM} {t k : Nat} (h : rI mc 36 3 = nI t) (ht : t < 100) (hk : k < 100) : (if rI mc 36 3 = nI k then some (1 : Int32) else some 0) = some (if (fun t => t == k) t = true then 1 else 0) := by
  by_cases c : t = k
  · rw [(jn h ht hk).1 c, if_pos (by simpa using c)]
  · rw [(jn h ht hk).2 c, if_neg (by simpa using c)]
theorem joins0 : ∀ (mc : MM) (t : Nat), rI mc 36 3 = nI t → t < 100 → f_X3_joins (nI 0) mc = some (if (fun t => t == 9) t = true then 1 else 0) := fun mc t h ht => by
  unfold f_X3_joins
  rw [if_pos (show nI 0 = (0 : Int32) from rfl)]
  exact jn_eq h ht (by decide)
theorem joins1 : ∀ (mc : MM) (t : Nat), rI mc 36 3 = nI t → t < 100 → f_X3_joins (nI 1) mc = some (if (fun t => t == 10) t = true then 1 else 0) := fun mc t h ht => by
  unfold f_X3_joins
  rw [if_neg (show ¬ nI 1 = (0 : Int32) by decide), if_pos (show nI 1 = (1 : Int32) from rfl)]
  exact jn_eq h ht (by decide)
theorem joins4 : ∀ (mc : MM) (t : Nat), rI mc 36 3 = nI t → t < 100 → f_X3_joins (nI 4) mc = some (if (fun t => t == 42) t = true then 1 else 0) := fun mc t h ht => by
  unfold f_X3_joins
  rw [if_neg (show ¬ nI 4 = (0 : Int32) by decide), if_neg (show ¬ nI 4 = (1 : Int32) by decide), if_neg (show ¬ nI 4 = (2 : Int32) by decide), if_neg (show ¬ nI 4 = (3 : Int32) by decide), if_pos (show nI 4 = (4 : Int32) from rfl)]
  exact jn_eq h ht (by decide)
theorem joins3 : ∀ (mc : MM) (t : Nat), rI mc 36 3 = nI t → t < 100 → f_X3_joins (nI 3) mc = some (if (fun t => t == 43 || t == 45) t = true then 1 else 0) := fun mc t h ht => by
  unfold f_X3_joins
  rw [if_neg (show ¬ nI 3 = (0 : Int32) by decide), if_neg (show ¬ nI 3 = (1 : Int32) by decide), if_neg (show ¬ nI 3 = (2 : Int32) by decide), if_pos (show nI 3 = (3 : Int32) from rfl), h]
  by_cases c : t = 43
  · rw [c]
    rfl
  · rw [if_neg (show ¬ nI t = (43 : Int32) by rw [show (43 : Int32) = nI 43 from rfl, n_eq (by omega) (by omega)]; exact c)]
    by_cases c2 : t = 45
    · rw [c2]
      rfl
    · rw [if_neg (show ¬ nI t = (45 : Int32) by rw [show (45 : Int32) = nI 45 from rfl, n_eq (by omega) (by omega)]; exact c2), if_neg (by simp [c, c2])]
theorem sim_a5 {F : Nat} (hF : 1000 ≤ F) : SIMG (fun d mc => f_X3_joD F d false 0 (nI 5) mc) 1 1 5 (f_X6_atom5 F) := sim_atom5 hF
theorem sim_t5 {F : Nat} (hF : 1000 ≤ F) : SIMG (fun d mc => f_X3_joD F d true (nI 4) (nI 5) mc) 3 2 5 (f_X6_term5 F) := sim_row (T := fun t => t == 42) (f := f_X6_atom5 F) (LP := f_X6_term5_L5 F (fun x1_4 m5 => some (x1_4, m5))) hF (by decide) (by decide) joins4 (fun t h => (show t = 42 → _ from fun z => by omega) (by simpa using h)) (fun B => look_term (fun u x m => rfl)) (sim_5 (sim_a5 hF))
theorem sim_d5 {F : Nat} (hF : 1000 ≤ F) : SIMG (fun d mc => f_X3_joD F d true (nI 3) (nI 5) mc) 4 3 5 (f_X6_added5 F) := sim_row (T := fun t => t == 43 || t == 45) (f := f_X6_term5 F) (LP := f_X6_added5_L5 F (fun x1_4 m5 => some (x1_4, m5))) hF (by decide) (by decide) joins3 (fun t h => (show t = 43 ∨ t = 45 → _ from fun z => by omega) (by simpa using h)) (fun B => look_added (fun u x m => rfl)) (sim_t5 hF)
theorem sim_n5 {F : Nat} (hF : 1000 ≤ F) : SIMG (fun d mc => f_X3_joD F d true (nI 2) (nI 5) mc) 5 4 5 (f_X6_not5 F) := sim_not (fd := f_X6_added5 F) hF (by decide) (by decide) (sim_d5 hF) (not_5 (F := F))
theorem sim_b5 {F : Nat} (hF : 1000 ≤ F) : SIMG (fun d mc => f_X3_joD F d true (nI 1) (nI 5) mc) 6 5 5 (f_X6_both5 F) := sim_row (T := fun t => t == 10) (f := f_X6_not5 F) (LP := f_X6_both5_L5 F (fun x1_4 m5 => some (x1_4, m5))) hF (by decide) (by decide) joins1 (fun t h => (show t = 10 → _ from fun z => by omega) (by simpa using h)) (fun B => look_both (fun u x m => rfl)) (sim_n5 hF)
theorem sim_e5 {F : Nat} (hF : 1000 ≤ F) : SIMG (fun d mc => f_X3_joD F d true (nI 0) (nI 5) mc) 7 6 5 (f_X6_either5 F) := sim_row (T := fun t => t == 9) (f := f_X6_both5 F) (LP := f_X6_either5_L5 F (fun x1_4 m5 => some (x1_4, m5))) hF (by decide) (by decide) joins0 (fun t h => (show t = 9 → _ from fun z => by omega) (by simpa using h)) (fun B => look_either (fun u x m => rfl)) (sim_b5 hF)
theorem sim_a4 {F : Nat} (hF : 1000 ≤ F) : SIMG (fun d mc => f_X3_joD F d false 0 (nI 4) mc) 8 6 4 (f_X6_atom4 F) := sim_atomS (fe := f_X6_either5 F) (fa := f_X6_atom5 F) hF (by decide) (by decide) (by decide) (by decide) (by decide) (by decide) (sim_e5 hF) (sim_a5 hF)
theorem sim_t4 {F : Nat} (hF : 1000 ≤ F) : SIMG (fun d mc => f_X3_joD F d true (nI 4) (nI 4) mc) 10 7 4 (f_X6_term4 F) := sim_row (T := fun t => t == 42) (f := f_X6_atom4 F) (LP := f_X6_term4_L5 F (fun x1_4 m5 => some (x1_4, m5))) hF (by decide) (by decide) joins4 (fun t h => (show t = 42 → _ from fun z => by omega) (by simpa using h)) (fun B => look_term (fun u x m => rfl)) (sim_5 (sim_a4 hF))
theorem sim_d4 {F : Nat} (hF : 1000 ≤ F) : SIMG (fun d mc => f_X3_joD F d true (nI 3) (nI 4) mc) 11 8 4 (f_X6_added4 F) := sim_row (T := fun t => t == 43 || t == 45) (f := f_X6_term4 F) (LP := f_X6_added4_L5 F (fun x1_4 m5 => some (x1_4, m5))) hF (by decide) (by decide) joins3 (fun t h => (show t = 43 ∨ t = 45 → _ from fun z => by omega) (by simpa using h)) (fun B => look_added (fun u x m => rfl)) (sim_t4 hF)
theorem sim_n4 {F : Nat} (hF : 1000 ≤ F) : SIMG (fun d mc => f_X3_joD F d true (nI 2) (nI 4) mc) 12 9 4 (f_X6_not4 F) := sim_not (fd := f_X6_added4 F) hF (by decide) (by decide) (sim_d4 hF) (not_S (fn := f_X6_not5 F) hF (by decide) (by decide) (by decide) (sim_n5 hF))
theorem sim_b4 {F : Nat} (hF : 1000 ≤ F) : SIMG (fun d mc => f_X3_joD F d true (nI 1) (nI 4) mc) 13 10 4 (f_X6_both4 F) := sim_row (T := fun t => t == 10) (f := f_X6_not4 F) (LP := f_X6_both4_L5 F (fun x1_4 m5 => some (x1_4, m5))) hF (by decide) (by decide) joins1 (fun t h => (show t = 10 → _ from fun z => by omega) (by simpa using h)) (fun B => look_both (fun u x m => rfl)) (sim_n4 hF)
theorem sim_e4 {F : Nat} (hF : 1000 ≤ F) : SIMG (fun d mc => f_X3_joD F d true (nI 0) (nI 4) mc) 14 11 4 (f_X6_either4 F) := sim_row (T := fun t => t == 9) (f := f_X6_both4 F) (LP := f_X6_either4_L5 F (fun x1_4 m5 => some (x1_4, m5))) hF (by decide) (by decide) joins0 (fun t h => (show t = 9 → _ from fun z => by omega) (by simpa using h)) (fun B => look_either (fun u x m => rfl)) (sim_b4 hF)
theorem sim_a3 {F : Nat} (hF : 1000 ≤ F) : SIMG (fun d mc => f_X3_joD F d false 0 (nI 3) mc) 15 11 3 (f_X6_atom3 F) := sim_atomS (fe := f_X6_either4 F) (fa := f_X6_atom4 F) hF (by decide) (by decide) (by decide) (by decide) (by decide) (by decide) (sim_e4 hF) (sim_a4 hF)
theorem sim_t3 {F : Nat} (hF : 1000 ≤ F) : SIMG (fun d mc => f_X3_joD F d true (nI 4) (nI 3) mc) 17 12 3 (f_X6_term3 F) := sim_row (T := fun t => t == 42) (f := f_X6_atom3 F) (LP := f_X6_term3_L5 F (fun x1_4 m5 => some (x1_4, m5))) hF (by decide) (by decide) joins4 (fun t h => (show t = 42 → _ from fun z => by omega) (by simpa using h)) (fun B => look_term (fun u x m => rfl)) (sim_5 (sim_a3 hF))
theorem sim_d3 {F : Nat} (hF : 1000 ≤ F) : SIMG (fun d mc => f_X3_joD F d true (nI 3) (nI 3) mc) 18 13 3 (f_X6_added3 F) := sim_row (T := fun t => t == 43 || t == 45) (f := f_X6_term3 F) (LP := f_X6_added3_L5 F (fun x1_4 m5 => some (x1_4, m5))) hF (by decide) (by decide) joins3 (fun t h => (show t = 43 ∨ t = 45 → _ from fun z => by omega) (by simpa using h)) (fun B => look_added (fun u x m => rfl)) (sim_t3 hF)
theorem sim_n3 {F : Nat} (hF : 1000 ≤ F) : SIMG (fun d mc => f_X3_joD F d true (nI 2) (nI 3) mc) 19 14 3 (f_X6_not3 F) := sim_not (fd := f_X6_added3 F) hF (by decide) (by decide) (sim_d3 hF) (not_S (fn := f_X6_not4 F) hF (by decide) (by decide) (by decide) (sim_n4 hF))
theorem sim_b3 {F : Nat} (hF : 1000 ≤ F) : SIMG (fun d mc => f_X3_joD F d true (nI 1) (nI 3) mc) 20 15 3 (f_X6_both3 F) := sim_row (T := fun t => t == 10) (f := f_X6_not3 F) (LP := f_X6_both3_L5 F (fun x1_4 m5 => some (x1_4, m5))) hF (by decide) (by decide) joins1 (fun t h => (show t = 10 → _ from fun z => by omega) (by simpa using h)) (fun B => look_both (fun u x m => rfl)) (sim_n3 hF)
theorem sim_e3 {F : Nat} (hF : 1000 ≤ F) : SIMG (fun d mc => f_X3_joD F d true (nI 0) (nI 3) mc) 21 16 3 (f_X6_either3 F) := sim_row (T := fun t => t == 9) (f := f_X6_both3 F) (LP := f_X6_either3_L5 F (fun x1_4 m5 => some (x1_4, m5))) hF (by decide) (by decide) joins0 (fun t h => (show t = 9 → _ from fun z => by omega) (by simpa using h)) (fun B => look_either (fun u x m => rfl)) (sim_b3 hF)
theorem sim_a2 {F : Nat} (hF : 1000 ≤ F) : SIMG (fun d mc => f_X3_joD F d false 0 (nI 2) mc) 22 16 2 (f_X6_atom2 F) := sim_atomS (fe := f_X6_either3 F) (fa := f_X6_atom3 F) hF (by decide) (by decide) (by decide) (by decide) (by decide) (by decide) (sim_e3 hF) (sim_a3 hF)
theorem sim_t2 {F : Nat} (hF : 1000 ≤ F) : SIMG (fun d mc => f_X3_joD F d true (nI 4) (nI 2) mc) 24 17 2 (f_X6_term2 F) := sim_row (T := fun t => t == 42) (f := f_X6_atom2 F) (LP := f_X6_term2_L5 F (fun x1_4 m5 => some (x1_4, m5))) hF (by decide) (by decide) joins4 (fun t h => (show t = 42 → _ from fun z => by omega) (by simpa using h)) (fun B => look_term (fun u x m => rfl)) (sim_5 (sim_a2 hF))
theorem sim_d2 {F : Nat} (hF : 1000 ≤ F) : SIMG (fun d mc => f_X3_joD F d true (nI 3) (nI 2) mc) 25 18 2 (f_X6_added2 F) := sim_row (T := fun t => t == 43 || t == 45) (f := f_X6_term2 F) (LP := f_X6_added2_L5 F (fun x1_4 m5 => some (x1_4, m5))) hF (by decide) (by decide) joins3 (fun t h => (show t = 43 ∨ t = 45 → _ from fun z => by omega) (by simpa using h)) (fun B => look_added (fun u x m => rfl)) (sim_t2 hF)
theorem sim_n2 {F : Nat} (hF : 1000 ≤ F) : SIMG (fun d mc => f_X3_joD F d true (nI 2) (nI 2) mc) 26 19 2 (f_X6_not2 F) := sim_not (fd := f_X6_added2 F) hF (by decide) (by decide) (sim_d2 hF) (not_S (fn := f_X6_not3 F) hF (by decide) (by decide) (by decide) (sim_n3 hF))
theorem sim_b2 {F : Nat} (hF : 1000 ≤ F) : SIMG (fun d mc => f_X3_joD F d true (nI 1) (nI 2) mc) 27 20 2 (f_X6_both2 F) := sim_row (T := fun t => t == 10) (f := f_X6_not2 F) (LP := f_X6_both2_L5 F (fun x1_4 m5 => some (x1_4, m5))) hF (by decide) (by decide) joins1 (fun t h => (show t = 10 → _ from fun z => by omega) (by simpa using h)) (fun B => look_both (fun u x m => rfl)) (sim_n2 hF)
theorem sim_e2 {F : Nat} (hF : 1000 ≤ F) : SIMG (fun d mc => f_X3_joD F d true (nI 0) (nI 2) mc) 28 21 2 (f_X6_either2 F) := sim_row (T := fun t => t == 9) (f := f_X6_both2 F) (LP := f_X6_either2_L5 F (fun x1_4 m5 => some (x1_4, m5))) hF (by decide) (by decide) joins0 (fun t h => (show t = 9 → _ from fun z => by omega) (by simpa using h)) (fun B => look_either (fun u x m => rfl)) (sim_b2 hF)
theorem sim_a1 {F : Nat} (hF : 1000 ≤ F) : SIMG (fun d mc => f_X3_joD F d false 0 (nI 1) mc) 29 21 1 (f_X6_atom1 F) := sim_atomS (fe := f_X6_either2 F) (fa := f_X6_atom2 F) hF (by decide) (by decide) (by decide) (by decide) (by decide) (by decide) (sim_e2 hF) (sim_a2 hF)
theorem sim_t1 {F : Nat} (hF : 1000 ≤ F) : SIMG (fun d mc => f_X3_joD F d true (nI 4) (nI 1) mc) 31 22 1 (f_X6_term1 F) := sim_row (T := fun t => t == 42) (f := f_X6_atom1 F) (LP := f_X6_term1_L5 F (fun x1_4 m5 => some (x1_4, m5))) hF (by decide) (by decide) joins4 (fun t h => (show t = 42 → _ from fun z => by omega) (by simpa using h)) (fun B => look_term (fun u x m => rfl)) (sim_5 (sim_a1 hF))
theorem sim_d1 {F : Nat} (hF : 1000 ≤ F) : SIMG (fun d mc => f_X3_joD F d true (nI 3) (nI 1) mc) 32 23 1 (f_X6_added1 F) := sim_row (T := fun t => t == 43 || t == 45) (f := f_X6_term1 F) (LP := f_X6_added1_L5 F (fun x1_4 m5 => some (x1_4, m5))) hF (by decide) (by decide) joins3 (fun t h => (show t = 43 ∨ t = 45 → _ from fun z => by omega) (by simpa using h)) (fun B => look_added (fun u x m => rfl)) (sim_t1 hF)
theorem sim_n1 {F : Nat} (hF : 1000 ≤ F) : SIMG (fun d mc => f_X3_joD F d true (nI 2) (nI 1) mc) 33 24 1 (f_X6_not1 F) := sim_not (fd := f_X6_added1 F) hF (by decide) (by decide) (sim_d1 hF) (not_S (fn := f_X6_not2 F) hF (by decide) (by decide) (by decide) (sim_n2 hF))
theorem sim_b1 {F : Nat} (hF : 1000 ≤ F) : SIMG (fun d mc => f_X3_joD F d true (nI 1) (nI 1) mc) 34 25 1 (f_X6_both1 F) := sim_row (T := fun t => t == 10) (f := f_X6_not1 F) (LP := f_X6_both1_L5 F (fun x1_4 m5 => some (x1_4, m5))) hF (by decide) (by decide) joins1 (fun t h => (show t = 10 → _ from fun z => by omega) (by simpa using h)) (fun B => look_both (fun u x m => rfl)) (sim_n1 hF)
theorem sim_e1 {F : Nat} (hF : 1000 ≤ F) : SIMG (fun d mc => f_X3_joD F d true (nI 0) (nI 1) mc) 35 26 1 (f_X6_either1 F) := sim_row (T := fun t => t == 9) (f := f_X6_both1 F) (LP := f_X6_either1_L5 F (fun x1_4 m5 => some (x1_4, m5))) hF (by decide) (by decide) joins0 (fun t h => (show t = 9 → _ from fun z => by omega) (by simpa using h)) (fun B => look_either (fun u x m => rfl)) (sim_b1 hF)
theorem sim_a0 {F : Nat} (hF : 1000 ≤ F) : SIMG (fun d mc => f_X3_joD F d false 0 (nI 0) mc) 36 26 0 (f_X6_atom0 F) := sim_atomS (fe := f_X6_either1 F) (fa := f_X6_atom1 F) hF (by decide) (by decide) (by decide) (by decide) (by decide) (by decide) (sim_e1 hF) (sim_a1 hF)
theorem sim_t0 {F : Nat} (hF : 1000 ≤ F) : SIMG (fun d mc => f_X3_joD F d true (nI 4) (nI 0) mc) 38 27 0 (f_X6_term0 F) := sim_row (T := fun t => t == 42) (f := f_X6_atom0 F) (LP := f_X6_term0_L5 F (fun x1_4 m5 => some (x1_4, m5))) hF (by decide) (by decide) joins4 (fun t h => (show t = 42 → _ from fun z => by omega) (by simpa using h)) (fun B => look_term (fun u x m => rfl)) (sim_5 (sim_a0 hF))
theorem sim_d0 {F : Nat} (hF : 1000 ≤ F) : SIMG (fun d mc => f_X3_joD F d true (nI 3) (nI 0) mc) 39 28 0 (f_X6_added0 F) := sim_row (T := fun t => t == 43 || t == 45) (f := f_X6_term0 F) (LP := f_X6_added0_L5 F (fun x1_4 m5 => some (x1_4, m5))) hF (by decide) (by decide) joins3 (fun t h => (show t = 43 ∨ t = 45 → _ from fun z => by omega) (by simpa using h)) (fun B => look_added (fun u x m => rfl)) (sim_t0 hF)
theorem sim_n0 {F : Nat} (hF : 1000 ≤ F) : SIMG (fun d mc => f_X3_joD F d true (nI 2) (nI 0) mc) 40 29 0 (f_X6_not0 F) := sim_not (fd := f_X6_added0 F) hF (by decide) (by decide) (sim_d0 hF) (not_S (fn := f_X6_not1 F) hF (by decide) (by decide) (by decide) (sim_n1 hF))
theorem sim_b0 {F : Nat} (hF : 1000 ≤ F) : SIMG (fun d mc => f_X3_joD F d true (nI 1) (nI 0) mc) 41 30 0 (f_X6_both0 F) := sim_row (T := fun t => t == 10) (f := f_X6_not0 F) (LP := f_X6_both0_L5 F (fun x1_4 m5 => some (x1_4, m5))) hF (by decide) (by decide) joins1 (fun t h => (show t = 10 → _ from fun z => by omega) (by simpa using h)) (fun B => look_both (fun u x m => rfl)) (sim_n0 hF)
theorem sim_e0 {F : Nat} (hF : 1000 ≤ F) : SIMG (fun d mc => f_X3_joD F d true (nI 0) (nI 0) mc) 42 31 0 (f_X6_either0 F) := sim_row (T := fun t => t == 9) (f := f_X6_both0 F) (LP := f_X6_either0_L5 F (fun x1_4 m5 => some (x1_4, m5))) hF (by decide) (by decide) joins0 (fun t h => (show t = 9 → _ from fun z => by omega) (by simpa using h)) (fun B => look_either (fun u x m => rfl)) (sim_b0 hF)
