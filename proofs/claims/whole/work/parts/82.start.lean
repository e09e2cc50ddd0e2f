/-! WHAT THE STATEMENT GIVES OF THE START: classes, statics, texts, links -/
def tmS : Nat → Term := fun i => match i with
  | 0 => .string "BothHandsFull" 54
  | 1 => .string "BothHandsFull$Tape" 73
  | _ => .string "BothHandsFull$Tape" 84
def la_F : List Jvm.Cond := flatC (Jvm.Cond.and given_1 narrow_1)
set_option maxRecDepth 100000 in
theorem la_arr : ∀ q, q < 4 → Cond.arrayOf (.static "BothHandsFull" (stN q) "[I") .int ∈ la_F := by decide +kernel
set_option maxRecDepth 100000 in
theorem la_len : ∀ q, q < 4 → Cond.eq (.length (.static "BothHandsFull" (stN q) "[I")) (.int (Int32.ofNat 6)) ∈ la_F := by decide +kernel
set_option maxRecDepth 100000 in
theorem la_el : ∀ q, q < 4 → ∀ j, j < 6 → Cond.eq (.elem (.static "BothHandsFull" (stN q) "[I") (.int (Int32.ofNat j))) (.int (stT q j)) ∈ la_F := by decide +kernel
set_option maxRecDepth 100000 in
theorem la_lay : ∀ q, q < 4 → Cond.laysStatic "BothHandsFull" (stN q) "[I" ∈ lw_tbl := by decide +kernel
set_option maxRecDepth 100000 in
theorem la_ini : Cond.initialized "BothHandsFull" ∈ lw_tbl ∧ Cond.initialized "java/lang/String" ∈ lw_tbl ∧ Cond.initialized "jdk/internal/util/Preconditions" ∈ lw_tbl ∧ Cond.laysStatic "java/lang/String" "COMPACT_STRINGS" "Z" ∈ lw_tbl ∧ Cond.laysStatic "jdk/internal/util/Preconditions" "SIOOBE_FORMATTER" "Ljava/util/function/BiFunction;" ∈ lw_tbl := by decide +kernel
set_option maxRecDepth 100000 in
theorem la_cs : Cond.eq (.static "java/lang/String" "COMPACT_STRINGS" "Z") (.int 1) ∈ la_F ∧ Cond.isRef (.static "jdk/internal/util/Preconditions" "SIOOBE_FORMATTER" "Ljava/util/function/BiFunction;") ∈ la_F := by decide +kernel
set_option maxRecDepth 100000 in
theorem la_sex : ∀ i, i < 3 → Cond.exactly (tmS i) "java/lang/String" ∈ la_F := by decide +kernel
set_option maxRecDepth 100000 in
theorem la_sco : ∀ i, i < 3 → Cond.eq (.field (tmS i) "java/lang/String" "coder" "B") (.int 0) ∈ la_F := by decide +kernel
set_option maxRecDepth 100000 in
theorem la_sar : ∀ i, i < 3 → Cond.arrayOf (.field (tmS i) "java/lang/String" "value" "[B") .byte ∈ la_F := by decide +kernel
set_option maxRecDepth 100000 in
theorem la_sle : ∀ i, i < 3 → Cond.eq (.length (.field (tmS i) "java/lang/String" "value" "[B")) (.int (Int32.ofNat (stL.getD i 0))) ∈ la_F := by decide +kernel
set_option maxRecDepth 100000 in
theorem la_sel : ∀ i, i < 3 → ∀ j, j < stL.getD i 0 → Cond.eq (.elem (.field (tmS i) "java/lang/String" "value" "[B") (.int (Int32.ofNat j))) (.int ((stB.getD i []).getD j 0)) ∈ la_F := by decide +kernel
set_option maxRecDepth 100000 in
theorem la_sne : ∀ i, i < 3 → ∀ j, j < 3 → i ≠ j → (Cond.not (Cond.eq (tmS i) (tmS j)) ∈ la_F ∨ Cond.not (Cond.eq (tmS j) (tmS i)) ∈ la_F) := by decide +kernel
set_option maxRecDepth 100000 in
theorem la_str : Cond.stringRef "BothHandsFull" 54 stX0 ∈ lw_tbl ∧ Cond.stringRef "BothHandsFull$Tape" 73 stX1 ∈ lw_tbl ∧ Cond.stringRef "BothHandsFull$Tape" 84 stX2 ∈ lw_tbl := by decide +kernel
set_option maxRecDepth 100000 in
theorem la_nest : ∀ w ∈ nestW, w ∈ lw_tbl := by decide +kernel
set_option maxRecDepth 100000 in
theorem la_nest2 : ∀ w ∈ nestW2, w ∈ lw_tbl := by decide +kernel
set_option maxRecDepth 100000 in
theorem la_ao : Cond.arrayOver (.object "BothHandsFull$Text") ∈ lw_tbl ∧ Cond.arrayOver (.object "BothHandsFull$Sheet") ∈ lw_tbl ∧ Cond.arrayClass .int ∈ lw_tbl ∧ Cond.arrayClass .long ∈ lw_tbl ∧ Cond.arrayClass .boolean ∈ lw_tbl := by decide +kernel
set_option maxRecDepth 100000 in
theorem la_inst : Cond.instantiable RX0 13 ∈ lw_tbl ∧ Cond.instantiable RX1 14 ∈ lw_tbl ∧ Cond.instantiable RX2 3 ∈ lw_tbl ∧ Cond.instantiable RX3 7 ∈ lw_tbl ∧ Cond.instantiable RX4 4 ∈ lw_tbl ∧ Cond.instantiable RX5 10 ∈ lw_tbl ∧ Cond.instantiable RX6 54 ∈ lw_tbl := by decide +kernel
theorem la_prim {args : Array Value} {s : State} {ty : FieldType} (hp : refKind ty = false) (h : (Cond.arrayClass ty).before args s = true) : ∃ cA : ClassId, ArrOfT s cA ty ∧ va_RA s cA ty := by
  obtain ⟨cA, k, comp, h1, h2, h3⟩ := Cond.arrayClass_spec h
  refine ⟨cA, fun n z => ⟨fun k h => (by cases h), k, h2, comp, h3⟩, ?_⟩
  cases ty with
  | object C => cases hp
  | _ => exact h1
theorem la_ref {args : Array Value} {s : State} {C : String} (h : (Cond.arrayOver (.object C)).before args s = true) : ∃ cA : ClassId, ArrOfT s cA (.object C) ∧ va_RA s cA (.object C) := by
  obtain ⟨comp, cA, k, h1, h2, h3, h4, h5⟩ := Cond.arrayOver_spec h
  exact ⟨cA, fun n z => ⟨fun k h => (by cases h), k, h3, comp, h4⟩, k, comp, h3, h4, h1, h5⟩
theorem la_SX {s : State} {b : Nat} (hts : ∀ w ∈ lw_tbl, w.before #[Value.ref b] s = true) (hg : (Jvm.Cond.and given_1 narrow_1).before #[Value.ref b] s = true) : ∃ tb : Nat → Nat, SX tb (fun q : Nat => s.heap.size ≤ q) s s.heap := by
  have hs : ∀ c ∈ la_F, c.before #[Value.ref b] s = true := flat_of_before _ hg
  have hA : ∀ a : Nat, a < s.heap.size → ¬ (fun q : Nat => s.heap.size ≤ q) a := fun a h => Nat.not_le.mpr h
  have h1 : ∀ q : Nat, ∃ t : Nat, q < 4 → (va_Z "BothHandsFull" (stN q) "[I" (.ref t) (fun q : Nat => s.heap.size ≤ q) s s.heap ∧ va_T .int t 6 (fun j => .int (stT q j)) (fun q : Nat => s.heap.size ≤ q) s s.heap) := by
    intro q
    by_cases hq : q < 4
    · obtain ⟨t, ht, hT⟩ := va_Tof (tm := .static "BothHandsFull" (stN q) "[I") (ty := .int) (N := 6) (f := fun j => .int (stT q j)) (A := fun q : Nat => s.heap.size ≤ q) (by decide) (hs _ (la_arr q hq)) (va_eqt (hs _ (la_len q hq))) (fun j hj => va_eqt (hs _ (la_el q hq j hj))) hA
      exact ⟨t, fun _ => ⟨va_Zof (hts _ (la_lay q hq)) (hts _ la_ini.1) ht hA, hT⟩⟩
    · exact ⟨0, fun h => absurd h hq⟩
  obtain ⟨ts, h4⟩ := Classical.axiomOfChoice h1
  obtain ⟨adK, adV, hS, hk⟩ := vk_Sof (N := 3) (tm := tmS) (len := stL) (byt := stB) (A := fun q : Nat => s.heap.size ≤ q) (by decide) (fun i hi => hs _ (la_sex i hi)) (fun i hi => hs _ (la_sco i hi)) (fun i hi => hs _ (la_sar i hi)) (fun i hi => hs _ (la_sle i hi)) (fun i hi j hj => hs _ (la_sel i hi j hj)) (fun i j hi hj h => (la_sne i hi j hj h).imp (hs _) (hs _)) hA
  refine ⟨fun k => if k < 4 then ts k else if k < 7 then adK (k - 4) else adV (k - 7), fun k hk4 => ?_, fun w hw => ?_, ?_, ⟨?_, ?_, ?_⟩, ?_, ?_⟩
  · simp only [if_pos hk4]
    exact h4 k hk4
  · have h9 := hts _ (la_nest w hw)
    unfold nestW at hw
    simp only [List.mem_cons, List.not_mem_nil, or_false] at hw
    rcases hw with rfl | rfl | rfl | rfl | rfl <;> exact va_Nw.of rfl h9
  · refine ⟨fun i hi => ?_, fun i j hi hj h => ?_⟩
    · have e1 : (if 4 + i < 4 then ts (4 + i) else if 4 + i < 7 then adK (4 + i - 4) else adV (4 + i - 7)) = adK i := by
        rw [if_neg (by omega), if_pos (by omega)]
        congr 1
        omega
      have e2 : (if 7 + i < 4 then ts (7 + i) else if 7 + i < 7 then adK (7 + i - 4) else adV (7 + i - 7)) = adV i := by
        rw [if_neg (by omega), if_neg (by omega)]
        congr 1
        omega
      simp only [e1, e2]
      exact hS.1 i hi
    · have e1 : ∀ i, i < 3 → (if 4 + i < 4 then ts (4 + i) else if 4 + i < 7 then adK (4 + i - 4) else adV (4 + i - 7)) = adK i := fun i hi => by
        rw [if_neg (by omega), if_pos (by omega)]
        congr 1
        omega
      simp only [e1 i hi, e1 j hj] at h
      exact hS.2 i j hi hj h
  · exact vk_R.of (hts _ la_str.1) (hk 0 (by decide))
  · exact vk_R.of (hts _ la_str.2.1) (hk 1 (by decide))
  · exact vk_R.of (hts _ la_str.2.2) (hk 2 (by decide))
  · exact va_Zof (hts _ la_ini.2.2.2.1) (hts _ la_ini.2.1) (va_eqi (hs _ la_cs.1)) hA
  · exact va_Zqof (hts _ la_ini.2.2.2.2) (hts _ la_ini.2.2.1) (hs _ la_cs.2) hA
theorem la_exC {s : State} {b : Nat} (hts : ∀ w ∈ lw_tbl, w.before #[Value.ref b] s = true) : exC s := by
  refine ⟨fun w hw => ?_, va_AO.of (hts _ la_ao.1), va_AO.of (hts _ la_ao.2.1)⟩
  have h9 := hts _ (la_nest2 w hw)
  unfold nestW2 at hw
  simp only [List.mem_cons, List.not_mem_nil, or_false] at hw
  rcases hw with rfl | rfl | rfl | rfl | rfl <;> exact va_Nw.of rfl h9
theorem exC.warm {s U : State} (hW : s.WarmedH U.vm) (h : exC s) : exC U := by
  refine ⟨fun w hw => ?_, va_AO.moved hW.alike h.2.1, va_AO.moved hW.alike h.2.2⟩
  have h9 := h.1 w hw
  unfold nestW2 at hw
  simp only [List.mem_cons, List.not_mem_nil, or_false] at hw
  rcases hw with rfl | rfl | rfl | rfl | rfl <;> exact va_Nw.warmM hW h9
theorem exC.calling {U : State} (h : exC U) (g : JFrame) (mk : MethodId) (a : Array Value) : exC (U.calling g mk a) := by
  refine ⟨fun w hw => ?_, va_AO.moved (u := U) (U := U.calling g mk a) (Vm.Alike.refl U.vm) h.2.1, va_AO.moved (u := U) (U := U.calling g mk a) (Vm.Alike.refl U.vm) h.2.2⟩
  have h9 := h.1 w hw
  unfold nestW2 at hw
  simp only [List.mem_cons, List.not_mem_nil, or_false] at hw
  rcases hw with rfl | rfl | rfl | rfl | rfl <;> exact va_Nw.same (u := U) (U := U.calling g mk a) rfl rfl h9
theorem la_K {s : State} {b : Nat} (hts : ∀ w ∈ lw_tbl, w.before #[Value.ref b] s = true) : ∃ (D : va_G) (cA : Nat → ClassId), va_K D vwCl (tyL cA) s := by
  have hW : ∀ w ∈ WL, w.before #[Value.ref b] s = true := fun w h => hts w (WL_in w h)
  obtain ⟨c0, i0, k0⟩ := u_known (C := RX0) (T := TX0) (N := 13) (n := 13) hW inlX0 (hts _ la_inst.1)
  obtain ⟨c1, i1, k1⟩ := u_known (C := RX1) (T := TX1) (N := 14) (n := 14) hW inlX1 (hts _ la_inst.2.1)
  obtain ⟨c2, i2, k2⟩ := u_known (C := RX2) (T := TX2) (N := 3) (n := 3) hW inlX2 (hts _ la_inst.2.2.1)
  obtain ⟨c3, i3, k3⟩ := u_known (C := RX3) (T := TX3) (N := 7) (n := 7) hW inlX3 (hts _ la_inst.2.2.2.1)
  obtain ⟨c4, i4, k4⟩ := u_known (C := RX4) (T := TX4) (N := 4) (n := 4) hW inlX4 (hts _ la_inst.2.2.2.2.1)
  obtain ⟨c5, i5, k5⟩ := u_known (C := RX5) (T := TX5) (N := 10) (n := 10) hW inlX5 (hts _ la_inst.2.2.2.2.2.1)
  obtain ⟨c6, i6, k6⟩ := u_known (C := RX6) (T := TX6) (N := 54) (n := 54) hW inlX6 (hts _ la_inst.2.2.2.2.2.2)
  obtain ⟨a0, h0, g0⟩ := la_prim (ty := .int) rfl (hts _ la_ao.2.2.1)
  obtain ⟨a1, h1, g1⟩ := la_prim (ty := .long) rfl (hts _ la_ao.2.2.2.1)
  obtain ⟨a2, h2, g2⟩ := la_prim (ty := .boolean) rfl (hts _ la_ao.2.2.2.2)
  obtain ⟨a3, h3, g3⟩ := la_ref (C := "BothHandsFull$Text") (hts _ la_ao.1)
  obtain ⟨a4, h4, g4⟩ := la_ref (C := "BothHandsFull$Sheet") (hts _ la_ao.2.1)
  refine ⟨(fun k => [c0, c1, c2, c3, c4, c5, c6].getD k c0, fun k => [i0, i1, i2, i3, i4, i5, i6].getD k i0), fun k => [a0, a1, a2, a3, a4].getD k a0, fun k q hq => ?_, fun k q hq => ?_⟩
  · match k, hq with
    | 0, hq => cases hq; exact k0
    | 1, hq => cases hq; exact k1
    | 2, hq => cases hq; exact k2
    | 3, hq => cases hq; exact k3
    | 4, hq => cases hq; exact k4
    | 5, hq => cases hq; exact k5
    | 6, hq => cases hq; exact k6
    | k + 7, hq => simp [vwCl] at hq
  · match k, hq with
    | 0, hq => cases hq; exact ⟨h0, g0⟩
    | 1, hq => cases hq; exact ⟨h1, g1⟩
    | 2, hq => cases hq; exact ⟨h2, g2⟩
    | 3, hq => cases hq; exact ⟨h3, g3⟩
    | 4, hq => cases hq; exact ⟨h4, g4⟩
    | k + 5, hq => simp [tyL] at hq
