/-! THE CLAIM OUT OF ONE WALK OF THE LAW'S BODY. Your part is whole_start (and what it stands on); all else here is the same for every law, but numbers. -/
def R_law : String := "BothHandsFullLaw"
def lw_P (b : Addr) (xs : List Int32) (args : Array Value) (s : State) : Prop := args = #[.ref b] ∧ s.IntsAt b xs ∧ xs.length ≤ 3072 ∧ (Jvm.Cond.and given_1 narrow_1).before args s = true
def lw_Q (_ : Array Value) (s : State) (o : Outcome) (t : State) : Prop := o = .returned (some (.int 1)) ∧ Framed s o t [] 600000 7302250
def lw_Z (below : List Frame) (a : Array Value) (s : State) : State → Prop := fun t => ∃ o, t.status = .running ∧ Ended t below o ∧ lw_Q a s o t
/-- the law's own end, with 1 on the stack, nothing written that was there before, its room as the claim has it -/
theorem lw_ret {p : Program} {l : Launch} {e : Env} {s : State} {m : MethodId} {below : List Frame} {meth : Method} {c : Code} {b : Nat} (hx : p.tables.exec = Jvm.exec) (hb : c.code = code) (hr : meth.sig.returnType = ret) (hlocks : meth.locks = false) {pc : Nat} {H : Heap} {ls : Array Slot} (hdg : decode code pc = .ok (.ireturn, 1)) : W p l e room_1 s m #[Value.ref b] below meth c H [] 600000 7302250 (lw_Z below #[Value.ref b] s) (F0 m pc ls [.int 1]) := by
  intro T hT X
  obtain ⟨fs, hret, hrun, hended, hW, hframe⟩ := X.leave (v := some (.int 1)) (hlocks := hlocks) (fun h => by rw [hr] at h; cases h)
  have hmeth' : T.vm.method? m = some meth := X.method'
  refine ⟨T.setFrames fs, ?_, .returned (some (.int 1)), hrun, hended, rfl, ⟨_, rfl⟩, hW, hframe⟩
  jvm_step X.here [X.here.top, hx, hb, hdg, hmeth', hr, ret, narrow_b1]
  (try refine ⟨rfl, ?_⟩); (try refine ⟨rfl, ?_⟩)
  first | (intro acts; rw [hret _ acts rfl rfl rfl]) | rw [hret _ _ rfl rfl rfl]
  exact Steps.refl _
/-- what holds at the law's entry: the machine, the code, the tables' words (any of lw_tbl by 'hts w (by decide +kernel)'), the script of L ints xs at the cell b, what the Statement gives of the start (any of its parts by flat_of_before) -/
def lw_At (p : Program) (s : State) (m : MethodId) (meth : Method) (c : Code) (b L : Nat) (xs : Nat → Int32) : Prop :=
  p.tables.exec = Jvm.exec ∧ c.code = code ∧ meth.sig.returnType = ret ∧ c.maxLocals = 4 ∧ s.vm.findClass R_law = some m.cls ∧ (∀ w ∈ lw_tbl, w.before #[Value.ref b] s = true) ∧ va_X b L xs s s.heap ∧ b < s.heap.size ∧ meth.locks = false ∧ (Jvm.Cond.and given_1 narrow_1).before #[Value.ref b] s = true
/-! THE LAW'S OWN WALK: two worlds side by side, the script, and a relation between the two memories -/
def GL (p : Program) (l : Launch) (e : Env) (s : State) (mt : MethodId) (b : Nat) (below : List Frame) (meth : Method) (c : Code) (Q : State → Prop) (D : va_G) (cA : Nat → ClassId) (adc adm : Nat → Nat) (nc ns : Nat) (mc mm : MM) (pc : Nat) (lv : List (Nat × Value)) (st : List Value) : Prop :=
  ∀ (H : Heap) (locs : List Loc) (ls : Array Slot), va_P D vwCl (WD cfC 73 cA adc mc) H → va_P D vwCl (WD cfM 23 cA adm mm) H → va_S (fun q : Nat => s.heap.size ≤ q) s.heap H locs → lv_has ls 4 lv → W p l e room_1 s mt #[Value.ref b] below meth c H locs nc ns Q (F0 mt pc ls st)
def CL (p : Program) (s : State) (mt : MethodId) (b L : Nat) (xs : Nat → Int32) (c : Code) (D : va_G) (cA : Nat → ClassId) (adc adm : Nat → Nat) (nc ns : Nat) (tb : Nat → Nat) : Prop :=
  p.tables.exec = Jvm.exec ∧ c.code = code ∧ c.maxLocals = 4 ∧ s.vm.findClass R_law = some mt.cls ∧ (∀ w ∈ WL, w.before #[Value.ref b] s = true) ∧ va_K D vwCl (tyL cA) s ∧ (AP adc 73 ∧ AP adm 23) ∧ ((∀ k, k < 73 → s.heap.size ≤ adc k) ∧ (∀ k, k < 23 → s.heap.size ≤ adm k) ∧ ∀ i j, i < 73 → j < 23 → adc i ≠ adm j) ∧ SX tb (fun q : Nat => s.heap.size ≤ q) s s.heap ∧ (nc ≤ room_1.cells ∧ ns ≤ room_1.slots) ∧ va_X b L xs s s.heap ∧ b < s.heap.size
section GLrows
variable {p : Program} {l : Launch} {e : Env} {s : State} {mt : MethodId} {b : Nat} {below : List Frame} {meth : Method} {c : Code} {Q : State → Prop} {D : va_G} {cA : Nat → ClassId} {adc adm tb : Nat → Nat} {nc ns : Nat} {L : Nat} {xs : Nat → Int32} {mc mm : MM} {pc : Nat} {lv : List (Nat × Value)} {st : List Value}
theorem l_aload_n (C : CL p s mt b L xs c D cA adc adm nc ns tb) {k : Fin 4} {i x : Nat} (hd : decode code pc = .ok (.aload_n k, 1)) (hi : (k : Nat) = i) (q : Nat) (hq : lv[q]? = some (i, .ref x)) (kk : GL p l e s mt b below meth c Q D cA adc adm nc ns mc mm (pc + 1) lv (.ref x :: st)) : GL p l e s mt b below meth c Q D cA adc adm nc ns mc mm pc lv st :=
  fun H locs ls hP hM hS hl => lv_aload_n C.1 C.2.1 hd hi (lv_at hl q hq) (kk H locs ls hP hM hS hl)
theorem l_iload_n (C : CL p s mt b L xs c D cA adc adm nc ns tb) {k : Fin 4} {i : Nat} {x : Int32} (hd : decode code pc = .ok (.iload_n k, 1)) (hi : (k : Nat) = i) (q : Nat) (hq : lv[q]? = some (i, .int x)) (kk : GL p l e s mt b below meth c Q D cA adc adm nc ns mc mm (pc + 1) lv (.int x :: st)) : GL p l e s mt b below meth c Q D cA adc adm nc ns mc mm pc lv st :=
  fun H locs ls hP hM hS hl => lv_iload_n C.1 C.2.1 hd hi (lv_at hl q hq) (kk H locs ls hP hM hS hl)
theorem l_iconst (C : CL p s mt b L xs c D cA adc adm nc ns tb) {i : Int} {v : Int32} (hd : decode code pc = .ok (.iconst i, 1)) (hv : Int32.ofInt i = v) (kk : GL p l e s mt b below meth c Q D cA adc adm nc ns mc mm (pc + 1) lv (.int v :: st)) : GL p l e s mt b below meth c Q D cA adc adm nc ns mc mm pc lv st :=
  fun H locs ls hP hM hS hl => lv_iconst C.1 C.2.1 hd hv (kk H locs ls hP hM hS hl)
theorem l_bipush (C : CL p s mt b L xs c D cA adc adm nc ns tb) {i : Int} {v : Int32} (hd : decode code pc = .ok (.bipush i, 2)) (hv : (Int8.ofInt i).toInt32 = v) (kk : GL p l e s mt b below meth c Q D cA adc adm nc ns mc mm (pc + 2) lv (.int v :: st)) : GL p l e s mt b below meth c Q D cA adc adm nc ns mc mm pc lv st :=
  fun H locs ls hP hM hS hl => lv_bipush C.1 C.2.1 hd hv (kk H locs ls hP hM hS hl)
theorem l_iadd (C : CL p s mt b L xs c D cA adc adm nc ns tb) {x y : Int32} (hd : decode code pc = .ok (.iadd, 1)) (kk : GL p l e s mt b below meth c Q D cA adc adm nc ns mc mm (pc + 1) lv (.int (x + y) :: st)) : GL p l e s mt b below meth c Q D cA adc adm nc ns mc mm pc lv (.int y :: .int x :: st) :=
  fun H locs ls hP hM hS hl => lv_iadd C.1 C.2.1 hd (kk H locs ls hP hM hS hl)
theorem l_isub (C : CL p s mt b L xs c D cA adc adm nc ns tb) {x y : Int32} (hd : decode code pc = .ok (.isub, 1)) (kk : GL p l e s mt b below meth c Q D cA adc adm nc ns mc mm (pc + 1) lv (.int (x - y) :: st)) : GL p l e s mt b below meth c Q D cA adc adm nc ns mc mm pc lv (.int y :: .int x :: st) :=
  fun H locs ls hP hM hS hl => lv_isub C.1 C.2.1 hd (kk H locs ls hP hM hS hl)
theorem l_iand (C : CL p s mt b L xs c D cA adc adm nc ns tb) {x y : Int32} (hd : decode code pc = .ok (.iand, 1)) (kk : GL p l e s mt b below meth c Q D cA adc adm nc ns mc mm (pc + 1) lv (.int (x &&& y) :: st)) : GL p l e s mt b below meth c Q D cA adc adm nc ns mc mm pc lv (.int y :: .int x :: st) :=
  fun H locs ls hP hM hS hl => lv_iand C.1 C.2.1 hd (kk H locs ls hP hM hS hl)
theorem l_lcmp (C : CL p s mt b L xs c D cA adc adm nc ns tb) {x : Int64} (hd : decode code pc = .ok (.lcmp, 1)) (kk : GL p l e s mt b below meth c Q D cA adc adm nc ns mc mm (pc + 1) lv (.int 0 :: st)) : GL p l e s mt b below meth c Q D cA adc adm nc ns mc mm pc lv (.long x :: .long x :: st) := by
  intro H locs ls hP hM hS hl
  refine W.lcmp C.1 C.2.1 hd ?_
  rw [show lg_cmp x x = 0 by unfold lg_cmp; simp]
  exact kk H locs ls hP hM hS hl
theorem l_sld (C : CL p s mt b L xs c D cA adc adm nc ns tb) {i : Int32} (hin : vp_in i L) (hd : decode code pc = .ok (.iaload, 1)) (kk : GL p l e s mt b below meth c Q D cA adc adm nc ns mc mm (pc + 1) lv (.int (xs i.toNatClampNeg) :: st)) : GL p l e s mt b below meth c Q D cA adc adm nc ns mc mm pc lv (.int i :: .ref b :: st) :=
  fun H locs ls hP hM hS hl => va_sld C.1 C.2.1 C.2.2.2.2.2.2.2.2.2.2.1 C.2.2.2.2.2.2.2.2.2.2.2 (Nat.not_le.mpr C.2.2.2.2.2.2.2.2.2.2.2) hS hin hd (kk H locs ls hP hM hS hl)
theorem l_slen (C : CL p s mt b L xs c D cA adc adm nc ns tb) (hd : decode code pc = .ok (.arraylength, 1)) (kk : GL p l e s mt b below meth c Q D cA adc adm nc ns mc mm (pc + 1) lv (.int (nI L) :: st)) : GL p l e s mt b below meth c Q D cA adc adm nc ns mc mm pc lv (.ref b :: st) :=
  fun H locs ls hP hM hS hl => va_slen C.1 C.2.1 C.2.2.2.2.2.2.2.2.2.2.1 C.2.2.2.2.2.2.2.2.2.2.2 (Nat.not_le.mpr C.2.2.2.2.2.2.2.2.2.2.2) hS hd (kk H locs ls hP hM hS hl)
theorem l_goto (C : CL p s mt b L xs c D cA adc adm nc ns tb) {off : Int} {tgt : Nat} (hd : decode code pc = .ok (.goto off, 3)) (ht : (pc : Int) + off = (tgt : Int)) (kk : GL p l e s mt b below meth c Q D cA adc adm nc ns mc mm tgt lv st) : GL p l e s mt b below meth c Q D cA adc adm nc ns mc mm pc lv st :=
  fun H locs ls hP hM hS hl => lv_goto C.1 C.2.1 hd ht (kk H locs ls hP hM hS hl)
theorem l_gt (C : CL p s mt b L xs c D cA adc adm nc ns tb) {x y : Int32} {off : Int} {tgt : Nat} (hd : decode code pc = .ok (.if_icmp .gt off, 3)) (ht : (pc : Int) + off = (tgt : Int)) (kt : y < x → GL p l e s mt b below meth c Q D cA adc adm nc ns mc mm tgt lv st) (kf : ¬ y < x → GL p l e s mt b below meth c Q D cA adc adm nc ns mc mm (pc + 3) lv st) : GL p l e s mt b below meth c Q D cA adc adm nc ns mc mm pc lv (.int y :: .int x :: st) :=
  fun H locs ls hP hM hS hl => lv_icmp_gt C.1 C.2.1 hd ht (fun h => kt h H locs ls hP hM hS hl) (fun h => kf h H locs ls hP hM hS hl)
theorem l_same (C : CL p s mt b L xs c D cA adc adm nc ns tb) {x : Int32} {off : Int} {tgt : Nat} (hd : decode code pc = .ok (.if_icmp .eq off, 3)) (ht : (pc : Int) + off = (tgt : Int)) (kt : GL p l e s mt b below meth c Q D cA adc adm nc ns mc mm tgt lv st) : GL p l e s mt b below meth c Q D cA adc adm nc ns mc mm pc lv (.int x :: .int x :: st) :=
  fun H locs ls hP hM hS hl => lv_icmp_eq C.1 C.2.1 hd ht (fun _ => kt H locs ls hP hM hS hl) (fun h => absurd rfl h)
theorem l_same0 (C : CL p s mt b L xs c D cA adc adm nc ns tb) {off : Int} {tgt : Nat} (hd : decode code pc = .ok (.ifCond .eq off, 3)) (ht : (pc : Int) + off = (tgt : Int)) (kt : GL p l e s mt b below meth c Q D cA adc adm nc ns mc mm tgt lv st) : GL p l e s mt b below meth c Q D cA adc adm nc ns mc mm pc lv (.int 0 :: st) :=
  fun H locs ls hP hM hS hl => lv_if_eq C.1 C.2.1 hd ht (fun _ => kt H locs ls hP hM hS hl) (fun h => absurd rfl h)
theorem l_tbl (C : CL p s mt b L xs c D cA adc adm nc ns tb) {dflt lo hi : Int} {offs : Array Int} {len : Nat} {x : Int32} (hd : decode code pc = .ok (.tableswitch dflt lo hi offs, len)) {off : Int} {tgt : Nat} (v : Int32) (hx : x = v) (h1 : ¬ v.toInt < lo ∧ ¬ hi < v.toInt) (ho : offs[(v.toInt - lo).toNat]? = some off) (ht : (pc : Int) + off = (tgt : Int)) (kk : GL p l e s mt b below meth c Q D cA adc adm nc ns mc mm tgt lv st) : GL p l e s mt b below meth c Q D cA adc adm nc ns mc mm pc lv (.int x :: st) :=
  fun H locs ls hP hM hS hl => lv_tableIn C.1 C.2.1 hd (by rw [hx]; exact h1.1) (by rw [hx]; exact h1.2) (by rw [hx]; exact ho) ht (kk H locs ls hP hM hS hl)
theorem l_tblOut (C : CL p s mt b L xs c D cA adc adm nc ns tb) {dflt lo hi : Int} {offs : Array Int} {len : Nat} {x : Int32} (hd : decode code pc = .ok (.tableswitch dflt lo hi offs, len)) {tgt : Nat} (h1 : x.toInt < lo ∨ hi < x.toInt) (ht : (pc : Int) + dflt = (tgt : Int)) (kk : GL p l e s mt b below meth c Q D cA adc adm nc ns mc mm tgt lv st) : GL p l e s mt b below meth c Q D cA adc adm nc ns mc mm pc lv (.int x :: st) :=
  fun H locs ls hP hM hS hl => lv_tableOut C.1 C.2.1 hd h1 ht (kk H locs ls hP hM hS hl)
theorem l_iinc (C : CL p s mt b L xs c D cA adc adm nc ns tb) {i q : Nat} {d : Int} {x v : Int32} {lv' : List (Nat × Value)} (hd : decode code pc = .ok (.iinc i d, 3)) (hq : lv[q]? = some (i, .int x)) (hn : i < 4) (hv : x + Int32.ofInt d = v) (hl' : (i, .int v) :: lv.filter (fun q => !(q.1 == i) && !(q.1 + 1 == i && q.2.category == 2)) = lv') (kk : GL p l e s mt b below meth c Q D cA adc adm nc ns mc mm (pc + 3) lv' st) : GL p l e s mt b below meth c Q D cA adc adm nc ns mc mm pc lv st :=
  fun H locs ls hP hM hS hl => lv_iinc C.1 C.2.1 hd hl hq hv hn hl' (fun ls' hl2 => kk H locs ls' hP hM hS hl2)
theorem l_sub (ks : List Nat) {lv' : List (Nat × Value)} (h : lv_pick lv ks = lv') (k : GL p l e s mt b below meth c Q D cA adc adm nc ns mc mm pc lv' st) : GL p l e s mt b below meth c Q D cA adc adm nc ns mc mm pc lv st :=
  fun H locs ls hP hM hS hl => k H locs ls hP hM hS (lv_sub hl ks h)
/-- a call on one of the two worlds: the other one stays as it is -/
theorem l_call {cf cf2 : CF} {n n2 : Nat} {ad ad2 : Nat → Nat} {m m' m2 : MM} (hexec : p.tables.exec = Jvm.exec) (hb : c.code = code) (hml : c.maxLocals = 4) (hown : s.vm.findClass R_law = some mt.cls) (hts : ∀ w ∈ WL, w.before #[Value.ref b] s = true) (hK : va_K D vwCl (tyL cA) s) (hap : AP ad n) (hge : ∀ k, k < n → s.heap.size ≤ ad k) (hne : ∀ i j, i < n → j < n2 → ad i ≠ ad2 j) (hX : SX tb (fun q : Nat => s.heap.size ≤ q) s s.heap) (hroom : nc ≤ room_1.cells ∧ ns ≤ room_1.slots) {y : MethodName} {bytes : ByteArray} {maxL index np k ci N : Nat} {ret : Option FieldType} {rm' : Room} {av : (Nat → Nat) → (Nat → Nat) → List Value} {o : Option Value} {As rest stk : List Value} {Cn : String} {T : u_T} {fs : (Nat → Nat) → Nat → (Nat → Int32) → (Nat → Int64) → List Value} (hct : CT l y bytes maxL ret rm' cf n av m o m') (cw : CallW room_1 s #[Value.ref b] R_law Cn index y bytes maxL ret (Cond.code y bytes maxL ret :: WL) rm' 0 0 np) (hrec : FO cf n k ci fs) (hci : vwCl[ci]? = some (Cn, T, N)) (hav : av ad tb = .ref (ad k) :: As) (hn : As.length = np) (hst : stk = As.reverse ++ .ref (ad k) :: rest) (hsum : (rest.map fun v => v.category).sum ≤ 8) (hd : decode code pc = .ok (.invokevirtual index, 3)) {H : Heap} {locs : List Loc} {ls : Array Slot} (hP : va_P D vwCl (WD cf n cA ad m) H) (hP2 : va_P D vwCl (WD cf2 n2 cA ad2 m2) H) (hS : va_S (fun q : Nat => s.heap.size ≤ q) s.heap H locs) (hsz : ls.size = 4)
    (kk : ∀ (H1 : Heap) (locs1 : List Loc), va_P D vwCl (WD cf n cA ad m') H1 → va_P D vwCl (WD cf2 n2 cA ad2 m2) H1 → va_S (fun q : Nat => s.heap.size ≤ q) s.heap H1 locs1 → W p l e room_1 s mt #[Value.ref b] below meth c H1 locs1 nc ns Q (F0 mt (pc + 3) ls (o.toList ++ rest))) : W p l e room_1 s mt #[Value.ref b] below meth c H locs nc ns Q (F0 mt pc ls stk) := by
  have hAA : ∀ q, AA ad n H.size q → s.heap.size ≤ q := by
    intro q hq
    rcases hq with ⟨k, hk, rfl⟩ | hq
    · exact hge k hk
    · exact Nat.le_trans hS.1 hq
  have hpre : ∀ U : State, U.heap = H → s.WarmedH U.vm → va_Pc (av ad tb) (fun U => U.heap.size = H.size ∧ va_P D vwCl (WD cf n cA ad m) U.heap ∧ va_K D vwCl (tyL cA) U ∧ SX tb (AA ad n H.size) U U.heap) (av ad tb).toArray U := by
    intro U hU hW
    refine ⟨rfl, by rw [hU], by rw [hU]; exact hP, va_K.moved hW.alike hK, SX.go hX hW (fun a h1 h2 => ?_) hAA⟩
    rw [hU]
    exact hS.2.1 a h1 h2
  have hr := va_runV (cells := nc) (slots := ns) (H := H) (locs := locs) (p := p) (l := l) (e := e) (below := below) (meth := meth) (g := F0 mt pc ls stk) (As := As) (rest := rest) ⟨hexec, hb, hml, hown, hts⟩ (hct D cA ad tb H.size hap) cw ⟨g_blind, (by have hv := va_recv hK hP hci (FO_at hrec); exact hv), fun U hU hW => hav ▸ hpre U hU hW⟩ rfl hn hsz hst (lv_room hsum) hd hroom
  intro T hT X
  obtain ⟨v, st₀, t, T', L0, h0, X', hL, e1, e2, ⟨⟨hv, hPt⟩, hz, hk⟩, st⟩ := hr T hT X
  cases hv
  rw [h0] at hz hk
  obtain ⟨t2, a1, b1⟩ := kk T'.heap (locs ++ L0) (by rw [e1]; exact hPt) (fun k q hq => by
      have h9 := hP2 k q hq
      refine h9.kept ?_
      rw [e1]
      obtain ⟨hk2, hqe⟩ := WD_out hq
      refine hk q.1 h9.lt (fun z => ?_)
      rcases z with ⟨i, hi, hz2⟩ | z
      · rw [hqe] at hz2
        exact hne i k hi hk2 hz2.symm
      · exact absurd h9.lt (Nat.not_lt.mpr z)) ⟨Nat.le_trans hS.1 (by rw [e1]; exact hz), fun q h1 h2 => by rw [e1, hk q (Nat.lt_of_lt_of_le h1 hS.1) (fun z => h2 (hAA q z))]; exact hS.2.1 q h1 h2, fun q hq => by
      rcases List.mem_append.mp hq with h | h
      · exact hS.2.2 q h
      · exact hAA _ (hL q h)⟩ T' rfl X'
  exact ⟨t2, st t2 a1, b1⟩
theorem l_callC (C : CL p s mt b L xs c D cA adc adm nc ns tb) {mc' : MM} {y : MethodName} {bytes : ByteArray} {maxL index np : Nat} {ret : Option FieldType} {rm' : Room} {av : (Nat → Nat) → (Nat → Nat) → List Value} {o : Option Value} {As rest stk : List Value} (hct : CT l y bytes maxL ret rm' cfC 73 av mc o mc') (cw : CallW room_1 s #[Value.ref b] R_law RX5 index y bytes maxL ret (Cond.code y bytes maxL ret :: WL) rm' 0 0 np) (hav : av adc tb = .ref (adc 0) :: As) (hn : As.length = np) (hst : stk = As.reverse ++ .ref (adc 0) :: rest) (hsum : (rest.map fun v => v.category).sum ≤ 8) (hd : decode code pc = .ok (.invokevirtual index, 3)) (kk : GL p l e s mt b below meth c Q D cA adc adm nc ns mc' mm (pc + 3) lv (o.toList ++ rest)) : GL p l e s mt b below meth c Q D cA adc adm nc ns mc mm pc lv stk :=
  fun H locs ls hP hM hS hl => l_call C.1 C.2.1 C.2.2.1 C.2.2.2.1 C.2.2.2.2.1 C.2.2.2.2.2.1 C.2.2.2.2.2.2.1.1 C.2.2.2.2.2.2.2.1.1 C.2.2.2.2.2.2.2.1.2.2 C.2.2.2.2.2.2.2.2.1 C.2.2.2.2.2.2.2.2.2.1 hct cw cO_0 rfl hav hn hst hsum hd hP hM hS hl.1 (fun H1 locs1 h1 h2 h3 => kk H1 locs1 ls h1 h2 h3 hl)
theorem l_callM (C : CL p s mt b L xs c D cA adc adm nc ns tb) {mm' : MM} {y : MethodName} {bytes : ByteArray} {maxL index np : Nat} {ret : Option FieldType} {rm' : Room} {av : (Nat → Nat) → (Nat → Nat) → List Value} {o : Option Value} {As rest stk : List Value} (hct : CT l y bytes maxL ret rm' cfM 23 av mm o mm') (cw : CallW room_1 s #[Value.ref b] R_law RX6 index y bytes maxL ret (Cond.code y bytes maxL ret :: WL) rm' 0 0 np) (hav : av adm tb = .ref (adm 0) :: As) (hn : As.length = np) (hst : stk = As.reverse ++ .ref (adm 0) :: rest) (hsum : (rest.map fun v => v.category).sum ≤ 8) (hd : decode code pc = .ok (.invokevirtual index, 3)) (kk : GL p l e s mt b below meth c Q D cA adc adm nc ns mc mm' (pc + 3) lv (o.toList ++ rest)) : GL p l e s mt b below meth c Q D cA adc adm nc ns mc mm pc lv stk :=
  fun H locs ls hP hM hS hl => l_call C.1 C.2.1 C.2.2.1 C.2.2.2.1 C.2.2.2.2.1 C.2.2.2.2.2.1 C.2.2.2.2.2.2.1.2 C.2.2.2.2.2.2.2.1.2.1 (fun i j hi hj h => C.2.2.2.2.2.2.2.1.2.2 j i hj hi h.symm) C.2.2.2.2.2.2.2.2.1 C.2.2.2.2.2.2.2.2.2.1 hct cw mO_0 rfl hav hn hst hsum hd hM hP hS hl.1 (fun H1 locs1 h1 h2 h3 => kk H1 locs1 ls h2 h1 h3 hl)
end GLrows
