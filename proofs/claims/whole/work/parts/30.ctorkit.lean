/-! CONSTRUCTORS: a walk over an explicit list of cells -/
def GE (p : Program) (l : Launch) (e : Env) (R : Room) (s : State) (mt : MethodId) (args : Array Value) (below : List Frame) (meth : Method) (c : Code) (Q : State → Prop) (D : va_G) (A : Nat → Prop) (nL : Nat) (ws : va_W) (nc ns pc : Nat) (lv : List (Nat × Value)) (st : List Value) : Prop :=
  ∀ (H : Heap) (locs : List Loc) (ls : Array Slot), va_P D vwCl ws H → va_D A ws → va_S A s.heap H locs → lv_has ls nL lv → W p l e R s mt args below meth c H locs nc ns Q (F0 mt pc ls st)
def CE (p : Program) (s : State) (mt : MethodId) (args : Array Value) (c : Code) (cc : ByteArray) (own : String) (D : va_G) (cA : Nat → ClassId) (A : Nat → Prop) (nL : Nat) : Prop :=
  p.tables.exec = Jvm.exec ∧ c.code = cc ∧ c.maxLocals = nL ∧ s.vm.findClass own = some mt.cls ∧ (∀ w ∈ WL, w.before args s = true) ∧ va_K D vwCl (tyL cA) s ∧ ∀ q, s.heap.size ≤ q → A q
section GErows
variable {p : Program} {l : Launch} {e : Env} {R : Room} {s : State} {mt : MethodId} {args : Array Value} {below : List Frame} {meth : Method} {c : Code} {Q : State → Prop} {cc : ByteArray} {own : String} {D : va_G} {cA : Nat → ClassId} {A : Nat → Prop} {nL nc ns pc : Nat} {ws : va_W} {lv : List (Nat × Value)} {st : List Value}
theorem e_ws {ws' : va_W} (h : ws = ws') (k : GE p l e R s mt args below meth c Q D A nL ws' nc ns pc lv st) : GE p l e R s mt args below meth c Q D A nL ws nc ns pc lv st := h ▸ k
theorem e_lv {lv' : List (Nat × Value)} (h : lv = lv') (k : GE p l e R s mt args below meth c Q D A nL ws nc ns pc lv' st) : GE p l e R s mt args below meth c Q D A nL ws nc ns pc lv st := h ▸ k
theorem e_aload_n (C : CE p s mt args c cc own D cA A nL) {k : Fin 4} {i x : Nat} (hd : decode cc pc = .ok (.aload_n k, 1)) (hi : (k : Nat) = i) (q : Nat) (hq : lv[q]? = some (i, .ref x)) (kk : GE p l e R s mt args below meth c Q D A nL ws nc ns (pc + 1) lv (.ref x :: st)) : GE p l e R s mt args below meth c Q D A nL ws nc ns pc lv st :=
  fun H locs ls hP hD hS hl => lv_aload_n C.1 C.2.1 hd hi (lv_at hl q hq) (kk H locs ls hP hD hS hl)
theorem e_iload_n (C : CE p s mt args c cc own D cA A nL) {k : Fin 4} {i : Nat} {x : Int32} (hd : decode cc pc = .ok (.iload_n k, 1)) (hi : (k : Nat) = i) (q : Nat) (hq : lv[q]? = some (i, .int x)) (kk : GE p l e R s mt args below meth c Q D A nL ws nc ns (pc + 1) lv (.int x :: st)) : GE p l e R s mt args below meth c Q D A nL ws nc ns pc lv st :=
  fun H locs ls hP hD hS hl => lv_iload_n C.1 C.2.1 hd hi (lv_at hl q hq) (kk H locs ls hP hD hS hl)
theorem e_iconst (C : CE p s mt args c cc own D cA A nL) {i : Int} {v : Int32} (hd : decode cc pc = .ok (.iconst i, 1)) (hv : Int32.ofInt i = v) (kk : GE p l e R s mt args below meth c Q D A nL ws nc ns (pc + 1) lv (.int v :: st)) : GE p l e R s mt args below meth c Q D A nL ws nc ns pc lv st :=
  fun H locs ls hP hD hS hl => lv_iconst C.1 C.2.1 hd hv (kk H locs ls hP hD hS hl)
theorem e_bipush (C : CE p s mt args c cc own D cA A nL) {i : Int} {v : Int32} (hd : decode cc pc = .ok (.bipush i, 2)) (hv : (Int8.ofInt i).toInt32 = v) (kk : GE p l e R s mt args below meth c Q D A nL ws nc ns (pc + 2) lv (.int v :: st)) : GE p l e R s mt args below meth c Q D A nL ws nc ns pc lv st :=
  fun H locs ls hP hD hS hl => lv_bipush C.1 C.2.1 hd hv (kk H locs ls hP hD hS hl)
theorem e_sipush (C : CE p s mt args c cc own D cA A nL) {i : Int} {v : Int32} (hd : decode cc pc = .ok (.sipush i, 3)) (hv : (Int16.ofInt i).toInt32 = v) (kk : GE p l e R s mt args below meth c Q D A nL ws nc ns (pc + 3) lv (.int v :: st)) : GE p l e R s mt args below meth c Q D A nL ws nc ns pc lv st :=
  fun H locs ls hP hD hS hl => lv_sipush C.1 C.2.1 hd hv (kk H locs ls hP hD hS hl)
theorem e_dup (C : CE p s mt args c cc own D cA A nL) {va : Value} (hd : decode cc pc = .ok (.dup, 1)) (h1 : va.category = 1) (kk : GE p l e R s mt args below meth c Q D A nL ws nc ns (pc + 1) lv (va :: va :: st)) : GE p l e R s mt args below meth c Q D A nL ws nc ns pc lv (va :: st) :=
  fun H locs ls hP hD hS hl => lv_dup C.1 C.2.1 hd h1 (kk H locs ls hP hD hS hl)
theorem e_istore_n (C : CE p s mt args c cc own D cA A nL) {j : Fin 4} {i : Nat} {x : Int32} {lv' : List (Nat × Value)} (hd : decode cc pc = .ok (.istore_n j, 1)) (hi : (j : Nat) = i) (hn : i < nL) (hl' : (i, .int x) :: lv.filter (fun q => !(q.1 == i) && !(q.1 + 1 == i && q.2.category == 2)) = lv') (kk : GE p l e R s mt args below meth c Q D A nL ws nc ns (pc + 1) lv' st) : GE p l e R s mt args below meth c Q D A nL ws nc ns pc lv (.int x :: st) :=
  fun H locs ls hP hD hS hl => lv_istore_n C.1 C.2.1 hd hi hl hn hl' (fun ls' hl2 => kk H locs ls' hP hD hS hl2)
theorem e_iinc (C : CE p s mt args c cc own D cA A nL) {i q : Nat} {d : Int} {x v : Int32} {lv' : List (Nat × Value)} (hd : decode cc pc = .ok (.iinc i d, 3)) (hq : lv[q]? = some (i, .int x)) (hn : i < nL) (hv : x + Int32.ofInt d = v) (hl' : (i, .int v) :: lv.filter (fun q => !(q.1 == i) && !(q.1 + 1 == i && q.2.category == 2)) = lv') (kk : GE p l e R s mt args below meth c Q D A nL ws nc ns (pc + 3) lv' st) : GE p l e R s mt args below meth c Q D A nL ws nc ns pc lv st :=
  fun H locs ls hP hD hS hl => lv_iinc C.1 C.2.1 hd hl hq hv hn hl' (fun ls' hl2 => kk H locs ls' hP hD hS hl2)
theorem e_goto (C : CE p s mt args c cc own D cA A nL) {off : Int} {tgt : Nat} (hd : decode cc pc = .ok (.goto off, 3)) (ht : (pc : Int) + off = (tgt : Int)) (kk : GE p l e R s mt args below meth c Q D A nL ws nc ns tgt lv st) : GE p l e R s mt args below meth c Q D A nL ws nc ns pc lv st :=
  fun H locs ls hP hD hS hl => lv_goto C.1 C.2.1 hd ht (kk H locs ls hP hD hS hl)
theorem e_geT (C : CE p s mt args c cc own D cA A nL) {x y : Int32} {off : Int} {tgt : Nat} (hd : decode cc pc = .ok (.if_icmp .ge off, 3)) (ht : (pc : Int) + off = (tgt : Int)) (hc : y ≤ x) (kk : GE p l e R s mt args below meth c Q D A nL ws nc ns tgt lv st) : GE p l e R s mt args below meth c Q D A nL ws nc ns pc lv (.int y :: .int x :: st) :=
  fun H locs ls hP hD hS hl => lv_icmp_ge C.1 C.2.1 hd ht (fun _ => kk H locs ls hP hD hS hl) (fun h => absurd hc h)
theorem e_geF (C : CE p s mt args c cc own D cA A nL) {x y : Int32} {off : Int} {tgt : Nat} (hd : decode cc pc = .ok (.if_icmp .ge off, 3)) (ht : (pc : Int) + off = (tgt : Int)) (hc : ¬ y ≤ x) (kk : GE p l e R s mt args below meth c Q D A nL ws nc ns (pc + 3) lv st) : GE p l e R s mt args below meth c Q D A nL ws nc ns pc lv (.int y :: .int x :: st) :=
  fun H locs ls hP hD hS hl => lv_icmp_ge C.1 C.2.1 hd ht (fun h => absurd h hc) (fun _ => kk H locs ls hP hD hS hl)
theorem e_obj (C : CE p s mt args c cc own D cA A nL) {a idx : Nat} (hlk : Cond.methodLink own idx objectInit ∈ WL) (hin : Cond.instanceMethod objectInit ∈ WL) (hcd : Cond.code objectInit ⟨#[0xb1]⟩ 1 none ∈ WL) (hR : 1 ≤ R.frames ∧ 20 ≤ R.locals) (hsum : (st.map fun v => v.category).sum ≤ 8) (hd : decode cc pc = .ok (.invokespecial idx, 3)) (kk : GE p l e R s mt args below meth c Q D A nL ws nc ns (pc + 3) lv st) : GE p l e R s mt args below meth c Q D A nL ws nc ns pc lv (.ref a :: st) := by
  intro H locs ls hP hD hS hl
  refine W.objInit C.1 C.2.1 C.2.2.2.1 (C.2.2.2.2.1 _ hlk) (C.2.2.2.2.1 _ hin) (C.2.2.2.2.1 _ hcd) rfl (by rw [C.2.2.1]; exact hl.1) rfl hd hR.1 (by have := hR.2; show 2 * 0 + _ + 12 ≤ _; omega) ?_
  exact kk H locs ls hP hD hS hl
theorem e_vret {S : Type} {post : S → Prop} {B : S → State → Prop} (C : CE p s mt args c cc own D cA A nL) (hr : meth.sig.returnType = none) (hlk : meth.locks = false) (u : S) (hp : post u) (hB : ∀ (H : Heap) (t : State), va_P D vwCl ws H → va_D A ws → t.heap = H → s.WarmedH t.vm → B u t) (hd : decode cc pc = .ok (.return_, 1)) : GE p l e R s mt args below meth c (MQ below (va_Qv post B A) args s nc ns A) D A nL ws nc ns pc lv [] :=
  fun H locs ls hP hD hS hl => W.vret C.1 C.2.1 hr (fun t ht hW => ⟨⟨u, rfl, hp, hB H t hP hD ht hW⟩, hS.F ht⟩) hS.2.2 hd hlk
theorem arr_same {cA : Nat → ClassId} {ty : FieldType} {t : Nat} {c' : ClassId} (hK : va_K D vwCl (tyL cA) s) (ht : (tyL cA)[t]? = some (cA t, ty)) (hp : refKind ty = false) (hK2 : va_K D vwCl (tyL cA ++ [(c', ty)]) s) : c' = cA t := by
  have h1 := (hK.2 t _ ht).2
  have h2 := (hK2.2 5 (c', ty) rfl).2
  cases ty with
  | object C => cases hp
  | array t => cases hp
  | _ => exact Option.some.inj (h2.symm.trans h1)
theorem e_newa (C : CE p s mt args c cc own D cA A nL) {atype : ArrayType} {ty : FieldType} (t : Nat) (ht : (tyL cA)[t]? = some (cA t, ty)) (hty : newarray.typeOf atype = ty) (hpr : refKind ty = false) (harr : Cond.arrayClass (newarray.typeOf atype) ∈ WL) {k : Int32} {N : Nat} {a0 : vp_A} (ha : ∀ c1 : ClassId, vp_cell c1 a0 = arrV c1 N (fun _ => defaultValue ty)) (hn : ¬ k < 0) (hN : k.toNatClampNeg = N) (hbytes : N * componentBytes ty ≤ 536870912) (hc : nc + 1 ≤ R.cells) (hs : ns + N ≤ R.slots) (hd : decode cc pc = .ok (.newarray atype, 2)) (kk : ∀ q : Nat, GE p l e R s mt args below meth c Q D A nL (ws ++ [(q, .inl (cA t, a0))]) (nc + 1) (ns + N) (pc + 2) lv (.ref q :: st)) : GE p l e R s mt args below meth c Q D A nL ws nc ns pc lv (.int k :: st) := by
  intro H locs ls hP hD hS hl
  refine va_newa C.1 C.2.1 (C.2.2.2.2.1 _ harr) hty C.2.2.2.2.2.1 hP hD hS C.2.2.2.2.2.2 ha hn hN hbytes hc hs hd (fun q c1 H1 hK1 hP1 hD1 hS1 => ?_)
  have e1 := arr_same C.2.2.2.2.2.1 ht hpr hK1
  subst e1
  exact kk q H1 locs ls hP1 hD1 hS1 hl
theorem e_put (C : CE p s mt args c cc own D cA A nL) {a ci N j index : Nat} {Cn : String} {T : u_T} (hcl : ∀ w ∈ u_ws Cn T N, w.before args s = true) (q0 : Nat) {fs : List Value} (he : ws[q0]? = some (a, .inr (ci, fs))) (hc : vwCl[ci]? = some (Cn, T, N)) (hj : j < N) (hlk : Cond.fieldLink own index (T j).1 (T j).2.1 (T j).2.2.1 ∈ WL) (ty0 : Nat → FieldType) (hty : ∀ k, k < N → parseFieldDescriptor (T k).2.2.1 = some (ty0 k)) (hnm : ∀ a, a < N → ∀ b, b < N → a ≠ b → (T a).2.1 ≠ (T b).2.1) (hfin : (T j).2.2.2 = false) {v : Value} (hn : narrow (ty0 j) v = v) (hfit : fits (ty0 j) v = true) (hlen : j < fs.length) (hd : decode cc pc = .ok (.putfield index, 3)) {ws' : va_W} (hw : ws.set q0 (a, .inr (ci, fs.set j v)) = ws') (kk : GE p l e R s mt args below meth c Q D A nL ws' nc ns (pc + 3) lv st) : GE p l e R s mt args below meth c Q D A nL ws nc ns pc lv (v :: .ref a :: st) := by
  subst hw
  exact fun H locs ls hP hD hS hl => va_put C.1 C.2.1 hcl (fun _ h => h) ty0 hty hnm C.2.2.2.1 C.2.2.2.2.2.1 hP hD hS q0 he hc j hj (C.2.2.2.2.1 _ hlk) (fun _ h => h) hfin (hty j hj) hn hfit hlen hd (fun H1 locs1 hP1 hD1 hS1 => kk H1 locs1 ls hP1 hD1 hS1 hl)
theorem e_putF (C : CE p s mt args c cc own D cA A nL) {a ci N j index : Nat} {Cn : String} {T : u_T} (hcl : ∀ w ∈ u_ws Cn T N, w.before args s = true) (q0 : Nat) {fs : List Value} (he : ws[q0]? = some (a, .inr (ci, fs))) (hc : vwCl[ci]? = some (Cn, T, N)) (hj : j < N) (hlk : Cond.fieldLink own index (T j).1 (T j).2.1 (T j).2.2.1 ∈ WL) (ty0 : Nat → FieldType) (hty : ∀ k, k < N → parseFieldDescriptor (T k).2.2.1 = some (ty0 k)) (hnm : ∀ a, a < N → ∀ b, b < N → a ≠ b → (T a).2.1 ≠ (T b).2.1) (hfin : (T j).2.2.2 = true) (hin : meth.name = "<init>") (hdecl : (T j).1 = own) {v : Value} (hn : narrow (ty0 j) v = v) (hfit : fits (ty0 j) v = true) (hlen : j < fs.length) (hd : decode cc pc = .ok (.putfield index, 3)) {ws' : va_W} (hw : ws.set q0 (a, .inr (ci, fs.set j v)) = ws') (kk : GE p l e R s mt args below meth c Q D A nL ws' nc ns (pc + 3) lv st) : GE p l e R s mt args below meth c Q D A nL ws nc ns pc lv (v :: .ref a :: st) := by
  subst hw
  exact fun H locs ls hP hD hS hl => va_putF C.1 C.2.1 hcl (fun _ h => h) ty0 hty hnm C.2.2.2.1 C.2.2.2.2.2.1 hP hD hS q0 he hc j hj (C.2.2.2.2.1 _ hlk) (fun _ h => h) hfin hin hdecl (hty j hj) hn hfit hlen hd (fun H1 locs1 hP1 hD1 hS1 => kk H1 locs1 ls hP1 hD1 hS1 hl)
theorem e_get (C : CE p s mt args c cc own D cA A nL) {a ci N j index : Nat} {Cn : String} {T : u_T} (hcl : ∀ w ∈ u_ws Cn T N, w.before args s = true) (q0 : Nat) {fs : List Value} (he : ws[q0]? = some (a, .inr (ci, fs))) (hc : vwCl[ci]? = some (Cn, T, N)) (hj : j < N) (hlk : Cond.fieldLink own index (T j).1 (T j).2.1 (T j).2.2.1 ∈ WL) {v : Value} (hv : fs[j]? = some v) (hd : decode cc pc = .ok (.getfield index, 3)) (kk : GE p l e R s mt args below meth c Q D A nL ws nc ns (pc + 3) lv (v :: st)) : GE p l e R s mt args below meth c Q D A nL ws nc ns pc lv (.ref a :: st) :=
  fun H locs ls hP hD hS hl => va_get C.1 C.2.1 hcl (fun _ h => h) C.2.2.2.1 C.2.2.2.2.2.1 hP q0 he hc j hj (C.2.2.2.2.1 _ hlk) (fun _ h => h) hv hd (kk H locs ls hP hD hS hl)
theorem e_new (C : CE p s mt args c cc own D cA A nL) {ci N index : Nat} {Cn : String} {T : u_T} (hcl : ∀ w ∈ u_ws Cn T N, w.before args s = true) (ty0 : Nat → FieldType) (hty : ∀ k, k < N → parseFieldDescriptor (T k).2.2.1 = some (ty0 k)) (hcln : Cond.classLink own index Cn ∈ WL) (hins : Cond.instantiable Cn N ∈ WL) (hini : Cond.initialized Cn ∈ WL) (hc : vwCl[ci]? = some (Cn, T, N)) {fs : List Value} (hfs : ∀ j, j < N → defaultValue (ty0 j) = vp_V fs j) (hcc : nc + 1 ≤ R.cells) (hs : ns + N ≤ R.slots) (hd : decode cc pc = .ok (.new index, 3)) (kk : ∀ q : Nat, GE p l e R s mt args below meth c Q D A nL (ws ++ [(q, .inr (ci, fs))]) (nc + 1) (ns + N) (pc + 3) lv (.ref q :: st)) : GE p l e R s mt args below meth c Q D A nL ws nc ns pc lv st :=
  fun H locs ls hP hD hS hl => va_new C.1 C.2.1 hcl (fun _ h => h) ty0 hty C.2.2.2.1 (C.2.2.2.2.1 _ hcln) (C.2.2.2.2.1 _ hins) (C.2.2.2.2.1 _ hini) C.2.2.2.2.2.1 hP hD hS C.2.2.2.2.2.2 hc hfs hcc hs hd (fun q H1 hP1 hD1 hS1 => kk q H1 locs ls hP1 hD1 hS1 hl)
end GErows
/-- a constructor's contract: the object at h0 with the fields fs0 becomes the cells nw q, for some addresses q -/
def CI (l : Launch) (y : MethodName) (cc : ByteArray) (maxL : Nat) (rm : Room) (ci : Nat) (fs0 : List Value) (nw : (Nat → ClassId) → Nat → (Nat → Nat) → va_W) (mc ms : Nat) : Prop :=
  ∀ (D : va_G) (cA : Nat → ClassId) (h0 sz : Nat), Met l y (Cond.code y cc maxL none :: WL) rm (va_Pc [.ref h0] (fun U => U.heap.size = sz ∧ va_P D vwCl [(h0, .inr (ci, fs0))] U.heap ∧ va_K D vwCl (tyL cA) U)) (va_Qv (fun _ : Nat → Nat => True) (fun q t => va_P D vwCl (nw cA h0 q) t.heap ∧ va_D (va_A [(h0, .inr (ci, fs0))] sz) (nw cA h0 q)) (va_A [(h0, .inr (ci, fs0))] sz)) mc ms (va_A [(h0, .inr (ci, fs0))] sz)
theorem va_D1 {A : Nat → Prop} {q : Nat × va_E} (h : A q.1) : va_D A [q] := by
  refine ⟨fun i j p r hi hj _ => ?_, fun k r hk => ?_⟩
  · have h1 := (List.getElem?_eq_some_iff.mp hi).1
    have h2 := (List.getElem?_eq_some_iff.mp hj).1
    simp only [List.length_cons, List.length_nil] at h1 h2
    omega
  · have h1 := (List.getElem?_eq_some_iff.mp hk).1
    simp only [List.length_cons, List.length_nil] at h1
    have h2 : k = 0 := by omega
    subst h2
    cases hk
    exact h
theorem CI.of {l : Launch} {y : MethodName} {cc : ByteArray} {maxL : Nat} {rm : Room} {ci : Nat} {fs0 : List Value} {nw : (Nat → ClassId) → Nat → (Nat → Nat) → va_W} {mc ms : Nat} (hy : plainName y.cls = true) (hin : y.name = "<init>") (hm : 1 ≤ maxL)
    (body : ∀ (p : Program) (e : Env) (s : State) (mt : MethodId) (args : Array Value) (below : List Frame) (meth : Method) (c : Code) (D : va_G) (cA : Nat → ClassId) (h0 : Nat) (A : Nat → Prop), CE p s mt args c cc y.cls D cA A maxL → meth.sig.returnType = none → meth.locks = false → meth.name = "<init>" →
      GE p l e rm s mt args below meth c (MQ below (va_Qv (fun _ : Nat → Nat => True) (fun q t => va_P D vwCl (nw cA h0 q) t.heap ∧ va_D A (nw cA h0 q)) A) args s mc ms A) D A maxL [(h0, .inr (ci, fs0))] 0 0 0 [(0, .ref h0)] []) : CI l y cc maxL rm ci fs0 nw mc ms := by
  intro D cA h0 sz
  refine Met.ofW (cc := cc) (maxL := maxL) (ret := none) hy rfl ?_
  intro p e s mt args below meth c s₁ B hml hv
  obtain ⟨hargs, hsz, hP, hK⟩ := hv
  subst hargs
  subst hsz
  rw [lg_entry_eq]
  have hl := lv_entry [.ref h0] (n := maxL) hm
  exact body p e s mt _ below meth c D cA h0 (va_A [(h0, .inr (ci, fs0))] s.heap.size) ⟨B.exec, B.bytes, hml, findClass_of_methodNamed B.named, fun w hw => atoms_spec (ws := Cond.code y cc maxL none :: WL) B.pre w (List.mem_cons_of_mem _ hw), hK, fun q h => Or.inr h⟩ B.returns B.notSynchronized ((name_of_methodNamed B.named B.method).1.trans hin) s.heap [] _ hP (va_D1 (Or.inl ⟨0, _, rfl⟩)) va_S.rf hl
section GEcalls
variable {p : Program} {l : Launch} {e : Env} {R : Room} {s : State} {mt : MethodId} {args : Array Value} {below : List Frame} {meth : Method} {c : Code} {Q : State → Prop} {cc : ByteArray} {own : String} {D : va_G} {cA : Nat → ClassId} {A : Nat → Prop} {nL nc ns pc : Nat} {ws : va_W} {lv : List (Nat × Value)} {st : List Value}
theorem e_callI (C : CE p s mt args c cc own D cA A nL) {y : MethodName} {bytes : ByteArray} {maxL' : Nat} {rm' : Room} {ci : Nat} {fs0 : List Value} {nw : (Nat → ClassId) → Nat → (Nat → Nat) → va_W} {mc ms : Nat} (hci : CI l y bytes maxL' rm' ci fs0 nw mc ms) {a index : Nat} {host : String} (hnest : va_Nw (.methodLinkNest own index y host) s) (hini : Cond.initialized y.cls ∈ WL) (hins : Cond.instanceMethod y ∈ WL) (hcode : Cond.code y bytes maxL' none ∈ WL) (hy1 : y.name = "<init>") (hd0 : y.cls ≠ "java/lang/invoke/MethodHandle" ∧ y.cls ≠ "java/lang/invoke/VarHandle" ∧ (parseMethodDescriptor y.desc).map (fun d => d.parameters.length) = some 0) (hrc : rm'.cells = mc) (hrs : rm'.slots = ms) (hR : rm'.frames + 1 ≤ R.frames ∧ 8 + (maxL' + 11) + rm'.locals ≤ R.locals) (q0 : Nat) (isR : List Nat) {wr : va_W} (hC : [q0].map (fun i => ws[i]?) = [(a, (.inr (ci, fs0) : va_E))].map some) (hRr : isR.map (fun i => ws[i]?) = wr.map some) (hn : va_nd isR = true) (hdis : ∀ i ∈ isR, i ∉ [q0]) (hsum : (st.map fun v => v.category).sum ≤ 8) (hd : decode cc pc = .ok (.invokespecial index, 3)) (hcs : nc + mc ≤ R.cells ∧ ns + ms ≤ R.slots) (kk : ∀ q : Nat → Nat, GE p l e R s mt args below meth c Q D A nL (wr ++ nw cA a q) (nc + mc) (ns + ms) (pc + 3) lv st) : GE p l e R s mt args below meth c Q D A nL ws nc ns pc lv (.ref a :: st) := by
  intro H locs ls hP hD hS hl
  have hC1 : ws[q0]? = some (a, (.inr (ci, fs0) : va_E)) := by
    have h9 := congrArg List.head? hC
    simpa using h9
  have hPc := hP.sub (ws' := [(a, (.inr (ci, fs0) : va_E))]) [q0] (by simp [hC1])
  have hFc := va_free (wc := [(a, (.inr (ci, fs0) : va_E))]) hD hS C.2.2.2.2.2.2 [q0] hC
  refine va_callv (va_runIN (As := []) (rest := st) ⟨C.1, C.2.1, C.2.2.1, C.2.2.2.1, C.2.2.2.2.1⟩ (hci D cA a H.size) ⟨va_cnB 0 C.2.2.2.2.1 (wl_ws hcode) rfl hrc hrs hnest (C.2.2.2.2.1 _ hini) hd0 hR, hy1, C.2.2.2.2.1 _ hins⟩ ⟨fun a U g mk q => ⟨q.1, q.2.1, q.2.2.1, va_K.moved (u := U) (U := U.calling g mk a) (Vm.Alike.refl U.vm) q.2.2.2⟩, fun U hU hW => ⟨rfl, by rw [hU], by rw [hU]; exact hPc, va_K.moved hW.alike C.2.2.2.2.2.1⟩⟩ rfl rfl hl.1 rfl (lv_room hsum) hd hcs) hS (fun q _ h => hFc q h) hFc (fun u t H1 locs1 ht hvm hw hB hz1 hk1 hS1 => ?_)
  obtain ⟨hP1, hD1⟩ := hB
  rw [ht] at hP1
  obtain ⟨hP2, hD2⟩ := va_join hP hD [q0] isR hC hRr hn hdis hk1 hFc hP1 hD1
  exact kk u H1 locs1 ls hP2 hD2 hS1 hl
end GEcalls
/-! from the explicit list over to the world of regions, within a constructor -/
theorem W.mono {p : Program} {l : Launch} {e : Env} {R : Room} {s : State} {mt : MethodId} {args : Array Value} {below : List Frame} {meth : Method} {c : Code} {H : Heap} {locs : List Loc} {nc ns : Nat} {Q1 Q2 : State → Prop} {g : JFrame} (h : ∀ t, Q1 t → Q2 t) (k : W p l e R s mt args below meth c H locs nc ns Q1 g) : W p l e R s mt args below meth c H locs nc ns Q2 g := by
  intro T hT X
  obtain ⟨t, a, b⟩ := k T hT X
  exact ⟨t, a, h t b⟩
section GEtoGG
variable {p : Program} {l : Launch} {e : Env} {R : Room} {s : State} {mt : MethodId} {args : Array Value} {below : List Frame} {meth : Method} {c : Code} {cc : ByteArray} {own : String} {D : va_G} {cA : Nat → ClassId} {A : Nat → Prop} {nL nc ns pc : Nat} {lv : List (Nat × Value)} {st : List Value}
/-- what a constructor of the system leaves: the world of regions, at addresses of its own -/
def QJ (D : va_G) (cA : Nat → ClassId) (cf : CF) (n : Nat) (m' : MM) (A : Nat → Prop) (h0 : Nat) : Array Value → State → Outcome → State → Prop := va_Qv (fun ad : Nat → Nat => AP ad n ∧ ad 0 = h0) (fun ad t => va_P D vwCl (WD cf n cA ad m') t.heap ∧ ∀ k, k < n → A (ad k)) A
theorem e_toG {cf : CF} {n h0 : Nat} {ad : Nat → Nat} {tb : Nat → Nat} {m m' : MM} (C : CE p s mt args c cc own D cA A nL) (hroom : nc ≤ R.cells ∧ ns ≤ R.slots) (hX : SX tb A s s.heap) (had0 : ad 0 = h0) (hA : ∀ q, A q → AA ad n s.heap.size q) (k : CX p R s mt args c cc own D cA ad n nL nc ns tb → GG p l e R s mt args below meth c (MQ below (QF D cA ad cf n none m' s.heap.size) args s nc ns (AA ad n s.heap.size)) D cA ad cf n nL nc ns m pc lv st) : GE p l e R s mt args below meth c (MQ below (QJ D cA cf n m' A h0) args s nc ns A) D A nL (WD cf n cA ad m) nc ns pc lv st := by
  intro H locs ls hP hD hS hl
  have hin : ∀ k, k < n → A (ad k) := fun k hk => hD.2 k _ (WD_at hk)
  have hap : AP ad n := fun i j hi hj h => hD.1 i j _ _ (WD_at hi) (WD_at hj) h
  have hAA : ∀ q, AA ad n s.heap.size q → A q := by
    intro q hq
    rcases hq with ⟨k, hk, rfl⟩ | hq
    · exact hin k hk
    · exact C.2.2.2.2.2.2 q hq
  have hX2 : SX tb (AA ad n s.heap.size) s s.heap := ⟨fun k hk => ⟨(hX.1 k hk).1.narrow hAA, (hX.1 k hk).2.narrow hAA⟩, hX.2.1, ⟨hX.2.2.1.narrow hAA, hX.2.2.2.1, hX.2.2.2.2.1.narrow hAA, hX.2.2.2.2.2.narrow hAA⟩⟩
  refine W.mono (fun t ht => ?_) (k ⟨C.1, C.2.1, C.2.2.1, C.2.2.2.1, C.2.2.2.2.1, C.2.2.2.2.2.1, hap, hX2, hroom⟩ H locs ls hP ⟨hS.1, fun q h1 h2 => hS.2.1 q h1 (fun z => h2 (hA q z)), fun q hq => hA _ (hS.2.2 q hq)⟩ hl)
  obtain ⟨o, h1, h2, ⟨⟨h3, h4⟩, h5, h6⟩, L, h7, h8⟩ := ht
  exact ⟨o, h1, h2, ⟨⟨ad, h3, ⟨hap, had0⟩, h4, hin⟩, h5, fun q g1 g2 => h6 q g1 (fun z => g2 (hAA q z))⟩, L, h7, fun q hq => hAA _ (h8 q hq)⟩
theorem e_perm (is : List Nat) {p : Program} {l : Launch} {e : Env} {R : Room} {s : State} {mt : MethodId} {args : Array Value} {below : List Frame} {meth : Method} {c : Code} {Q : State → Prop} {ws ws' : va_W} (hf : is.filterMap (fun i => ws[i]?) = ws') (hm : is.map (fun i => ws[i]?) = ws'.map some) (hn : va_nd is = true) (k : GE p l e R s mt args below meth c Q D A nL ws' nc ns pc lv st) : GE p l e R s mt args below meth c Q D A nL ws nc ns pc lv st :=
  fun H locs ls hP hD hS hl => k H locs ls (hP.sub is hf) (hD.sub is hn hm) hS hl
end GEtoGG
/-- a constructor of the system: from the object at h0 (fields fs0) to the world of regions with the memory m' -/
def CJ (l : Launch) (y : MethodName) (cc : ByteArray) (maxL : Nat) (rm : Room) (cf : CF) (n ci : Nat) (fs0 : List Value) (m' : MM) (mc ms : Nat) (ex : State → Prop) : Prop :=
  ∀ (D : va_G) (cA : Nat → ClassId) (tb : Nat → Nat) (h0 sz : Nat), Met l y (Cond.code y cc maxL none :: WL) rm (va_Pc [.ref h0] (fun U => U.heap.size = sz ∧ va_P D vwCl [(h0, .inr (ci, fs0))] U.heap ∧ va_K D vwCl (tyL cA) U ∧ SX tb (va_A [(h0, .inr (ci, fs0))] sz) U U.heap ∧ ex U)) (QJ D cA cf n m' (va_A [(h0, .inr (ci, fs0))] sz) h0) mc ms (va_A [(h0, .inr (ci, fs0))] sz)
theorem CJ.of {l : Launch} {y : MethodName} {cc : ByteArray} {maxL : Nat} {rm : Room} {cf : CF} {n ci : Nat} {fs0 : List Value} {m' : MM} {mc ms : Nat} {ex : State → Prop} (hy : plainName y.cls = true) (hin : y.name = "<init>") (hm : 1 ≤ maxL)
    (body : ∀ (p : Program) (e : Env) (s : State) (mt : MethodId) (args : Array Value) (below : List Frame) (meth : Method) (c : Code) (D : va_G) (cA : Nat → ClassId) (tb : Nat → Nat) (h0 : Nat) (A : Nat → Prop), CE p s mt args c cc y.cls D cA A maxL → meth.sig.returnType = none → meth.locks = false → meth.name = "<init>" → (∀ q, A q ↔ q = h0 ∨ s.heap.size ≤ q) → SX tb A s s.heap → ex s →
      GE p l e rm s mt args below meth c (MQ below (QJ D cA cf n m' A h0) args s mc ms A) D A maxL [(h0, .inr (ci, fs0))] 0 0 0 [(0, .ref h0)] []) : CJ l y cc maxL rm cf n ci fs0 m' mc ms ex := by
  intro D cA tb h0 sz
  refine Met.ofW (cc := cc) (maxL := maxL) (ret := none) hy rfl ?_
  intro p e s mt args below meth c s₁ B hml hv
  obtain ⟨hargs, hsz, hP, hK, hX, hex⟩ := hv
  subst hargs
  subst hsz
  rw [lg_entry_eq]
  have hl := lv_entry [.ref h0] (n := maxL) hm
  refine body p e s mt _ below meth c D cA tb h0 (va_A [(h0, .inr (ci, fs0))] s.heap.size) ⟨B.exec, B.bytes, hml, findClass_of_methodNamed B.named, fun w hw => atoms_spec (ws := Cond.code y cc maxL none :: WL) B.pre w (List.mem_cons_of_mem _ hw), hK, fun q h => Or.inr h⟩ B.returns B.notSynchronized ((name_of_methodNamed B.named B.method).1.trans hin) (fun q => ⟨fun h => ?_, fun h => ?_⟩) hX hex s.heap [] _ hP (va_D1 (Or.inl ⟨0, _, rfl⟩)) va_S.rf hl
  · rcases h with ⟨k, e2, h⟩ | h
    · have h1 := (List.getElem?_eq_some_iff.mp h).1
      simp only [List.length_cons, List.length_nil] at h1
      have h2 : k = 0 := by omega
      subst h2
      cases h
      exact Or.inl rfl
    · exact Or.inr h
  · rcases h with rfl | h
    · exact Or.inl ⟨0, _, rfl⟩
    · exact Or.inr h
section GEq
variable {p : Program} {l : Launch} {e : Env} {R : Room} {s : State} {mt : MethodId} {args : Array Value} {below : List Frame} {meth : Method} {c : Code} {Q : State → Prop} {cc : ByteArray} {own : String} {D : va_G} {cA : Nat → ClassId} {A : Nat → Prop} {nL nc ns pc : Nat} {ws : va_W} {lv : List (Nat × Value)} {st : List Value}
theorem arrV_ext {c1 : ClassId} {n : Nat} {f g : Nat → Value} (h : ∀ j, j < n → f j = g j) : arrV c1 n f = arrV c1 n g := by
  have e : (fun j : Fin n => f j.val) = (fun j : Fin n => g j.val) := funext fun j => h j.val j.isLt
  unfold arrV
  rw [e]
theorem e_arrq (k0 : Nat) {a n : Nat} {c1 : ClassId} {f f' : Nat → Option Nat} (he : ws[k0]? = some (a, .inl (c1, n, .inr (.inr (.inr (.inr f)))))) (hf : ∀ j, j < n → f j = f' j) {ws' : va_W} (hw : ws.set k0 (a, .inl (c1, n, .inr (.inr (.inr (.inr f'))))) = ws') (kk : GE p l e R s mt args below meth c Q D A nL ws' nc ns pc lv st) : GE p l e R s mt args below meth c Q D A nL ws nc ns pc lv st := by
  subst hw
  intro H locs ls hP hD hS hl
  refine kk H locs ls (fun k q hq => ?_) (hD.set he) hS hl
  by_cases hk : k0 = k
  · subst hk
    rw [List.getElem?_set_self (List.getElem?_eq_some_iff.mp he).1] at hq
    cases hq
    have h1 : H[a]? = some (vp_cell c1 (n, .inr (.inr (.inr (.inr f))))) := hP k0 _ he
    show H[a]? = some (vp_cell c1 (n, .inr (.inr (.inr (.inr f')))))
    rw [h1, vp_cell_q, vp_cell_q]
    exact congrArg some (arrV_ext (fun j hj => by rw [hf j hj]))
  · rw [List.getElem?_set_ne hk] at hq
    exact hP k q hq
theorem e_newq (C : CE p s mt args c cc own D cA A nL) (t : Nat) {Cn : String} {index : Nat} (hcl : Cond.classLink own index Cn ∈ WL) (hAO : va_AO Cn s) (ht : (tyL cA)[t]? = some (cA t, .object Cn)) {k : Int32} {N : Nat} (hbytes : N * 4 ≤ 536870912) (hn : ¬ k < 0) (hN : k.toNatClampNeg = N) (hc : nc + 1 ≤ R.cells) (hs : ns + N ≤ R.slots) (hd : decode cc pc = .ok (.anewarray index, 3)) (kk : ∀ q : Nat, GE p l e R s mt args below meth c Q D A nL (ws ++ [(q, .inl (cA t, N, .inr (.inr (.inr (.inr (fun _ => none))))))]) (nc + 1) (ns + N) (pc + 3) lv (.ref q :: st)) : GE p l e R s mt args below meth c Q D A nL ws nc ns pc lv (.int k :: st) := by
  intro H locs ls hP hD hS hl
  refine va_newq C.1 C.2.1 C.2.2.2.1 (C.2.2.2.2.1 _ hcl) hAO C.2.2.2.2.2.1 hP hD hS C.2.2.2.2.2.2 hn hN hbytes hc hs hd (fun q c1 H1 hK1 hP1 hD1 hS1 => ?_)
  have h1 := (C.2.2.2.2.2.1.2 t _ ht).2
  have h2 := (hK1.2 5 (c1, .object Cn) rfl).2
  obtain ⟨_, _, _, _, _, h3⟩ := h1
  obtain ⟨_, _, _, _, _, h4⟩ := h2
  have e1 : c1 = cA t := Option.some.inj (h4.symm.trans h3)
  subst e1
  exact kk q H1 locs ls hP1 hD1 hS1 hl
theorem e_aast (C : CE p s mt args c cc own D cA A nL) (q0 t qk : Nat) {a v n ci : Nat} {r : vw_C} {vs : List Value} {f : Nat → Option Nat} (he : ws[q0]? = some (a, .inl (cA t, n, .inr (.inr (.inr (.inr f)))))) (ht : (tyL cA)[t]? = some (cA t, .object r.1)) (hv : ws[qk]? = some (v, .inr (ci, vs))) (hci : vwCl[ci]? = some r) {i : Int32} (hin : 0 ≤ i ∧ i.toNatClampNeg < n) (hd : decode cc pc = .ok (.aastore, 1)) {ws' : va_W} (hw : ws.set q0 (a, .inl (cA t, n, .inr (.inr (.inr (.inr (va_up f i.toNatClampNeg (some v))))))) = ws') (kk : GE p l e R s mt args below meth c Q D A nL ws' nc ns (pc + 1) lv st) : GE p l e R s mt args below meth c Q D A nL ws nc ns pc lv (.ref v :: .int i :: .ref a :: st) := by
  subst hw
  exact fun H locs ls hP hD hS hl => va_astq C.1 C.2.1 C.2.2.2.2.2.1 hP hD hS q0 t qk ci he ht hv hci (fun q => q.elim (fun z => Int32.not_lt.mpr hin.1 z) (fun z => absurd hin.2 (Nat.not_lt.mpr z))) hd (fun H1 locs1 hP1 hD1 hS1 => kk H1 locs1 ls hP1 hD1 hS1 hl)
end GEq
