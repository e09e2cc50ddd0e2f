/-! PURE WORDS: a memory of regions; what a method's pure function is made of -/
abbrev MM : Type := (Nat → Nat → Int32) × (Nat → Nat → Int64)
def rI (m : MM) (k i : Nat) : Int32 := m.1 k i
def rL (m : MM) (k i : Nat) : Int64 := m.2 k i
def wI (m : MM) (k i : Nat) (v : Int32) : MM := (fun q => if q = k then upd (m.1 k) i v else m.1 q, m.2)
def wL (m : MM) (k i : Nat) (v : Int64) : MM := (m.1, fun q => if q = k then vp_updL (m.2 k) i v else m.2 q)
def wA (m : MM) (k : Nat) (f : Nat → Int32) : MM := (fun q => if q = k then f else m.1 q, m.2)
abbrev ix (i : Int32) : Nat := i.toNatClampNeg
def inB (i : Int32) (n : Nat) : Bool := decide (0 ≤ i) && decide (i.toNatClampNeg < n)
def bz (x : Int32) : Bool := x == 0 || x == 1
def nz (x : Int32) : Bool := !(x == 0)
def nzL (x : Int64) : Bool := !(x == 0)
def remI (x y : Int32) : Int32 := x - x / y * y
def remL (x y : Int64) : Int64 := x - x / y * y
def shlI (x y : Int32) : Int32 := x <<< (y &&& 31)
def shrI (x y : Int32) : Int32 := x >>> (y &&& 31)
def ushI (x y : Int32) : Int32 := (x.toUInt32 >>> (y.toUInt32 &&& Int32.toUInt32 31)).toInt32
def maxI (x y : Int32) : Int32 := if x < y then y else x
def minI (x y : Int32) : Int32 := if y < x then y else x
def cpyOk (i j n : Int32) (a b : Nat) : Bool := decide (0 ≤ i) && (decide (0 ≤ j) && (decide (0 ≤ n) && (decide (i.toNatClampNeg + n.toNatClampNeg ≤ a) && decide (j.toNatClampNeg + n.toNatClampNeg ≤ b))))
def cpy (m : MM) (k : Nat) (i : Int32) (k2 : Nat) (j n : Int32) : MM := wA m k2 (va_cpy (m.1 k) (m.1 k2) i.toNatClampNeg j.toNatClampNeg n.toNatClampNeg)
def Lt {α β : Type} (e : α) (k : α → β) : β := k e
def Jp {α β : Type} (j : α) (b : α → β) : β := b j
def Gu {β : Type} (b : Bool) (k : Option β) : Option β := match b with | true => k | false => none
def bd1 {α β : Type} (x : Option α) (k : α → Option β) : Option β := match x with | some a => k a | none => none
def bd2 {α γ β : Type} (x : Option (α × γ)) (k : α → γ → Option β) : Option β := match x with | some a => k a.1 a.2 | none => none
theorem Gu_inv {β : Type} {b : Bool} {k : Option β} {y : β} (h : Gu b k = some y) : b = true ∧ k = some y := by
  cases b with
  | true => exact ⟨rfl, h⟩
  | false => cases h
theorem bd1_inv {α β : Type} {x : Option α} {k : α → Option β} {y : β} (h : bd1 x k = some y) : ∃ a, x = some a ∧ k a = some y := by
  cases x with
  | none => cases h
  | some a => exact ⟨a, rfl, h⟩
theorem bd2_inv {α γ β : Type} {x : Option (α × γ)} {k : α → γ → Option β} {y : β} (h : bd2 x k = some y) : ∃ a b, x = some (a, b) ∧ k a b = some y := by
  cases x with
  | none => cases h
  | some a => exact ⟨a.1, a.2, rfl, h⟩
theorem inB_in {i : Int32} {n : Nat} (h : inB i n = true) : vp_in i n := by
  unfold inB at h
  rw [Bool.and_eq_true, decide_eq_true_eq, decide_eq_true_eq] at h
  intro q
  rcases q with q | q
  · exact Int32.not_lt.mpr h.1 q
  · omega
theorem bz_or {x : Int32} (h : bz x = true) : x = 0 ∨ x = 1 := by
  unfold bz at h
  rw [Bool.or_eq_true, beq_iff_eq, beq_iff_eq] at h
  exact h
theorem bz_nar {x : Int32} (h : bz x = true) : narrow .boolean (.int x) = .int x := by
  rcases bz_or h with rfl | rfl <;> decide
theorem bz_fit {x : Int32} (h : bz x = true) : fits .boolean (.int x) = true := by
  rcases bz_or h with rfl | rfl <;> decide
theorem bz_vp {x : Int32} (h : bz x = true) : vp_nar .boolean x = x := by
  rcases bz_or h with rfl | rfl <;> decide
theorem nz_ne {x : Int32} (h : nz x = true) : ¬ x = 0 := by
  intro q
  subst q
  cases h
theorem nzL_ne {x : Int64} (h : nzL x = true) : ¬ x = 0 := by
  intro q
  subst q
  cases h
/-! THE WORLD: region k's cell at the address ad k -/
abbrev CF : Type := (Nat → ClassId) → (Nat → Nat) → Nat → (Nat → Int32) → (Nat → Int64) → va_E
def WD (cf : CF) (n : Nat) (cA : Nat → ClassId) (ad : Nat → Nat) (m : MM) : va_W := (List.range n).map (fun k => (ad k, cf cA ad k (m.1 k) (m.2 k)))
def FI (cf : CF) (n k len : Nat) : Prop := k < n ∧ ∀ cA ad r g, cf cA ad k r g = .inl (cA 0, len, .inl r)
def FL (cf : CF) (n k len : Nat) : Prop := k < n ∧ ∀ cA ad r g, cf cA ad k r g = .inl (cA 1, len, .inr (.inl g))
def FZ (cf : CF) (n k len : Nat) : Prop := k < n ∧ ∀ cA ad r g, cf cA ad k r g = .inl (cA 2, len, .inl r)
def FQ (cf : CF) (n k t len : Nat) (f : Nat → Nat) : Prop := k < n ∧ ∀ cA ad r g, cf cA ad k r g = .inl (cA t, len, .inr (.inr (.inr (.inr (fun i => some (ad (f i)))))))
def FO (cf : CF) (n k ci : Nat) (fs : (Nat → Nat) → Nat → (Nat → Int32) → (Nat → Int64) → List Value) : Prop := k < n ∧ ∀ cA ad r g, cf cA ad k r g = .inr (ci, fs ad k r g)
def tyL (cA : Nat → ClassId) : List (ClassId × FieldType) := [(cA 0, .int), (cA 1, .long), (cA 2, .boolean), (cA 3, .object "BothHandsFull$Text"), (cA 4, .object "BothHandsFull$Sheet")]
def AP (ad : Nat → Nat) (n : Nat) : Prop := ∀ i j, i < n → j < n → ad i = ad j → i = j
def AA (ad : Nat → Nat) (n sz : Nat) : Nat → Prop := fun q => (∃ k, k < n ∧ q = ad k) ∨ sz ≤ q
theorem WD_at {cf : CF} {n : Nat} {cA : Nat → ClassId} {ad : Nat → Nat} {m : MM} {k : Nat} (h : k < n) : (WD cf n cA ad m)[k]? = some (ad k, cf cA ad k (m.1 k) (m.2 k)) := by
  unfold WD
  rw [List.getElem?_map, List.getElem?_range h]
  rfl
theorem WD_out {cf : CF} {n : Nat} {cA : Nat → ClassId} {ad : Nat → Nat} {m : MM} {k : Nat} {q : Nat × va_E} (h : (WD cf n cA ad m)[k]? = some q) : k < n ∧ q = (ad k, cf cA ad k (m.1 k) (m.2 k)) := by
  have hk : k < n := by
    have := (List.getElem?_eq_some_iff.mp h).1
    simpa [WD] using this
  refine ⟨hk, ?_⟩
  rw [WD_at hk] at h
  exact (Option.some.inj h).symm
theorem WD_len {cf : CF} {n : Nat} {cA : Nat → ClassId} {ad : Nat → Nat} {m : MM} : (WD cf n cA ad m).length = n := by simp [WD]
theorem WD_set {cf : CF} {n : Nat} {cA : Nat → ClassId} {ad : Nat → Nat} {m m' : MM} {k : Nat} {e : va_E} (hk : k < n) (he : cf cA ad k (m'.1 k) (m'.2 k) = e) (h1 : ∀ q, q ≠ k → m'.1 q = m.1 q) (h2 : ∀ q, q ≠ k → m'.2 q = m.2 q) : (WD cf n cA ad m).set k (ad k, e) = WD cf n cA ad m' := by
  apply List.ext_getElem?
  intro i
  by_cases hi : i < n
  · rw [WD_at hi]
    by_cases hik : k = i
    · subst hik
      rw [List.getElem?_set_self (by rw [WD_len]; exact hk), he]
    · rw [List.getElem?_set_ne hik, WD_at hi, h1 i (Ne.symm hik), h2 i (Ne.symm hik)]
  · rw [List.getElem?_eq_none (by rw [List.length_set, WD_len]; omega), List.getElem?_eq_none (by rw [WD_len]; omega)]
theorem WD_D {cf : CF} {n sz : Nat} {cA : Nat → ClassId} {ad : Nat → Nat} (h : AP ad n) (m : MM) : va_D (AA ad n sz) (WD cf n cA ad m) := by
  refine ⟨fun i j p q hi hj he => ?_, fun k q hk => ?_⟩
  · obtain ⟨h1, rfl⟩ := WD_out hi
    obtain ⟨h2, rfl⟩ := WD_out hj
    exact h i j h1 h2 he
  · obtain ⟨h1, rfl⟩ := WD_out hk
    exact Or.inl ⟨k, h1, rfl⟩
theorem wI_at (m : MM) (k i : Nat) (v : Int32) : (wI m k i v).1 k = upd (m.1 k) i v := if_pos rfl
theorem wI_ne {m : MM} {k i q : Nat} {v : Int32} (h : q ≠ k) : (wI m k i v).1 q = m.1 q := if_neg h
theorem wL_at (m : MM) (k i : Nat) (v : Int64) : (wL m k i v).2 k = vp_updL (m.2 k) i v := if_pos rfl
theorem wL_ne {m : MM} {k i q : Nat} {v : Int64} (h : q ≠ k) : (wL m k i v).2 q = m.2 q := if_neg h
theorem wA_at (m : MM) (k : Nat) (f : Nat → Int32) : (wA m k f).1 k = f := if_pos rfl
theorem wA_ne {m : MM} {k q : Nat} {f : Nat → Int32} (h : q ≠ k) : (wA m k f).1 q = m.1 q := if_neg h
/-! STATICS: what no method writes: four static arrays, the links between nest mates -/
def stN : Nat → String := fun k => match k with
  | 0 => "UNDER"
  | 1 => "MOST"
  | 2 => "WET"
  | _ => "OPENS"
def stV : Nat → List Int32 := fun k => match k with
  | 0 => [-1, 0, 0, 1, 2, 2]
  | 1 => [5, 3, 5, 1, 1, 5]
  | 2 => [0, 0, 0, 0, 0, 1]
  | _ => [0, 1, 0, 0, 0, 0]
def stT (k i : Nat) : Int32 := (stV k).getD i 0
def stX0 : String := "costs size ; bell 20 ; worth 10 ;"
def stX1 : String := "();+-*<="
def stX2 : String := "size  from  to    thing many  wet   costs bell  worth or    and   not   "
def stB : List (List Int32) := [[99, 111, 115, 116, 115, 32, 115, 105, 122, 101, 32, 59, 32, 98, 101, 108, 108, 32, 50, 48, 32, 59, 32, 119, 111, 114, 116, 104, 32, 49, 48, 32, 59], [40, 41, 59, 43, 45, 42, 60, 61], [115, 105, 122, 101, 32, 32, 102, 114, 111, 109, 32, 32, 116, 111, 32, 32, 32, 32, 116, 104, 105, 110, 103, 32, 109, 97, 110, 121, 32, 32, 119, 101, 116, 32, 32, 32, 99, 111, 115, 116, 115, 32, 98, 101, 108, 108, 32, 32, 119, 111, 114, 116, 104, 32, 111, 114, 32, 32, 32, 32, 97, 110, 100, 32, 32, 32, 110, 111, 116, 32, 32, 32]]
def stL : List Nat := [33, 8, 72]
def nestW : List Cond := [.fieldLinkNest "BothHandsFull$Lot" 62 "BothHandsFull" "WET" "[I" "BothHandsFull", .fieldLinkNest "BothHandsFull$Lot" 69 "BothHandsFull" "MOST" "[I" "BothHandsFull", .fieldLinkNest "BothHandsFull$Lot" 75 "BothHandsFull" "OPENS" "[I" "BothHandsFull", .methodLinkNest "BothHandsFull$Lot" 58 yX5_within "BothHandsFull", .methodLinkNest "BothHandsFull$Lot" 65 yX5_roomOf "BothHandsFull"]
def SXs (tb : Nat → Nat) (A : Nat → Prop) (U : State) (H : Heap) : Prop := vk_S 3 stL stB (fun i => tb (4 + i)) (fun i => tb (7 + i)) A U H ∧ (vk_R "BothHandsFull" 54 stX0 (tb 4) U ∧ vk_R "BothHandsFull$Tape" 73 stX1 (tb 5) U ∧ vk_R "BothHandsFull$Tape" 84 stX2 (tb 6) U) ∧ va_Z "java/lang/String" "COMPACT_STRINGS" "Z" (.int 1) A U H ∧ va_Zq "jdk/internal/util/Preconditions" "SIOOBE_FORMATTER" "Ljava/util/function/BiFunction;" A U H
theorem SXs_go {tb : Nat → Nat} {A B : Nat → Prop} {s U : State} {H H1 : Heap} (h : SXs tb A s H) (hW : s.WarmedH U.vm) (hq : ∀ a : Nat, a < H.size → ¬ A a → H1[a]? = H[a]?) (hAB : ∀ q, B q → A q) : SXs tb B U H1 :=
  ⟨((h.1.moved hW.alike).kept hq).narrow hAB, ⟨vk_R.warm hW h.2.1.1, vk_R.warm hW h.2.1.2.1, vk_R.warm hW h.2.1.2.2⟩, ((h.2.2.1.moved hW.alike).kept hq).narrow hAB, ((h.2.2.2.moved hW.alike).kept hq).narrow hAB⟩
theorem SXs_calling {tb : Nat → Nat} {A : Nat → Prop} {U : State} {H : Heap} (h : SXs tb A U H) (g : JFrame) (mk : MethodId) (a : Array Value) : SXs tb A (U.calling g mk a) H :=
  ⟨vk_S.moved (u := U) (U := U.calling g mk a) (Vm.Alike.refl U.vm) h.1, ⟨vk_R.same (u := U) rfl h.2.1.1, vk_R.same (u := U) rfl h.2.1.2.1, vk_R.same (u := U) rfl h.2.1.2.2⟩, va_Z.moved (u := U) (U := U.calling g mk a) (Vm.Alike.refl U.vm) h.2.2.1, va_Zq.moved (u := U) (U := U.calling g mk a) (Vm.Alike.refl U.vm) h.2.2.2⟩
def SX (tb : Nat → Nat) (A : Nat → Prop) (U : State) (H : Heap) : Prop := (∀ k, k < 4 → va_Z "BothHandsFull" (stN k) "[I" (.ref (tb k)) A U H ∧ va_T .int (tb k) 6 (fun j => .int (stT k j)) A U H) ∧ (∀ w ∈ nestW, va_Nw w U) ∧ SXs tb A U H
theorem nest_warm {s U : State} (hW : s.WarmedH U.vm) (h : ∀ w ∈ nestW, va_Nw w s) : ∀ w ∈ nestW, va_Nw w U := by
  intro w hw
  have h1 := h w hw
  unfold nestW at hw
  simp only [List.mem_cons, List.not_mem_nil, or_false] at hw
  rcases hw with rfl | rfl | rfl | rfl | rfl
  all_goals first | exact va_Nw.warmF hW h1 | exact va_Nw.warmM hW h1
theorem nest_same {s U : State} (hW : s.vm = U.vm) (h : ∀ w ∈ nestW, va_Nw w s) : ∀ w ∈ nestW, va_Nw w U := by
  intro w hw
  have h1 := h w hw
  unfold nestW at hw
  simp only [List.mem_cons, List.not_mem_nil, or_false] at hw
  rcases hw with rfl | rfl | rfl | rfl | rfl
  all_goals exact va_Nw.same rfl hW h1
theorem SX.go {tb : Nat → Nat} {A B : Nat → Prop} {s U : State} {H H1 : Heap} (h : SX tb A s H) (hW : s.WarmedH U.vm) (hq : ∀ a : Nat, a < H.size → ¬ A a → H1[a]? = H[a]?) (hAB : ∀ q, B q → A q) : SX tb B U H1 :=
  ⟨fun k hk => ⟨(((h.1 k hk).1.moved hW.alike).kept hq).narrow hAB, (((h.1 k hk).2.moved hW.alike).kept hq).narrow hAB⟩, nest_warm hW h.2.1, SXs_go h.2.2 hW hq hAB⟩
theorem SX.calling {tb : Nat → Nat} {A : Nat → Prop} {U : State} {H : Heap} (h : SX tb A U H) (g : JFrame) (mk : MethodId) (a : Array Value) : SX tb A (U.calling g mk a) H :=
  ⟨fun k hk => ⟨va_Z.moved (u := U) (U := U.calling g mk a) (Vm.Alike.refl U.vm) (h.1 k hk).1, va_T.moved (u := U) (U := U.calling g mk a) (Vm.Alike.refl U.vm) (h.1 k hk).2⟩, nest_same (s := U) (U := U.calling g mk a) rfl h.2.1, SXs_calling h.2.2 g mk a⟩
/-! THE JUDGEMENT -/
def GG (p : Program) (l : Launch) (e : Env) (R : Room) (s : State) (mt : MethodId) (args : Array Value) (below : List Frame) (meth : Method) (c : Code) (Q : State → Prop) (D : va_G) (cA : Nat → ClassId) (ad : Nat → Nat) (cf : CF) (n nL nc ns : Nat) (m : MM) (pc : Nat) (lv : List (Nat × Value)) (st : List Value) : Prop :=
  ∀ (H : Heap) (locs : List Loc) (ls : Array Slot), va_P D vwCl (WD cf n cA ad m) H → va_S (AA ad n s.heap.size) s.heap H locs → lv_has ls nL lv → W p l e R s mt args below meth c H locs nc ns Q (F0 mt pc ls st)
/-- what is fixed in a method's walk -/
def CX (p : Program) (R : Room) (s : State) (mt : MethodId) (args : Array Value) (c : Code) (cc : ByteArray) (own : String) (D : va_G) (cA : Nat → ClassId) (ad : Nat → Nat) (n nL nc ns : Nat) (tb : Nat → Nat) : Prop :=
  p.tables.exec = Jvm.exec ∧ c.code = cc ∧ c.maxLocals = nL ∧ s.vm.findClass own = some mt.cls ∧ (∀ w ∈ WL, w.before args s = true) ∧ va_K D vwCl (tyL cA) s ∧ AP ad n ∧ SX tb (AA ad n s.heap.size) s s.heap ∧ nc ≤ R.cells ∧ ns ≤ R.slots
def QF (D : va_G) (cA : Nat → ClassId) (ad : Nat → Nat) (cf : CF) (n : Nat) (o : Option Value) (m' : MM) (sz : Nat) : Array Value → State → Outcome → State → Prop := fun _ st oc t => (oc = .returned o ∧ va_P D vwCl (WD cf n cA ad m') t.heap) ∧ va_F (AA ad n sz) st t
/-- a method's contract: from the memory m it answers o and leaves the memory m' -/
def CT (l : Launch) (y : MethodName) (cc : ByteArray) (maxL : Nat) (ret : Option FieldType) (rm : Room) (cf : CF) (n : Nat) (av : (Nat → Nat) → (Nat → Nat) → List Value) (m : MM) (o : Option Value) (m' : MM) : Prop :=
  ∀ (D : va_G) (cA : Nat → ClassId) (ad : Nat → Nat) (tb : Nat → Nat) (sz : Nat), AP ad n → Met l y (Cond.code y cc maxL ret :: WL) rm (va_Pc (av ad tb) (fun U => U.heap.size = sz ∧ va_P D vwCl (WD cf n cA ad m) U.heap ∧ va_K D vwCl (tyL cA) U ∧ SX tb (AA ad n sz) U U.heap)) (QF D cA ad cf n o m' sz) 0 0 (AA ad n sz)
section GGrows
variable {p : Program} {l : Launch} {e : Env} {R : Room} {s : State} {mt : MethodId} {args : Array Value} {below : List Frame} {meth : Method} {c : Code} {Q : State → Prop} {cc : ByteArray} {own : String} {D : va_G} {cA : Nat → ClassId} {ad : Nat → Nat} {cf : CF} {n nL nc ns : Nat} {tb : Nat → Nat} {m : MM} {pc : Nat} {lv : List (Nat × Value)} {st : List Value}
theorem CT.of {y : MethodName} {rm : Room} {maxL : Nat} {ret : Option FieldType} {av : (Nat → Nat) → (Nat → Nat) → List Value} {m m' : MM} {o : Option Value} (hy : plainName y.cls = true) (hrm : rm.cells = 0 ∧ rm.slots = 0) (hav : ∀ ad tb, (lg_sl (av ad tb)).length ≤ maxL)
    (body : ∀ (p : Program) (e : Env) (s : State) (mt : MethodId) (args : Array Value) (below : List Frame) (meth : Method) (c : Code) (D : va_G) (cA : Nat → ClassId) (ad : Nat → Nat) (tb : Nat → Nat), CX p rm s mt args c cc y.cls D cA ad n maxL 0 0 tb → meth.sig.returnType = ret → meth.locks = false →
      GG p l e rm s mt args below meth c (MQ below (QF D cA ad cf n o m' s.heap.size) args s 0 0 (AA ad n s.heap.size)) D cA ad cf n maxL 0 0 m 0 (lv_args 0 (av ad tb)) []) : CT l y cc maxL ret rm cf n av m o m' := by
  intro D cA ad tb sz hap
  refine Met.ofW (cc := cc) (maxL := maxL) (ret := ret) hy rfl ?_
  intro p e s mt args below meth c s₁ B hml hv
  obtain ⟨hargs, hsz, hP, hK, hX⟩ := hv
  subst hargs
  subst hsz
  rw [lg_entry_eq]
  have hl := lv_entry (av ad tb) (n := maxL) (hav ad tb)
  exact body p e s mt _ below meth c D cA ad tb ⟨B.exec, B.bytes, hml, findClass_of_methodNamed B.named, fun w hw => atoms_spec (ws := Cond.code y cc maxL ret :: WL) B.pre w (List.mem_cons_of_mem _ hw), hK, hap, hX, Nat.zero_le _, Nat.zero_le _⟩ B.returns B.notSynchronized s.heap [] _ hP va_S.rf hl
theorem mem_i {α : Type} {L : List α} {a : α} (i : Nat) (h : L[i]? = some a) : a ∈ L := List.mem_of_getElem? h
theorem g_lv {lv' : List (Nat × Value)} (h : lv = lv') (k : GG p l e R s mt args below meth c Q D cA ad cf n nL nc ns m pc lv' st) : GG p l e R s mt args below meth c Q D cA ad cf n nL nc ns m pc lv st := h ▸ k
theorem g_sub (ks : List Nat) {lv' : List (Nat × Value)} (h : lv_pick lv ks = lv') (k : GG p l e R s mt args below meth c Q D cA ad cf n nL nc ns m pc lv' st) : GG p l e R s mt args below meth c Q D cA ad cf n nL nc ns m pc lv st :=
  fun H locs ls hP hS hl => k H locs ls hP hS (lv_sub hl ks h)
theorem nm_m {α : Type} {x : MM} {k : MM → Option α} {y : α} (h : Lt x k = some y) (f : ∀ z, k z = some y → GG p l e R s mt args below meth c Q D cA ad cf n nL nc ns z pc lv st) : GG p l e R s mt args below meth c Q D cA ad cf n nL nc ns x pc lv st := f x h
theorem nm_i {α : Type} {x : Int32} {k : Int32 → Option α} {y : α} (h : Lt x k = some y) (f : ∀ z, k z = some y → GG p l e R s mt args below meth c Q D cA ad cf n nL nc ns m pc lv (.int z :: st)) : GG p l e R s mt args below meth c Q D cA ad cf n nL nc ns m pc lv (.int x :: st) := f x h
theorem nm_l {α : Type} {x : Int64} {k : Int64 → Option α} {y : α} (h : Lt x k = some y) (f : ∀ z, k z = some y → GG p l e R s mt args below meth c Q D cA ad cf n nL nc ns m pc lv (.long z :: st)) : GG p l e R s mt args below meth c Q D cA ad cf n nL nc ns m pc lv (.long x :: st) := f x h

theorem g_iconst (C : CX p R s mt args c cc own D cA ad n nL nc ns tb) {i : Int} {v : Int32} (hd : decode cc pc = .ok (.iconst i, 1)) (hv : Int32.ofInt i = v) (k : GG p l e R s mt args below meth c Q D cA ad cf n nL nc ns m (pc + 1) lv (.int v :: st)) : GG p l e R s mt args below meth c Q D cA ad cf n nL nc ns m pc lv (st) :=
  fun H locs ls hP hS hl => lv_iconst C.1 C.2.1 hd hv (k H locs ls hP hS hl)
theorem g_bipush (C : CX p R s mt args c cc own D cA ad n nL nc ns tb) {i : Int} {v : Int32} (hd : decode cc pc = .ok (.bipush i, 2)) (hv : (Int8.ofInt i).toInt32 = v) (k : GG p l e R s mt args below meth c Q D cA ad cf n nL nc ns m (pc + 2) lv (.int v :: st)) : GG p l e R s mt args below meth c Q D cA ad cf n nL nc ns m pc lv (st) :=
  fun H locs ls hP hS hl => lv_bipush C.1 C.2.1 hd hv (k H locs ls hP hS hl)
theorem g_sipush (C : CX p R s mt args c cc own D cA ad n nL nc ns tb) {i : Int} {v : Int32} (hd : decode cc pc = .ok (.sipush i, 3)) (hv : (Int16.ofInt i).toInt32 = v) (k : GG p l e R s mt args below meth c Q D cA ad cf n nL nc ns m (pc + 3) lv (.int v :: st)) : GG p l e R s mt args below meth c Q D cA ad cf n nL nc ns m pc lv (st) :=
  fun H locs ls hP hS hl => lv_sipush C.1 C.2.1 hd hv (k H locs ls hP hS hl)
theorem g_lconst (C : CX p R s mt args c cc own D cA ad n nL nc ns tb) {i : Fin 2} {v : Int64} (hd : decode cc pc = .ok (.lconst i, 1)) (hv : Int64.ofNat (i : Nat) = v) (k : GG p l e R s mt args below meth c Q D cA ad cf n nL nc ns m (pc + 1) lv (.long v :: st)) : GG p l e R s mt args below meth c Q D cA ad cf n nL nc ns m pc lv (st) :=
  fun H locs ls hP hS hl => lv_lconst C.1 C.2.1 hd hv (k H locs ls hP hS hl)
theorem g_ldc (C : CX p R s mt args c cc own D cA ad n nL nc ns tb) {i : Nat} {v : Int32} (hd : decode cc pc = .ok (.ldc i, 2)) (hc : Cond.constant own i v ∈ WL) (k : GG p l e R s mt args below meth c Q D cA ad cf n nL nc ns m (pc + 2) lv (.int v :: st)) : GG p l e R s mt args below meth c Q D cA ad cf n nL nc ns m pc lv st :=
  fun H locs ls hP hS hl => lv_ldc C.1 C.2.1 C.2.2.2.1 (C.2.2.2.2.1 _ hc) hd (k H locs ls hP hS hl)
theorem g_ldcw (C : CX p R s mt args c cc own D cA ad n nL nc ns tb) {i : Nat} {v : Int32} (hd : decode cc pc = .ok (.ldc_w i, 3)) (hc : Cond.constant own i v ∈ WL) (k : GG p l e R s mt args below meth c Q D cA ad cf n nL nc ns m (pc + 3) lv (.int v :: st)) : GG p l e R s mt args below meth c Q D cA ad cf n nL nc ns m pc lv st :=
  fun H locs ls hP hS hl => lv_ldcw C.1 C.2.1 C.2.2.2.1 (C.2.2.2.2.1 _ hc) hd (k H locs ls hP hS hl)
theorem g_ldc2 (C : CX p R s mt args c cc own D cA ad n nL nc ns tb) {i : Nat} {v : Int64} (hd : decode cc pc = .ok (.ldc2_w i, 3)) (hc : Cond.constantLong own i v ∈ WL) (k : GG p l e R s mt args below meth c Q D cA ad cf n nL nc ns m (pc + 3) lv (.long v :: st)) : GG p l e R s mt args below meth c Q D cA ad cf n nL nc ns m pc lv st :=
  fun H locs ls hP hS hl => lv_ldc2 C.1 C.2.1 C.2.2.2.1 (C.2.2.2.2.1 _ hc) hd (k H locs ls hP hS hl)
theorem g_iload_n (C : CX p R s mt args c cc own D cA ad n nL nc ns tb) {k : Fin 4} {i : Nat} {x : Int32} (hd : decode cc pc = .ok (.iload_n k, 1)) (hi : (k : Nat) = i) (q : Nat) (hq : lv[q]? = some (i, .int x)) (k : GG p l e R s mt args below meth c Q D cA ad cf n nL nc ns m (pc + 1) lv (.int x :: st)) : GG p l e R s mt args below meth c Q D cA ad cf n nL nc ns m pc lv st :=
  fun H locs ls hP hS hl => lv_iload_n C.1 C.2.1 hd hi (lv_at hl q hq) (k H locs ls hP hS hl)
theorem g_iload (C : CX p R s mt args c cc own D cA ad n nL nc ns tb) {i : Nat} {x : Int32} (hd : decode cc pc = .ok (.iload i, 2)) (q : Nat) (hq : lv[q]? = some (i, .int x)) (k : GG p l e R s mt args below meth c Q D cA ad cf n nL nc ns m (pc + 2) lv (.int x :: st)) : GG p l e R s mt args below meth c Q D cA ad cf n nL nc ns m pc lv st :=
  fun H locs ls hP hS hl => lv_iload C.1 C.2.1 hd (lv_at hl q hq) (k H locs ls hP hS hl)
theorem g_lload_n (C : CX p R s mt args c cc own D cA ad n nL nc ns tb) {k : Fin 4} {i : Nat} {x : Int64} (hd : decode cc pc = .ok (.lload_n k, 1)) (hi : (k : Nat) = i) (q : Nat) (hq : lv[q]? = some (i, .long x)) (k : GG p l e R s mt args below meth c Q D cA ad cf n nL nc ns m (pc + 1) lv (.long x :: st)) : GG p l e R s mt args below meth c Q D cA ad cf n nL nc ns m pc lv st :=
  fun H locs ls hP hS hl => lv_lload_n C.1 C.2.1 hd hi (lv_at hl q hq) (k H locs ls hP hS hl)
theorem g_lload (C : CX p R s mt args c cc own D cA ad n nL nc ns tb) {i : Nat} {x : Int64} (hd : decode cc pc = .ok (.lload i, 2)) (q : Nat) (hq : lv[q]? = some (i, .long x)) (k : GG p l e R s mt args below meth c Q D cA ad cf n nL nc ns m (pc + 2) lv (.long x :: st)) : GG p l e R s mt args below meth c Q D cA ad cf n nL nc ns m pc lv st :=
  fun H locs ls hP hS hl => lv_lload C.1 C.2.1 hd (lv_at hl q hq) (k H locs ls hP hS hl)
theorem g_aload_n (C : CX p R s mt args c cc own D cA ad n nL nc ns tb) {k : Fin 4} {i : Nat} {x : Nat} (hd : decode cc pc = .ok (.aload_n k, 1)) (hi : (k : Nat) = i) (q : Nat) (hq : lv[q]? = some (i, .ref x)) (k : GG p l e R s mt args below meth c Q D cA ad cf n nL nc ns m (pc + 1) lv (.ref x :: st)) : GG p l e R s mt args below meth c Q D cA ad cf n nL nc ns m pc lv st :=
  fun H locs ls hP hS hl => lv_aload_n C.1 C.2.1 hd hi (lv_at hl q hq) (k H locs ls hP hS hl)
theorem g_aload (C : CX p R s mt args c cc own D cA ad n nL nc ns tb) {i : Nat} {x : Nat} (hd : decode cc pc = .ok (.aload i, 2)) (q : Nat) (hq : lv[q]? = some (i, .ref x)) (k : GG p l e R s mt args below meth c Q D cA ad cf n nL nc ns m (pc + 2) lv (.ref x :: st)) : GG p l e R s mt args below meth c Q D cA ad cf n nL nc ns m pc lv st :=
  fun H locs ls hP hS hl => lv_aload C.1 C.2.1 hd (lv_at hl q hq) (k H locs ls hP hS hl)
theorem g_istore_n (C : CX p R s mt args c cc own D cA ad n nL nc ns tb) {j : Fin 4} {i : Nat} {x : Int32} {lv' : List (Nat × Value)} (hd : decode cc pc = .ok (.istore_n j, 1)) (hi : (j : Nat) = i) (hn : i < nL) (hl' : (i, .int x) :: lv.filter (fun q => !(q.1 == i) && !(q.1 + 1 == i && q.2.category == 2)) = lv') (k : GG p l e R s mt args below meth c Q D cA ad cf n nL nc ns m (pc + 1) lv' st) : GG p l e R s mt args below meth c Q D cA ad cf n nL nc ns m pc lv (.int x :: st) :=
  fun H locs ls hP hS hl => lv_istore_n C.1 C.2.1 hd hi hl hn hl' (fun ls' hl2 => k H locs ls' hP hS hl2)
theorem g_istore (C : CX p R s mt args c cc own D cA ad n nL nc ns tb) {i : Nat} {x : Int32} {lv' : List (Nat × Value)} (hd : decode cc pc = .ok (.istore i, 2)) (hn : i < nL) (hl' : (i, .int x) :: lv.filter (fun q => !(q.1 == i) && !(q.1 + 1 == i && q.2.category == 2)) = lv') (k : GG p l e R s mt args below meth c Q D cA ad cf n nL nc ns m (pc + 2) lv' st) : GG p l e R s mt args below meth c Q D cA ad cf n nL nc ns m pc lv (.int x :: st) :=
  fun H locs ls hP hS hl => lv_istore C.1 C.2.1 hd hl hn hl' (fun ls' hl2 => k H locs ls' hP hS hl2)
theorem g_astore_n (C : CX p R s mt args c cc own D cA ad n nL nc ns tb) {j : Fin 4} {i : Nat} {x : Nat} {lv' : List (Nat × Value)} (hd : decode cc pc = .ok (.astore_n j, 1)) (hi : (j : Nat) = i) (hn : i < nL) (hl' : (i, .ref x) :: lv.filter (fun q => !(q.1 == i) && !(q.1 + 1 == i && q.2.category == 2)) = lv') (k : GG p l e R s mt args below meth c Q D cA ad cf n nL nc ns m (pc + 1) lv' st) : GG p l e R s mt args below meth c Q D cA ad cf n nL nc ns m pc lv (.ref x :: st) :=
  fun H locs ls hP hS hl => lv_astore_n C.1 C.2.1 hd hi hl hn hl' (fun ls' hl2 => k H locs ls' hP hS hl2)
theorem g_astore (C : CX p R s mt args c cc own D cA ad n nL nc ns tb) {i : Nat} {x : Nat} {lv' : List (Nat × Value)} (hd : decode cc pc = .ok (.astore i, 2)) (hn : i < nL) (hl' : (i, .ref x) :: lv.filter (fun q => !(q.1 == i) && !(q.1 + 1 == i && q.2.category == 2)) = lv') (k : GG p l e R s mt args below meth c Q D cA ad cf n nL nc ns m (pc + 2) lv' st) : GG p l e R s mt args below meth c Q D cA ad cf n nL nc ns m pc lv (.ref x :: st) :=
  fun H locs ls hP hS hl => lv_astore C.1 C.2.1 hd hl hn hl' (fun ls' hl2 => k H locs ls' hP hS hl2)
theorem g_lstore (C : CX p R s mt args c cc own D cA ad n nL nc ns tb) {i : Nat} {x : Int64} {lv' : List (Nat × Value)} (hd : decode cc pc = .ok (.lstore i, 2)) (hn : i + 1 < nL) (hl' : (i, .long x) :: lv.filter (fun q => !(q.1 == i) && (!(q.1 == i + 1) && !(q.1 + 1 == i && q.2.category == 2))) = lv') (k : GG p l e R s mt args below meth c Q D cA ad cf n nL nc ns m (pc + 2) lv' st) : GG p l e R s mt args below meth c Q D cA ad cf n nL nc ns m pc lv (.long x :: st) :=
  fun H locs ls hP hS hl => lv_lstore C.1 C.2.1 hd hl hn hl' (fun ls' hl2 => k H locs ls' hP hS hl2)
theorem g_lstore_n (C : CX p R s mt args c cc own D cA ad n nL nc ns tb) {j : Fin 4} {i : Nat} {x : Int64} {lv' : List (Nat × Value)} (hd : decode cc pc = .ok (.lstore_n j, 1)) (hi : (j : Nat) = i) (hn : i + 1 < nL) (hl' : (i, .long x) :: lv.filter (fun q => !(q.1 == i) && (!(q.1 == i + 1) && !(q.1 + 1 == i && q.2.category == 2))) = lv') (k : GG p l e R s mt args below meth c Q D cA ad cf n nL nc ns m (pc + 1) lv' st) : GG p l e R s mt args below meth c Q D cA ad cf n nL nc ns m pc lv (.long x :: st) :=
  fun H locs ls hP hS hl => lv_lstore_n C.1 C.2.1 hd hi hl hn hl' (fun ls' hl2 => k H locs ls' hP hS hl2)
theorem g_iinc (C : CX p R s mt args c cc own D cA ad n nL nc ns tb) {i q : Nat} {d : Int} {x v : Int32} {lv' : List (Nat × Value)} (hd : decode cc pc = .ok (.iinc i d, 3)) (hq : lv[q]? = some (i, .int x)) (hn : i < nL) {α : Type} {K : Int32 → Option α} {y : α} (h : Lt v K = some y) (hv : x + Int32.ofInt d = v) (hl' : ∀ v, (i, .int v) :: lv.filter (fun q => !(q.1 == i) && !(q.1 + 1 == i && q.2.category == 2)) = (i, .int v) :: lv') (k : ∀ v, K v = some y → GG p l e R s mt args below meth c Q D cA ad cf n nL nc ns m (pc + 3) ((i, .int v) :: lv') st) : GG p l e R s mt args below meth c Q D cA ad cf n nL nc ns m pc lv st :=
  fun H locs ls hP hS hl => lv_iinc C.1 C.2.1 hd hl hq hv hn (hl' v) (fun ls' hl2 => k v h H locs ls' hP hS hl2)
theorem g_iadd (C : CX p R s mt args c cc own D cA ad n nL nc ns tb) {x y : Int32} (hd : decode cc pc = .ok (.iadd, 1)) (k : GG p l e R s mt args below meth c Q D cA ad cf n nL nc ns m (pc + 1) lv (.int (x + y) :: st)) : GG p l e R s mt args below meth c Q D cA ad cf n nL nc ns m pc lv (.int y :: .int x :: st) :=
  fun H locs ls hP hS hl => lv_iadd C.1 C.2.1 hd (k H locs ls hP hS hl)
theorem g_isub (C : CX p R s mt args c cc own D cA ad n nL nc ns tb) {x y : Int32} (hd : decode cc pc = .ok (.isub, 1)) (k : GG p l e R s mt args below meth c Q D cA ad cf n nL nc ns m (pc + 1) lv (.int (x - y) :: st)) : GG p l e R s mt args below meth c Q D cA ad cf n nL nc ns m pc lv (.int y :: .int x :: st) :=
  fun H locs ls hP hS hl => lv_isub C.1 C.2.1 hd (k H locs ls hP hS hl)
theorem g_imul (C : CX p R s mt args c cc own D cA ad n nL nc ns tb) {x y : Int32} (hd : decode cc pc = .ok (.imul, 1)) (k : GG p l e R s mt args below meth c Q D cA ad cf n nL nc ns m (pc + 1) lv (.int (x * y) :: st)) : GG p l e R s mt args below meth c Q D cA ad cf n nL nc ns m pc lv (.int y :: .int x :: st) :=
  fun H locs ls hP hS hl => lv_imul C.1 C.2.1 hd (k H locs ls hP hS hl)
theorem g_iand (C : CX p R s mt args c cc own D cA ad n nL nc ns tb) {x y : Int32} (hd : decode cc pc = .ok (.iand, 1)) (k : GG p l e R s mt args below meth c Q D cA ad cf n nL nc ns m (pc + 1) lv (.int (x &&& y) :: st)) : GG p l e R s mt args below meth c Q D cA ad cf n nL nc ns m pc lv (.int y :: .int x :: st) :=
  fun H locs ls hP hS hl => lv_iand C.1 C.2.1 hd (k H locs ls hP hS hl)
theorem g_ior (C : CX p R s mt args c cc own D cA ad n nL nc ns tb) {x y : Int32} (hd : decode cc pc = .ok (.ior, 1)) (k : GG p l e R s mt args below meth c Q D cA ad cf n nL nc ns m (pc + 1) lv (.int (x ||| y) :: st)) : GG p l e R s mt args below meth c Q D cA ad cf n nL nc ns m pc lv (.int y :: .int x :: st) :=
  fun H locs ls hP hS hl => lv_ior C.1 C.2.1 hd (k H locs ls hP hS hl)
theorem g_ixor (C : CX p R s mt args c cc own D cA ad n nL nc ns tb) {x y : Int32} (hd : decode cc pc = .ok (.ixor, 1)) (k : GG p l e R s mt args below meth c Q D cA ad cf n nL nc ns m (pc + 1) lv (.int (x ^^^ y) :: st)) : GG p l e R s mt args below meth c Q D cA ad cf n nL nc ns m pc lv (.int y :: .int x :: st) :=
  fun H locs ls hP hS hl => lv_ixor C.1 C.2.1 hd (k H locs ls hP hS hl)
theorem g_ishl (C : CX p R s mt args c cc own D cA ad n nL nc ns tb) {x y : Int32} (hd : decode cc pc = .ok (.ishl, 1)) (k : GG p l e R s mt args below meth c Q D cA ad cf n nL nc ns m (pc + 1) lv (.int (shlI x y) :: st)) : GG p l e R s mt args below meth c Q D cA ad cf n nL nc ns m pc lv (.int y :: .int x :: st) :=
  fun H locs ls hP hS hl => lv_ishl C.1 C.2.1 hd (k H locs ls hP hS hl)
theorem g_ishr (C : CX p R s mt args c cc own D cA ad n nL nc ns tb) {x y : Int32} (hd : decode cc pc = .ok (.ishr, 1)) (k : GG p l e R s mt args below meth c Q D cA ad cf n nL nc ns m (pc + 1) lv (.int (shrI x y) :: st)) : GG p l e R s mt args below meth c Q D cA ad cf n nL nc ns m pc lv (.int y :: .int x :: st) :=
  fun H locs ls hP hS hl => lv_ishr C.1 C.2.1 hd (k H locs ls hP hS hl)
theorem g_iushr (C : CX p R s mt args c cc own D cA ad n nL nc ns tb) {x y : Int32} (hd : decode cc pc = .ok (.iushr, 1)) (k : GG p l e R s mt args below meth c Q D cA ad cf n nL nc ns m (pc + 1) lv (.int (ushI x y) :: st)) : GG p l e R s mt args below meth c Q D cA ad cf n nL nc ns m pc lv (.int y :: .int x :: st) :=
  fun H locs ls hP hS hl => lv_iushr C.1 C.2.1 hd rfl (k H locs ls hP hS hl)
theorem g_ineg (C : CX p R s mt args c cc own D cA ad n nL nc ns tb) {x : Int32} (hd : decode cc pc = .ok (.ineg, 1)) (k : GG p l e R s mt args below meth c Q D cA ad cf n nL nc ns m (pc + 1) lv (.int (-x) :: st)) : GG p l e R s mt args below meth c Q D cA ad cf n nL nc ns m pc lv (.int x :: st) :=
  fun H locs ls hP hS hl => lv_ineg C.1 C.2.1 hd (k H locs ls hP hS hl)
theorem g_ladd (C : CX p R s mt args c cc own D cA ad n nL nc ns tb) {x y : Int64} (hd : decode cc pc = .ok (.ladd, 1)) (k : GG p l e R s mt args below meth c Q D cA ad cf n nL nc ns m (pc + 1) lv (.long (x + y) :: st)) : GG p l e R s mt args below meth c Q D cA ad cf n nL nc ns m pc lv (.long y :: .long x :: st) :=
  fun H locs ls hP hS hl => lv_ladd C.1 C.2.1 hd (k H locs ls hP hS hl)
theorem g_lsub (C : CX p R s mt args c cc own D cA ad n nL nc ns tb) {x y : Int64} (hd : decode cc pc = .ok (.lsub, 1)) (k : GG p l e R s mt args below meth c Q D cA ad cf n nL nc ns m (pc + 1) lv (.long (x - y) :: st)) : GG p l e R s mt args below meth c Q D cA ad cf n nL nc ns m pc lv (.long y :: .long x :: st) :=
  fun H locs ls hP hS hl => lv_lsub C.1 C.2.1 hd (k H locs ls hP hS hl)
theorem g_lmul (C : CX p R s mt args c cc own D cA ad n nL nc ns tb) {x y : Int64} (hd : decode cc pc = .ok (.lmul, 1)) (k : GG p l e R s mt args below meth c Q D cA ad cf n nL nc ns m (pc + 1) lv (.long (x * y) :: st)) : GG p l e R s mt args below meth c Q D cA ad cf n nL nc ns m pc lv (.long y :: .long x :: st) :=
  fun H locs ls hP hS hl => lv_lmul C.1 C.2.1 hd (k H locs ls hP hS hl)
theorem g_idiv (C : CX p R s mt args c cc own D cA ad n nL nc ns tb) {x y : Int32} (hd : decode cc pc = .ok (.idiv, 1)) {α : Type} {K : Option α} {z : α} (h : Gu (nz y) K = some z) (k : K = some z → GG p l e R s mt args below meth c Q D cA ad cf n nL nc ns m (pc + 1) lv (.int (x / y) :: st)) : GG p l e R s mt args below meth c Q D cA ad cf n nL nc ns m pc lv (.int y :: .int x :: st) :=
  fun H locs ls hP hS hl => lv_idiv C.1 C.2.1 hd (nz_ne (Gu_inv h).1) (k (Gu_inv h).2 H locs ls hP hS hl)
theorem g_irem (C : CX p R s mt args c cc own D cA ad n nL nc ns tb) {x y : Int32} (hd : decode cc pc = .ok (.irem, 1)) {α : Type} {K : Option α} {z : α} (h : Gu (nz y) K = some z) (k : K = some z → GG p l e R s mt args below meth c Q D cA ad cf n nL nc ns m (pc + 1) lv (.int (remI x y) :: st)) : GG p l e R s mt args below meth c Q D cA ad cf n nL nc ns m pc lv (.int y :: .int x :: st) :=
  fun H locs ls hP hS hl => lv_irem C.1 C.2.1 hd (nz_ne (Gu_inv h).1) (k (Gu_inv h).2 H locs ls hP hS hl)
theorem g_ldiv (C : CX p R s mt args c cc own D cA ad n nL nc ns tb) {x y : Int64} (hd : decode cc pc = .ok (.ldiv, 1)) {α : Type} {K : Option α} {z : α} (h : Gu (nzL y) K = some z) (k : K = some z → GG p l e R s mt args below meth c Q D cA ad cf n nL nc ns m (pc + 1) lv (.long (x / y) :: st)) : GG p l e R s mt args below meth c Q D cA ad cf n nL nc ns m pc lv (.long y :: .long x :: st) :=
  fun H locs ls hP hS hl => lv_ldiv C.1 C.2.1 hd (nzL_ne (Gu_inv h).1) (k (Gu_inv h).2 H locs ls hP hS hl)
theorem g_lrem (C : CX p R s mt args c cc own D cA ad n nL nc ns tb) {x y : Int64} (hd : decode cc pc = .ok (.lrem, 1)) {α : Type} {K : Option α} {z : α} (h : Gu (nzL y) K = some z) (k : K = some z → GG p l e R s mt args below meth c Q D cA ad cf n nL nc ns m (pc + 1) lv (.long (remL x y) :: st)) : GG p l e R s mt args below meth c Q D cA ad cf n nL nc ns m pc lv (.long y :: .long x :: st) :=
  fun H locs ls hP hS hl => lv_lrem C.1 C.2.1 hd (nzL_ne (Gu_inv h).1) (k (Gu_inv h).2 H locs ls hP hS hl)
theorem g_lcmp (C : CX p R s mt args c cc own D cA ad n nL nc ns tb) {x y : Int64} (hd : decode cc pc = .ok (.lcmp, 1)) (k : GG p l e R s mt args below meth c Q D cA ad cf n nL nc ns m (pc + 1) lv (.int (lg_cmp x y) :: st)) : GG p l e R s mt args below meth c Q D cA ad cf n nL nc ns m pc lv (.long y :: .long x :: st) :=
  fun H locs ls hP hS hl => W.lcmp C.1 C.2.1 hd (k H locs ls hP hS hl)
theorem g_l2i (C : CX p R s mt args c cc own D cA ad n nL nc ns tb) {x : Int64} (hd : decode cc pc = .ok (.l2i, 1)) (k : GG p l e R s mt args below meth c Q D cA ad cf n nL nc ns m (pc + 1) lv (.int (x.toInt32) :: st)) : GG p l e R s mt args below meth c Q D cA ad cf n nL nc ns m pc lv (.long x :: st) :=
  fun H locs ls hP hS hl => lv_l2i C.1 C.2.1 hd rfl (k H locs ls hP hS hl)
theorem g_i2l (C : CX p R s mt args c cc own D cA ad n nL nc ns tb) {x : Int32} (hd : decode cc pc = .ok (.i2l, 1)) (k : GG p l e R s mt args below meth c Q D cA ad cf n nL nc ns m (pc + 1) lv (.long (x.toInt64) :: st)) : GG p l e R s mt args below meth c Q D cA ad cf n nL nc ns m pc lv (.int x :: st) :=
  fun H locs ls hP hS hl => lv_i2l C.1 C.2.1 hd rfl (k H locs ls hP hS hl)
theorem g_i2b (C : CX p R s mt args c cc own D cA ad n nL nc ns tb) {x : Int32} (hd : decode cc pc = .ok (.i2b, 1)) (k : GG p l e R s mt args below meth c Q D cA ad cf n nL nc ns m (pc + 1) lv (.int (x.toInt8.toInt32) :: st)) : GG p l e R s mt args below meth c Q D cA ad cf n nL nc ns m pc lv (.int x :: st) :=
  fun H locs ls hP hS hl => lv_i2b C.1 C.2.1 hd rfl (k H locs ls hP hS hl)
theorem g_i2s (C : CX p R s mt args c cc own D cA ad n nL nc ns tb) {x : Int32} (hd : decode cc pc = .ok (.i2s, 1)) (k : GG p l e R s mt args below meth c Q D cA ad cf n nL nc ns m (pc + 1) lv (.int (x.toInt16.toInt32) :: st)) : GG p l e R s mt args below meth c Q D cA ad cf n nL nc ns m pc lv (.int x :: st) :=
  fun H locs ls hP hS hl => lv_i2s C.1 C.2.1 hd rfl (k H locs ls hP hS hl)
theorem g_i2c (C : CX p R s mt args c cc own D cA ad n nL nc ns tb) {x : Int32} (hd : decode cc pc = .ok (.i2c, 1)) (k : GG p l e R s mt args below meth c Q D cA ad cf n nL nc ns m (pc + 1) lv (.int ((x.toUInt32 % 65536).toInt32) :: st)) : GG p l e R s mt args below meth c Q D cA ad cf n nL nc ns m pc lv (.int x :: st) :=
  fun H locs ls hP hS hl => lv_i2c C.1 C.2.1 hd rfl (k H locs ls hP hS hl)
theorem g_dup (C : CX p R s mt args c cc own D cA ad n nL nc ns tb) {va : Value} (hd : decode cc pc = .ok (.dup, 1)) (h1 : va.category = 1) (k : GG p l e R s mt args below meth c Q D cA ad cf n nL nc ns m (pc + 1) lv (va :: va :: st)) : GG p l e R s mt args below meth c Q D cA ad cf n nL nc ns m pc lv (va :: st) :=
  fun H locs ls hP hS hl => lv_dup C.1 C.2.1 hd h1 (k H locs ls hP hS hl)
theorem g_pop (C : CX p R s mt args c cc own D cA ad n nL nc ns tb) {va : Value} (hd : decode cc pc = .ok (.pop, 1)) (h1 : va.category = 1) (k : GG p l e R s mt args below meth c Q D cA ad cf n nL nc ns m (pc + 1) lv (st)) : GG p l e R s mt args below meth c Q D cA ad cf n nL nc ns m pc lv (va :: st) :=
  fun H locs ls hP hS hl => lv_pop C.1 C.2.1 hd h1 (k H locs ls hP hS hl)
theorem g_dup_x1 (C : CX p R s mt args c cc own D cA ad n nL nc ns tb) {va vb : Value} (hd : decode cc pc = .ok (.dup_x1, 1)) (h1 : va.category = 1) (h2 : vb.category = 1) (k : GG p l e R s mt args below meth c Q D cA ad cf n nL nc ns m (pc + 1) lv (va :: vb :: va :: st)) : GG p l e R s mt args below meth c Q D cA ad cf n nL nc ns m pc lv (va :: vb :: st) :=
  fun H locs ls hP hS hl => lv_dup_x1 C.1 C.2.1 hd h1 h2 (k H locs ls hP hS hl)
theorem g_dup2 (C : CX p R s mt args c cc own D cA ad n nL nc ns tb) {va vb : Value} (hd : decode cc pc = .ok (.dup2, 1)) (h1 : va.category = 1) (h2 : vb.category = 1) (k : GG p l e R s mt args below meth c Q D cA ad cf n nL nc ns m (pc + 1) lv (va :: vb :: va :: vb :: st)) : GG p l e R s mt args below meth c Q D cA ad cf n nL nc ns m pc lv (va :: vb :: st) :=
  fun H locs ls hP hS hl => lv_dup2_11 C.1 C.2.1 hd h1 h2 (k H locs ls hP hS hl)
theorem g_goto (C : CX p R s mt args c cc own D cA ad n nL nc ns tb) {off : Int} {tgt : Nat} (hd : decode cc pc = .ok (.goto off, 3)) (ht : (pc : Int) + off = (tgt : Int)) (k : GG p l e R s mt args below meth c Q D cA ad cf n nL nc ns m tgt lv st) : GG p l e R s mt args below meth c Q D cA ad cf n nL nc ns m pc lv st :=
  fun H locs ls hP hS hl => lv_goto C.1 C.2.1 hd ht (k H locs ls hP hS hl)
theorem g_icmp_eq (C : CX p R s mt args c cc own D cA ad n nL nc ns tb) {x y : Int32} {off : Int} {tgt : Nat} (hd : decode cc pc = .ok (.if_icmp .eq off, 3)) (ht : (pc : Int) + off = (tgt : Int)) {α : Type} {X Y : Option α} {z : α} (h : (if x = y then X else Y) = some z) (kt : X = some z → GG p l e R s mt args below meth c Q D cA ad cf n nL nc ns m tgt lv st) (kf : Y = some z → GG p l e R s mt args below meth c Q D cA ad cf n nL nc ns m (pc + 3) lv st) : GG p l e R s mt args below meth c Q D cA ad cf n nL nc ns m pc lv (.int y :: .int x :: st) :=
  fun H locs ls hP hS hl => lv_icmp_eq C.1 C.2.1 hd ht (fun q => kt (by rw [if_pos q] at h; exact h) H locs ls hP hS hl) (fun q => kf (by rw [if_neg q] at h; exact h) H locs ls hP hS hl)
theorem g_if_eq (C : CX p R s mt args c cc own D cA ad n nL nc ns tb) {x : Int32} {off : Int} {tgt : Nat} (hd : decode cc pc = .ok (.ifCond .eq off, 3)) (ht : (pc : Int) + off = (tgt : Int)) {α : Type} {X Y : Option α} {z : α} (h : (if x = 0 then X else Y) = some z) (kt : X = some z → GG p l e R s mt args below meth c Q D cA ad cf n nL nc ns m tgt lv st) (kf : Y = some z → GG p l e R s mt args below meth c Q D cA ad cf n nL nc ns m (pc + 3) lv st) : GG p l e R s mt args below meth c Q D cA ad cf n nL nc ns m pc lv (.int x :: st) :=
  fun H locs ls hP hS hl => lv_if_eq C.1 C.2.1 hd ht (fun q => kt (by rw [if_pos q] at h; exact h) H locs ls hP hS hl) (fun q => kf (by rw [if_neg q] at h; exact h) H locs ls hP hS hl)
theorem g_icmp_lt (C : CX p R s mt args c cc own D cA ad n nL nc ns tb) {x y : Int32} {off : Int} {tgt : Nat} (hd : decode cc pc = .ok (.if_icmp .lt off, 3)) (ht : (pc : Int) + off = (tgt : Int)) {α : Type} {X Y : Option α} {z : α} (h : (if x < y then X else Y) = some z) (kt : X = some z → GG p l e R s mt args below meth c Q D cA ad cf n nL nc ns m tgt lv st) (kf : Y = some z → GG p l e R s mt args below meth c Q D cA ad cf n nL nc ns m (pc + 3) lv st) : GG p l e R s mt args below meth c Q D cA ad cf n nL nc ns m pc lv (.int y :: .int x :: st) :=
  fun H locs ls hP hS hl => lv_icmp_lt C.1 C.2.1 hd ht (fun q => kt (by rw [if_pos q] at h; exact h) H locs ls hP hS hl) (fun q => kf (by rw [if_neg q] at h; exact h) H locs ls hP hS hl)
theorem g_if_lt (C : CX p R s mt args c cc own D cA ad n nL nc ns tb) {x : Int32} {off : Int} {tgt : Nat} (hd : decode cc pc = .ok (.ifCond .lt off, 3)) (ht : (pc : Int) + off = (tgt : Int)) {α : Type} {X Y : Option α} {z : α} (h : (if x < 0 then X else Y) = some z) (kt : X = some z → GG p l e R s mt args below meth c Q D cA ad cf n nL nc ns m tgt lv st) (kf : Y = some z → GG p l e R s mt args below meth c Q D cA ad cf n nL nc ns m (pc + 3) lv st) : GG p l e R s mt args below meth c Q D cA ad cf n nL nc ns m pc lv (.int x :: st) :=
  fun H locs ls hP hS hl => lv_if_lt C.1 C.2.1 hd ht (fun q => kt (by rw [if_pos q] at h; exact h) H locs ls hP hS hl) (fun q => kf (by rw [if_neg q] at h; exact h) H locs ls hP hS hl)
theorem g_icmp_ge (C : CX p R s mt args c cc own D cA ad n nL nc ns tb) {x y : Int32} {off : Int} {tgt : Nat} (hd : decode cc pc = .ok (.if_icmp .ge off, 3)) (ht : (pc : Int) + off = (tgt : Int)) {α : Type} {X Y : Option α} {z : α} (h : (if y ≤ x then X else Y) = some z) (kt : X = some z → GG p l e R s mt args below meth c Q D cA ad cf n nL nc ns m tgt lv st) (kf : Y = some z → GG p l e R s mt args below meth c Q D cA ad cf n nL nc ns m (pc + 3) lv st) : GG p l e R s mt args below meth c Q D cA ad cf n nL nc ns m pc lv (.int y :: .int x :: st) :=
  fun H locs ls hP hS hl => lv_icmp_ge C.1 C.2.1 hd ht (fun q => kt (by rw [if_pos q] at h; exact h) H locs ls hP hS hl) (fun q => kf (by rw [if_neg q] at h; exact h) H locs ls hP hS hl)
theorem g_if_ge (C : CX p R s mt args c cc own D cA ad n nL nc ns tb) {x : Int32} {off : Int} {tgt : Nat} (hd : decode cc pc = .ok (.ifCond .ge off, 3)) (ht : (pc : Int) + off = (tgt : Int)) {α : Type} {X Y : Option α} {z : α} (h : (if 0 ≤ x then X else Y) = some z) (kt : X = some z → GG p l e R s mt args below meth c Q D cA ad cf n nL nc ns m tgt lv st) (kf : Y = some z → GG p l e R s mt args below meth c Q D cA ad cf n nL nc ns m (pc + 3) lv st) : GG p l e R s mt args below meth c Q D cA ad cf n nL nc ns m pc lv (.int x :: st) :=
  fun H locs ls hP hS hl => lv_if_ge C.1 C.2.1 hd ht (fun q => kt (by rw [if_pos q] at h; exact h) H locs ls hP hS hl) (fun q => kf (by rw [if_neg q] at h; exact h) H locs ls hP hS hl)
theorem g_icmp_gt (C : CX p R s mt args c cc own D cA ad n nL nc ns tb) {x y : Int32} {off : Int} {tgt : Nat} (hd : decode cc pc = .ok (.if_icmp .gt off, 3)) (ht : (pc : Int) + off = (tgt : Int)) {α : Type} {X Y : Option α} {z : α} (h : (if y < x then X else Y) = some z) (kt : X = some z → GG p l e R s mt args below meth c Q D cA ad cf n nL nc ns m tgt lv st) (kf : Y = some z → GG p l e R s mt args below meth c Q D cA ad cf n nL nc ns m (pc + 3) lv st) : GG p l e R s mt args below meth c Q D cA ad cf n nL nc ns m pc lv (.int y :: .int x :: st) :=
  fun H locs ls hP hS hl => lv_icmp_gt C.1 C.2.1 hd ht (fun q => kt (by rw [if_pos q] at h; exact h) H locs ls hP hS hl) (fun q => kf (by rw [if_neg q] at h; exact h) H locs ls hP hS hl)
theorem g_if_gt (C : CX p R s mt args c cc own D cA ad n nL nc ns tb) {x : Int32} {off : Int} {tgt : Nat} (hd : decode cc pc = .ok (.ifCond .gt off, 3)) (ht : (pc : Int) + off = (tgt : Int)) {α : Type} {X Y : Option α} {z : α} (h : (if 0 < x then X else Y) = some z) (kt : X = some z → GG p l e R s mt args below meth c Q D cA ad cf n nL nc ns m tgt lv st) (kf : Y = some z → GG p l e R s mt args below meth c Q D cA ad cf n nL nc ns m (pc + 3) lv st) : GG p l e R s mt args below meth c Q D cA ad cf n nL nc ns m pc lv (.int x :: st) :=
  fun H locs ls hP hS hl => lv_if_gt C.1 C.2.1 hd ht (fun q => kt (by rw [if_pos q] at h; exact h) H locs ls hP hS hl) (fun q => kf (by rw [if_neg q] at h; exact h) H locs ls hP hS hl)
theorem g_icmp_le (C : CX p R s mt args c cc own D cA ad n nL nc ns tb) {x y : Int32} {off : Int} {tgt : Nat} (hd : decode cc pc = .ok (.if_icmp .le off, 3)) (ht : (pc : Int) + off = (tgt : Int)) {α : Type} {X Y : Option α} {z : α} (h : (if x ≤ y then X else Y) = some z) (kt : X = some z → GG p l e R s mt args below meth c Q D cA ad cf n nL nc ns m tgt lv st) (kf : Y = some z → GG p l e R s mt args below meth c Q D cA ad cf n nL nc ns m (pc + 3) lv st) : GG p l e R s mt args below meth c Q D cA ad cf n nL nc ns m pc lv (.int y :: .int x :: st) :=
  fun H locs ls hP hS hl => lv_icmp_le C.1 C.2.1 hd ht (fun q => kt (by rw [if_pos q] at h; exact h) H locs ls hP hS hl) (fun q => kf (by rw [if_neg q] at h; exact h) H locs ls hP hS hl)
theorem g_if_le (C : CX p R s mt args c cc own D cA ad n nL nc ns tb) {x : Int32} {off : Int} {tgt : Nat} (hd : decode cc pc = .ok (.ifCond .le off, 3)) (ht : (pc : Int) + off = (tgt : Int)) {α : Type} {X Y : Option α} {z : α} (h : (if x ≤ 0 then X else Y) = some z) (kt : X = some z → GG p l e R s mt args below meth c Q D cA ad cf n nL nc ns m tgt lv st) (kf : Y = some z → GG p l e R s mt args below meth c Q D cA ad cf n nL nc ns m (pc + 3) lv st) : GG p l e R s mt args below meth c Q D cA ad cf n nL nc ns m pc lv (.int x :: st) :=
  fun H locs ls hP hS hl => lv_if_le C.1 C.2.1 hd ht (fun q => kt (by rw [if_pos q] at h; exact h) H locs ls hP hS hl) (fun q => kf (by rw [if_neg q] at h; exact h) H locs ls hP hS hl)
theorem g_icmp_ne (C : CX p R s mt args c cc own D cA ad n nL nc ns tb) {x y : Int32} {off : Int} {tgt : Nat} (hd : decode cc pc = .ok (.if_icmp .ne off, 3)) (ht : (pc : Int) + off = (tgt : Int)) {α : Type} {X Y : Option α} {z : α} (h : (if x = y then X else Y) = some z) (kf : X = some z → GG p l e R s mt args below meth c Q D cA ad cf n nL nc ns m (pc + 3) lv st) (kt : Y = some z → GG p l e R s mt args below meth c Q D cA ad cf n nL nc ns m tgt lv st) : GG p l e R s mt args below meth c Q D cA ad cf n nL nc ns m pc lv (.int y :: .int x :: st) :=
  fun H locs ls hP hS hl => lv_icmp_ne C.1 C.2.1 hd ht (fun q => kt (by rw [if_neg q] at h; exact h) H locs ls hP hS hl) (fun q => kf (by rw [if_pos q] at h; exact h) H locs ls hP hS hl)
theorem g_if_ne (C : CX p R s mt args c cc own D cA ad n nL nc ns tb) {x : Int32} {off : Int} {tgt : Nat} (hd : decode cc pc = .ok (.ifCond .ne off, 3)) (ht : (pc : Int) + off = (tgt : Int)) {α : Type} {X Y : Option α} {z : α} (h : (if x = 0 then X else Y) = some z) (kf : X = some z → GG p l e R s mt args below meth c Q D cA ad cf n nL nc ns m (pc + 3) lv st) (kt : Y = some z → GG p l e R s mt args below meth c Q D cA ad cf n nL nc ns m tgt lv st) : GG p l e R s mt args below meth c Q D cA ad cf n nL nc ns m pc lv (.int x :: st) :=
  fun H locs ls hP hS hl => lv_if_ne C.1 C.2.1 hd ht (fun q => kt (by rw [if_neg q] at h; exact h) H locs ls hP hS hl) (fun q => kf (by rw [if_pos q] at h; exact h) H locs ls hP hS hl)
theorem g_tbl (C : CX p R s mt args c cc own D cA ad n nL nc ns tb) {dflt lo hi : Int} {offs : Array Int} {len : Nat} {x : Int32} (hd : decode cc pc = .ok (.tableswitch dflt lo hi offs, len)) {off : Int} {tgt : Nat} (v : Int32) (hx : x = v) (h1 : ¬ v.toInt < lo ∧ ¬ hi < v.toInt) (ho : offs[(v.toInt - lo).toNat]? = some off) (ht : (pc : Int) + off = (tgt : Int)) (k : GG p l e R s mt args below meth c Q D cA ad cf n nL nc ns m tgt lv st) : GG p l e R s mt args below meth c Q D cA ad cf n nL nc ns m pc lv (.int x :: st) :=
  fun H locs ls hP hS hl => lv_tableIn C.1 C.2.1 hd (by rw [hx]; exact h1.1) (by rw [hx]; exact h1.2) (by rw [hx]; exact ho) ht (k H locs ls hP hS hl)
theorem g_tblOut (C : CX p R s mt args c cc own D cA ad n nL nc ns tb) {dflt lo hi : Int} {offs : Array Int} {len : Nat} {x : Int32} (hd : decode cc pc = .ok (.tableswitch dflt lo hi offs, len)) {tgt : Nat} (h1 : x.toInt < lo ∨ hi < x.toInt) (ht : (pc : Int) + dflt = (tgt : Int)) (k : GG p l e R s mt args below meth c Q D cA ad cf n nL nc ns m tgt lv st) : GG p l e R s mt args below meth c Q D cA ad cf n nL nc ns m pc lv (.int x :: st) :=
  fun H locs ls hP hS hl => lv_tableOut C.1 C.2.1 hd h1 ht (k H locs ls hP hS hl)
theorem g_lookup (C : CX p R s mt args c cc own D cA ad n nL nc ns tb) {dflt : Int} {ps : Array (Int × Int)} {len : Nat} {x : Int32} (hd : decode cc pc = .ok (.lookupswitch dflt ps, len)) (hs : (ps.toList.zip (ps.toList.drop 1)).all (fun (a, next) => a.1 < next.1) = true) {off : Int} {tgt : Nat} (ho : Op.lookupswitch.offset ps.toList dflt x.toInt = off) (ht : (pc : Int) + off = (tgt : Int)) (k : GG p l e R s mt args below meth c Q D cA ad cf n nL nc ns m tgt lv st) : GG p l e R s mt args below meth c Q D cA ad cf n nL nc ns m pc lv (.int x :: st) :=
  fun H locs ls hP hS hl => lv_lookup C.1 C.2.1 hd hs ho ht (k H locs ls hP hS hl)
theorem FO_at {k ci : Nat} {fs : (Nat → Nat) → Nat → (Nat → Int32) → (Nat → Int64) → List Value} (hf : FO cf n k ci fs) : (WD cf n cA ad m)[k]? = some (ad k, .inr (ci, fs ad k (m.1 k) (m.2 k))) := by
  rw [WD_at hf.1, hf.2]
theorem FI_at {k len : Nat} (hf : FI cf n k len) : (WD cf n cA ad m)[k]? = some (ad k, .inl (cA 0, len, .inl (m.1 k))) := by
  rw [WD_at hf.1, hf.2]
theorem FZ_at {k len : Nat} (hf : FZ cf n k len) : (WD cf n cA ad m)[k]? = some (ad k, .inl (cA 2, len, .inl (m.1 k))) := by
  rw [WD_at hf.1, hf.2]
theorem FL_at {k len : Nat} (hf : FL cf n k len) : (WD cf n cA ad m)[k]? = some (ad k, .inl (cA 1, len, .inr (.inl (m.2 k)))) := by
  rw [WD_at hf.1, hf.2]
theorem FQ_at {k t len : Nat} {f : Nat → Nat} (hf : FQ cf n k t len f) : (WD cf n cA ad m)[k]? = some (ad k, .inl (cA t, len, .inr (.inr (.inr (.inr (fun i => some (ad (f i)))))))) := by
  rw [WD_at hf.1, hf.2]
theorem g_get (C : CX p R s mt args c cc own D cA ad n nL nc ns tb) {k j index ci N : Nat} {Cn : String} {T : u_T} {fs : (Nat → Nat) → Nat → (Nat → Int32) → (Nat → Int64) → List Value} (hcl : ∀ w ∈ u_ws Cn T N, w.before args s = true) (hf : FO cf n k ci fs) (hc : vwCl[ci]? = some (Cn, T, N)) (hj : j < N) (hlk : Cond.fieldLink own index (T j).1 (T j).2.1 (T j).2.2.1 ∈ WL) {v : Value} (hv : (fs ad k (m.1 k) (m.2 k))[j]? = some v) (hd : decode cc pc = .ok (.getfield index, 3)) (kk : GG p l e R s mt args below meth c Q D cA ad cf n nL nc ns m (pc + 3) lv (v :: st)) : GG p l e R s mt args below meth c Q D cA ad cf n nL nc ns m pc lv (.ref (ad k) :: st) :=
  fun H locs ls hP hS hl => va_get C.1 C.2.1 hcl (fun _ h => h) C.2.2.2.1 C.2.2.2.2.2.1 hP k (FO_at hf) hc j hj (C.2.2.2.2.1 _ hlk) (fun _ h => h) hv hd (kk H locs ls hP hS hl)
theorem g_put (C : CX p R s mt args c cc own D cA ad n nL nc ns tb) {k j index ci N : Nat} {Cn : String} {T : u_T} {fs : (Nat → Nat) → Nat → (Nat → Int32) → (Nat → Int64) → List Value} (hcl : ∀ w ∈ u_ws Cn T N, w.before args s = true) (hf : FO cf n k ci fs) (hc : vwCl[ci]? = some (Cn, T, N)) (hj : j < N) (hlk : Cond.fieldLink own index (T j).1 (T j).2.1 (T j).2.2.1 ∈ WL) (ty0 : Nat → FieldType) (hty : ∀ k, k < N → parseFieldDescriptor (T k).2.2.1 = some (ty0 k)) (hnm : ∀ a, a < N → ∀ b, b < N → a ≠ b → (T a).2.1 ≠ (T b).2.1) (hfin : (T j).2.2.2 = false) {v : Value} (hn : narrow (ty0 j) v = v) (hfit : fits (ty0 j) v = true) {m' : MM} (he : fs ad k (m'.1 k) (m'.2 k) = (fs ad k (m.1 k) (m.2 k)).set j v) (h1 : ∀ q, q ≠ k → m'.1 q = m.1 q) (h2 : ∀ q, q ≠ k → m'.2 q = m.2 q) (hlen : j < (fs ad k (m.1 k) (m.2 k)).length) (hd : decode cc pc = .ok (.putfield index, 3)) {α : Type} {K : MM → Option α} {z : α} (h : Lt m' K = some z) (kk : ∀ m', K m' = some z → GG p l e R s mt args below meth c Q D cA ad cf n nL nc ns m' (pc + 3) lv st) : GG p l e R s mt args below meth c Q D cA ad cf n nL nc ns m pc lv (v :: .ref (ad k) :: st) :=
  fun H locs ls hP hS hl => va_put C.1 C.2.1 hcl (fun _ h => h) ty0 hty hnm C.2.2.2.1 C.2.2.2.2.2.1 hP (WD_D C.2.2.2.2.2.2.1 m) hS k (FO_at hf) hc j hj (C.2.2.2.2.1 _ hlk) (fun _ h => h) hfin (hty j hj) hn hfit hlen hd (fun H1 locs1 hP1 hD1 hS1 => by
    rw [WD_set (m := m) (m' := m') hf.1 (by rw [hf.2, he]) h1 h2] at hP1
    exact kk m' h H1 locs1 ls hP1 hS1 hl)
theorem g_putI (C : CX p R s mt args c cc own D cA ad n nL nc ns tb) {k j index ci N : Nat} {Cn : String} {T : u_T} {fs : (Nat → Nat) → Nat → (Nat → Int32) → (Nat → Int64) → List Value} (hcl : ∀ w ∈ u_ws Cn T N, w.before args s = true) (hf : FO cf n k ci fs) (hc : vwCl[ci]? = some (Cn, T, N)) (hj : j < N) (hlk : Cond.fieldLink own index (T j).1 (T j).2.1 (T j).2.2.1 ∈ WL) (ty0 : Nat → FieldType) (hty : ∀ k, k < N → parseFieldDescriptor (T k).2.2.1 = some (ty0 k)) (hnm : ∀ a, a < N → ∀ b, b < N → a ≠ b → (T a).2.1 ≠ (T b).2.1) (hfin : (T j).2.2.2 = false) (hi : ty0 j = .int) {v : Int32} (he : ∀ ad k r g v, fs ad k (upd r j v) g = (fs ad k r g).set j (.int v)) (hlen : ∀ ad k r g, j < (fs ad k r g).length) (hd : decode cc pc = .ok (.putfield index, 3)) {α : Type} {K : MM → Option α} {z : α} (h : Lt (wI m k j v) K = some z) (kk : ∀ m', K m' = some z → GG p l e R s mt args below meth c Q D cA ad cf n nL nc ns m' (pc + 3) lv st) : GG p l e R s mt args below meth c Q D cA ad cf n nL nc ns m pc lv (.int v :: .ref (ad k) :: st) :=
  g_put C hcl hf hc hj hlk ty0 hty hnm hfin (by rw [hi]; exact vp_nar_int v) (by rw [hi]; rfl) (by rw [wI_at]; exact he _ _ _ _ _) (fun q hq => wI_ne hq) (fun _ _ => rfl) (hlen _ _ _ _) hd h kk
theorem g_putZ (C : CX p R s mt args c cc own D cA ad n nL nc ns tb) {k j index ci N : Nat} {Cn : String} {T : u_T} {fs : (Nat → Nat) → Nat → (Nat → Int32) → (Nat → Int64) → List Value} (hcl : ∀ w ∈ u_ws Cn T N, w.before args s = true) (hf : FO cf n k ci fs) (hc : vwCl[ci]? = some (Cn, T, N)) (hj : j < N) (hlk : Cond.fieldLink own index (T j).1 (T j).2.1 (T j).2.2.1 ∈ WL) (ty0 : Nat → FieldType) (hty : ∀ k, k < N → parseFieldDescriptor (T k).2.2.1 = some (ty0 k)) (hnm : ∀ a, a < N → ∀ b, b < N → a ≠ b → (T a).2.1 ≠ (T b).2.1) (hfin : (T j).2.2.2 = false) (hi : ty0 j = .boolean) {v : Int32} (he : ∀ ad k r g v, fs ad k (upd r j v) g = (fs ad k r g).set j (.int v)) (hlen : ∀ ad k r g, j < (fs ad k r g).length) (hd : decode cc pc = .ok (.putfield index, 3)) {α : Type} {K : MM → Option α} {z : α} (h : Gu (bz v) (Lt (wI m k j v) K) = some z) (kk : ∀ m', K m' = some z → GG p l e R s mt args below meth c Q D cA ad cf n nL nc ns m' (pc + 3) lv st) : GG p l e R s mt args below meth c Q D cA ad cf n nL nc ns m pc lv (.int v :: .ref (ad k) :: st) :=
  g_put C hcl hf hc hj hlk ty0 hty hnm hfin (by rw [hi]; exact bz_nar (Gu_inv h).1) (by rw [hi]; exact bz_fit (Gu_inv h).1) (by rw [wI_at]; exact he _ _ _ _ _) (fun q hq => wI_ne hq) (fun _ _ => rfl) (hlen _ _ _ _) hd (Gu_inv h).2 kk
theorem g_putL (C : CX p R s mt args c cc own D cA ad n nL nc ns tb) {k j index ci N : Nat} {Cn : String} {T : u_T} {fs : (Nat → Nat) → Nat → (Nat → Int32) → (Nat → Int64) → List Value} (hcl : ∀ w ∈ u_ws Cn T N, w.before args s = true) (hf : FO cf n k ci fs) (hc : vwCl[ci]? = some (Cn, T, N)) (hj : j < N) (hlk : Cond.fieldLink own index (T j).1 (T j).2.1 (T j).2.2.1 ∈ WL) (ty0 : Nat → FieldType) (hty : ∀ k, k < N → parseFieldDescriptor (T k).2.2.1 = some (ty0 k)) (hnm : ∀ a, a < N → ∀ b, b < N → a ≠ b → (T a).2.1 ≠ (T b).2.1) (hfin : (T j).2.2.2 = false) (hi : ty0 j = .long) {v : Int64} (he : ∀ ad k r g v, fs ad k r (vp_updL g j v) = (fs ad k r g).set j (.long v)) (hlen : ∀ ad k r g, j < (fs ad k r g).length) (hd : decode cc pc = .ok (.putfield index, 3)) {α : Type} {K : MM → Option α} {z : α} (h : Lt (wL m k j v) K = some z) (kk : ∀ m', K m' = some z → GG p l e R s mt args below meth c Q D cA ad cf n nL nc ns m' (pc + 3) lv st) : GG p l e R s mt args below meth c Q D cA ad cf n nL nc ns m pc lv (.long v :: .ref (ad k) :: st) :=
  g_put C hcl hf hc hj hlk ty0 hty hnm hfin (by rw [hi]; rfl) (by rw [hi]; rfl) (m' := wL m k j v) (by rw [wL_at]; exact he _ _ _ _ _) (fun _ _ => rfl) (fun q hq => wL_ne hq) (hlen _ _ _ _) hd h kk
theorem g_iald (C : CX p R s mt args c cc own D cA ad n nL nc ns tb) {k len : Nat} (hf : FI cf n k len) {i : Int32} (hd : decode cc pc = .ok (.iaload, 1)) {α : Type} {K : Option α} {z : α} (h : Gu (inB i len) K = some z) (kk : K = some z → GG p l e R s mt args below meth c Q D cA ad cf n nL nc ns m (pc + 1) lv (.int (rI m k (ix i)) :: st)) : GG p l e R s mt args below meth c Q D cA ad cf n nL nc ns m pc lv (.int i :: .ref (ad k) :: st) :=
  fun H locs ls hP hS hl => va_iald C.1 C.2.1 C.2.2.2.2.2.1 hP k 0 (FI_at hf) rfl (inB_in (Gu_inv h).1) hd (kk (Gu_inv h).2 H locs ls hP hS hl)
theorem g_lald (C : CX p R s mt args c cc own D cA ad n nL nc ns tb) {k len : Nat} (hf : FL cf n k len) {i : Int32} (hd : decode cc pc = .ok (.laload, 1)) {α : Type} {K : Option α} {z : α} (h : Gu (inB i len) K = some z) (kk : K = some z → GG p l e R s mt args below meth c Q D cA ad cf n nL nc ns m (pc + 1) lv (.long (rL m k (ix i)) :: st)) : GG p l e R s mt args below meth c Q D cA ad cf n nL nc ns m pc lv (.int i :: .ref (ad k) :: st) :=
  fun H locs ls hP hS hl => va_lald C.1 C.2.1 C.2.2.2.2.2.1 hP k 1 (FL_at hf) rfl (inB_in (Gu_inv h).1) hd (kk (Gu_inv h).2 H locs ls hP hS hl)
theorem g_zald (C : CX p R s mt args c cc own D cA ad n nL nc ns tb) {k len : Nat} (hf : FZ cf n k len) {i : Int32} (hd : decode cc pc = .ok (.baload, 1)) {α : Type} {K : Option α} {z : α} (h : Gu (inB i len) K = some z) (kk : K = some z → GG p l e R s mt args below meth c Q D cA ad cf n nL nc ns m (pc + 1) lv (.int (rI m k (ix i)) :: st)) : GG p l e R s mt args below meth c Q D cA ad cf n nL nc ns m pc lv (.int i :: .ref (ad k) :: st) :=
  fun H locs ls hP hS hl => va_zald C.1 C.2.1 C.2.2.2.2.2.1 hP k 2 (FZ_at hf) rfl (inB_in (Gu_inv h).1) hd (kk (Gu_inv h).2 H locs ls hP hS hl)
theorem g_aald (C : CX p R s mt args c cc own D cA ad n nL nc ns tb) {k t len : Nat} {Cn : String} {f : Nat → Nat} (hf : FQ cf n k t len f) (ht : ∀ cA, (tyL cA)[t]? = some (cA t, .object Cn)) {i : Int32} (hd : decode cc pc = .ok (.aaload, 1)) {α : Type} {K : Option α} {z : α} (h : Gu (inB i len) K = some z) (kk : inB i len = true → K = some z → GG p l e R s mt args below meth c Q D cA ad cf n nL nc ns m (pc + 1) lv (.ref (ad (f (ix i))) :: st)) : GG p l e R s mt args below meth c Q D cA ad cf n nL nc ns m pc lv (.int i :: .ref (ad k) :: st) :=
  fun H locs ls hP hS hl => va_aldq C.1 C.2.1 C.2.2.2.2.2.1 hP k t (FQ_at hf) (ht cA) (inB_in (Gu_inv h).1) hd (kk (Gu_inv h).1 (Gu_inv h).2 H locs ls hP hS hl)
theorem g_iast (C : CX p R s mt args c cc own D cA ad n nL nc ns tb) {k len : Nat} (hf : FI cf n k len) {i x : Int32} (hd : decode cc pc = .ok (.iastore, 1)) {α : Type} {K : MM → Option α} {z : α} (h : Gu (inB i len) (Lt (wI m k (ix i) x) K) = some z) (kk : ∀ m', K m' = some z → GG p l e R s mt args below meth c Q D cA ad cf n nL nc ns m' (pc + 1) lv st) : GG p l e R s mt args below meth c Q D cA ad cf n nL nc ns m pc lv (.int x :: .int i :: .ref (ad k) :: st) :=
  fun H locs ls hP hS hl => va_iast C.1 C.2.1 C.2.2.2.2.2.1 hP (WD_D C.2.2.2.2.2.2.1 m) hS k 0 (FI_at hf) rfl (inB_in (Gu_inv h).1) hd (fun H1 locs1 hP1 hD1 hS1 => by
    rw [WD_set (m := m) (m' := wI m k (ix i) x) hf.1 (by rw [hf.2, wI_at]) (fun q hq => wI_ne hq) (fun _ _ => rfl)] at hP1
    exact kk _ (Gu_inv h).2 H1 locs1 ls hP1 hS1 hl)
theorem g_zast (C : CX p R s mt args c cc own D cA ad n nL nc ns tb) {k len : Nat} (hf : FZ cf n k len) {i x : Int32} (hd : decode cc pc = .ok (.bastore, 1)) {α : Type} {K : MM → Option α} {z : α} (h : Gu (inB i len && bz x) (Lt (wI m k (ix i) x) K) = some z) (kk : ∀ m', K m' = some z → GG p l e R s mt args below meth c Q D cA ad cf n nL nc ns m' (pc + 1) lv st) : GG p l e R s mt args below meth c Q D cA ad cf n nL nc ns m pc lv (.int x :: .int i :: .ref (ad k) :: st) :=
  fun H locs ls hP hS hl => va_zast C.1 C.2.1 C.2.2.2.2.2.1 hP (WD_D C.2.2.2.2.2.2.1 m) hS k 2 (FZ_at hf) rfl (inB_in (Bool.and_eq_true _ _ ▸ (Gu_inv h).1).1) hd (fun H1 locs1 hP1 hD1 hS1 => by
    rw [bz_vp (Bool.and_eq_true _ _ ▸ (Gu_inv h).1).2, WD_set (m := m) (m' := wI m k (ix i) x) hf.1 (by rw [hf.2, wI_at]) (fun q hq => wI_ne hq) (fun _ _ => rfl)] at hP1
    exact kk _ (Gu_inv h).2 H1 locs1 ls hP1 hS1 hl)
theorem g_last (C : CX p R s mt args c cc own D cA ad n nL nc ns tb) {k len : Nat} (hf : FL cf n k len) {i : Int32} {x : Int64} (hd : decode cc pc = .ok (.lastore, 1)) {α : Type} {K : MM → Option α} {z : α} (h : Gu (inB i len) (Lt (wL m k (ix i) x) K) = some z) (kk : ∀ m', K m' = some z → GG p l e R s mt args below meth c Q D cA ad cf n nL nc ns m' (pc + 1) lv st) : GG p l e R s mt args below meth c Q D cA ad cf n nL nc ns m pc lv (.long x :: .int i :: .ref (ad k) :: st) :=
  fun H locs ls hP hS hl => va_last C.1 C.2.1 C.2.2.2.2.2.1 hP (WD_D C.2.2.2.2.2.2.1 m) hS k 1 (FL_at hf) rfl (inB_in (Gu_inv h).1) hd (fun H1 locs1 hP1 hD1 hS1 => by
    rw [WD_set (m := m) (m' := wL m k (ix i) x) hf.1 (by rw [hf.2, wL_at]) (fun _ _ => rfl) (fun q hq => wL_ne hq)] at hP1
    exact kk _ (Gu_inv h).2 H1 locs1 ls hP1 hS1 hl)
theorem g_alen (C : CX p R s mt args c cc own D cA ad n nL nc ns tb) {k len : Nat} (hf : FI cf n k len) {v : Int32} (hv : Int32.ofNat len = v) (hd : decode cc pc = .ok (.arraylength, 1)) (kk : GG p l e R s mt args below meth c Q D cA ad cf n nL nc ns m (pc + 1) lv (.int v :: st)) : GG p l e R s mt args below meth c Q D cA ad cf n nL nc ns m pc lv (.ref (ad k) :: st) :=
  fun H locs ls hP hS hl => va_alen C.1 C.2.1 C.2.2.2.2.2.1 hP k 0 (FI_at hf) rfl hv hd (kk H locs ls hP hS hl)
theorem g_copy (C : CX p R s mt args c cc own D cA ad n nL nc ns tb) {k k2 len len2 index : Nat} (hf : FI cf n k len) (hf2 : FI cf n k2 len2) (hlk : Cond.methodLink own index arraycopyName ∈ WL) (hnat : Cond.native arraycopyName ∈ WL) (hst : Cond.static arraycopyName ∈ WL) (hini : Cond.initialized "java/lang/System" ∈ WL) {i j w : Int32} (hR : 1 ≤ R.frames ∧ 8 + (nativeFrameWords "java/lang/System" "arraycopy" 5 + 11) ≤ R.locals) (hsum : (st.map fun v => v.category).sum ≤ 8) (hd : decode cc pc = .ok (.invokestatic index, 3)) {α : Type} {K : MM → Option α} {z : α} (h : Gu (cpyOk i j w len len2) (Lt (cpy m k i k2 j w) K) = some z) (kk : ∀ m', K m' = some z → GG p l e R s mt args below meth c Q D cA ad cf n nL nc ns m' (pc + 3) lv st) : GG p l e R s mt args below meth c Q D cA ad cf n nL nc ns m pc lv (.int w :: .int j :: .ref (ad k2) :: .int i :: .ref (ad k) :: st) := by
  intro H locs ls hP hS hl
  have h0 := (Gu_inv h).1
  unfold cpyOk at h0
  simp only [Bool.and_eq_true, decide_eq_true_eq] at h0
  obtain ⟨a1, a2, a3, a4, a5⟩ := h0
  refine va_copyi C.1 C.2.1 (C.2.2.1.trans hl.1.symm) C.2.2.2.1 (C.2.2.2.2.1 _ hlk) (C.2.2.2.2.1 _ hnat) (C.2.2.2.2.1 _ hst) (C.2.2.2.2.1 _ hini) C.2.2.2.2.2.1 hP (WD_D C.2.2.2.2.2.2.1 m) hS k k2 0 0 (FI_at hf) (FI_at hf2) rfl rfl rfl (Int32.not_lt.mpr a1) (Int32.not_lt.mpr a2) (Int32.not_lt.mpr a3) a4 a5 (fun _ _ => rfl) hR.1 (by have := hR.2; omega) hd (fun H1 locs1 hP1 hD1 hS1 => ?_)
  rw [WD_set (m := m) (m' := cpy m k i k2 j w) hf2.1 (by rw [hf2.2]; unfold cpy; rw [wA_at]) (fun q hq => by unfold cpy; rw [wA_ne hq]) (fun _ _ => rfl)] at hP1
  exact kk _ (Gu_inv h).2 H1 locs1 ls hP1 hS1 hl
theorem g_gets (C : CX p R s mt args c cc own D cA ad n nL nc ns tb) {index : Nat} (q : Nat) (hq : q < 4) (hlk : Cond.fieldLink own index "BothHandsFull" (stN q) "[I" ∈ WL) (hd : decode cc pc = .ok (.getstatic index, 3)) (kk : GG p l e R s mt args below meth c Q D cA ad cf n nL nc ns m (pc + 3) lv (.ref (tb q) :: st)) : GG p l e R s mt args below meth c Q D cA ad cf n nL nc ns m pc lv st :=
  fun H locs ls hP hS hl => va_gets C.1 C.2.1 (C.2.2.2.2.2.2.2.1.1 q hq).1 hS C.2.2.2.1 (C.2.2.2.2.1 _ hlk) (fun _ h => h) hd (kk H locs ls hP hS hl)
theorem g_getsN (C : CX p R s mt args c cc own D cA ad n nL nc ns tb) {index : Nat} {host : String} (q : Nat) (hq : q < 4) (hlk : Cond.fieldLinkNest own index "BothHandsFull" (stN q) "[I" host ∈ nestW) (hd : decode cc pc = .ok (.getstatic index, 3)) (kk : GG p l e R s mt args below meth c Q D cA ad cf n nL nc ns m (pc + 3) lv (.ref (tb q) :: st)) : GG p l e R s mt args below meth c Q D cA ad cf n nL nc ns m pc lv st :=
  fun H locs ls hP hS hl => va_getsN C.1 C.2.1 (C.2.2.2.2.2.2.2.1.1 q hq).1 hS C.2.2.2.1 (va_Nw.use rfl (C.2.2.2.2.2.2.2.1.2.1 _ hlk)) (fun _ h => h) hd (kk H locs ls hP hS hl)
theorem g_sald (C : CX p R s mt args c cc own D cA ad n nL nc ns tb) {q : Nat} (hq : q < 4) {i : Int32} (hd : decode cc pc = .ok (.iaload, 1)) {α : Type} {K : Option α} {z : α} (h : Gu (inB i 6) K = some z) (kk : K = some z → GG p l e R s mt args below meth c Q D cA ad cf n nL nc ns m (pc + 1) lv (.int (stT q (ix i)) :: st)) : GG p l e R s mt args below meth c Q D cA ad cf n nL nc ns m pc lv (.int i :: .ref (tb q) :: st) := by
  intro H locs ls hP hS hl
  obtain ⟨cell, h1, h2, h3, h4, h5, h6, h7⟩ := (C.2.2.2.2.2.2.2.1.1 q hq).2
  have hi := inB_in (Gu_inv h).1
  have hlt : i.toNatClampNeg < 6 := Nat.not_le.mp fun q => hi (Or.inr q)
  exact W.iald (v := .int (stT q (ix i))) C.1 C.2.1 (by rw [hS.2.1 _ (Array.getElem?_eq_some_iff.mp h1).1 h7]; exact h1) h2 h3 (fun q => hi (q.imp_right (fun z => Nat.le_trans h4 z))) (h6 _ hlt) rfl rfl hd (kk (Gu_inv h).2 H locs ls hP hS hl)
theorem g_max (C : CX p R s mt args c cc own D cA ad n nL nc ns tb) {index : Nat} (hlk : Cond.methodLink own index Lib.Math.max.name ∈ WL) (hst : Cond.static Lib.Math.max.name ∈ WL) (hini : Cond.initialized "java/lang/Math" ∈ WL) (hcd : Cond.code Lib.Math.max.name Lib.Math.max.code 2 (some .int) ∈ WL) (hR : 1 ≤ R.frames ∧ 21 ≤ R.locals) (hsum : (st.map fun v => v.category).sum ≤ 8) {x y : Int32} (hd : decode cc pc = .ok (.invokestatic index, 3)) (kk : GG p l e R s mt args below meth c Q D cA ad cf n nL nc ns m (pc + 3) lv (.int (maxI x y) :: st)) : GG p l e R s mt args below meth c Q D cA ad cf n nL nc ns m pc lv (.int y :: .int x :: st) :=
  fun H locs ls hP hS hl => va_mmax C.1 C.2.1 (C.2.2.1.trans hl.1.symm) C.2.2.2.1 (C.2.2.2.2.1 _ hlk) (C.2.2.2.2.1 _ hst) (C.2.2.2.2.1 _ hini) (C.2.2.2.2.1 _ hcd) hR.1 (by have := hR.2; omega) C.2.2.2.2.2.2.2.2.1 C.2.2.2.2.2.2.2.2.2 hd (kk H locs ls hP hS hl)
theorem g_min (C : CX p R s mt args c cc own D cA ad n nL nc ns tb) {index : Nat} (hlk : Cond.methodLink own index Lib.Math.min.name ∈ WL) (hst : Cond.static Lib.Math.min.name ∈ WL) (hini : Cond.initialized "java/lang/Math" ∈ WL) (hcd : Cond.code Lib.Math.min.name Lib.Math.min.code 2 (some .int) ∈ WL) (hR : 1 ≤ R.frames ∧ 21 ≤ R.locals) (hsum : (st.map fun v => v.category).sum ≤ 8) {x y : Int32} (hd : decode cc pc = .ok (.invokestatic index, 3)) (kk : GG p l e R s mt args below meth c Q D cA ad cf n nL nc ns m (pc + 3) lv (.int (minI x y) :: st)) : GG p l e R s mt args below meth c Q D cA ad cf n nL nc ns m pc lv (.int y :: .int x :: st) :=
  fun H locs ls hP hS hl => va_mmin C.1 C.2.1 (C.2.2.1.trans hl.1.symm) C.2.2.2.1 (C.2.2.2.2.1 _ hlk) (C.2.2.2.2.1 _ hst) (C.2.2.2.2.1 _ hini) (C.2.2.2.2.1 _ hcd) hR.1 (by have := hR.2; omega) C.2.2.2.2.2.2.2.2.1 C.2.2.2.2.2.2.2.2.2 hd (kk H locs ls hP hS hl)
theorem g_iret (C : CX p R s mt args c cc own D cA ad n nL nc ns tb) {m' : MM} {x : Int32} (hr : meth.sig.returnType = some .int) (hlk : meth.locks = false) (hd : decode cc pc = .ok (.ireturn, 1)) (hm : m = m') : GG p l e R s mt args below meth c (MQ below (QF D cA ad cf n (some (.int x)) m' s.heap.size) args s nc ns (AA ad n s.heap.size)) D cA ad cf n nL nc ns m pc lv [.int x] := by
  subst hm
  intro H locs ls hP hS hl
  exact W.iret C.1 C.2.1 hr  (fun t ht hW => ⟨⟨rfl, by rw [ht]; exact hP⟩, hS.F ht⟩) hS.2.2 hd hlk
theorem g_zret (C : CX p R s mt args c cc own D cA ad n nL nc ns tb) {m' : MM} {x : Int32} (hr : meth.sig.returnType = some .boolean) (hlk : meth.locks = false) (hd : decode cc pc = .ok (.ireturn, 1)) (hz : bz x = true) (hm : m = m') : GG p l e R s mt args below meth c (MQ below (QF D cA ad cf n (some (.int x)) m' s.heap.size) args s nc ns (AA ad n s.heap.size)) D cA ad cf n nL nc ns m pc lv [.int x] := by
  subst hm
  intro H locs ls hP hS hl
  exact W.zret C.1 C.2.1 hr (bz_nar hz) (fun t ht hW => ⟨⟨rfl, by rw [ht]; exact hP⟩, hS.F ht⟩) hS.2.2 hd hlk
theorem g_lret (C : CX p R s mt args c cc own D cA ad n nL nc ns tb) {m' : MM} {x : Int64} (hr : meth.sig.returnType = some .long) (hlk : meth.locks = false) (hd : decode cc pc = .ok (.lreturn, 1)) (hm : m = m') : GG p l e R s mt args below meth c (MQ below (QF D cA ad cf n (some (.long x)) m' s.heap.size) args s nc ns (AA ad n s.heap.size)) D cA ad cf n nL nc ns m pc lv [.long x] := by
  subst hm
  intro H locs ls hP hS hl
  exact W.lret C.1 C.2.1 hr  (fun t ht hW => ⟨⟨rfl, by rw [ht]; exact hP⟩, hS.F ht⟩) hS.2.2 hd hlk
theorem g_vret (C : CX p R s mt args c cc own D cA ad n nL nc ns tb) {m' : MM} (hr : meth.sig.returnType = none) (hlk : meth.locks = false) (hd : decode cc pc = .ok (.return_, 1)) (hm : m = m') : GG p l e R s mt args below meth c (MQ below (QF D cA ad cf n none m' s.heap.size) args s nc ns (AA ad n s.heap.size)) D cA ad cf n nL nc ns m pc lv [] := by
  subst hm
  intro H locs ls hP hS hl
  exact W.vret C.1 C.2.1 hr  (fun t ht hW => ⟨⟨rfl, by rw [ht]; exact hP⟩, hS.F ht⟩) hS.2.2 hd hlk

theorem AA_le {sz sz2 : Nat} (h : sz ≤ sz2) : ∀ q, AA ad n sz2 q → AA ad n sz q := fun q hq => hq.imp_right (fun z => Nat.le_trans h z)
theorem g_ran {H : Heap} {locs : List Loc} {ls : Array Slot} {rest stk : List Value} {a : Array Value} {o : Option Value} {m' : MM} (hS : va_S (AA ad n s.heap.size) s.heap H locs) (hl : lv_has ls nL lv) (hr : va_Run p l e R s mt args below meth c H locs nc ns 0 0 (F0 mt pc ls stk) rest (QF D cA ad cf n o m' H.size a) (AA ad n H.size)) (kk : GG p l e R s mt args below meth c Q D cA ad cf n nL nc ns m' (pc + 3) lv (o.toList ++ rest)) : W p l e R s mt args below meth c H locs nc ns Q (F0 mt pc ls stk) := by
  intro T hT X
  obtain ⟨v, st₀, t, T', L, h0, X', hL, e1, e2, ⟨⟨hv, hPt⟩, hz, hk⟩, st⟩ := hr T hT X
  cases hv
  rw [h0] at hz hk
  obtain ⟨t2, a1, b1⟩ := kk T'.heap (locs ++ L) ls (by rw [e1]; exact hPt) ⟨Nat.le_trans hS.1 (by rw [e1]; exact hz), fun q h1 h2 => by rw [e1, hk q (Nat.lt_of_lt_of_le h1 hS.1) (fun z => h2 (AA_le hS.1 q z))]; exact hS.2.1 q h1 h2, fun q hq => by
      rcases List.mem_append.mp hq with h | h
      · exact hS.2.2 q h
      · exact AA_le hS.1 _ (hL q h)⟩ hl T' rfl X'
  exact ⟨t2, st t2 a1, b1⟩
theorem g_pre {cf : CF} {av : (Nat → Nat) → (Nat → Nat) → List Value} {H : Heap} {locs : List Loc} (C : CX p R s mt args c cc own D cA ad n nL nc ns tb) (hP : va_P D vwCl (WD cf n cA ad m) H) (hS : va_S (AA ad n s.heap.size) s.heap H locs) : ∀ U : State, U.heap = H → s.WarmedH U.vm → va_Pc (av ad tb) (fun U => U.heap.size = H.size ∧ va_P D vwCl (WD cf n cA ad m) U.heap ∧ va_K D vwCl (tyL cA) U ∧ SX tb (AA ad n H.size) U U.heap) (av ad tb).toArray U := by
  intro U hU hW
  refine ⟨rfl, by rw [hU], by rw [hU]; exact hP, va_K.moved hW.alike C.2.2.2.2.2.1, SX.go C.2.2.2.2.2.2.2.1 hW (fun a h1 h2 => ?_) (AA_le hS.1)⟩
  rw [hU]
  exact hS.2.1 a h1 h2
theorem g_blind {cf : CF} {av : (Nat → Nat) → (Nat → Nat) → List Value} {sz : Nat} : FrameBlind (va_Pc (av ad tb) (fun U => U.heap.size = sz ∧ va_P D vwCl (WD cf n cA ad m) U.heap ∧ va_K D vwCl (tyL cA) U ∧ SX tb (AA ad n sz) U U.heap)) :=
  fun a U g mk q => ⟨q.1, q.2.1, q.2.2.1, va_K.moved (u := U) (U := U.calling g mk a) (Vm.Alike.refl U.vm) q.2.2.2.1, q.2.2.2.2.calling g mk a⟩
theorem wl_good : ∀ w ∈ WL, goodWord w = true := fun w h => (List.mem_filter.mp h).2
theorem wl_in {w : Cond} (h : w ∈ WL) : w ∈ WL ∧ ((w.onTables && w.keeps) = true ∨ ∃ ty, w = .arrayClass ty) := ⟨h, good_of_word (wl_good w h)⟩
theorem wl_ws {w0 : Cond} (h : w0 ∈ WL) : GoodIn WL (w0 :: WL) := by
  intro w hw
  rcases List.mem_cons.mp hw with rfl | hw
  · exact wl_in h
  · exact wl_in hw
theorem cwVw (np : Nat) {y : MethodName} {bytes : ByteArray} {maxL index : Nat} {ret : Option FieldType} {rm' : Room} {Cn : String} (ht : ∀ w ∈ WL, w.before args s = true) (h1 : Cond.methodLink own index y ∈ WL) (h2 : Cond.instanceMethod y ∈ WL) (h3 : Cond.selects Cn y y ∈ WL) (h4 : Cond.initialized Cn ∈ WL) (h5 : Cond.code y bytes maxL ret ∈ WL) (hrc : rm'.cells = 0) (hrs : rm'.slots = 0) (hd : y.cls = Cn ∧ y.cls ≠ "java/lang/invoke/MethodHandle" ∧ y.cls ≠ "java/lang/invoke/VarHandle" ∧ (parseMethodDescriptor y.desc).map (fun d => d.parameters.length) = some np) (hR : rm'.frames + 1 ≤ R.frames ∧ 8 + (maxL + 11) + rm'.locals ≤ R.locals) : CallW R s args own Cn index y bytes maxL ret (Cond.code y bytes maxL ret :: WL) rm' 0 0 np := by
  refine cwV np ht ?_ rfl hrc hrs hd hR
  intro w hw
  unfold wsV at hw
  rcases List.mem_append.mp hw with hw | hw
  · simp only [List.mem_cons, List.not_mem_nil, or_false] at hw
    rcases hw with rfl | rfl | rfl | rfl
    · exact wl_in h1
    · exact wl_in h2
    · exact wl_in h3
    · exact wl_in h4
  · exact wl_ws h5 w hw
theorem cwSw (np : Nat) {y : MethodName} {bytes : ByteArray} {maxL index : Nat} {ret : Option FieldType} {rm' : Room} (ht : ∀ w ∈ WL, w.before args s = true) (h1 : Cond.methodLink own index y ∈ WL) (h2 : Cond.static y ∈ WL) (h4 : Cond.initialized y.cls ∈ WL) (h5 : Cond.code y bytes maxL ret ∈ WL) (hrc : rm'.cells = 0) (hrs : rm'.slots = 0) (hd : y.cls ≠ "java/lang/invoke/MethodHandle" ∧ y.cls ≠ "java/lang/invoke/VarHandle" ∧ (parseMethodDescriptor y.desc).map (fun d => d.parameters.length) = some np) (hR : rm'.frames + 1 ≤ R.frames ∧ 8 + (maxL + 11) + rm'.locals ≤ R.locals) : CallB R s args own index y bytes maxL ret (Cond.code y bytes maxL ret :: WL) rm' 0 0 np ∧ (Cond.static y).before args s = true := by
  refine va_cwS np ht ?_ rfl hrc hrs hd hR
  intro w hw
  unfold va_wsS at hw
  rcases List.mem_append.mp hw with hw | hw
  · simp only [List.mem_cons, List.not_mem_nil, or_false] at hw
    rcases hw with rfl | rfl | rfl
    · exact wl_in h1
    · exact wl_in h2
    · exact wl_in h4
  · exact wl_ws h5 w hw
theorem CX.nest (C : CX p R s mt args c cc own D cA ad n nL nc ns tb) {w : Cond} (i : Nat) (h : nestW[i]? = some w) : va_Nw w s := C.2.2.2.2.2.2.2.1.2.1 _ (mem_i i h)
section GGcalls
variable {y : MethodName} {bytes : ByteArray} {maxL index np : Nat} {ret : Option FieldType} {rm' : Room} {av : (Nat → Nat) → (Nat → Nat) → List Value} {o : Option Value} {m' : MM} {As rest stk : List Value}
theorem g_callV (C : CX p R s mt args c cc own D cA ad n nL nc ns tb) (hct : CT l y bytes maxL ret rm' cf n av m o m') {k ci N : Nat} {Cn : String} {T : u_T} {fs : (Nat → Nat) → Nat → (Nat → Int32) → (Nat → Int64) → List Value} (cw : CallW R s args own Cn index y bytes maxL ret (Cond.code y bytes maxL ret :: WL) rm' 0 0 np) (hrec : FO cf n k ci fs) (hci : vwCl[ci]? = some (Cn, T, N)) (hav : av ad tb = .ref (ad k) :: As) (hn : As.length = np) (hst : stk = As.reverse ++ .ref (ad k) :: rest) (hsum : (rest.map fun v => v.category).sum ≤ 8) (hd : decode cc pc = .ok (.invokevirtual index, 3)) (kk : GG p l e R s mt args below meth c Q D cA ad cf n nL nc ns m' (pc + 3) lv (o.toList ++ rest)) : GG p l e R s mt args below meth c Q D cA ad cf n nL nc ns m pc lv stk := by
  intro H locs ls hP hS hl
  exact g_ran hS hl (va_runV (As := As) (rest := rest) ⟨C.1, C.2.1, C.2.2.1, C.2.2.2.1, C.2.2.2.2.1⟩ (hct D cA ad tb H.size C.2.2.2.2.2.2.1) cw ⟨g_blind, (by have hv := va_recv C.2.2.2.2.2.1 hP hci (FO_at hrec); exact hv), fun U hU hW => hav ▸ g_pre C hP hS U hU hW⟩ rfl hn hl.1 hst (lv_room hsum) hd ⟨C.2.2.2.2.2.2.2.2.1, C.2.2.2.2.2.2.2.2.2⟩) kk
theorem g_callVN (C : CX p R s mt args c cc own D cA ad n nL nc ns tb) (hct : CT l y bytes maxL ret rm' cf n av m o m') {k ci N : Nat} {Cn host : String} {T : u_T} {fs : (Nat → Nat) → Nat → (Nat → Int32) → (Nat → Int64) → List Value} (cw : va_CN R s args own index y host bytes maxL ret (Cond.code y bytes maxL ret :: WL) rm' 0 0 np ∧ (Cond.instanceMethod y).before args s = true ∧ (Cond.selects Cn y y).before args s = true) (hrec : FO cf n k ci fs) (hci : vwCl[ci]? = some (Cn, T, N)) (hav : av ad tb = .ref (ad k) :: As) (hn : As.length = np) (hst : stk = As.reverse ++ .ref (ad k) :: rest) (hsum : (rest.map fun v => v.category).sum ≤ 8) (hd : decode cc pc = .ok (.invokevirtual index, 3)) (kk : GG p l e R s mt args below meth c Q D cA ad cf n nL nc ns m' (pc + 3) lv (o.toList ++ rest)) : GG p l e R s mt args below meth c Q D cA ad cf n nL nc ns m pc lv stk := by
  intro H locs ls hP hS hl
  exact g_ran hS hl (va_runVN (As := As) (rest := rest) ⟨C.1, C.2.1, C.2.2.1, C.2.2.2.1, C.2.2.2.2.1⟩ (hct D cA ad tb H.size C.2.2.2.2.2.2.1) cw ⟨g_blind, (by have hv := va_recv C.2.2.2.2.2.1 hP hci (FO_at hrec); exact hv), fun U hU hW => hav ▸ g_pre C hP hS U hU hW⟩ rfl hn hl.1 hst (lv_room hsum) hd ⟨C.2.2.2.2.2.2.2.2.1, C.2.2.2.2.2.2.2.2.2⟩) kk
theorem g_callS (C : CX p R s mt args c cc own D cA ad n nL nc ns tb) (hct : CT l y bytes maxL ret rm' cf n av m o m') (cw : CallB R s args own index y bytes maxL ret (Cond.code y bytes maxL ret :: WL) rm' 0 0 np ∧ (Cond.static y).before args s = true) (hav : av ad tb = As) (hn : As.length = np) (hst : stk = As.reverse ++ rest) (hsum : (rest.map fun v => v.category).sum ≤ 8) (hd : decode cc pc = .ok (.invokestatic index, 3)) (kk : GG p l e R s mt args below meth c Q D cA ad cf n nL nc ns m' (pc + 3) lv (o.toList ++ rest)) : GG p l e R s mt args below meth c Q D cA ad cf n nL nc ns m pc lv stk := by
  intro H locs ls hP hS hl
  exact g_ran hS hl (va_runS (As := As) (rest := rest) ⟨C.1, C.2.1, C.2.2.1, C.2.2.2.1, C.2.2.2.2.1⟩ (hct D cA ad tb H.size C.2.2.2.2.2.2.1) cw ⟨g_blind, fun U hU hW => hav ▸ g_pre C hP hS U hU hW⟩ rfl hn hl.1 hst (lv_room hsum) hd ⟨C.2.2.2.2.2.2.2.2.1, C.2.2.2.2.2.2.2.2.2⟩) kk
theorem g_callSN (C : CX p R s mt args c cc own D cA ad n nL nc ns tb) (hct : CT l y bytes maxL ret rm' cf n av m o m') {host : String} (cw : va_CN R s args own index y host bytes maxL ret (Cond.code y bytes maxL ret :: WL) rm' 0 0 np ∧ (Cond.static y).before args s = true ∧ True) (hav : av ad tb = As) (hn : As.length = np) (hst : stk = As.reverse ++ rest) (hsum : (rest.map fun v => v.category).sum ≤ 8) (hd : decode cc pc = .ok (.invokestatic index, 3)) (kk : GG p l e R s mt args below meth c Q D cA ad cf n nL nc ns m' (pc + 3) lv (o.toList ++ rest)) : GG p l e R s mt args below meth c Q D cA ad cf n nL nc ns m pc lv stk := by
  intro H locs ls hP hS hl
  exact g_ran hS hl (va_runSN (As := As) (rest := rest) ⟨C.1, C.2.1, C.2.2.1, C.2.2.2.1, C.2.2.2.2.1⟩ (hct D cA ad tb H.size C.2.2.2.2.2.2.1) cw ⟨g_blind, fun U hU hW => hav ▸ g_pre C hP hS U hU hW⟩ rfl hn hl.1 hst (lv_room hsum) hd ⟨C.2.2.2.2.2.2.2.2.1, C.2.2.2.2.2.2.2.2.2⟩) kk
end GGcalls
end GGrows
