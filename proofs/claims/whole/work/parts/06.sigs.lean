section GGsigs
variable {p : Program} {l : Launch} {e : Env} {R : Room} {s : State} {mt : MethodId} {args : Array Value} {below : List Frame} {meth : Method} {c : Code} {Q : State → Prop} {D : va_G} {cA : Nat → ClassId} {ad : Nat → Nat} {cf : CF} {n nL nc ns : Nat} {m : MM} {pc : Nat} {lv : List (Nat × Value)} {st : List Value}
theorem so_inj {α : Type} {a b : α} (h : some a = some b) : a = b := Option.some.inj h
theorem sp_inj {α β : Type} {a c : α} {b d : β} (h : some (a, b) = some (c, d)) : a = c ∧ b = d := ⟨congrArg Prod.fst (Option.some.inj h), congrArg Prod.snd (Option.some.inj h)⟩
theorem ti_ne {x v : Int32} {z : Int} (h : ¬ x = v) (hz : v.toInt = z) : x.toInt ≠ z := fun q => h (Int32.toInt_inj.mp (q.trans hz.symm))
theorem g_join_ {α : Type} {y : α} {K : Option α} {B : (Option α) → Option α} (h : Jp K B = some y) (tgt : Nat) (lv' : List (Nat × Value)) (st' : List Value) (kJ : K = some y → GG p l e R s mt args below meth c Q D cA ad cf n nL nc ns m tgt lv' st') (kk : ∀ q : Option α, (q = some y → GG p l e R s mt args below meth c Q D cA ad cf n nL nc ns m tgt lv' st') → B q = some y → GG p l e R s mt args below meth c Q D cA ad cf n nL nc ns m pc lv st) : GG p l e R s mt args below meth c Q D cA ad cf n nL nc ns m pc lv st := kk K kJ h
theorem g_loop_ {α : Type} {y : α} {K : Option α} {L : (Option α) → Nat → Option α} {F : Nat}  (h : L K F  = some y) (hd xt : Nat) (lvH lvX : List (Nat × Value)) (stH stX : List Value) (kX : K = some y → GG p l e R s mt args below meth c Q D cA ad cf n nL nc ns m xt lvX stX) (kL : ∀ q : Option α, (q = some y → GG p l e R s mt args below meth c Q D cA ad cf n nL nc ns m xt lvX stX) → ∀ i : Nat, (L q i = some y → GG p l e R s mt args below meth c Q D cA ad cf n nL nc ns m hd lvH stH) → L q (i + 1) = some y → GG p l e R s mt args below meth c Q D cA ad cf n nL nc ns m hd lvH stH) (k0 : ∀ (q : Option α) , L q 0 = none) : GG p l e R s mt args below meth c Q D cA ad cf n nL nc ns m hd lvH stH := by
  have key : ∀ i : Nat, L K i = some y → GG p l e R s mt args below meth c Q D cA ad cf n nL nc ns m hd lvH stH := by
    intro i
    induction i with
    | zero =>
      intro  h
      rw [k0] at h
      cases h
    | succ i ih => exact kL K kX i ih
  exact key F  h
theorem g_join_I {α : Type} {y : α} {K : Int32 → Option α} {B : (Int32 → Option α) → Option α} (h : Jp K B = some y) (tgt : Nat) (lv' : Int32 → List (Nat × Value)) (st' : Int32 → List Value) (kJ : ∀ (v0 : Int32), K v0 = some y → GG p l e R s mt args below meth c Q D cA ad cf n nL nc ns m tgt (lv' v0) (st' v0)) (kk : ∀ q : Int32 → Option α, (∀ (v0 : Int32), q v0 = some y → GG p l e R s mt args below meth c Q D cA ad cf n nL nc ns m tgt (lv' v0) (st' v0)) → B q = some y → GG p l e R s mt args below meth c Q D cA ad cf n nL nc ns m pc lv st) : GG p l e R s mt args below meth c Q D cA ad cf n nL nc ns m pc lv st := kk K kJ h
theorem g_loop_I {α : Type} {y : α} {K : Int32 → Option α} {L : (Int32 → Option α) → Nat → Int32 → Option α} {F : Nat} {v00 : Int32} (h : L K F v00 = some y) (hd xt : Nat) (lvH lvX : Int32 → List (Nat × Value)) (stH stX : Int32 → List Value) (kX : ∀ (v0 : Int32), K v0 = some y → GG p l e R s mt args below meth c Q D cA ad cf n nL nc ns m xt (lvX v0) (stX v0)) (kL : ∀ q : Int32 → Option α, (∀ (v0 : Int32), q v0 = some y → GG p l e R s mt args below meth c Q D cA ad cf n nL nc ns m xt (lvX v0) (stX v0)) → ∀ i : Nat, (∀ (v0 : Int32), L q i v0 = some y → GG p l e R s mt args below meth c Q D cA ad cf n nL nc ns m hd (lvH v0) (stH v0)) → ∀ (v0 : Int32), L q (i + 1) v0 = some y → GG p l e R s mt args below meth c Q D cA ad cf n nL nc ns m hd (lvH v0) (stH v0)) (k0 : ∀ (q : Int32 → Option α) (v0 : Int32), L q 0 v0 = none) : GG p l e R s mt args below meth c Q D cA ad cf n nL nc ns m hd (lvH v00) (stH v00) := by
  have key : ∀ i : Nat, ∀ (v0 : Int32), L K i v0 = some y → GG p l e R s mt args below meth c Q D cA ad cf n nL nc ns m hd (lvH v0) (stH v0) := by
    intro i
    induction i with
    | zero =>
      intro v0 h
      rw [k0] at h
      cases h
    | succ i ih => exact kL K kX i ih
  exact key F _ h
theorem g_join_II {α : Type} {y : α} {K : Int32 → Int32 → Option α} {B : (Int32 → Int32 → Option α) → Option α} (h : Jp K B = some y) (tgt : Nat) (lv' : Int32 → Int32 → List (Nat × Value)) (st' : Int32 → Int32 → List Value) (kJ : ∀ (v0 : Int32) (v1 : Int32), K v0 v1 = some y → GG p l e R s mt args below meth c Q D cA ad cf n nL nc ns m tgt (lv' v0 v1) (st' v0 v1)) (kk : ∀ q : Int32 → Int32 → Option α, (∀ (v0 : Int32) (v1 : Int32), q v0 v1 = some y → GG p l e R s mt args below meth c Q D cA ad cf n nL nc ns m tgt (lv' v0 v1) (st' v0 v1)) → B q = some y → GG p l e R s mt args below meth c Q D cA ad cf n nL nc ns m pc lv st) : GG p l e R s mt args below meth c Q D cA ad cf n nL nc ns m pc lv st := kk K kJ h
theorem g_loop_II {α : Type} {y : α} {K : Int32 → Int32 → Option α} {L : (Int32 → Int32 → Option α) → Nat → Int32 → Int32 → Option α} {F : Nat} {v00 : Int32} {v10 : Int32} (h : L K F v00 v10 = some y) (hd xt : Nat) (lvH lvX : Int32 → Int32 → List (Nat × Value)) (stH stX : Int32 → Int32 → List Value) (kX : ∀ (v0 : Int32) (v1 : Int32), K v0 v1 = some y → GG p l e R s mt args below meth c Q D cA ad cf n nL nc ns m xt (lvX v0 v1) (stX v0 v1)) (kL : ∀ q : Int32 → Int32 → Option α, (∀ (v0 : Int32) (v1 : Int32), q v0 v1 = some y → GG p l e R s mt args below meth c Q D cA ad cf n nL nc ns m xt (lvX v0 v1) (stX v0 v1)) → ∀ i : Nat, (∀ (v0 : Int32) (v1 : Int32), L q i v0 v1 = some y → GG p l e R s mt args below meth c Q D cA ad cf n nL nc ns m hd (lvH v0 v1) (stH v0 v1)) → ∀ (v0 : Int32) (v1 : Int32), L q (i + 1) v0 v1 = some y → GG p l e R s mt args below meth c Q D cA ad cf n nL nc ns m hd (lvH v0 v1) (stH v0 v1)) (k0 : ∀ (q : Int32 → Int32 → Option α) (v0 : Int32) (v1 : Int32), L q 0 v0 v1 = none) : GG p l e R s mt args below meth c Q D cA ad cf n nL nc ns m hd (lvH v00 v10) (stH v00 v10) := by
  have key : ∀ i : Nat, ∀ (v0 : Int32) (v1 : Int32), L K i v0 v1 = some y → GG p l e R s mt args below meth c Q D cA ad cf n nL nc ns m hd (lvH v0 v1) (stH v0 v1) := by
    intro i
    induction i with
    | zero =>
      intro v0 v1 h
      rw [k0] at h
      cases h
    | succ i ih => exact kL K kX i ih
  exact key F _ _ h
theorem g_join_III {α : Type} {y : α} {K : Int32 → Int32 → Int32 → Option α} {B : (Int32 → Int32 → Int32 → Option α) → Option α} (h : Jp K B = some y) (tgt : Nat) (lv' : Int32 → Int32 → Int32 → List (Nat × Value)) (st' : Int32 → Int32 → Int32 → List Value) (kJ : ∀ (v0 : Int32) (v1 : Int32) (v2 : Int32), K v0 v1 v2 = some y → GG p l e R s mt args below meth c Q D cA ad cf n nL nc ns m tgt (lv' v0 v1 v2) (st' v0 v1 v2)) (kk : ∀ q : Int32 → Int32 → Int32 → Option α, (∀ (v0 : Int32) (v1 : Int32) (v2 : Int32), q v0 v1 v2 = some y → GG p l e R s mt args below meth c Q D cA ad cf n nL nc ns m tgt (lv' v0 v1 v2) (st' v0 v1 v2)) → B q = some y → GG p l e R s mt args below meth c Q D cA ad cf n nL nc ns m pc lv st) : GG p l e R s mt args below meth c Q D cA ad cf n nL nc ns m pc lv st := kk K kJ h
theorem g_loop_III {α : Type} {y : α} {K : Int32 → Int32 → Int32 → Option α} {L : (Int32 → Int32 → Int32 → Option α) → Nat → Int32 → Int32 → Int32 → Option α} {F : Nat} {v00 : Int32} {v10 : Int32} {v20 : Int32} (h : L K F v00 v10 v20 = some y) (hd xt : Nat) (lvH lvX : Int32 → Int32 → Int32 → List (Nat × Value)) (stH stX : Int32 → Int32 → Int32 → List Value) (kX : ∀ (v0 : Int32) (v1 : Int32) (v2 : Int32), K v0 v1 v2 = some y → GG p l e R s mt args below meth c Q D cA ad cf n nL nc ns m xt (lvX v0 v1 v2) (stX v0 v1 v2)) (kL : ∀ q : Int32 → Int32 → Int32 → Option α, (∀ (v0 : Int32) (v1 : Int32) (v2 : Int32), q v0 v1 v2 = some y → GG p l e R s mt args below meth c Q D cA ad cf n nL nc ns m xt (lvX v0 v1 v2) (stX v0 v1 v2)) → ∀ i : Nat, (∀ (v0 : Int32) (v1 : Int32) (v2 : Int32), L q i v0 v1 v2 = some y → GG p l e R s mt args below meth c Q D cA ad cf n nL nc ns m hd (lvH v0 v1 v2) (stH v0 v1 v2)) → ∀ (v0 : Int32) (v1 : Int32) (v2 : Int32), L q (i + 1) v0 v1 v2 = some y → GG p l e R s mt args below meth c Q D cA ad cf n nL nc ns m hd (lvH v0 v1 v2) (stH v0 v1 v2)) (k0 : ∀ (q : Int32 → Int32 → Int32 → Option α) (v0 : Int32) (v1 : Int32) (v2 : Int32), L q 0 v0 v1 v2 = none) : GG p l e R s mt args below meth c Q D cA ad cf n nL nc ns m hd (lvH v00 v10 v20) (stH v00 v10 v20) := by
  have key : ∀ i : Nat, ∀ (v0 : Int32) (v1 : Int32) (v2 : Int32), L K i v0 v1 v2 = some y → GG p l e R s mt args below meth c Q D cA ad cf n nL nc ns m hd (lvH v0 v1 v2) (stH v0 v1 v2) := by
    intro i
    induction i with
    | zero =>
      intro v0 v1 v2 h
      rw [k0] at h
      cases h
    | succ i ih => exact kL K kX i ih
  exact key F _ _ _ h
theorem g_join_IIII {α : Type} {y : α} {K : Int32 → Int32 → Int32 → Int32 → Option α} {B : (Int32 → Int32 → Int32 → Int32 → Option α) → Option α} (h : Jp K B = some y) (tgt : Nat) (lv' : Int32 → Int32 → Int32 → Int32 → List (Nat × Value)) (st' : Int32 → Int32 → Int32 → Int32 → List Value) (kJ : ∀ (v0 : Int32) (v1 : Int32) (v2 : Int32) (v3 : Int32), K v0 v1 v2 v3 = some y → GG p l e R s mt args below meth c Q D cA ad cf n nL nc ns m tgt (lv' v0 v1 v2 v3) (st' v0 v1 v2 v3)) (kk : ∀ q : Int32 → Int32 → Int32 → Int32 → Option α, (∀ (v0 : Int32) (v1 : Int32) (v2 : Int32) (v3 : Int32), q v0 v1 v2 v3 = some y → GG p l e R s mt args below meth c Q D cA ad cf n nL nc ns m tgt (lv' v0 v1 v2 v3) (st' v0 v1 v2 v3)) → B q = some y → GG p l e R s mt args below meth c Q D cA ad cf n nL nc ns m pc lv st) : GG p l e R s mt args below meth c Q D cA ad cf n nL nc ns m pc lv st := kk K kJ h
theorem g_loop_IIII {α : Type} {y : α} {K : Int32 → Int32 → Int32 → Int32 → Option α} {L : (Int32 → Int32 → Int32 → Int32 → Option α) → Nat → Int32 → Int32 → Int32 → Int32 → Option α} {F : Nat} {v00 : Int32} {v10 : Int32} {v20 : Int32} {v30 : Int32} (h : L K F v00 v10 v20 v30 = some y) (hd xt : Nat) (lvH lvX : Int32 → Int32 → Int32 → Int32 → List (Nat × Value)) (stH stX : Int32 → Int32 → Int32 → Int32 → List Value) (kX : ∀ (v0 : Int32) (v1 : Int32) (v2 : Int32) (v3 : Int32), K v0 v1 v2 v3 = some y → GG p l e R s mt args below meth c Q D cA ad cf n nL nc ns m xt (lvX v0 v1 v2 v3) (stX v0 v1 v2 v3)) (kL : ∀ q : Int32 → Int32 → Int32 → Int32 → Option α, (∀ (v0 : Int32) (v1 : Int32) (v2 : Int32) (v3 : Int32), q v0 v1 v2 v3 = some y → GG p l e R s mt args below meth c Q D cA ad cf n nL nc ns m xt (lvX v0 v1 v2 v3) (stX v0 v1 v2 v3)) → ∀ i : Nat, (∀ (v0 : Int32) (v1 : Int32) (v2 : Int32) (v3 : Int32), L q i v0 v1 v2 v3 = some y → GG p l e R s mt args below meth c Q D cA ad cf n nL nc ns m hd (lvH v0 v1 v2 v3) (stH v0 v1 v2 v3)) → ∀ (v0 : Int32) (v1 : Int32) (v2 : Int32) (v3 : Int32), L q (i + 1) v0 v1 v2 v3 = some y → GG p l e R s mt args below meth c Q D cA ad cf n nL nc ns m hd (lvH v0 v1 v2 v3) (stH v0 v1 v2 v3)) (k0 : ∀ (q : Int32 → Int32 → Int32 → Int32 → Option α) (v0 : Int32) (v1 : Int32) (v2 : Int32) (v3 : Int32), L q 0 v0 v1 v2 v3 = none) : GG p l e R s mt args below meth c Q D cA ad cf n nL nc ns m hd (lvH v00 v10 v20 v30) (stH v00 v10 v20 v30) := by
  have key : ∀ i : Nat, ∀ (v0 : Int32) (v1 : Int32) (v2 : Int32) (v3 : Int32), L K i v0 v1 v2 v3 = some y → GG p l e R s mt args below meth c Q D cA ad cf n nL nc ns m hd (lvH v0 v1 v2 v3) (stH v0 v1 v2 v3) := by
    intro i
    induction i with
    | zero =>
      intro v0 v1 v2 v3 h
      rw [k0] at h
      cases h
    | succ i ih => exact kL K kX i ih
  exact key F _ _ _ _ h
theorem g_join_IIIM {α : Type} {y : α} {K : Int32 → Int32 → Int32 → MM → Option α} {B : (Int32 → Int32 → Int32 → MM → Option α) → Option α} (h : Jp K B = some y) (tgt : Nat) (lv' : Int32 → Int32 → Int32 → MM → List (Nat × Value)) (st' : Int32 → Int32 → Int32 → MM → List Value) (kJ : ∀ (v0 : Int32) (v1 : Int32) (v2 : Int32) (v3 : MM), K v0 v1 v2 v3 = some y → GG p l e R s mt args below meth c Q D cA ad cf n nL nc ns v3 tgt (lv' v0 v1 v2 v3) (st' v0 v1 v2 v3)) (kk : ∀ q : Int32 → Int32 → Int32 → MM → Option α, (∀ (v0 : Int32) (v1 : Int32) (v2 : Int32) (v3 : MM), q v0 v1 v2 v3 = some y → GG p l e R s mt args below meth c Q D cA ad cf n nL nc ns v3 tgt (lv' v0 v1 v2 v3) (st' v0 v1 v2 v3)) → B q = some y → GG p l e R s mt args below meth c Q D cA ad cf n nL nc ns m pc lv st) : GG p l e R s mt args below meth c Q D cA ad cf n nL nc ns m pc lv st := kk K kJ h
theorem g_loop_IIIM {α : Type} {y : α} {K : Int32 → Int32 → Int32 → MM → Option α} {L : (Int32 → Int32 → Int32 → MM → Option α) → Nat → Int32 → Int32 → Int32 → MM → Option α} {F : Nat} {v00 : Int32} {v10 : Int32} {v20 : Int32} {v30 : MM} (h : L K F v00 v10 v20 v30 = some y) (hd xt : Nat) (lvH lvX : Int32 → Int32 → Int32 → MM → List (Nat × Value)) (stH stX : Int32 → Int32 → Int32 → MM → List Value) (kX : ∀ (v0 : Int32) (v1 : Int32) (v2 : Int32) (v3 : MM), K v0 v1 v2 v3 = some y → GG p l e R s mt args below meth c Q D cA ad cf n nL nc ns v3 xt (lvX v0 v1 v2 v3) (stX v0 v1 v2 v3)) (kL : ∀ q : Int32 → Int32 → Int32 → MM → Option α, (∀ (v0 : Int32) (v1 : Int32) (v2 : Int32) (v3 : MM), q v0 v1 v2 v3 = some y → GG p l e R s mt args below meth c Q D cA ad cf n nL nc ns v3 xt (lvX v0 v1 v2 v3) (stX v0 v1 v2 v3)) → ∀ i : Nat, (∀ (v0 : Int32) (v1 : Int32) (v2 : Int32) (v3 : MM), L q i v0 v1 v2 v3 = some y → GG p l e R s mt args below meth c Q D cA ad cf n nL nc ns v3 hd (lvH v0 v1 v2 v3) (stH v0 v1 v2 v3)) → ∀ (v0 : Int32) (v1 : Int32) (v2 : Int32) (v3 : MM), L q (i + 1) v0 v1 v2 v3 = some y → GG p l e R s mt args below meth c Q D cA ad cf n nL nc ns v3 hd (lvH v0 v1 v2 v3) (stH v0 v1 v2 v3)) (k0 : ∀ (q : Int32 → Int32 → Int32 → MM → Option α) (v0 : Int32) (v1 : Int32) (v2 : Int32) (v3 : MM), L q 0 v0 v1 v2 v3 = none) : GG p l e R s mt args below meth c Q D cA ad cf n nL nc ns v30 hd (lvH v00 v10 v20 v30) (stH v00 v10 v20 v30) := by
  have key : ∀ i : Nat, ∀ (v0 : Int32) (v1 : Int32) (v2 : Int32) (v3 : MM), L K i v0 v1 v2 v3 = some y → GG p l e R s mt args below meth c Q D cA ad cf n nL nc ns v3 hd (lvH v0 v1 v2 v3) (stH v0 v1 v2 v3) := by
    intro i
    induction i with
    | zero =>
      intro v0 v1 v2 v3 h
      rw [k0] at h
      cases h
    | succ i ih => exact kL K kX i ih
  exact key F _ _ _ _ h
theorem g_join_IIM {α : Type} {y : α} {K : Int32 → Int32 → MM → Option α} {B : (Int32 → Int32 → MM → Option α) → Option α} (h : Jp K B = some y) (tgt : Nat) (lv' : Int32 → Int32 → MM → List (Nat × Value)) (st' : Int32 → Int32 → MM → List Value) (kJ : ∀ (v0 : Int32) (v1 : Int32) (v2 : MM), K v0 v1 v2 = some y → GG p l e R s mt args below meth c Q D cA ad cf n nL nc ns v2 tgt (lv' v0 v1 v2) (st' v0 v1 v2)) (kk : ∀ q : Int32 → Int32 → MM → Option α, (∀ (v0 : Int32) (v1 : Int32) (v2 : MM), q v0 v1 v2 = some y → GG p l e R s mt args below meth c Q D cA ad cf n nL nc ns v2 tgt (lv' v0 v1 v2) (st' v0 v1 v2)) → B q = some y → GG p l e R s mt args below meth c Q D cA ad cf n nL nc ns m pc lv st) : GG p l e R s mt args below meth c Q D cA ad cf n nL nc ns m pc lv st := kk K kJ h
theorem g_loop_IIM {α : Type} {y : α} {K : Int32 → Int32 → MM → Option α} {L : (Int32 → Int32 → MM → Option α) → Nat → Int32 → Int32 → MM → Option α} {F : Nat} {v00 : Int32} {v10 : Int32} {v20 : MM} (h : L K F v00 v10 v20 = some y) (hd xt : Nat) (lvH lvX : Int32 → Int32 → MM → List (Nat × Value)) (stH stX : Int32 → Int32 → MM → List Value) (kX : ∀ (v0 : Int32) (v1 : Int32) (v2 : MM), K v0 v1 v2 = some y → GG p l e R s mt args below meth c Q D cA ad cf n nL nc ns v2 xt (lvX v0 v1 v2) (stX v0 v1 v2)) (kL : ∀ q : Int32 → Int32 → MM → Option α, (∀ (v0 : Int32) (v1 : Int32) (v2 : MM), q v0 v1 v2 = some y → GG p l e R s mt args below meth c Q D cA ad cf n nL nc ns v2 xt (lvX v0 v1 v2) (stX v0 v1 v2)) → ∀ i : Nat, (∀ (v0 : Int32) (v1 : Int32) (v2 : MM), L q i v0 v1 v2 = some y → GG p l e R s mt args below meth c Q D cA ad cf n nL nc ns v2 hd (lvH v0 v1 v2) (stH v0 v1 v2)) → ∀ (v0 : Int32) (v1 : Int32) (v2 : MM), L q (i + 1) v0 v1 v2 = some y → GG p l e R s mt args below meth c Q D cA ad cf n nL nc ns v2 hd (lvH v0 v1 v2) (stH v0 v1 v2)) (k0 : ∀ (q : Int32 → Int32 → MM → Option α) (v0 : Int32) (v1 : Int32) (v2 : MM), L q 0 v0 v1 v2 = none) : GG p l e R s mt args below meth c Q D cA ad cf n nL nc ns v20 hd (lvH v00 v10 v20) (stH v00 v10 v20) := by
  have key : ∀ i : Nat, ∀ (v0 : Int32) (v1 : Int32) (v2 : MM), L K i v0 v1 v2 = some y → GG p l e R s mt args below meth c Q D cA ad cf n nL nc ns v2 hd (lvH v0 v1 v2) (stH v0 v1 v2) := by
    intro i
    induction i with
    | zero =>
      intro v0 v1 v2 h
      rw [k0] at h
      cases h
    | succ i ih => exact kL K kX i ih
  exact key F _ _ _ h
theorem g_join_IM {α : Type} {y : α} {K : Int32 → MM → Option α} {B : (Int32 → MM → Option α) → Option α} (h : Jp K B = some y) (tgt : Nat) (lv' : Int32 → MM → List (Nat × Value)) (st' : Int32 → MM → List Value) (kJ : ∀ (v0 : Int32) (v1 : MM), K v0 v1 = some y → GG p l e R s mt args below meth c Q D cA ad cf n nL nc ns v1 tgt (lv' v0 v1) (st' v0 v1)) (kk : ∀ q : Int32 → MM → Option α, (∀ (v0 : Int32) (v1 : MM), q v0 v1 = some y → GG p l e R s mt args below meth c Q D cA ad cf n nL nc ns v1 tgt (lv' v0 v1) (st' v0 v1)) → B q = some y → GG p l e R s mt args below meth c Q D cA ad cf n nL nc ns m pc lv st) : GG p l e R s mt args below meth c Q D cA ad cf n nL nc ns m pc lv st := kk K kJ h
theorem g_loop_IM {α : Type} {y : α} {K : Int32 → MM → Option α} {L : (Int32 → MM → Option α) → Nat → Int32 → MM → Option α} {F : Nat} {v00 : Int32} {v10 : MM} (h : L K F v00 v10 = some y) (hd xt : Nat) (lvH lvX : Int32 → MM → List (Nat × Value)) (stH stX : Int32 → MM → List Value) (kX : ∀ (v0 : Int32) (v1 : MM), K v0 v1 = some y → GG p l e R s mt args below meth c Q D cA ad cf n nL nc ns v1 xt (lvX v0 v1) (stX v0 v1)) (kL : ∀ q : Int32 → MM → Option α, (∀ (v0 : Int32) (v1 : MM), q v0 v1 = some y → GG p l e R s mt args below meth c Q D cA ad cf n nL nc ns v1 xt (lvX v0 v1) (stX v0 v1)) → ∀ i : Nat, (∀ (v0 : Int32) (v1 : MM), L q i v0 v1 = some y → GG p l e R s mt args below meth c Q D cA ad cf n nL nc ns v1 hd (lvH v0 v1) (stH v0 v1)) → ∀ (v0 : Int32) (v1 : MM), L q (i + 1) v0 v1 = some y → GG p l e R s mt args below meth c Q D cA ad cf n nL nc ns v1 hd (lvH v0 v1) (stH v0 v1)) (k0 : ∀ (q : Int32 → MM → Option α) (v0 : Int32) (v1 : MM), L q 0 v0 v1 = none) : GG p l e R s mt args below meth c Q D cA ad cf n nL nc ns v10 hd (lvH v00 v10) (stH v00 v10) := by
  have key : ∀ i : Nat, ∀ (v0 : Int32) (v1 : MM), L K i v0 v1 = some y → GG p l e R s mt args below meth c Q D cA ad cf n nL nc ns v1 hd (lvH v0 v1) (stH v0 v1) := by
    intro i
    induction i with
    | zero =>
      intro v0 v1 h
      rw [k0] at h
      cases h
    | succ i ih => exact kL K kX i ih
  exact key F _ _ h
theorem g_join_L {α : Type} {y : α} {K : Int64 → Option α} {B : (Int64 → Option α) → Option α} (h : Jp K B = some y) (tgt : Nat) (lv' : Int64 → List (Nat × Value)) (st' : Int64 → List Value) (kJ : ∀ (v0 : Int64), K v0 = some y → GG p l e R s mt args below meth c Q D cA ad cf n nL nc ns m tgt (lv' v0) (st' v0)) (kk : ∀ q : Int64 → Option α, (∀ (v0 : Int64), q v0 = some y → GG p l e R s mt args below meth c Q D cA ad cf n nL nc ns m tgt (lv' v0) (st' v0)) → B q = some y → GG p l e R s mt args below meth c Q D cA ad cf n nL nc ns m pc lv st) : GG p l e R s mt args below meth c Q D cA ad cf n nL nc ns m pc lv st := kk K kJ h
theorem g_loop_L {α : Type} {y : α} {K : Int64 → Option α} {L : (Int64 → Option α) → Nat → Int64 → Option α} {F : Nat} {v00 : Int64} (h : L K F v00 = some y) (hd xt : Nat) (lvH lvX : Int64 → List (Nat × Value)) (stH stX : Int64 → List Value) (kX : ∀ (v0 : Int64), K v0 = some y → GG p l e R s mt args below meth c Q D cA ad cf n nL nc ns m xt (lvX v0) (stX v0)) (kL : ∀ q : Int64 → Option α, (∀ (v0 : Int64), q v0 = some y → GG p l e R s mt args below meth c Q D cA ad cf n nL nc ns m xt (lvX v0) (stX v0)) → ∀ i : Nat, (∀ (v0 : Int64), L q i v0 = some y → GG p l e R s mt args below meth c Q D cA ad cf n nL nc ns m hd (lvH v0) (stH v0)) → ∀ (v0 : Int64), L q (i + 1) v0 = some y → GG p l e R s mt args below meth c Q D cA ad cf n nL nc ns m hd (lvH v0) (stH v0)) (k0 : ∀ (q : Int64 → Option α) (v0 : Int64), L q 0 v0 = none) : GG p l e R s mt args below meth c Q D cA ad cf n nL nc ns m hd (lvH v00) (stH v00) := by
  have key : ∀ i : Nat, ∀ (v0 : Int64), L K i v0 = some y → GG p l e R s mt args below meth c Q D cA ad cf n nL nc ns m hd (lvH v0) (stH v0) := by
    intro i
    induction i with
    | zero =>
      intro v0 h
      rw [k0] at h
      cases h
    | succ i ih => exact kL K kX i ih
  exact key F _ h
theorem g_join_LI {α : Type} {y : α} {K : Int64 → Int32 → Option α} {B : (Int64 → Int32 → Option α) → Option α} (h : Jp K B = some y) (tgt : Nat) (lv' : Int64 → Int32 → List (Nat × Value)) (st' : Int64 → Int32 → List Value) (kJ : ∀ (v0 : Int64) (v1 : Int32), K v0 v1 = some y → GG p l e R s mt args below meth c Q D cA ad cf n nL nc ns m tgt (lv' v0 v1) (st' v0 v1)) (kk : ∀ q : Int64 → Int32 → Option α, (∀ (v0 : Int64) (v1 : Int32), q v0 v1 = some y → GG p l e R s mt args below meth c Q D cA ad cf n nL nc ns m tgt (lv' v0 v1) (st' v0 v1)) → B q = some y → GG p l e R s mt args below meth c Q D cA ad cf n nL nc ns m pc lv st) : GG p l e R s mt args below meth c Q D cA ad cf n nL nc ns m pc lv st := kk K kJ h
theorem g_loop_LI {α : Type} {y : α} {K : Int64 → Int32 → Option α} {L : (Int64 → Int32 → Option α) → Nat → Int64 → Int32 → Option α} {F : Nat} {v00 : Int64} {v10 : Int32} (h : L K F v00 v10 = some y) (hd xt : Nat) (lvH lvX : Int64 → Int32 → List (Nat × Value)) (stH stX : Int64 → Int32 → List Value) (kX : ∀ (v0 : Int64) (v1 : Int32), K v0 v1 = some y → GG p l e R s mt args below meth c Q D cA ad cf n nL nc ns m xt (lvX v0 v1) (stX v0 v1)) (kL : ∀ q : Int64 → Int32 → Option α, (∀ (v0 : Int64) (v1 : Int32), q v0 v1 = some y → GG p l e R s mt args below meth c Q D cA ad cf n nL nc ns m xt (lvX v0 v1) (stX v0 v1)) → ∀ i : Nat, (∀ (v0 : Int64) (v1 : Int32), L q i v0 v1 = some y → GG p l e R s mt args below meth c Q D cA ad cf n nL nc ns m hd (lvH v0 v1) (stH v0 v1)) → ∀ (v0 : Int64) (v1 : Int32), L q (i + 1) v0 v1 = some y → GG p l e R s mt args below meth c Q D cA ad cf n nL nc ns m hd (lvH v0 v1) (stH v0 v1)) (k0 : ∀ (q : Int64 → Int32 → Option α) (v0 : Int64) (v1 : Int32), L q 0 v0 v1 = none) : GG p l e R s mt args below meth c Q D cA ad cf n nL nc ns m hd (lvH v00 v10) (stH v00 v10) := by
  have key : ∀ i : Nat, ∀ (v0 : Int64) (v1 : Int32), L K i v0 v1 = some y → GG p l e R s mt args below meth c Q D cA ad cf n nL nc ns m hd (lvH v0 v1) (stH v0 v1) := by
    intro i
    induction i with
    | zero =>
      intro v0 v1 h
      rw [k0] at h
      cases h
    | succ i ih => exact kL K kX i ih
  exact key F _ _ h
theorem g_join_LIM {α : Type} {y : α} {K : Int64 → Int32 → MM → Option α} {B : (Int64 → Int32 → MM → Option α) → Option α} (h : Jp K B = some y) (tgt : Nat) (lv' : Int64 → Int32 → MM → List (Nat × Value)) (st' : Int64 → Int32 → MM → List Value) (kJ : ∀ (v0 : Int64) (v1 : Int32) (v2 : MM), K v0 v1 v2 = some y → GG p l e R s mt args below meth c Q D cA ad cf n nL nc ns v2 tgt (lv' v0 v1 v2) (st' v0 v1 v2)) (kk : ∀ q : Int64 → Int32 → MM → Option α, (∀ (v0 : Int64) (v1 : Int32) (v2 : MM), q v0 v1 v2 = some y → GG p l e R s mt args below meth c Q D cA ad cf n nL nc ns v2 tgt (lv' v0 v1 v2) (st' v0 v1 v2)) → B q = some y → GG p l e R s mt args below meth c Q D cA ad cf n nL nc ns m pc lv st) : GG p l e R s mt args below meth c Q D cA ad cf n nL nc ns m pc lv st := kk K kJ h
theorem g_loop_LIM {α : Type} {y : α} {K : Int64 → Int32 → MM → Option α} {L : (Int64 → Int32 → MM → Option α) → Nat → Int64 → Int32 → MM → Option α} {F : Nat} {v00 : Int64} {v10 : Int32} {v20 : MM} (h : L K F v00 v10 v20 = some y) (hd xt : Nat) (lvH lvX : Int64 → Int32 → MM → List (Nat × Value)) (stH stX : Int64 → Int32 → MM → List Value) (kX : ∀ (v0 : Int64) (v1 : Int32) (v2 : MM), K v0 v1 v2 = some y → GG p l e R s mt args below meth c Q D cA ad cf n nL nc ns v2 xt (lvX v0 v1 v2) (stX v0 v1 v2)) (kL : ∀ q : Int64 → Int32 → MM → Option α, (∀ (v0 : Int64) (v1 : Int32) (v2 : MM), q v0 v1 v2 = some y → GG p l e R s mt args below meth c Q D cA ad cf n nL nc ns v2 xt (lvX v0 v1 v2) (stX v0 v1 v2)) → ∀ i : Nat, (∀ (v0 : Int64) (v1 : Int32) (v2 : MM), L q i v0 v1 v2 = some y → GG p l e R s mt args below meth c Q D cA ad cf n nL nc ns v2 hd (lvH v0 v1 v2) (stH v0 v1 v2)) → ∀ (v0 : Int64) (v1 : Int32) (v2 : MM), L q (i + 1) v0 v1 v2 = some y → GG p l e R s mt args below meth c Q D cA ad cf n nL nc ns v2 hd (lvH v0 v1 v2) (stH v0 v1 v2)) (k0 : ∀ (q : Int64 → Int32 → MM → Option α) (v0 : Int64) (v1 : Int32) (v2 : MM), L q 0 v0 v1 v2 = none) : GG p l e R s mt args below meth c Q D cA ad cf n nL nc ns v20 hd (lvH v00 v10 v20) (stH v00 v10 v20) := by
  have key : ∀ i : Nat, ∀ (v0 : Int64) (v1 : Int32) (v2 : MM), L K i v0 v1 v2 = some y → GG p l e R s mt args below meth c Q D cA ad cf n nL nc ns v2 hd (lvH v0 v1 v2) (stH v0 v1 v2) := by
    intro i
    induction i with
    | zero =>
      intro v0 v1 v2 h
      rw [k0] at h
      cases h
    | succ i ih => exact kL K kX i ih
  exact key F _ _ _ h
theorem g_join_LL {α : Type} {y : α} {K : Int64 → Int64 → Option α} {B : (Int64 → Int64 → Option α) → Option α} (h : Jp K B = some y) (tgt : Nat) (lv' : Int64 → Int64 → List (Nat × Value)) (st' : Int64 → Int64 → List Value) (kJ : ∀ (v0 : Int64) (v1 : Int64), K v0 v1 = some y → GG p l e R s mt args below meth c Q D cA ad cf n nL nc ns m tgt (lv' v0 v1) (st' v0 v1)) (kk : ∀ q : Int64 → Int64 → Option α, (∀ (v0 : Int64) (v1 : Int64), q v0 v1 = some y → GG p l e R s mt args below meth c Q D cA ad cf n nL nc ns m tgt (lv' v0 v1) (st' v0 v1)) → B q = some y → GG p l e R s mt args below meth c Q D cA ad cf n nL nc ns m pc lv st) : GG p l e R s mt args below meth c Q D cA ad cf n nL nc ns m pc lv st := kk K kJ h
theorem g_loop_LL {α : Type} {y : α} {K : Int64 → Int64 → Option α} {L : (Int64 → Int64 → Option α) → Nat → Int64 → Int64 → Option α} {F : Nat} {v00 : Int64} {v10 : Int64} (h : L K F v00 v10 = some y) (hd xt : Nat) (lvH lvX : Int64 → Int64 → List (Nat × Value)) (stH stX : Int64 → Int64 → List Value) (kX : ∀ (v0 : Int64) (v1 : Int64), K v0 v1 = some y → GG p l e R s mt args below meth c Q D cA ad cf n nL nc ns m xt (lvX v0 v1) (stX v0 v1)) (kL : ∀ q : Int64 → Int64 → Option α, (∀ (v0 : Int64) (v1 : Int64), q v0 v1 = some y → GG p l e R s mt args below meth c Q D cA ad cf n nL nc ns m xt (lvX v0 v1) (stX v0 v1)) → ∀ i : Nat, (∀ (v0 : Int64) (v1 : Int64), L q i v0 v1 = some y → GG p l e R s mt args below meth c Q D cA ad cf n nL nc ns m hd (lvH v0 v1) (stH v0 v1)) → ∀ (v0 : Int64) (v1 : Int64), L q (i + 1) v0 v1 = some y → GG p l e R s mt args below meth c Q D cA ad cf n nL nc ns m hd (lvH v0 v1) (stH v0 v1)) (k0 : ∀ (q : Int64 → Int64 → Option α) (v0 : Int64) (v1 : Int64), L q 0 v0 v1 = none) : GG p l e R s mt args below meth c Q D cA ad cf n nL nc ns m hd (lvH v00 v10) (stH v00 v10) := by
  have key : ∀ i : Nat, ∀ (v0 : Int64) (v1 : Int64), L K i v0 v1 = some y → GG p l e R s mt args below meth c Q D cA ad cf n nL nc ns m hd (lvH v0 v1) (stH v0 v1) := by
    intro i
    induction i with
    | zero =>
      intro v0 v1 h
      rw [k0] at h
      cases h
    | succ i ih => exact kL K kX i ih
  exact key F _ _ h
theorem g_join_M {α : Type} {y : α} {K : MM → Option α} {B : (MM → Option α) → Option α} (h : Jp K B = some y) (tgt : Nat) (lv' : MM → List (Nat × Value)) (st' : MM → List Value) (kJ : ∀ (v0 : MM), K v0 = some y → GG p l e R s mt args below meth c Q D cA ad cf n nL nc ns v0 tgt (lv' v0) (st' v0)) (kk : ∀ q : MM → Option α, (∀ (v0 : MM), q v0 = some y → GG p l e R s mt args below meth c Q D cA ad cf n nL nc ns v0 tgt (lv' v0) (st' v0)) → B q = some y → GG p l e R s mt args below meth c Q D cA ad cf n nL nc ns m pc lv st) : GG p l e R s mt args below meth c Q D cA ad cf n nL nc ns m pc lv st := kk K kJ h
theorem g_loop_M {α : Type} {y : α} {K : MM → Option α} {L : (MM → Option α) → Nat → MM → Option α} {F : Nat} {v00 : MM} (h : L K F v00 = some y) (hd xt : Nat) (lvH lvX : MM → List (Nat × Value)) (stH stX : MM → List Value) (kX : ∀ (v0 : MM), K v0 = some y → GG p l e R s mt args below meth c Q D cA ad cf n nL nc ns v0 xt (lvX v0) (stX v0)) (kL : ∀ q : MM → Option α, (∀ (v0 : MM), q v0 = some y → GG p l e R s mt args below meth c Q D cA ad cf n nL nc ns v0 xt (lvX v0) (stX v0)) → ∀ i : Nat, (∀ (v0 : MM), L q i v0 = some y → GG p l e R s mt args below meth c Q D cA ad cf n nL nc ns v0 hd (lvH v0) (stH v0)) → ∀ (v0 : MM), L q (i + 1) v0 = some y → GG p l e R s mt args below meth c Q D cA ad cf n nL nc ns v0 hd (lvH v0) (stH v0)) (k0 : ∀ (q : MM → Option α) (v0 : MM), L q 0 v0 = none) : GG p l e R s mt args below meth c Q D cA ad cf n nL nc ns v00 hd (lvH v00) (stH v00) := by
  have key : ∀ i : Nat, ∀ (v0 : MM), L K i v0 = some y → GG p l e R s mt args below meth c Q D cA ad cf n nL nc ns v0 hd (lvH v0) (stH v0) := by
    intro i
    induction i with
    | zero =>
      intro v0 h
      rw [k0] at h
      cases h
    | succ i ih => exact kL K kX i ih
  exact key F _ h
end GGsigs
