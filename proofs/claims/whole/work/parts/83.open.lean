/-! the law from its entry, over the thirty steps -/
theorem wl_123 : (Cond.classLink RL 7 RX5 : Cond) ∈ WL := WL_of 123 (by decide +kernel) rfl
theorem wl_124 : (Cond.instantiable RX5 10 : Cond) ∈ WL := WL_of 124 (by decide +kernel) rfl
theorem wl_125 : (Cond.methodLink RL 9 yX5_init : Cond) ∈ WL := WL_of 125 (by decide +kernel) rfl
theorem wl_126 : (Cond.instanceMethod yX5_init : Cond) ∈ WL := WL_of 126 (by decide +kernel) rfl
theorem wl_127 : (Cond.code yX5_init cX5_init 2 none : Cond) ∈ WL := WL_of 127 (by decide +kernel) rfl
theorem wl_910 : (Cond.classLink RL 10 RX6 : Cond) ∈ WL := WL_of 910 (by decide +kernel) rfl
theorem wl_911 : (Cond.instantiable RX6 54 : Cond) ∈ WL := WL_of 911 (by decide +kernel) rfl
theorem wl_912 : (Cond.methodLink RL 12 yX6_init : Cond) ∈ WL := WL_of 912 (by decide +kernel) rfl
theorem wl_913 : (Cond.instanceMethod yX6_init : Cond) ∈ WL := WL_of 913 (by decide +kernel) rfl
theorem wl_914 : (Cond.code yX6_init cX6_init 1 none : Cond) ∈ WL := WL_of 914 (by decide +kernel) rfl
theorem va_A1 {a sz q : Nat} {e : va_E} : va_A [(a, e)] sz q ↔ q = a ∨ sz ≤ q := by
  constructor
  · rintro (⟨k, e2, h⟩ | h)
    · have h1 := (List.getElem?_eq_some_iff.mp h).1
      simp only [List.length_cons, List.length_nil] at h1
      have h2 : k = 0 := by omega
      subst h2
      cases h
      exact Or.inl rfl
    · exact Or.inr h
  · rintro (rfl | h)
    · exact Or.inl ⟨0, _, rfl⟩
    · exact Or.inr h
section LAWJ
variable {p : Program} {l : Launch} {e : Env} {R : Room} {s : State} {mt : MethodId} {args : Array Value} {below : List Frame} {meth : Method} {c : Code} {Q : State → Prop} {cc : ByteArray} {own : String} {D : va_G} {cA : Nat → ClassId} {A : Nat → Prop} {tb : Nat → Nat} {nL nc ns pc : Nat} {ws : va_W} {lv : List (Nat × Value)} {st : List Value}
theorem e_callJ (C : CE p s mt args c cc own D cA A nL) {y : MethodName} {bytes : ByteArray} {maxL' : Nat} {rm' : Room} {cf : CF} {n ci : Nat} {fs0 : List Value} {m' : MM} {mc ms : Nat} {ex : State → Prop} (hcj : CJ l y bytes maxL' rm' cf n ci fs0 m' mc ms ex) (hX : SX tb A s s.heap) (hexw : ∀ U : State, s.WarmedH U.vm → ex U) (hexc : ∀ (U : State) (g : JFrame) (mk : MethodId) (a : Array Value), ex U → ex (U.calling g mk a)) {a index : Nat} (h1 : Cond.methodLink own index y ∈ WL) (h2 : Cond.instanceMethod y ∈ WL) (h3 : Cond.initialized y.cls ∈ WL) (h5 : Cond.code y bytes maxL' none ∈ WL) (hy1 : y.name = "<init>") (hd0 : y.cls ≠ "java/lang/invoke/MethodHandle" ∧ y.cls ≠ "java/lang/invoke/VarHandle" ∧ (parseMethodDescriptor y.desc).map (fun d => d.parameters.length) = some 0) (hrc : rm'.cells = mc) (hrs : rm'.slots = ms) (hR : rm'.frames + 1 ≤ R.frames ∧ 8 + (maxL' + 11) + rm'.locals ≤ R.locals) {wr : va_W} (hws : ws = wr ++ [(a, .inr (ci, fs0))]) (hsum : (st.map fun v => v.category).sum ≤ 8) (hd : decode cc pc = .ok (.invokespecial index, 3)) (hcs : nc + mc ≤ R.cells ∧ ns + ms ≤ R.slots)
    (kk : ∀ (ad : Nat → Nat), AP ad n → ad 0 = a → (∀ k, k < n → A (ad k)) → (∀ (k : Nat) (q : Nat × va_E), wr[k]? = some q → ∀ j, j < n → q.1 ≠ ad j) → ∀ (H1 : Heap) (locs1 : List Loc) (ls : Array Slot), va_P D vwCl wr H1 → va_P D vwCl (WD cf n cA ad m') H1 → va_S A s.heap H1 locs1 → lv_has ls nL lv → W p l e R s mt args below meth c H1 locs1 (nc + mc) (ns + ms) Q (F0 mt (pc + 3) ls st)) : GE p l e R s mt args below meth c Q D A nL ws nc ns pc lv (.ref a :: st) := by
  subst hws
  intro H locs ls hP hD hS hl
  have hat : (wr ++ [(a, (.inr (ci, fs0) : va_E))])[wr.length]? = some (a, .inr (ci, fs0)) := by simp
  have hPc : va_P D vwCl [(a, (.inr (ci, fs0) : va_E))] H := by
    intro k q hk
    have h1 := (List.getElem?_eq_some_iff.mp hk).1
    simp only [List.length_cons, List.length_nil] at h1
    have h2 : k = 0 := by omega
    subst h2
    cases hk
    exact hP _ _ hat
  have hFc : ∀ q, va_A [(a, (.inr (ci, fs0) : va_E))] H.size q → A q := by
    intro q hq
    rcases va_A1.mp hq with rfl | hq
    · exact hD.2 _ _ hat
    · exact C.2.2.2.2.2.2 q (Nat.le_trans hS.1 hq)
  refine va_callv (va_runI (As := []) (rest := st) ⟨C.1, C.2.1, C.2.2.1, C.2.2.2.1, C.2.2.2.2.1⟩ (hcj D cA tb a H.size) (cwI 0 C.2.2.2.2.1 (wl_ws h5) rfl hrc hrs (C.2.2.2.2.1 _ h3) (C.2.2.2.2.1 _ h1) (C.2.2.2.2.1 _ h2) hy1 hd0 hR) ⟨fun a U g mk q => ⟨q.1, q.2.1, q.2.2.1, va_K.moved (u := U) (U := U.calling g mk a) (Vm.Alike.refl U.vm) q.2.2.2.1, q.2.2.2.2.1.calling g mk a, hexc U g mk a q.2.2.2.2.2⟩, fun U hU hW => ⟨rfl, by rw [hU], by rw [hU]; exact hPc, va_K.moved hW.alike C.2.2.2.2.2.1, SX.go hX hW (fun a h1 h2 => by rw [hU]; exact hS.2.1 a h1 h2) hFc, hexw U hW⟩⟩ rfl rfl hl.1 rfl (lv_room hsum) hd hcs) hS (fun q _ h => hFc q h) hFc (fun u t H1 locs1 ht hvm hw hB hz1 hk1 hS1 => ?_)
  obtain ⟨hP1, hA1⟩ := hB
  rw [ht] at hP1
  have hwr : ∀ (k : Nat) (q : Nat × va_E), wr[k]? = some q → (wr ++ [(a, (.inr (ci, fs0) : va_E))])[k]? = some q := fun k q hk => by
    rw [List.getElem?_append_left (List.getElem?_eq_some_iff.mp hk).1]
    exact hk
  have hne : ∀ (k : Nat) (q : Nat × va_E), wr[k]? = some q → q.1 ≠ a := fun k q hk h => by
    have h9 := hD.1 k wr.length q _ (hwr k q hk) hat h
    have h8 := (List.getElem?_eq_some_iff.mp hk).1
    omega
  refine kk u hw.1 hw.2 (fun k hk => hFc _ (hA1 k hk)) (fun k q hk j hj h => ?_) H1 locs1 ls (fun k q hk => ?_) hP1 hS1 hl
  · have h9 := (hP k q (hwr k q hk)).lt
    rcases va_A1.mp (hA1 j hj) with h8 | h8
    · exact hne k q hk (h.trans h8)
    · rw [← h] at h8
      omega
  · have h9 := hP k q (hwr k q hk)
    refine h9.kept (hk1 q.1 h9.lt (fun z => ?_))
    rcases va_A1.mp z with z | z
    · exact hne k q hk z
    · exact absurd h9.lt (Nat.not_lt.mpr z)
end LAWJ
set_option maxRecDepth 100000 in
set_option maxHeartbeats 8000000 in
theorem whole_start_open {Rel : MM → MM → Prop} {F : Nat} (h_hold : St_hold Rel F) (h_thing : St_thing Rel F) (h_set : St_set Rel F) (h_part : St_part Rel F) (h_told : St_told Rel F) (h_feed : St_feed Rel F) (h_text : St_text Rel F) (h_force : St_force Rel F) (h_move : St_move Rel F) (h_why : St_why Rel F) (h_open : St_open Rel F) (h_asks : St_asks Rel F) (h_best : St_best Rel F) (h_pack : St_pack Rel F) (h_ring : St_ring Rel F) (h_leave : St_leave Rel F) (h_roomy : St_roomy Rel F) (h_judge : St_judge Rel F) (h_ways : St_ways Rel F) (h_soonest : St_soonest Rel F) (h_drawn : St_drawn Rel F) (h_chance : St_chance Rel F) (h_image : St_image Rel F) (h_back : St_back Rel F) (h_count : St_count Rel F) (h_sheet : St_sheet Rel F) (h_cell : St_cell Rel F) (h_copy : St_copy Rel F) (h_things : St_things Rel F) (h_taken : St_taken Rel F) {mc0 mm0 : MM} (hC0 : f_X5_tail F m0C = some mc0) (hM0 : f_X6_tail m0M = some mm0) (hR0 : Rel mc0 mm0) {p : Program} {e : Env} {s : State} {m : MethodId} {below : List Frame} {meth : Method} {c : Code} (l : Launch) {b L : Nat} {xs : Nat → Int32} (hL : L ≤ 3072) (C0 : lw_At p s m meth c b L xs) : W p l e room_1 s m #[Value.ref b] below meth c s.heap [] 0 0 (lw_Z below #[Value.ref b] s) (entryFrame m ([Value.ref b] : List Value).toArray 4) := by
  obtain ⟨hx, hb, hr, hml, hown, hts, hXS, hbl, hlocks, hgv⟩ := id C0
  have hW : ∀ w ∈ WL, w.before #[Value.ref b] s = true := fun w h => hts w (WL_in w h)
  obtain ⟨D, cA, hK⟩ := la_K hts
  obtain ⟨tb, hSX⟩ := la_SX hts hgv
  have hex := la_exC hts
  have C : CE p s m #[Value.ref b] c code R_law D cA (fun q : Nat => s.heap.size ≤ q) 4 := ⟨hx, hb, hml, hown, hW, hK, fun q h => h⟩
  have hl := lv_entry ([.ref b]) (n := 4) (Nat.le_of_ble_eq_true rfl)
  rw [lg_entry_eq]
  generalize (lg_sl ([.ref b]) ++ List.replicate (4 - (lg_sl ([.ref b])).length) Slot.unset).toArray = ls at hl ⊢
  have hl : lv_has ls 4 [(0, .ref b)] := hl
  have G : GE p l e room_1 s m #[Value.ref b] below meth c (lw_Z below #[Value.ref b] s) D (fun q : Nat => s.heap.size ≤ q) 4 [] 0 0 0 [(0, .ref b)] [] := by
    refine e_new (ci := 5) (fs := [.null, .null, .null, .null, .null, .null, .null, .null, .int 0, .int 0]) (R := room_1) C (T := TX5) (fun w hw => C.2.2.2.2.1 w (inlX5 w hw)) tyX5 tyX5_ok wl_123 wl_124 wl_109 rfl (fun j hj => by rcases (show j = 0 ∨ j = 1 ∨ j = 2 ∨ j = 3 ∨ j = 4 ∨ j = 5 ∨ j = 6 ∨ j = 7 ∨ j = 8 ∨ j = 9 by omega) with rfl | rfl | rfl | rfl | rfl | rfl | rfl | rfl | rfl | rfl <;> rfl) (Nat.le_of_ble_eq_true rfl) (Nat.le_of_ble_eq_true rfl) dL_law_0 (fun q5 => ?_)
    refine e_dup C dL_law_3 rfl ?_
    refine e_callJ C (j_X5_init l hC0) hSX (fun U hU => hex.warm hU) (fun U g mk a h => h.calling g mk a) wl_125 wl_126 wl_109 wl_127 rfl (by decide +kernel) rfl rfl ⟨Nat.le_of_ble_eq_true rfl, Nat.le_of_ble_eq_true rfl⟩ (wr := []) rfl (Nat.le_of_ble_eq_true rfl) dL_law_4 ⟨Nat.le_of_ble_eq_true rfl, Nat.le_of_ble_eq_true rfl⟩ (fun adc hap ha0 hA1 _ H1 locs1 ls1 _ hP1 hS1 hl1 => ?_)
    refine lv_astore_n (lv' := [(1, .ref q5), (0, .ref b)]) hx hb dL_law_7 rfl hl1 (by decide) rfl (fun ls2 hl2 => ?_)
    have had0 : q5 = adc 0 := ha0.symm
    have G2 : GE p l e room_1 s m #[Value.ref b] below meth c (lw_Z below #[Value.ref b] s) D (fun q : Nat => s.heap.size ≤ q) 4 (WD cfC 73 cA adc mc0) (0 + 1 + 72) (0 + 10 + 14546) 8 [(1, .ref (adc 0)), (0, .ref b)] [] := by
      refine e_new (ci := 6) (fs := [.int 0, .null, .null, .int 0, .int 0, .null, .int 0, .null, .null, .int 0, .null, .null, .null, .null, .int 0, .int 0, .int 0, .int 0, .int 0, .int 0, .int 0, .int 0, .int 0, .int 0, .int 0, .int 0, .int 0, .int 0, .int 0, .int 0, .long 0, .int 0, .int 0, .int 0, .null, .null, .null, .null, .null, .null, .int 0, .int 0, .null, .null, .null, .int 0, .int 0, .int 0, .int 0, .int 0, .null, .null, .null, .null]) (R := room_1) C (T := TX6) (fun w hw => C.2.2.2.2.1 w (inlX6 w hw)) tyX6 tyX6_ok wl_910 wl_911 wl_121 rfl (fun j hj => by rcases (show j = 0 ∨ j = 1 ∨ j = 2 ∨ j = 3 ∨ j = 4 ∨ j = 5 ∨ j = 6 ∨ j = 7 ∨ j = 8 ∨ j = 9 ∨ j = 10 ∨ j = 11 ∨ j = 12 ∨ j = 13 ∨ j = 14 ∨ j = 15 ∨ j = 16 ∨ j = 17 ∨ j = 18 ∨ j = 19 ∨ j = 20 ∨ j = 21 ∨ j = 22 ∨ j = 23 ∨ j = 24 ∨ j = 25 ∨ j = 26 ∨ j = 27 ∨ j = 28 ∨ j = 29 ∨ j = 30 ∨ j = 31 ∨ j = 32 ∨ j = 33 ∨ j = 34 ∨ j = 35 ∨ j = 36 ∨ j = 37 ∨ j = 38 ∨ j = 39 ∨ j = 40 ∨ j = 41 ∨ j = 42 ∨ j = 43 ∨ j = 44 ∨ j = 45 ∨ j = 46 ∨ j = 47 ∨ j = 48 ∨ j = 49 ∨ j = 50 ∨ j = 51 ∨ j = 52 ∨ j = 53 by omega) with rfl | rfl | rfl | rfl | rfl | rfl | rfl | rfl | rfl | rfl | rfl | rfl | rfl | rfl | rfl | rfl | rfl | rfl | rfl | rfl | rfl | rfl | rfl | rfl | rfl | rfl | rfl | rfl | rfl | rfl | rfl | rfl | rfl | rfl | rfl | rfl | rfl | rfl | rfl | rfl | rfl | rfl | rfl | rfl | rfl | rfl | rfl | rfl | rfl | rfl | rfl | rfl | rfl | rfl <;> rfl) (Nat.le_of_ble_eq_true rfl) (Nat.le_of_ble_eq_true rfl) dL_law_8 (fun q6 => ?_)
      refine e_dup C dL_law_11 rfl ?_
      refine e_callJ C (j_X6_init l hM0) hSX (fun U hU => trivial) (fun U g mk a h => trivial) wl_912 wl_913 wl_121 wl_914 rfl (by decide +kernel) rfl rfl ⟨Nat.le_of_ble_eq_true rfl, Nat.le_of_ble_eq_true rfl⟩ (wr := WD cfC 73 cA adc mc0) rfl (Nat.le_of_ble_eq_true rfl) dL_law_12 ⟨Nat.le_of_ble_eq_true rfl, Nat.le_of_ble_eq_true rfl⟩ (fun adm hap2 ha1 hA2 hne H2 locs2 ls3 hPC hPM hS2 hl3 => ?_)
      refine lv_astore_n (lv' := [(2, .ref q6), (1, .ref (adc 0)), (0, .ref b)]) hx hb dL_law_15 rfl hl3 (by decide) rfl (fun ls4 hl4 => ?_)
      refine lv_iconst (v := 0) hx hb dL_law_16 (by decide) ?_
      refine lv_istore_n (lv' := [(3, .int 0), (2, .ref q6), (1, .ref (adc 0)), (0, .ref b)]) hx hb dL_law_17 rfl hl4 (by decide) rfl (fun ls5 hl5 => ?_)
      have had1 : q6 = adm 0 := ha1.symm
      have CC : CL p s m b L xs c D cA adc adm (0 + 1 + 72 + 1 + 22) (0 + 10 + 14546 + 54 + 20228) tb := ⟨hx, hb, hml, hown, hW, hK, ⟨hap, hap2⟩, ⟨hA1, hA2, fun i j hi hj => hne i _ (WD_at hi) j hj⟩, hSX, ⟨Nat.le_of_ble_eq_true rfl, Nat.le_of_ble_eq_true rfl⟩, hXS, hbl⟩
      rw [had1] at hl5
      exact law_loop_open h_hold h_thing h_set h_part h_told h_feed h_text h_force h_move h_why h_open h_asks h_best h_pack h_ring h_leave h_roomy h_judge h_ways h_soonest h_drawn h_chance h_image h_back h_count h_sheet h_cell h_copy h_things h_taken hL ⟨Nat.le_of_ble_eq_true rfl, Nat.le_of_ble_eq_true rfl⟩ hr hlocks CC (L + 1) 0 mc0 mm0 0 (Nat.zero_le _) (by omega) rfl hR0 H2 locs2 ls5 hPC hPM hS2 (lv_sub hl5 [3, 2, 1, 0] rfl)
    rw [had0] at hl2
    exact G2 H1 locs1 ls2 hP1 ⟨(fun i j p q hi hj h => (by
      obtain ⟨h1, rfl⟩ := WD_out hi
      obtain ⟨h2, rfl⟩ := WD_out hj
      exact hap i j h1 h2 h)), (fun k q hk => (by
      obtain ⟨h1, rfl⟩ := WD_out hk
      exact hA1 k h1))⟩ hS1 hl2
  exact G s.heap [] ls (fun k q h => by simp at h) ⟨fun i j p q h => by simp at h, fun k q h => by simp at h⟩ va_S.rf hl
