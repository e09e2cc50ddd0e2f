section
/-- a private method of a class that the tables say can be made, by its rows of tables_1 -/
def lw_okq (q : MethodName × Nat) : Prop := (q.1.cls ≠ "java/lang/invoke/MethodHandle" ∧ q.1.cls ≠ "java/lang/invoke/VarHandle") ∧ Cond.instantiable q.1.cls q.2 ∈ tables_1 ∧ Cond.privateMethod q.1 ∈ tables_1 ∧ Cond.instanceMethod q.1 ∈ tables_1
theorem lw_p0 : lw_okq (⟨"BothHandsFull$Tape", "advance", "()V"⟩, 7) := ⟨⟨by decide +kernel, by decide +kernel⟩, List.mem_of_getElem? (i := 137) (by decide +kernel), List.mem_of_getElem? (i := 267) (by decide +kernel), List.mem_of_getElem? (i := 268) (by decide +kernel)⟩
theorem lw_p1 : lw_okq (⟨"BothHandsFull$Tape", "takeWord", "()V"⟩, 7) := ⟨⟨by decide +kernel, by decide +kernel⟩, List.mem_of_getElem? (i := 137) (by decide +kernel), List.mem_of_getElem? (i := 274) (by decide +kernel), List.mem_of_getElem? (i := 275) (by decide +kernel)⟩
theorem lw_p2 : lw_okq (⟨"BothHandsFull$Tape", "isWord", "(I)Z"⟩, 7) := ⟨⟨by decide +kernel, by decide +kernel⟩, List.mem_of_getElem? (i := 137) (by decide +kernel), List.mem_of_getElem? (i := 278) (by decide +kernel), List.mem_of_getElem? (i := 279) (by decide +kernel)⟩
theorem lw_p3 : lw_okq (⟨"BothHandsFull$Tape", "takeNumber", "()V"⟩, 7) := ⟨⟨by decide +kernel, by decide +kernel⟩, List.mem_of_getElem? (i := 137) (by decide +kernel), List.mem_of_getElem? (i := 287) (by decide +kernel), List.mem_of_getElem? (i := 288) (by decide +kernel)⟩
theorem lw_p4 : lw_okq (⟨"BothHandsFull$Tape", "joined", "(II)Z"⟩, 7) := ⟨⟨by decide +kernel, by decide +kernel⟩, List.mem_of_getElem? (i := 137) (by decide +kernel), List.mem_of_getElem? (i := 355) (by decide +kernel), List.mem_of_getElem? (i := 356) (by decide +kernel)⟩
theorem lw_p5 : lw_okq (⟨"BothHandsFull$Tape", "one", "(I)Z"⟩, 7) := ⟨⟨by decide +kernel, by decide +kernel⟩, List.mem_of_getElem? (i := 137) (by decide +kernel), List.mem_of_getElem? (i := 359) (by decide +kernel), List.mem_of_getElem? (i := 360) (by decide +kernel)⟩
theorem lw_p6 : lw_okq (⟨"BothHandsFull$Tape", "joins", "(I)Z"⟩, 7) := ⟨⟨by decide +kernel, by decide +kernel⟩, List.mem_of_getElem? (i := 137) (by decide +kernel), List.mem_of_getElem? (i := 367) (by decide +kernel), List.mem_of_getElem? (i := 368) (by decide +kernel)⟩
theorem lw_p7 : lw_okq (⟨"BothHandsFull", "setFree", "(I)I"⟩, 10) := ⟨⟨by decide +kernel, by decide +kernel⟩, List.mem_of_getElem? (i := 16) (by decide +kernel), List.mem_of_getElem? (i := 442) (by decide +kernel), List.mem_of_getElem? (i := 443) (by decide +kernel)⟩
theorem lw_p8 : lw_okq (⟨"BothHandsFull", "setKey", "(I)I"⟩, 10) := ⟨⟨by decide +kernel, by decide +kernel⟩, List.mem_of_getElem? (i := 16) (by decide +kernel), List.mem_of_getElem? (i := 446) (by decide +kernel), List.mem_of_getElem? (i := 447) (by decide +kernel)⟩
theorem lw_p9 : lw_okq (⟨"BothHandsFull", "setNumber", "(II)I"⟩, 10) := ⟨⟨by decide +kernel, by decide +kernel⟩, List.mem_of_getElem? (i := 16) (by decide +kernel), List.mem_of_getElem? (i := 454) (by decide +kernel), List.mem_of_getElem? (i := 455) (by decide +kernel)⟩
theorem lw_p10 : lw_okq (⟨"BothHandsFull", "setDry", "(II)I"⟩, 10) := ⟨⟨by decide +kernel, by decide +kernel⟩, List.mem_of_getElem? (i := 16) (by decide +kernel), List.mem_of_getElem? (i := 462) (by decide +kernel), List.mem_of_getElem? (i := 463) (by decide +kernel)⟩
theorem lw_p11 : lw_okq (⟨"BothHandsFull", "toldOfHold", "(II)I"⟩, 10) := ⟨⟨by decide +kernel, by decide +kernel⟩, List.mem_of_getElem? (i := 16) (by decide +kernel), List.mem_of_getElem? (i := 481) (by decide +kernel), List.mem_of_getElem? (i := 482) (by decide +kernel)⟩
theorem lw_p12 : lw_okq (⟨"BothHandsFull", "toldOfThing", "(II)I"⟩, 10) := ⟨⟨by decide +kernel, by decide +kernel⟩, List.mem_of_getElem? (i := 16) (by decide +kernel), List.mem_of_getElem? (i := 492) (by decide +kernel), List.mem_of_getElem? (i := 493) (by decide +kernel)⟩
theorem lw_p13 : lw_okq (⟨"BothHandsFull", "costs", "(III)I"⟩, 10) := ⟨⟨by decide +kernel, by decide +kernel⟩, List.mem_of_getElem? (i := 16) (by decide +kernel), List.mem_of_getElem? (i := 512) (by decide +kernel), List.mem_of_getElem? (i := 513) (by decide +kernel)⟩
theorem lw_p14 : lw_okq (⟨"BothHandsFull", "name", "(IIIII)V"⟩, 10) := ⟨⟨by decide +kernel, by decide +kernel⟩, List.mem_of_getElem? (i := 16) (by decide +kernel), List.mem_of_getElem? (i := 516) (by decide +kernel), List.mem_of_getElem? (i := 517) (by decide +kernel)⟩
theorem lw_p15 : lw_okq (⟨"BothHandsFull", "bell", "()I"⟩, 10) := ⟨⟨by decide +kernel, by decide +kernel⟩, List.mem_of_getElem? (i := 16) (by decide +kernel), List.mem_of_getElem? (i := 562) (by decide +kernel), List.mem_of_getElem? (i := 563) (by decide +kernel)⟩
def lw_privs_1 : List (MethodName × Nat) := [(⟨"BothHandsFull$Tape", "advance", "()V"⟩, 7), (⟨"BothHandsFull$Tape", "takeWord", "()V"⟩, 7), (⟨"BothHandsFull$Tape", "isWord", "(I)Z"⟩, 7), (⟨"BothHandsFull$Tape", "takeNumber", "()V"⟩, 7), (⟨"BothHandsFull$Tape", "joined", "(II)Z"⟩, 7), (⟨"BothHandsFull$Tape", "one", "(I)Z"⟩, 7), (⟨"BothHandsFull$Tape", "joins", "(I)Z"⟩, 7), (⟨"BothHandsFull", "setFree", "(I)I"⟩, 10), (⟨"BothHandsFull", "setKey", "(I)I"⟩, 10), (⟨"BothHandsFull", "setNumber", "(II)I"⟩, 10), (⟨"BothHandsFull", "setDry", "(II)I"⟩, 10), (⟨"BothHandsFull", "toldOfHold", "(II)I"⟩, 10), (⟨"BothHandsFull", "toldOfThing", "(II)I"⟩, 10), (⟨"BothHandsFull", "costs", "(III)I"⟩, 10), (⟨"BothHandsFull", "name", "(IIIII)V"⟩, 10), (⟨"BothHandsFull", "bell", "()I"⟩, 10)]
theorem lw_r1 : ∀ q ∈ lw_privs_1, lw_okq q := List.forall_mem_cons.mpr ⟨lw_p0, List.forall_mem_cons.mpr ⟨lw_p1, List.forall_mem_cons.mpr ⟨lw_p2, List.forall_mem_cons.mpr ⟨lw_p3, List.forall_mem_cons.mpr ⟨lw_p4, List.forall_mem_cons.mpr ⟨lw_p5, List.forall_mem_cons.mpr ⟨lw_p6, List.forall_mem_cons.mpr ⟨lw_p7, List.forall_mem_cons.mpr ⟨lw_p8, List.forall_mem_cons.mpr ⟨lw_p9, List.forall_mem_cons.mpr ⟨lw_p10, List.forall_mem_cons.mpr ⟨lw_p11, List.forall_mem_cons.mpr ⟨lw_p12, List.forall_mem_cons.mpr ⟨lw_p13, List.forall_mem_cons.mpr ⟨lw_p14, List.forall_mem_cons.mpr ⟨lw_p15, fun _ h => absurd h List.not_mem_nil⟩⟩⟩⟩⟩⟩⟩⟩⟩⟩⟩⟩⟩⟩⟩⟩
theorem lw_p16 : lw_okq (⟨"BothHandsFull", "worth", "(I)I"⟩, 10) := ⟨⟨by decide +kernel, by decide +kernel⟩, List.mem_of_getElem? (i := 16) (by decide +kernel), List.mem_of_getElem? (i := 566) (by decide +kernel), List.mem_of_getElem? (i := 567) (by decide +kernel)⟩
theorem lw_p17 : lw_okq (⟨"BothHandsFull", "fewest", "(Z)I"⟩, 10) := ⟨⟨by decide +kernel, by decide +kernel⟩, List.mem_of_getElem? (i := 16) (by decide +kernel), List.mem_of_getElem? (i := 574) (by decide +kernel), List.mem_of_getElem? (i := 575) (by decide +kernel)⟩
theorem lw_p18 : lw_okq (⟨"BothHandsFull", "think", "(II)V"⟩, 10) := ⟨⟨by decide +kernel, by decide +kernel⟩, List.mem_of_getElem? (i := 16) (by decide +kernel), List.mem_of_getElem? (i := 578) (by decide +kernel), List.mem_of_getElem? (i := 579) (by decide +kernel)⟩
theorem lw_p19 : lw_okq (⟨"BothHandsFull$Search", "lay", "(II)V"⟩, 14) := ⟨⟨by decide +kernel, by decide +kernel⟩, List.mem_of_getElem? (i := 88) (by decide +kernel), List.mem_of_getElem? (i := 593) (by decide +kernel), List.mem_of_getElem? (i := 594) (by decide +kernel)⟩
theorem lw_p20 : lw_okq (⟨"BothHandsFull$Search", "split", "(I)V"⟩, 14) := ⟨⟨by decide +kernel, by decide +kernel⟩, List.mem_of_getElem? (i := 88) (by decide +kernel), List.mem_of_getElem? (i := 599) (by decide +kernel), List.mem_of_getElem? (i := 600) (by decide +kernel)⟩
theorem lw_p21 : lw_okq (⟨"BothHandsFull$Search", "clearTurns", "()V"⟩, 14) := ⟨⟨by decide +kernel, by decide +kernel⟩, List.mem_of_getElem? (i := 88) (by decide +kernel), List.mem_of_getElem? (i := 611) (by decide +kernel), List.mem_of_getElem? (i := 612) (by decide +kernel)⟩
theorem lw_p22 : lw_okq (⟨"BothHandsFull$Search", "enterTurn", "(II)V"⟩, 14) := ⟨⟨by decide +kernel, by decide +kernel⟩, List.mem_of_getElem? (i := 88) (by decide +kernel), List.mem_of_getElem? (i := 615) (by decide +kernel), List.mem_of_getElem? (i := 616) (by decide +kernel)⟩
theorem lw_p23 : lw_okq (⟨"BothHandsFull$Search", "spread", "(Z)I"⟩, 14) := ⟨⟨by decide +kernel, by decide +kernel⟩, List.mem_of_getElem? (i := 88) (by decide +kernel), List.mem_of_getElem? (i := 619) (by decide +kernel), List.mem_of_getElem? (i := 620) (by decide +kernel)⟩
theorem lw_p24 : lw_okq (⟨"BothHandsFull$Search", "leaveTurn", "(I)V"⟩, 14) := ⟨⟨by decide +kernel, by decide +kernel⟩, List.mem_of_getElem? (i := 88) (by decide +kernel), List.mem_of_getElem? (i := 624) (by decide +kernel), List.mem_of_getElem? (i := 625) (by decide +kernel)⟩
theorem lw_p25 : lw_okq (⟨"BothHandsFull$Search", "spreadOnce", "(II)V"⟩, 14) := ⟨⟨by decide +kernel, by decide +kernel⟩, List.mem_of_getElem? (i := 88) (by decide +kernel), List.mem_of_getElem? (i := 628) (by decide +kernel), List.mem_of_getElem? (i := 629) (by decide +kernel)⟩
theorem lw_p26 : lw_okq (⟨"BothHandsFull$Search", "lookAround", "(I)I"⟩, 14) := ⟨⟨by decide +kernel, by decide +kernel⟩, List.mem_of_getElem? (i := 88) (by decide +kernel), List.mem_of_getElem? (i := 632) (by decide +kernel), List.mem_of_getElem? (i := 633) (by decide +kernel)⟩
theorem lw_p27 : lw_okq (⟨"BothHandsFull", "countCosts", "()V"⟩, 10) := ⟨⟨by decide +kernel, by decide +kernel⟩, List.mem_of_getElem? (i := 16) (by decide +kernel), List.mem_of_getElem? (i := 643) (by decide +kernel), List.mem_of_getElem? (i := 644) (by decide +kernel)⟩
theorem lw_p28 : lw_okq (⟨"BothHandsFull", "leastIf", "(II)I"⟩, 10) := ⟨⟨by decide +kernel, by decide +kernel⟩, List.mem_of_getElem? (i := 16) (by decide +kernel), List.mem_of_getElem? (i := 651) (by decide +kernel), List.mem_of_getElem? (i := 652) (by decide +kernel)⟩
theorem lw_p29 : lw_okq (⟨"BothHandsFull$Search", "floodOnce", "(II)I"⟩, 14) := ⟨⟨by decide +kernel, by decide +kernel⟩, List.mem_of_getElem? (i := 88) (by decide +kernel), List.mem_of_getElem? (i := 659) (by decide +kernel), List.mem_of_getElem? (i := 660) (by decide +kernel)⟩
theorem lw_p30 : lw_okq (⟨"BothHandsFull", "canBe", "(I)Z"⟩, 10) := ⟨⟨by decide +kernel, by decide +kernel⟩, List.mem_of_getElem? (i := 16) (by decide +kernel), List.mem_of_getElem? (i := 700) (by decide +kernel), List.mem_of_getElem? (i := 701) (by decide +kernel)⟩
theorem lw_p31 : lw_okq (⟨"BothHandsFull$Search", "step", "([III)V"⟩, 14) := ⟨⟨by decide +kernel, by decide +kernel⟩, List.mem_of_getElem? (i := 88) (by decide +kernel), List.mem_of_getElem? (i := 718) (by decide +kernel), List.mem_of_getElem? (i := 719) (by decide +kernel)⟩
def lw_privs_2 : List (MethodName × Nat) := [(⟨"BothHandsFull", "worth", "(I)I"⟩, 10), (⟨"BothHandsFull", "fewest", "(Z)I"⟩, 10), (⟨"BothHandsFull", "think", "(II)V"⟩, 10), (⟨"BothHandsFull$Search", "lay", "(II)V"⟩, 14), (⟨"BothHandsFull$Search", "split", "(I)V"⟩, 14), (⟨"BothHandsFull$Search", "clearTurns", "()V"⟩, 14), (⟨"BothHandsFull$Search", "enterTurn", "(II)V"⟩, 14), (⟨"BothHandsFull$Search", "spread", "(Z)I"⟩, 14), (⟨"BothHandsFull$Search", "leaveTurn", "(I)V"⟩, 14), (⟨"BothHandsFull$Search", "spreadOnce", "(II)V"⟩, 14), (⟨"BothHandsFull$Search", "lookAround", "(I)I"⟩, 14), (⟨"BothHandsFull", "countCosts", "()V"⟩, 10), (⟨"BothHandsFull", "leastIf", "(II)I"⟩, 10), (⟨"BothHandsFull$Search", "floodOnce", "(II)I"⟩, 14), (⟨"BothHandsFull", "canBe", "(I)Z"⟩, 10), (⟨"BothHandsFull$Search", "step", "([III)V"⟩, 14)]
theorem lw_r2 : ∀ q ∈ lw_privs_2, lw_okq q := List.forall_mem_cons.mpr ⟨lw_p16, List.forall_mem_cons.mpr ⟨lw_p17, List.forall_mem_cons.mpr ⟨lw_p18, List.forall_mem_cons.mpr ⟨lw_p19, List.forall_mem_cons.mpr ⟨lw_p20, List.forall_mem_cons.mpr ⟨lw_p21, List.forall_mem_cons.mpr ⟨lw_p22, List.forall_mem_cons.mpr ⟨lw_p23, List.forall_mem_cons.mpr ⟨lw_p24, List.forall_mem_cons.mpr ⟨lw_p25, List.forall_mem_cons.mpr ⟨lw_p26, List.forall_mem_cons.mpr ⟨lw_p27, List.forall_mem_cons.mpr ⟨lw_p28, List.forall_mem_cons.mpr ⟨lw_p29, List.forall_mem_cons.mpr ⟨lw_p30, List.forall_mem_cons.mpr ⟨lw_p31, fun _ h => absurd h List.not_mem_nil⟩⟩⟩⟩⟩⟩⟩⟩⟩⟩⟩⟩⟩⟩⟩⟩
theorem lw_p32 : lw_okq (⟨"BothHandsFull$Search", "stepOnce", "(II)V"⟩, 14) := ⟨⟨by decide +kernel, by decide +kernel⟩, List.mem_of_getElem? (i := 88) (by decide +kernel), List.mem_of_getElem? (i := 722) (by decide +kernel), List.mem_of_getElem? (i := 723) (by decide +kernel)⟩
theorem lw_p33 : lw_okq (⟨"BothHandsFull", "openBehind", "(II)I"⟩, 10) := ⟨⟨by decide +kernel, by decide +kernel⟩, List.mem_of_getElem? (i := 16) (by decide +kernel), List.mem_of_getElem? (i := 739) (by decide +kernel), List.mem_of_getElem? (i := 740) (by decide +kernel)⟩
theorem lw_p34 : lw_okq (⟨"BothHandsFull", "drawOnce", "(I)V"⟩, 10) := ⟨⟨by decide +kernel, by decide +kernel⟩, List.mem_of_getElem? (i := 16) (by decide +kernel), List.mem_of_getElem? (i := 744) (by decide +kernel), List.mem_of_getElem? (i := 745) (by decide +kernel)⟩
theorem lw_p35 : lw_okq (⟨"BothHandsFullModel", "spell", "(IIIIIIIII)V"⟩, 54) := ⟨⟨by decide +kernel, by decide +kernel⟩, List.mem_of_getElem? (i := 803) (by decide +kernel), List.mem_of_getElem? (i := 809) (by decide +kernel), List.mem_of_getElem? (i := 810) (by decide +kernel)⟩
theorem lw_p36 : lw_okq (⟨"BothHandsFullModel", "isHold", "(I)Z"⟩, 54) := ⟨⟨by decide +kernel, by decide +kernel⟩, List.mem_of_getElem? (i := 803) (by decide +kernel), List.mem_of_getElem? (i := 992) (by decide +kernel), List.mem_of_getElem? (i := 993) (by decide +kernel)⟩
theorem lw_p37 : lw_okq (⟨"BothHandsFullModel", "inside", "(I)I"⟩, 54) := ⟨⟨by decide +kernel, by decide +kernel⟩, List.mem_of_getElem? (i := 803) (by decide +kernel), List.mem_of_getElem? (i := 996) (by decide +kernel), List.mem_of_getElem? (i := 997) (by decide +kernel)⟩
theorem lw_p38 : lw_okq (⟨"BothHandsFullModel", "bars", "(IIIII)I"⟩, 54) := ⟨⟨by decide +kernel, by decide +kernel⟩, List.mem_of_getElem? (i := 803) (by decide +kernel), List.mem_of_getElem? (i := 1000) (by decide +kernel), List.mem_of_getElem? (i := 1001) (by decide +kernel)⟩
theorem lw_p39 : lw_okq (⟨"BothHandsFullModel", "sizeOf", "(I)I"⟩, 54) := ⟨⟨by decide +kernel, by decide +kernel⟩, List.mem_of_getElem? (i := 803) (by decide +kernel), List.mem_of_getElem? (i := 1004) (by decide +kernel), List.mem_of_getElem? (i := 1005) (by decide +kernel)⟩
theorem lw_p40 : lw_okq (⟨"BothHandsFullModel", "roomOf", "(I)I"⟩, 54) := ⟨⟨by decide +kernel, by decide +kernel⟩, List.mem_of_getElem? (i := 803) (by decide +kernel), List.mem_of_getElem? (i := 1008) (by decide +kernel), List.mem_of_getElem? (i := 1009) (by decide +kernel)⟩
theorem lw_p41 : lw_okq (⟨"BothHandsFullModel", "mostOf", "(I)I"⟩, 54) := ⟨⟨by decide +kernel, by decide +kernel⟩, List.mem_of_getElem? (i := 803) (by decide +kernel), List.mem_of_getElem? (i := 1015) (by decide +kernel), List.mem_of_getElem? (i := 1016) (by decide +kernel)⟩
theorem lw_p42 : lw_okq (⟨"BothHandsFullModel", "wetOf", "(I)I"⟩, 54) := ⟨⟨by decide +kernel, by decide +kernel⟩, List.mem_of_getElem? (i := 803) (by decide +kernel), List.mem_of_getElem? (i := 1019) (by decide +kernel), List.mem_of_getElem? (i := 1020) (by decide +kernel)⟩
theorem lw_p43 : lw_okq (⟨"BothHandsFullModel", "isThing", "(I)Z"⟩, 54) := ⟨⟨by decide +kernel, by decide +kernel⟩, List.mem_of_getElem? (i := 803) (by decide +kernel), List.mem_of_getElem? (i := 1028) (by decide +kernel), List.mem_of_getElem? (i := 1029) (by decide +kernel)⟩
theorem lw_p44 : lw_okq (⟨"BothHandsFullModel", "opensOf", "(I)I"⟩, 54) := ⟨⟨by decide +kernel, by decide +kernel⟩, List.mem_of_getElem? (i := 803) (by decide +kernel), List.mem_of_getElem? (i := 1041) (by decide +kernel), List.mem_of_getElem? (i := 1042) (by decide +kernel)⟩
theorem lw_p45 : lw_okq (⟨"BothHandsFullModel", "read", "(II)I"⟩, 54) := ⟨⟨by decide +kernel, by decide +kernel⟩, List.mem_of_getElem? (i := 803) (by decide +kernel), List.mem_of_getElem? (i := 1054) (by decide +kernel), List.mem_of_getElem? (i := 1055) (by decide +kernel)⟩
theorem lw_p46 : lw_okq (⟨"BothHandsFullModel", "next", "()V"⟩, 54) := ⟨⟨by decide +kernel, by decide +kernel⟩, List.mem_of_getElem? (i := 803) (by decide +kernel), List.mem_of_getElem? (i := 1058) (by decide +kernel), List.mem_of_getElem? (i := 1059) (by decide +kernel)⟩
theorem lw_p47 : lw_okq (⟨"BothHandsFullModel", "byteAt", "(I)I"⟩, 54) := ⟨⟨by decide +kernel, by decide +kernel⟩, List.mem_of_getElem? (i := 803) (by decide +kernel), List.mem_of_getElem? (i := 1062) (by decide +kernel), List.mem_of_getElem? (i := 1063) (by decide +kernel)⟩
def lw_privs_3 : List (MethodName × Nat) := [(⟨"BothHandsFull$Search", "stepOnce", "(II)V"⟩, 14), (⟨"BothHandsFull", "openBehind", "(II)I"⟩, 10), (⟨"BothHandsFull", "drawOnce", "(I)V"⟩, 10), (⟨"BothHandsFullModel", "spell", "(IIIIIIIII)V"⟩, 54), (⟨"BothHandsFullModel", "isHold", "(I)Z"⟩, 54), (⟨"BothHandsFullModel", "inside", "(I)I"⟩, 54), (⟨"BothHandsFullModel", "bars", "(IIIII)I"⟩, 54), (⟨"BothHandsFullModel", "sizeOf", "(I)I"⟩, 54), (⟨"BothHandsFullModel", "roomOf", "(I)I"⟩, 54), (⟨"BothHandsFullModel", "mostOf", "(I)I"⟩, 54), (⟨"BothHandsFullModel", "wetOf", "(I)I"⟩, 54), (⟨"BothHandsFullModel", "isThing", "(I)Z"⟩, 54), (⟨"BothHandsFullModel", "opensOf", "(I)I"⟩, 54), (⟨"BothHandsFullModel", "read", "(II)I"⟩, 54), (⟨"BothHandsFullModel", "next", "()V"⟩, 54), (⟨"BothHandsFullModel", "byteAt", "(I)I"⟩, 54)]
theorem lw_r3 : ∀ q ∈ lw_privs_3, lw_okq q := List.forall_mem_cons.mpr ⟨lw_p32, List.forall_mem_cons.mpr ⟨lw_p33, List.forall_mem_cons.mpr ⟨lw_p34, List.forall_mem_cons.mpr ⟨lw_p35, List.forall_mem_cons.mpr ⟨lw_p36, List.forall_mem_cons.mpr ⟨lw_p37, List.forall_mem_cons.mpr ⟨lw_p38, List.forall_mem_cons.mpr ⟨lw_p39, List.forall_mem_cons.mpr ⟨lw_p40, List.forall_mem_cons.mpr ⟨lw_p41, List.forall_mem_cons.mpr ⟨lw_p42, List.forall_mem_cons.mpr ⟨lw_p43, List.forall_mem_cons.mpr ⟨lw_p44, List.forall_mem_cons.mpr ⟨lw_p45, List.forall_mem_cons.mpr ⟨lw_p46, List.forall_mem_cons.mpr ⟨lw_p47, fun _ h => absurd h List.not_mem_nil⟩⟩⟩⟩⟩⟩⟩⟩⟩⟩⟩⟩⟩⟩⟩⟩
theorem lw_p48 : lw_okq (⟨"BothHandsFullModel", "isWord", "(IIIIIIII)Z"⟩, 54) := ⟨⟨by decide +kernel, by decide +kernel⟩, List.mem_of_getElem? (i := 803) (by decide +kernel), List.mem_of_getElem? (i := 1070) (by decide +kernel), List.mem_of_getElem? (i := 1071) (by decide +kernel)⟩
theorem lw_p49 : lw_okq (⟨"BothHandsFullModel", "isLetter", "(II)Z"⟩, 54) := ⟨⟨by decide +kernel, by decide +kernel⟩, List.mem_of_getElem? (i := 803) (by decide +kernel), List.mem_of_getElem? (i := 1074) (by decide +kernel), List.mem_of_getElem? (i := 1075) (by decide +kernel)⟩
theorem lw_p50 : lw_okq (⟨"BothHandsFullModel", "part", "(Z)I"⟩, 54) := ⟨⟨by decide +kernel, by decide +kernel⟩, List.mem_of_getElem? (i := 803) (by decide +kernel), List.mem_of_getElem? (i := 1078) (by decide +kernel), List.mem_of_getElem? (i := 1079) (by decide +kernel)⟩
theorem lw_p51 : lw_okq (⟨"BothHandsFullModel", "fail", "()V"⟩, 54) := ⟨⟨by decide +kernel, by decide +kernel⟩, List.mem_of_getElem? (i := 803) (by decide +kernel), List.mem_of_getElem? (i := 1082) (by decide +kernel), List.mem_of_getElem? (i := 1083) (by decide +kernel)⟩
theorem lw_p52 : lw_okq (⟨"BothHandsFullModel", "either0", "()I"⟩, 54) := ⟨⟨by decide +kernel, by decide +kernel⟩, List.mem_of_getElem? (i := 803) (by decide +kernel), List.mem_of_getElem? (i := 1086) (by decide +kernel), List.mem_of_getElem? (i := 1087) (by decide +kernel)⟩
theorem lw_p53 : lw_okq (⟨"BothHandsFullModel", "both0", "()I"⟩, 54) := ⟨⟨by decide +kernel, by decide +kernel⟩, List.mem_of_getElem? (i := 803) (by decide +kernel), List.mem_of_getElem? (i := 1090) (by decide +kernel), List.mem_of_getElem? (i := 1091) (by decide +kernel)⟩
theorem lw_p54 : lw_okq (⟨"BothHandsFullModel", "not0", "()I"⟩, 54) := ⟨⟨by decide +kernel, by decide +kernel⟩, List.mem_of_getElem? (i := 803) (by decide +kernel), List.mem_of_getElem? (i := 1094) (by decide +kernel), List.mem_of_getElem? (i := 1095) (by decide +kernel)⟩
theorem lw_p55 : lw_okq (⟨"BothHandsFullModel", "opens", "()Z"⟩, 54) := ⟨⟨by decide +kernel, by decide +kernel⟩, List.mem_of_getElem? (i := 803) (by decide +kernel), List.mem_of_getElem? (i := 1098) (by decide +kernel), List.mem_of_getElem? (i := 1099) (by decide +kernel)⟩
theorem lw_p56 : lw_okq (⟨"BothHandsFullModel", "not1", "()I"⟩, 54) := ⟨⟨by decide +kernel, by decide +kernel⟩, List.mem_of_getElem? (i := 803) (by decide +kernel), List.mem_of_getElem? (i := 1102) (by decide +kernel), List.mem_of_getElem? (i := 1103) (by decide +kernel)⟩
theorem lw_p57 : lw_okq (⟨"BothHandsFullModel", "not2", "()I"⟩, 54) := ⟨⟨by decide +kernel, by decide +kernel⟩, List.mem_of_getElem? (i := 803) (by decide +kernel), List.mem_of_getElem? (i := 1106) (by decide +kernel), List.mem_of_getElem? (i := 1107) (by decide +kernel)⟩
theorem lw_p58 : lw_okq (⟨"BothHandsFullModel", "not3", "()I"⟩, 54) := ⟨⟨by decide +kernel, by decide +kernel⟩, List.mem_of_getElem? (i := 803) (by decide +kernel), List.mem_of_getElem? (i := 1110) (by decide +kernel), List.mem_of_getElem? (i := 1111) (by decide +kernel)⟩
theorem lw_p59 : lw_okq (⟨"BothHandsFullModel", "not4", "()I"⟩, 54) := ⟨⟨by decide +kernel, by decide +kernel⟩, List.mem_of_getElem? (i := 803) (by decide +kernel), List.mem_of_getElem? (i := 1114) (by decide +kernel), List.mem_of_getElem? (i := 1115) (by decide +kernel)⟩
theorem lw_p60 : lw_okq (⟨"BothHandsFullModel", "not5", "()I"⟩, 54) := ⟨⟨by decide +kernel, by decide +kernel⟩, List.mem_of_getElem? (i := 803) (by decide +kernel), List.mem_of_getElem? (i := 1118) (by decide +kernel), List.mem_of_getElem? (i := 1119) (by decide +kernel)⟩
theorem lw_p61 : lw_okq (⟨"BothHandsFullModel", "added5", "()I"⟩, 54) := ⟨⟨by decide +kernel, by decide +kernel⟩, List.mem_of_getElem? (i := 803) (by decide +kernel), List.mem_of_getElem? (i := 1122) (by decide +kernel), List.mem_of_getElem? (i := 1123) (by decide +kernel)⟩
theorem lw_p62 : lw_okq (⟨"BothHandsFullModel", "term5", "()I"⟩, 54) := ⟨⟨by decide +kernel, by decide +kernel⟩, List.mem_of_getElem? (i := 803) (by decide +kernel), List.mem_of_getElem? (i := 1126) (by decide +kernel), List.mem_of_getElem? (i := 1127) (by decide +kernel)⟩
theorem lw_p63 : lw_okq (⟨"BothHandsFullModel", "atom5", "()I"⟩, 54) := ⟨⟨by decide +kernel, by decide +kernel⟩, List.mem_of_getElem? (i := 803) (by decide +kernel), List.mem_of_getElem? (i := 1130) (by decide +kernel), List.mem_of_getElem? (i := 1131) (by decide +kernel)⟩
def lw_privs_4 : List (MethodName × Nat) := [(⟨"BothHandsFullModel", "isWord", "(IIIIIIII)Z"⟩, 54), (⟨"BothHandsFullModel", "isLetter", "(II)Z"⟩, 54), (⟨"BothHandsFullModel", "part", "(Z)I"⟩, 54), (⟨"BothHandsFullModel", "fail", "()V"⟩, 54), (⟨"BothHandsFullModel", "either0", "()I"⟩, 54), (⟨"BothHandsFullModel", "both0", "()I"⟩, 54), (⟨"BothHandsFullModel", "not0", "()I"⟩, 54), (⟨"BothHandsFullModel", "opens", "()Z"⟩, 54), (⟨"BothHandsFullModel", "not1", "()I"⟩, 54), (⟨"BothHandsFullModel", "not2", "()I"⟩, 54), (⟨"BothHandsFullModel", "not3", "()I"⟩, 54), (⟨"BothHandsFullModel", "not4", "()I"⟩, 54), (⟨"BothHandsFullModel", "not5", "()I"⟩, 54), (⟨"BothHandsFullModel", "added5", "()I"⟩, 54), (⟨"BothHandsFullModel", "term5", "()I"⟩, 54), (⟨"BothHandsFullModel", "atom5", "()I"⟩, 54)]
theorem lw_r4 : ∀ q ∈ lw_privs_4, lw_okq q := List.forall_mem_cons.mpr ⟨lw_p48, List.forall_mem_cons.mpr ⟨lw_p49, List.forall_mem_cons.mpr ⟨lw_p50, List.forall_mem_cons.mpr ⟨lw_p51, List.forall_mem_cons.mpr ⟨lw_p52, List.forall_mem_cons.mpr ⟨lw_p53, List.forall_mem_cons.mpr ⟨lw_p54, List.forall_mem_cons.mpr ⟨lw_p55, List.forall_mem_cons.mpr ⟨lw_p56, List.forall_mem_cons.mpr ⟨lw_p57, List.forall_mem_cons.mpr ⟨lw_p58, List.forall_mem_cons.mpr ⟨lw_p59, List.forall_mem_cons.mpr ⟨lw_p60, List.forall_mem_cons.mpr ⟨lw_p61, List.forall_mem_cons.mpr ⟨lw_p62, List.forall_mem_cons.mpr ⟨lw_p63, fun _ h => absurd h List.not_mem_nil⟩⟩⟩⟩⟩⟩⟩⟩⟩⟩⟩⟩⟩⟩⟩⟩
theorem lw_p64 : lw_okq (⟨"BothHandsFullModel", "isSign", "(I)Z"⟩, 54) := ⟨⟨by decide +kernel, by decide +kernel⟩, List.mem_of_getElem? (i := 803) (by decide +kernel), List.mem_of_getElem? (i := 1134) (by decide +kernel), List.mem_of_getElem? (i := 1135) (by decide +kernel)⟩
theorem lw_p65 : lw_okq (⟨"BothHandsFullModel", "name", "()I"⟩, 54) := ⟨⟨by decide +kernel, by decide +kernel⟩, List.mem_of_getElem? (i := 803) (by decide +kernel), List.mem_of_getElem? (i := 1138) (by decide +kernel), List.mem_of_getElem? (i := 1139) (by decide +kernel)⟩
theorem lw_p66 : lw_okq (⟨"BothHandsFullModel", "added4", "()I"⟩, 54) := ⟨⟨by decide +kernel, by decide +kernel⟩, List.mem_of_getElem? (i := 803) (by decide +kernel), List.mem_of_getElem? (i := 1144) (by decide +kernel), List.mem_of_getElem? (i := 1145) (by decide +kernel)⟩
theorem lw_p67 : lw_okq (⟨"BothHandsFullModel", "term4", "()I"⟩, 54) := ⟨⟨by decide +kernel, by decide +kernel⟩, List.mem_of_getElem? (i := 803) (by decide +kernel), List.mem_of_getElem? (i := 1148) (by decide +kernel), List.mem_of_getElem? (i := 1149) (by decide +kernel)⟩
theorem lw_p68 : lw_okq (⟨"BothHandsFullModel", "atom4", "()I"⟩, 54) := ⟨⟨by decide +kernel, by decide +kernel⟩, List.mem_of_getElem? (i := 803) (by decide +kernel), List.mem_of_getElem? (i := 1152) (by decide +kernel), List.mem_of_getElem? (i := 1153) (by decide +kernel)⟩
theorem lw_p69 : lw_okq (⟨"BothHandsFullModel", "either5", "()I"⟩, 54) := ⟨⟨by decide +kernel, by decide +kernel⟩, List.mem_of_getElem? (i := 803) (by decide +kernel), List.mem_of_getElem? (i := 1156) (by decide +kernel), List.mem_of_getElem? (i := 1157) (by decide +kernel)⟩
theorem lw_p70 : lw_okq (⟨"BothHandsFullModel", "both5", "()I"⟩, 54) := ⟨⟨by decide +kernel, by decide +kernel⟩, List.mem_of_getElem? (i := 803) (by decide +kernel), List.mem_of_getElem? (i := 1160) (by decide +kernel), List.mem_of_getElem? (i := 1161) (by decide +kernel)⟩
theorem lw_p71 : lw_okq (⟨"BothHandsFullModel", "added3", "()I"⟩, 54) := ⟨⟨by decide +kernel, by decide +kernel⟩, List.mem_of_getElem? (i := 803) (by decide +kernel), List.mem_of_getElem? (i := 1164) (by decide +kernel), List.mem_of_getElem? (i := 1165) (by decide +kernel)⟩
theorem lw_p72 : lw_okq (⟨"BothHandsFullModel", "term3", "()I"⟩, 54) := ⟨⟨by decide +kernel, by decide +kernel⟩, List.mem_of_getElem? (i := 803) (by decide +kernel), List.mem_of_getElem? (i := 1168) (by decide +kernel), List.mem_of_getElem? (i := 1169) (by decide +kernel)⟩
theorem lw_p73 : lw_okq (⟨"BothHandsFullModel", "atom3", "()I"⟩, 54) := ⟨⟨by decide +kernel, by decide +kernel⟩, List.mem_of_getElem? (i := 803) (by decide +kernel), List.mem_of_getElem? (i := 1172) (by decide +kernel), List.mem_of_getElem? (i := 1173) (by decide +kernel)⟩
theorem lw_p74 : lw_okq (⟨"BothHandsFullModel", "either4", "()I"⟩, 54) := ⟨⟨by decide +kernel, by decide +kernel⟩, List.mem_of_getElem? (i := 803) (by decide +kernel), List.mem_of_getElem? (i := 1176) (by decide +kernel), List.mem_of_getElem? (i := 1177) (by decide +kernel)⟩
theorem lw_p75 : lw_okq (⟨"BothHandsFullModel", "both4", "()I"⟩, 54) := ⟨⟨by decide +kernel, by decide +kernel⟩, List.mem_of_getElem? (i := 803) (by decide +kernel), List.mem_of_getElem? (i := 1180) (by decide +kernel), List.mem_of_getElem? (i := 1181) (by decide +kernel)⟩
theorem lw_p76 : lw_okq (⟨"BothHandsFullModel", "added2", "()I"⟩, 54) := ⟨⟨by decide +kernel, by decide +kernel⟩, List.mem_of_getElem? (i := 803) (by decide +kernel), List.mem_of_getElem? (i := 1184) (by decide +kernel), List.mem_of_getElem? (i := 1185) (by decide +kernel)⟩
theorem lw_p77 : lw_okq (⟨"BothHandsFullModel", "term2", "()I"⟩, 54) := ⟨⟨by decide +kernel, by decide +kernel⟩, List.mem_of_getElem? (i := 803) (by decide +kernel), List.mem_of_getElem? (i := 1188) (by decide +kernel), List.mem_of_getElem? (i := 1189) (by decide +kernel)⟩
theorem lw_p78 : lw_okq (⟨"BothHandsFullModel", "atom2", "()I"⟩, 54) := ⟨⟨by decide +kernel, by decide +kernel⟩, List.mem_of_getElem? (i := 803) (by decide +kernel), List.mem_of_getElem? (i := 1192) (by decide +kernel), List.mem_of_getElem? (i := 1193) (by decide +kernel)⟩
theorem lw_p79 : lw_okq (⟨"BothHandsFullModel", "either3", "()I"⟩, 54) := ⟨⟨by decide +kernel, by decide +kernel⟩, List.mem_of_getElem? (i := 803) (by decide +kernel), List.mem_of_getElem? (i := 1196) (by decide +kernel), List.mem_of_getElem? (i := 1197) (by decide +kernel)⟩
def lw_privs_5 : List (MethodName × Nat) := [(⟨"BothHandsFullModel", "isSign", "(I)Z"⟩, 54), (⟨"BothHandsFullModel", "name", "()I"⟩, 54), (⟨"BothHandsFullModel", "added4", "()I"⟩, 54), (⟨"BothHandsFullModel", "term4", "()I"⟩, 54), (⟨"BothHandsFullModel", "atom4", "()I"⟩, 54), (⟨"BothHandsFullModel", "either5", "()I"⟩, 54), (⟨"BothHandsFullModel", "both5", "()I"⟩, 54), (⟨"BothHandsFullModel", "added3", "()I"⟩, 54), (⟨"BothHandsFullModel", "term3", "()I"⟩, 54), (⟨"BothHandsFullModel", "atom3", "()I"⟩, 54), (⟨"BothHandsFullModel", "either4", "()I"⟩, 54), (⟨"BothHandsFullModel", "both4", "()I"⟩, 54), (⟨"BothHandsFullModel", "added2", "()I"⟩, 54), (⟨"BothHandsFullModel", "term2", "()I"⟩, 54), (⟨"BothHandsFullModel", "atom2", "()I"⟩, 54), (⟨"BothHandsFullModel", "either3", "()I"⟩, 54)]
theorem lw_r5 : ∀ q ∈ lw_privs_5, lw_okq q := List.forall_mem_cons.mpr ⟨lw_p64, List.forall_mem_cons.mpr ⟨lw_p65, List.forall_mem_cons.mpr ⟨lw_p66, List.forall_mem_cons.mpr ⟨lw_p67, List.forall_mem_cons.mpr ⟨lw_p68, List.forall_mem_cons.mpr ⟨lw_p69, List.forall_mem_cons.mpr ⟨lw_p70, List.forall_mem_cons.mpr ⟨lw_p71, List.forall_mem_cons.mpr ⟨lw_p72, List.forall_mem_cons.mpr ⟨lw_p73, List.forall_mem_cons.mpr ⟨lw_p74, List.forall_mem_cons.mpr ⟨lw_p75, List.forall_mem_cons.mpr ⟨lw_p76, List.forall_mem_cons.mpr ⟨lw_p77, List.forall_mem_cons.mpr ⟨lw_p78, List.forall_mem_cons.mpr ⟨lw_p79, fun _ h => absurd h List.not_mem_nil⟩⟩⟩⟩⟩⟩⟩⟩⟩⟩⟩⟩⟩⟩⟩⟩
theorem lw_p80 : lw_okq (⟨"BothHandsFullModel", "both3", "()I"⟩, 54) := ⟨⟨by decide +kernel, by decide +kernel⟩, List.mem_of_getElem? (i := 803) (by decide +kernel), List.mem_of_getElem? (i := 1200) (by decide +kernel), List.mem_of_getElem? (i := 1201) (by decide +kernel)⟩
theorem lw_p81 : lw_okq (⟨"BothHandsFullModel", "added1", "()I"⟩, 54) := ⟨⟨by decide +kernel, by decide +kernel⟩, List.mem_of_getElem? (i := 803) (by decide +kernel), List.mem_of_getElem? (i := 1204) (by decide +kernel), List.mem_of_getElem? (i := 1205) (by decide +kernel)⟩
theorem lw_p82 : lw_okq (⟨"BothHandsFullModel", "term1", "()I"⟩, 54) := ⟨⟨by decide +kernel, by decide +kernel⟩, List.mem_of_getElem? (i := 803) (by decide +kernel), List.mem_of_getElem? (i := 1208) (by decide +kernel), List.mem_of_getElem? (i := 1209) (by decide +kernel)⟩
theorem lw_p83 : lw_okq (⟨"BothHandsFullModel", "atom1", "()I"⟩, 54) := ⟨⟨by decide +kernel, by decide +kernel⟩, List.mem_of_getElem? (i := 803) (by decide +kernel), List.mem_of_getElem? (i := 1212) (by decide +kernel), List.mem_of_getElem? (i := 1213) (by decide +kernel)⟩
theorem lw_p84 : lw_okq (⟨"BothHandsFullModel", "either2", "()I"⟩, 54) := ⟨⟨by decide +kernel, by decide +kernel⟩, List.mem_of_getElem? (i := 803) (by decide +kernel), List.mem_of_getElem? (i := 1216) (by decide +kernel), List.mem_of_getElem? (i := 1217) (by decide +kernel)⟩
theorem lw_p85 : lw_okq (⟨"BothHandsFullModel", "both2", "()I"⟩, 54) := ⟨⟨by decide +kernel, by decide +kernel⟩, List.mem_of_getElem? (i := 803) (by decide +kernel), List.mem_of_getElem? (i := 1220) (by decide +kernel), List.mem_of_getElem? (i := 1221) (by decide +kernel)⟩
theorem lw_p86 : lw_okq (⟨"BothHandsFullModel", "added0", "()I"⟩, 54) := ⟨⟨by decide +kernel, by decide +kernel⟩, List.mem_of_getElem? (i := 803) (by decide +kernel), List.mem_of_getElem? (i := 1224) (by decide +kernel), List.mem_of_getElem? (i := 1225) (by decide +kernel)⟩
theorem lw_p87 : lw_okq (⟨"BothHandsFullModel", "term0", "()I"⟩, 54) := ⟨⟨by decide +kernel, by decide +kernel⟩, List.mem_of_getElem? (i := 803) (by decide +kernel), List.mem_of_getElem? (i := 1228) (by decide +kernel), List.mem_of_getElem? (i := 1229) (by decide +kernel)⟩
theorem lw_p88 : lw_okq (⟨"BothHandsFullModel", "atom0", "()I"⟩, 54) := ⟨⟨by decide +kernel, by decide +kernel⟩, List.mem_of_getElem? (i := 803) (by decide +kernel), List.mem_of_getElem? (i := 1232) (by decide +kernel), List.mem_of_getElem? (i := 1233) (by decide +kernel)⟩
theorem lw_p89 : lw_okq (⟨"BothHandsFullModel", "either1", "()I"⟩, 54) := ⟨⟨by decide +kernel, by decide +kernel⟩, List.mem_of_getElem? (i := 803) (by decide +kernel), List.mem_of_getElem? (i := 1236) (by decide +kernel), List.mem_of_getElem? (i := 1237) (by decide +kernel)⟩
theorem lw_p90 : lw_okq (⟨"BothHandsFullModel", "both1", "()I"⟩, 54) := ⟨⟨by decide +kernel, by decide +kernel⟩, List.mem_of_getElem? (i := 803) (by decide +kernel), List.mem_of_getElem? (i := 1240) (by decide +kernel), List.mem_of_getElem? (i := 1241) (by decide +kernel)⟩
theorem lw_p91 : lw_okq (⟨"BothHandsFullModel", "says", "(IIII)I"⟩, 54) := ⟨⟨by decide +kernel, by decide +kernel⟩, List.mem_of_getElem? (i := 803) (by decide +kernel), List.mem_of_getElem? (i := 1253) (by decide +kernel), List.mem_of_getElem? (i := 1254) (by decide +kernel)⟩
theorem lw_p92 : lw_okq (⟨"BothHandsFullModel", "canGo", "(II)Z"⟩, 54) := ⟨⟨by decide +kernel, by decide +kernel⟩, List.mem_of_getElem? (i := 803) (by decide +kernel), List.mem_of_getElem? (i := 1264) (by decide +kernel), List.mem_of_getElem? (i := 1265) (by decide +kernel)⟩
theorem lw_p93 : lw_okq (⟨"BothHandsFullModel", "barsThing", "(II)I"⟩, 54) := ⟨⟨by decide +kernel, by decide +kernel⟩, List.mem_of_getElem? (i := 803) (by decide +kernel), List.mem_of_getElem? (i := 1268) (by decide +kernel), List.mem_of_getElem? (i := 1269) (by decide +kernel)⟩
theorem lw_p94 : lw_okq (⟨"BothHandsFullModel", "isOpen", "()Z"⟩, 54) := ⟨⟨by decide +kernel, by decide +kernel⟩, List.mem_of_getElem? (i := 803) (by decide +kernel), List.mem_of_getElem? (i := 1280) (by decide +kernel), List.mem_of_getElem? (i := 1281) (by decide +kernel)⟩
theorem lw_p95 : lw_okq (⟨"BothHandsFullModel", "gathers", "()V"⟩, 54) := ⟨⟨by decide +kernel, by decide +kernel⟩, List.mem_of_getElem? (i := 803) (by decide +kernel), List.mem_of_getElem? (i := 1288) (by decide +kernel), List.mem_of_getElem? (i := 1289) (by decide +kernel)⟩
def lw_privs_6 : List (MethodName × Nat) := [(⟨"BothHandsFullModel", "both3", "()I"⟩, 54), (⟨"BothHandsFullModel", "added1", "()I"⟩, 54), (⟨"BothHandsFullModel", "term1", "()I"⟩, 54), (⟨"BothHandsFullModel", "atom1", "()I"⟩, 54), (⟨"BothHandsFullModel", "either2", "()I"⟩, 54), (⟨"BothHandsFullModel", "both2", "()I"⟩, 54), (⟨"BothHandsFullModel", "added0", "()I"⟩, 54), (⟨"BothHandsFullModel", "term0", "()I"⟩, 54), (⟨"BothHandsFullModel", "atom0", "()I"⟩, 54), (⟨"BothHandsFullModel", "either1", "()I"⟩, 54), (⟨"BothHandsFullModel", "both1", "()I"⟩, 54), (⟨"BothHandsFullModel", "says", "(IIII)I"⟩, 54), (⟨"BothHandsFullModel", "canGo", "(II)Z"⟩, 54), (⟨"BothHandsFullModel", "barsThing", "(II)I"⟩, 54), (⟨"BothHandsFullModel", "isOpen", "()Z"⟩, 54), (⟨"BothHandsFullModel", "gathers", "()V"⟩, 54)]
theorem lw_r6 : ∀ q ∈ lw_privs_6, lw_okq q := List.forall_mem_cons.mpr ⟨lw_p80, List.forall_mem_cons.mpr ⟨lw_p81, List.forall_mem_cons.mpr ⟨lw_p82, List.forall_mem_cons.mpr ⟨lw_p83, List.forall_mem_cons.mpr ⟨lw_p84, List.forall_mem_cons.mpr ⟨lw_p85, List.forall_mem_cons.mpr ⟨lw_p86, List.forall_mem_cons.mpr ⟨lw_p87, List.forall_mem_cons.mpr ⟨lw_p88, List.forall_mem_cons.mpr ⟨lw_p89, List.forall_mem_cons.mpr ⟨lw_p90, List.forall_mem_cons.mpr ⟨lw_p91, List.forall_mem_cons.mpr ⟨lw_p92, List.forall_mem_cons.mpr ⟨lw_p93, List.forall_mem_cons.mpr ⟨lw_p94, List.forall_mem_cons.mpr ⟨lw_p95, fun _ h => absurd h List.not_mem_nil⟩⟩⟩⟩⟩⟩⟩⟩⟩⟩⟩⟩⟩⟩⟩⟩
theorem lw_p96 : lw_okq (⟨"BothHandsFullModel", "codeNow", "()I"⟩, 54) := ⟨⟨by decide +kernel, by decide +kernel⟩, List.mem_of_getElem? (i := 803) (by decide +kernel), List.mem_of_getElem? (i := 1292) (by decide +kernel), List.mem_of_getElem? (i := 1293) (by decide +kernel)⟩
theorem lw_p97 : lw_okq (⟨"BothHandsFullModel", "lays", "(I)V"⟩, 54) := ⟨⟨by decide +kernel, by decide +kernel⟩, List.mem_of_getElem? (i := 803) (by decide +kernel), List.mem_of_getElem? (i := 1299) (by decide +kernel), List.mem_of_getElem? (i := 1300) (by decide +kernel)⟩
theorem lw_p98 : lw_okq (⟨"BothHandsFullModel", "areWell", "()Z"⟩, 54) := ⟨⟨by decide +kernel, by decide +kernel⟩, List.mem_of_getElem? (i := 803) (by decide +kernel), List.mem_of_getElem? (i := 1303) (by decide +kernel), List.mem_of_getElem? (i := 1304) (by decide +kernel)⟩
theorem lw_p99 : lw_okq (⟨"BothHandsFullModel", "eases", "(I)Z"⟩, 54) := ⟨⟨by decide +kernel, by decide +kernel⟩, List.mem_of_getElem? (i := 803) (by decide +kernel), List.mem_of_getElem? (i := 1308) (by decide +kernel), List.mem_of_getElem? (i := 1309) (by decide +kernel)⟩
theorem lw_p100 : lw_okq (⟨"BothHandsFullModel", "after", "(III)I"⟩, 54) := ⟨⟨by decide +kernel, by decide +kernel⟩, List.mem_of_getElem? (i := 803) (by decide +kernel), List.mem_of_getElem? (i := 1312) (by decide +kernel), List.mem_of_getElem? (i := 1313) (by decide +kernel)⟩
theorem lw_p101 : lw_okq (⟨"BothHandsFullModel", "moveBy", "(Z)I"⟩, 54) := ⟨⟨by decide +kernel, by decide +kernel⟩, List.mem_of_getElem? (i := 803) (by decide +kernel), List.mem_of_getElem? (i := 1319) (by decide +kernel), List.mem_of_getElem? (i := 1320) (by decide +kernel)⟩
theorem lw_p102 : lw_okq (⟨"BothHandsFullModel", "reaches", "(I)I"⟩, 54) := ⟨⟨by decide +kernel, by decide +kernel⟩, List.mem_of_getElem? (i := 803) (by decide +kernel), List.mem_of_getElem? (i := 1323) (by decide +kernel), List.mem_of_getElem? (i := 1324) (by decide +kernel)⟩
theorem lw_p103 : lw_okq (⟨"BothHandsFullModel", "goesBy", "(I)I"⟩, 54) := ⟨⟨by decide +kernel, by decide +kernel⟩, List.mem_of_getElem? (i := 803) (by decide +kernel), List.mem_of_getElem? (i := 1350) (by decide +kernel), List.mem_of_getElem? (i := 1351) (by decide +kernel)⟩
theorem lw_p104 : lw_okq (⟨"BothHandsFullModel", "codeOf", "(I)I"⟩, 54) := ⟨⟨by decide +kernel, by decide +kernel⟩, List.mem_of_getElem? (i := 803) (by decide +kernel), List.mem_of_getElem? (i := 1361) (by decide +kernel), List.mem_of_getElem? (i := 1362) (by decide +kernel)⟩
theorem lw_p105 : lw_okq (⟨"BothHandsFullModel", "begins", "()V"⟩, 54) := ⟨⟨by decide +kernel, by decide +kernel⟩, List.mem_of_getElem? (i := 803) (by decide +kernel), List.mem_of_getElem? (i := 1365) (by decide +kernel), List.mem_of_getElem? (i := 1366) (by decide +kernel)⟩
theorem lw_p106 : lw_okq (⟨"BothHandsFullModel", "steps", "()V"⟩, 54) := ⟨⟨by decide +kernel, by decide +kernel⟩, List.mem_of_getElem? (i := 803) (by decide +kernel), List.mem_of_getElem? (i := 1369) (by decide +kernel), List.mem_of_getElem? (i := 1370) (by decide +kernel)⟩
theorem lw_p107 : lw_okq (⟨"BothHandsFullModel", "draws", "(II)I"⟩, 54) := ⟨⟨by decide +kernel, by decide +kernel⟩, List.mem_of_getElem? (i := 803) (by decide +kernel), List.mem_of_getElem? (i := 1382) (by decide +kernel), List.mem_of_getElem? (i := 1383) (by decide +kernel)⟩
def lw_privs_7 : List (MethodName × Nat) := [(⟨"BothHandsFullModel", "codeNow", "()I"⟩, 54), (⟨"BothHandsFullModel", "lays", "(I)V"⟩, 54), (⟨"BothHandsFullModel", "areWell", "()Z"⟩, 54), (⟨"BothHandsFullModel", "eases", "(I)Z"⟩, 54), (⟨"BothHandsFullModel", "after", "(III)I"⟩, 54), (⟨"BothHandsFullModel", "moveBy", "(Z)I"⟩, 54), (⟨"BothHandsFullModel", "reaches", "(I)I"⟩, 54), (⟨"BothHandsFullModel", "goesBy", "(I)I"⟩, 54), (⟨"BothHandsFullModel", "codeOf", "(I)I"⟩, 54), (⟨"BothHandsFullModel", "begins", "()V"⟩, 54), (⟨"BothHandsFullModel", "steps", "()V"⟩, 54), (⟨"BothHandsFullModel", "draws", "(II)I"⟩, 54)]
theorem lw_r7 : ∀ q ∈ lw_privs_7, lw_okq q := List.forall_mem_cons.mpr ⟨lw_p96, List.forall_mem_cons.mpr ⟨lw_p97, List.forall_mem_cons.mpr ⟨lw_p98, List.forall_mem_cons.mpr ⟨lw_p99, List.forall_mem_cons.mpr ⟨lw_p100, List.forall_mem_cons.mpr ⟨lw_p101, List.forall_mem_cons.mpr ⟨lw_p102, List.forall_mem_cons.mpr ⟨lw_p103, List.forall_mem_cons.mpr ⟨lw_p104, List.forall_mem_cons.mpr ⟨lw_p105, List.forall_mem_cons.mpr ⟨lw_p106, List.forall_mem_cons.mpr ⟨lw_p107, fun _ h => absurd h List.not_mem_nil⟩⟩⟩⟩⟩⟩⟩⟩⟩⟩⟩⟩
def lw_privs : List (MethodName × Nat) := lw_privs_1 ++ (lw_privs_2 ++ (lw_privs_3 ++ (lw_privs_4 ++ (lw_privs_5 ++ (lw_privs_6 ++ (lw_privs_7))))))
def lw_tbl : List Cond := k2_sels lw_privs ++ tables_1
theorem lw_privs_ok : ∀ q ∈ lw_privs, lw_okq q := by
  show ∀ q ∈ lw_privs_1 ++ (lw_privs_2 ++ (lw_privs_3 ++ (lw_privs_4 ++ (lw_privs_5 ++ (lw_privs_6 ++ (lw_privs_7)))))), lw_okq q
  exact List.forall_mem_append.mpr ⟨lw_r1, List.forall_mem_append.mpr ⟨lw_r2, List.forall_mem_append.mpr ⟨lw_r3, List.forall_mem_append.mpr ⟨lw_r4, List.forall_mem_append.mpr ⟨lw_r5, List.forall_mem_append.mpr ⟨lw_r6, lw_r7⟩⟩⟩⟩⟩⟩
def RX0 : String := "BothHandsFull$Lot"
def TX0 : u_T := fun k => match k with
  | 0 => ("BothHandsFull$Lot", "kind", "[I", true)
  | 1 => ("BothHandsFull$Lot", "number", "[I", true)
  | 2 => ("BothHandsFull$Lot", "room", "[I", true)
  | 3 => ("BothHandsFull$Lot", "size", "[I", true)
  | 4 => ("BothHandsFull$Lot", "dry", "[I", true)
  | 5 => ("BothHandsFull$Lot", "apart", "[I", true)
  | 6 => ("BothHandsFull$Lot", "lies", "[I", true)
  | 7 => ("BothHandsFull$Lot", "holds", "I", false)
  | 8 => ("BothHandsFull$Lot", "things", "I", false)
  | 9 => ("BothHandsFull$Lot", "key", "I", false)
  | 10 => ("BothHandsFull$Lot", "free", "I", false)
  | 11 => ("BothHandsFull$Lot", "rule", "I", false)
  | _ => ("BothHandsFull$Lot", "gone", "I", false)
def tyX0 : Nat → FieldType := fun k => match k with
  | 0 => .array .int
  | 1 => .array .int
  | 2 => .array .int
  | 3 => .array .int
  | 4 => .array .int
  | 5 => .array .int
  | 6 => .array .int
  | 7 => .int
  | 8 => .int
  | 9 => .int
  | 10 => .int
  | 11 => .int
  | _ => .int
abbrev wsX00 : List Cond := u_ws RX0 TX0 13
theorem nmX0 : ∀ a, a < 13 → ∀ b, b < 13 → a ≠ b → (TX0 a).2.1 ≠ (TX0 b).2.1 := by decide +kernel
theorem tyX0_ok : ∀ k, k < 13 → parseFieldDescriptor (TX0 k).2.2.1 = some (tyX0 k) := by decide +kernel
abbrev cX0_init : ByteArray := prog_2_method_1_code
def yX0_init : MethodName := ⟨RX0, "<init>", "()V"⟩
abbrev cX0_become : ByteArray := prog_2_method_2_code
def yX0_become : MethodName := ⟨RX0, "become", "(LBothHandsFull$Lot;)V"⟩
abbrev cX0_hasHold : ByteArray := prog_2_method_3_code
def yX0_hasHold : MethodName := ⟨RX0, "hasHold", "(I)Z"⟩
abbrev cX0_hasThing : ByteArray := prog_2_method_4_code
def yX0_hasThing : MethodName := ⟨RX0, "hasThing", "(I)Z"⟩
abbrev cX0_wet : ByteArray := prog_2_method_5_code
def yX0_wet : MethodName := ⟨RX0, "wet", "(I)I"⟩
abbrev cX0_renumber : ByteArray := prog_2_method_6_code
def yX0_renumber : MethodName := ⟨RX0, "renumber", "(II)V"⟩
abbrev cX0_lying : ByteArray := prog_2_method_7_code
def yX0_lying : MethodName := ⟨RX0, "lying", "(I)I"⟩
abbrev cX0_left : ByteArray := prog_2_method_8_code
def yX0_left : MethodName := ⟨RX0, "left", "(I)I"⟩
abbrev cX0_refusal : ByteArray := prog_2_method_9_code
def yX0_refusal : MethodName := ⟨RX0, "refusal", "(II)I"⟩
abbrev cX0_movesThatCanBe : ByteArray := prog_2_method_10_code
def yX0_movesThatCanBe : MethodName := ⟨RX0, "movesThatCanBe", "()I"⟩
abbrev cX0_freeHands : ByteArray := prog_2_method_11_code
def yX0_freeHands : MethodName := ⟨RX0, "freeHands", "()I"⟩
abbrev cX0_isOpen : ByteArray := prog_2_method_12_code
def yX0_isOpen : MethodName := ⟨RX0, "isOpen", "()Z"⟩
def RX1 : String := "BothHandsFull$Search"
def TX1 : u_T := fun k => match k with
  | 0 => ("BothHandsFull$Search", "mark", "[I", true)
  | 1 => ("BothHandsFull$Search", "far", "[I", true)
  | 2 => ("BothHandsFull$Search", "next", "[I", true)
  | 3 => ("BothHandsFull$Search", "before", "[I", true)
  | 4 => ("BothHandsFull$Search", "heads", "[I", true)
  | 5 => ("BothHandsFull$Search", "prices", "[I", true)
  | 6 => ("BothHandsFull$Search", "power", "[I", true)
  | 7 => ("BothHandsFull$Search", "at", "[I", true)
  | 8 => ("BothHandsFull$Search", "near", "[I", true)
  | 9 => ("BothHandsFull$Search", "backBy", "[I", true)
  | 10 => ("BothHandsFull$Search", "lot", "LBothHandsFull$Lot;", false)
  | 11 => ("BothHandsFull$Search", "states", "I", false)
  | 12 => ("BothHandsFull$Search", "home", "I", false)
  | _ => ("BothHandsFull$Search", "waiting", "I", false)
def tyX1 : Nat → FieldType := fun k => match k with
  | 0 => .array .int
  | 1 => .array .int
  | 2 => .array .int
  | 3 => .array .int
  | 4 => .array .int
  | 5 => .array .int
  | 6 => .array .int
  | 7 => .array .int
  | 8 => .array .int
  | 9 => .array .int
  | 10 => .object "BothHandsFull$Lot"
  | 11 => .int
  | 12 => .int
  | _ => .int
abbrev wsX10 : List Cond := u_ws RX1 TX1 14
theorem nmX1 : ∀ a, a < 14 → ∀ b, b < 14 → a ≠ b → (TX1 a).2.1 ≠ (TX1 b).2.1 := by decide +kernel
theorem tyX1_ok : ∀ k, k < 14 → parseFieldDescriptor (TX1 k).2.2.1 = some (tyX1 k) := by decide +kernel
abbrev cX1_init : ByteArray := prog_3_method_1_code
def yX1_init : MethodName := ⟨RX1, "<init>", "()V"⟩
abbrev cX1_look : ByteArray := prog_3_method_2_code
def yX1_look : MethodName := ⟨RX1, "look", "(LBothHandsFull$Lot;)V"⟩
abbrev cX1_lay : ByteArray := prog_3_method_3_code
def yX1_lay : MethodName := ⟨RX1, "lay", "(II)V"⟩
abbrev cX1_split : ByteArray := prog_3_method_4_code
def yX1_split : MethodName := ⟨RX1, "split", "(I)V"⟩
abbrev cX1_stateOf : ByteArray := prog_3_method_5_code
def yX1_stateOf : MethodName := ⟨RX1, "stateOf", "([I)I"⟩
abbrev cX1_price : ByteArray := prog_3_method_6_code
def yX1_price : MethodName := ⟨RX1, "price", "(IIII)V"⟩
abbrev cX1_placeOf : ByteArray := prog_3_method_7_code
def yX1_placeOf : MethodName := ⟨RX1, "placeOf", "(III)I"⟩
abbrev cX1_countMoves : ByteArray := prog_3_method_8_code
def yX1_countMoves : MethodName := ⟨RX1, "countMoves", "()V"⟩
abbrev cX1_spreadFromOpen : ByteArray := prog_3_method_9_code
def yX1_spreadFromOpen : MethodName := ⟨RX1, "spreadFromOpen", "(Z)I"⟩
abbrev cX1_spreadFrom : ByteArray := prog_3_method_10_code
def yX1_spreadFrom : MethodName := ⟨RX1, "spreadFrom", "(I)I"⟩
abbrev cX1_clearTurns : ByteArray := prog_3_method_11_code
def yX1_clearTurns : MethodName := ⟨RX1, "clearTurns", "()V"⟩
abbrev cX1_spread : ByteArray := prog_3_method_12_code
def yX1_spread : MethodName := ⟨RX1, "spread", "(Z)I"⟩
abbrev cX1_spreadOnce : ByteArray := prog_3_method_13_code
def yX1_spreadOnce : MethodName := ⟨RX1, "spreadOnce", "(II)V"⟩
abbrev cX1_lookAround : ByteArray := prog_3_method_14_code
def yX1_lookAround : MethodName := ⟨RX1, "lookAround", "(I)I"⟩
abbrev cX1_enterTurn : ByteArray := prog_3_method_15_code
def yX1_enterTurn : MethodName := ⟨RX1, "enterTurn", "(II)V"⟩
abbrev cX1_leaveTurn : ByteArray := prog_3_method_16_code
def yX1_leaveTurn : MethodName := ⟨RX1, "leaveTurn", "(I)V"⟩
abbrev cX1_firstBest : ByteArray := prog_3_method_17_code
def yX1_firstBest : MethodName := ⟨RX1, "firstBest", "()I"⟩
abbrev cX1_farWith : ByteArray := prog_3_method_18_code
def yX1_farWith : MethodName := ⟨RX1, "farWith", "(II)I"⟩
abbrev cX1_flood : ByteArray := prog_3_method_19_code
def yX1_flood : MethodName := ⟨RX1, "flood", "()I"⟩
abbrev cX1_floodOnce : ByteArray := prog_3_method_20_code
def yX1_floodOnce : MethodName := ⟨RX1, "floodOnce", "(II)I"⟩
abbrev cX1_farthest : ByteArray := prog_3_method_21_code
def yX1_farthest : MethodName := ⟨RX1, "farthest", "()I"⟩
abbrev cX1_rowsTo : ByteArray := prog_3_method_22_code
def yX1_rowsTo : MethodName := ⟨RX1, "rowsTo", "(II)J"⟩
abbrev cX1_step : ByteArray := prog_3_method_23_code
def yX1_step : MethodName := ⟨RX1, "step", "([III)V"⟩
abbrev cX1_stepOnce : ByteArray := prog_3_method_24_code
def yX1_stepOnce : MethodName := ⟨RX1, "stepOnce", "(II)V"⟩
def RX2 : String := "BothHandsFull$Sheet"
def TX2 : u_T := fun k => match k with
  | 0 => ("BothHandsFull$Sheet", "cells", "[I", true)
  | 1 => ("BothHandsFull$Sheet", "sort", "I", false)
  | _ => ("BothHandsFull$Sheet", "size", "I", false)
def tyX2 : Nat → FieldType := fun k => match k with
  | 0 => .array .int
  | 1 => .int
  | _ => .int
abbrev wsX20 : List Cond := u_ws RX2 TX2 3
theorem nmX2 : ∀ a, a < 3 → ∀ b, b < 3 → a ≠ b → (TX2 a).2.1 ≠ (TX2 b).2.1 := by decide +kernel
theorem tyX2_ok : ∀ k, k < 3 → parseFieldDescriptor (TX2 k).2.2.1 = some (tyX2 k) := by decide +kernel
abbrev cX2_init : ByteArray := prog_4_method_1_code
def yX2_init : MethodName := ⟨RX2, "<init>", "()V"⟩
abbrev cX2_isMissing : ByteArray := prog_4_method_2_code
def yX2_isMissing : MethodName := ⟨RX2, "isMissing", "()Z"⟩
abbrev cX2_become : ByteArray := prog_4_method_3_code
def yX2_become : MethodName := ⟨RX2, "become", "(II)V"⟩
abbrev cX2_put : ByteArray := prog_4_method_4_code
def yX2_put : MethodName := ⟨RX2, "put", "(II)V"⟩
abbrev cX2_hasPart : ByteArray := prog_4_method_5_code
def yX2_hasPart : MethodName := ⟨RX2, "hasPart", "(II)Z"⟩
def RX3 : String := "BothHandsFull$Tape"
def TX3 : u_T := fun k => match k with
  | 0 => ("BothHandsFull$Tape", "bytes", "[I", true)
  | 1 => ("BothHandsFull$Tape", "size", "I", false)
  | 2 => ("BothHandsFull$Tape", "at", "I", false)
  | 3 => ("BothHandsFull$Tape", "token", "I", false)
  | 4 => ("BothHandsFull$Tape", "place", "I", false)
  | 5 => ("BothHandsFull$Tape", "value", "I", false)
  | _ => ("BothHandsFull$Tape", "into", "LBothHandsFull$Text;", false)
def tyX3 : Nat → FieldType := fun k => match k with
  | 0 => .array .int
  | 1 => .int
  | 2 => .int
  | 3 => .int
  | 4 => .int
  | 5 => .int
  | _ => .object "BothHandsFull$Text"
abbrev wsX30 : List Cond := u_ws RX3 TX3 7
theorem nmX3 : ∀ a, a < 7 → ∀ b, b < 7 → a ≠ b → (TX3 a).2.1 ≠ (TX3 b).2.1 := by decide +kernel
theorem tyX3_ok : ∀ k, k < 7 → parseFieldDescriptor (TX3 k).2.2.1 = some (tyX3 k) := by decide +kernel
abbrev cX3_init : ByteArray := prog_5_method_1_code
def yX3_init : MethodName := ⟨RX3, "<init>", "()V"⟩
abbrev cX3_clear : ByteArray := prog_5_method_2_code
def yX3_clear : MethodName := ⟨RX3, "clear", "()V"⟩
abbrev cX3_add : ByteArray := prog_5_method_3_code
def yX3_add : MethodName := ⟨RX3, "add", "(I)V"⟩
abbrev cX3_read : ByteArray := prog_5_method_4_code
def yX3_read : MethodName := ⟨RX3, "read", "(LBothHandsFull$Text;)I"⟩
abbrev cX3_joined : ByteArray := prog_5_method_5_code
def yX3_joined : MethodName := ⟨RX3, "joined", "(II)Z"⟩
abbrev cX3_joins : ByteArray := prog_5_method_6_code
def yX3_joins : MethodName := ⟨RX3, "joins", "(I)Z"⟩
abbrev cX3_one : ByteArray := prog_5_method_7_code
def yX3_one : MethodName := ⟨RX3, "one", "(I)Z"⟩
abbrev cX3_advance : ByteArray := prog_5_method_8_code
def yX3_advance : MethodName := ⟨RX3, "advance", "()V"⟩
abbrev cX3_takeWord : ByteArray := prog_5_method_9_code
def yX3_takeWord : MethodName := ⟨RX3, "takeWord", "()V"⟩
abbrev cX3_isWord : ByteArray := prog_5_method_10_code
def yX3_isWord : MethodName := ⟨RX3, "isWord", "(I)Z"⟩
abbrev cX3_takeNumber : ByteArray := prog_5_method_11_code
def yX3_takeNumber : MethodName := ⟨RX3, "takeNumber", "()V"⟩
abbrev cX3_isLetter : ByteArray := prog_5_method_12_code
def yX3_isLetter : MethodName := ⟨RX3, "isLetter", "(I)Z"⟩
abbrev cX3_isDigit : ByteArray := prog_5_method_13_code
def yX3_isDigit : MethodName := ⟨RX3, "isDigit", "(I)Z"⟩
def RX4 : String := "BothHandsFull$Text"
def TX4 : u_T := fun k => match k with
  | 0 => ("BothHandsFull$Text", "code", "[I", true)
  | 1 => ("BothHandsFull$Text", "begins", "[I", true)
  | 2 => ("BothHandsFull$Text", "stack", "[I", true)
  | _ => ("BothHandsFull$Text", "size", "I", false)
def tyX4 : Nat → FieldType := fun k => match k with
  | 0 => .array .int
  | 1 => .array .int
  | 2 => .array .int
  | _ => .int
abbrev wsX40 : List Cond := u_ws RX4 TX4 4
theorem nmX4 : ∀ a, a < 4 → ∀ b, b < 4 → a ≠ b → (TX4 a).2.1 ≠ (TX4 b).2.1 := by decide +kernel
theorem tyX4_ok : ∀ k, k < 4 → parseFieldDescriptor (TX4 k).2.2.1 = some (tyX4 k) := by decide +kernel
abbrev cX4_init : ByteArray := prog_6_method_1_code
def yX4_init : MethodName := ⟨RX4, "<init>", "()V"⟩
abbrev cX4_clear : ByteArray := prog_6_method_2_code
def yX4_clear : MethodName := ⟨RX4, "clear", "()V"⟩
abbrev cX4_begin : ByteArray := prog_6_method_3_code
def yX4_begin : MethodName := ⟨RX4, "begin", "(I)V"⟩
abbrev cX4_add : ByteArray := prog_6_method_4_code
def yX4_add : MethodName := ⟨RX4, "add", "(I)V"⟩
abbrev cX4_tells : ByteArray := prog_6_method_5_code
def yX4_tells : MethodName := ⟨RX4, "tells", "(I[I)I"⟩
abbrev cX4_ofOne : ByteArray := prog_6_method_6_code
def yX4_ofOne : MethodName := ⟨RX4, "ofOne", "(II)I"⟩
abbrev cX4_ofTwo : ByteArray := prog_6_method_7_code
def yX4_ofTwo : MethodName := ⟨RX4, "ofTwo", "(III)I"⟩
def RX5 : String := "BothHandsFull"
def TX5 : u_T := fun k => match k with
  | 0 => ("BothHandsFull", "now", "LBothHandsFull$Lot;", true)
  | 1 => ("BothHandsFull", "kept", "LBothHandsFull$Lot;", true)
  | 2 => ("BothHandsFull", "thought", "LBothHandsFull$Lot;", true)
  | 3 => ("BothHandsFull", "search", "LBothHandsFull$Search;", true)
  | 4 => ("BothHandsFull", "tape", "LBothHandsFull$Tape;", true)
  | 5 => ("BothHandsFull", "texts", "[LBothHandsFull$Text;", true)
  | 6 => ("BothHandsFull", "sheets", "[LBothHandsFull$Sheet;", true)
  | 7 => ("BothHandsFull", "names", "[I", true)
  | 8 => ("BothHandsFull", "textCount", "I", false)
  | _ => ("BothHandsFull", "hasImage", "Z", false)
def tyX5 : Nat → FieldType := fun k => match k with
  | 0 => .object "BothHandsFull$Lot"
  | 1 => .object "BothHandsFull$Lot"
  | 2 => .object "BothHandsFull$Lot"
  | 3 => .object "BothHandsFull$Search"
  | 4 => .object "BothHandsFull$Tape"
  | 5 => .array (.object "BothHandsFull$Text")
  | 6 => .array (.object "BothHandsFull$Sheet")
  | 7 => .array .int
  | 8 => .int
  | _ => .boolean
abbrev wsX50 : List Cond := u_ws RX5 TX5 10
theorem nmX5 : ∀ a, a < 10 → ∀ b, b < 10 → a ≠ b → (TX5 a).2.1 ≠ (TX5 b).2.1 := by decide +kernel
theorem tyX5_ok : ∀ k, k < 10 → parseFieldDescriptor (TX5 k).2.2.1 = some (tyX5 k) := by decide +kernel
abbrev cX5_init : ByteArray := prog_1_method_1_code
def yX5_init : MethodName := ⟨RX5, "<init>", "()V"⟩
abbrev cX5_hold : ByteArray := prog_1_method_2_code
def yX5_hold : MethodName := ⟨RX5, "hold", "(II)I"⟩
abbrev cX5_thing : ByteArray := prog_1_method_3_code
def yX5_thing : MethodName := ⟨RX5, "thing", "(II)I"⟩
abbrev cX5_set : ByteArray := prog_1_method_4_code
def yX5_set : MethodName := ⟨RX5, "set", "(III)I"⟩
abbrev cX5_setFree : ByteArray := prog_1_method_5_code
def yX5_setFree : MethodName := ⟨RX5, "setFree", "(I)I"⟩
abbrev cX5_setKey : ByteArray := prog_1_method_6_code
def yX5_setKey : MethodName := ⟨RX5, "setKey", "(I)I"⟩
abbrev cX5_setNumber : ByteArray := prog_1_method_7_code
def yX5_setNumber : MethodName := ⟨RX5, "setNumber", "(II)I"⟩
abbrev cX5_setDry : ByteArray := prog_1_method_8_code
def yX5_setDry : MethodName := ⟨RX5, "setDry", "(II)I"⟩
abbrev cX5_part : ByteArray := prog_1_method_9_code
def yX5_part : MethodName := ⟨RX5, "part", "(III)I"⟩
abbrev cX5_told : ByteArray := prog_1_method_10_code
def yX5_told : MethodName := ⟨RX5, "told", "(II)I"⟩
abbrev cX5_toldOfHold : ByteArray := prog_1_method_11_code
def yX5_toldOfHold : MethodName := ⟨RX5, "toldOfHold", "(II)I"⟩
abbrev cX5_toldOfThing : ByteArray := prog_1_method_12_code
def yX5_toldOfThing : MethodName := ⟨RX5, "toldOfThing", "(II)I"⟩
abbrev cX5_feed : ByteArray := prog_1_method_13_code
def yX5_feed : MethodName := ⟨RX5, "feed", "(I)I"⟩
abbrev cX5_text : ByteArray := prog_1_method_14_code
def yX5_text : MethodName := ⟨RX5, "text", "()I"⟩
abbrev cX5_force : ByteArray := prog_1_method_15_code
def yX5_force : MethodName := ⟨RX5, "force", "(I)I"⟩
abbrev cX5_move : ByteArray := prog_1_method_16_code
def yX5_move : MethodName := ⟨RX5, "move", "(II)I"⟩
abbrev cX5_why : ByteArray := prog_1_method_17_code
def yX5_why : MethodName := ⟨RX5, "why", "(II)I"⟩
abbrev cX5_open : ByteArray := prog_1_method_18_code
def yX5_open : MethodName := ⟨RX5, "open", "(I)I"⟩
abbrev cX5_asks : ByteArray := prog_1_method_19_code
def yX5_asks : MethodName := ⟨RX5, "asks", "(III)I"⟩
abbrev cX5_costs : ByteArray := prog_1_method_20_code
def yX5_costs : MethodName := ⟨RX5, "costs", "(III)I"⟩
abbrev cX5_bell : ByteArray := prog_1_method_21_code
def yX5_bell : MethodName := ⟨RX5, "bell", "()I"⟩
abbrev cX5_worth : ByteArray := prog_1_method_22_code
def yX5_worth : MethodName := ⟨RX5, "worth", "(I)I"⟩
abbrev cX5_name : ByteArray := prog_1_method_23_code
def yX5_name : MethodName := ⟨RX5, "name", "(IIIII)V"⟩
abbrev cX5_best : ByteArray := prog_1_method_24_code
def yX5_best : MethodName := ⟨RX5, "best", "(I)I"⟩
abbrev cX5_pack : ByteArray := prog_1_method_25_code
def yX5_pack : MethodName := ⟨RX5, "pack", "(II)I"⟩
abbrev cX5_ring : ByteArray := prog_1_method_26_code
def yX5_ring : MethodName := ⟨RX5, "ring", "(I)I"⟩
abbrev cX5_leave : ByteArray := prog_1_method_27_code
def yX5_leave : MethodName := ⟨RX5, "leave", "()I"⟩
abbrev cX5_roomy : ByteArray := prog_1_method_28_code
def yX5_roomy : MethodName := ⟨RX5, "roomy", "(I)I"⟩
abbrev cX5_fewest : ByteArray := prog_1_method_29_code
def yX5_fewest : MethodName := ⟨RX5, "fewest", "(Z)I"⟩
abbrev cX5_countCosts : ByteArray := prog_1_method_30_code
def yX5_countCosts : MethodName := ⟨RX5, "countCosts", "()V"⟩
abbrev cX5_leastIf : ByteArray := prog_1_method_31_code
def yX5_leastIf : MethodName := ⟨RX5, "leastIf", "(II)I"⟩
abbrev cX5_think : ByteArray := prog_1_method_32_code
def yX5_think : MethodName := ⟨RX5, "think", "(II)V"⟩
abbrev cX5_isLess : ByteArray := prog_1_method_33_code
def yX5_isLess : MethodName := ⟨RX5, "isLess", "(II)Z"⟩
abbrev cX5_judge : ByteArray := prog_1_method_34_code
def yX5_judge : MethodName := ⟨RX5, "judge", "(II)I"⟩
abbrev cX5_canBe : ByteArray := prog_1_method_35_code
def yX5_canBe : MethodName := ⟨RX5, "canBe", "(I)Z"⟩
abbrev cX5_ways : ByteArray := prog_1_method_36_code
def yX5_ways : MethodName := ⟨RX5, "ways", "(II)J"⟩
abbrev cX5_soonest : ByteArray := prog_1_method_37_code
def yX5_soonest : MethodName := ⟨RX5, "soonest", "(I)I"⟩
abbrev cX5_drawn : ByteArray := prog_1_method_38_code
def yX5_drawn : MethodName := ⟨RX5, "drawn", "(II)I"⟩
abbrev cX5_chance : ByteArray := prog_1_method_39_code
def yX5_chance : MethodName := ⟨RX5, "chance", "(III)J"⟩
abbrev cX5_openBehind : ByteArray := prog_1_method_40_code
def yX5_openBehind : MethodName := ⟨RX5, "openBehind", "(II)I"⟩
abbrev cX5_drawOnce : ByteArray := prog_1_method_41_code
def yX5_drawOnce : MethodName := ⟨RX5, "drawOnce", "(I)V"⟩
abbrev cX5_commonPart : ByteArray := prog_1_method_42_code
def yX5_commonPart : MethodName := ⟨RX5, "commonPart", "(II)I"⟩
abbrev cX5_image : ByteArray := prog_1_method_43_code
def yX5_image : MethodName := ⟨RX5, "image", "()I"⟩
abbrev cX5_back : ByteArray := prog_1_method_44_code
def yX5_back : MethodName := ⟨RX5, "back", "()I"⟩
abbrev cX5_count : ByteArray := prog_1_method_45_code
def yX5_count : MethodName := ⟨RX5, "count", "(I)I"⟩
abbrev cX5_sheet : ByteArray := prog_1_method_46_code
def yX5_sheet : MethodName := ⟨RX5, "sheet", "(III)I"⟩
abbrev cX5_cell : ByteArray := prog_1_method_47_code
def yX5_cell : MethodName := ⟨RX5, "cell", "(III)I"⟩
abbrev cX5_copy : ByteArray := prog_1_method_48_code
def yX5_copy : MethodName := ⟨RX5, "copy", "(IIIII)I"⟩
abbrev cX5_things : ByteArray := prog_1_method_49_code
def yX5_things : MethodName := ⟨RX5, "things", "(IIII)I"⟩
abbrev cX5_taken : ByteArray := prog_1_method_50_code
def yX5_taken : MethodName := ⟨RX5, "taken", "(II)I"⟩
abbrev cX5_within : ByteArray := prog_1_method_51_code
def yX5_within : MethodName := ⟨RX5, "within", "(II)Z"⟩
abbrev cX5_bounded : ByteArray := prog_1_method_52_code
def yX5_bounded : MethodName := ⟨RX5, "bounded", "(II)I"⟩
abbrev cX5_withBit : ByteArray := prog_1_method_53_code
def yX5_withBit : MethodName := ⟨RX5, "withBit", "(III)I"⟩
abbrev cX5_roomOf : ByteArray := prog_1_method_54_code
def yX5_roomOf : MethodName := ⟨RX5, "roomOf", "(II)I"⟩
def RX6 : String := "BothHandsFullModel"
def TX6 : u_T := fun k => match k with
  | 0 => ("BothHandsFullModel", "thrown", "I", false)
  | 1 => ("BothHandsFullModel", "texts", "[I", true)
  | 2 => ("BothHandsFullModel", "textSize", "[I", true)
  | 3 => ("BothHandsFullModel", "textCount", "I", false)
  | 4 => ("BothHandsFullModel", "rule", "I", false)
  | 5 => ("BothHandsFullModel", "tape", "[I", true)
  | 6 => ("BothHandsFullModel", "taped", "I", false)
  | 7 => ("BothHandsFullModel", "kinds", "[I", true)
  | 8 => ("BothHandsFullModel", "numbers", "[I", true)
  | 9 => ("BothHandsFullModel", "holds", "I", false)
  | 10 => ("BothHandsFullModel", "sizes", "[I", true)
  | 11 => ("BothHandsFullModel", "dry", "[I", true)
  | 12 => ("BothHandsFullModel", "lies", "[I", true)
  | 13 => ("BothHandsFullModel", "apart", "[I", true)
  | 14 => ("BothHandsFullModel", "things", "I", false)
  | 15 => ("BothHandsFullModel", "key", "I", false)
  | 16 => ("BothHandsFullModel", "free", "I", false)
  | 17 => ("BothHandsFullModel", "roomyHold", "I", false)
  | 18 => ("BothHandsFullModel", "nowhere", "I", false)
  | 19 => ("BothHandsFullModel", "ofSize", "I", false)
  | 20 => ("BothHandsFullModel", "ofFrom", "I", false)
  | 21 => ("BothHandsFullModel", "ofTo", "I", false)
  | 22 => ("BothHandsFullModel", "ofThing", "I", false)
  | 23 => ("BothHandsFullModel", "ofMany", "I", false)
  | 24 => ("BothHandsFullModel", "ofWet", "I", false)
  | 25 => ("BothHandsFullModel", "from", "I", false)
  | 26 => ("BothHandsFullModel", "size", "I", false)
  | 27 => ("BothHandsFullModel", "here", "I", false)
  | 28 => ("BothHandsFullModel", "token", "I", false)
  | 29 => ("BothHandsFullModel", "tokenAt", "I", false)
  | 30 => ("BothHandsFullModel", "tokenWorth", "J", false)
  | 31 => ("BothHandsFullModel", "open", "I", false)
  | 32 => ("BothHandsFullModel", "bad", "Z", false)
  | 33 => ("BothHandsFullModel", "fault", "I", false)
  | 34 => ("BothHandsFullModel", "liesWas", "[I", true)
  | 35 => ("BothHandsFullModel", "mayBe", "[I", true)
  | 36 => ("BothHandsFullModel", "few", "[I", true)
  | 37 => ("BothHandsFullModel", "little", "[I", true)
  | 38 => ("BothHandsFullModel", "costs", "[I", true)
  | 39 => ("BothHandsFullModel", "seen", "[I", true)
  | 40 => ("BothHandsFullModel", "judgeCost", "I", false)
  | 41 => ("BothHandsFullModel", "judgeOpen", "Z", false)
  | 42 => ("BothHandsFullModel", "rows", "[J", true)
  | 43 => ("BothHandsFullModel", "then", "[J", true)
  | 44 => ("BothHandsFullModel", "kept", "[I", true)
  | 45 => ("BothHandsFullModel", "thingsKept", "I", false)
  | 46 => ("BothHandsFullModel", "holdsKept", "I", false)
  | 47 => ("BothHandsFullModel", "keyKept", "I", false)
  | 48 => ("BothHandsFullModel", "freeKept", "I", false)
  | 49 => ("BothHandsFullModel", "ruleKept", "I", false)
  | 50 => ("BothHandsFullModel", "isThere", "[Z", true)
  | 51 => ("BothHandsFullModel", "sorts", "[I", true)
  | 52 => ("BothHandsFullModel", "sheetSize", "[I", true)
  | _ => ("BothHandsFullModel", "items", "[I", true)
def tyX6 : Nat → FieldType := fun k => match k with
  | 0 => .int
  | 1 => .array .int
  | 2 => .array .int
  | 3 => .int
  | 4 => .int
  | 5 => .array .int
  | 6 => .int
  | 7 => .array .int
  | 8 => .array .int
  | 9 => .int
  | 10 => .array .int
  | 11 => .array .int
  | 12 => .array .int
  | 13 => .array .int
  | 14 => .int
  | 15 => .int
  | 16 => .int
  | 17 => .int
  | 18 => .int
  | 19 => .int
  | 20 => .int
  | 21 => .int
  | 22 => .int
  | 23 => .int
  | 24 => .int
  | 25 => .int
  | 26 => .int
  | 27 => .int
  | 28 => .int
  | 29 => .int
  | 30 => .long
  | 31 => .int
  | 32 => .boolean
  | 33 => .int
  | 34 => .array .int
  | 35 => .array .int
  | 36 => .array .int
  | 37 => .array .int
  | 38 => .array .int
  | 39 => .array .int
  | 40 => .int
  | 41 => .boolean
  | 42 => .array .long
  | 43 => .array .long
  | 44 => .array .int
  | 45 => .int
  | 46 => .int
  | 47 => .int
  | 48 => .int
  | 49 => .int
  | 50 => .array .boolean
  | 51 => .array .int
  | 52 => .array .int
  | _ => .array .int
abbrev wsX60 : List Cond := u_ws RX6 TX6 54
theorem nmX6 : ∀ a, a < 54 → ∀ b, b < 54 → a ≠ b → (TX6 a).2.1 ≠ (TX6 b).2.1 := by decide +kernel
theorem tyX6_ok : ∀ k, k < 54 → parseFieldDescriptor (TX6 k).2.2.1 = some (tyX6 k) := by decide +kernel
abbrev cX6_in : ByteArray := prog_8_method_2_code
def yX6_in : MethodName := ⟨RX6, "in", "(JJJ)Z"⟩
abbrev cX6_within : ByteArray := prog_8_method_3_code
def yX6_within : MethodName := ⟨RX6, "within", "(III)I"⟩
abbrev cX6_bitsOf : ByteArray := prog_8_method_4_code
def yX6_bitsOf : MethodName := ⟨RX6, "bitsOf", "(I)I"⟩
abbrev cX6_init : ByteArray := prog_8_method_5_code
def yX6_init : MethodName := ⟨RX6, "<init>", "()V"⟩
abbrev cX6_spell : ByteArray := prog_8_method_6_code
def yX6_spell : MethodName := ⟨RX6, "spell", "(IIIIIIIII)V"⟩
abbrev cX6_isHold : ByteArray := prog_8_method_7_code
def yX6_isHold : MethodName := ⟨RX6, "isHold", "(I)Z"⟩
abbrev cX6_isThing : ByteArray := prog_8_method_8_code
def yX6_isThing : MethodName := ⟨RX6, "isThing", "(I)Z"⟩
abbrev cX6_roomOf : ByteArray := prog_8_method_9_code
def yX6_roomOf : MethodName := ⟨RX6, "roomOf", "(I)I"⟩
abbrev cX6_mostOf : ByteArray := prog_8_method_10_code
def yX6_mostOf : MethodName := ⟨RX6, "mostOf", "(I)I"⟩
abbrev cX6_wetOf : ByteArray := prog_8_method_11_code
def yX6_wetOf : MethodName := ⟨RX6, "wetOf", "(I)I"⟩
abbrev cX6_opensOf : ByteArray := prog_8_method_12_code
def yX6_opensOf : MethodName := ⟨RX6, "opensOf", "(I)I"⟩
abbrev cX6_inside : ByteArray := prog_8_method_13_code
def yX6_inside : MethodName := ⟨RX6, "inside", "(I)I"⟩
abbrev cX6_sizeOf : ByteArray := prog_8_method_14_code
def yX6_sizeOf : MethodName := ⟨RX6, "sizeOf", "(I)I"⟩
abbrev cX6_bars : ByteArray := prog_8_method_15_code
def yX6_bars : MethodName := ⟨RX6, "bars", "(IIIII)I"⟩
abbrev cX6_barsThing : ByteArray := prog_8_method_16_code
def yX6_barsThing : MethodName := ⟨RX6, "barsThing", "(II)I"⟩
abbrev cX6_canGo : ByteArray := prog_8_method_17_code
def yX6_canGo : MethodName := ⟨RX6, "canGo", "(II)Z"⟩
abbrev cX6_hold : ByteArray := prog_8_method_18_code
def yX6_hold : MethodName := ⟨RX6, "hold", "(II)I"⟩
abbrev cX6_thing : ByteArray := prog_8_method_19_code
def yX6_thing : MethodName := ⟨RX6, "thing", "(II)I"⟩
abbrev cX6_set : ByteArray := prog_8_method_20_code
def yX6_set : MethodName := ⟨RX6, "set", "(III)I"⟩
abbrev cX6_part : ByteArray := prog_8_method_21_code
def yX6_part : MethodName := ⟨RX6, "part", "(III)I"⟩
abbrev cX6_told : ByteArray := prog_8_method_22_code
def yX6_told : MethodName := ⟨RX6, "told", "(II)I"⟩
abbrev cX6_feed : ByteArray := prog_8_method_23_code
def yX6_feed : MethodName := ⟨RX6, "feed", "(I)I"⟩
abbrev cX6_byteAt : ByteArray := prog_8_method_24_code
def yX6_byteAt : MethodName := ⟨RX6, "byteAt", "(I)I"⟩
abbrev cX6_next : ByteArray := prog_8_method_25_code
def yX6_next : MethodName := ⟨RX6, "next", "()V"⟩
abbrev cX6_fail : ByteArray := prog_8_method_26_code
def yX6_fail : MethodName := ⟨RX6, "fail", "()V"⟩
abbrev cX6_isLetter : ByteArray := prog_8_method_27_code
def yX6_isLetter : MethodName := ⟨RX6, "isLetter", "(II)Z"⟩
abbrev cX6_isWord : ByteArray := prog_8_method_28_code
def yX6_isWord : MethodName := ⟨RX6, "isWord", "(IIIIIIII)Z"⟩
abbrev cX6_isSign : ByteArray := prog_8_method_29_code
def yX6_isSign : MethodName := ⟨RX6, "isSign", "(I)Z"⟩
abbrev cX6_opens : ByteArray := prog_8_method_30_code
def yX6_opens : MethodName := ⟨RX6, "opens", "()Z"⟩
abbrev cX6_name : ByteArray := prog_8_method_31_code
def yX6_name : MethodName := ⟨RX6, "name", "()I"⟩
abbrev cX6_atom5 : ByteArray := prog_8_method_32_code
def yX6_atom5 : MethodName := ⟨RX6, "atom5", "()I"⟩
abbrev cX6_term5 : ByteArray := prog_8_method_33_code
def yX6_term5 : MethodName := ⟨RX6, "term5", "()I"⟩
abbrev cX6_added5 : ByteArray := prog_8_method_34_code
def yX6_added5 : MethodName := ⟨RX6, "added5", "()I"⟩
abbrev cX6_not5 : ByteArray := prog_8_method_35_code
def yX6_not5 : MethodName := ⟨RX6, "not5", "()I"⟩
abbrev cX6_both5 : ByteArray := prog_8_method_36_code
def yX6_both5 : MethodName := ⟨RX6, "both5", "()I"⟩
abbrev cX6_either5 : ByteArray := prog_8_method_37_code
def yX6_either5 : MethodName := ⟨RX6, "either5", "()I"⟩
abbrev cX6_atom4 : ByteArray := prog_8_method_38_code
def yX6_atom4 : MethodName := ⟨RX6, "atom4", "()I"⟩
abbrev cX6_term4 : ByteArray := prog_8_method_39_code
def yX6_term4 : MethodName := ⟨RX6, "term4", "()I"⟩
abbrev cX6_added4 : ByteArray := prog_8_method_40_code
def yX6_added4 : MethodName := ⟨RX6, "added4", "()I"⟩
abbrev cX6_not4 : ByteArray := prog_8_method_41_code
def yX6_not4 : MethodName := ⟨RX6, "not4", "()I"⟩
abbrev cX6_both4 : ByteArray := prog_8_method_42_code
def yX6_both4 : MethodName := ⟨RX6, "both4", "()I"⟩
abbrev cX6_either4 : ByteArray := prog_8_method_43_code
def yX6_either4 : MethodName := ⟨RX6, "either4", "()I"⟩
abbrev cX6_atom3 : ByteArray := prog_8_method_44_code
def yX6_atom3 : MethodName := ⟨RX6, "atom3", "()I"⟩
abbrev cX6_term3 : ByteArray := prog_8_method_45_code
def yX6_term3 : MethodName := ⟨RX6, "term3", "()I"⟩
abbrev cX6_added3 : ByteArray := prog_8_method_46_code
def yX6_added3 : MethodName := ⟨RX6, "added3", "()I"⟩
abbrev cX6_not3 : ByteArray := prog_8_method_47_code
def yX6_not3 : MethodName := ⟨RX6, "not3", "()I"⟩
abbrev cX6_both3 : ByteArray := prog_8_method_48_code
def yX6_both3 : MethodName := ⟨RX6, "both3", "()I"⟩
abbrev cX6_either3 : ByteArray := prog_8_method_49_code
def yX6_either3 : MethodName := ⟨RX6, "either3", "()I"⟩
abbrev cX6_atom2 : ByteArray := prog_8_method_50_code
def yX6_atom2 : MethodName := ⟨RX6, "atom2", "()I"⟩
abbrev cX6_term2 : ByteArray := prog_8_method_51_code
def yX6_term2 : MethodName := ⟨RX6, "term2", "()I"⟩
abbrev cX6_added2 : ByteArray := prog_8_method_52_code
def yX6_added2 : MethodName := ⟨RX6, "added2", "()I"⟩
abbrev cX6_not2 : ByteArray := prog_8_method_53_code
def yX6_not2 : MethodName := ⟨RX6, "not2", "()I"⟩
abbrev cX6_both2 : ByteArray := prog_8_method_54_code
def yX6_both2 : MethodName := ⟨RX6, "both2", "()I"⟩
abbrev cX6_either2 : ByteArray := prog_8_method_55_code
def yX6_either2 : MethodName := ⟨RX6, "either2", "()I"⟩
abbrev cX6_atom1 : ByteArray := prog_8_method_56_code
def yX6_atom1 : MethodName := ⟨RX6, "atom1", "()I"⟩
abbrev cX6_term1 : ByteArray := prog_8_method_57_code
def yX6_term1 : MethodName := ⟨RX6, "term1", "()I"⟩
abbrev cX6_added1 : ByteArray := prog_8_method_58_code
def yX6_added1 : MethodName := ⟨RX6, "added1", "()I"⟩
abbrev cX6_not1 : ByteArray := prog_8_method_59_code
def yX6_not1 : MethodName := ⟨RX6, "not1", "()I"⟩
abbrev cX6_both1 : ByteArray := prog_8_method_60_code
def yX6_both1 : MethodName := ⟨RX6, "both1", "()I"⟩
abbrev cX6_either1 : ByteArray := prog_8_method_61_code
def yX6_either1 : MethodName := ⟨RX6, "either1", "()I"⟩
abbrev cX6_atom0 : ByteArray := prog_8_method_62_code
def yX6_atom0 : MethodName := ⟨RX6, "atom0", "()I"⟩
abbrev cX6_term0 : ByteArray := prog_8_method_63_code
def yX6_term0 : MethodName := ⟨RX6, "term0", "()I"⟩
abbrev cX6_added0 : ByteArray := prog_8_method_64_code
def yX6_added0 : MethodName := ⟨RX6, "added0", "()I"⟩
abbrev cX6_not0 : ByteArray := prog_8_method_65_code
def yX6_not0 : MethodName := ⟨RX6, "not0", "()I"⟩
abbrev cX6_both0 : ByteArray := prog_8_method_66_code
def yX6_both0 : MethodName := ⟨RX6, "both0", "()I"⟩
abbrev cX6_either0 : ByteArray := prog_8_method_67_code
def yX6_either0 : MethodName := ⟨RX6, "either0", "()I"⟩
abbrev cX6_part_ : ByteArray := prog_8_method_68_code
def yX6_part_ : MethodName := ⟨RX6, "part", "(Z)I"⟩
abbrev cX6_read : ByteArray := prog_8_method_69_code
def yX6_read : MethodName := ⟨RX6, "read", "(II)I"⟩
abbrev cX6_text : ByteArray := prog_8_method_70_code
def yX6_text : MethodName := ⟨RX6, "text", "()I"⟩
abbrev cX6_force : ByteArray := prog_8_method_71_code
def yX6_force : MethodName := ⟨RX6, "force", "(I)I"⟩
abbrev cX6_says : ByteArray := prog_8_method_72_code
def yX6_says : MethodName := ⟨RX6, "says", "(IIII)I"⟩
abbrev cX6_asks : ByteArray := prog_8_method_73_code
def yX6_asks : MethodName := ⟨RX6, "asks", "(III)I"⟩
abbrev cX6_move : ByteArray := prog_8_method_74_code
def yX6_move : MethodName := ⟨RX6, "move", "(II)I"⟩
abbrev cX6_why : ByteArray := prog_8_method_75_code
def yX6_why : MethodName := ⟨RX6, "why", "(II)I"⟩
abbrev cX6_isOpen : ByteArray := prog_8_method_76_code
def yX6_isOpen : MethodName := ⟨RX6, "isOpen", "()Z"⟩
abbrev cX6_open : ByteArray := prog_8_method_77_code
def yX6_open : MethodName := ⟨RX6, "open", "(I)I"⟩
abbrev cX6_place : ByteArray := prog_8_method_78_code
def yX6_place : MethodName := ⟨RX6, "place", "(I)I"⟩
abbrev cX6_codeNow : ByteArray := prog_8_method_79_code
def yX6_codeNow : MethodName := ⟨RX6, "codeNow", "()I"⟩
abbrev cX6_lays : ByteArray := prog_8_method_80_code
def yX6_lays : MethodName := ⟨RX6, "lays", "(I)V"⟩
abbrev cX6_areWell : ByteArray := prog_8_method_81_code
def yX6_areWell : MethodName := ⟨RX6, "areWell", "()Z"⟩
abbrev cX6_after : ByteArray := prog_8_method_82_code
def yX6_after : MethodName := ⟨RX6, "after", "(III)I"⟩
abbrev cX6_gathers : ByteArray := prog_8_method_83_code
def yX6_gathers : MethodName := ⟨RX6, "gathers", "()V"⟩
abbrev cX6_eases : ByteArray := prog_8_method_84_code
def yX6_eases : MethodName := ⟨RX6, "eases", "(I)Z"⟩
abbrev cX6_told1 : ByteArray := prog_8_method_85_code
def yX6_told1 : MethodName := ⟨RX6, "told1", "(I)I"⟩
abbrev cX6_moveBy : ByteArray := prog_8_method_86_code
def yX6_moveBy : MethodName := ⟨RX6, "moveBy", "(Z)I"⟩
abbrev cX6_reaches : ByteArray := prog_8_method_87_code
def yX6_reaches : MethodName := ⟨RX6, "reaches", "(I)I"⟩
abbrev cX6_best : ByteArray := prog_8_method_88_code
def yX6_best : MethodName := ⟨RX6, "best", "(I)I"⟩
abbrev cX6_pack : ByteArray := prog_8_method_89_code
def yX6_pack : MethodName := ⟨RX6, "pack", "(II)I"⟩
abbrev cX6_ring : ByteArray := prog_8_method_90_code
def yX6_ring : MethodName := ⟨RX6, "ring", "(I)I"⟩
abbrev cX6_leave : ByteArray := prog_8_method_91_code
def yX6_leave : MethodName := ⟨RX6, "leave", "()I"⟩
abbrev cX6_roomy : ByteArray := prog_8_method_92_code
def yX6_roomy : MethodName := ⟨RX6, "roomy", "(I)I"⟩
abbrev cX6_goesBy : ByteArray := prog_8_method_93_code
def yX6_goesBy : MethodName := ⟨RX6, "goesBy", "(I)I"⟩
abbrev cX6_judge : ByteArray := prog_8_method_94_code
def yX6_judge : MethodName := ⟨RX6, "judge", "(II)I"⟩
abbrev cX6_codeOf : ByteArray := prog_8_method_95_code
def yX6_codeOf : MethodName := ⟨RX6, "codeOf", "(I)I"⟩
abbrev cX6_begins : ByteArray := prog_8_method_96_code
def yX6_begins : MethodName := ⟨RX6, "begins", "()V"⟩
abbrev cX6_steps : ByteArray := prog_8_method_97_code
def yX6_steps : MethodName := ⟨RX6, "steps", "()V"⟩
abbrev cX6_ways : ByteArray := prog_8_method_98_code
def yX6_ways : MethodName := ⟨RX6, "ways", "(II)J"⟩
abbrev cX6_soonest : ByteArray := prog_8_method_99_code
def yX6_soonest : MethodName := ⟨RX6, "soonest", "(I)I"⟩
abbrev cX6_draws : ByteArray := prog_8_method_100_code
def yX6_draws : MethodName := ⟨RX6, "draws", "(II)I"⟩
abbrev cX6_drawn : ByteArray := prog_8_method_101_code
def yX6_drawn : MethodName := ⟨RX6, "drawn", "(II)I"⟩
abbrev cX6_chance : ByteArray := prog_8_method_102_code
def yX6_chance : MethodName := ⟨RX6, "chance", "(III)J"⟩
abbrev cX6_image : ByteArray := prog_8_method_103_code
def yX6_image : MethodName := ⟨RX6, "image", "()I"⟩
abbrev cX6_back : ByteArray := prog_8_method_104_code
def yX6_back : MethodName := ⟨RX6, "back", "()I"⟩
abbrev cX6_count : ByteArray := prog_8_method_105_code
def yX6_count : MethodName := ⟨RX6, "count", "(I)I"⟩
abbrev cX6_isSheet : ByteArray := prog_8_method_106_code
def yX6_isSheet : MethodName := ⟨RX6, "isSheet", "(I)Z"⟩
abbrev cX6_sheet : ByteArray := prog_8_method_107_code
def yX6_sheet : MethodName := ⟨RX6, "sheet", "(III)I"⟩
abbrev cX6_cell : ByteArray := prog_8_method_108_code
def yX6_cell : MethodName := ⟨RX6, "cell", "(III)I"⟩
abbrev cX6_copy : ByteArray := prog_8_method_109_code
def yX6_copy : MethodName := ⟨RX6, "copy", "(IIIII)I"⟩
abbrev cX6_things : ByteArray := prog_8_method_110_code
def yX6_things : MethodName := ⟨RX6, "things", "(IIII)I"⟩
abbrev cX6_over : ByteArray := prog_8_method_111_code
def yX6_over : MethodName := ⟨RX6, "over", "(I)I"⟩
abbrev cX6_taken : ByteArray := prog_8_method_112_code
def yX6_taken : MethodName := ⟨RX6, "taken", "(II)I"⟩
def RJ11 : String := "java/lang/Character"
def TJ11 : u_T := fun k => match k with
  | _ => ("", "", "", false)
abbrev cJ11_isValidCodePoint_9a6ad : ByteArray := prog_9_method_11_code
def yJ11_isValidCodePoint_9a6ad : MethodName := ⟨RJ11, "isValidCodePoint", "(I)Z"⟩
abbrev cJ11_highSurrogate_5068e : ByteArray := prog_9_method_28_code
def yJ11_highSurrogate_5068e : MethodName := ⟨RJ11, "highSurrogate", "(I)C"⟩
abbrev cJ11_lowSurrogate_5068e : ByteArray := prog_9_method_29_code
def yJ11_lowSurrogate_5068e : MethodName := ⟨RJ11, "lowSurrogate", "(I)C"⟩
def RJ9 : String := "java/lang/Math"
def TJ9 : u_T := fun k => match k with
  | _ => ("", "", "", false)
abbrev cJ9_max_7cf53 : ByteArray := prog_10_method_65_code
def yJ9_max_7cf53 : MethodName := ⟨RJ9, "max", "(II)I"⟩
abbrev cJ9_min_7cf53 : ByteArray := prog_10_method_69_code
def yJ9_min_7cf53 : MethodName := ⟨RJ9, "min", "(II)I"⟩
def RJ0 : String := "java/lang/String"
def TJ0 : u_T := fun k => match k with
  | _ => ("", "", "", false)
abbrev cJ0_length_8abf5 : ByteArray := prog_11_method_54_code
def yJ0_length_8abf5 : MethodName := ⟨RJ0, "length", "()I"⟩
abbrev cJ0_charAt_5068e : ByteArray := prog_11_method_56_code
def yJ0_charAt_5068e : MethodName := ⟨RJ0, "charAt", "(I)C"⟩
abbrev cJ0_indexOf_0f7a4 : ByteArray := prog_11_method_79_code
def yJ0_indexOf_0f7a4 : MethodName := ⟨RJ0, "indexOf", "(I)I"⟩
abbrev cJ0_indexOf_7cf53 : ByteArray := prog_11_method_80_code
def yJ0_indexOf_7cf53 : MethodName := ⟨RJ0, "indexOf", "(II)I"⟩
abbrev cJ0_coder_7d493 : ByteArray := prog_11_method_152_code
def yJ0_coder_7d493 : MethodName := ⟨RJ0, "coder", "()B"⟩
abbrev cJ0_isLatin1_aae02 : ByteArray := prog_11_method_154_code
def yJ0_isLatin1_aae02 : MethodName := ⟨RJ0, "isLatin1", "()Z"⟩
abbrev cJ0_checkIndex_df160 : ByteArray := prog_11_method_155_code
def yJ0_checkIndex_df160 : MethodName := ⟨RJ0, "checkIndex", "(II)V"⟩
abbrev cJ0_checkBoundsBeginEnd_23922 : ByteArray := prog_11_method_158_code
def yJ0_checkBoundsBeginEnd_23922 : MethodName := ⟨RJ0, "checkBoundsBeginEnd", "(III)V"⟩
def RJ1 : String := "java/lang/StringLatin1"
def TJ1 : u_T := fun k => match k with
  | _ => ("", "", "", false)
abbrev cJ1_charAt_3b067 : ByteArray := prog_12_method_2_code
def yJ1_charAt_3b067 : MethodName := ⟨RJ1, "charAt", "([BI)C"⟩
abbrev cJ1_canEncode_9a6ad : ByteArray := prog_12_method_4_code
def yJ1_canEncode_9a6ad : MethodName := ⟨RJ1, "canEncode", "(I)Z"⟩
abbrev cJ1_indexOf_4cfef : ByteArray := prog_12_method_22_code
def yJ1_indexOf_4cfef : MethodName := ⟨RJ1, "indexOf", "([BIII)I"⟩
abbrev cJ1_indexOfChar_4cfef : ByteArray := prog_12_method_23_code
def yJ1_indexOfChar_4cfef : MethodName := ⟨RJ1, "indexOfChar", "([BIII)I"⟩
def RJ2 : String := "java/lang/StringUTF16"
def TJ2 : u_T := fun k => match k with
  | _ => ("", "", "", false)
abbrev cJ2_getChar_3b067 : ByteArray := prog_13_method_5_code
def yJ2_getChar_3b067 : MethodName := ⟨RJ2, "getChar", "([BI)C"⟩
abbrev cJ2_length_9d52b : ByteArray := prog_13_method_6_code
def yJ2_length_9d52b : MethodName := ⟨RJ2, "length", "([B)I"⟩
abbrev cJ2_indexOf_4cfef : ByteArray := prog_13_method_40_code
def yJ2_indexOf_4cfef : MethodName := ⟨RJ2, "indexOf", "([BIII)I"⟩
abbrev cJ2_indexOfChar_4cfef : ByteArray := prog_13_method_47_code
def yJ2_indexOfChar_4cfef : MethodName := ⟨RJ2, "indexOfChar", "([BIII)I"⟩
abbrev cJ2_indexOfCharUnsafe_4cfef : ByteArray := prog_13_method_48_code
def yJ2_indexOfCharUnsafe_4cfef : MethodName := ⟨RJ2, "indexOfCharUnsafe", "([BIII)I"⟩
abbrev cJ2_indexOfSupplementary_4cfef : ByteArray := prog_13_method_49_code
def yJ2_indexOfSupplementary_4cfef : MethodName := ⟨RJ2, "indexOfSupplementary", "([BIII)I"⟩
abbrev cJ2_charAt_3b067 : ByteArray := prog_13_method_83_code
def yJ2_charAt_3b067 : MethodName := ⟨RJ2, "charAt", "([BI)C"⟩
abbrev cJ2_checkIndex_2214a : ByteArray := prog_13_method_91_code
def yJ2_checkIndex_2214a : MethodName := ⟨RJ2, "checkIndex", "(I[B)V"⟩
abbrev cJ2_checkBoundsBeginEnd_d044e : ByteArray := prog_13_method_93_code
def yJ2_checkBoundsBeginEnd_d044e : MethodName := ⟨RJ2, "checkBoundsBeginEnd", "(II[B)V"⟩
def RJ10 : String := "java/lang/System"
def TJ10 : u_T := fun k => match k with
  | _ => ("", "", "", false)
def RJ3 : String := "jdk/internal/util/Preconditions"
def TJ3 : u_T := fun k => match k with
  | _ => ("", "", "", false)
abbrev cJ3_checkIndex_8e157 : ByteArray := prog_15_method_11_code
def yJ3_checkIndex_8e157 : MethodName := ⟨RJ3, "checkIndex", "(IILjava/util/function/BiFunction;)I"⟩
abbrev cJ3_checkFromToIndex_8c36e : ByteArray := prog_15_method_12_code
def yJ3_checkFromToIndex_8c36e : MethodName := ⟨RJ3, "checkFromToIndex", "(IIILjava/util/function/BiFunction;)I"⟩
def RL : String := "BothHandsFullLaw"
abbrev cL_law : ByteArray := code
def yL_law : MethodName := ⟨RL, "law", "([I)Z"⟩
abbrev vwCl : List vw_C := [(RX0, TX0, 13), (RX1, TX1, 14), (RX2, TX2, 3), (RX3, TX3, 7), (RX4, TX4, 4), (RX5, TX5, 10), (RX6, TX6, 54)]
end
section
def WL : List Cond := lw_tbl.filter goodWord
theorem WL_of {w : Cond} (i : Nat) (h : lw_tbl[i]? = some w) (hg : goodWord w = true) : w ∈ WL := List.mem_filter.mpr ⟨List.mem_of_getElem? h, hg⟩
theorem WL_in : ∀ w ∈ WL, w ∈ lw_tbl := fun w h => (List.mem_filter.mp h).1
theorem wl_0 : (Cond.selects RX3 yX3_advance yX3_advance : Cond) ∈ WL := WL_of 0 (by decide +kernel) rfl
theorem wl_1 : (Cond.selects RX3 yX3_takeWord yX3_takeWord : Cond) ∈ WL := WL_of 1 (by decide +kernel) rfl
theorem wl_2 : (Cond.selects RX3 yX3_isWord yX3_isWord : Cond) ∈ WL := WL_of 2 (by decide +kernel) rfl
theorem wl_3 : (Cond.selects RX3 yX3_takeNumber yX3_takeNumber : Cond) ∈ WL := WL_of 3 (by decide +kernel) rfl
theorem wl_4 : (Cond.selects RX3 yX3_joined yX3_joined : Cond) ∈ WL := WL_of 4 (by decide +kernel) rfl
theorem wl_5 : (Cond.selects RX3 yX3_one yX3_one : Cond) ∈ WL := WL_of 5 (by decide +kernel) rfl
theorem wl_6 : (Cond.selects RX3 yX3_joins yX3_joins : Cond) ∈ WL := WL_of 6 (by decide +kernel) rfl
theorem wl_7 : (Cond.selects RX5 yX5_setFree yX5_setFree : Cond) ∈ WL := WL_of 7 (by decide +kernel) rfl
theorem wl_8 : (Cond.selects RX5 yX5_setKey yX5_setKey : Cond) ∈ WL := WL_of 8 (by decide +kernel) rfl
theorem wl_9 : (Cond.selects RX5 yX5_setNumber yX5_setNumber : Cond) ∈ WL := WL_of 9 (by decide +kernel) rfl
theorem wl_10 : (Cond.selects RX5 yX5_setDry yX5_setDry : Cond) ∈ WL := WL_of 10 (by decide +kernel) rfl
theorem wl_11 : (Cond.selects RX5 yX5_toldOfHold yX5_toldOfHold : Cond) ∈ WL := WL_of 11 (by decide +kernel) rfl
theorem wl_12 : (Cond.selects RX5 yX5_toldOfThing yX5_toldOfThing : Cond) ∈ WL := WL_of 12 (by decide +kernel) rfl
theorem wl_13 : (Cond.selects RX5 yX5_costs yX5_costs : Cond) ∈ WL := WL_of 13 (by decide +kernel) rfl
theorem wl_14 : (Cond.selects RX5 yX5_name yX5_name : Cond) ∈ WL := WL_of 14 (by decide +kernel) rfl
theorem wl_15 : (Cond.selects RX5 yX5_bell yX5_bell : Cond) ∈ WL := WL_of 15 (by decide +kernel) rfl
theorem wl_16 : (Cond.selects RX5 yX5_worth yX5_worth : Cond) ∈ WL := WL_of 16 (by decide +kernel) rfl
theorem wl_17 : (Cond.selects RX5 yX5_fewest yX5_fewest : Cond) ∈ WL := WL_of 17 (by decide +kernel) rfl
theorem wl_18 : (Cond.selects RX5 yX5_think yX5_think : Cond) ∈ WL := WL_of 18 (by decide +kernel) rfl
theorem wl_19 : (Cond.selects RX1 yX1_lay yX1_lay : Cond) ∈ WL := WL_of 19 (by decide +kernel) rfl
theorem wl_20 : (Cond.selects RX1 yX1_split yX1_split : Cond) ∈ WL := WL_of 20 (by decide +kernel) rfl
theorem wl_21 : (Cond.selects RX1 yX1_clearTurns yX1_clearTurns : Cond) ∈ WL := WL_of 21 (by decide +kernel) rfl
theorem wl_22 : (Cond.selects RX1 yX1_enterTurn yX1_enterTurn : Cond) ∈ WL := WL_of 22 (by decide +kernel) rfl
theorem wl_23 : (Cond.selects RX1 yX1_spread yX1_spread : Cond) ∈ WL := WL_of 23 (by decide +kernel) rfl
theorem wl_24 : (Cond.selects RX1 yX1_leaveTurn yX1_leaveTurn : Cond) ∈ WL := WL_of 24 (by decide +kernel) rfl
theorem wl_25 : (Cond.selects RX1 yX1_spreadOnce yX1_spreadOnce : Cond) ∈ WL := WL_of 25 (by decide +kernel) rfl
theorem wl_26 : (Cond.selects RX1 yX1_lookAround yX1_lookAround : Cond) ∈ WL := WL_of 26 (by decide +kernel) rfl
theorem wl_27 : (Cond.selects RX5 yX5_countCosts yX5_countCosts : Cond) ∈ WL := WL_of 27 (by decide +kernel) rfl
theorem wl_28 : (Cond.selects RX5 yX5_leastIf yX5_leastIf : Cond) ∈ WL := WL_of 28 (by decide +kernel) rfl
theorem wl_29 : (Cond.selects RX1 yX1_floodOnce yX1_floodOnce : Cond) ∈ WL := WL_of 29 (by decide +kernel) rfl
theorem wl_30 : (Cond.selects RX5 yX5_canBe yX5_canBe : Cond) ∈ WL := WL_of 30 (by decide +kernel) rfl
theorem wl_31 : (Cond.selects RX1 yX1_step yX1_step : Cond) ∈ WL := WL_of 31 (by decide +kernel) rfl
theorem wl_32 : (Cond.selects RX1 yX1_stepOnce yX1_stepOnce : Cond) ∈ WL := WL_of 32 (by decide +kernel) rfl
theorem wl_33 : (Cond.selects RX5 yX5_openBehind yX5_openBehind : Cond) ∈ WL := WL_of 33 (by decide +kernel) rfl
theorem wl_34 : (Cond.selects RX5 yX5_drawOnce yX5_drawOnce : Cond) ∈ WL := WL_of 34 (by decide +kernel) rfl
theorem wl_36 : (Cond.selects RX6 yX6_isHold yX6_isHold : Cond) ∈ WL := WL_of 36 (by decide +kernel) rfl
theorem wl_37 : (Cond.selects RX6 yX6_inside yX6_inside : Cond) ∈ WL := WL_of 37 (by decide +kernel) rfl
theorem wl_38 : (Cond.selects RX6 yX6_bars yX6_bars : Cond) ∈ WL := WL_of 38 (by decide +kernel) rfl
theorem wl_39 : (Cond.selects RX6 yX6_sizeOf yX6_sizeOf : Cond) ∈ WL := WL_of 39 (by decide +kernel) rfl
theorem wl_40 : (Cond.selects RX6 yX6_roomOf yX6_roomOf : Cond) ∈ WL := WL_of 40 (by decide +kernel) rfl
theorem wl_41 : (Cond.selects RX6 yX6_mostOf yX6_mostOf : Cond) ∈ WL := WL_of 41 (by decide +kernel) rfl
theorem wl_42 : (Cond.selects RX6 yX6_wetOf yX6_wetOf : Cond) ∈ WL := WL_of 42 (by decide +kernel) rfl
theorem wl_43 : (Cond.selects RX6 yX6_isThing yX6_isThing : Cond) ∈ WL := WL_of 43 (by decide +kernel) rfl
theorem wl_44 : (Cond.selects RX6 yX6_opensOf yX6_opensOf : Cond) ∈ WL := WL_of 44 (by decide +kernel) rfl
theorem wl_45 : (Cond.selects RX6 yX6_read yX6_read : Cond) ∈ WL := WL_of 45 (by decide +kernel) rfl
theorem wl_46 : (Cond.selects RX6 yX6_next yX6_next : Cond) ∈ WL := WL_of 46 (by decide +kernel) rfl
theorem wl_47 : (Cond.selects RX6 yX6_byteAt yX6_byteAt : Cond) ∈ WL := WL_of 47 (by decide +kernel) rfl
theorem wl_48 : (Cond.selects RX6 yX6_isWord yX6_isWord : Cond) ∈ WL := WL_of 48 (by decide +kernel) rfl
theorem wl_49 : (Cond.selects RX6 yX6_isLetter yX6_isLetter : Cond) ∈ WL := WL_of 49 (by decide +kernel) rfl
theorem wl_50 : (Cond.selects RX6 yX6_part_ yX6_part_ : Cond) ∈ WL := WL_of 50 (by decide +kernel) rfl
theorem wl_51 : (Cond.selects RX6 yX6_fail yX6_fail : Cond) ∈ WL := WL_of 51 (by decide +kernel) rfl
theorem wl_52 : (Cond.selects RX6 yX6_either0 yX6_either0 : Cond) ∈ WL := WL_of 52 (by decide +kernel) rfl
theorem wl_53 : (Cond.selects RX6 yX6_both0 yX6_both0 : Cond) ∈ WL := WL_of 53 (by decide +kernel) rfl
theorem wl_54 : (Cond.selects RX6 yX6_not0 yX6_not0 : Cond) ∈ WL := WL_of 54 (by decide +kernel) rfl
theorem wl_55 : (Cond.selects RX6 yX6_opens yX6_opens : Cond) ∈ WL := WL_of 55 (by decide +kernel) rfl
theorem wl_56 : (Cond.selects RX6 yX6_not1 yX6_not1 : Cond) ∈ WL := WL_of 56 (by decide +kernel) rfl
theorem wl_57 : (Cond.selects RX6 yX6_not2 yX6_not2 : Cond) ∈ WL := WL_of 57 (by decide +kernel) rfl
theorem wl_58 : (Cond.selects RX6 yX6_not3 yX6_not3 : Cond) ∈ WL := WL_of 58 (by decide +kernel) rfl
theorem wl_59 : (Cond.selects RX6 yX6_not4 yX6_not4 : Cond) ∈ WL := WL_of 59 (by decide +kernel) rfl
theorem wl_60 : (Cond.selects RX6 yX6_not5 yX6_not5 : Cond) ∈ WL := WL_of 60 (by decide +kernel) rfl
theorem wl_61 : (Cond.selects RX6 yX6_added5 yX6_added5 : Cond) ∈ WL := WL_of 61 (by decide +kernel) rfl
theorem wl_62 : (Cond.selects RX6 yX6_term5 yX6_term5 : Cond) ∈ WL := WL_of 62 (by decide +kernel) rfl
theorem wl_63 : (Cond.selects RX6 yX6_atom5 yX6_atom5 : Cond) ∈ WL := WL_of 63 (by decide +kernel) rfl
theorem wl_64 : (Cond.selects RX6 yX6_isSign yX6_isSign : Cond) ∈ WL := WL_of 64 (by decide +kernel) rfl
theorem wl_65 : (Cond.selects RX6 yX6_name yX6_name : Cond) ∈ WL := WL_of 65 (by decide +kernel) rfl
theorem wl_66 : (Cond.selects RX6 yX6_added4 yX6_added4 : Cond) ∈ WL := WL_of 66 (by decide +kernel) rfl
theorem wl_67 : (Cond.selects RX6 yX6_term4 yX6_term4 : Cond) ∈ WL := WL_of 67 (by decide +kernel) rfl
theorem wl_68 : (Cond.selects RX6 yX6_atom4 yX6_atom4 : Cond) ∈ WL := WL_of 68 (by decide +kernel) rfl
theorem wl_69 : (Cond.selects RX6 yX6_either5 yX6_either5 : Cond) ∈ WL := WL_of 69 (by decide +kernel) rfl
theorem wl_70 : (Cond.selects RX6 yX6_both5 yX6_both5 : Cond) ∈ WL := WL_of 70 (by decide +kernel) rfl
theorem wl_71 : (Cond.selects RX6 yX6_added3 yX6_added3 : Cond) ∈ WL := WL_of 71 (by decide +kernel) rfl
theorem wl_72 : (Cond.selects RX6 yX6_term3 yX6_term3 : Cond) ∈ WL := WL_of 72 (by decide +kernel) rfl
theorem wl_73 : (Cond.selects RX6 yX6_atom3 yX6_atom3 : Cond) ∈ WL := WL_of 73 (by decide +kernel) rfl
theorem wl_74 : (Cond.selects RX6 yX6_either4 yX6_either4 : Cond) ∈ WL := WL_of 74 (by decide +kernel) rfl
theorem wl_75 : (Cond.selects RX6 yX6_both4 yX6_both4 : Cond) ∈ WL := WL_of 75 (by decide +kernel) rfl
theorem wl_76 : (Cond.selects RX6 yX6_added2 yX6_added2 : Cond) ∈ WL := WL_of 76 (by decide +kernel) rfl
theorem wl_77 : (Cond.selects RX6 yX6_term2 yX6_term2 : Cond) ∈ WL := WL_of 77 (by decide +kernel) rfl
theorem wl_78 : (Cond.selects RX6 yX6_atom2 yX6_atom2 : Cond) ∈ WL := WL_of 78 (by decide +kernel) rfl
theorem wl_79 : (Cond.selects RX6 yX6_either3 yX6_either3 : Cond) ∈ WL := WL_of 79 (by decide +kernel) rfl
theorem wl_80 : (Cond.selects RX6 yX6_both3 yX6_both3 : Cond) ∈ WL := WL_of 80 (by decide +kernel) rfl
theorem wl_81 : (Cond.selects RX6 yX6_added1 yX6_added1 : Cond) ∈ WL := WL_of 81 (by decide +kernel) rfl
theorem wl_82 : (Cond.selects RX6 yX6_term1 yX6_term1 : Cond) ∈ WL := WL_of 82 (by decide +kernel) rfl
theorem wl_83 : (Cond.selects RX6 yX6_atom1 yX6_atom1 : Cond) ∈ WL := WL_of 83 (by decide +kernel) rfl
theorem wl_84 : (Cond.selects RX6 yX6_either2 yX6_either2 : Cond) ∈ WL := WL_of 84 (by decide +kernel) rfl
theorem wl_85 : (Cond.selects RX6 yX6_both2 yX6_both2 : Cond) ∈ WL := WL_of 85 (by decide +kernel) rfl
theorem wl_86 : (Cond.selects RX6 yX6_added0 yX6_added0 : Cond) ∈ WL := WL_of 86 (by decide +kernel) rfl
theorem wl_87 : (Cond.selects RX6 yX6_term0 yX6_term0 : Cond) ∈ WL := WL_of 87 (by decide +kernel) rfl
theorem wl_88 : (Cond.selects RX6 yX6_atom0 yX6_atom0 : Cond) ∈ WL := WL_of 88 (by decide +kernel) rfl
theorem wl_89 : (Cond.selects RX6 yX6_either1 yX6_either1 : Cond) ∈ WL := WL_of 89 (by decide +kernel) rfl
theorem wl_90 : (Cond.selects RX6 yX6_both1 yX6_both1 : Cond) ∈ WL := WL_of 90 (by decide +kernel) rfl
theorem wl_91 : (Cond.selects RX6 yX6_says yX6_says : Cond) ∈ WL := WL_of 91 (by decide +kernel) rfl
theorem wl_92 : (Cond.selects RX6 yX6_canGo yX6_canGo : Cond) ∈ WL := WL_of 92 (by decide +kernel) rfl
theorem wl_93 : (Cond.selects RX6 yX6_barsThing yX6_barsThing : Cond) ∈ WL := WL_of 93 (by decide +kernel) rfl
theorem wl_94 : (Cond.selects RX6 yX6_isOpen yX6_isOpen : Cond) ∈ WL := WL_of 94 (by decide +kernel) rfl
theorem wl_95 : (Cond.selects RX6 yX6_gathers yX6_gathers : Cond) ∈ WL := WL_of 95 (by decide +kernel) rfl
theorem wl_96 : (Cond.selects RX6 yX6_codeNow yX6_codeNow : Cond) ∈ WL := WL_of 96 (by decide +kernel) rfl
theorem wl_97 : (Cond.selects RX6 yX6_lays yX6_lays : Cond) ∈ WL := WL_of 97 (by decide +kernel) rfl
theorem wl_98 : (Cond.selects RX6 yX6_areWell yX6_areWell : Cond) ∈ WL := WL_of 98 (by decide +kernel) rfl
theorem wl_99 : (Cond.selects RX6 yX6_eases yX6_eases : Cond) ∈ WL := WL_of 99 (by decide +kernel) rfl
theorem wl_100 : (Cond.selects RX6 yX6_after yX6_after : Cond) ∈ WL := WL_of 100 (by decide +kernel) rfl
theorem wl_101 : (Cond.selects RX6 yX6_moveBy yX6_moveBy : Cond) ∈ WL := WL_of 101 (by decide +kernel) rfl
theorem wl_102 : (Cond.selects RX6 yX6_reaches yX6_reaches : Cond) ∈ WL := WL_of 102 (by decide +kernel) rfl
theorem wl_103 : (Cond.selects RX6 yX6_goesBy yX6_goesBy : Cond) ∈ WL := WL_of 103 (by decide +kernel) rfl
theorem wl_104 : (Cond.selects RX6 yX6_codeOf yX6_codeOf : Cond) ∈ WL := WL_of 104 (by decide +kernel) rfl
theorem wl_105 : (Cond.selects RX6 yX6_begins yX6_begins : Cond) ∈ WL := WL_of 105 (by decide +kernel) rfl
theorem wl_106 : (Cond.selects RX6 yX6_steps yX6_steps : Cond) ∈ WL := WL_of 106 (by decide +kernel) rfl
theorem wl_107 : (Cond.selects RX6 yX6_draws yX6_draws : Cond) ∈ WL := WL_of 107 (by decide +kernel) rfl
theorem wl_109 : (Cond.initialized RX5 : Cond) ∈ WL := WL_of 109 (by decide +kernel) rfl
theorem wl_110 : (Cond.initialized RX0 : Cond) ∈ WL := WL_of 110 (by decide +kernel) rfl
theorem wl_111 : (Cond.initialized RX1 : Cond) ∈ WL := WL_of 111 (by decide +kernel) rfl
theorem wl_112 : (Cond.initialized RX3 : Cond) ∈ WL := WL_of 112 (by decide +kernel) rfl
theorem wl_113 : (Cond.initialized RX4 : Cond) ∈ WL := WL_of 113 (by decide +kernel) rfl
theorem wl_114 : (Cond.initialized RX2 : Cond) ∈ WL := WL_of 114 (by decide +kernel) rfl
theorem wl_115 : (Cond.initialized RJ0 : Cond) ∈ WL := WL_of 115 (by decide +kernel) rfl
theorem wl_116 : (Cond.initialized RJ1 : Cond) ∈ WL := WL_of 116 (by decide +kernel) rfl
theorem wl_117 : (Cond.initialized RJ3 : Cond) ∈ WL := WL_of 117 (by decide +kernel) rfl
theorem wl_119 : (Cond.initialized "java/lang/Math" : Cond) ∈ WL := WL_of 119 (by decide +kernel) rfl
theorem wl_121 : (Cond.initialized RX6 : Cond) ∈ WL := WL_of 121 (by decide +kernel) rfl
theorem wl_122 : (Cond.initialized "java/lang/System" : Cond) ∈ WL := WL_of 122 (by decide +kernel) rfl
theorem wl_137 : (Cond.fieldLink RX0 9 "BothHandsFull$Lot" "kind" "[I" : Cond) ∈ WL := WL_of 137 (by decide +kernel) rfl
theorem wl_138 : (Cond.fieldLink RX5 88 "BothHandsFull$Lot" "kind" "[I" : Cond) ∈ WL := WL_of 138 (by decide +kernel) rfl
theorem wl_139 : (Cond.fieldLink RX0 15 "BothHandsFull$Lot" "number" "[I" : Cond) ∈ WL := WL_of 139 (by decide +kernel) rfl
theorem wl_140 : (Cond.fieldLink RX5 140 "BothHandsFull$Lot" "number" "[I" : Cond) ∈ WL := WL_of 140 (by decide +kernel) rfl
theorem wl_141 : (Cond.fieldLink RX0 18 "BothHandsFull$Lot" "room" "[I" : Cond) ∈ WL := WL_of 141 (by decide +kernel) rfl
theorem wl_142 : (Cond.fieldLink RX5 159 "BothHandsFull$Lot" "room" "[I" : Cond) ∈ WL := WL_of 142 (by decide +kernel) rfl
theorem wl_143 : (Cond.fieldLink RX0 21 "BothHandsFull$Lot" "size" "[I" : Cond) ∈ WL := WL_of 143 (by decide +kernel) rfl
theorem wl_144 : (Cond.fieldLink RX5 102 "BothHandsFull$Lot" "size" "[I" : Cond) ∈ WL := WL_of 144 (by decide +kernel) rfl
theorem wl_145 : (Cond.fieldLink RX0 24 "BothHandsFull$Lot" "dry" "[I" : Cond) ∈ WL := WL_of 145 (by decide +kernel) rfl
theorem wl_146 : (Cond.fieldLink RX5 105 "BothHandsFull$Lot" "dry" "[I" : Cond) ∈ WL := WL_of 146 (by decide +kernel) rfl
theorem wl_147 : (Cond.fieldLink RX0 27 "BothHandsFull$Lot" "apart" "[I" : Cond) ∈ WL := WL_of 147 (by decide +kernel) rfl
theorem wl_148 : (Cond.fieldLink RX5 108 "BothHandsFull$Lot" "apart" "[I" : Cond) ∈ WL := WL_of 148 (by decide +kernel) rfl
theorem wl_149 : (Cond.fieldLink RX0 30 "BothHandsFull$Lot" "lies" "[I" : Cond) ∈ WL := WL_of 149 (by decide +kernel) rfl
theorem wl_150 : (Cond.fieldLink RX1 64 "BothHandsFull$Lot" "lies" "[I" : Cond) ∈ WL := WL_of 150 (by decide +kernel) rfl
theorem wl_151 : (Cond.fieldLink RX5 111 "BothHandsFull$Lot" "lies" "[I" : Cond) ∈ WL := WL_of 151 (by decide +kernel) rfl
theorem wl_152 : (Cond.fieldLink RX5 85 "BothHandsFull$Lot" "holds" "I" : Cond) ∈ WL := WL_of 152 (by decide +kernel) rfl
theorem wl_153 : (Cond.fieldLink RX1 58 "BothHandsFull$Lot" "holds" "I" : Cond) ∈ WL := WL_of 153 (by decide +kernel) rfl
theorem wl_154 : (Cond.fieldLink RX0 49 "BothHandsFull$Lot" "holds" "I" : Cond) ∈ WL := WL_of 154 (by decide +kernel) rfl
theorem wl_155 : (Cond.fieldLink RX1 53 "BothHandsFull$Lot" "things" "I" : Cond) ∈ WL := WL_of 155 (by decide +kernel) rfl
theorem wl_156 : (Cond.fieldLink RX0 52 "BothHandsFull$Lot" "things" "I" : Cond) ∈ WL := WL_of 156 (by decide +kernel) rfl
theorem wl_157 : (Cond.fieldLink RX5 99 "BothHandsFull$Lot" "things" "I" : Cond) ∈ WL := WL_of 157 (by decide +kernel) rfl
theorem wl_158 : (Cond.fieldLink RX0 33 "BothHandsFull$Lot" "key" "I" : Cond) ∈ WL := WL_of 158 (by decide +kernel) rfl
theorem wl_159 : (Cond.fieldLink RX5 137 "BothHandsFull$Lot" "key" "I" : Cond) ∈ WL := WL_of 159 (by decide +kernel) rfl
theorem wl_160 : (Cond.fieldLink RX0 37 "BothHandsFull$Lot" "free" "I" : Cond) ∈ WL := WL_of 160 (by decide +kernel) rfl
theorem wl_161 : (Cond.fieldLink RX5 131 "BothHandsFull$Lot" "free" "I" : Cond) ∈ WL := WL_of 161 (by decide +kernel) rfl
theorem wl_162 : (Cond.fieldLink RX0 55 "BothHandsFull$Lot" "rule" "I" : Cond) ∈ WL := WL_of 162 (by decide +kernel) rfl
theorem wl_163 : (Cond.fieldLink RX5 173 "BothHandsFull$Lot" "rule" "I" : Cond) ∈ WL := WL_of 163 (by decide +kernel) rfl
theorem wl_164 : (Cond.fieldLink RX0 40 "BothHandsFull$Lot" "gone" "I" : Cond) ∈ WL := WL_of 164 (by decide +kernel) rfl
theorem wl_165 : (Cond.fieldLink RX1 61 "BothHandsFull$Lot" "gone" "I" : Cond) ∈ WL := WL_of 165 (by decide +kernel) rfl
theorem wl_166 : (Cond.fieldLink RX5 248 "BothHandsFull$Lot" "gone" "I" : Cond) ∈ WL := WL_of 166 (by decide +kernel) rfl
theorem wl_201 : (Cond.fieldLink RX1 11 "BothHandsFull$Search" "mark" "[I" : Cond) ∈ WL := WL_of 201 (by decide +kernel) rfl
theorem wl_202 : (Cond.fieldLink RX1 15 "BothHandsFull$Search" "far" "[I" : Cond) ∈ WL := WL_of 202 (by decide +kernel) rfl
theorem wl_203 : (Cond.fieldLink RX1 18 "BothHandsFull$Search" "next" "[I" : Cond) ∈ WL := WL_of 203 (by decide +kernel) rfl
theorem wl_204 : (Cond.fieldLink RX1 21 "BothHandsFull$Search" "before" "[I" : Cond) ∈ WL := WL_of 204 (by decide +kernel) rfl
theorem wl_205 : (Cond.fieldLink RX1 24 "BothHandsFull$Search" "heads" "[I" : Cond) ∈ WL := WL_of 205 (by decide +kernel) rfl
theorem wl_206 : (Cond.fieldLink RX1 27 "BothHandsFull$Search" "prices" "[I" : Cond) ∈ WL := WL_of 206 (by decide +kernel) rfl
theorem wl_207 : (Cond.fieldLink RX1 30 "BothHandsFull$Search" "power" "[I" : Cond) ∈ WL := WL_of 207 (by decide +kernel) rfl
theorem wl_208 : (Cond.fieldLink RX1 33 "BothHandsFull$Search" "at" "[I" : Cond) ∈ WL := WL_of 208 (by decide +kernel) rfl
theorem wl_209 : (Cond.fieldLink RX1 36 "BothHandsFull$Search" "near" "[I" : Cond) ∈ WL := WL_of 209 (by decide +kernel) rfl
theorem wl_210 : (Cond.fieldLink RX1 39 "BothHandsFull$Search" "backBy" "[I" : Cond) ∈ WL := WL_of 210 (by decide +kernel) rfl
theorem wl_211 : (Cond.fieldLink RX1 42 "BothHandsFull$Search" "lot" "LBothHandsFull$Lot;" : Cond) ∈ WL := WL_of 211 (by decide +kernel) rfl
theorem wl_212 : (Cond.fieldLink RX1 46 "BothHandsFull$Search" "states" "I" : Cond) ∈ WL := WL_of 212 (by decide +kernel) rfl
theorem wl_213 : (Cond.fieldLink RX1 50 "BothHandsFull$Search" "home" "I" : Cond) ∈ WL := WL_of 213 (by decide +kernel) rfl
theorem wl_214 : (Cond.fieldLink RX1 101 "BothHandsFull$Search" "waiting" "I" : Cond) ∈ WL := WL_of 214 (by decide +kernel) rfl
theorem wl_250 : (Cond.fieldLink RX3 9 "BothHandsFull$Tape" "bytes" "[I" : Cond) ∈ WL := WL_of 250 (by decide +kernel) rfl
theorem wl_251 : (Cond.fieldLink RX3 15 "BothHandsFull$Tape" "size" "I" : Cond) ∈ WL := WL_of 251 (by decide +kernel) rfl
theorem wl_252 : (Cond.fieldLink RX5 171 "BothHandsFull$Tape" "size" "I" : Cond) ∈ WL := WL_of 252 (by decide +kernel) rfl
theorem wl_253 : (Cond.fieldLink RX3 28 "BothHandsFull$Tape" "at" "I" : Cond) ∈ WL := WL_of 253 (by decide +kernel) rfl
theorem wl_254 : (Cond.fieldLink RX3 34 "BothHandsFull$Tape" "token" "I" : Cond) ∈ WL := WL_of 254 (by decide +kernel) rfl
theorem wl_255 : (Cond.fieldLink RX3 37 "BothHandsFull$Tape" "place" "I" : Cond) ∈ WL := WL_of 255 (by decide +kernel) rfl
theorem wl_256 : (Cond.fieldLink RX3 58 "BothHandsFull$Tape" "value" "I" : Cond) ∈ WL := WL_of 256 (by decide +kernel) rfl
theorem wl_257 : (Cond.fieldLink RX3 19 "BothHandsFull$Tape" "into" "LBothHandsFull$Text;" : Cond) ∈ WL := WL_of 257 (by decide +kernel) rfl
theorem wl_282 : (Cond.fieldLink RX4 9 "BothHandsFull$Text" "code" "[I" : Cond) ∈ WL := WL_of 282 (by decide +kernel) rfl
theorem wl_283 : (Cond.fieldLink RX4 15 "BothHandsFull$Text" "begins" "[I" : Cond) ∈ WL := WL_of 283 (by decide +kernel) rfl
theorem wl_284 : (Cond.fieldLink RX4 18 "BothHandsFull$Text" "stack" "[I" : Cond) ∈ WL := WL_of 284 (by decide +kernel) rfl
theorem wl_285 : (Cond.fieldLink RX4 21 "BothHandsFull$Text" "size" "I" : Cond) ∈ WL := WL_of 285 (by decide +kernel) rfl
theorem wl_300 : (Cond.fieldLink RX2 9 "BothHandsFull$Sheet" "cells" "[I" : Cond) ∈ WL := WL_of 300 (by decide +kernel) rfl
theorem wl_301 : (Cond.fieldLink RX5 258 "BothHandsFull$Sheet" "cells" "[I" : Cond) ∈ WL := WL_of 301 (by decide +kernel) rfl
theorem wl_302 : (Cond.fieldLink RX2 15 "BothHandsFull$Sheet" "sort" "I" : Cond) ∈ WL := WL_of 302 (by decide +kernel) rfl
theorem wl_303 : (Cond.fieldLink RX5 296 "BothHandsFull$Sheet" "sort" "I" : Cond) ∈ WL := WL_of 303 (by decide +kernel) rfl
theorem wl_304 : (Cond.fieldLink RX2 19 "BothHandsFull$Sheet" "size" "I" : Cond) ∈ WL := WL_of 304 (by decide +kernel) rfl
theorem wl_305 : (Cond.fieldLink RX5 257 "BothHandsFull$Sheet" "size" "I" : Cond) ∈ WL := WL_of 305 (by decide +kernel) rfl
theorem wl_315 : (Cond.instanceMethod yJ0_length_8abf5 : Cond) ∈ WL := WL_of 315 (by decide +kernel) rfl
theorem wl_316 : (Cond.selects RJ0 yJ0_length_8abf5 yJ0_length_8abf5 : Cond) ∈ WL := WL_of 316 (by decide +kernel) rfl
theorem wl_317 : (Cond.code yJ0_length_8abf5 cJ0_length_8abf5 1 (some .int) : Cond) ∈ WL := WL_of 317 (by decide +kernel) rfl
theorem wl_318 : (Cond.methodLink RJ0 335 yJ0_coder_7d493 : Cond) ∈ WL := WL_of 318 (by decide +kernel) rfl
theorem wl_319 : (Cond.instanceMethod yJ0_coder_7d493 : Cond) ∈ WL := WL_of 319 (by decide +kernel) rfl
theorem wl_320 : (Cond.selects RJ0 yJ0_coder_7d493 yJ0_coder_7d493 : Cond) ∈ WL := WL_of 320 (by decide +kernel) rfl
theorem wl_321 : (Cond.code yJ0_coder_7d493 cJ0_coder_7d493 1 (some .byte) : Cond) ∈ WL := WL_of 321 (by decide +kernel) rfl
theorem wl_322 : (Cond.fieldLink RJ0 38 "java/lang/String" "COMPACT_STRINGS" "Z" : Cond) ∈ WL := WL_of 322 (by decide +kernel) rfl
theorem wl_325 : (Cond.instanceMethod yJ0_charAt_5068e : Cond) ∈ WL := WL_of 325 (by decide +kernel) rfl
theorem wl_326 : (Cond.selects RJ0 yJ0_charAt_5068e yJ0_charAt_5068e : Cond) ∈ WL := WL_of 326 (by decide +kernel) rfl
theorem wl_327 : (Cond.code yJ0_charAt_5068e cJ0_charAt_5068e 2 (some .char) : Cond) ∈ WL := WL_of 327 (by decide +kernel) rfl
theorem wl_328 : (Cond.methodLink RJ0 492 yJ0_isLatin1_aae02 : Cond) ∈ WL := WL_of 328 (by decide +kernel) rfl
theorem wl_329 : (Cond.instanceMethod yJ0_isLatin1_aae02 : Cond) ∈ WL := WL_of 329 (by decide +kernel) rfl
theorem wl_330 : (Cond.selects RJ0 yJ0_isLatin1_aae02 yJ0_isLatin1_aae02 : Cond) ∈ WL := WL_of 330 (by decide +kernel) rfl
theorem wl_331 : (Cond.code yJ0_isLatin1_aae02 cJ0_isLatin1_aae02 1 (some .boolean) : Cond) ∈ WL := WL_of 331 (by decide +kernel) rfl
theorem wl_332 : (Cond.methodLink RJ0 495 yJ1_charAt_3b067 : Cond) ∈ WL := WL_of 332 (by decide +kernel) rfl
theorem wl_333 : (Cond.static yJ1_charAt_3b067 : Cond) ∈ WL := WL_of 333 (by decide +kernel) rfl
theorem wl_334 : (Cond.code yJ1_charAt_3b067 cJ1_charAt_3b067 2 (some .char) : Cond) ∈ WL := WL_of 334 (by decide +kernel) rfl
theorem wl_335 : (Cond.methodLink RJ1 9 yJ0_checkIndex_df160 : Cond) ∈ WL := WL_of 335 (by decide +kernel) rfl
theorem wl_336 : (Cond.static yJ0_checkIndex_df160 : Cond) ∈ WL := WL_of 336 (by decide +kernel) rfl
theorem wl_337 : (Cond.code yJ0_checkIndex_df160 cJ0_checkIndex_df160 2 none : Cond) ∈ WL := WL_of 337 (by decide +kernel) rfl
theorem wl_338 : (Cond.fieldLink RJ0 1053 "jdk/internal/util/Preconditions" "SIOOBE_FORMATTER" "Ljava/util/function/BiFunction;" : Cond) ∈ WL := WL_of 338 (by decide +kernel) rfl
theorem wl_340 : (Cond.methodLink RJ0 1059 yJ3_checkIndex_8e157 : Cond) ∈ WL := WL_of 340 (by decide +kernel) rfl
theorem wl_341 : (Cond.static yJ3_checkIndex_8e157 : Cond) ∈ WL := WL_of 341 (by decide +kernel) rfl
theorem wl_342 : (Cond.code yJ3_checkIndex_8e157 cJ3_checkIndex_8e157 3 (some .int) : Cond) ∈ WL := WL_of 342 (by decide +kernel) rfl
theorem wl_362 : (Cond.methodLink RX5 66 yX3_add : Cond) ∈ WL := WL_of 362 (by decide +kernel) rfl
theorem wl_363 : (Cond.instanceMethod yX3_add : Cond) ∈ WL := WL_of 363 (by decide +kernel) rfl
theorem wl_364 : (Cond.selects RX3 yX3_add yX3_add : Cond) ∈ WL := WL_of 364 (by decide +kernel) rfl
theorem wl_365 : (Cond.code yX3_add cX3_add 2 none : Cond) ∈ WL := WL_of 365 (by decide +kernel) rfl
theorem wl_366 : (Cond.methodLink RX5 70 yX3_read : Cond) ∈ WL := WL_of 366 (by decide +kernel) rfl
theorem wl_367 : (Cond.instanceMethod yX3_read : Cond) ∈ WL := WL_of 367 (by decide +kernel) rfl
theorem wl_368 : (Cond.selects RX3 yX3_read yX3_read : Cond) ∈ WL := WL_of 368 (by decide +kernel) rfl
theorem wl_369 : (Cond.code yX3_read cX3_read 3 (some .int) : Cond) ∈ WL := WL_of 369 (by decide +kernel) rfl
theorem wl_370 : (Cond.methodLink RX3 23 yX4_clear : Cond) ∈ WL := WL_of 370 (by decide +kernel) rfl
theorem wl_371 : (Cond.instanceMethod yX4_clear : Cond) ∈ WL := WL_of 371 (by decide +kernel) rfl
theorem wl_372 : (Cond.selects RX4 yX4_clear yX4_clear : Cond) ∈ WL := WL_of 372 (by decide +kernel) rfl
theorem wl_373 : (Cond.code yX4_clear cX4_clear 1 none : Cond) ∈ WL := WL_of 373 (by decide +kernel) rfl
theorem wl_374 : (Cond.methodLink RX3 31 yX3_advance : Cond) ∈ WL := WL_of 374 (by decide +kernel) rfl
theorem wl_376 : (Cond.instanceMethod yX3_advance : Cond) ∈ WL := WL_of 376 (by decide +kernel) rfl
theorem wl_377 : (Cond.code yX3_advance cX3_advance 1 none : Cond) ∈ WL := WL_of 377 (by decide +kernel) rfl
theorem wl_378 : (Cond.methodLink RX3 61 yX3_isLetter : Cond) ∈ WL := WL_of 378 (by decide +kernel) rfl
theorem wl_379 : (Cond.static yX3_isLetter : Cond) ∈ WL := WL_of 379 (by decide +kernel) rfl
theorem wl_380 : (Cond.code yX3_isLetter cX3_isLetter 1 (some .boolean) : Cond) ∈ WL := WL_of 380 (by decide +kernel) rfl
theorem wl_381 : (Cond.methodLink RX3 64 yX3_takeWord : Cond) ∈ WL := WL_of 381 (by decide +kernel) rfl
theorem wl_383 : (Cond.instanceMethod yX3_takeWord : Cond) ∈ WL := WL_of 383 (by decide +kernel) rfl
theorem wl_384 : (Cond.code yX3_takeWord cX3_takeWord 2 none : Cond) ∈ WL := WL_of 384 (by decide +kernel) rfl
theorem wl_385 : (Cond.methodLink RX3 81 yX3_isWord : Cond) ∈ WL := WL_of 385 (by decide +kernel) rfl
theorem wl_387 : (Cond.instanceMethod yX3_isWord : Cond) ∈ WL := WL_of 387 (by decide +kernel) rfl
theorem wl_388 : (Cond.code yX3_isWord cX3_isWord 4 (some .boolean) : Cond) ∈ WL := WL_of 388 (by decide +kernel) rfl
theorem wl_390 : (Cond.methodLink RX3 86 yJ0_charAt_5068e : Cond) ∈ WL := WL_of 390 (by decide +kernel) rfl
theorem wl_391 : (Cond.methodLink RX3 67 yX3_isDigit : Cond) ∈ WL := WL_of 391 (by decide +kernel) rfl
theorem wl_392 : (Cond.static yX3_isDigit : Cond) ∈ WL := WL_of 392 (by decide +kernel) rfl
theorem wl_393 : (Cond.code yX3_isDigit cX3_isDigit 1 (some .boolean) : Cond) ∈ WL := WL_of 393 (by decide +kernel) rfl
theorem wl_394 : (Cond.methodLink RX3 70 yX3_takeNumber : Cond) ∈ WL := WL_of 394 (by decide +kernel) rfl
theorem wl_396 : (Cond.instanceMethod yX3_takeNumber : Cond) ∈ WL := WL_of 396 (by decide +kernel) rfl
theorem wl_397 : (Cond.code yX3_takeNumber cX3_takeNumber 1 none : Cond) ∈ WL := WL_of 397 (by decide +kernel) rfl
theorem wl_399 : (Cond.methodLink RX3 75 yJ0_indexOf_0f7a4 : Cond) ∈ WL := WL_of 399 (by decide +kernel) rfl
theorem wl_400 : (Cond.instanceMethod yJ0_indexOf_0f7a4 : Cond) ∈ WL := WL_of 400 (by decide +kernel) rfl
theorem wl_401 : (Cond.selects RJ0 yJ0_indexOf_0f7a4 yJ0_indexOf_0f7a4 : Cond) ∈ WL := WL_of 401 (by decide +kernel) rfl
theorem wl_402 : (Cond.code yJ0_indexOf_0f7a4 cJ0_indexOf_0f7a4 2 (some .int) : Cond) ∈ WL := WL_of 402 (by decide +kernel) rfl
theorem wl_403 : (Cond.methodLink RJ0 633 yJ0_indexOf_7cf53 : Cond) ∈ WL := WL_of 403 (by decide +kernel) rfl
theorem wl_404 : (Cond.instanceMethod yJ0_indexOf_7cf53 : Cond) ∈ WL := WL_of 404 (by decide +kernel) rfl
theorem wl_405 : (Cond.selects RJ0 yJ0_indexOf_7cf53 yJ0_indexOf_7cf53 : Cond) ∈ WL := WL_of 405 (by decide +kernel) rfl
theorem wl_406 : (Cond.code yJ0_indexOf_7cf53 cJ0_indexOf_7cf53 3 (some .int) : Cond) ∈ WL := WL_of 406 (by decide +kernel) rfl
theorem wl_407 : (Cond.methodLink RJ0 505 yJ0_length_8abf5 : Cond) ∈ WL := WL_of 407 (by decide +kernel) rfl
theorem wl_408 : (Cond.methodLink RJ0 637 yJ1_indexOf_4cfef : Cond) ∈ WL := WL_of 408 (by decide +kernel) rfl
theorem wl_409 : (Cond.static yJ1_indexOf_4cfef : Cond) ∈ WL := WL_of 409 (by decide +kernel) rfl
theorem wl_410 : (Cond.code yJ1_indexOf_4cfef cJ1_indexOf_4cfef 4 (some .int) : Cond) ∈ WL := WL_of 410 (by decide +kernel) rfl
theorem wl_411 : (Cond.methodLink RJ1 88 yJ1_canEncode_9a6ad : Cond) ∈ WL := WL_of 411 (by decide +kernel) rfl
theorem wl_412 : (Cond.static yJ1_canEncode_9a6ad : Cond) ∈ WL := WL_of 412 (by decide +kernel) rfl
theorem wl_413 : (Cond.code yJ1_canEncode_9a6ad cJ1_canEncode_9a6ad 1 (some .boolean) : Cond) ∈ WL := WL_of 413 (by decide +kernel) rfl
theorem wl_414 : (Cond.methodLink RJ1 92 Lib.Math.max.name : Cond) ∈ WL := WL_of 414 (by decide +kernel) rfl
theorem wl_415 : (Cond.static Lib.Math.max.name : Cond) ∈ WL := WL_of 415 (by decide +kernel) rfl
theorem wl_416 : (Cond.code Lib.Math.max.name Lib.Math.max.code 2 (some .int) : Cond) ∈ WL := WL_of 416 (by decide +kernel) rfl
theorem wl_417 : (Cond.methodLink RJ1 38 Lib.Math.min.name : Cond) ∈ WL := WL_of 417 (by decide +kernel) rfl
theorem wl_418 : (Cond.static Lib.Math.min.name : Cond) ∈ WL := WL_of 418 (by decide +kernel) rfl
theorem wl_419 : (Cond.code Lib.Math.min.name Lib.Math.min.code 2 (some .int) : Cond) ∈ WL := WL_of 419 (by decide +kernel) rfl
theorem wl_420 : (Cond.methodLink RJ1 95 yJ1_indexOfChar_4cfef : Cond) ∈ WL := WL_of 420 (by decide +kernel) rfl
theorem wl_421 : (Cond.static yJ1_indexOfChar_4cfef : Cond) ∈ WL := WL_of 421 (by decide +kernel) rfl
theorem wl_422 : (Cond.code yJ1_indexOfChar_4cfef cJ1_indexOfChar_4cfef 6 (some .int) : Cond) ∈ WL := WL_of 422 (by decide +kernel) rfl
theorem wl_458 : (Cond.methodLink RX3 40 yX4_begin : Cond) ∈ WL := WL_of 458 (by decide +kernel) rfl
theorem wl_459 : (Cond.instanceMethod yX4_begin : Cond) ∈ WL := WL_of 459 (by decide +kernel) rfl
theorem wl_460 : (Cond.selects RX4 yX4_begin yX4_begin : Cond) ∈ WL := WL_of 460 (by decide +kernel) rfl
theorem wl_461 : (Cond.code yX4_begin cX4_begin 2 none : Cond) ∈ WL := WL_of 461 (by decide +kernel) rfl
theorem wl_462 : (Cond.methodLink RX3 44 yX3_joined : Cond) ∈ WL := WL_of 462 (by decide +kernel) rfl
theorem wl_464 : (Cond.instanceMethod yX3_joined : Cond) ∈ WL := WL_of 464 (by decide +kernel) rfl
theorem wl_465 : (Cond.code yX3_joined cX3_joined 6 (some .boolean) : Cond) ∈ WL := WL_of 465 (by decide +kernel) rfl
theorem wl_466 : (Cond.methodLink RX3 48 yX3_one : Cond) ∈ WL := WL_of 466 (by decide +kernel) rfl
theorem wl_468 : (Cond.instanceMethod yX3_one : Cond) ∈ WL := WL_of 468 (by decide +kernel) rfl
theorem wl_469 : (Cond.code yX3_one cX3_one 3 (some .boolean) : Cond) ∈ WL := WL_of 469 (by decide +kernel) rfl
theorem wl_470 : (Cond.methodLink RX3 52 yX4_add : Cond) ∈ WL := WL_of 470 (by decide +kernel) rfl
theorem wl_471 : (Cond.instanceMethod yX4_add : Cond) ∈ WL := WL_of 471 (by decide +kernel) rfl
theorem wl_472 : (Cond.selects RX4 yX4_add yX4_add : Cond) ∈ WL := WL_of 472 (by decide +kernel) rfl
theorem wl_473 : (Cond.code yX4_add cX4_add 2 none : Cond) ∈ WL := WL_of 473 (by decide +kernel) rfl
theorem wl_474 : (Cond.methodLink RX3 55 yX3_joins : Cond) ∈ WL := WL_of 474 (by decide +kernel) rfl
theorem wl_476 : (Cond.instanceMethod yX3_joins : Cond) ∈ WL := WL_of 476 (by decide +kernel) rfl
theorem wl_477 : (Cond.code yX3_joins cX3_joins 2 (some .boolean) : Cond) ∈ WL := WL_of 477 (by decide +kernel) rfl
theorem wl_478 : (Cond.methodLink RX5 74 yX3_clear : Cond) ∈ WL := WL_of 478 (by decide +kernel) rfl
theorem wl_479 : (Cond.instanceMethod yX3_clear : Cond) ∈ WL := WL_of 479 (by decide +kernel) rfl
theorem wl_480 : (Cond.selects RX3 yX3_clear yX3_clear : Cond) ∈ WL := WL_of 480 (by decide +kernel) rfl
theorem wl_481 : (Cond.code yX3_clear cX3_clear 1 none : Cond) ∈ WL := WL_of 481 (by decide +kernel) rfl
theorem wl_482 : (Cond.fieldLink RX5 10 "BothHandsFull" "now" "LBothHandsFull$Lot;" : Cond) ∈ WL := WL_of 482 (by decide +kernel) rfl
theorem wl_483 : (Cond.fieldLink RX5 16 "BothHandsFull" "kept" "LBothHandsFull$Lot;" : Cond) ∈ WL := WL_of 483 (by decide +kernel) rfl
theorem wl_484 : (Cond.fieldLink RX5 19 "BothHandsFull" "thought" "LBothHandsFull$Lot;" : Cond) ∈ WL := WL_of 484 (by decide +kernel) rfl
theorem wl_485 : (Cond.fieldLink RX5 25 "BothHandsFull" "search" "LBothHandsFull$Search;" : Cond) ∈ WL := WL_of 485 (by decide +kernel) rfl
theorem wl_486 : (Cond.fieldLink RX5 32 "BothHandsFull" "tape" "LBothHandsFull$Tape;" : Cond) ∈ WL := WL_of 486 (by decide +kernel) rfl
theorem wl_487 : (Cond.fieldLink RX5 38 "BothHandsFull" "texts" "[LBothHandsFull$Text;" : Cond) ∈ WL := WL_of 487 (by decide +kernel) rfl
theorem wl_488 : (Cond.fieldLink RX5 44 "BothHandsFull" "sheets" "[LBothHandsFull$Sheet;" : Cond) ∈ WL := WL_of 488 (by decide +kernel) rfl
theorem wl_489 : (Cond.fieldLink RX5 48 "BothHandsFull" "names" "[I" : Cond) ∈ WL := WL_of 489 (by decide +kernel) rfl
theorem wl_490 : (Cond.fieldLink RX5 77 "BothHandsFull" "textCount" "I" : Cond) ∈ WL := WL_of 490 (by decide +kernel) rfl
theorem wl_491 : (Cond.fieldLink RX5 287 "BothHandsFull" "hasImage" "Z" : Cond) ∈ WL := WL_of 491 (by decide +kernel) rfl
theorem wl_518 : (Cond.methodLink RX5 81 yX5_within : Cond) ∈ WL := WL_of 518 (by decide +kernel) rfl
theorem wl_519 : (Cond.static yX5_within : Cond) ∈ WL := WL_of 519 (by decide +kernel) rfl
theorem wl_520 : (Cond.code yX5_within cX5_within 2 (some .boolean) : Cond) ∈ WL := WL_of 520 (by decide +kernel) rfl
theorem wl_521 : (Cond.methodLink RX5 91 yX0_renumber : Cond) ∈ WL := WL_of 521 (by decide +kernel) rfl
theorem wl_522 : (Cond.instanceMethod yX0_renumber : Cond) ∈ WL := WL_of 522 (by decide +kernel) rfl
theorem wl_523 : (Cond.selects RX0 yX0_renumber yX0_renumber : Cond) ∈ WL := WL_of 523 (by decide +kernel) rfl
theorem wl_524 : (Cond.code yX0_renumber cX0_renumber 3 none : Cond) ∈ WL := WL_of 524 (by decide +kernel) rfl
theorem wl_526 : (Cond.static yX5_roomOf : Cond) ∈ WL := WL_of 526 (by decide +kernel) rfl
theorem wl_527 : (Cond.code yX5_roomOf cX5_roomOf 4 (some .int) : Cond) ∈ WL := WL_of 527 (by decide +kernel) rfl
theorem wl_529 : (Cond.instanceMethod yX5_thing : Cond) ∈ WL := WL_of 529 (by decide +kernel) rfl
theorem wl_530 : (Cond.selects RX5 yX5_thing yX5_thing : Cond) ∈ WL := WL_of 530 (by decide +kernel) rfl
theorem wl_531 : (Cond.code yX5_thing cX5_thing 6 (some .int) : Cond) ∈ WL := WL_of 531 (by decide +kernel) rfl
theorem wl_532 : (Cond.methodLink RX5 95 yX0_hasHold : Cond) ∈ WL := WL_of 532 (by decide +kernel) rfl
theorem wl_533 : (Cond.instanceMethod yX0_hasHold : Cond) ∈ WL := WL_of 533 (by decide +kernel) rfl
theorem wl_534 : (Cond.selects RX0 yX0_hasHold yX0_hasHold : Cond) ∈ WL := WL_of 534 (by decide +kernel) rfl
theorem wl_535 : (Cond.code yX0_hasHold cX0_hasHold 2 (some .boolean) : Cond) ∈ WL := WL_of 535 (by decide +kernel) rfl
theorem wl_537 : (Cond.methodLink RX5 114 yX0_refusal : Cond) ∈ WL := WL_of 537 (by decide +kernel) rfl
theorem wl_538 : (Cond.instanceMethod yX0_refusal : Cond) ∈ WL := WL_of 538 (by decide +kernel) rfl
theorem wl_539 : (Cond.selects RX0 yX0_refusal yX0_refusal : Cond) ∈ WL := WL_of 539 (by decide +kernel) rfl
theorem wl_540 : (Cond.code yX0_refusal cX0_refusal 7 (some .int) : Cond) ∈ WL := WL_of 540 (by decide +kernel) rfl
theorem wl_549 : (Cond.methodLink RX5 118 yX5_setFree : Cond) ∈ WL := WL_of 549 (by decide +kernel) rfl
theorem wl_551 : (Cond.instanceMethod yX5_setFree : Cond) ∈ WL := WL_of 551 (by decide +kernel) rfl
theorem wl_552 : (Cond.code yX5_setFree cX5_setFree 3 (some .int) : Cond) ∈ WL := WL_of 552 (by decide +kernel) rfl
theorem wl_553 : (Cond.methodLink RX5 122 yX5_setKey : Cond) ∈ WL := WL_of 553 (by decide +kernel) rfl
theorem wl_555 : (Cond.instanceMethod yX5_setKey : Cond) ∈ WL := WL_of 555 (by decide +kernel) rfl
theorem wl_556 : (Cond.code yX5_setKey cX5_setKey 3 (some .int) : Cond) ∈ WL := WL_of 556 (by decide +kernel) rfl
theorem wl_557 : (Cond.methodLink RX5 134 yX0_hasThing : Cond) ∈ WL := WL_of 557 (by decide +kernel) rfl
theorem wl_558 : (Cond.instanceMethod yX0_hasThing : Cond) ∈ WL := WL_of 558 (by decide +kernel) rfl
theorem wl_559 : (Cond.selects RX0 yX0_hasThing yX0_hasThing : Cond) ∈ WL := WL_of 559 (by decide +kernel) rfl
theorem wl_560 : (Cond.code yX0_hasThing cX0_hasThing 2 (some .boolean) : Cond) ∈ WL := WL_of 560 (by decide +kernel) rfl
theorem wl_561 : (Cond.methodLink RX5 125 yX5_setNumber : Cond) ∈ WL := WL_of 561 (by decide +kernel) rfl
theorem wl_563 : (Cond.instanceMethod yX5_setNumber : Cond) ∈ WL := WL_of 563 (by decide +kernel) rfl
theorem wl_564 : (Cond.code yX5_setNumber cX5_setNumber 4 (some .int) : Cond) ∈ WL := WL_of 564 (by decide +kernel) rfl
theorem wl_565 : (Cond.methodLink RX5 143 yX0_left : Cond) ∈ WL := WL_of 565 (by decide +kernel) rfl
theorem wl_566 : (Cond.instanceMethod yX0_left : Cond) ∈ WL := WL_of 566 (by decide +kernel) rfl
theorem wl_567 : (Cond.selects RX0 yX0_left yX0_left : Cond) ∈ WL := WL_of 567 (by decide +kernel) rfl
theorem wl_568 : (Cond.code yX0_left cX0_left 4 (some .int) : Cond) ∈ WL := WL_of 568 (by decide +kernel) rfl
theorem wl_569 : (Cond.methodLink RX5 128 yX5_setDry : Cond) ∈ WL := WL_of 569 (by decide +kernel) rfl
theorem wl_571 : (Cond.instanceMethod yX5_setDry : Cond) ∈ WL := WL_of 571 (by decide +kernel) rfl
theorem wl_572 : (Cond.code yX5_setDry cX5_setDry 4 (some .int) : Cond) ∈ WL := WL_of 572 (by decide +kernel) rfl
theorem wl_573 : (Cond.methodLink RX5 146 yX0_wet : Cond) ∈ WL := WL_of 573 (by decide +kernel) rfl
theorem wl_574 : (Cond.instanceMethod yX0_wet : Cond) ∈ WL := WL_of 574 (by decide +kernel) rfl
theorem wl_575 : (Cond.selects RX0 yX0_wet yX0_wet : Cond) ∈ WL := WL_of 575 (by decide +kernel) rfl
theorem wl_576 : (Cond.code yX0_wet cX0_wet 2 (some .int) : Cond) ∈ WL := WL_of 576 (by decide +kernel) rfl
theorem wl_581 : (Cond.methodLink RX5 149 yX5_withBit : Cond) ∈ WL := WL_of 581 (by decide +kernel) rfl
theorem wl_582 : (Cond.static yX5_withBit : Cond) ∈ WL := WL_of 582 (by decide +kernel) rfl
theorem wl_583 : (Cond.code yX5_withBit cX5_withBit 3 (some .int) : Cond) ∈ WL := WL_of 583 (by decide +kernel) rfl
theorem wl_588 : (Cond.methodLink RX5 153 yX5_toldOfHold : Cond) ∈ WL := WL_of 588 (by decide +kernel) rfl
theorem wl_590 : (Cond.instanceMethod yX5_toldOfHold : Cond) ∈ WL := WL_of 590 (by decide +kernel) rfl
theorem wl_591 : (Cond.code yX5_toldOfHold cX5_toldOfHold 3 (some .int) : Cond) ∈ WL := WL_of 591 (by decide +kernel) rfl
theorem wl_592 : (Cond.fieldLink RX5 162 "BothHandsFull" "MOST" "[I" : Cond) ∈ WL := WL_of 592 (by decide +kernel) rfl
theorem wl_593 : (Cond.fieldLink RX5 165 "BothHandsFull" "OPENS" "[I" : Cond) ∈ WL := WL_of 593 (by decide +kernel) rfl
theorem wl_595 : (Cond.methodLink RX5 168 yX0_lying : Cond) ∈ WL := WL_of 595 (by decide +kernel) rfl
theorem wl_596 : (Cond.instanceMethod yX0_lying : Cond) ∈ WL := WL_of 596 (by decide +kernel) rfl
theorem wl_597 : (Cond.selects RX0 yX0_lying yX0_lying : Cond) ∈ WL := WL_of 597 (by decide +kernel) rfl
theorem wl_598 : (Cond.code yX0_lying cX0_lying 4 (some .int) : Cond) ∈ WL := WL_of 598 (by decide +kernel) rfl
theorem wl_599 : (Cond.methodLink RX5 156 yX5_toldOfThing : Cond) ∈ WL := WL_of 599 (by decide +kernel) rfl
theorem wl_601 : (Cond.instanceMethod yX5_toldOfThing : Cond) ∈ WL := WL_of 601 (by decide +kernel) rfl
theorem wl_602 : (Cond.code yX5_toldOfThing cX5_toldOfThing 3 (some .int) : Cond) ∈ WL := WL_of 602 (by decide +kernel) rfl
theorem wl_619 : (Cond.methodLink RX5 176 yX5_costs : Cond) ∈ WL := WL_of 619 (by decide +kernel) rfl
theorem wl_621 : (Cond.instanceMethod yX5_costs : Cond) ∈ WL := WL_of 621 (by decide +kernel) rfl
theorem wl_622 : (Cond.code yX5_costs cX5_costs 4 (some .int) : Cond) ∈ WL := WL_of 622 (by decide +kernel) rfl
theorem wl_623 : (Cond.methodLink RX5 195 yX5_name : Cond) ∈ WL := WL_of 623 (by decide +kernel) rfl
theorem wl_625 : (Cond.instanceMethod yX5_name : Cond) ∈ WL := WL_of 625 (by decide +kernel) rfl
theorem wl_626 : (Cond.code yX5_name cX5_name 6 none : Cond) ∈ WL := WL_of 626 (by decide +kernel) rfl
theorem wl_627 : (Cond.methodLink RX5 199 yX4_tells : Cond) ∈ WL := WL_of 627 (by decide +kernel) rfl
theorem wl_628 : (Cond.instanceMethod yX4_tells : Cond) ∈ WL := WL_of 628 (by decide +kernel) rfl
theorem wl_629 : (Cond.selects RX4 yX4_tells yX4_tells : Cond) ∈ WL := WL_of 629 (by decide +kernel) rfl
theorem wl_630 : (Cond.code yX4_tells cX4_tells 6 (some .int) : Cond) ∈ WL := WL_of 630 (by decide +kernel) rfl
theorem wl_631 : (Cond.methodLink RX4 27 yX4_ofOne : Cond) ∈ WL := WL_of 631 (by decide +kernel) rfl
theorem wl_632 : (Cond.static yX4_ofOne : Cond) ∈ WL := WL_of 632 (by decide +kernel) rfl
theorem wl_633 : (Cond.code yX4_ofOne cX4_ofOne 2 (some .int) : Cond) ∈ WL := WL_of 633 (by decide +kernel) rfl
theorem wl_634 : (Cond.methodLink RX4 31 yX4_ofTwo : Cond) ∈ WL := WL_of 634 (by decide +kernel) rfl
theorem wl_635 : (Cond.static yX4_ofTwo : Cond) ∈ WL := WL_of 635 (by decide +kernel) rfl
theorem wl_636 : (Cond.code yX4_ofTwo cX4_ofTwo 3 (some .int) : Cond) ∈ WL := WL_of 636 (by decide +kernel) rfl
theorem wl_637 : (Cond.methodLink RX5 203 yX5_bounded : Cond) ∈ WL := WL_of 637 (by decide +kernel) rfl
theorem wl_638 : (Cond.static yX5_bounded : Cond) ∈ WL := WL_of 638 (by decide +kernel) rfl
theorem wl_639 : (Cond.code yX5_bounded cX5_bounded 2 (some .int) : Cond) ∈ WL := WL_of 639 (by decide +kernel) rfl
theorem wl_640 : (Cond.methodLink RX5 314 Lib.Math.min.name : Cond) ∈ WL := WL_of 640 (by decide +kernel) rfl
theorem wl_641 : (Cond.methodLink RX5 319 Lib.Math.max.name : Cond) ∈ WL := WL_of 641 (by decide +kernel) rfl
theorem wl_650 : (Cond.methodLink RX5 179 yX0_isOpen : Cond) ∈ WL := WL_of 650 (by decide +kernel) rfl
theorem wl_651 : (Cond.instanceMethod yX0_isOpen : Cond) ∈ WL := WL_of 651 (by decide +kernel) rfl
theorem wl_652 : (Cond.selects RX0 yX0_isOpen yX0_isOpen : Cond) ∈ WL := WL_of 652 (by decide +kernel) rfl
theorem wl_653 : (Cond.code yX0_isOpen cX0_isOpen 1 (some .boolean) : Cond) ∈ WL := WL_of 653 (by decide +kernel) rfl
theorem wl_655 : (Cond.methodLink RX0 78 yX0_freeHands : Cond) ∈ WL := WL_of 655 (by decide +kernel) rfl
theorem wl_656 : (Cond.instanceMethod yX0_freeHands : Cond) ∈ WL := WL_of 656 (by decide +kernel) rfl
theorem wl_657 : (Cond.selects RX0 yX0_freeHands yX0_freeHands : Cond) ∈ WL := WL_of 657 (by decide +kernel) rfl
theorem wl_658 : (Cond.code yX0_freeHands cX0_freeHands 4 (some .int) : Cond) ∈ WL := WL_of 658 (by decide +kernel) rfl
theorem wl_659 : (Cond.methodLink RX5 183 yX0_freeHands : Cond) ∈ WL := WL_of 659 (by decide +kernel) rfl
theorem wl_660 : (Cond.methodLink RX5 186 yX0_movesThatCanBe : Cond) ∈ WL := WL_of 660 (by decide +kernel) rfl
theorem wl_661 : (Cond.instanceMethod yX0_movesThatCanBe : Cond) ∈ WL := WL_of 661 (by decide +kernel) rfl
theorem wl_662 : (Cond.selects RX0 yX0_movesThatCanBe yX0_movesThatCanBe : Cond) ∈ WL := WL_of 662 (by decide +kernel) rfl
theorem wl_663 : (Cond.code yX0_movesThatCanBe cX0_movesThatCanBe 4 (some .int) : Cond) ∈ WL := WL_of 663 (by decide +kernel) rfl
theorem wl_664 : (Cond.methodLink RX0 72 yX0_refusal : Cond) ∈ WL := WL_of 664 (by decide +kernel) rfl
theorem wl_669 : (Cond.methodLink RX5 189 yX5_bell : Cond) ∈ WL := WL_of 669 (by decide +kernel) rfl
theorem wl_671 : (Cond.instanceMethod yX5_bell : Cond) ∈ WL := WL_of 671 (by decide +kernel) rfl
theorem wl_672 : (Cond.code yX5_bell cX5_bell 1 (some .int) : Cond) ∈ WL := WL_of 672 (by decide +kernel) rfl
theorem wl_673 : (Cond.methodLink RX5 192 yX5_worth : Cond) ∈ WL := WL_of 673 (by decide +kernel) rfl
theorem wl_675 : (Cond.instanceMethod yX5_worth : Cond) ∈ WL := WL_of 675 (by decide +kernel) rfl
theorem wl_676 : (Cond.code yX5_worth cX5_worth 2 (some .int) : Cond) ∈ WL := WL_of 676 (by decide +kernel) rfl
theorem wl_681 : (Cond.methodLink RX5 206 yX5_fewest : Cond) ∈ WL := WL_of 681 (by decide +kernel) rfl
theorem wl_683 : (Cond.instanceMethod yX5_fewest : Cond) ∈ WL := WL_of 683 (by decide +kernel) rfl
theorem wl_684 : (Cond.code yX5_fewest cX5_fewest 2 (some .int) : Cond) ∈ WL := WL_of 684 (by decide +kernel) rfl
theorem wl_685 : (Cond.methodLink RX5 219 yX5_think : Cond) ∈ WL := WL_of 685 (by decide +kernel) rfl
theorem wl_687 : (Cond.instanceMethod yX5_think : Cond) ∈ WL := WL_of 687 (by decide +kernel) rfl
theorem wl_688 : (Cond.code yX5_think cX5_think 3 none : Cond) ∈ WL := WL_of 688 (by decide +kernel) rfl
theorem wl_689 : (Cond.methodLink RX5 244 yX0_become : Cond) ∈ WL := WL_of 689 (by decide +kernel) rfl
theorem wl_690 : (Cond.instanceMethod yX0_become : Cond) ∈ WL := WL_of 690 (by decide +kernel) rfl
theorem wl_691 : (Cond.selects RX0 yX0_become yX0_become : Cond) ∈ WL := WL_of 691 (by decide +kernel) rfl
theorem wl_692 : (Cond.code yX0_become cX0_become 2 none : Cond) ∈ WL := WL_of 692 (by decide +kernel) rfl
theorem wl_693 : (Cond.methodLink RX0 43 arraycopyName : Cond) ∈ WL := WL_of 693 (by decide +kernel) rfl
theorem wl_694 : (Cond.static arraycopyName : Cond) ∈ WL := WL_of 694 (by decide +kernel) rfl
theorem wl_695 : (Cond.native arraycopyName : Cond) ∈ WL := WL_of 695 (by decide +kernel) rfl
theorem wl_696 : (Cond.methodLink RX5 251 yX1_look : Cond) ∈ WL := WL_of 696 (by decide +kernel) rfl
theorem wl_697 : (Cond.instanceMethod yX1_look : Cond) ∈ WL := WL_of 697 (by decide +kernel) rfl
theorem wl_698 : (Cond.selects RX1 yX1_look yX1_look : Cond) ∈ WL := WL_of 698 (by decide +kernel) rfl
theorem wl_699 : (Cond.code yX1_look cX1_look 3 none : Cond) ∈ WL := WL_of 699 (by decide +kernel) rfl
theorem wl_700 : (Cond.methodLink RX1 67 yX1_lay : Cond) ∈ WL := WL_of 700 (by decide +kernel) rfl
theorem wl_702 : (Cond.instanceMethod yX1_lay : Cond) ∈ WL := WL_of 702 (by decide +kernel) rfl
theorem wl_703 : (Cond.code yX1_lay cX1_lay 4 none : Cond) ∈ WL := WL_of 703 (by decide +kernel) rfl
theorem wl_704 : (Cond.methodLink RX1 75 yX0_isOpen : Cond) ∈ WL := WL_of 704 (by decide +kernel) rfl
theorem wl_705 : (Cond.methodLink RX1 79 yX0_refusal : Cond) ∈ WL := WL_of 705 (by decide +kernel) rfl
theorem wl_706 : (Cond.methodLink RX1 71 yX1_split : Cond) ∈ WL := WL_of 706 (by decide +kernel) rfl
theorem wl_708 : (Cond.instanceMethod yX1_split : Cond) ∈ WL := WL_of 708 (by decide +kernel) rfl
theorem wl_709 : (Cond.code yX1_split cX1_split 4 none : Cond) ∈ WL := WL_of 709 (by decide +kernel) rfl
theorem wl_710 : (Cond.methodLink RX5 234 yX1_countMoves : Cond) ∈ WL := WL_of 710 (by decide +kernel) rfl
theorem wl_711 : (Cond.instanceMethod yX1_countMoves : Cond) ∈ WL := WL_of 711 (by decide +kernel) rfl
theorem wl_712 : (Cond.selects RX1 yX1_countMoves yX1_countMoves : Cond) ∈ WL := WL_of 712 (by decide +kernel) rfl
theorem wl_713 : (Cond.code yX1_countMoves cX1_countMoves 2 none : Cond) ∈ WL := WL_of 713 (by decide +kernel) rfl
theorem wl_714 : (Cond.methodLink RX5 237 yX1_spreadFromOpen : Cond) ∈ WL := WL_of 714 (by decide +kernel) rfl
theorem wl_715 : (Cond.instanceMethod yX1_spreadFromOpen : Cond) ∈ WL := WL_of 715 (by decide +kernel) rfl
theorem wl_716 : (Cond.selects RX1 yX1_spreadFromOpen yX1_spreadFromOpen : Cond) ∈ WL := WL_of 716 (by decide +kernel) rfl
theorem wl_717 : (Cond.code yX1_spreadFromOpen cX1_spreadFromOpen 3 (some .int) : Cond) ∈ WL := WL_of 717 (by decide +kernel) rfl
theorem wl_718 : (Cond.methodLink RX1 91 yX1_clearTurns : Cond) ∈ WL := WL_of 718 (by decide +kernel) rfl
theorem wl_720 : (Cond.instanceMethod yX1_clearTurns : Cond) ∈ WL := WL_of 720 (by decide +kernel) rfl
theorem wl_721 : (Cond.code yX1_clearTurns cX1_clearTurns 2 none : Cond) ∈ WL := WL_of 721 (by decide +kernel) rfl
theorem wl_722 : (Cond.methodLink RX1 94 yX1_enterTurn : Cond) ∈ WL := WL_of 722 (by decide +kernel) rfl
theorem wl_724 : (Cond.instanceMethod yX1_enterTurn : Cond) ∈ WL := WL_of 724 (by decide +kernel) rfl
theorem wl_725 : (Cond.code yX1_enterTurn cX1_enterTurn 5 none : Cond) ∈ WL := WL_of 725 (by decide +kernel) rfl
theorem wl_726 : (Cond.methodLink RX1 97 yX1_spread : Cond) ∈ WL := WL_of 726 (by decide +kernel) rfl
theorem wl_728 : (Cond.instanceMethod yX1_spread : Cond) ∈ WL := WL_of 728 (by decide +kernel) rfl
theorem wl_729 : (Cond.code yX1_spread cX1_spread 5 (some .int) : Cond) ∈ WL := WL_of 729 (by decide +kernel) rfl
theorem wl_730 : (Cond.constant RX1 104 (309375) : Cond) ∈ WL := WL_of 730 (by decide +kernel) rfl
theorem wl_731 : (Cond.methodLink RX1 105 yX1_leaveTurn : Cond) ∈ WL := WL_of 731 (by decide +kernel) rfl
theorem wl_733 : (Cond.instanceMethod yX1_leaveTurn : Cond) ∈ WL := WL_of 733 (by decide +kernel) rfl
theorem wl_734 : (Cond.code yX1_leaveTurn cX1_leaveTurn 2 none : Cond) ∈ WL := WL_of 734 (by decide +kernel) rfl
theorem wl_735 : (Cond.methodLink RX1 108 yX1_spreadOnce : Cond) ∈ WL := WL_of 735 (by decide +kernel) rfl
theorem wl_737 : (Cond.instanceMethod yX1_spreadOnce : Cond) ∈ WL := WL_of 737 (by decide +kernel) rfl
theorem wl_738 : (Cond.code yX1_spreadOnce cX1_spreadOnce 7 none : Cond) ∈ WL := WL_of 738 (by decide +kernel) rfl
theorem wl_739 : (Cond.methodLink RX1 111 yX1_lookAround : Cond) ∈ WL := WL_of 739 (by decide +kernel) rfl
theorem wl_741 : (Cond.instanceMethod yX1_lookAround : Cond) ∈ WL := WL_of 741 (by decide +kernel) rfl
theorem wl_742 : (Cond.code yX1_lookAround cX1_lookAround 7 (some .int) : Cond) ∈ WL := WL_of 742 (by decide +kernel) rfl
theorem wl_743 : (Cond.methodLink RX1 87 yX1_placeOf : Cond) ∈ WL := WL_of 743 (by decide +kernel) rfl
theorem wl_744 : (Cond.static yX1_placeOf : Cond) ∈ WL := WL_of 744 (by decide +kernel) rfl
theorem wl_745 : (Cond.code yX1_placeOf cX1_placeOf 3 (some .int) : Cond) ∈ WL := WL_of 745 (by decide +kernel) rfl
theorem wl_746 : (Cond.methodLink RX5 210 yX1_firstBest : Cond) ∈ WL := WL_of 746 (by decide +kernel) rfl
theorem wl_747 : (Cond.instanceMethod yX1_firstBest : Cond) ∈ WL := WL_of 747 (by decide +kernel) rfl
theorem wl_748 : (Cond.selects RX1 yX1_firstBest yX1_firstBest : Cond) ∈ WL := WL_of 748 (by decide +kernel) rfl
theorem wl_749 : (Cond.code yX1_firstBest cX1_firstBest 5 (some .int) : Cond) ∈ WL := WL_of 749 (by decide +kernel) rfl
theorem wl_750 : (Cond.methodLink RX5 213 yX5_countCosts : Cond) ∈ WL := WL_of 750 (by decide +kernel) rfl
theorem wl_752 : (Cond.instanceMethod yX5_countCosts : Cond) ∈ WL := WL_of 752 (by decide +kernel) rfl
theorem wl_753 : (Cond.code yX5_countCosts cX5_countCosts 4 none : Cond) ∈ WL := WL_of 753 (by decide +kernel) rfl
theorem wl_754 : (Cond.methodLink RX5 240 yX1_price : Cond) ∈ WL := WL_of 754 (by decide +kernel) rfl
theorem wl_755 : (Cond.instanceMethod yX1_price : Cond) ∈ WL := WL_of 755 (by decide +kernel) rfl
theorem wl_756 : (Cond.selects RX1 yX1_price yX1_price : Cond) ∈ WL := WL_of 756 (by decide +kernel) rfl
theorem wl_757 : (Cond.code yX1_price cX1_price 5 none : Cond) ∈ WL := WL_of 757 (by decide +kernel) rfl
theorem wl_758 : (Cond.methodLink RX5 216 yX5_leastIf : Cond) ∈ WL := WL_of 758 (by decide +kernel) rfl
theorem wl_760 : (Cond.instanceMethod yX5_leastIf : Cond) ∈ WL := WL_of 760 (by decide +kernel) rfl
theorem wl_761 : (Cond.code yX5_leastIf cX5_leastIf 3 (some .int) : Cond) ∈ WL := WL_of 761 (by decide +kernel) rfl
theorem wl_762 : (Cond.methodLink RX5 222 yX1_flood : Cond) ∈ WL := WL_of 762 (by decide +kernel) rfl
theorem wl_763 : (Cond.instanceMethod yX1_flood : Cond) ∈ WL := WL_of 763 (by decide +kernel) rfl
theorem wl_764 : (Cond.selects RX1 yX1_flood yX1_flood : Cond) ∈ WL := WL_of 764 (by decide +kernel) rfl
theorem wl_765 : (Cond.code yX1_flood cX1_flood 3 (some .int) : Cond) ∈ WL := WL_of 765 (by decide +kernel) rfl
theorem wl_766 : (Cond.methodLink RX1 115 yX1_floodOnce : Cond) ∈ WL := WL_of 766 (by decide +kernel) rfl
theorem wl_768 : (Cond.instanceMethod yX1_floodOnce : Cond) ∈ WL := WL_of 768 (by decide +kernel) rfl
theorem wl_769 : (Cond.code yX1_floodOnce cX1_floodOnce 6 (some .int) : Cond) ∈ WL := WL_of 769 (by decide +kernel) rfl
theorem wl_770 : (Cond.methodLink RX5 225 yX1_farthest : Cond) ∈ WL := WL_of 770 (by decide +kernel) rfl
theorem wl_771 : (Cond.instanceMethod yX1_farthest : Cond) ∈ WL := WL_of 771 (by decide +kernel) rfl
theorem wl_772 : (Cond.selects RX1 yX1_farthest yX1_farthest : Cond) ∈ WL := WL_of 772 (by decide +kernel) rfl
theorem wl_773 : (Cond.code yX1_farthest cX1_farthest 4 (some .int) : Cond) ∈ WL := WL_of 773 (by decide +kernel) rfl
theorem wl_774 : (Cond.methodLink RX1 118 yX1_flood : Cond) ∈ WL := WL_of 774 (by decide +kernel) rfl
theorem wl_775 : (Cond.methodLink RX1 122 Lib.Math.max.name : Cond) ∈ WL := WL_of 775 (by decide +kernel) rfl
theorem wl_780 : (Cond.methodLink RX5 228 yX1_farWith : Cond) ∈ WL := WL_of 780 (by decide +kernel) rfl
theorem wl_781 : (Cond.instanceMethod yX1_farWith : Cond) ∈ WL := WL_of 781 (by decide +kernel) rfl
theorem wl_782 : (Cond.selects RX1 yX1_farWith yX1_farWith : Cond) ∈ WL := WL_of 782 (by decide +kernel) rfl
theorem wl_783 : (Cond.code yX1_farWith cX1_farWith 4 (some .int) : Cond) ∈ WL := WL_of 783 (by decide +kernel) rfl
theorem wl_784 : (Cond.methodLink RX5 231 yX5_isLess : Cond) ∈ WL := WL_of 784 (by decide +kernel) rfl
theorem wl_785 : (Cond.static yX5_isLess : Cond) ∈ WL := WL_of 785 (by decide +kernel) rfl
theorem wl_786 : (Cond.code yX5_isLess cX5_isLess 2 (some .boolean) : Cond) ∈ WL := WL_of 786 (by decide +kernel) rfl
theorem wl_803 : (Cond.methodLink RX5 254 yX2_isMissing : Cond) ∈ WL := WL_of 803 (by decide +kernel) rfl
theorem wl_804 : (Cond.instanceMethod yX2_isMissing : Cond) ∈ WL := WL_of 804 (by decide +kernel) rfl
theorem wl_805 : (Cond.selects RX2 yX2_isMissing yX2_isMissing : Cond) ∈ WL := WL_of 805 (by decide +kernel) rfl
theorem wl_806 : (Cond.code yX2_isMissing cX2_isMissing 1 (some .boolean) : Cond) ∈ WL := WL_of 806 (by decide +kernel) rfl
theorem wl_807 : (Cond.methodLink RX5 261 yX5_canBe : Cond) ∈ WL := WL_of 807 (by decide +kernel) rfl
theorem wl_809 : (Cond.instanceMethod yX5_canBe : Cond) ∈ WL := WL_of 809 (by decide +kernel) rfl
theorem wl_810 : (Cond.code yX5_canBe cX5_canBe 4 (some .boolean) : Cond) ∈ WL := WL_of 810 (by decide +kernel) rfl
theorem wl_815 : (Cond.constantLong RX5 264 (-4611686018427387904) : Cond) ∈ WL := WL_of 815 (by decide +kernel) rfl
theorem wl_816 : (Cond.methodLink RX5 266 yX1_stateOf : Cond) ∈ WL := WL_of 816 (by decide +kernel) rfl
theorem wl_817 : (Cond.instanceMethod yX1_stateOf : Cond) ∈ WL := WL_of 817 (by decide +kernel) rfl
theorem wl_818 : (Cond.selects RX1 yX1_stateOf yX1_stateOf : Cond) ∈ WL := WL_of 818 (by decide +kernel) rfl
theorem wl_819 : (Cond.code yX1_stateOf cX1_stateOf 4 (some .int) : Cond) ∈ WL := WL_of 819 (by decide +kernel) rfl
theorem wl_820 : (Cond.methodLink RX1 83 yX0_hasHold : Cond) ∈ WL := WL_of 820 (by decide +kernel) rfl
theorem wl_821 : (Cond.methodLink RX5 270 yX1_rowsTo : Cond) ∈ WL := WL_of 821 (by decide +kernel) rfl
theorem wl_822 : (Cond.instanceMethod yX1_rowsTo : Cond) ∈ WL := WL_of 822 (by decide +kernel) rfl
theorem wl_823 : (Cond.selects RX1 yX1_rowsTo yX1_rowsTo : Cond) ∈ WL := WL_of 823 (by decide +kernel) rfl
theorem wl_824 : (Cond.code yX1_rowsTo cX1_rowsTo 6 (some .long) : Cond) ∈ WL := WL_of 824 (by decide +kernel) rfl
theorem wl_825 : (Cond.methodLink RX1 127 yX1_step : Cond) ∈ WL := WL_of 825 (by decide +kernel) rfl
theorem wl_827 : (Cond.instanceMethod yX1_step : Cond) ∈ WL := WL_of 827 (by decide +kernel) rfl
theorem wl_828 : (Cond.code yX1_step cX1_step 6 none : Cond) ∈ WL := WL_of 828 (by decide +kernel) rfl
theorem wl_829 : (Cond.methodLink RX1 131 yX1_stepOnce : Cond) ∈ WL := WL_of 829 (by decide +kernel) rfl
theorem wl_831 : (Cond.instanceMethod yX1_stepOnce : Cond) ∈ WL := WL_of 831 (by decide +kernel) rfl
theorem wl_832 : (Cond.code yX1_stepOnce cX1_stepOnce 5 none : Cond) ∈ WL := WL_of 832 (by decide +kernel) rfl
theorem wl_833 : (Cond.methodLink RX1 134 arraycopyName : Cond) ∈ WL := WL_of 833 (by decide +kernel) rfl
theorem wl_838 : (Cond.methodLink RX5 274 yX1_spreadFrom : Cond) ∈ WL := WL_of 838 (by decide +kernel) rfl
theorem wl_839 : (Cond.instanceMethod yX1_spreadFrom : Cond) ∈ WL := WL_of 839 (by decide +kernel) rfl
theorem wl_840 : (Cond.selects RX1 yX1_spreadFrom yX1_spreadFrom : Cond) ∈ WL := WL_of 840 (by decide +kernel) rfl
theorem wl_841 : (Cond.code yX1_spreadFrom cX1_spreadFrom 2 (some .int) : Cond) ∈ WL := WL_of 841 (by decide +kernel) rfl
theorem wl_846 : (Cond.methodLink RX5 277 yX5_openBehind : Cond) ∈ WL := WL_of 846 (by decide +kernel) rfl
theorem wl_848 : (Cond.instanceMethod yX5_openBehind : Cond) ∈ WL := WL_of 848 (by decide +kernel) rfl
theorem wl_849 : (Cond.code yX5_openBehind cX5_openBehind 5 (some .int) : Cond) ∈ WL := WL_of 849 (by decide +kernel) rfl
theorem wl_850 : (Cond.constant RX5 283 (1103515245) : Cond) ∈ WL := WL_of 850 (by decide +kernel) rfl
theorem wl_851 : (Cond.methodLink RX5 284 yX5_drawOnce : Cond) ∈ WL := WL_of 851 (by decide +kernel) rfl
theorem wl_853 : (Cond.instanceMethod yX5_drawOnce : Cond) ∈ WL := WL_of 853 (by decide +kernel) rfl
theorem wl_854 : (Cond.code yX5_drawOnce cX5_drawOnce 4 none : Cond) ∈ WL := WL_of 854 (by decide +kernel) rfl
theorem wl_859 : (Cond.methodLink RX5 280 yX5_commonPart : Cond) ∈ WL := WL_of 859 (by decide +kernel) rfl
theorem wl_860 : (Cond.static yX5_commonPart : Cond) ∈ WL := WL_of 860 (by decide +kernel) rfl
theorem wl_861 : (Cond.code yX5_commonPart cX5_commonPart 3 (some .int) : Cond) ∈ WL := WL_of 861 (by decide +kernel) rfl
theorem wl_878 : (Cond.methodLink RX5 291 yX2_become : Cond) ∈ WL := WL_of 878 (by decide +kernel) rfl
theorem wl_879 : (Cond.instanceMethod yX2_become : Cond) ∈ WL := WL_of 879 (by decide +kernel) rfl
theorem wl_880 : (Cond.selects RX2 yX2_become yX2_become : Cond) ∈ WL := WL_of 880 (by decide +kernel) rfl
theorem wl_881 : (Cond.code yX2_become cX2_become 4 none : Cond) ∈ WL := WL_of 881 (by decide +kernel) rfl
theorem wl_886 : (Cond.methodLink RX5 293 yX2_put : Cond) ∈ WL := WL_of 886 (by decide +kernel) rfl
theorem wl_887 : (Cond.instanceMethod yX2_put : Cond) ∈ WL := WL_of 887 (by decide +kernel) rfl
theorem wl_888 : (Cond.selects RX2 yX2_put yX2_put : Cond) ∈ WL := WL_of 888 (by decide +kernel) rfl
theorem wl_889 : (Cond.code yX2_put cX2_put 3 none : Cond) ∈ WL := WL_of 889 (by decide +kernel) rfl
theorem wl_894 : (Cond.methodLink RX5 299 yX2_hasPart : Cond) ∈ WL := WL_of 894 (by decide +kernel) rfl
theorem wl_895 : (Cond.instanceMethod yX2_hasPart : Cond) ∈ WL := WL_of 895 (by decide +kernel) rfl
theorem wl_896 : (Cond.selects RX2 yX2_hasPart yX2_hasPart : Cond) ∈ WL := WL_of 896 (by decide +kernel) rfl
theorem wl_897 : (Cond.code yX2_hasPart cX2_hasPart 3 (some .boolean) : Cond) ∈ WL := WL_of 897 (by decide +kernel) rfl
theorem wl_898 : (Cond.methodLink RX5 302 arraycopyName : Cond) ∈ WL := WL_of 898 (by decide +kernel) rfl
theorem wl_903 : (Cond.methodLink RX5 308 yX5_thing : Cond) ∈ WL := WL_of 903 (by decide +kernel) rfl
theorem wl_908 : (Cond.fieldLink RX5 311 "BothHandsFull" "UNDER" "[I" : Cond) ∈ WL := WL_of 908 (by decide +kernel) rfl
theorem wl_920 : (Cond.fieldLink RX6 13 "BothHandsFullModel" "texts" "[I" : Cond) ∈ WL := WL_of 920 (by decide +kernel) rfl
theorem wl_921 : (Cond.fieldLink RX6 17 "BothHandsFullModel" "textSize" "[I" : Cond) ∈ WL := WL_of 921 (by decide +kernel) rfl
theorem wl_922 : (Cond.fieldLink RX6 101 "BothHandsFullModel" "textCount" "I" : Cond) ∈ WL := WL_of 922 (by decide +kernel) rfl
theorem wl_923 : (Cond.fieldLink RX6 370 "BothHandsFullModel" "rule" "I" : Cond) ∈ WL := WL_of 923 (by decide +kernel) rfl
theorem wl_924 : (Cond.fieldLink RX6 20 "BothHandsFullModel" "tape" "[I" : Cond) ∈ WL := WL_of 924 (by decide +kernel) rfl
theorem wl_925 : (Cond.fieldLink RX6 165 "BothHandsFullModel" "taped" "I" : Cond) ∈ WL := WL_of 925 (by decide +kernel) rfl
theorem wl_926 : (Cond.fieldLink RX6 23 "BothHandsFullModel" "kinds" "[I" : Cond) ∈ WL := WL_of 926 (by decide +kernel) rfl
theorem wl_927 : (Cond.fieldLink RX6 26 "BothHandsFullModel" "numbers" "[I" : Cond) ∈ WL := WL_of 927 (by decide +kernel) rfl
theorem wl_928 : (Cond.fieldLink RX6 104 "BothHandsFullModel" "holds" "I" : Cond) ∈ WL := WL_of 928 (by decide +kernel) rfl
theorem wl_929 : (Cond.fieldLink RX6 29 "BothHandsFullModel" "sizes" "[I" : Cond) ∈ WL := WL_of 929 (by decide +kernel) rfl
theorem wl_930 : (Cond.fieldLink RX6 32 "BothHandsFullModel" "dry" "[I" : Cond) ∈ WL := WL_of 930 (by decide +kernel) rfl
theorem wl_931 : (Cond.fieldLink RX6 35 "BothHandsFullModel" "lies" "[I" : Cond) ∈ WL := WL_of 931 (by decide +kernel) rfl
theorem wl_932 : (Cond.fieldLink RX6 38 "BothHandsFullModel" "apart" "[I" : Cond) ∈ WL := WL_of 932 (by decide +kernel) rfl
theorem wl_933 : (Cond.fieldLink RX6 111 "BothHandsFullModel" "things" "I" : Cond) ∈ WL := WL_of 933 (by decide +kernel) rfl
theorem wl_934 : (Cond.fieldLink RX6 41 "BothHandsFullModel" "key" "I" : Cond) ∈ WL := WL_of 934 (by decide +kernel) rfl
theorem wl_935 : (Cond.fieldLink RX6 44 "BothHandsFullModel" "free" "I" : Cond) ∈ WL := WL_of 935 (by decide +kernel) rfl
theorem wl_936 : (Cond.fieldLink RX6 47 "BothHandsFullModel" "roomyHold" "I" : Cond) ∈ WL := WL_of 936 (by decide +kernel) rfl
theorem wl_937 : (Cond.fieldLink RX6 50 "BothHandsFullModel" "nowhere" "I" : Cond) ∈ WL := WL_of 937 (by decide +kernel) rfl
theorem wl_938 : (Cond.fieldLink RX6 222 "BothHandsFullModel" "ofSize" "I" : Cond) ∈ WL := WL_of 938 (by decide +kernel) rfl
theorem wl_939 : (Cond.fieldLink RX6 225 "BothHandsFullModel" "ofFrom" "I" : Cond) ∈ WL := WL_of 939 (by decide +kernel) rfl
theorem wl_940 : (Cond.fieldLink RX6 228 "BothHandsFullModel" "ofTo" "I" : Cond) ∈ WL := WL_of 940 (by decide +kernel) rfl
theorem wl_941 : (Cond.fieldLink RX6 231 "BothHandsFullModel" "ofThing" "I" : Cond) ∈ WL := WL_of 941 (by decide +kernel) rfl
theorem wl_942 : (Cond.fieldLink RX6 234 "BothHandsFullModel" "ofMany" "I" : Cond) ∈ WL := WL_of 942 (by decide +kernel) rfl
theorem wl_943 : (Cond.fieldLink RX6 237 "BothHandsFullModel" "ofWet" "I" : Cond) ∈ WL := WL_of 943 (by decide +kernel) rfl
theorem wl_944 : (Cond.fieldLink RX6 171 "BothHandsFullModel" "from" "I" : Cond) ∈ WL := WL_of 944 (by decide +kernel) rfl
theorem wl_945 : (Cond.fieldLink RX6 168 "BothHandsFullModel" "size" "I" : Cond) ∈ WL := WL_of 945 (by decide +kernel) rfl
theorem wl_946 : (Cond.fieldLink RX6 174 "BothHandsFullModel" "here" "I" : Cond) ∈ WL := WL_of 946 (by decide +kernel) rfl
theorem wl_947 : (Cond.fieldLink RX6 183 "BothHandsFullModel" "token" "I" : Cond) ∈ WL := WL_of 947 (by decide +kernel) rfl
theorem wl_948 : (Cond.fieldLink RX6 180 "BothHandsFullModel" "tokenAt" "I" : Cond) ∈ WL := WL_of 948 (by decide +kernel) rfl
theorem wl_949 : (Cond.fieldLink RX6 194 "BothHandsFullModel" "tokenWorth" "J" : Cond) ∈ WL := WL_of 949 (by decide +kernel) rfl
theorem wl_950 : (Cond.fieldLink RX6 209 "BothHandsFullModel" "open" "I" : Cond) ∈ WL := WL_of 950 (by decide +kernel) rfl
theorem wl_951 : (Cond.fieldLink RX6 198 "BothHandsFullModel" "bad" "Z" : Cond) ∈ WL := WL_of 951 (by decide +kernel) rfl
theorem wl_952 : (Cond.fieldLink RX6 202 "BothHandsFullModel" "fault" "I" : Cond) ∈ WL := WL_of 952 (by decide +kernel) rfl
theorem wl_953 : (Cond.fieldLink RX6 53 "BothHandsFullModel" "liesWas" "[I" : Cond) ∈ WL := WL_of 953 (by decide +kernel) rfl
theorem wl_954 : (Cond.fieldLink RX6 56 "BothHandsFullModel" "mayBe" "[I" : Cond) ∈ WL := WL_of 954 (by decide +kernel) rfl
theorem wl_955 : (Cond.fieldLink RX6 59 "BothHandsFullModel" "few" "[I" : Cond) ∈ WL := WL_of 955 (by decide +kernel) rfl
theorem wl_956 : (Cond.fieldLink RX6 62 "BothHandsFullModel" "little" "[I" : Cond) ∈ WL := WL_of 956 (by decide +kernel) rfl
theorem wl_957 : (Cond.fieldLink RX6 65 "BothHandsFullModel" "costs" "[I" : Cond) ∈ WL := WL_of 957 (by decide +kernel) rfl
theorem wl_958 : (Cond.fieldLink RX6 68 "BothHandsFullModel" "seen" "[I" : Cond) ∈ WL := WL_of 958 (by decide +kernel) rfl
theorem wl_959 : (Cond.fieldLink RX6 421 "BothHandsFullModel" "judgeCost" "I" : Cond) ∈ WL := WL_of 959 (by decide +kernel) rfl
theorem wl_960 : (Cond.fieldLink RX6 427 "BothHandsFullModel" "judgeOpen" "Z" : Cond) ∈ WL := WL_of 960 (by decide +kernel) rfl
theorem wl_961 : (Cond.fieldLink RX6 71 "BothHandsFullModel" "rows" "[J" : Cond) ∈ WL := WL_of 961 (by decide +kernel) rfl
theorem wl_962 : (Cond.fieldLink RX6 75 "BothHandsFullModel" "then" "[J" : Cond) ∈ WL := WL_of 962 (by decide +kernel) rfl
theorem wl_963 : (Cond.fieldLink RX6 78 "BothHandsFullModel" "kept" "[I" : Cond) ∈ WL := WL_of 963 (by decide +kernel) rfl
theorem wl_964 : (Cond.fieldLink RX6 81 "BothHandsFullModel" "thingsKept" "I" : Cond) ∈ WL := WL_of 964 (by decide +kernel) rfl
theorem wl_965 : (Cond.fieldLink RX6 457 "BothHandsFullModel" "holdsKept" "I" : Cond) ∈ WL := WL_of 965 (by decide +kernel) rfl
theorem wl_966 : (Cond.fieldLink RX6 460 "BothHandsFullModel" "keyKept" "I" : Cond) ∈ WL := WL_of 966 (by decide +kernel) rfl
theorem wl_967 : (Cond.fieldLink RX6 463 "BothHandsFullModel" "freeKept" "I" : Cond) ∈ WL := WL_of 967 (by decide +kernel) rfl
theorem wl_968 : (Cond.fieldLink RX6 466 "BothHandsFullModel" "ruleKept" "I" : Cond) ∈ WL := WL_of 968 (by decide +kernel) rfl
theorem wl_969 : (Cond.fieldLink RX6 84 "BothHandsFullModel" "isThere" "[Z" : Cond) ∈ WL := WL_of 969 (by decide +kernel) rfl
theorem wl_970 : (Cond.fieldLink RX6 88 "BothHandsFullModel" "sorts" "[I" : Cond) ∈ WL := WL_of 970 (by decide +kernel) rfl
theorem wl_971 : (Cond.fieldLink RX6 91 "BothHandsFullModel" "sheetSize" "[I" : Cond) ∈ WL := WL_of 971 (by decide +kernel) rfl
theorem wl_972 : (Cond.fieldLink RX6 94 "BothHandsFullModel" "items" "[I" : Cond) ∈ WL := WL_of 972 (by decide +kernel) rfl
theorem wl_1088 : (Cond.constantLong RX6 141 (5) : Cond) ∈ WL := WL_of 1088 (by decide +kernel) rfl
theorem wl_1089 : (Cond.methodLink RX6 107 yX6_in : Cond) ∈ WL := WL_of 1089 (by decide +kernel) rfl
theorem wl_1090 : (Cond.static yX6_in : Cond) ∈ WL := WL_of 1090 (by decide +kernel) rfl
theorem wl_1091 : (Cond.code yX6_in cX6_in 6 (some .boolean) : Cond) ∈ WL := WL_of 1091 (by decide +kernel) rfl
theorem wl_1092 : (Cond.constantLong RX6 143 (9) : Cond) ∈ WL := WL_of 1092 (by decide +kernel) rfl
theorem wl_1094 : (Cond.instanceMethod yX6_thing : Cond) ∈ WL := WL_of 1094 (by decide +kernel) rfl
theorem wl_1095 : (Cond.selects RX6 yX6_thing yX6_thing : Cond) ∈ WL := WL_of 1095 (by decide +kernel) rfl
theorem wl_1096 : (Cond.code yX6_thing cX6_thing 4 (some .int) : Cond) ∈ WL := WL_of 1096 (by decide +kernel) rfl
theorem wl_1097 : (Cond.constantLong RX6 145 (10) : Cond) ∈ WL := WL_of 1097 (by decide +kernel) rfl
theorem wl_1098 : (Cond.constantLong RX6 147 (99) : Cond) ∈ WL := WL_of 1098 (by decide +kernel) rfl
theorem wl_1099 : (Cond.methodLink RX6 149 yX6_isHold : Cond) ∈ WL := WL_of 1099 (by decide +kernel) rfl
theorem wl_1101 : (Cond.instanceMethod yX6_isHold : Cond) ∈ WL := WL_of 1101 (by decide +kernel) rfl
theorem wl_1102 : (Cond.code yX6_isHold cX6_isHold 2 (some .boolean) : Cond) ∈ WL := WL_of 1102 (by decide +kernel) rfl
theorem wl_1103 : (Cond.methodLink RX6 130 yX6_inside : Cond) ∈ WL := WL_of 1103 (by decide +kernel) rfl
theorem wl_1105 : (Cond.instanceMethod yX6_inside : Cond) ∈ WL := WL_of 1105 (by decide +kernel) rfl
theorem wl_1106 : (Cond.code yX6_inside cX6_inside 4 (some .int) : Cond) ∈ WL := WL_of 1106 (by decide +kernel) rfl
theorem wl_1107 : (Cond.methodLink RX6 133 yX6_bars : Cond) ∈ WL := WL_of 1107 (by decide +kernel) rfl
theorem wl_1109 : (Cond.instanceMethod yX6_bars : Cond) ∈ WL := WL_of 1109 (by decide +kernel) rfl
theorem wl_1110 : (Cond.code yX6_bars cX6_bars 6 (some .int) : Cond) ∈ WL := WL_of 1110 (by decide +kernel) rfl
theorem wl_1111 : (Cond.methodLink RX6 114 yX6_sizeOf : Cond) ∈ WL := WL_of 1111 (by decide +kernel) rfl
theorem wl_1113 : (Cond.instanceMethod yX6_sizeOf : Cond) ∈ WL := WL_of 1113 (by decide +kernel) rfl
theorem wl_1114 : (Cond.code yX6_sizeOf cX6_sizeOf 4 (some .int) : Cond) ∈ WL := WL_of 1114 (by decide +kernel) rfl
theorem wl_1115 : (Cond.methodLink RX6 118 yX6_roomOf : Cond) ∈ WL := WL_of 1115 (by decide +kernel) rfl
theorem wl_1117 : (Cond.instanceMethod yX6_roomOf : Cond) ∈ WL := WL_of 1117 (by decide +kernel) rfl
theorem wl_1118 : (Cond.code yX6_roomOf cX6_roomOf 5 (some .int) : Cond) ∈ WL := WL_of 1118 (by decide +kernel) rfl
theorem wl_1119 : (Cond.methodLink RX6 121 yX6_bitsOf : Cond) ∈ WL := WL_of 1119 (by decide +kernel) rfl
theorem wl_1120 : (Cond.static yX6_bitsOf : Cond) ∈ WL := WL_of 1120 (by decide +kernel) rfl
theorem wl_1121 : (Cond.code yX6_bitsOf cX6_bitsOf 3 (some .int) : Cond) ∈ WL := WL_of 1121 (by decide +kernel) rfl
theorem wl_1122 : (Cond.methodLink RX6 124 yX6_mostOf : Cond) ∈ WL := WL_of 1122 (by decide +kernel) rfl
theorem wl_1124 : (Cond.instanceMethod yX6_mostOf : Cond) ∈ WL := WL_of 1124 (by decide +kernel) rfl
theorem wl_1125 : (Cond.code yX6_mostOf cX6_mostOf 3 (some .int) : Cond) ∈ WL := WL_of 1125 (by decide +kernel) rfl
theorem wl_1126 : (Cond.methodLink RX6 127 yX6_wetOf : Cond) ∈ WL := WL_of 1126 (by decide +kernel) rfl
theorem wl_1128 : (Cond.instanceMethod yX6_wetOf : Cond) ∈ WL := WL_of 1128 (by decide +kernel) rfl
theorem wl_1129 : (Cond.code yX6_wetOf cX6_wetOf 2 (some .int) : Cond) ∈ WL := WL_of 1129 (by decide +kernel) rfl
theorem wl_1134 : (Cond.constantLong RX6 153 (3) : Cond) ∈ WL := WL_of 1134 (by decide +kernel) rfl
theorem wl_1135 : (Cond.methodLink RX6 155 yX6_isThing : Cond) ∈ WL := WL_of 1135 (by decide +kernel) rfl
theorem wl_1137 : (Cond.instanceMethod yX6_isThing : Cond) ∈ WL := WL_of 1137 (by decide +kernel) rfl
theorem wl_1138 : (Cond.code yX6_isThing cX6_isThing 2 (some .boolean) : Cond) ∈ WL := WL_of 1138 (by decide +kernel) rfl
theorem wl_1147 : (Cond.constantLong RX6 158 (11) : Cond) ∈ WL := WL_of 1147 (by decide +kernel) rfl
theorem wl_1148 : (Cond.methodLink RX6 160 yX6_opensOf : Cond) ∈ WL := WL_of 1148 (by decide +kernel) rfl
theorem wl_1150 : (Cond.instanceMethod yX6_opensOf : Cond) ∈ WL := WL_of 1150 (by decide +kernel) rfl
theorem wl_1151 : (Cond.code yX6_opensOf cX6_opensOf 2 (some .int) : Cond) ∈ WL := WL_of 1151 (by decide +kernel) rfl
theorem wl_1156 : (Cond.constantLong RX6 163 (255) : Cond) ∈ WL := WL_of 1156 (by decide +kernel) rfl
theorem wl_1161 : (Cond.methodLink RX6 367 yX6_read : Cond) ∈ WL := WL_of 1161 (by decide +kernel) rfl
theorem wl_1163 : (Cond.instanceMethod yX6_read : Cond) ∈ WL := WL_of 1163 (by decide +kernel) rfl
theorem wl_1164 : (Cond.code yX6_read cX6_read 6 (some .int) : Cond) ∈ WL := WL_of 1164 (by decide +kernel) rfl
theorem wl_1165 : (Cond.methodLink RX6 215 yX6_next : Cond) ∈ WL := WL_of 1165 (by decide +kernel) rfl
theorem wl_1167 : (Cond.instanceMethod yX6_next : Cond) ∈ WL := WL_of 1167 (by decide +kernel) rfl
theorem wl_1168 : (Cond.code yX6_next cX6_next 3 none : Cond) ∈ WL := WL_of 1168 (by decide +kernel) rfl
theorem wl_1169 : (Cond.methodLink RX6 177 yX6_byteAt : Cond) ∈ WL := WL_of 1169 (by decide +kernel) rfl
theorem wl_1171 : (Cond.instanceMethod yX6_byteAt : Cond) ∈ WL := WL_of 1171 (by decide +kernel) rfl
theorem wl_1172 : (Cond.code yX6_byteAt cX6_byteAt 2 (some .int) : Cond) ∈ WL := WL_of 1172 (by decide +kernel) rfl
theorem wl_1173 : (Cond.constantLong RX6 186 (97) : Cond) ∈ WL := WL_of 1173 (by decide +kernel) rfl
theorem wl_1174 : (Cond.constantLong RX6 188 (122) : Cond) ∈ WL := WL_of 1174 (by decide +kernel) rfl
theorem wl_1175 : (Cond.constantLong RX6 190 (48) : Cond) ∈ WL := WL_of 1175 (by decide +kernel) rfl
theorem wl_1176 : (Cond.constantLong RX6 192 (57) : Cond) ∈ WL := WL_of 1176 (by decide +kernel) rfl
theorem wl_1177 : (Cond.methodLink RX6 218 yX6_isWord : Cond) ∈ WL := WL_of 1177 (by decide +kernel) rfl
theorem wl_1179 : (Cond.instanceMethod yX6_isWord : Cond) ∈ WL := WL_of 1179 (by decide +kernel) rfl
theorem wl_1180 : (Cond.code yX6_isWord cX6_isWord 9 (some .boolean) : Cond) ∈ WL := WL_of 1180 (by decide +kernel) rfl
theorem wl_1181 : (Cond.methodLink RX6 205 yX6_isLetter : Cond) ∈ WL := WL_of 1181 (by decide +kernel) rfl
theorem wl_1183 : (Cond.instanceMethod yX6_isLetter : Cond) ∈ WL := WL_of 1183 (by decide +kernel) rfl
theorem wl_1184 : (Cond.code yX6_isLetter cX6_isLetter 3 (some .boolean) : Cond) ∈ WL := WL_of 1184 (by decide +kernel) rfl
theorem wl_1185 : (Cond.methodLink RX6 363 yX6_part_ : Cond) ∈ WL := WL_of 1185 (by decide +kernel) rfl
theorem wl_1187 : (Cond.instanceMethod yX6_part_ : Cond) ∈ WL := WL_of 1187 (by decide +kernel) rfl
theorem wl_1188 : (Cond.code yX6_part_ cX6_part_ 3 (some .int) : Cond) ∈ WL := WL_of 1188 (by decide +kernel) rfl
theorem wl_1189 : (Cond.methodLink RX6 212 yX6_fail : Cond) ∈ WL := WL_of 1189 (by decide +kernel) rfl
theorem wl_1191 : (Cond.instanceMethod yX6_fail : Cond) ∈ WL := WL_of 1191 (by decide +kernel) rfl
theorem wl_1192 : (Cond.code yX6_fail cX6_fail 1 none : Cond) ∈ WL := WL_of 1192 (by decide +kernel) rfl
theorem wl_1193 : (Cond.methodLink RX6 360 yX6_either0 : Cond) ∈ WL := WL_of 1193 (by decide +kernel) rfl
theorem wl_1195 : (Cond.instanceMethod yX6_either0 : Cond) ∈ WL := WL_of 1195 (by decide +kernel) rfl
theorem wl_1196 : (Cond.code yX6_either0 cX6_either0 3 (some .int) : Cond) ∈ WL := WL_of 1196 (by decide +kernel) rfl
theorem wl_1197 : (Cond.methodLink RX6 357 yX6_both0 : Cond) ∈ WL := WL_of 1197 (by decide +kernel) rfl
theorem wl_1199 : (Cond.instanceMethod yX6_both0 : Cond) ∈ WL := WL_of 1199 (by decide +kernel) rfl
theorem wl_1200 : (Cond.code yX6_both0 cX6_both0 3 (some .int) : Cond) ∈ WL := WL_of 1200 (by decide +kernel) rfl
theorem wl_1201 : (Cond.methodLink RX6 354 yX6_not0 : Cond) ∈ WL := WL_of 1201 (by decide +kernel) rfl
theorem wl_1203 : (Cond.instanceMethod yX6_not0 : Cond) ∈ WL := WL_of 1203 (by decide +kernel) rfl
theorem wl_1204 : (Cond.code yX6_not0 cX6_not0 4 (some .int) : Cond) ∈ WL := WL_of 1204 (by decide +kernel) rfl
theorem wl_1205 : (Cond.methodLink RX6 243 yX6_opens : Cond) ∈ WL := WL_of 1205 (by decide +kernel) rfl
theorem wl_1207 : (Cond.instanceMethod yX6_opens : Cond) ∈ WL := WL_of 1207 (by decide +kernel) rfl
theorem wl_1208 : (Cond.code yX6_opens cX6_opens 1 (some .boolean) : Cond) ∈ WL := WL_of 1208 (by decide +kernel) rfl
theorem wl_1209 : (Cond.methodLink RX6 336 yX6_not1 : Cond) ∈ WL := WL_of 1209 (by decide +kernel) rfl
theorem wl_1211 : (Cond.instanceMethod yX6_not1 : Cond) ∈ WL := WL_of 1211 (by decide +kernel) rfl
theorem wl_1212 : (Cond.code yX6_not1 cX6_not1 4 (some .int) : Cond) ∈ WL := WL_of 1212 (by decide +kernel) rfl
theorem wl_1213 : (Cond.methodLink RX6 318 yX6_not2 : Cond) ∈ WL := WL_of 1213 (by decide +kernel) rfl
theorem wl_1215 : (Cond.instanceMethod yX6_not2 : Cond) ∈ WL := WL_of 1215 (by decide +kernel) rfl
theorem wl_1216 : (Cond.code yX6_not2 cX6_not2 4 (some .int) : Cond) ∈ WL := WL_of 1216 (by decide +kernel) rfl
theorem wl_1217 : (Cond.methodLink RX6 300 yX6_not3 : Cond) ∈ WL := WL_of 1217 (by decide +kernel) rfl
theorem wl_1219 : (Cond.instanceMethod yX6_not3 : Cond) ∈ WL := WL_of 1219 (by decide +kernel) rfl
theorem wl_1220 : (Cond.code yX6_not3 cX6_not3 4 (some .int) : Cond) ∈ WL := WL_of 1220 (by decide +kernel) rfl
theorem wl_1221 : (Cond.methodLink RX6 282 yX6_not4 : Cond) ∈ WL := WL_of 1221 (by decide +kernel) rfl
theorem wl_1223 : (Cond.instanceMethod yX6_not4 : Cond) ∈ WL := WL_of 1223 (by decide +kernel) rfl
theorem wl_1224 : (Cond.code yX6_not4 cX6_not4 4 (some .int) : Cond) ∈ WL := WL_of 1224 (by decide +kernel) rfl
theorem wl_1225 : (Cond.methodLink RX6 264 yX6_not5 : Cond) ∈ WL := WL_of 1225 (by decide +kernel) rfl
theorem wl_1227 : (Cond.instanceMethod yX6_not5 : Cond) ∈ WL := WL_of 1227 (by decide +kernel) rfl
theorem wl_1228 : (Cond.code yX6_not5 cX6_not5 4 (some .int) : Cond) ∈ WL := WL_of 1228 (by decide +kernel) rfl
theorem wl_1229 : (Cond.methodLink RX6 259 yX6_added5 : Cond) ∈ WL := WL_of 1229 (by decide +kernel) rfl
theorem wl_1231 : (Cond.instanceMethod yX6_added5 : Cond) ∈ WL := WL_of 1231 (by decide +kernel) rfl
theorem wl_1232 : (Cond.code yX6_added5 cX6_added5 4 (some .int) : Cond) ∈ WL := WL_of 1232 (by decide +kernel) rfl
theorem wl_1233 : (Cond.methodLink RX6 254 yX6_term5 : Cond) ∈ WL := WL_of 1233 (by decide +kernel) rfl
theorem wl_1235 : (Cond.instanceMethod yX6_term5 : Cond) ∈ WL := WL_of 1235 (by decide +kernel) rfl
theorem wl_1236 : (Cond.code yX6_term5 cX6_term5 2 (some .int) : Cond) ∈ WL := WL_of 1236 (by decide +kernel) rfl
theorem wl_1237 : (Cond.methodLink RX6 251 yX6_atom5 : Cond) ∈ WL := WL_of 1237 (by decide +kernel) rfl
theorem wl_1239 : (Cond.instanceMethod yX6_atom5 : Cond) ∈ WL := WL_of 1239 (by decide +kernel) rfl
theorem wl_1240 : (Cond.code yX6_atom5 cX6_atom5 2 (some .int) : Cond) ∈ WL := WL_of 1240 (by decide +kernel) rfl
theorem wl_1241 : (Cond.methodLink RX6 240 yX6_isSign : Cond) ∈ WL := WL_of 1241 (by decide +kernel) rfl
theorem wl_1243 : (Cond.instanceMethod yX6_isSign : Cond) ∈ WL := WL_of 1243 (by decide +kernel) rfl
theorem wl_1244 : (Cond.code yX6_isSign cX6_isSign 2 (some .boolean) : Cond) ∈ WL := WL_of 1244 (by decide +kernel) rfl
theorem wl_1245 : (Cond.methodLink RX6 247 yX6_name : Cond) ∈ WL := WL_of 1245 (by decide +kernel) rfl
theorem wl_1247 : (Cond.instanceMethod yX6_name : Cond) ∈ WL := WL_of 1247 (by decide +kernel) rfl
theorem wl_1248 : (Cond.code yX6_name cX6_name 1 (some .int) : Cond) ∈ WL := WL_of 1248 (by decide +kernel) rfl
theorem wl_1249 : (Cond.constantLong RX6 257 (43) : Cond) ∈ WL := WL_of 1249 (by decide +kernel) rfl
theorem wl_1250 : (Cond.constantLong RX6 262 (60) : Cond) ∈ WL := WL_of 1250 (by decide +kernel) rfl
theorem wl_1251 : (Cond.methodLink RX6 279 yX6_added4 : Cond) ∈ WL := WL_of 1251 (by decide +kernel) rfl
theorem wl_1253 : (Cond.instanceMethod yX6_added4 : Cond) ∈ WL := WL_of 1253 (by decide +kernel) rfl
theorem wl_1254 : (Cond.code yX6_added4 cX6_added4 4 (some .int) : Cond) ∈ WL := WL_of 1254 (by decide +kernel) rfl
theorem wl_1255 : (Cond.methodLink RX6 276 yX6_term4 : Cond) ∈ WL := WL_of 1255 (by decide +kernel) rfl
theorem wl_1257 : (Cond.instanceMethod yX6_term4 : Cond) ∈ WL := WL_of 1257 (by decide +kernel) rfl
theorem wl_1258 : (Cond.code yX6_term4 cX6_term4 2 (some .int) : Cond) ∈ WL := WL_of 1258 (by decide +kernel) rfl
theorem wl_1259 : (Cond.methodLink RX6 273 yX6_atom4 : Cond) ∈ WL := WL_of 1259 (by decide +kernel) rfl
theorem wl_1261 : (Cond.instanceMethod yX6_atom4 : Cond) ∈ WL := WL_of 1261 (by decide +kernel) rfl
theorem wl_1262 : (Cond.code yX6_atom4 cX6_atom4 2 (some .int) : Cond) ∈ WL := WL_of 1262 (by decide +kernel) rfl
theorem wl_1263 : (Cond.methodLink RX6 270 yX6_either5 : Cond) ∈ WL := WL_of 1263 (by decide +kernel) rfl
theorem wl_1265 : (Cond.instanceMethod yX6_either5 : Cond) ∈ WL := WL_of 1265 (by decide +kernel) rfl
theorem wl_1266 : (Cond.code yX6_either5 cX6_either5 3 (some .int) : Cond) ∈ WL := WL_of 1266 (by decide +kernel) rfl
theorem wl_1267 : (Cond.methodLink RX6 267 yX6_both5 : Cond) ∈ WL := WL_of 1267 (by decide +kernel) rfl
theorem wl_1269 : (Cond.instanceMethod yX6_both5 : Cond) ∈ WL := WL_of 1269 (by decide +kernel) rfl
theorem wl_1270 : (Cond.code yX6_both5 cX6_both5 3 (some .int) : Cond) ∈ WL := WL_of 1270 (by decide +kernel) rfl
theorem wl_1271 : (Cond.methodLink RX6 297 yX6_added3 : Cond) ∈ WL := WL_of 1271 (by decide +kernel) rfl
theorem wl_1273 : (Cond.instanceMethod yX6_added3 : Cond) ∈ WL := WL_of 1273 (by decide +kernel) rfl
theorem wl_1274 : (Cond.code yX6_added3 cX6_added3 4 (some .int) : Cond) ∈ WL := WL_of 1274 (by decide +kernel) rfl
theorem wl_1275 : (Cond.methodLink RX6 294 yX6_term3 : Cond) ∈ WL := WL_of 1275 (by decide +kernel) rfl
theorem wl_1277 : (Cond.instanceMethod yX6_term3 : Cond) ∈ WL := WL_of 1277 (by decide +kernel) rfl
theorem wl_1278 : (Cond.code yX6_term3 cX6_term3 2 (some .int) : Cond) ∈ WL := WL_of 1278 (by decide +kernel) rfl
theorem wl_1279 : (Cond.methodLink RX6 291 yX6_atom3 : Cond) ∈ WL := WL_of 1279 (by decide +kernel) rfl
theorem wl_1281 : (Cond.instanceMethod yX6_atom3 : Cond) ∈ WL := WL_of 1281 (by decide +kernel) rfl
theorem wl_1282 : (Cond.code yX6_atom3 cX6_atom3 2 (some .int) : Cond) ∈ WL := WL_of 1282 (by decide +kernel) rfl
theorem wl_1283 : (Cond.methodLink RX6 288 yX6_either4 : Cond) ∈ WL := WL_of 1283 (by decide +kernel) rfl
theorem wl_1285 : (Cond.instanceMethod yX6_either4 : Cond) ∈ WL := WL_of 1285 (by decide +kernel) rfl
theorem wl_1286 : (Cond.code yX6_either4 cX6_either4 3 (some .int) : Cond) ∈ WL := WL_of 1286 (by decide +kernel) rfl
theorem wl_1287 : (Cond.methodLink RX6 285 yX6_both4 : Cond) ∈ WL := WL_of 1287 (by decide +kernel) rfl
theorem wl_1289 : (Cond.instanceMethod yX6_both4 : Cond) ∈ WL := WL_of 1289 (by decide +kernel) rfl
theorem wl_1290 : (Cond.code yX6_both4 cX6_both4 3 (some .int) : Cond) ∈ WL := WL_of 1290 (by decide +kernel) rfl
theorem wl_1291 : (Cond.methodLink RX6 315 yX6_added2 : Cond) ∈ WL := WL_of 1291 (by decide +kernel) rfl
theorem wl_1293 : (Cond.instanceMethod yX6_added2 : Cond) ∈ WL := WL_of 1293 (by decide +kernel) rfl
theorem wl_1294 : (Cond.code yX6_added2 cX6_added2 4 (some .int) : Cond) ∈ WL := WL_of 1294 (by decide +kernel) rfl
theorem wl_1295 : (Cond.methodLink RX6 312 yX6_term2 : Cond) ∈ WL := WL_of 1295 (by decide +kernel) rfl
theorem wl_1297 : (Cond.instanceMethod yX6_term2 : Cond) ∈ WL := WL_of 1297 (by decide +kernel) rfl
theorem wl_1298 : (Cond.code yX6_term2 cX6_term2 2 (some .int) : Cond) ∈ WL := WL_of 1298 (by decide +kernel) rfl
theorem wl_1299 : (Cond.methodLink RX6 309 yX6_atom2 : Cond) ∈ WL := WL_of 1299 (by decide +kernel) rfl
theorem wl_1301 : (Cond.instanceMethod yX6_atom2 : Cond) ∈ WL := WL_of 1301 (by decide +kernel) rfl
theorem wl_1302 : (Cond.code yX6_atom2 cX6_atom2 2 (some .int) : Cond) ∈ WL := WL_of 1302 (by decide +kernel) rfl
theorem wl_1303 : (Cond.methodLink RX6 306 yX6_either3 : Cond) ∈ WL := WL_of 1303 (by decide +kernel) rfl
theorem wl_1305 : (Cond.instanceMethod yX6_either3 : Cond) ∈ WL := WL_of 1305 (by decide +kernel) rfl
theorem wl_1306 : (Cond.code yX6_either3 cX6_either3 3 (some .int) : Cond) ∈ WL := WL_of 1306 (by decide +kernel) rfl
theorem wl_1307 : (Cond.methodLink RX6 303 yX6_both3 : Cond) ∈ WL := WL_of 1307 (by decide +kernel) rfl
theorem wl_1309 : (Cond.instanceMethod yX6_both3 : Cond) ∈ WL := WL_of 1309 (by decide +kernel) rfl
theorem wl_1310 : (Cond.code yX6_both3 cX6_both3 3 (some .int) : Cond) ∈ WL := WL_of 1310 (by decide +kernel) rfl
theorem wl_1311 : (Cond.methodLink RX6 333 yX6_added1 : Cond) ∈ WL := WL_of 1311 (by decide +kernel) rfl
theorem wl_1313 : (Cond.instanceMethod yX6_added1 : Cond) ∈ WL := WL_of 1313 (by decide +kernel) rfl
theorem wl_1314 : (Cond.code yX6_added1 cX6_added1 4 (some .int) : Cond) ∈ WL := WL_of 1314 (by decide +kernel) rfl
theorem wl_1315 : (Cond.methodLink RX6 330 yX6_term1 : Cond) ∈ WL := WL_of 1315 (by decide +kernel) rfl
theorem wl_1317 : (Cond.instanceMethod yX6_term1 : Cond) ∈ WL := WL_of 1317 (by decide +kernel) rfl
theorem wl_1318 : (Cond.code yX6_term1 cX6_term1 2 (some .int) : Cond) ∈ WL := WL_of 1318 (by decide +kernel) rfl
theorem wl_1319 : (Cond.methodLink RX6 327 yX6_atom1 : Cond) ∈ WL := WL_of 1319 (by decide +kernel) rfl
theorem wl_1321 : (Cond.instanceMethod yX6_atom1 : Cond) ∈ WL := WL_of 1321 (by decide +kernel) rfl
theorem wl_1322 : (Cond.code yX6_atom1 cX6_atom1 2 (some .int) : Cond) ∈ WL := WL_of 1322 (by decide +kernel) rfl
theorem wl_1323 : (Cond.methodLink RX6 324 yX6_either2 : Cond) ∈ WL := WL_of 1323 (by decide +kernel) rfl
theorem wl_1325 : (Cond.instanceMethod yX6_either2 : Cond) ∈ WL := WL_of 1325 (by decide +kernel) rfl
theorem wl_1326 : (Cond.code yX6_either2 cX6_either2 3 (some .int) : Cond) ∈ WL := WL_of 1326 (by decide +kernel) rfl
theorem wl_1327 : (Cond.methodLink RX6 321 yX6_both2 : Cond) ∈ WL := WL_of 1327 (by decide +kernel) rfl
theorem wl_1329 : (Cond.instanceMethod yX6_both2 : Cond) ∈ WL := WL_of 1329 (by decide +kernel) rfl
theorem wl_1330 : (Cond.code yX6_both2 cX6_both2 3 (some .int) : Cond) ∈ WL := WL_of 1330 (by decide +kernel) rfl
theorem wl_1331 : (Cond.methodLink RX6 351 yX6_added0 : Cond) ∈ WL := WL_of 1331 (by decide +kernel) rfl
theorem wl_1333 : (Cond.instanceMethod yX6_added0 : Cond) ∈ WL := WL_of 1333 (by decide +kernel) rfl
theorem wl_1334 : (Cond.code yX6_added0 cX6_added0 4 (some .int) : Cond) ∈ WL := WL_of 1334 (by decide +kernel) rfl
theorem wl_1335 : (Cond.methodLink RX6 348 yX6_term0 : Cond) ∈ WL := WL_of 1335 (by decide +kernel) rfl
theorem wl_1337 : (Cond.instanceMethod yX6_term0 : Cond) ∈ WL := WL_of 1337 (by decide +kernel) rfl
theorem wl_1338 : (Cond.code yX6_term0 cX6_term0 2 (some .int) : Cond) ∈ WL := WL_of 1338 (by decide +kernel) rfl
theorem wl_1339 : (Cond.methodLink RX6 345 yX6_atom0 : Cond) ∈ WL := WL_of 1339 (by decide +kernel) rfl
theorem wl_1341 : (Cond.instanceMethod yX6_atom0 : Cond) ∈ WL := WL_of 1341 (by decide +kernel) rfl
theorem wl_1342 : (Cond.code yX6_atom0 cX6_atom0 2 (some .int) : Cond) ∈ WL := WL_of 1342 (by decide +kernel) rfl
theorem wl_1343 : (Cond.methodLink RX6 342 yX6_either1 : Cond) ∈ WL := WL_of 1343 (by decide +kernel) rfl
theorem wl_1345 : (Cond.instanceMethod yX6_either1 : Cond) ∈ WL := WL_of 1345 (by decide +kernel) rfl
theorem wl_1346 : (Cond.code yX6_either1 cX6_either1 3 (some .int) : Cond) ∈ WL := WL_of 1346 (by decide +kernel) rfl
theorem wl_1347 : (Cond.methodLink RX6 339 yX6_both1 : Cond) ∈ WL := WL_of 1347 (by decide +kernel) rfl
theorem wl_1349 : (Cond.instanceMethod yX6_both1 : Cond) ∈ WL := WL_of 1349 (by decide +kernel) rfl
theorem wl_1350 : (Cond.code yX6_both1 cX6_both1 3 (some .int) : Cond) ∈ WL := WL_of 1350 (by decide +kernel) rfl
theorem wl_1359 : (Cond.constantLong RX6 377 (2) : Cond) ∈ WL := WL_of 1359 (by decide +kernel) rfl
theorem wl_1360 : (Cond.methodLink RX6 379 yX6_says : Cond) ∈ WL := WL_of 1360 (by decide +kernel) rfl
theorem wl_1362 : (Cond.instanceMethod yX6_says : Cond) ∈ WL := WL_of 1362 (by decide +kernel) rfl
theorem wl_1363 : (Cond.code yX6_says cX6_says 5 (some .int) : Cond) ∈ WL := WL_of 1363 (by decide +kernel) rfl
theorem wl_1364 : (Cond.methodLink RX6 373 yX6_within : Cond) ∈ WL := WL_of 1364 (by decide +kernel) rfl
theorem wl_1365 : (Cond.static yX6_within : Cond) ∈ WL := WL_of 1365 (by decide +kernel) rfl
theorem wl_1366 : (Cond.code yX6_within cX6_within 3 (some .int) : Cond) ∈ WL := WL_of 1366 (by decide +kernel) rfl
theorem wl_1368 : (Cond.instanceMethod yX6_move : Cond) ∈ WL := WL_of 1368 (by decide +kernel) rfl
theorem wl_1369 : (Cond.selects RX6 yX6_move yX6_move : Cond) ∈ WL := WL_of 1369 (by decide +kernel) rfl
theorem wl_1370 : (Cond.code yX6_move cX6_move 4 (some .int) : Cond) ∈ WL := WL_of 1370 (by decide +kernel) rfl
theorem wl_1371 : (Cond.methodLink RX6 383 yX6_canGo : Cond) ∈ WL := WL_of 1371 (by decide +kernel) rfl
theorem wl_1373 : (Cond.instanceMethod yX6_canGo : Cond) ∈ WL := WL_of 1373 (by decide +kernel) rfl
theorem wl_1374 : (Cond.code yX6_canGo cX6_canGo 3 (some .boolean) : Cond) ∈ WL := WL_of 1374 (by decide +kernel) rfl
theorem wl_1375 : (Cond.methodLink RX6 137 yX6_barsThing : Cond) ∈ WL := WL_of 1375 (by decide +kernel) rfl
theorem wl_1377 : (Cond.instanceMethod yX6_barsThing : Cond) ∈ WL := WL_of 1377 (by decide +kernel) rfl
theorem wl_1378 : (Cond.code yX6_barsThing cX6_barsThing 3 (some .int) : Cond) ∈ WL := WL_of 1378 (by decide +kernel) rfl
theorem wl_1387 : (Cond.methodLink RX6 386 yX6_isOpen : Cond) ∈ WL := WL_of 1387 (by decide +kernel) rfl
theorem wl_1389 : (Cond.instanceMethod yX6_isOpen : Cond) ∈ WL := WL_of 1389 (by decide +kernel) rfl
theorem wl_1390 : (Cond.code yX6_isOpen cX6_isOpen 3 (some .boolean) : Cond) ∈ WL := WL_of 1390 (by decide +kernel) rfl
theorem wl_1395 : (Cond.methodLink RX6 409 yX6_gathers : Cond) ∈ WL := WL_of 1395 (by decide +kernel) rfl
theorem wl_1397 : (Cond.instanceMethod yX6_gathers : Cond) ∈ WL := WL_of 1397 (by decide +kernel) rfl
theorem wl_1398 : (Cond.code yX6_gathers cX6_gathers 6 none : Cond) ∈ WL := WL_of 1398 (by decide +kernel) rfl
theorem wl_1399 : (Cond.methodLink RX6 392 yX6_codeNow : Cond) ∈ WL := WL_of 1399 (by decide +kernel) rfl
theorem wl_1401 : (Cond.instanceMethod yX6_codeNow : Cond) ∈ WL := WL_of 1401 (by decide +kernel) rfl
theorem wl_1402 : (Cond.code yX6_codeNow cX6_codeNow 3 (some .int) : Cond) ∈ WL := WL_of 1402 (by decide +kernel) rfl
theorem wl_1403 : (Cond.methodLink RX6 389 yX6_place : Cond) ∈ WL := WL_of 1403 (by decide +kernel) rfl
theorem wl_1404 : (Cond.static yX6_place : Cond) ∈ WL := WL_of 1404 (by decide +kernel) rfl
theorem wl_1405 : (Cond.code yX6_place cX6_place 1 (some .int) : Cond) ∈ WL := WL_of 1405 (by decide +kernel) rfl
theorem wl_1406 : (Cond.methodLink RX6 395 yX6_lays : Cond) ∈ WL := WL_of 1406 (by decide +kernel) rfl
theorem wl_1408 : (Cond.instanceMethod yX6_lays : Cond) ∈ WL := WL_of 1408 (by decide +kernel) rfl
theorem wl_1409 : (Cond.code yX6_lays cX6_lays 3 none : Cond) ∈ WL := WL_of 1409 (by decide +kernel) rfl
theorem wl_1410 : (Cond.methodLink RX6 399 yX6_areWell : Cond) ∈ WL := WL_of 1410 (by decide +kernel) rfl
theorem wl_1412 : (Cond.instanceMethod yX6_areWell : Cond) ∈ WL := WL_of 1412 (by decide +kernel) rfl
theorem wl_1413 : (Cond.code yX6_areWell cX6_areWell 2 (some .boolean) : Cond) ∈ WL := WL_of 1413 (by decide +kernel) rfl
theorem wl_1414 : (Cond.constant RX6 402 (99999999) : Cond) ∈ WL := WL_of 1414 (by decide +kernel) rfl
theorem wl_1415 : (Cond.methodLink RX6 403 yX6_eases : Cond) ∈ WL := WL_of 1415 (by decide +kernel) rfl
theorem wl_1417 : (Cond.instanceMethod yX6_eases : Cond) ∈ WL := WL_of 1417 (by decide +kernel) rfl
theorem wl_1418 : (Cond.code yX6_eases cX6_eases 7 (some .boolean) : Cond) ∈ WL := WL_of 1418 (by decide +kernel) rfl
theorem wl_1419 : (Cond.methodLink RX6 406 yX6_after : Cond) ∈ WL := WL_of 1419 (by decide +kernel) rfl
theorem wl_1421 : (Cond.instanceMethod yX6_after : Cond) ∈ WL := WL_of 1421 (by decide +kernel) rfl
theorem wl_1422 : (Cond.code yX6_after cX6_after 4 (some .int) : Cond) ∈ WL := WL_of 1422 (by decide +kernel) rfl
theorem wl_1423 : (Cond.methodLink RX6 412 yX6_told1 : Cond) ∈ WL := WL_of 1423 (by decide +kernel) rfl
theorem wl_1424 : (Cond.static yX6_told1 : Cond) ∈ WL := WL_of 1424 (by decide +kernel) rfl
theorem wl_1425 : (Cond.code yX6_told1 cX6_told1 1 (some .int) : Cond) ∈ WL := WL_of 1425 (by decide +kernel) rfl
theorem wl_1426 : (Cond.methodLink RX6 415 yX6_moveBy : Cond) ∈ WL := WL_of 1426 (by decide +kernel) rfl
theorem wl_1428 : (Cond.instanceMethod yX6_moveBy : Cond) ∈ WL := WL_of 1428 (by decide +kernel) rfl
theorem wl_1429 : (Cond.code yX6_moveBy cX6_moveBy 6 (some .int) : Cond) ∈ WL := WL_of 1429 (by decide +kernel) rfl
theorem wl_1430 : (Cond.methodLink RX6 418 yX6_reaches : Cond) ∈ WL := WL_of 1430 (by decide +kernel) rfl
theorem wl_1432 : (Cond.instanceMethod yX6_reaches : Cond) ∈ WL := WL_of 1432 (by decide +kernel) rfl
theorem wl_1433 : (Cond.code yX6_reaches cX6_reaches 8 (some .int) : Cond) ∈ WL := WL_of 1433 (by decide +kernel) rfl
theorem wl_1454 : (Cond.methodLink RX6 430 yX6_isSheet : Cond) ∈ WL := WL_of 1454 (by decide +kernel) rfl
theorem wl_1455 : (Cond.static yX6_isSheet : Cond) ∈ WL := WL_of 1455 (by decide +kernel) rfl
theorem wl_1456 : (Cond.code yX6_isSheet cX6_isSheet 1 (some .boolean) : Cond) ∈ WL := WL_of 1456 (by decide +kernel) rfl
theorem wl_1457 : (Cond.methodLink RX6 433 yX6_goesBy : Cond) ∈ WL := WL_of 1457 (by decide +kernel) rfl
theorem wl_1459 : (Cond.instanceMethod yX6_goesBy : Cond) ∈ WL := WL_of 1459 (by decide +kernel) rfl
theorem wl_1460 : (Cond.code yX6_goesBy cX6_goesBy 6 (some .int) : Cond) ∈ WL := WL_of 1460 (by decide +kernel) rfl
theorem wl_1461 : (Cond.methodLink RX6 424 yX6_move : Cond) ∈ WL := WL_of 1461 (by decide +kernel) rfl
theorem wl_1466 : (Cond.constantLong RX6 436 (8) : Cond) ∈ WL := WL_of 1466 (by decide +kernel) rfl
theorem wl_1467 : (Cond.constantLong RX6 438 (-4611686018427387904) : Cond) ∈ WL := WL_of 1467 (by decide +kernel) rfl
theorem wl_1468 : (Cond.methodLink RX6 440 yX6_codeOf : Cond) ∈ WL := WL_of 1468 (by decide +kernel) rfl
theorem wl_1470 : (Cond.instanceMethod yX6_codeOf : Cond) ∈ WL := WL_of 1470 (by decide +kernel) rfl
theorem wl_1471 : (Cond.code yX6_codeOf cX6_codeOf 5 (some .int) : Cond) ∈ WL := WL_of 1471 (by decide +kernel) rfl
theorem wl_1472 : (Cond.methodLink RX6 443 yX6_begins : Cond) ∈ WL := WL_of 1472 (by decide +kernel) rfl
theorem wl_1474 : (Cond.instanceMethod yX6_begins : Cond) ∈ WL := WL_of 1474 (by decide +kernel) rfl
theorem wl_1475 : (Cond.code yX6_begins cX6_begins 2 none : Cond) ∈ WL := WL_of 1475 (by decide +kernel) rfl
theorem wl_1476 : (Cond.methodLink RX6 446 yX6_steps : Cond) ∈ WL := WL_of 1476 (by decide +kernel) rfl
theorem wl_1478 : (Cond.instanceMethod yX6_steps : Cond) ∈ WL := WL_of 1478 (by decide +kernel) rfl
theorem wl_1479 : (Cond.code yX6_steps cX6_steps 6 none : Cond) ∈ WL := WL_of 1479 (by decide +kernel) rfl
theorem wl_1488 : (Cond.constantLong RX6 450 (40) : Cond) ∈ WL := WL_of 1488 (by decide +kernel) rfl
theorem wl_1489 : (Cond.methodLink RX6 452 yX6_draws : Cond) ∈ WL := WL_of 1489 (by decide +kernel) rfl
theorem wl_1491 : (Cond.instanceMethod yX6_draws : Cond) ∈ WL := WL_of 1491 (by decide +kernel) rfl
theorem wl_1492 : (Cond.code yX6_draws cX6_draws 8 (some .int) : Cond) ∈ WL := WL_of 1492 (by decide +kernel) rfl
theorem wl_1493 : (Cond.constant RX6 449 (1103515245) : Cond) ∈ WL := WL_of 1493 (by decide +kernel) rfl
theorem wl_1498 : (Cond.constantLong RX6 455 (20) : Cond) ∈ WL := WL_of 1498 (by decide +kernel) rfl
theorem wl_1511 : (Cond.constantLong RX6 469 (6) : Cond) ∈ WL := WL_of 1511 (by decide +kernel) rfl
theorem wl_1516 : (Cond.constantLong RX6 471 (-1) : Cond) ∈ WL := WL_of 1516 (by decide +kernel) rfl
theorem wl_1529 : (Cond.methodLink RX6 473 yX6_thing : Cond) ∈ WL := WL_of 1529 (by decide +kernel) rfl
theorem wl_1534 : (Cond.methodLink RX6 476 yX6_over : Cond) ∈ WL := WL_of 1534 (by decide +kernel) rfl
theorem wl_1535 : (Cond.static yX6_over : Cond) ∈ WL := WL_of 1535 (by decide +kernel) rfl
theorem wl_1536 : (Cond.code yX6_over cX6_over 1 (some .int) : Cond) ∈ WL := WL_of 1536 (by decide +kernel) rfl
theorem wl_1537 : (Cond.fieldLink RJ0 9 "java/lang/String" "value" "[B" : Cond) ∈ WL := WL_of 1537 (by decide +kernel) rfl
theorem wl_1538 : (Cond.fieldLink RJ0 15 "java/lang/String" "coder" "B" : Cond) ∈ WL := WL_of 1538 (by decide +kernel) rfl
theorem inlX0 : ∀ w ∈ wsX00, w ∈ WL := by
  intro w hw
  obtain ⟨k, hk, rfl⟩ := List.mem_map.mp hw
  have hk := List.mem_range.mp hk
  match k, hk with
  | 0, _ => exact WL_of 167 (by decide +kernel) (by decide +kernel)
  | 1, _ => exact WL_of 169 (by decide +kernel) (by decide +kernel)
  | 2, _ => exact WL_of 171 (by decide +kernel) (by decide +kernel)
  | 3, _ => exact WL_of 173 (by decide +kernel) (by decide +kernel)
  | 4, _ => exact WL_of 175 (by decide +kernel) (by decide +kernel)
  | 5, _ => exact WL_of 177 (by decide +kernel) (by decide +kernel)
  | 6, _ => exact WL_of 179 (by decide +kernel) (by decide +kernel)
  | 7, _ => exact WL_of 181 (by decide +kernel) (by decide +kernel)
  | 8, _ => exact WL_of 183 (by decide +kernel) (by decide +kernel)
  | 9, _ => exact WL_of 185 (by decide +kernel) (by decide +kernel)
  | 10, _ => exact WL_of 187 (by decide +kernel) (by decide +kernel)
  | 11, _ => exact WL_of 189 (by decide +kernel) (by decide +kernel)
  | 12, _ => exact WL_of 191 (by decide +kernel) (by decide +kernel)
  | k + 13, h => exact absurd h (by omega)
theorem inlX1 : ∀ w ∈ wsX10, w ∈ WL := by
  intro w hw
  obtain ⟨k, hk, rfl⟩ := List.mem_map.mp hw
  have hk := List.mem_range.mp hk
  match k, hk with
  | 0, _ => exact WL_of 215 (by decide +kernel) (by decide +kernel)
  | 1, _ => exact WL_of 217 (by decide +kernel) (by decide +kernel)
  | 2, _ => exact WL_of 219 (by decide +kernel) (by decide +kernel)
  | 3, _ => exact WL_of 221 (by decide +kernel) (by decide +kernel)
  | 4, _ => exact WL_of 223 (by decide +kernel) (by decide +kernel)
  | 5, _ => exact WL_of 225 (by decide +kernel) (by decide +kernel)
  | 6, _ => exact WL_of 227 (by decide +kernel) (by decide +kernel)
  | 7, _ => exact WL_of 229 (by decide +kernel) (by decide +kernel)
  | 8, _ => exact WL_of 231 (by decide +kernel) (by decide +kernel)
  | 9, _ => exact WL_of 233 (by decide +kernel) (by decide +kernel)
  | 10, _ => exact WL_of 235 (by decide +kernel) (by decide +kernel)
  | 11, _ => exact WL_of 237 (by decide +kernel) (by decide +kernel)
  | 12, _ => exact WL_of 239 (by decide +kernel) (by decide +kernel)
  | 13, _ => exact WL_of 241 (by decide +kernel) (by decide +kernel)
  | k + 14, h => exact absurd h (by omega)
theorem inlX2 : ∀ w ∈ wsX20, w ∈ WL := by
  intro w hw
  obtain ⟨k, hk, rfl⟩ := List.mem_map.mp hw
  have hk := List.mem_range.mp hk
  match k, hk with
  | 0, _ => exact WL_of 306 (by decide +kernel) (by decide +kernel)
  | 1, _ => exact WL_of 308 (by decide +kernel) (by decide +kernel)
  | 2, _ => exact WL_of 310 (by decide +kernel) (by decide +kernel)
  | k + 3, h => exact absurd h (by omega)
theorem inlX3 : ∀ w ∈ wsX30, w ∈ WL := by
  intro w hw
  obtain ⟨k, hk, rfl⟩ := List.mem_map.mp hw
  have hk := List.mem_range.mp hk
  match k, hk with
  | 0, _ => exact WL_of 258 (by decide +kernel) (by decide +kernel)
  | 1, _ => exact WL_of 260 (by decide +kernel) (by decide +kernel)
  | 2, _ => exact WL_of 262 (by decide +kernel) (by decide +kernel)
  | 3, _ => exact WL_of 264 (by decide +kernel) (by decide +kernel)
  | 4, _ => exact WL_of 266 (by decide +kernel) (by decide +kernel)
  | 5, _ => exact WL_of 268 (by decide +kernel) (by decide +kernel)
  | 6, _ => exact WL_of 270 (by decide +kernel) (by decide +kernel)
  | k + 7, h => exact absurd h (by omega)
theorem inlX4 : ∀ w ∈ wsX40, w ∈ WL := by
  intro w hw
  obtain ⟨k, hk, rfl⟩ := List.mem_map.mp hw
  have hk := List.mem_range.mp hk
  match k, hk with
  | 0, _ => exact WL_of 286 (by decide +kernel) (by decide +kernel)
  | 1, _ => exact WL_of 288 (by decide +kernel) (by decide +kernel)
  | 2, _ => exact WL_of 290 (by decide +kernel) (by decide +kernel)
  | 3, _ => exact WL_of 292 (by decide +kernel) (by decide +kernel)
  | k + 4, h => exact absurd h (by omega)
theorem inlX5 : ∀ w ∈ wsX50, w ∈ WL := by
  intro w hw
  obtain ⟨k, hk, rfl⟩ := List.mem_map.mp hw
  have hk := List.mem_range.mp hk
  match k, hk with
  | 0, _ => exact WL_of 492 (by decide +kernel) (by decide +kernel)
  | 1, _ => exact WL_of 494 (by decide +kernel) (by decide +kernel)
  | 2, _ => exact WL_of 496 (by decide +kernel) (by decide +kernel)
  | 3, _ => exact WL_of 498 (by decide +kernel) (by decide +kernel)
  | 4, _ => exact WL_of 500 (by decide +kernel) (by decide +kernel)
  | 5, _ => exact WL_of 502 (by decide +kernel) (by decide +kernel)
  | 6, _ => exact WL_of 504 (by decide +kernel) (by decide +kernel)
  | 7, _ => exact WL_of 506 (by decide +kernel) (by decide +kernel)
  | 8, _ => exact WL_of 508 (by decide +kernel) (by decide +kernel)
  | 9, _ => exact WL_of 510 (by decide +kernel) (by decide +kernel)
  | k + 10, h => exact absurd h (by omega)
theorem inlX6 : ∀ w ∈ wsX60, w ∈ WL := by
  intro w hw
  obtain ⟨k, hk, rfl⟩ := List.mem_map.mp hw
  have hk := List.mem_range.mp hk
  match k, hk with
  | 0, _ => exact WL_of 973 (by decide +kernel) (by decide +kernel)
  | 1, _ => exact WL_of 975 (by decide +kernel) (by decide +kernel)
  | 2, _ => exact WL_of 977 (by decide +kernel) (by decide +kernel)
  | 3, _ => exact WL_of 979 (by decide +kernel) (by decide +kernel)
  | 4, _ => exact WL_of 981 (by decide +kernel) (by decide +kernel)
  | 5, _ => exact WL_of 983 (by decide +kernel) (by decide +kernel)
  | 6, _ => exact WL_of 985 (by decide +kernel) (by decide +kernel)
  | 7, _ => exact WL_of 987 (by decide +kernel) (by decide +kernel)
  | 8, _ => exact WL_of 989 (by decide +kernel) (by decide +kernel)
  | 9, _ => exact WL_of 991 (by decide +kernel) (by decide +kernel)
  | 10, _ => exact WL_of 993 (by decide +kernel) (by decide +kernel)
  | 11, _ => exact WL_of 995 (by decide +kernel) (by decide +kernel)
  | 12, _ => exact WL_of 997 (by decide +kernel) (by decide +kernel)
  | 13, _ => exact WL_of 999 (by decide +kernel) (by decide +kernel)
  | 14, _ => exact WL_of 1001 (by decide +kernel) (by decide +kernel)
  | 15, _ => exact WL_of 1003 (by decide +kernel) (by decide +kernel)
  | 16, _ => exact WL_of 1005 (by decide +kernel) (by decide +kernel)
  | 17, _ => exact WL_of 1007 (by decide +kernel) (by decide +kernel)
  | 18, _ => exact WL_of 1009 (by decide +kernel) (by decide +kernel)
  | 19, _ => exact WL_of 1011 (by decide +kernel) (by decide +kernel)
  | 20, _ => exact WL_of 1013 (by decide +kernel) (by decide +kernel)
  | 21, _ => exact WL_of 1015 (by decide +kernel) (by decide +kernel)
  | 22, _ => exact WL_of 1017 (by decide +kernel) (by decide +kernel)
  | 23, _ => exact WL_of 1019 (by decide +kernel) (by decide +kernel)
  | 24, _ => exact WL_of 1021 (by decide +kernel) (by decide +kernel)
  | 25, _ => exact WL_of 1023 (by decide +kernel) (by decide +kernel)
  | 26, _ => exact WL_of 1025 (by decide +kernel) (by decide +kernel)
  | 27, _ => exact WL_of 1027 (by decide +kernel) (by decide +kernel)
  | 28, _ => exact WL_of 1029 (by decide +kernel) (by decide +kernel)
  | 29, _ => exact WL_of 1031 (by decide +kernel) (by decide +kernel)
  | 30, _ => exact WL_of 1033 (by decide +kernel) (by decide +kernel)
  | 31, _ => exact WL_of 1035 (by decide +kernel) (by decide +kernel)
  | 32, _ => exact WL_of 1037 (by decide +kernel) (by decide +kernel)
  | 33, _ => exact WL_of 1039 (by decide +kernel) (by decide +kernel)
  | 34, _ => exact WL_of 1041 (by decide +kernel) (by decide +kernel)
  | 35, _ => exact WL_of 1043 (by decide +kernel) (by decide +kernel)
  | 36, _ => exact WL_of 1045 (by decide +kernel) (by decide +kernel)
  | 37, _ => exact WL_of 1047 (by decide +kernel) (by decide +kernel)
  | 38, _ => exact WL_of 1049 (by decide +kernel) (by decide +kernel)
  | 39, _ => exact WL_of 1051 (by decide +kernel) (by decide +kernel)
  | 40, _ => exact WL_of 1053 (by decide +kernel) (by decide +kernel)
  | 41, _ => exact WL_of 1055 (by decide +kernel) (by decide +kernel)
  | 42, _ => exact WL_of 1057 (by decide +kernel) (by decide +kernel)
  | 43, _ => exact WL_of 1059 (by decide +kernel) (by decide +kernel)
  | 44, _ => exact WL_of 1061 (by decide +kernel) (by decide +kernel)
  | 45, _ => exact WL_of 1063 (by decide +kernel) (by decide +kernel)
  | 46, _ => exact WL_of 1065 (by decide +kernel) (by decide +kernel)
  | 47, _ => exact WL_of 1067 (by decide +kernel) (by decide +kernel)
  | 48, _ => exact WL_of 1069 (by decide +kernel) (by decide +kernel)
  | 49, _ => exact WL_of 1071 (by decide +kernel) (by decide +kernel)
  | 50, _ => exact WL_of 1073 (by decide +kernel) (by decide +kernel)
  | 51, _ => exact WL_of 1075 (by decide +kernel) (by decide +kernel)
  | 52, _ => exact WL_of 1077 (by decide +kernel) (by decide +kernel)
  | 53, _ => exact WL_of 1079 (by decide +kernel) (by decide +kernel)
  | k + 54, h => exact absurd h (by omega)
end
section
/-! PURE WORDS: a memory of regions; what a method's pure function is made of -/
abbrev MM : Type := (Nat → Nat → Int32) × (Nat → Nat → Int64)
def rI (m : MM) (k i : Nat) : Int32 := m.1 k i
def rL (m : MM) (k i : Nat) : Int64 := m.2 k i
def wI (m : MM) (k i : Nat) (v : Int32) : MM := (fun q => if q = k then upd (m.1 k) i v else m.1 q, m.2)
def wL (m : MM) (k i : Nat) (v : Int64) : MM := (m.1, fun q => if q = k then vp_updL (m.2 k) i v else m.2 q)
def wA (m : MM) (k : Nat) (f : Nat → Int32) : MM := (fun q => if q = k then f else m.1 q, m.2)
abbrev ix (i : Int32) : Nat := i.toNatClampNeg
def inB (i : Int32) (n : Nat) : Bool := decide (0 ≤ i) && decide (i.toNatClampNeg < n)
def bz (x : Int32) : Bool := x == 0 || x == 1
def nz (x : Int32) : Bool := !(x == 0)
def nzL (x : Int64) : Bool := !(x == 0)
def remI (x y : Int32) : Int32 := x - x / y * y
def remL (x y : Int64) : Int64 := x - x / y * y
def shlI (x y : Int32) : Int32 := x <<< (y &&& 31)
def shrI (x y : Int32) : Int32 := x >>> (y &&& 31)
def ushI (x y : Int32) : Int32 := (x.toUInt32 >>> (y.toUInt32 &&& Int32.toUInt32 31)).toInt32
def maxI (x y : Int32) : Int32 := if x < y then y else x
def minI (x y : Int32) : Int32 := if y < x then y else x
def cpyOk (i j n : Int32) (a b : Nat) : Bool := decide (0 ≤ i) && (decide (0 ≤ j) && (decide (0 ≤ n) && (decide (i.toNatClampNeg + n.toNatClampNeg ≤ a) && decide (j.toNatClampNeg + n.toNatClampNeg ≤ b))))
def cpy (m : MM) (k : Nat) (i : Int32) (k2 : Nat) (j n : Int32) : MM := wA m k2 (va_cpy (m.1 k) (m.1 k2) i.toNatClampNeg j.toNatClampNeg n.toNatClampNeg)
def Lt {α β : Type} (e : α) (k : α → β) : β := k e
def Jp {α β : Type} (j : α) (b : α → β) : β := b j
def Gu {β : Type} (b : Bool) (k : Option β) : Option β := match b with | true => k | false => none
def bd1 {α β : Type} (x : Option α) (k : α → Option β) : Option β := match x with | some a => k a | none => none
def bd2 {α γ β : Type} (x : Option (α × γ)) (k : α → γ → Option β) : Option β := match x with | some a => k a.1 a.2 | none => none
theorem Gu_inv {β : Type} {b : Bool} {k : Option β} {y : β} (h : Gu b k = some y) : b = true ∧ k = some y := by
  cases b with
  | true => exact ⟨rfl, h⟩
  | false => cases h
theorem bd1_inv {α β : Type} {x : Option α} {k : α → Option β} {y : β} (h : bd1 x k = some y) : ∃ a, x = some a ∧ k a = some y := by
  cases x with
  | none => cases h
  | some a => exact ⟨a, rfl, h⟩
theorem bd2_inv {α γ β : Type} {x : Option (α × γ)} {k : α → γ → Option β} {y : β} (h : bd2 x k = some y) : ∃ a b, x = some (a, b) ∧ k a b = some y := by
  cases x with
  | none => cases h
  | some a => exact ⟨a.1, a.2, rfl, h⟩
theorem inB_in {i : Int32} {n : Nat} (h : inB i n = true) : vp_in i n := by
  unfold inB at h
  rw [Bool.and_eq_true, decide_eq_true_eq, decide_eq_true_eq] at h
  intro q
  rcases q with q | q
  · exact Int32.not_lt.mpr h.1 q
  · omega
theorem bz_or {x : Int32} (h : bz x = true) : x = 0 ∨ x = 1 := by
  unfold bz at h
  rw [Bool.or_eq_true, beq_iff_eq, beq_iff_eq] at h
  exact h
theorem bz_nar {x : Int32} (h : bz x = true) : narrow .boolean (.int x) = .int x := by
  rcases bz_or h with rfl | rfl <;> decide
theorem bz_fit {x : Int32} (h : bz x = true) : fits .boolean (.int x) = true := by
  rcases bz_or h with rfl | rfl <;> decide
theorem bz_vp {x : Int32} (h : bz x = true) : vp_nar .boolean x = x := by
  rcases bz_or h with rfl | rfl <;> decide
theorem nz_ne {x : Int32} (h : nz x = true) : ¬ x = 0 := by
  intro q
  subst q
  cases h
theorem nzL_ne {x : Int64} (h : nzL x = true) : ¬ x = 0 := by
  intro q
  subst q
  cases h
/-! THE WORLD: region k's cell at the address ad k -/
abbrev CF : Type := (Nat → ClassId) → (Nat → Nat) → Nat → (Nat → Int32) → (Nat → Int64) → va_E
def WD (cf : CF) (n : Nat) (cA : Nat → ClassId) (ad : Nat → Nat) (m : MM) : va_W := (List.range n).map (fun k => (ad k, cf cA ad k (m.1 k) (m.2 k)))
def FI (cf : CF) (n k len : Nat) : Prop := k < n ∧ ∀ cA ad r g, cf cA ad k r g = .inl (cA 0, len, .inl r)
def FL (cf : CF) (n k len : Nat) : Prop := k < n ∧ ∀ cA ad r g, cf cA ad k r g = .inl (cA 1, len, .inr (.inl g))
def FZ (cf : CF) (n k len : Nat) : Prop := k < n ∧ ∀ cA ad r g, cf cA ad k r g = .inl (cA 2, len, .inl r)
def FQ (cf : CF) (n k t len : Nat) (f : Nat → Nat) : Prop := k < n ∧ ∀ cA ad r g, cf cA ad k r g = .inl (cA t, len, .inr (.inr (.inr (.inr (fun i => some (ad (f i)))))))
def FO (cf : CF) (n k ci : Nat) (fs : (Nat → Nat) → Nat → (Nat → Int32) → (Nat → Int64) → List Value) : Prop := k < n ∧ ∀ cA ad r g, cf cA ad k r g = .inr (ci, fs ad k r g)
def tyL (cA : Nat → ClassId) : List (ClassId × FieldType) := [(cA 0, .int), (cA 1, .long), (cA 2, .boolean), (cA 3, .object "BothHandsFull$Text"), (cA 4, .object "BothHandsFull$Sheet")]
def AP (ad : Nat → Nat) (n : Nat) : Prop := ∀ i j, i < n → j < n → ad i = ad j → i = j
def AA (ad : Nat → Nat) (n sz : Nat) : Nat → Prop := fun q => (∃ k, k < n ∧ q = ad k) ∨ sz ≤ q
theorem WD_at {cf : CF} {n : Nat} {cA : Nat → ClassId} {ad : Nat → Nat} {m : MM} {k : Nat} (h : k < n) : (WD cf n cA ad m)[k]? = some (ad k, cf cA ad k (m.1 k) (m.2 k)) := by
  unfold WD
  rw [List.getElem?_map, List.getElem?_range h]
  rfl
theorem WD_out {cf : CF} {n : Nat} {cA : Nat → ClassId} {ad : Nat → Nat} {m : MM} {k : Nat} {q : Nat × va_E} (h : (WD cf n cA ad m)[k]? = some q) : k < n ∧ q = (ad k, cf cA ad k (m.1 k) (m.2 k)) := by
  have hk : k < n := by
    have := (List.getElem?_eq_some_iff.mp h).1
    simpa [WD] using this
  refine ⟨hk, ?_⟩
  rw [WD_at hk] at h
  exact (Option.some.inj h).symm
theorem WD_len {cf : CF} {n : Nat} {cA : Nat → ClassId} {ad : Nat → Nat} {m : MM} : (WD cf n cA ad m).length = n := by simp [WD]
theorem WD_set {cf : CF} {n : Nat} {cA : Nat → ClassId} {ad : Nat → Nat} {m m' : MM} {k : Nat} {e : va_E} (hk : k < n) (he : cf cA ad k (m'.1 k) (m'.2 k) = e) (h1 : ∀ q, q ≠ k → m'.1 q = m.1 q) (h2 : ∀ q, q ≠ k → m'.2 q = m.2 q) : (WD cf n cA ad m).set k (ad k, e) = WD cf n cA ad m' := by
  apply List.ext_getElem?
  intro i
  by_cases hi : i < n
  · rw [WD_at hi]
    by_cases hik : k = i
    · subst hik
      rw [List.getElem?_set_self (by rw [WD_len]; exact hk), he]
    · rw [List.getElem?_set_ne hik, WD_at hi, h1 i (Ne.symm hik), h2 i (Ne.symm hik)]
  · rw [List.getElem?_eq_none (by rw [List.length_set, WD_len]; omega), List.getElem?_eq_none (by rw [WD_len]; omega)]
theorem WD_D {cf : CF} {n sz : Nat} {cA : Nat → ClassId} {ad : Nat → Nat} (h : AP ad n) (m : MM) : va_D (AA ad n sz) (WD cf n cA ad m) := by
  refine ⟨fun i j p q hi hj he => ?_, fun k q hk => ?_⟩
  · obtain ⟨h1, rfl⟩ := WD_out hi
    obtain ⟨h2, rfl⟩ := WD_out hj
    exact h i j h1 h2 he
  · obtain ⟨h1, rfl⟩ := WD_out hk
    exact Or.inl ⟨k, h1, rfl⟩
theorem wI_at (m : MM) (k i : Nat) (v : Int32) : (wI m k i v).1 k = upd (m.1 k) i v := if_pos rfl
theorem wI_ne {m : MM} {k i q : Nat} {v : Int32} (h : q ≠ k) : (wI m k i v).1 q = m.1 q := if_neg h
theorem wL_at (m : MM) (k i : Nat) (v : Int64) : (wL m k i v).2 k = vp_updL (m.2 k) i v := if_pos rfl
theorem wL_ne {m : MM} {k i q : Nat} {v : Int64} (h : q ≠ k) : (wL m k i v).2 q = m.2 q := if_neg h
theorem wA_at (m : MM) (k : Nat) (f : Nat → Int32) : (wA m k f).1 k = f := if_pos rfl
theorem wA_ne {m : MM} {k q : Nat} {f : Nat → Int32} (h : q ≠ k) : (wA m k f).1 q = m.1 q := if_neg h
/-! STATICS: what no method writes: four static arrays, the links between nest mates -/
def stN : Nat → String := fun k => match k with
  | 0 => "UNDER"
  | 1 => "MOST"
  | 2 => "WET"
  | _ => "OPENS"
def stV : Nat → List Int32 := fun k => match k with
  | 0 => [-1, 0, 0, 1, 2, 2]
  | 1 => [5, 3, 5, 1, 1, 5]
  | 2 => [0, 0, 0, 0, 0, 1]
  | _ => [0, 1, 0, 0, 0, 0]
def stT (k i : Nat) : Int32 := (stV k).getD i 0
def stX0 : String := "costs size ; bell 20 ; worth 10 ;"
def stX1 : String := "();+-*<="
def stX2 : String := "size  from  to    thing many  wet   costs bell  worth or    and   not   "
def stB : List (List Int32) := [[99, 111, 115, 116, 115, 32, 115, 105, 122, 101, 32, 59, 32, 98, 101, 108, 108, 32, 50, 48, 32, 59, 32, 119, 111, 114, 116, 104, 32, 49, 48, 32, 59], [40, 41, 59, 43, 45, 42, 60, 61], [115, 105, 122, 101, 32, 32, 102, 114, 111, 109, 32, 32, 116, 111, 32, 32, 32, 32, 116, 104, 105, 110, 103, 32, 109, 97, 110, 121, 32, 32, 119, 101, 116, 32, 32, 32, 99, 111, 115, 116, 115, 32, 98, 101, 108, 108, 32, 32, 119, 111, 114, 116, 104, 32, 111, 114, 32, 32, 32, 32, 97, 110, 100, 32, 32, 32, 110, 111, 116, 32, 32, 32]]
def stL : List Nat := [33, 8, 72]
def nestW : List Cond := [.fieldLinkNest "BothHandsFull$Lot" 62 "BothHandsFull" "WET" "[I" "BothHandsFull", .fieldLinkNest "BothHandsFull$Lot" 69 "BothHandsFull" "MOST" "[I" "BothHandsFull", .fieldLinkNest "BothHandsFull$Lot" 75 "BothHandsFull" "OPENS" "[I" "BothHandsFull", .methodLinkNest "BothHandsFull$Lot" 58 yX5_within "BothHandsFull", .methodLinkNest "BothHandsFull$Lot" 65 yX5_roomOf "BothHandsFull"]
def SXs (tb : Nat → Nat) (A : Nat → Prop) (U : State) (H : Heap) : Prop := vk_S 3 stL stB (fun i => tb (4 + i)) (fun i => tb (7 + i)) A U H ∧ (vk_R "BothHandsFull" 54 stX0 (tb 4) U ∧ vk_R "BothHandsFull$Tape" 73 stX1 (tb 5) U ∧ vk_R "BothHandsFull$Tape" 84 stX2 (tb 6) U) ∧ va_Z "java/lang/String" "COMPACT_STRINGS" "Z" (.int 1) A U H ∧ va_Zq "jdk/internal/util/Preconditions" "SIOOBE_FORMATTER" "Ljava/util/function/BiFunction;" A U H
theorem SXs_go {tb : Nat → Nat} {A B : Nat → Prop} {s U : State} {H H1 : Heap} (h : SXs tb A s H) (hW : s.WarmedH U.vm) (hq : ∀ a : Nat, a < H.size → ¬ A a → H1[a]? = H[a]?) (hAB : ∀ q, B q → A q) : SXs tb B U H1 :=
  ⟨((h.1.moved hW.alike).kept hq).narrow hAB, ⟨vk_R.warm hW h.2.1.1, vk_R.warm hW h.2.1.2.1, vk_R.warm hW h.2.1.2.2⟩, ((h.2.2.1.moved hW.alike).kept hq).narrow hAB, ((h.2.2.2.moved hW.alike).kept hq).narrow hAB⟩
theorem SXs_calling {tb : Nat → Nat} {A : Nat → Prop} {U : State} {H : Heap} (h : SXs tb A U H) (g : JFrame) (mk : MethodId) (a : Array Value) : SXs tb A (U.calling g mk a) H :=
  ⟨vk_S.moved (u := U) (U := U.calling g mk a) (Vm.Alike.refl U.vm) h.1, ⟨vk_R.same (u := U) rfl h.2.1.1, vk_R.same (u := U) rfl h.2.1.2.1, vk_R.same (u := U) rfl h.2.1.2.2⟩, va_Z.moved (u := U) (U := U.calling g mk a) (Vm.Alike.refl U.vm) h.2.2.1, va_Zq.moved (u := U) (U := U.calling g mk a) (Vm.Alike.refl U.vm) h.2.2.2⟩
def SX (tb : Nat → Nat) (A : Nat → Prop) (U : State) (H : Heap) : Prop := (∀ k, k < 4 → va_Z "BothHandsFull" (stN k) "[I" (.ref (tb k)) A U H ∧ va_T .int (tb k) 6 (fun j => .int (stT k j)) A U H) ∧ (∀ w ∈ nestW, va_Nw w U) ∧ SXs tb A U H
theorem nest_warm {s U : State} (hW : s.WarmedH U.vm) (h : ∀ w ∈ nestW, va_Nw w s) : ∀ w ∈ nestW, va_Nw w U := by
  intro w hw
  have h1 := h w hw
  unfold nestW at hw
  simp only [List.mem_cons, List.not_mem_nil, or_false] at hw
  rcases hw with rfl | rfl | rfl | rfl | rfl
  all_goals first | exact va_Nw.warmF hW h1 | exact va_Nw.warmM hW h1
theorem nest_same {s U : State} (hW : s.vm = U.vm) (h : ∀ w ∈ nestW, va_Nw w s) : ∀ w ∈ nestW, va_Nw w U := by
  intro w hw
  have h1 := h w hw
  unfold nestW at hw
  simp only [List.mem_cons, List.not_mem_nil, or_false] at hw
  rcases hw with rfl | rfl | rfl | rfl | rfl
  all_goals exact va_Nw.same rfl hW h1
theorem SX.go {tb : Nat → Nat} {A B : Nat → Prop} {s U : State} {H H1 : Heap} (h : SX tb A s H) (hW : s.WarmedH U.vm) (hq : ∀ a : Nat, a < H.size → ¬ A a → H1[a]? = H[a]?) (hAB : ∀ q, B q → A q) : SX tb B U H1 :=
  ⟨fun k hk => ⟨(((h.1 k hk).1.moved hW.alike).kept hq).narrow hAB, (((h.1 k hk).2.moved hW.alike).kept hq).narrow hAB⟩, nest_warm hW h.2.1, SXs_go h.2.2 hW hq hAB⟩
theorem SX.calling {tb : Nat → Nat} {A : Nat → Prop} {U : State} {H : Heap} (h : SX tb A U H) (g : JFrame) (mk : MethodId) (a : Array Value) : SX tb A (U.calling g mk a) H :=
  ⟨fun k hk => ⟨va_Z.moved (u := U) (U := U.calling g mk a) (Vm.Alike.refl U.vm) (h.1 k hk).1, va_T.moved (u := U) (U := U.calling g mk a) (Vm.Alike.refl U.vm) (h.1 k hk).2⟩, nest_same (s := U) (U := U.calling g mk a) rfl h.2.1, SXs_calling h.2.2 g mk a⟩
/-! THE JUDGEMENT -/
def GG (p : Program) (l : Launch) (e : Env) (R : Room) (s : State) (mt : MethodId) (args : Array Value) (below : List Frame) (meth : Method) (c : Code) (Q : State → Prop) (D : va_G) (cA : Nat → ClassId) (ad : Nat → Nat) (cf : CF) (n nL : Nat) (m : MM) (pc : Nat) (lv : List (Nat × Value)) (st : List Value) : Prop :=
  ∀ (H : Heap) (locs : List Loc) (ls : Array Slot), va_P D vwCl (WD cf n cA ad m) H → va_S (AA ad n s.heap.size) s.heap H locs → lv_has ls nL lv → W p l e R s mt args below meth c H locs 0 0 Q (F0 mt pc ls st)
/-- what is fixed in a method's walk -/
def CX (p : Program) (R : Room) (s : State) (mt : MethodId) (args : Array Value) (c : Code) (cc : ByteArray) (own : String) (D : va_G) (cA : Nat → ClassId) (ad : Nat → Nat) (n nL : Nat) (tb : Nat → Nat) : Prop :=
  p.tables.exec = Jvm.exec ∧ c.code = cc ∧ c.maxLocals = nL ∧ s.vm.findClass own = some mt.cls ∧ (∀ w ∈ WL, w.before args s = true) ∧ va_K D vwCl (tyL cA) s ∧ AP ad n ∧ SX tb (AA ad n s.heap.size) s s.heap
def QF (D : va_G) (cA : Nat → ClassId) (ad : Nat → Nat) (cf : CF) (n : Nat) (o : Option Value) (m' : MM) (sz : Nat) : Array Value → State → Outcome → State → Prop := fun _ st oc t => (oc = .returned o ∧ va_P D vwCl (WD cf n cA ad m') t.heap) ∧ va_F (AA ad n sz) st t
/-- a method's contract: from the memory m it answers o and leaves the memory m' -/
def CT (l : Launch) (y : MethodName) (cc : ByteArray) (maxL : Nat) (ret : Option FieldType) (rm : Room) (cf : CF) (n : Nat) (av : (Nat → Nat) → (Nat → Nat) → List Value) (m : MM) (o : Option Value) (m' : MM) : Prop :=
  ∀ (D : va_G) (cA : Nat → ClassId) (ad : Nat → Nat) (tb : Nat → Nat) (sz : Nat), AP ad n → Met l y (Cond.code y cc maxL ret :: WL) rm (va_Pc (av ad tb) (fun U => U.heap.size = sz ∧ va_P D vwCl (WD cf n cA ad m) U.heap ∧ va_K D vwCl (tyL cA) U ∧ SX tb (AA ad n sz) U U.heap)) (QF D cA ad cf n o m' sz) 0 0 (AA ad n sz)
section GGrows
variable {p : Program} {l : Launch} {e : Env} {R : Room} {s : State} {mt : MethodId} {args : Array Value} {below : List Frame} {meth : Method} {c : Code} {Q : State → Prop} {cc : ByteArray} {own : String} {D : va_G} {cA : Nat → ClassId} {ad : Nat → Nat} {cf : CF} {n nL : Nat} {tb : Nat → Nat} {m : MM} {pc : Nat} {lv : List (Nat × Value)} {st : List Value}
theorem CT.of {y : MethodName} {rm : Room} {maxL : Nat} {ret : Option FieldType} {av : (Nat → Nat) → (Nat → Nat) → List Value} {m m' : MM} {o : Option Value} (hy : plainName y.cls = true) (hrm : rm.cells = 0 ∧ rm.slots = 0) (hav : ∀ ad tb, (lg_sl (av ad tb)).length ≤ maxL)
    (body : ∀ (p : Program) (e : Env) (s : State) (mt : MethodId) (args : Array Value) (below : List Frame) (meth : Method) (c : Code) (D : va_G) (cA : Nat → ClassId) (ad : Nat → Nat) (tb : Nat → Nat), CX p rm s mt args c cc y.cls D cA ad n maxL tb → meth.sig.returnType = ret → meth.locks = false →
      GG p l e rm s mt args below meth c (MQ below (QF D cA ad cf n o m' s.heap.size) args s 0 0 (AA ad n s.heap.size)) D cA ad cf n maxL m 0 (lv_args 0 (av ad tb)) []) : CT l y cc maxL ret rm cf n av m o m' := by
  intro D cA ad tb sz hap
  refine Met.ofW (cc := cc) (maxL := maxL) (ret := ret) hy rfl ?_
  intro p e s mt args below meth c s₁ B hml hv
  obtain ⟨hargs, hsz, hP, hK, hX⟩ := hv
  subst hargs
  subst hsz
  rw [lg_entry_eq]
  have hl := lv_entry (av ad tb) (n := maxL) (hav ad tb)
  exact body p e s mt _ below meth c D cA ad tb ⟨B.exec, B.bytes, hml, findClass_of_methodNamed B.named, fun w hw => atoms_spec (ws := Cond.code y cc maxL ret :: WL) B.pre w (List.mem_cons_of_mem _ hw), hK, hap, hX⟩ B.returns B.notSynchronized s.heap [] _ hP va_S.rf hl
theorem mem_i {α : Type} {L : List α} {a : α} (i : Nat) (h : L[i]? = some a) : a ∈ L := List.mem_of_getElem? h
theorem g_lv {lv' : List (Nat × Value)} (h : lv = lv') (k : GG p l e R s mt args below meth c Q D cA ad cf n nL m pc lv' st) : GG p l e R s mt args below meth c Q D cA ad cf n nL m pc lv st := h ▸ k
theorem g_sub (ks : List Nat) {lv' : List (Nat × Value)} (h : lv_pick lv ks = lv') (k : GG p l e R s mt args below meth c Q D cA ad cf n nL m pc lv' st) : GG p l e R s mt args below meth c Q D cA ad cf n nL m pc lv st :=
  fun H locs ls hP hS hl => k H locs ls hP hS (lv_sub hl ks h)
theorem nm_m {α : Type} {x : MM} {k : MM → Option α} {y : α} (h : Lt x k = some y) (f : ∀ z, k z = some y → GG p l e R s mt args below meth c Q D cA ad cf n nL z pc lv st) : GG p l e R s mt args below meth c Q D cA ad cf n nL x pc lv st := f x h
theorem nm_i {α : Type} {x : Int32} {k : Int32 → Option α} {y : α} (h : Lt x k = some y) (f : ∀ z, k z = some y → GG p l e R s mt args below meth c Q D cA ad cf n nL m pc lv (.int z :: st)) : GG p l e R s mt args below meth c Q D cA ad cf n nL m pc lv (.int x :: st) := f x h
theorem nm_l {α : Type} {x : Int64} {k : Int64 → Option α} {y : α} (h : Lt x k = some y) (f : ∀ z, k z = some y → GG p l e R s mt args below meth c Q D cA ad cf n nL m pc lv (.long z :: st)) : GG p l e R s mt args below meth c Q D cA ad cf n nL m pc lv (.long x :: st) := f x h

theorem g_iconst (C : CX p R s mt args c cc own D cA ad n nL tb) {i : Int} {v : Int32} (hd : decode cc pc = .ok (.iconst i, 1)) (hv : Int32.ofInt i = v) (k : GG p l e R s mt args below meth c Q D cA ad cf n nL m (pc + 1) lv (.int v :: st)) : GG p l e R s mt args below meth c Q D cA ad cf n nL m pc lv (st) :=
  fun H locs ls hP hS hl => lv_iconst C.1 C.2.1 hd hv (k H locs ls hP hS hl)
theorem g_bipush (C : CX p R s mt args c cc own D cA ad n nL tb) {i : Int} {v : Int32} (hd : decode cc pc = .ok (.bipush i, 2)) (hv : (Int8.ofInt i).toInt32 = v) (k : GG p l e R s mt args below meth c Q D cA ad cf n nL m (pc + 2) lv (.int v :: st)) : GG p l e R s mt args below meth c Q D cA ad cf n nL m pc lv (st) :=
  fun H locs ls hP hS hl => lv_bipush C.1 C.2.1 hd hv (k H locs ls hP hS hl)
theorem g_sipush (C : CX p R s mt args c cc own D cA ad n nL tb) {i : Int} {v : Int32} (hd : decode cc pc = .ok (.sipush i, 3)) (hv : (Int16.ofInt i).toInt32 = v) (k : GG p l e R s mt args below meth c Q D cA ad cf n nL m (pc + 3) lv (.int v :: st)) : GG p l e R s mt args below meth c Q D cA ad cf n nL m pc lv (st) :=
  fun H locs ls hP hS hl => lv_sipush C.1 C.2.1 hd hv (k H locs ls hP hS hl)
theorem g_lconst (C : CX p R s mt args c cc own D cA ad n nL tb) {i : Fin 2} {v : Int64} (hd : decode cc pc = .ok (.lconst i, 1)) (hv : Int64.ofNat (i : Nat) = v) (k : GG p l e R s mt args below meth c Q D cA ad cf n nL m (pc + 1) lv (.long v :: st)) : GG p l e R s mt args below meth c Q D cA ad cf n nL m pc lv (st) :=
  fun H locs ls hP hS hl => lv_lconst C.1 C.2.1 hd hv (k H locs ls hP hS hl)
theorem g_ldc (C : CX p R s mt args c cc own D cA ad n nL tb) {i : Nat} {v : Int32} (hd : decode cc pc = .ok (.ldc i, 2)) (hc : Cond.constant own i v ∈ WL) (k : GG p l e R s mt args below meth c Q D cA ad cf n nL m (pc + 2) lv (.int v :: st)) : GG p l e R s mt args below meth c Q D cA ad cf n nL m pc lv st :=
  fun H locs ls hP hS hl => lv_ldc C.1 C.2.1 C.2.2.2.1 (C.2.2.2.2.1 _ hc) hd (k H locs ls hP hS hl)
theorem g_ldcw (C : CX p R s mt args c cc own D cA ad n nL tb) {i : Nat} {v : Int32} (hd : decode cc pc = .ok (.ldc_w i, 3)) (hc : Cond.constant own i v ∈ WL) (k : GG p l e R s mt args below meth c Q D cA ad cf n nL m (pc + 3) lv (.int v :: st)) : GG p l e R s mt args below meth c Q D cA ad cf n nL m pc lv st :=
  fun H locs ls hP hS hl => lv_ldcw C.1 C.2.1 C.2.2.2.1 (C.2.2.2.2.1 _ hc) hd (k H locs ls hP hS hl)
theorem g_ldc2 (C : CX p R s mt args c cc own D cA ad n nL tb) {i : Nat} {v : Int64} (hd : decode cc pc = .ok (.ldc2_w i, 3)) (hc : Cond.constantLong own i v ∈ WL) (k : GG p l e R s mt args below meth c Q D cA ad cf n nL m (pc + 3) lv (.long v :: st)) : GG p l e R s mt args below meth c Q D cA ad cf n nL m pc lv st :=
  fun H locs ls hP hS hl => lv_ldc2 C.1 C.2.1 C.2.2.2.1 (C.2.2.2.2.1 _ hc) hd (k H locs ls hP hS hl)
theorem g_iload_n (C : CX p R s mt args c cc own D cA ad n nL tb) {k : Fin 4} {i : Nat} {x : Int32} (hd : decode cc pc = .ok (.iload_n k, 1)) (hi : (k : Nat) = i) (q : Nat) (hq : lv[q]? = some (i, .int x)) (k : GG p l e R s mt args below meth c Q D cA ad cf n nL m (pc + 1) lv (.int x :: st)) : GG p l e R s mt args below meth c Q D cA ad cf n nL m pc lv st :=
  fun H locs ls hP hS hl => lv_iload_n C.1 C.2.1 hd hi (lv_at hl q hq) (k H locs ls hP hS hl)
theorem g_iload (C : CX p R s mt args c cc own D cA ad n nL tb) {i : Nat} {x : Int32} (hd : decode cc pc = .ok (.iload i, 2)) (q : Nat) (hq : lv[q]? = some (i, .int x)) (k : GG p l e R s mt args below meth c Q D cA ad cf n nL m (pc + 2) lv (.int x :: st)) : GG p l e R s mt args below meth c Q D cA ad cf n nL m pc lv st :=
  fun H locs ls hP hS hl => lv_iload C.1 C.2.1 hd (lv_at hl q hq) (k H locs ls hP hS hl)
theorem g_lload_n (C : CX p R s mt args c cc own D cA ad n nL tb) {k : Fin 4} {i : Nat} {x : Int64} (hd : decode cc pc = .ok (.lload_n k, 1)) (hi : (k : Nat) = i) (q : Nat) (hq : lv[q]? = some (i, .long x)) (k : GG p l e R s mt args below meth c Q D cA ad cf n nL m (pc + 1) lv (.long x :: st)) : GG p l e R s mt args below meth c Q D cA ad cf n nL m pc lv st :=
  fun H locs ls hP hS hl => lv_lload_n C.1 C.2.1 hd hi (lv_at hl q hq) (k H locs ls hP hS hl)
theorem g_lload (C : CX p R s mt args c cc own D cA ad n nL tb) {i : Nat} {x : Int64} (hd : decode cc pc = .ok (.lload i, 2)) (q : Nat) (hq : lv[q]? = some (i, .long x)) (k : GG p l e R s mt args below meth c Q D cA ad cf n nL m (pc + 2) lv (.long x :: st)) : GG p l e R s mt args below meth c Q D cA ad cf n nL m pc lv st :=
  fun H locs ls hP hS hl => lv_lload C.1 C.2.1 hd (lv_at hl q hq) (k H locs ls hP hS hl)
theorem g_aload_n (C : CX p R s mt args c cc own D cA ad n nL tb) {k : Fin 4} {i : Nat} {x : Nat} (hd : decode cc pc = .ok (.aload_n k, 1)) (hi : (k : Nat) = i) (q : Nat) (hq : lv[q]? = some (i, .ref x)) (k : GG p l e R s mt args below meth c Q D cA ad cf n nL m (pc + 1) lv (.ref x :: st)) : GG p l e R s mt args below meth c Q D cA ad cf n nL m pc lv st :=
  fun H locs ls hP hS hl => lv_aload_n C.1 C.2.1 hd hi (lv_at hl q hq) (k H locs ls hP hS hl)
theorem g_aload (C : CX p R s mt args c cc own D cA ad n nL tb) {i : Nat} {x : Nat} (hd : decode cc pc = .ok (.aload i, 2)) (q : Nat) (hq : lv[q]? = some (i, .ref x)) (k : GG p l e R s mt args below meth c Q D cA ad cf n nL m (pc + 2) lv (.ref x :: st)) : GG p l e R s mt args below meth c Q D cA ad cf n nL m pc lv st :=
  fun H locs ls hP hS hl => lv_aload C.1 C.2.1 hd (lv_at hl q hq) (k H locs ls hP hS hl)
theorem g_istore_n (C : CX p R s mt args c cc own D cA ad n nL tb) {j : Fin 4} {i : Nat} {x : Int32} {lv' : List (Nat × Value)} (hd : decode cc pc = .ok (.istore_n j, 1)) (hi : (j : Nat) = i) (hn : i < nL) (hl' : (i, .int x) :: lv.filter (fun q => !(q.1 == i) && !(q.1 + 1 == i && q.2.category == 2)) = lv') (k : GG p l e R s mt args below meth c Q D cA ad cf n nL m (pc + 1) lv' st) : GG p l e R s mt args below meth c Q D cA ad cf n nL m pc lv (.int x :: st) :=
  fun H locs ls hP hS hl => lv_istore_n C.1 C.2.1 hd hi hl hn hl' (fun ls' hl2 => k H locs ls' hP hS hl2)
theorem g_istore (C : CX p R s mt args c cc own D cA ad n nL tb) {i : Nat} {x : Int32} {lv' : List (Nat × Value)} (hd : decode cc pc = .ok (.istore i, 2)) (hn : i < nL) (hl' : (i, .int x) :: lv.filter (fun q => !(q.1 == i) && !(q.1 + 1 == i && q.2.category == 2)) = lv') (k : GG p l e R s mt args below meth c Q D cA ad cf n nL m (pc + 2) lv' st) : GG p l e R s mt args below meth c Q D cA ad cf n nL m pc lv (.int x :: st) :=
  fun H locs ls hP hS hl => lv_istore C.1 C.2.1 hd hl hn hl' (fun ls' hl2 => k H locs ls' hP hS hl2)
theorem g_astore_n (C : CX p R s mt args c cc own D cA ad n nL tb) {j : Fin 4} {i : Nat} {x : Nat} {lv' : List (Nat × Value)} (hd : decode cc pc = .ok (.astore_n j, 1)) (hi : (j : Nat) = i) (hn : i < nL) (hl' : (i, .ref x) :: lv.filter (fun q => !(q.1 == i) && !(q.1 + 1 == i && q.2.category == 2)) = lv') (k : GG p l e R s mt args below meth c Q D cA ad cf n nL m (pc + 1) lv' st) : GG p l e R s mt args below meth c Q D cA ad cf n nL m pc lv (.ref x :: st) :=
  fun H locs ls hP hS hl => lv_astore_n C.1 C.2.1 hd hi hl hn hl' (fun ls' hl2 => k H locs ls' hP hS hl2)
theorem g_astore (C : CX p R s mt args c cc own D cA ad n nL tb) {i : Nat} {x : Nat} {lv' : List (Nat × Value)} (hd : decode cc pc = .ok (.astore i, 2)) (hn : i < nL) (hl' : (i, .ref x) :: lv.filter (fun q => !(q.1 == i) && !(q.1 + 1 == i && q.2.category == 2)) = lv') (k : GG p l e R s mt args below meth c Q D cA ad cf n nL m (pc + 2) lv' st) : GG p l e R s mt args below meth c Q D cA ad cf n nL m pc lv (.ref x :: st) :=
  fun H locs ls hP hS hl => lv_astore C.1 C.2.1 hd hl hn hl' (fun ls' hl2 => k H locs ls' hP hS hl2)
theorem g_lstore (C : CX p R s mt args c cc own D cA ad n nL tb) {i : Nat} {x : Int64} {lv' : List (Nat × Value)} (hd : decode cc pc = .ok (.lstore i, 2)) (hn : i + 1 < nL) (hl' : (i, .long x) :: lv.filter (fun q => !(q.1 == i) && (!(q.1 == i + 1) && !(q.1 + 1 == i && q.2.category == 2))) = lv') (k : GG p l e R s mt args below meth c Q D cA ad cf n nL m (pc + 2) lv' st) : GG p l e R s mt args below meth c Q D cA ad cf n nL m pc lv (.long x :: st) :=
  fun H locs ls hP hS hl => lv_lstore C.1 C.2.1 hd hl hn hl' (fun ls' hl2 => k H locs ls' hP hS hl2)
theorem g_lstore_n (C : CX p R s mt args c cc own D cA ad n nL tb) {j : Fin 4} {i : Nat} {x : Int64} {lv' : List (Nat × Value)} (hd : decode cc pc = .ok (.lstore_n j, 1)) (hi : (j : Nat) = i) (hn : i + 1 < nL) (hl' : (i, .long x) :: lv.filter (fun q => !(q.1 == i) && (!(q.1 == i + 1) && !(q.1 + 1 == i && q.2.category == 2))) = lv') (k : GG p l e R s mt args below meth c Q D cA ad cf n nL m (pc + 1) lv' st) : GG p l e R s mt args below meth c Q D cA ad cf n nL m pc lv (.long x :: st) :=
  fun H locs ls hP hS hl => lv_lstore_n C.1 C.2.1 hd hi hl hn hl' (fun ls' hl2 => k H locs ls' hP hS hl2)
theorem g_iinc (C : CX p R s mt args c cc own D cA ad n nL tb) {i q : Nat} {d : Int} {x v : Int32} {lv' : List (Nat × Value)} (hd : decode cc pc = .ok (.iinc i d, 3)) (hq : lv[q]? = some (i, .int x)) (hn : i < nL) {α : Type} {K : Int32 → Option α} {y : α} (h : Lt v K = some y) (hv : x + Int32.ofInt d = v) (hl' : ∀ v, (i, .int v) :: lv.filter (fun q => !(q.1 == i) && !(q.1 + 1 == i && q.2.category == 2)) = (i, .int v) :: lv') (k : ∀ v, K v = some y → GG p l e R s mt args below meth c Q D cA ad cf n nL m (pc + 3) ((i, .int v) :: lv') st) : GG p l e R s mt args below meth c Q D cA ad cf n nL m pc lv st :=
  fun H locs ls hP hS hl => lv_iinc C.1 C.2.1 hd hl hq hv hn (hl' v) (fun ls' hl2 => k v h H locs ls' hP hS hl2)
theorem g_iadd (C : CX p R s mt args c cc own D cA ad n nL tb) {x y : Int32} (hd : decode cc pc = .ok (.iadd, 1)) (k : GG p l e R s mt args below meth c Q D cA ad cf n nL m (pc + 1) lv (.int (x + y) :: st)) : GG p l e R s mt args below meth c Q D cA ad cf n nL m pc lv (.int y :: .int x :: st) :=
  fun H locs ls hP hS hl => lv_iadd C.1 C.2.1 hd (k H locs ls hP hS hl)
theorem g_isub (C : CX p R s mt args c cc own D cA ad n nL tb) {x y : Int32} (hd : decode cc pc = .ok (.isub, 1)) (k : GG p l e R s mt args below meth c Q D cA ad cf n nL m (pc + 1) lv (.int (x - y) :: st)) : GG p l e R s mt args below meth c Q D cA ad cf n nL m pc lv (.int y :: .int x :: st) :=
  fun H locs ls hP hS hl => lv_isub C.1 C.2.1 hd (k H locs ls hP hS hl)
theorem g_imul (C : CX p R s mt args c cc own D cA ad n nL tb) {x y : Int32} (hd : decode cc pc = .ok (.imul, 1)) (k : GG p l e R s mt args below meth c Q D cA ad cf n nL m (pc + 1) lv (.int (x * y) :: st)) : GG p l e R s mt args below meth c Q D cA ad cf n nL m pc lv (.int y :: .int x :: st) :=
  fun H locs ls hP hS hl => lv_imul C.1 C.2.1 hd (k H locs ls hP hS hl)
theorem g_iand (C : CX p R s mt args c cc own D cA ad n nL tb) {x y : Int32} (hd : decode cc pc = .ok (.iand, 1)) (k : GG p l e R s mt args below meth c Q D cA ad cf n nL m (pc + 1) lv (.int (x &&& y) :: st)) : GG p l e R s mt args below meth c Q D cA ad cf n nL m pc lv (.int y :: .int x :: st) :=
  fun H locs ls hP hS hl => lv_iand C.1 C.2.1 hd (k H locs ls hP hS hl)
theorem g_ior (C : CX p R s mt args c cc own D cA ad n nL tb) {x y : Int32} (hd : decode cc pc = .ok (.ior, 1)) (k : GG p l e R s mt args below meth c Q D cA ad cf n nL m (pc + 1) lv (.int (x ||| y) :: st)) : GG p l e R s mt args below meth c Q D cA ad cf n nL m pc lv (.int y :: .int x :: st) :=
  fun H locs ls hP hS hl => lv_ior C.1 C.2.1 hd (k H locs ls hP hS hl)
theorem g_ixor (C : CX p R s mt args c cc own D cA ad n nL tb) {x y : Int32} (hd : decode cc pc = .ok (.ixor, 1)) (k : GG p l e R s mt args below meth c Q D cA ad cf n nL m (pc + 1) lv (.int (x ^^^ y) :: st)) : GG p l e R s mt args below meth c Q D cA ad cf n nL m pc lv (.int y :: .int x :: st) :=
  fun H locs ls hP hS hl => lv_ixor C.1 C.2.1 hd (k H locs ls hP hS hl)
theorem g_ishl (C : CX p R s mt args c cc own D cA ad n nL tb) {x y : Int32} (hd : decode cc pc = .ok (.ishl, 1)) (k : GG p l e R s mt args below meth c Q D cA ad cf n nL m (pc + 1) lv (.int (shlI x y) :: st)) : GG p l e R s mt args below meth c Q D cA ad cf n nL m pc lv (.int y :: .int x :: st) :=
  fun H locs ls hP hS hl => lv_ishl C.1 C.2.1 hd (k H locs ls hP hS hl)
theorem g_ishr (C : CX p R s mt args c cc own D cA ad n nL tb) {x y : Int32} (hd : decode cc pc = .ok (.ishr, 1)) (k : GG p l e R s mt args below meth c Q D cA ad cf n nL m (pc + 1) lv (.int (shrI x y) :: st)) : GG p l e R s mt args below meth c Q D cA ad cf n nL m pc lv (.int y :: .int x :: st) :=
  fun H locs ls hP hS hl => lv_ishr C.1 C.2.1 hd (k H locs ls hP hS hl)
theorem g_iushr (C : CX p R s mt args c cc own D cA ad n nL tb) {x y : Int32} (hd : decode cc pc = .ok (.iushr, 1)) (k : GG p l e R s mt args below meth c Q D cA ad cf n nL m (pc + 1) lv (.int (ushI x y) :: st)) : GG p l e R s mt args below meth c Q D cA ad cf n nL m pc lv (.int y :: .int x :: st) :=
  fun H locs ls hP hS hl => lv_iushr C.1 C.2.1 hd rfl (k H locs ls hP hS hl)
theorem g_ineg (C : CX p R s mt args c cc own D cA ad n nL tb) {x : Int32} (hd : decode cc pc = .ok (.ineg, 1)) (k : GG p l e R s mt args below meth c Q D cA ad cf n nL m (pc + 1) lv (.int (-x) :: st)) : GG p l e R s mt args below meth c Q D cA ad cf n nL m pc lv (.int x :: st) :=
  fun H locs ls hP hS hl => lv_ineg C.1 C.2.1 hd (k H locs ls hP hS hl)
theorem g_ladd (C : CX p R s mt args c cc own D cA ad n nL tb) {x y : Int64} (hd : decode cc pc = .ok (.ladd, 1)) (k : GG p l e R s mt args below meth c Q D cA ad cf n nL m (pc + 1) lv (.long (x + y) :: st)) : GG p l e R s mt args below meth c Q D cA ad cf n nL m pc lv (.long y :: .long x :: st) :=
  fun H locs ls hP hS hl => lv_ladd C.1 C.2.1 hd (k H locs ls hP hS hl)
theorem g_lsub (C : CX p R s mt args c cc own D cA ad n nL tb) {x y : Int64} (hd : decode cc pc = .ok (.lsub, 1)) (k : GG p l e R s mt args below meth c Q D cA ad cf n nL m (pc + 1) lv (.long (x - y) :: st)) : GG p l e R s mt args below meth c Q D cA ad cf n nL m pc lv (.long y :: .long x :: st) :=
  fun H locs ls hP hS hl => lv_lsub C.1 C.2.1 hd (k H locs ls hP hS hl)
theorem g_lmul (C : CX p R s mt args c cc own D cA ad n nL tb) {x y : Int64} (hd : decode cc pc = .ok (.lmul, 1)) (k : GG p l e R s mt args below meth c Q D cA ad cf n nL m (pc + 1) lv (.long (x * y) :: st)) : GG p l e R s mt args below meth c Q D cA ad cf n nL m pc lv (.long y :: .long x :: st) :=
  fun H locs ls hP hS hl => lv_lmul C.1 C.2.1 hd (k H locs ls hP hS hl)
theorem g_idiv (C : CX p R s mt args c cc own D cA ad n nL tb) {x y : Int32} (hd : decode cc pc = .ok (.idiv, 1)) {α : Type} {K : Option α} {z : α} (h : Gu (nz y) K = some z) (k : K = some z → GG p l e R s mt args below meth c Q D cA ad cf n nL m (pc + 1) lv (.int (x / y) :: st)) : GG p l e R s mt args below meth c Q D cA ad cf n nL m pc lv (.int y :: .int x :: st) :=
  fun H locs ls hP hS hl => lv_idiv C.1 C.2.1 hd (nz_ne (Gu_inv h).1) (k (Gu_inv h).2 H locs ls hP hS hl)
theorem g_irem (C : CX p R s mt args c cc own D cA ad n nL tb) {x y : Int32} (hd : decode cc pc = .ok (.irem, 1)) {α : Type} {K : Option α} {z : α} (h : Gu (nz y) K = some z) (k : K = some z → GG p l e R s mt args below meth c Q D cA ad cf n nL m (pc + 1) lv (.int (remI x y) :: st)) : GG p l e R s mt args below meth c Q D cA ad cf n nL m pc lv (.int y :: .int x :: st) :=
  fun H locs ls hP hS hl => lv_irem C.1 C.2.1 hd (nz_ne (Gu_inv h).1) (k (Gu_inv h).2 H locs ls hP hS hl)
theorem g_ldiv (C : CX p R s mt args c cc own D cA ad n nL tb) {x y : Int64} (hd : decode cc pc = .ok (.ldiv, 1)) {α : Type} {K : Option α} {z : α} (h : Gu (nzL y) K = some z) (k : K = some z → GG p l e R s mt args below meth c Q D cA ad cf n nL m (pc + 1) lv (.long (x / y) :: st)) : GG p l e R s mt args below meth c Q D cA ad cf n nL m pc lv (.long y :: .long x :: st) :=
  fun H locs ls hP hS hl => lv_ldiv C.1 C.2.1 hd (nzL_ne (Gu_inv h).1) (k (Gu_inv h).2 H locs ls hP hS hl)
theorem g_lrem (C : CX p R s mt args c cc own D cA ad n nL tb) {x y : Int64} (hd : decode cc pc = .ok (.lrem, 1)) {α : Type} {K : Option α} {z : α} (h : Gu (nzL y) K = some z) (k : K = some z → GG p l e R s mt args below meth c Q D cA ad cf n nL m (pc + 1) lv (.long (remL x y) :: st)) : GG p l e R s mt args below meth c Q D cA ad cf n nL m pc lv (.long y :: .long x :: st) :=
  fun H locs ls hP hS hl => lv_lrem C.1 C.2.1 hd (nzL_ne (Gu_inv h).1) (k (Gu_inv h).2 H locs ls hP hS hl)
theorem g_lcmp (C : CX p R s mt args c cc own D cA ad n nL tb) {x y : Int64} (hd : decode cc pc = .ok (.lcmp, 1)) (k : GG p l e R s mt args below meth c Q D cA ad cf n nL m (pc + 1) lv (.int (lg_cmp x y) :: st)) : GG p l e R s mt args below meth c Q D cA ad cf n nL m pc lv (.long y :: .long x :: st) :=
  fun H locs ls hP hS hl => W.lcmp C.1 C.2.1 hd (k H locs ls hP hS hl)
theorem g_l2i (C : CX p R s mt args c cc own D cA ad n nL tb) {x : Int64} (hd : decode cc pc = .ok (.l2i, 1)) (k : GG p l e R s mt args below meth c Q D cA ad cf n nL m (pc + 1) lv (.int (x.toInt32) :: st)) : GG p l e R s mt args below meth c Q D cA ad cf n nL m pc lv (.long x :: st) :=
  fun H locs ls hP hS hl => lv_l2i C.1 C.2.1 hd rfl (k H locs ls hP hS hl)
theorem g_i2l (C : CX p R s mt args c cc own D cA ad n nL tb) {x : Int32} (hd : decode cc pc = .ok (.i2l, 1)) (k : GG p l e R s mt args below meth c Q D cA ad cf n nL m (pc + 1) lv (.long (x.toInt64) :: st)) : GG p l e R s mt args below meth c Q D cA ad cf n nL m pc lv (.int x :: st) :=
  fun H locs ls hP hS hl => lv_i2l C.1 C.2.1 hd rfl (k H locs ls hP hS hl)
theorem g_i2b (C : CX p R s mt args c cc own D cA ad n nL tb) {x : Int32} (hd : decode cc pc = .ok (.i2b, 1)) (k : GG p l e R s mt args below meth c Q D cA ad cf n nL m (pc + 1) lv (.int (x.toInt8.toInt32) :: st)) : GG p l e R s mt args below meth c Q D cA ad cf n nL m pc lv (.int x :: st) :=
  fun H locs ls hP hS hl => lv_i2b C.1 C.2.1 hd rfl (k H locs ls hP hS hl)
theorem g_i2s (C : CX p R s mt args c cc own D cA ad n nL tb) {x : Int32} (hd : decode cc pc = .ok (.i2s, 1)) (k : GG p l e R s mt args below meth c Q D cA ad cf n nL m (pc + 1) lv (.int (x.toInt16.toInt32) :: st)) : GG p l e R s mt args below meth c Q D cA ad cf n nL m pc lv (.int x :: st) :=
  fun H locs ls hP hS hl => lv_i2s C.1 C.2.1 hd rfl (k H locs ls hP hS hl)
theorem g_i2c (C : CX p R s mt args c cc own D cA ad n nL tb) {x : Int32} (hd : decode cc pc = .ok (.i2c, 1)) (k : GG p l e R s mt args below meth c Q D cA ad cf n nL m (pc + 1) lv (.int ((x.toUInt32 % 65536).toInt32) :: st)) : GG p l e R s mt args below meth c Q D cA ad cf n nL m pc lv (.int x :: st) :=
  fun H locs ls hP hS hl => lv_i2c C.1 C.2.1 hd rfl (k H locs ls hP hS hl)
theorem g_dup (C : CX p R s mt args c cc own D cA ad n nL tb) {va : Value} (hd : decode cc pc = .ok (.dup, 1)) (h1 : va.category = 1) (k : GG p l e R s mt args below meth c Q D cA ad cf n nL m (pc + 1) lv (va :: va :: st)) : GG p l e R s mt args below meth c Q D cA ad cf n nL m pc lv (va :: st) :=
  fun H locs ls hP hS hl => lv_dup C.1 C.2.1 hd h1 (k H locs ls hP hS hl)
theorem g_pop (C : CX p R s mt args c cc own D cA ad n nL tb) {va : Value} (hd : decode cc pc = .ok (.pop, 1)) (h1 : va.category = 1) (k : GG p l e R s mt args below meth c Q D cA ad cf n nL m (pc + 1) lv (st)) : GG p l e R s mt args below meth c Q D cA ad cf n nL m pc lv (va :: st) :=
  fun H locs ls hP hS hl => lv_pop C.1 C.2.1 hd h1 (k H locs ls hP hS hl)
theorem g_dup_x1 (C : CX p R s mt args c cc own D cA ad n nL tb) {va vb : Value} (hd : decode cc pc = .ok (.dup_x1, 1)) (h1 : va.category = 1) (h2 : vb.category = 1) (k : GG p l e R s mt args below meth c Q D cA ad cf n nL m (pc + 1) lv (va :: vb :: va :: st)) : GG p l e R s mt args below meth c Q D cA ad cf n nL m pc lv (va :: vb :: st) :=
  fun H locs ls hP hS hl => lv_dup_x1 C.1 C.2.1 hd h1 h2 (k H locs ls hP hS hl)
theorem g_dup2 (C : CX p R s mt args c cc own D cA ad n nL tb) {va vb : Value} (hd : decode cc pc = .ok (.dup2, 1)) (h1 : va.category = 1) (h2 : vb.category = 1) (k : GG p l e R s mt args below meth c Q D cA ad cf n nL m (pc + 1) lv (va :: vb :: va :: vb :: st)) : GG p l e R s mt args below meth c Q D cA ad cf n nL m pc lv (va :: vb :: st) :=
  fun H locs ls hP hS hl => lv_dup2_11 C.1 C.2.1 hd h1 h2 (k H locs ls hP hS hl)
theorem g_goto (C : CX p R s mt args c cc own D cA ad n nL tb) {off : Int} {tgt : Nat} (hd : decode cc pc = .ok (.goto off, 3)) (ht : (pc : Int) + off = (tgt : Int)) (k : GG p l e R s mt args below meth c Q D cA ad cf n nL m tgt lv st) : GG p l e R s mt args below meth c Q D cA ad cf n nL m pc lv st :=
  fun H locs ls hP hS hl => lv_goto C.1 C.2.1 hd ht (k H locs ls hP hS hl)
theorem g_icmp_eq (C : CX p R s mt args c cc own D cA ad n nL tb) {x y : Int32} {off : Int} {tgt : Nat} (hd : decode cc pc = .ok (.if_icmp .eq off, 3)) (ht : (pc : Int) + off = (tgt : Int)) {α : Type} {X Y : Option α} {z : α} (h : (if x = y then X else Y) = some z) (kt : X = some z → GG p l e R s mt args below meth c Q D cA ad cf n nL m tgt lv st) (kf : Y = some z → GG p l e R s mt args below meth c Q D cA ad cf n nL m (pc + 3) lv st) : GG p l e R s mt args below meth c Q D cA ad cf n nL m pc lv (.int y :: .int x :: st) :=
  fun H locs ls hP hS hl => lv_icmp_eq C.1 C.2.1 hd ht (fun q => kt (by rw [if_pos q] at h; exact h) H locs ls hP hS hl) (fun q => kf (by rw [if_neg q] at h; exact h) H locs ls hP hS hl)
theorem g_if_eq (C : CX p R s mt args c cc own D cA ad n nL tb) {x : Int32} {off : Int} {tgt : Nat} (hd : decode cc pc = .ok (.ifCond .eq off, 3)) (ht : (pc : Int) + off = (tgt : Int)) {α : Type} {X Y : Option α} {z : α} (h : (if x = 0 then X else Y) = some z) (kt : X = some z → GG p l e R s mt args below meth c Q D cA ad cf n nL m tgt lv st) (kf : Y = some z → GG p l e R s mt args below meth c Q D cA ad cf n nL m (pc + 3) lv st) : GG p l e R s mt args below meth c Q D cA ad cf n nL m pc lv (.int x :: st) :=
  fun H locs ls hP hS hl => lv_if_eq C.1 C.2.1 hd ht (fun q => kt (by rw [if_pos q] at h; exact h) H locs ls hP hS hl) (fun q => kf (by rw [if_neg q] at h; exact h) H locs ls hP hS hl)
theorem g_icmp_lt (C : CX p R s mt args c cc own D cA ad n nL tb) {x y : Int32} {off : Int} {tgt : Nat} (hd : decode cc pc = .ok (.if_icmp .lt off, 3)) (ht : (pc : Int) + off = (tgt : Int)) {α : Type} {X Y : Option α} {z : α} (h : (if x < y then X else Y) = some z) (kt : X = some z → GG p l e R s mt args below meth c Q D cA ad cf n nL m tgt lv st) (kf : Y = some z → GG p l e R s mt args below meth c Q D cA ad cf n nL m (pc + 3) lv st) : GG p l e R s mt args below meth c Q D cA ad cf n nL m pc lv (.int y :: .int x :: st) :=
  fun H locs ls hP hS hl => lv_icmp_lt C.1 C.2.1 hd ht (fun q => kt (by rw [if_pos q] at h; exact h) H locs ls hP hS hl) (fun q => kf (by rw [if_neg q] at h; exact h) H locs ls hP hS hl)
theorem g_if_lt (C : CX p R s mt args c cc own D cA ad n nL tb) {x : Int32} {off : Int} {tgt : Nat} (hd : decode cc pc = .ok (.ifCond .lt off, 3)) (ht : (pc : Int) + off = (tgt : Int)) {α : Type} {X Y : Option α} {z : α} (h : (if x < 0 then X else Y) = some z) (kt : X = some z → GG p l e R s mt args below meth c Q D cA ad cf n nL m tgt lv st) (kf : Y = some z → GG p l e R s mt args below meth c Q D cA ad cf n nL m (pc + 3) lv st) : GG p l e R s mt args below meth c Q D cA ad cf n nL m pc lv (.int x :: st) :=
  fun H locs ls hP hS hl => lv_if_lt C.1 C.2.1 hd ht (fun q => kt (by rw [if_pos q] at h; exact h) H locs ls hP hS hl) (fun q => kf (by rw [if_neg q] at h; exact h) H locs ls hP hS hl)
theorem g_icmp_ge (C : CX p R s mt args c cc own D cA ad n nL tb) {x y : Int32} {off : Int} {tgt : Nat} (hd : decode cc pc = .ok (.if_icmp .ge off, 3)) (ht : (pc : Int) + off = (tgt : Int)) {α : Type} {X Y : Option α} {z : α} (h : (if y ≤ x then X else Y) = some z) (kt : X = some z → GG p l e R s mt args below meth c Q D cA ad cf n nL m tgt lv st) (kf : Y = some z → GG p l e R s mt args below meth c Q D cA ad cf n nL m (pc + 3) lv st) : GG p l e R s mt args below meth c Q D cA ad cf n nL m pc lv (.int y :: .int x :: st) :=
  fun H locs ls hP hS hl => lv_icmp_ge C.1 C.2.1 hd ht (fun q => kt (by rw [if_pos q] at h; exact h) H locs ls hP hS hl) (fun q => kf (by rw [if_neg q] at h; exact h) H locs ls hP hS hl)
theorem g_if_ge (C : CX p R s mt args c cc own D cA ad n nL tb) {x : Int32} {off : Int} {tgt : Nat} (hd : decode cc pc = .ok (.ifCond .ge off, 3)) (ht : (pc : Int) + off = (tgt : Int)) {α : Type} {X Y : Option α} {z : α} (h : (if 0 ≤ x then X else Y) = some z) (kt : X = some z → GG p l e R s mt args below meth c Q D cA ad cf n nL m tgt lv st) (kf : Y = some z → GG p l e R s mt args below meth c Q D cA ad cf n nL m (pc + 3) lv st) : GG p l e R s mt args below meth c Q D cA ad cf n nL m pc lv (.int x :: st) :=
  fun H locs ls hP hS hl => lv_if_ge C.1 C.2.1 hd ht (fun q => kt (by rw [if_pos q] at h; exact h) H locs ls hP hS hl) (fun q => kf (by rw [if_neg q] at h; exact h) H locs ls hP hS hl)
theorem g_icmp_gt (C : CX p R s mt args c cc own D cA ad n nL tb) {x y : Int32} {off : Int} {tgt : Nat} (hd : decode cc pc = .ok (.if_icmp .gt off, 3)) (ht : (pc : Int) + off = (tgt : Int)) {α : Type} {X Y : Option α} {z : α} (h : (if y < x then X else Y) = some z) (kt : X = some z → GG p l e R s mt args below meth c Q D cA ad cf n nL m tgt lv st) (kf : Y = some z → GG p l e R s mt args below meth c Q D cA ad cf n nL m (pc + 3) lv st) : GG p l e R s mt args below meth c Q D cA ad cf n nL m pc lv (.int y :: .int x :: st) :=
  fun H locs ls hP hS hl => lv_icmp_gt C.1 C.2.1 hd ht (fun q => kt (by rw [if_pos q] at h; exact h) H locs ls hP hS hl) (fun q => kf (by rw [if_neg q] at h; exact h) H locs ls hP hS hl)
theorem g_if_gt (C : CX p R s mt args c cc own D cA ad n nL tb) {x : Int32} {off : Int} {tgt : Nat} (hd : decode cc pc = .ok (.ifCond .gt off, 3)) (ht : (pc : Int) + off = (tgt : Int)) {α : Type} {X Y : Option α} {z : α} (h : (if 0 < x then X else Y) = some z) (kt : X = some z → GG p l e R s mt args below meth c Q D cA ad cf n nL m tgt lv st) (kf : Y = some z → GG p l e R s mt args below meth c Q D cA ad cf n nL m (pc + 3) lv st) : GG p l e R s mt args below meth c Q D cA ad cf n nL m pc lv (.int x :: st) :=
  fun H locs ls hP hS hl => lv_if_gt C.1 C.2.1 hd ht (fun q => kt (by rw [if_pos q] at h; exact h) H locs ls hP hS hl) (fun q => kf (by rw [if_neg q] at h; exact h) H locs ls hP hS hl)
theorem g_icmp_le (C : CX p R s mt args c cc own D cA ad n nL tb) {x y : Int32} {off : Int} {tgt : Nat} (hd : decode cc pc = .ok (.if_icmp .le off, 3)) (ht : (pc : Int) + off = (tgt : Int)) {α : Type} {X Y : Option α} {z : α} (h : (if x ≤ y then X else Y) = some z) (kt : X = some z → GG p l e R s mt args below meth c Q D cA ad cf n nL m tgt lv st) (kf : Y = some z → GG p l e R s mt args below meth c Q D cA ad cf n nL m (pc + 3) lv st) : GG p l e R s mt args below meth c Q D cA ad cf n nL m pc lv (.int y :: .int x :: st) :=
  fun H locs ls hP hS hl => lv_icmp_le C.1 C.2.1 hd ht (fun q => kt (by rw [if_pos q] at h; exact h) H locs ls hP hS hl) (fun q => kf (by rw [if_neg q] at h; exact h) H locs ls hP hS hl)
theorem g_if_le (C : CX p R s mt args c cc own D cA ad n nL tb) {x : Int32} {off : Int} {tgt : Nat} (hd : decode cc pc = .ok (.ifCond .le off, 3)) (ht : (pc : Int) + off = (tgt : Int)) {α : Type} {X Y : Option α} {z : α} (h : (if x ≤ 0 then X else Y) = some z) (kt : X = some z → GG p l e R s mt args below meth c Q D cA ad cf n nL m tgt lv st) (kf : Y = some z → GG p l e R s mt args below meth c Q D cA ad cf n nL m (pc + 3) lv st) : GG p l e R s mt args below meth c Q D cA ad cf n nL m pc lv (.int x :: st) :=
  fun H locs ls hP hS hl => lv_if_le C.1 C.2.1 hd ht (fun q => kt (by rw [if_pos q] at h; exact h) H locs ls hP hS hl) (fun q => kf (by rw [if_neg q] at h; exact h) H locs ls hP hS hl)
theorem g_icmp_ne (C : CX p R s mt args c cc own D cA ad n nL tb) {x y : Int32} {off : Int} {tgt : Nat} (hd : decode cc pc = .ok (.if_icmp .ne off, 3)) (ht : (pc : Int) + off = (tgt : Int)) {α : Type} {X Y : Option α} {z : α} (h : (if x = y then X else Y) = some z) (kf : X = some z → GG p l e R s mt args below meth c Q D cA ad cf n nL m (pc + 3) lv st) (kt : Y = some z → GG p l e R s mt args below meth c Q D cA ad cf n nL m tgt lv st) : GG p l e R s mt args below meth c Q D cA ad cf n nL m pc lv (.int y :: .int x :: st) :=
  fun H locs ls hP hS hl => lv_icmp_ne C.1 C.2.1 hd ht (fun q => kt (by rw [if_neg q] at h; exact h) H locs ls hP hS hl) (fun q => kf (by rw [if_pos q] at h; exact h) H locs ls hP hS hl)
theorem g_if_ne (C : CX p R s mt args c cc own D cA ad n nL tb) {x : Int32} {off : Int} {tgt : Nat} (hd : decode cc pc = .ok (.ifCond .ne off, 3)) (ht : (pc : Int) + off = (tgt : Int)) {α : Type} {X Y : Option α} {z : α} (h : (if x = 0 then X else Y) = some z) (kf : X = some z → GG p l e R s mt args below meth c Q D cA ad cf n nL m (pc + 3) lv st) (kt : Y = some z → GG p l e R s mt args below meth c Q D cA ad cf n nL m tgt lv st) : GG p l e R s mt args below meth c Q D cA ad cf n nL m pc lv (.int x :: st) :=
  fun H locs ls hP hS hl => lv_if_ne C.1 C.2.1 hd ht (fun q => kt (by rw [if_neg q] at h; exact h) H locs ls hP hS hl) (fun q => kf (by rw [if_pos q] at h; exact h) H locs ls hP hS hl)
theorem g_tbl (C : CX p R s mt args c cc own D cA ad n nL tb) {dflt lo hi : Int} {offs : Array Int} {len : Nat} {x : Int32} (hd : decode cc pc = .ok (.tableswitch dflt lo hi offs, len)) {off : Int} {tgt : Nat} (v : Int32) (hx : x = v) (h1 : ¬ v.toInt < lo ∧ ¬ hi < v.toInt) (ho : offs[(v.toInt - lo).toNat]? = some off) (ht : (pc : Int) + off = (tgt : Int)) (k : GG p l e R s mt args below meth c Q D cA ad cf n nL m tgt lv st) : GG p l e R s mt args below meth c Q D cA ad cf n nL m pc lv (.int x :: st) :=
  fun H locs ls hP hS hl => lv_tableIn C.1 C.2.1 hd (by rw [hx]; exact h1.1) (by rw [hx]; exact h1.2) (by rw [hx]; exact ho) ht (k H locs ls hP hS hl)
theorem g_tblOut (C : CX p R s mt args c cc own D cA ad n nL tb) {dflt lo hi : Int} {offs : Array Int} {len : Nat} {x : Int32} (hd : decode cc pc = .ok (.tableswitch dflt lo hi offs, len)) {tgt : Nat} (h1 : x.toInt < lo ∨ hi < x.toInt) (ht : (pc : Int) + dflt = (tgt : Int)) (k : GG p l e R s mt args below meth c Q D cA ad cf n nL m tgt lv st) : GG p l e R s mt args below meth c Q D cA ad cf n nL m pc lv (.int x :: st) :=
  fun H locs ls hP hS hl => lv_tableOut C.1 C.2.1 hd h1 ht (k H locs ls hP hS hl)
theorem g_lookup (C : CX p R s mt args c cc own D cA ad n nL tb) {dflt : Int} {ps : Array (Int × Int)} {len : Nat} {x : Int32} (hd : decode cc pc = .ok (.lookupswitch dflt ps, len)) (hs : (ps.toList.zip (ps.toList.drop 1)).all (fun (a, next) => a.1 < next.1) = true) {off : Int} {tgt : Nat} (ho : Op.lookupswitch.offset ps.toList dflt x.toInt = off) (ht : (pc : Int) + off = (tgt : Int)) (k : GG p l e R s mt args below meth c Q D cA ad cf n nL m tgt lv st) : GG p l e R s mt args below meth c Q D cA ad cf n nL m pc lv (.int x :: st) :=
  fun H locs ls hP hS hl => lv_lookup C.1 C.2.1 hd hs ho ht (k H locs ls hP hS hl)
theorem FO_at {k ci : Nat} {fs : (Nat → Nat) → Nat → (Nat → Int32) → (Nat → Int64) → List Value} (hf : FO cf n k ci fs) : (WD cf n cA ad m)[k]? = some (ad k, .inr (ci, fs ad k (m.1 k) (m.2 k))) := by
  rw [WD_at hf.1, hf.2]
theorem FI_at {k len : Nat} (hf : FI cf n k len) : (WD cf n cA ad m)[k]? = some (ad k, .inl (cA 0, len, .inl (m.1 k))) := by
  rw [WD_at hf.1, hf.2]
theorem FZ_at {k len : Nat} (hf : FZ cf n k len) : (WD cf n cA ad m)[k]? = some (ad k, .inl (cA 2, len, .inl (m.1 k))) := by
  rw [WD_at hf.1, hf.2]
theorem FL_at {k len : Nat} (hf : FL cf n k len) : (WD cf n cA ad m)[k]? = some (ad k, .inl (cA 1, len, .inr (.inl (m.2 k)))) := by
  rw [WD_at hf.1, hf.2]
theorem FQ_at {k t len : Nat} {f : Nat → Nat} (hf : FQ cf n k t len f) : (WD cf n cA ad m)[k]? = some (ad k, .inl (cA t, len, .inr (.inr (.inr (.inr (fun i => some (ad (f i)))))))) := by
  rw [WD_at hf.1, hf.2]
theorem g_get (C : CX p R s mt args c cc own D cA ad n nL tb) {k j index ci N : Nat} {Cn : String} {T : u_T} {fs : (Nat → Nat) → Nat → (Nat → Int32) → (Nat → Int64) → List Value} (hcl : ∀ w ∈ u_ws Cn T N, w.before args s = true) (hf : FO cf n k ci fs) (hc : vwCl[ci]? = some (Cn, T, N)) (hj : j < N) (hlk : Cond.fieldLink own index (T j).1 (T j).2.1 (T j).2.2.1 ∈ WL) {v : Value} (hv : (fs ad k (m.1 k) (m.2 k))[j]? = some v) (hd : decode cc pc = .ok (.getfield index, 3)) (kk : GG p l e R s mt args below meth c Q D cA ad cf n nL m (pc + 3) lv (v :: st)) : GG p l e R s mt args below meth c Q D cA ad cf n nL m pc lv (.ref (ad k) :: st) :=
  fun H locs ls hP hS hl => va_get C.1 C.2.1 hcl (fun _ h => h) C.2.2.2.1 C.2.2.2.2.2.1 hP k (FO_at hf) hc j hj (C.2.2.2.2.1 _ hlk) (fun _ h => h) hv hd (kk H locs ls hP hS hl)
theorem g_put (C : CX p R s mt args c cc own D cA ad n nL tb) {k j index ci N : Nat} {Cn : String} {T : u_T} {fs : (Nat → Nat) → Nat → (Nat → Int32) → (Nat → Int64) → List Value} (hcl : ∀ w ∈ u_ws Cn T N, w.before args s = true) (hf : FO cf n k ci fs) (hc : vwCl[ci]? = some (Cn, T, N)) (hj : j < N) (hlk : Cond.fieldLink own index (T j).1 (T j).2.1 (T j).2.2.1 ∈ WL) (ty0 : Nat → FieldType) (hty : ∀ k, k < N → parseFieldDescriptor (T k).2.2.1 = some (ty0 k)) (hnm : ∀ a, a < N → ∀ b, b < N → a ≠ b → (T a).2.1 ≠ (T b).2.1) (hfin : (T j).2.2.2 = false) {v : Value} (hn : narrow (ty0 j) v = v) (hfit : fits (ty0 j) v = true) {m' : MM} (he : fs ad k (m'.1 k) (m'.2 k) = (fs ad k (m.1 k) (m.2 k)).set j v) (h1 : ∀ q, q ≠ k → m'.1 q = m.1 q) (h2 : ∀ q, q ≠ k → m'.2 q = m.2 q) (hlen : j < (fs ad k (m.1 k) (m.2 k)).length) (hd : decode cc pc = .ok (.putfield index, 3)) {α : Type} {K : MM → Option α} {z : α} (h : Lt m' K = some z) (kk : ∀ m', K m' = some z → GG p l e R s mt args below meth c Q D cA ad cf n nL m' (pc + 3) lv st) : GG p l e R s mt args below meth c Q D cA ad cf n nL m pc lv (v :: .ref (ad k) :: st) :=
  fun H locs ls hP hS hl => va_put C.1 C.2.1 hcl (fun _ h => h) ty0 hty hnm C.2.2.2.1 C.2.2.2.2.2.1 hP (WD_D C.2.2.2.2.2.2.1 m) hS k (FO_at hf) hc j hj (C.2.2.2.2.1 _ hlk) (fun _ h => h) hfin (hty j hj) hn hfit hlen hd (fun H1 locs1 hP1 hD1 hS1 => by
    rw [WD_set (m := m) (m' := m') hf.1 (by rw [hf.2, he]) h1 h2] at hP1
    exact kk m' h H1 locs1 ls hP1 hS1 hl)
theorem g_putI (C : CX p R s mt args c cc own D cA ad n nL tb) {k j index ci N : Nat} {Cn : String} {T : u_T} {fs : (Nat → Nat) → Nat → (Nat → Int32) → (Nat → Int64) → List Value} (hcl : ∀ w ∈ u_ws Cn T N, w.before args s = true) (hf : FO cf n k ci fs) (hc : vwCl[ci]? = some (Cn, T, N)) (hj : j < N) (hlk : Cond.fieldLink own index (T j).1 (T j).2.1 (T j).2.2.1 ∈ WL) (ty0 : Nat → FieldType) (hty : ∀ k, k < N → parseFieldDescriptor (T k).2.2.1 = some (ty0 k)) (hnm : ∀ a, a < N → ∀ b, b < N → a ≠ b → (T a).2.1 ≠ (T b).2.1) (hfin : (T j).2.2.2 = false) (hi : ty0 j = .int) {v : Int32} (he : ∀ ad k r g v, fs ad k (upd r j v) g = (fs ad k r g).set j (.int v)) (hlen : ∀ ad k r g, j < (fs ad k r g).length) (hd : decode cc pc = .ok (.putfield index, 3)) {α : Type} {K : MM → Option α} {z : α} (h : Lt (wI m k j v) K = some z) (kk : ∀ m', K m' = some z → GG p l e R s mt args below meth c Q D cA ad cf n nL m' (pc + 3) lv st) : GG p l e R s mt args below meth c Q D cA ad cf n nL m pc lv (.int v :: .ref (ad k) :: st) :=
  g_put C hcl hf hc hj hlk ty0 hty hnm hfin (by rw [hi]; exact vp_nar_int v) (by rw [hi]; rfl) (by rw [wI_at]; exact he _ _ _ _ _) (fun q hq => wI_ne hq) (fun _ _ => rfl) (hlen _ _ _ _) hd h kk
theorem g_putZ (C : CX p R s mt args c cc own D cA ad n nL tb) {k j index ci N : Nat} {Cn : String} {T : u_T} {fs : (Nat → Nat) → Nat → (Nat → Int32) → (Nat → Int64) → List Value} (hcl : ∀ w ∈ u_ws Cn T N, w.before args s = true) (hf : FO cf n k ci fs) (hc : vwCl[ci]? = some (Cn, T, N)) (hj : j < N) (hlk : Cond.fieldLink own index (T j).1 (T j).2.1 (T j).2.2.1 ∈ WL) (ty0 : Nat → FieldType) (hty : ∀ k, k < N → parseFieldDescriptor (T k).2.2.1 = some (ty0 k)) (hnm : ∀ a, a < N → ∀ b, b < N → a ≠ b → (T a).2.1 ≠ (T b).2.1) (hfin : (T j).2.2.2 = false) (hi : ty0 j = .boolean) {v : Int32} (he : ∀ ad k r g v, fs ad k (upd r j v) g = (fs ad k r g).set j (.int v)) (hlen : ∀ ad k r g, j < (fs ad k r g).length) (hd : decode cc pc = .ok (.putfield index, 3)) {α : Type} {K : MM → Option α} {z : α} (h : Gu (bz v) (Lt (wI m k j v) K) = some z) (kk : ∀ m', K m' = some z → GG p l e R s mt args below meth c Q D cA ad cf n nL m' (pc + 3) lv st) : GG p l e R s mt args below meth c Q D cA ad cf n nL m pc lv (.int v :: .ref (ad k) :: st) :=
  g_put C hcl hf hc hj hlk ty0 hty hnm hfin (by rw [hi]; exact bz_nar (Gu_inv h).1) (by rw [hi]; exact bz_fit (Gu_inv h).1) (by rw [wI_at]; exact he _ _ _ _ _) (fun q hq => wI_ne hq) (fun _ _ => rfl) (hlen _ _ _ _) hd (Gu_inv h).2 kk
theorem g_putL (C : CX p R s mt args c cc own D cA ad n nL tb) {k j index ci N : Nat} {Cn : String} {T : u_T} {fs : (Nat → Nat) → Nat → (Nat → Int32) → (Nat → Int64) → List Value} (hcl : ∀ w ∈ u_ws Cn T N, w.before args s = true) (hf : FO cf n k ci fs) (hc : vwCl[ci]? = some (Cn, T, N)) (hj : j < N) (hlk : Cond.fieldLink own index (T j).1 (T j).2.1 (T j).2.2.1 ∈ WL) (ty0 : Nat → FieldType) (hty : ∀ k, k < N → parseFieldDescriptor (T k).2.2.1 = some (ty0 k)) (hnm : ∀ a, a < N → ∀ b, b < N → a ≠ b → (T a).2.1 ≠ (T b).2.1) (hfin : (T j).2.2.2 = false) (hi : ty0 j = .long) {v : Int64} (he : ∀ ad k r g v, fs ad k r (vp_updL g j v) = (fs ad k r g).set j (.long v)) (hlen : ∀ ad k r g, j < (fs ad k r g).length) (hd : decode cc pc = .ok (.putfield index, 3)) {α : Type} {K : MM → Option α} {z : α} (h : Lt (wL m k j v) K = some z) (kk : ∀ m', K m' = some z → GG p l e R s mt args below meth c Q D cA ad cf n nL m' (pc + 3) lv st) : GG p l e R s mt args below meth c Q D cA ad cf n nL m pc lv (.long v :: .ref (ad k) :: st) :=
  g_put C hcl hf hc hj hlk ty0 hty hnm hfin (by rw [hi]; rfl) (by rw [hi]; rfl) (m' := wL m k j v) (by rw [wL_at]; exact he _ _ _ _ _) (fun _ _ => rfl) (fun q hq => wL_ne hq) (hlen _ _ _ _) hd h kk
theorem g_iald (C : CX p R s mt args c cc own D cA ad n nL tb) {k len : Nat} (hf : FI cf n k len) {i : Int32} (hd : decode cc pc = .ok (.iaload, 1)) {α : Type} {K : Option α} {z : α} (h : Gu (inB i len) K = some z) (kk : K = some z → GG p l e R s mt args below meth c Q D cA ad cf n nL m (pc + 1) lv (.int (rI m k (ix i)) :: st)) : GG p l e R s mt args below meth c Q D cA ad cf n nL m pc lv (.int i :: .ref (ad k) :: st) :=
  fun H locs ls hP hS hl => va_iald C.1 C.2.1 C.2.2.2.2.2.1 hP k 0 (FI_at hf) rfl (inB_in (Gu_inv h).1) hd (kk (Gu_inv h).2 H locs ls hP hS hl)
theorem g_lald (C : CX p R s mt args c cc own D cA ad n nL tb) {k len : Nat} (hf : FL cf n k len) {i : Int32} (hd : decode cc pc = .ok (.laload, 1)) {α : Type} {K : Option α} {z : α} (h : Gu (inB i len) K = some z) (kk : K = some z → GG p l e R s mt args below meth c Q D cA ad cf n nL m (pc + 1) lv (.long (rL m k (ix i)) :: st)) : GG p l e R s mt args below meth c Q D cA ad cf n nL m pc lv (.int i :: .ref (ad k) :: st) :=
  fun H locs ls hP hS hl => va_lald C.1 C.2.1 C.2.2.2.2.2.1 hP k 1 (FL_at hf) rfl (inB_in (Gu_inv h).1) hd (kk (Gu_inv h).2 H locs ls hP hS hl)
theorem g_zald (C : CX p R s mt args c cc own D cA ad n nL tb) {k len : Nat} (hf : FZ cf n k len) {i : Int32} (hd : decode cc pc = .ok (.baload, 1)) {α : Type} {K : Option α} {z : α} (h : Gu (inB i len) K = some z) (kk : K = some z → GG p l e R s mt args below meth c Q D cA ad cf n nL m (pc + 1) lv (.int (rI m k (ix i)) :: st)) : GG p l e R s mt args below meth c Q D cA ad cf n nL m pc lv (.int i :: .ref (ad k) :: st) :=
  fun H locs ls hP hS hl => va_zald C.1 C.2.1 C.2.2.2.2.2.1 hP k 2 (FZ_at hf) rfl (inB_in (Gu_inv h).1) hd (kk (Gu_inv h).2 H locs ls hP hS hl)
theorem g_aald (C : CX p R s mt args c cc own D cA ad n nL tb) {k t len : Nat} {Cn : String} {f : Nat → Nat} (hf : FQ cf n k t len f) (ht : ∀ cA, (tyL cA)[t]? = some (cA t, .object Cn)) {i : Int32} (hd : decode cc pc = .ok (.aaload, 1)) {α : Type} {K : Option α} {z : α} (h : Gu (inB i len) K = some z) (kk : K = some z → GG p l e R s mt args below meth c Q D cA ad cf n nL m (pc + 1) lv (.ref (ad (f (ix i))) :: st)) : GG p l e R s mt args below meth c Q D cA ad cf n nL m pc lv (.int i :: .ref (ad k) :: st) :=
  fun H locs ls hP hS hl => va_aldq C.1 C.2.1 C.2.2.2.2.2.1 hP k t (FQ_at hf) (ht cA) (inB_in (Gu_inv h).1) hd (kk (Gu_inv h).2 H locs ls hP hS hl)
theorem g_iast (C : CX p R s mt args c cc own D cA ad n nL tb) {k len : Nat} (hf : FI cf n k len) {i x : Int32} (hd : decode cc pc = .ok (.iastore, 1)) {α : Type} {K : MM → Option α} {z : α} (h : Gu (inB i len) (Lt (wI m k (ix i) x) K) = some z) (kk : ∀ m', K m' = some z → GG p l e R s mt args below meth c Q D cA ad cf n nL m' (pc + 1) lv st) : GG p l e R s mt args below meth c Q D cA ad cf n nL m pc lv (.int x :: .int i :: .ref (ad k) :: st) :=
  fun H locs ls hP hS hl => va_iast C.1 C.2.1 C.2.2.2.2.2.1 hP (WD_D C.2.2.2.2.2.2.1 m) hS k 0 (FI_at hf) rfl (inB_in (Gu_inv h).1) hd (fun H1 locs1 hP1 hD1 hS1 => by
    rw [WD_set (m := m) (m' := wI m k (ix i) x) hf.1 (by rw [hf.2, wI_at]) (fun q hq => wI_ne hq) (fun _ _ => rfl)] at hP1
    exact kk _ (Gu_inv h).2 H1 locs1 ls hP1 hS1 hl)
theorem g_zast (C : CX p R s mt args c cc own D cA ad n nL tb) {k len : Nat} (hf : FZ cf n k len) {i x : Int32} (hd : decode cc pc = .ok (.bastore, 1)) {α : Type} {K : MM → Option α} {z : α} (h : Gu (inB i len && bz x) (Lt (wI m k (ix i) x) K) = some z) (kk : ∀ m', K m' = some z → GG p l e R s mt args below meth c Q D cA ad cf n nL m' (pc + 1) lv st) : GG p l e R s mt args below meth c Q D cA ad cf n nL m pc lv (.int x :: .int i :: .ref (ad k) :: st) :=
  fun H locs ls hP hS hl => va_zast C.1 C.2.1 C.2.2.2.2.2.1 hP (WD_D C.2.2.2.2.2.2.1 m) hS k 2 (FZ_at hf) rfl (inB_in (Bool.and_eq_true _ _ ▸ (Gu_inv h).1).1) hd (fun H1 locs1 hP1 hD1 hS1 => by
    rw [bz_vp (Bool.and_eq_true _ _ ▸ (Gu_inv h).1).2, WD_set (m := m) (m' := wI m k (ix i) x) hf.1 (by rw [hf.2, wI_at]) (fun q hq => wI_ne hq) (fun _ _ => rfl)] at hP1
    exact kk _ (Gu_inv h).2 H1 locs1 ls hP1 hS1 hl)
theorem g_last (C : CX p R s mt args c cc own D cA ad n nL tb) {k len : Nat} (hf : FL cf n k len) {i : Int32} {x : Int64} (hd : decode cc pc = .ok (.lastore, 1)) {α : Type} {K : MM → Option α} {z : α} (h : Gu (inB i len) (Lt (wL m k (ix i) x) K) = some z) (kk : ∀ m', K m' = some z → GG p l e R s mt args below meth c Q D cA ad cf n nL m' (pc + 1) lv st) : GG p l e R s mt args below meth c Q D cA ad cf n nL m pc lv (.long x :: .int i :: .ref (ad k) :: st) :=
  fun H locs ls hP hS hl => va_last C.1 C.2.1 C.2.2.2.2.2.1 hP (WD_D C.2.2.2.2.2.2.1 m) hS k 1 (FL_at hf) rfl (inB_in (Gu_inv h).1) hd (fun H1 locs1 hP1 hD1 hS1 => by
    rw [WD_set (m := m) (m' := wL m k (ix i) x) hf.1 (by rw [hf.2, wL_at]) (fun _ _ => rfl) (fun q hq => wL_ne hq)] at hP1
    exact kk _ (Gu_inv h).2 H1 locs1 ls hP1 hS1 hl)
theorem g_alen (C : CX p R s mt args c cc own D cA ad n nL tb) {k len : Nat} (hf : FI cf n k len) {v : Int32} (hv : Int32.ofNat len = v) (hd : decode cc pc = .ok (.arraylength, 1)) (kk : GG p l e R s mt args below meth c Q D cA ad cf n nL m (pc + 1) lv (.int v :: st)) : GG p l e R s mt args below meth c Q D cA ad cf n nL m pc lv (.ref (ad k) :: st) :=
  fun H locs ls hP hS hl => va_alen C.1 C.2.1 C.2.2.2.2.2.1 hP k 0 (FI_at hf) rfl hv hd (kk H locs ls hP hS hl)
theorem g_copy (C : CX p R s mt args c cc own D cA ad n nL tb) {k k2 len len2 index : Nat} (hf : FI cf n k len) (hf2 : FI cf n k2 len2) (hlk : Cond.methodLink own index arraycopyName ∈ WL) (hnat : Cond.native arraycopyName ∈ WL) (hst : Cond.static arraycopyName ∈ WL) (hini : Cond.initialized "java/lang/System" ∈ WL) {i j w : Int32} (hR : 1 ≤ R.frames ∧ 8 + (nativeFrameWords "java/lang/System" "arraycopy" 5 + 11) ≤ R.locals) (hsum : (st.map fun v => v.category).sum ≤ 8) (hd : decode cc pc = .ok (.invokestatic index, 3)) {α : Type} {K : MM → Option α} {z : α} (h : Gu (cpyOk i j w len len2) (Lt (cpy m k i k2 j w) K) = some z) (kk : ∀ m', K m' = some z → GG p l e R s mt args below meth c Q D cA ad cf n nL m' (pc + 3) lv st) : GG p l e R s mt args below meth c Q D cA ad cf n nL m pc lv (.int w :: .int j :: .ref (ad k2) :: .int i :: .ref (ad k) :: st) := by
  intro H locs ls hP hS hl
  have h0 := (Gu_inv h).1
  unfold cpyOk at h0
  simp only [Bool.and_eq_true, decide_eq_true_eq] at h0
  obtain ⟨a1, a2, a3, a4, a5⟩ := h0
  refine va_copyi C.1 C.2.1 (C.2.2.1.trans hl.1.symm) C.2.2.2.1 (C.2.2.2.2.1 _ hlk) (C.2.2.2.2.1 _ hnat) (C.2.2.2.2.1 _ hst) (C.2.2.2.2.1 _ hini) C.2.2.2.2.2.1 hP (WD_D C.2.2.2.2.2.2.1 m) hS k k2 0 0 (FI_at hf) (FI_at hf2) rfl rfl rfl (Int32.not_lt.mpr a1) (Int32.not_lt.mpr a2) (Int32.not_lt.mpr a3) a4 a5 (fun _ _ => rfl) hR.1 (by have := hR.2; omega) hd (fun H1 locs1 hP1 hD1 hS1 => ?_)
  rw [WD_set (m := m) (m' := cpy m k i k2 j w) hf2.1 (by rw [hf2.2]; unfold cpy; rw [wA_at]) (fun q hq => by unfold cpy; rw [wA_ne hq]) (fun _ _ => rfl)] at hP1
  exact kk _ (Gu_inv h).2 H1 locs1 ls hP1 hS1 hl
theorem g_gets (C : CX p R s mt args c cc own D cA ad n nL tb) {index : Nat} (q : Nat) (hq : q < 4) (hlk : Cond.fieldLink own index "BothHandsFull" (stN q) "[I" ∈ WL) (hd : decode cc pc = .ok (.getstatic index, 3)) (kk : GG p l e R s mt args below meth c Q D cA ad cf n nL m (pc + 3) lv (.ref (tb q) :: st)) : GG p l e R s mt args below meth c Q D cA ad cf n nL m pc lv st :=
  fun H locs ls hP hS hl => va_gets C.1 C.2.1 (C.2.2.2.2.2.2.2.1 q hq).1 hS C.2.2.2.1 (C.2.2.2.2.1 _ hlk) (fun _ h => h) hd (kk H locs ls hP hS hl)
theorem g_getsN (C : CX p R s mt args c cc own D cA ad n nL tb) {index : Nat} {host : String} (q : Nat) (hq : q < 4) (hlk : Cond.fieldLinkNest own index "BothHandsFull" (stN q) "[I" host ∈ nestW) (hd : decode cc pc = .ok (.getstatic index, 3)) (kk : GG p l e R s mt args below meth c Q D cA ad cf n nL m (pc + 3) lv (.ref (tb q) :: st)) : GG p l e R s mt args below meth c Q D cA ad cf n nL m pc lv st :=
  fun H locs ls hP hS hl => va_getsN C.1 C.2.1 (C.2.2.2.2.2.2.2.1 q hq).1 hS C.2.2.2.1 (va_Nw.use rfl (C.2.2.2.2.2.2.2.2.1 _ hlk)) (fun _ h => h) hd (kk H locs ls hP hS hl)
theorem g_sald (C : CX p R s mt args c cc own D cA ad n nL tb) {q : Nat} (hq : q < 4) {i : Int32} (hd : decode cc pc = .ok (.iaload, 1)) {α : Type} {K : Option α} {z : α} (h : Gu (inB i 6) K = some z) (kk : K = some z → GG p l e R s mt args below meth c Q D cA ad cf n nL m (pc + 1) lv (.int (stT q (ix i)) :: st)) : GG p l e R s mt args below meth c Q D cA ad cf n nL m pc lv (.int i :: .ref (tb q) :: st) := by
  intro H locs ls hP hS hl
  obtain ⟨cell, h1, h2, h3, h4, h5, h6, h7⟩ := (C.2.2.2.2.2.2.2.1 q hq).2
  have hi := inB_in (Gu_inv h).1
  have hlt : i.toNatClampNeg < 6 := Nat.not_le.mp fun q => hi (Or.inr q)
  exact W.iald (v := .int (stT q (ix i))) C.1 C.2.1 (by rw [hS.2.1 _ (Array.getElem?_eq_some_iff.mp h1).1 h7]; exact h1) h2 h3 (fun q => hi (q.imp_right (fun z => Nat.le_trans h4 z))) (h6 _ hlt) rfl rfl hd (kk (Gu_inv h).2 H locs ls hP hS hl)
theorem g_max (C : CX p R s mt args c cc own D cA ad n nL tb) {index : Nat} (hlk : Cond.methodLink own index Lib.Math.max.name ∈ WL) (hst : Cond.static Lib.Math.max.name ∈ WL) (hini : Cond.initialized "java/lang/Math" ∈ WL) (hcd : Cond.code Lib.Math.max.name Lib.Math.max.code 2 (some .int) ∈ WL) (hR : 1 ≤ R.frames ∧ 21 ≤ R.locals) (hsum : (st.map fun v => v.category).sum ≤ 8) {x y : Int32} (hd : decode cc pc = .ok (.invokestatic index, 3)) (kk : GG p l e R s mt args below meth c Q D cA ad cf n nL m (pc + 3) lv (.int (maxI x y) :: st)) : GG p l e R s mt args below meth c Q D cA ad cf n nL m pc lv (.int y :: .int x :: st) :=
  fun H locs ls hP hS hl => va_mmax C.1 C.2.1 (C.2.2.1.trans hl.1.symm) C.2.2.2.1 (C.2.2.2.2.1 _ hlk) (C.2.2.2.2.1 _ hst) (C.2.2.2.2.1 _ hini) (C.2.2.2.2.1 _ hcd) hR.1 (by have := hR.2; omega) (Nat.zero_le _) (Nat.zero_le _) hd (kk H locs ls hP hS hl)
theorem g_min (C : CX p R s mt args c cc own D cA ad n nL tb) {index : Nat} (hlk : Cond.methodLink own index Lib.Math.min.name ∈ WL) (hst : Cond.static Lib.Math.min.name ∈ WL) (hini : Cond.initialized "java/lang/Math" ∈ WL) (hcd : Cond.code Lib.Math.min.name Lib.Math.min.code 2 (some .int) ∈ WL) (hR : 1 ≤ R.frames ∧ 21 ≤ R.locals) (hsum : (st.map fun v => v.category).sum ≤ 8) {x y : Int32} (hd : decode cc pc = .ok (.invokestatic index, 3)) (kk : GG p l e R s mt args below meth c Q D cA ad cf n nL m (pc + 3) lv (.int (minI x y) :: st)) : GG p l e R s mt args below meth c Q D cA ad cf n nL m pc lv (.int y :: .int x :: st) :=
  fun H locs ls hP hS hl => va_mmin C.1 C.2.1 (C.2.2.1.trans hl.1.symm) C.2.2.2.1 (C.2.2.2.2.1 _ hlk) (C.2.2.2.2.1 _ hst) (C.2.2.2.2.1 _ hini) (C.2.2.2.2.1 _ hcd) hR.1 (by have := hR.2; omega) (Nat.zero_le _) (Nat.zero_le _) hd (kk H locs ls hP hS hl)
theorem g_iret (C : CX p R s mt args c cc own D cA ad n nL tb) {m' : MM} {x : Int32} (hr : meth.sig.returnType = some .int) (hlk : meth.locks = false) (hd : decode cc pc = .ok (.ireturn, 1)) (hm : m = m') : GG p l e R s mt args below meth c (MQ below (QF D cA ad cf n (some (.int x)) m' s.heap.size) args s 0 0 (AA ad n s.heap.size)) D cA ad cf n nL m pc lv [.int x] := by
  subst hm
  intro H locs ls hP hS hl
  exact W.iret C.1 C.2.1 hr  (fun t ht hW => ⟨⟨rfl, by rw [ht]; exact hP⟩, hS.F ht⟩) hS.2.2 hd hlk
theorem g_zret (C : CX p R s mt args c cc own D cA ad n nL tb) {m' : MM} {x : Int32} (hr : meth.sig.returnType = some .boolean) (hlk : meth.locks = false) (hd : decode cc pc = .ok (.ireturn, 1)) (hz : bz x = true) (hm : m = m') : GG p l e R s mt args below meth c (MQ below (QF D cA ad cf n (some (.int x)) m' s.heap.size) args s 0 0 (AA ad n s.heap.size)) D cA ad cf n nL m pc lv [.int x] := by
  subst hm
  intro H locs ls hP hS hl
  exact W.zret C.1 C.2.1 hr (bz_nar hz) (fun t ht hW => ⟨⟨rfl, by rw [ht]; exact hP⟩, hS.F ht⟩) hS.2.2 hd hlk
theorem g_lret (C : CX p R s mt args c cc own D cA ad n nL tb) {m' : MM} {x : Int64} (hr : meth.sig.returnType = some .long) (hlk : meth.locks = false) (hd : decode cc pc = .ok (.lreturn, 1)) (hm : m = m') : GG p l e R s mt args below meth c (MQ below (QF D cA ad cf n (some (.long x)) m' s.heap.size) args s 0 0 (AA ad n s.heap.size)) D cA ad cf n nL m pc lv [.long x] := by
  subst hm
  intro H locs ls hP hS hl
  exact W.lret C.1 C.2.1 hr  (fun t ht hW => ⟨⟨rfl, by rw [ht]; exact hP⟩, hS.F ht⟩) hS.2.2 hd hlk
theorem g_vret (C : CX p R s mt args c cc own D cA ad n nL tb) {m' : MM} (hr : meth.sig.returnType = none) (hlk : meth.locks = false) (hd : decode cc pc = .ok (.return_, 1)) (hm : m = m') : GG p l e R s mt args below meth c (MQ below (QF D cA ad cf n none m' s.heap.size) args s 0 0 (AA ad n s.heap.size)) D cA ad cf n nL m pc lv [] := by
  subst hm
  intro H locs ls hP hS hl
  exact W.vret C.1 C.2.1 hr  (fun t ht hW => ⟨⟨rfl, by rw [ht]; exact hP⟩, hS.F ht⟩) hS.2.2 hd hlk

theorem AA_le {sz sz2 : Nat} (h : sz ≤ sz2) : ∀ q, AA ad n sz2 q → AA ad n sz q := fun q hq => hq.imp_right (fun z => Nat.le_trans h z)
theorem g_ran {H : Heap} {locs : List Loc} {ls : Array Slot} {rest stk : List Value} {a : Array Value} {o : Option Value} {m' : MM} (hS : va_S (AA ad n s.heap.size) s.heap H locs) (hl : lv_has ls nL lv) (hr : va_Run p l e R s mt args below meth c H locs 0 0 0 0 (F0 mt pc ls stk) rest (QF D cA ad cf n o m' H.size a) (AA ad n H.size)) (kk : GG p l e R s mt args below meth c Q D cA ad cf n nL m' (pc + 3) lv (o.toList ++ rest)) : W p l e R s mt args below meth c H locs 0 0 Q (F0 mt pc ls stk) := by
  intro T hT X
  obtain ⟨v, st₀, t, T', L, h0, X', hL, e1, e2, ⟨⟨hv, hPt⟩, hz, hk⟩, st⟩ := hr T hT X
  cases hv
  rw [h0] at hz hk
  obtain ⟨t2, a1, b1⟩ := kk T'.heap (locs ++ L) ls (by rw [e1]; exact hPt) ⟨Nat.le_trans hS.1 (by rw [e1]; exact hz), fun q h1 h2 => by rw [e1, hk q (Nat.lt_of_lt_of_le h1 hS.1) (fun z => h2 (AA_le hS.1 q z))]; exact hS.2.1 q h1 h2, fun q hq => by
      rcases List.mem_append.mp hq with h | h
      · exact hS.2.2 q h
      · exact AA_le hS.1 _ (hL q h)⟩ hl T' rfl X'
  exact ⟨t2, st t2 a1, b1⟩
theorem g_pre {cf : CF} {av : (Nat → Nat) → (Nat → Nat) → List Value} {H : Heap} {locs : List Loc} (C : CX p R s mt args c cc own D cA ad n nL tb) (hP : va_P D vwCl (WD cf n cA ad m) H) (hS : va_S (AA ad n s.heap.size) s.heap H locs) : ∀ U : State, U.heap = H → s.WarmedH U.vm → va_Pc (av ad tb) (fun U => U.heap.size = H.size ∧ va_P D vwCl (WD cf n cA ad m) U.heap ∧ va_K D vwCl (tyL cA) U ∧ SX tb (AA ad n H.size) U U.heap) (av ad tb).toArray U := by
  intro U hU hW
  refine ⟨rfl, by rw [hU], by rw [hU]; exact hP, va_K.moved hW.alike C.2.2.2.2.2.1, SX.go C.2.2.2.2.2.2.2 hW (fun a h1 h2 => ?_) (AA_le hS.1)⟩
  rw [hU]
  exact hS.2.1 a h1 h2
theorem g_blind {cf : CF} {av : (Nat → Nat) → (Nat → Nat) → List Value} {sz : Nat} : FrameBlind (va_Pc (av ad tb) (fun U => U.heap.size = sz ∧ va_P D vwCl (WD cf n cA ad m) U.heap ∧ va_K D vwCl (tyL cA) U ∧ SX tb (AA ad n sz) U U.heap)) :=
  fun a U g mk q => ⟨q.1, q.2.1, q.2.2.1, va_K.moved (u := U) (U := U.calling g mk a) (Vm.Alike.refl U.vm) q.2.2.2.1, q.2.2.2.2.calling g mk a⟩
theorem wl_good : ∀ w ∈ WL, goodWord w = true := fun w h => (List.mem_filter.mp h).2
theorem wl_in {w : Cond} (h : w ∈ WL) : w ∈ WL ∧ ((w.onTables && w.keeps) = true ∨ ∃ ty, w = .arrayClass ty) := ⟨h, good_of_word (wl_good w h)⟩
theorem wl_ws {w0 : Cond} (h : w0 ∈ WL) : GoodIn WL (w0 :: WL) := by
  intro w hw
  rcases List.mem_cons.mp hw with rfl | hw
  · exact wl_in h
  · exact wl_in hw
theorem cwVw (np : Nat) {y : MethodName} {bytes : ByteArray} {maxL index : Nat} {ret : Option FieldType} {rm' : Room} {Cn : String} (ht : ∀ w ∈ WL, w.before args s = true) (h1 : Cond.methodLink own index y ∈ WL) (h2 : Cond.instanceMethod y ∈ WL) (h3 : Cond.selects Cn y y ∈ WL) (h4 : Cond.initialized Cn ∈ WL) (h5 : Cond.code y bytes maxL ret ∈ WL) (hrc : rm'.cells = 0) (hrs : rm'.slots = 0) (hd : y.cls = Cn ∧ y.cls ≠ "java/lang/invoke/MethodHandle" ∧ y.cls ≠ "java/lang/invoke/VarHandle" ∧ (parseMethodDescriptor y.desc).map (fun d => d.parameters.length) = some np) (hR : rm'.frames + 1 ≤ R.frames ∧ 8 + (maxL + 11) + rm'.locals ≤ R.locals) : CallW R s args own Cn index y bytes maxL ret (Cond.code y bytes maxL ret :: WL) rm' 0 0 np := by
  refine cwV np ht ?_ rfl hrc hrs hd hR
  intro w hw
  unfold wsV at hw
  rcases List.mem_append.mp hw with hw | hw
  · simp only [List.mem_cons, List.not_mem_nil, or_false] at hw
    rcases hw with rfl | rfl | rfl | rfl
    · exact wl_in h1
    · exact wl_in h2
    · exact wl_in h3
    · exact wl_in h4
  · exact wl_ws h5 w hw
theorem cwSw (np : Nat) {y : MethodName} {bytes : ByteArray} {maxL index : Nat} {ret : Option FieldType} {rm' : Room} (ht : ∀ w ∈ WL, w.before args s = true) (h1 : Cond.methodLink own index y ∈ WL) (h2 : Cond.static y ∈ WL) (h4 : Cond.initialized y.cls ∈ WL) (h5 : Cond.code y bytes maxL ret ∈ WL) (hrc : rm'.cells = 0) (hrs : rm'.slots = 0) (hd : y.cls ≠ "java/lang/invoke/MethodHandle" ∧ y.cls ≠ "java/lang/invoke/VarHandle" ∧ (parseMethodDescriptor y.desc).map (fun d => d.parameters.length) = some np) (hR : rm'.frames + 1 ≤ R.frames ∧ 8 + (maxL + 11) + rm'.locals ≤ R.locals) : CallB R s args own index y bytes maxL ret (Cond.code y bytes maxL ret :: WL) rm' 0 0 np ∧ (Cond.static y).before args s = true := by
  refine va_cwS np ht ?_ rfl hrc hrs hd hR
  intro w hw
  unfold va_wsS at hw
  rcases List.mem_append.mp hw with hw | hw
  · simp only [List.mem_cons, List.not_mem_nil, or_false] at hw
    rcases hw with rfl | rfl | rfl
    · exact wl_in h1
    · exact wl_in h2
    · exact wl_in h4
  · exact wl_ws h5 w hw
theorem CX.nest (C : CX p R s mt args c cc own D cA ad n nL tb) {w : Cond} (i : Nat) (h : nestW[i]? = some w) : va_Nw w s := C.2.2.2.2.2.2.2.2.1 _ (mem_i i h)
section GGcalls
variable {y : MethodName} {bytes : ByteArray} {maxL index np : Nat} {ret : Option FieldType} {rm' : Room} {av : (Nat → Nat) → (Nat → Nat) → List Value} {o : Option Value} {m' : MM} {As rest stk : List Value}
theorem g_callV (C : CX p R s mt args c cc own D cA ad n nL tb) (hct : CT l y bytes maxL ret rm' cf n av m o m') {k ci N : Nat} {Cn : String} {T : u_T} {fs : (Nat → Nat) → Nat → (Nat → Int32) → (Nat → Int64) → List Value} (cw : CallW R s args own Cn index y bytes maxL ret (Cond.code y bytes maxL ret :: WL) rm' 0 0 np) (hrec : FO cf n k ci fs) (hci : vwCl[ci]? = some (Cn, T, N)) (hav : av ad tb = .ref (ad k) :: As) (hn : As.length = np) (hst : stk = As.reverse ++ .ref (ad k) :: rest) (hsum : (rest.map fun v => v.category).sum ≤ 8) (hd : decode cc pc = .ok (.invokevirtual index, 3)) (kk : GG p l e R s mt args below meth c Q D cA ad cf n nL m' (pc + 3) lv (o.toList ++ rest)) : GG p l e R s mt args below meth c Q D cA ad cf n nL m pc lv stk := by
  intro H locs ls hP hS hl
  exact g_ran hS hl (va_runV (As := As) (rest := rest) ⟨C.1, C.2.1, C.2.2.1, C.2.2.2.1, C.2.2.2.2.1⟩ (hct D cA ad tb H.size C.2.2.2.2.2.2.1) cw ⟨g_blind, (by have hv := va_recv C.2.2.2.2.2.1 hP hci (FO_at hrec); exact hv), fun U hU hW => hav ▸ g_pre C hP hS U hU hW⟩ rfl hn hl.1 hst (lv_room hsum) hd ⟨Nat.zero_le _, Nat.zero_le _⟩) kk
theorem g_callVN (C : CX p R s mt args c cc own D cA ad n nL tb) (hct : CT l y bytes maxL ret rm' cf n av m o m') {k ci N : Nat} {Cn host : String} {T : u_T} {fs : (Nat → Nat) → Nat → (Nat → Int32) → (Nat → Int64) → List Value} (cw : va_CN R s args own index y host bytes maxL ret (Cond.code y bytes maxL ret :: WL) rm' 0 0 np ∧ (Cond.instanceMethod y).before args s = true ∧ (Cond.selects Cn y y).before args s = true) (hrec : FO cf n k ci fs) (hci : vwCl[ci]? = some (Cn, T, N)) (hav : av ad tb = .ref (ad k) :: As) (hn : As.length = np) (hst : stk = As.reverse ++ .ref (ad k) :: rest) (hsum : (rest.map fun v => v.category).sum ≤ 8) (hd : decode cc pc = .ok (.invokevirtual index, 3)) (kk : GG p l e R s mt args below meth c Q D cA ad cf n nL m' (pc + 3) lv (o.toList ++ rest)) : GG p l e R s mt args below meth c Q D cA ad cf n nL m pc lv stk := by
  intro H locs ls hP hS hl
  exact g_ran hS hl (va_runVN (As := As) (rest := rest) ⟨C.1, C.2.1, C.2.2.1, C.2.2.2.1, C.2.2.2.2.1⟩ (hct D cA ad tb H.size C.2.2.2.2.2.2.1) cw ⟨g_blind, (by have hv := va_recv C.2.2.2.2.2.1 hP hci (FO_at hrec); exact hv), fun U hU hW => hav ▸ g_pre C hP hS U hU hW⟩ rfl hn hl.1 hst (lv_room hsum) hd ⟨Nat.zero_le _, Nat.zero_le _⟩) kk
theorem g_callS (C : CX p R s mt args c cc own D cA ad n nL tb) (hct : CT l y bytes maxL ret rm' cf n av m o m') (cw : CallB R s args own index y bytes maxL ret (Cond.code y bytes maxL ret :: WL) rm' 0 0 np ∧ (Cond.static y).before args s = true) (hav : av ad tb = As) (hn : As.length = np) (hst : stk = As.reverse ++ rest) (hsum : (rest.map fun v => v.category).sum ≤ 8) (hd : decode cc pc = .ok (.invokestatic index, 3)) (kk : GG p l e R s mt args below meth c Q D cA ad cf n nL m' (pc + 3) lv (o.toList ++ rest)) : GG p l e R s mt args below meth c Q D cA ad cf n nL m pc lv stk := by
  intro H locs ls hP hS hl
  exact g_ran hS hl (va_runS (As := As) (rest := rest) ⟨C.1, C.2.1, C.2.2.1, C.2.2.2.1, C.2.2.2.2.1⟩ (hct D cA ad tb H.size C.2.2.2.2.2.2.1) cw ⟨g_blind, fun U hU hW => hav ▸ g_pre C hP hS U hU hW⟩ rfl hn hl.1 hst (lv_room hsum) hd ⟨Nat.zero_le _, Nat.zero_le _⟩) kk
theorem g_callSN (C : CX p R s mt args c cc own D cA ad n nL tb) (hct : CT l y bytes maxL ret rm' cf n av m o m') {host : String} (cw : va_CN R s args own index y host bytes maxL ret (Cond.code y bytes maxL ret :: WL) rm' 0 0 np ∧ (Cond.static y).before args s = true ∧ True) (hav : av ad tb = As) (hn : As.length = np) (hst : stk = As.reverse ++ rest) (hsum : (rest.map fun v => v.category).sum ≤ 8) (hd : decode cc pc = .ok (.invokestatic index, 3)) (kk : GG p l e R s mt args below meth c Q D cA ad cf n nL m' (pc + 3) lv (o.toList ++ rest)) : GG p l e R s mt args below meth c Q D cA ad cf n nL m pc lv stk := by
  intro H locs ls hP hS hl
  exact g_ran hS hl (va_runSN (As := As) (rest := rest) ⟨C.1, C.2.1, C.2.2.1, C.2.2.2.1, C.2.2.2.2.1⟩ (hct D cA ad tb H.size C.2.2.2.2.2.2.1) cw ⟨g_blind, fun U hU hW => hav ▸ g_pre C hP hS U hU hW⟩ rfl hn hl.1 hst (lv_room hsum) hd ⟨Nat.zero_le _, Nat.zero_le _⟩) kk
end GGcalls
end GGrows
end
section
/-! THE REGIONS: component (73 regions) and model -/
def rv (ad : Nat → Nat) (x : Int32) : Value := if x = 0 then .null else .ref (ad x.toNatClampNeg)
def fsX0 (ad : Nat → Nat) (k : Nat) (r : Nat → Int32) (g : Nat → Int64) : List Value := [.ref (ad (k + 1)), .ref (ad (k + 2)), .ref (ad (k + 3)), .ref (ad (k + 4)), .ref (ad (k + 5)), .ref (ad (k + 6)), .ref (ad (k + 7)), .int (r 7), .int (r 8), .int (r 9), .int (r 10), .int (r 11), .int (r 12)]
def fsX1 (ad : Nat → Nat) (k : Nat) (r : Nat → Int32) (g : Nat → Int64) : List Value := [.ref (ad (k + 1)), .ref (ad (k + 2)), .ref (ad (k + 3)), .ref (ad (k + 4)), .ref (ad (k + 5)), .ref (ad (k + 6)), .ref (ad (k + 7)), .ref (ad (k + 8)), .ref (ad (k + 9)), .ref (ad (k + 10)), rv ad (r 10), .int (r 11), .int (r 12), .int (r 13)]
def fsX2 (ad : Nat → Nat) (k : Nat) (r : Nat → Int32) (g : Nat → Int64) : List Value := [.ref (ad (k + 1)), .int (r 1), .int (r 2)]
def fsX3 (ad : Nat → Nat) (k : Nat) (r : Nat → Int32) (g : Nat → Int64) : List Value := [.ref (ad (k + 1)), .int (r 1), .int (r 2), .int (r 3), .int (r 4), .int (r 5), rv ad (r 6)]
def fsX4 (ad : Nat → Nat) (k : Nat) (r : Nat → Int32) (g : Nat → Int64) : List Value := [.ref (ad (k + 1)), .ref (ad (k + 2)), .ref (ad (k + 3)), .int (r 3)]
def fsX5 (ad : Nat → Nat) (k : Nat) (r : Nat → Int32) (g : Nat → Int64) : List Value := [.ref (ad 1), .ref (ad 9), .ref (ad 17), .ref (ad 25), .ref (ad 36), .ref (ad 38), .ref (ad 63), .ref (ad 72), .int (r 8), .int (r 9)]
def fsX6 (ad : Nat → Nat) (k : Nat) (r : Nat → Int32) (g : Nat → Int64) : List Value := [.int (r 0), .ref (ad 1), .ref (ad 2), .int (r 3), .int (r 4), .ref (ad 3), .int (r 6), .ref (ad 4), .ref (ad 5), .int (r 9), .ref (ad 6), .ref (ad 7), .ref (ad 8), .ref (ad 9), .int (r 14), .int (r 15), .int (r 16), .int (r 17), .int (r 18), .int (r 19), .int (r 20), .int (r 21), .int (r 22), .int (r 23), .int (r 24), .int (r 25), .int (r 26), .int (r 27), .int (r 28), .int (r 29), .long (g 30), .int (r 31), .int (r 32), .int (r 33), .ref (ad 10), .ref (ad 11), .ref (ad 12), .ref (ad 13), .ref (ad 14), .ref (ad 15), .int (r 40), .int (r 41), .ref (ad 16), .ref (ad 17), .ref (ad 18), .int (r 45), .int (r 46), .int (r 47), .int (r 48), .int (r 49), .ref (ad 19), .ref (ad 20), .ref (ad 21), .ref (ad 22)]
def kdC : List Nat := [0, 1, 2, 2, 2, 2, 2, 2, 2, 1, 2, 2, 2, 2, 2, 2, 2, 1, 2, 2, 2, 2, 2, 2, 2, 3, 4, 4, 4, 4, 5, 6, 2, 2, 7, 7, 8, 9, 10, 11, 9, 12, 13, 11, 9, 12, 13, 11, 9, 12, 13, 11, 9, 12, 13, 11, 9, 12, 13, 11, 9, 12, 13, 14, 15, 13, 15, 13, 15, 13, 15, 13, 16]
def cfC : CF := fun cA ad k r g => match kdC.getD k 0 with
  | 0 => .inr (5, fsX5 ad k r g)
  | 1 => .inr (0, fsX0 ad k r g)
  | 2 => .inl (cA 0, 5, .inl r)
  | 3 => .inr (1, fsX1 ad k r g)
  | 4 => .inl (cA 0, 3125, .inl r)
  | 5 => .inl (cA 0, 100, .inl r)
  | 6 => .inl (cA 0, 125, .inl r)
  | 7 => .inl (cA 0, 25, .inl r)
  | 8 => .inr (3, fsX3 ad k r g)
  | 9 => .inl (cA 0, 160, .inl r)
  | 10 => .inl (cA 3, 6, .inr (.inr (.inr (.inr (fun i => some (ad (39 + 4 * i)))))))
  | 11 => .inr (4, fsX4 ad k r g)
  | 12 => .inl (cA 0, 4, .inl r)
  | 13 => .inl (cA 0, 40, .inl r)
  | 14 => .inl (cA 4, 4, .inr (.inr (.inr (.inr (fun i => some (ad (64 + 2 * i)))))))
  | 15 => .inr (2, fsX2 ad k r g)
  | _ => .inl (cA 0, 6, .inl r)
theorem cO_0 : FO cfC 73 0 5 fsX5 := ⟨by decide, fun _ _ _ _ => rfl⟩
theorem cO_1 : FO cfC 73 1 0 fsX0 := ⟨by decide, fun _ _ _ _ => rfl⟩
theorem cI_2 : FI cfC 73 2 5 := ⟨by decide, fun _ _ _ _ => rfl⟩
theorem cI_3 : FI cfC 73 3 5 := ⟨by decide, fun _ _ _ _ => rfl⟩
theorem cI_4 : FI cfC 73 4 5 := ⟨by decide, fun _ _ _ _ => rfl⟩
theorem cI_5 : FI cfC 73 5 5 := ⟨by decide, fun _ _ _ _ => rfl⟩
theorem cI_6 : FI cfC 73 6 5 := ⟨by decide, fun _ _ _ _ => rfl⟩
theorem cI_7 : FI cfC 73 7 5 := ⟨by decide, fun _ _ _ _ => rfl⟩
theorem cI_8 : FI cfC 73 8 5 := ⟨by decide, fun _ _ _ _ => rfl⟩
theorem cO_9 : FO cfC 73 9 0 fsX0 := ⟨by decide, fun _ _ _ _ => rfl⟩
theorem cI_10 : FI cfC 73 10 5 := ⟨by decide, fun _ _ _ _ => rfl⟩
theorem cI_11 : FI cfC 73 11 5 := ⟨by decide, fun _ _ _ _ => rfl⟩
theorem cI_12 : FI cfC 73 12 5 := ⟨by decide, fun _ _ _ _ => rfl⟩
theorem cI_13 : FI cfC 73 13 5 := ⟨by decide, fun _ _ _ _ => rfl⟩
theorem cI_14 : FI cfC 73 14 5 := ⟨by decide, fun _ _ _ _ => rfl⟩
theorem cI_15 : FI cfC 73 15 5 := ⟨by decide, fun _ _ _ _ => rfl⟩
theorem cI_16 : FI cfC 73 16 5 := ⟨by decide, fun _ _ _ _ => rfl⟩
theorem cO_17 : FO cfC 73 17 0 fsX0 := ⟨by decide, fun _ _ _ _ => rfl⟩
theorem cI_18 : FI cfC 73 18 5 := ⟨by decide, fun _ _ _ _ => rfl⟩
theorem cI_19 : FI cfC 73 19 5 := ⟨by decide, fun _ _ _ _ => rfl⟩
theorem cI_20 : FI cfC 73 20 5 := ⟨by decide, fun _ _ _ _ => rfl⟩
theorem cI_21 : FI cfC 73 21 5 := ⟨by decide, fun _ _ _ _ => rfl⟩
theorem cI_22 : FI cfC 73 22 5 := ⟨by decide, fun _ _ _ _ => rfl⟩
theorem cI_23 : FI cfC 73 23 5 := ⟨by decide, fun _ _ _ _ => rfl⟩
theorem cI_24 : FI cfC 73 24 5 := ⟨by decide, fun _ _ _ _ => rfl⟩
theorem cO_25 : FO cfC 73 25 1 fsX1 := ⟨by decide, fun _ _ _ _ => rfl⟩
theorem cI_26 : FI cfC 73 26 3125 := ⟨by decide, fun _ _ _ _ => rfl⟩
theorem cI_27 : FI cfC 73 27 3125 := ⟨by decide, fun _ _ _ _ => rfl⟩
theorem cI_28 : FI cfC 73 28 3125 := ⟨by decide, fun _ _ _ _ => rfl⟩
theorem cI_29 : FI cfC 73 29 3125 := ⟨by decide, fun _ _ _ _ => rfl⟩
theorem cI_30 : FI cfC 73 30 100 := ⟨by decide, fun _ _ _ _ => rfl⟩
theorem cI_31 : FI cfC 73 31 125 := ⟨by decide, fun _ _ _ _ => rfl⟩
theorem cI_32 : FI cfC 73 32 5 := ⟨by decide, fun _ _ _ _ => rfl⟩
theorem cI_33 : FI cfC 73 33 5 := ⟨by decide, fun _ _ _ _ => rfl⟩
theorem cI_34 : FI cfC 73 34 25 := ⟨by decide, fun _ _ _ _ => rfl⟩
theorem cI_35 : FI cfC 73 35 25 := ⟨by decide, fun _ _ _ _ => rfl⟩
theorem cO_36 : FO cfC 73 36 3 fsX3 := ⟨by decide, fun _ _ _ _ => rfl⟩
theorem cI_37 : FI cfC 73 37 160 := ⟨by decide, fun _ _ _ _ => rfl⟩
theorem cQ_38 : FQ cfC 73 38 3 6 (fun i => 39 + 4 * i) := ⟨by decide, fun _ _ _ _ => rfl⟩
theorem cO_39 : FO cfC 73 39 4 fsX4 := ⟨by decide, fun _ _ _ _ => rfl⟩
theorem cI_40 : FI cfC 73 40 160 := ⟨by decide, fun _ _ _ _ => rfl⟩
theorem cI_41 : FI cfC 73 41 4 := ⟨by decide, fun _ _ _ _ => rfl⟩
theorem cI_42 : FI cfC 73 42 40 := ⟨by decide, fun _ _ _ _ => rfl⟩
theorem cO_43 : FO cfC 73 43 4 fsX4 := ⟨by decide, fun _ _ _ _ => rfl⟩
theorem cI_44 : FI cfC 73 44 160 := ⟨by decide, fun _ _ _ _ => rfl⟩
theorem cI_45 : FI cfC 73 45 4 := ⟨by decide, fun _ _ _ _ => rfl⟩
theorem cI_46 : FI cfC 73 46 40 := ⟨by decide, fun _ _ _ _ => rfl⟩
theorem cO_47 : FO cfC 73 47 4 fsX4 := ⟨by decide, fun _ _ _ _ => rfl⟩
theorem cI_48 : FI cfC 73 48 160 := ⟨by decide, fun _ _ _ _ => rfl⟩
theorem cI_49 : FI cfC 73 49 4 := ⟨by decide, fun _ _ _ _ => rfl⟩
theorem cI_50 : FI cfC 73 50 40 := ⟨by decide, fun _ _ _ _ => rfl⟩
theorem cO_51 : FO cfC 73 51 4 fsX4 := ⟨by decide, fun _ _ _ _ => rfl⟩
theorem cI_52 : FI cfC 73 52 160 := ⟨by decide, fun _ _ _ _ => rfl⟩
theorem cI_53 : FI cfC 73 53 4 := ⟨by decide, fun _ _ _ _ => rfl⟩
theorem cI_54 : FI cfC 73 54 40 := ⟨by decide, fun _ _ _ _ => rfl⟩
theorem cO_55 : FO cfC 73 55 4 fsX4 := ⟨by decide, fun _ _ _ _ => rfl⟩
theorem cI_56 : FI cfC 73 56 160 := ⟨by decide, fun _ _ _ _ => rfl⟩
theorem cI_57 : FI cfC 73 57 4 := ⟨by decide, fun _ _ _ _ => rfl⟩
theorem cI_58 : FI cfC 73 58 40 := ⟨by decide, fun _ _ _ _ => rfl⟩
theorem cO_59 : FO cfC 73 59 4 fsX4 := ⟨by decide, fun _ _ _ _ => rfl⟩
theorem cI_60 : FI cfC 73 60 160 := ⟨by decide, fun _ _ _ _ => rfl⟩
theorem cI_61 : FI cfC 73 61 4 := ⟨by decide, fun _ _ _ _ => rfl⟩
theorem cI_62 : FI cfC 73 62 40 := ⟨by decide, fun _ _ _ _ => rfl⟩
theorem cQ_63 : FQ cfC 73 63 4 4 (fun i => 64 + 2 * i) := ⟨by decide, fun _ _ _ _ => rfl⟩
theorem cO_64 : FO cfC 73 64 2 fsX2 := ⟨by decide, fun _ _ _ _ => rfl⟩
theorem cI_65 : FI cfC 73 65 40 := ⟨by decide, fun _ _ _ _ => rfl⟩
theorem cO_66 : FO cfC 73 66 2 fsX2 := ⟨by decide, fun _ _ _ _ => rfl⟩
theorem cI_67 : FI cfC 73 67 40 := ⟨by decide, fun _ _ _ _ => rfl⟩
theorem cO_68 : FO cfC 73 68 2 fsX2 := ⟨by decide, fun _ _ _ _ => rfl⟩
theorem cI_69 : FI cfC 73 69 40 := ⟨by decide, fun _ _ _ _ => rfl⟩
theorem cO_70 : FO cfC 73 70 2 fsX2 := ⟨by decide, fun _ _ _ _ => rfl⟩
theorem cI_71 : FI cfC 73 71 40 := ⟨by decide, fun _ _ _ _ => rfl⟩
theorem cI_72 : FI cfC 73 72 6 := ⟨by decide, fun _ _ _ _ => rfl⟩
def kdM : List Nat := [0, 1, 2, 3, 4, 4, 4, 4, 4, 4, 4, 5, 5, 5, 6, 5, 7, 7, 8, 9, 10, 10, 3]
def cfM : CF := fun cA ad k r g => match kdM.getD k 0 with
  | 0 => .inr (6, fsX6 ad k r g)
  | 1 => .inl (cA 0, 960, .inl r)
  | 2 => .inl (cA 0, 6, .inl r)
  | 3 => .inl (cA 0, 160, .inl r)
  | 4 => .inl (cA 0, 5, .inl r)
  | 5 => .inl (cA 0, 3125, .inl r)
  | 6 => .inl (cA 0, 125, .inl r)
  | 7 => .inl (cA 1, 3125, .inr (.inl g))
  | 8 => .inl (cA 0, 20, .inl r)
  | 9 => .inl (cA 2, 4, .inl r)
  | _ => .inl (cA 0, 4, .inl r)
theorem mO_0 : FO cfM 23 0 6 fsX6 := ⟨by decide, fun _ _ _ _ => rfl⟩
theorem mI_1 : FI cfM 23 1 960 := ⟨by decide, fun _ _ _ _ => rfl⟩
theorem mI_2 : FI cfM 23 2 6 := ⟨by decide, fun _ _ _ _ => rfl⟩
theorem mI_3 : FI cfM 23 3 160 := ⟨by decide, fun _ _ _ _ => rfl⟩
theorem mI_4 : FI cfM 23 4 5 := ⟨by decide, fun _ _ _ _ => rfl⟩
theorem mI_5 : FI cfM 23 5 5 := ⟨by decide, fun _ _ _ _ => rfl⟩
theorem mI_6 : FI cfM 23 6 5 := ⟨by decide, fun _ _ _ _ => rfl⟩
theorem mI_7 : FI cfM 23 7 5 := ⟨by decide, fun _ _ _ _ => rfl⟩
theorem mI_8 : FI cfM 23 8 5 := ⟨by decide, fun _ _ _ _ => rfl⟩
theorem mI_9 : FI cfM 23 9 5 := ⟨by decide, fun _ _ _ _ => rfl⟩
theorem mI_10 : FI cfM 23 10 5 := ⟨by decide, fun _ _ _ _ => rfl⟩
theorem mI_11 : FI cfM 23 11 3125 := ⟨by decide, fun _ _ _ _ => rfl⟩
theorem mI_12 : FI cfM 23 12 3125 := ⟨by decide, fun _ _ _ _ => rfl⟩
theorem mI_13 : FI cfM 23 13 3125 := ⟨by decide, fun _ _ _ _ => rfl⟩
theorem mI_14 : FI cfM 23 14 125 := ⟨by decide, fun _ _ _ _ => rfl⟩
theorem mI_15 : FI cfM 23 15 3125 := ⟨by decide, fun _ _ _ _ => rfl⟩
theorem mL_16 : FL cfM 23 16 3125 := ⟨by decide, fun _ _ _ _ => rfl⟩
theorem mL_17 : FL cfM 23 17 3125 := ⟨by decide, fun _ _ _ _ => rfl⟩
theorem mI_18 : FI cfM 23 18 20 := ⟨by decide, fun _ _ _ _ => rfl⟩
theorem mZ_19 : FZ cfM 23 19 4 := ⟨by decide, fun _ _ _ _ => rfl⟩
theorem mI_20 : FI cfM 23 20 4 := ⟨by decide, fun _ _ _ _ => rfl⟩
theorem mI_21 : FI cfM 23 21 4 := ⟨by decide, fun _ _ _ _ => rfl⟩
theorem mI_22 : FI cfM 23 22 160 := ⟨by decide, fun _ _ _ _ => rfl⟩
def isLot (k : Nat) : Prop := k = 1 ∨ k = 9 ∨ k = 17
theorem lot_1 : isLot 1 := Or.inl rfl
theorem lot_9 : isLot 9 := Or.inr (Or.inl rfl)
theorem lot_17 : isLot 17 := Or.inr (Or.inr rfl)
theorem lot_O {k : Nat} (h : isLot k) : FO cfC 73 k 0 fsX0 := by
  rcases h with rfl | rfl | rfl <;> exact ⟨by decide, fun _ _ _ _ => rfl⟩
theorem lot_I1 {k : Nat} (h : isLot k) : FI cfC 73 (k + 1) 5 := by
  rcases h with rfl | rfl | rfl <;> exact ⟨by decide, fun _ _ _ _ => rfl⟩
theorem lot_I2 {k : Nat} (h : isLot k) : FI cfC 73 (k + 2) 5 := by
  rcases h with rfl | rfl | rfl <;> exact ⟨by decide, fun _ _ _ _ => rfl⟩
theorem lot_I3 {k : Nat} (h : isLot k) : FI cfC 73 (k + 3) 5 := by
  rcases h with rfl | rfl | rfl <;> exact ⟨by decide, fun _ _ _ _ => rfl⟩
theorem lot_I4 {k : Nat} (h : isLot k) : FI cfC 73 (k + 4) 5 := by
  rcases h with rfl | rfl | rfl <;> exact ⟨by decide, fun _ _ _ _ => rfl⟩
theorem lot_I5 {k : Nat} (h : isLot k) : FI cfC 73 (k + 5) 5 := by
  rcases h with rfl | rfl | rfl <;> exact ⟨by decide, fun _ _ _ _ => rfl⟩
theorem lot_I6 {k : Nat} (h : isLot k) : FI cfC 73 (k + 6) 5 := by
  rcases h with rfl | rfl | rfl <;> exact ⟨by decide, fun _ _ _ _ => rfl⟩
theorem lot_I7 {k : Nat} (h : isLot k) : FI cfC 73 (k + 7) 5 := by
  rcases h with rfl | rfl | rfl <;> exact ⟨by decide, fun _ _ _ _ => rfl⟩
def isSh (k : Nat) : Prop := k = 64 ∨ k = 66 ∨ k = 68 ∨ k = 70
theorem sh_O {k : Nat} (h : isSh k) : FO cfC 73 k 2 fsX2 := by
  rcases h with rfl | rfl | rfl | rfl <;> exact ⟨by decide, fun _ _ _ _ => rfl⟩
theorem sh_I1 {k : Nat} (h : isSh k) : FI cfC 73 (k + 1) 40 := by
  rcases h with rfl | rfl | rfl | rfl <;> exact ⟨by decide, fun _ _ _ _ => rfl⟩
theorem inB_lt {i : Int32} {n : Nat} (h : inB i n = true) : ix i < n := by
  unfold inB at h
  rw [Bool.and_eq_true, decide_eq_true_eq, decide_eq_true_eq] at h
  exact h.2
theorem sh_ix {i : Int32} (h : inB i 4 = true) : isSh (64 + 2 * ix i) := by
  have := inB_lt h
  unfold isSh
  omega
def isTx (k : Nat) : Prop := k = 39 ∨ k = 43 ∨ k = 47 ∨ k = 51 ∨ k = 55 ∨ k = 59
theorem tx_O {k : Nat} (h : isTx k) : FO cfC 73 k 4 fsX4 := by
  rcases h with rfl | rfl | rfl | rfl | rfl | rfl <;> exact ⟨by decide, fun _ _ _ _ => rfl⟩
theorem tx_I1 {k : Nat} (h : isTx k) : FI cfC 73 (k + 1) 160 := by
  rcases h with rfl | rfl | rfl | rfl | rfl | rfl <;> exact ⟨by decide, fun _ _ _ _ => rfl⟩
theorem tx_I2 {k : Nat} (h : isTx k) : FI cfC 73 (k + 2) 4 := by
  rcases h with rfl | rfl | rfl | rfl | rfl | rfl <;> exact ⟨by decide, fun _ _ _ _ => rfl⟩
theorem tx_I3 {k : Nat} (h : isTx k) : FI cfC 73 (k + 3) 40 := by
  rcases h with rfl | rfl | rfl | rfl | rfl | rfl <;> exact ⟨by decide, fun _ _ _ _ => rfl⟩
theorem tx_ix {i : Int32} (h : inB i 6 = true) : isTx (39 + 4 * ix i) := by
  have := inB_lt h
  unfold isTx
  omega
theorem tx_39 : isTx 39 := Or.inl rfl
def isTxB (x : Int32) : Bool := x == 39 || x == 43 || x == 47 || x == 51 || x == 55 || x == 59
theorem tx_into {x : Int32} (h : isTxB x = true) : isTx (ix x) := by
  unfold isTxB at h
  simp only [Bool.or_eq_true, beq_iff_eq] at h
  rcases h with ((((rfl | rfl) | rfl) | rfl) | rfl) | rfl <;> (unfold isTx; decide)
theorem tx_rv {x : Int32} {ad : Nat → Nat} (h : isTxB x = true) : rv ad x = .ref (ad (ix x)) := by
  unfold isTxB at h
  simp only [Bool.or_eq_true, beq_iff_eq] at h
  rcases h with ((((rfl | rfl) | rfl) | rfl) | rfl) | rfl <;> rfl
theorem tx_nI {k : Nat} (h : isTx k) (ad : Nat → Nat) : rv ad (nI k) = .ref (ad k) := by
  rcases h with rfl | rfl | rfl | rfl | rfl | rfl <;> rfl
theorem pfX0_7 : ∀ (ad : Nat → Nat) (k : Nat) (r : Nat → Int32) (g : Nat → Int64) (v : Int32), fsX0 ad k (upd r 7 v) g = (fsX0 ad k r g).set 7 (.int v) := fun _ _ _ _ _ => rfl
theorem pfX0_8 : ∀ (ad : Nat → Nat) (k : Nat) (r : Nat → Int32) (g : Nat → Int64) (v : Int32), fsX0 ad k (upd r 8 v) g = (fsX0 ad k r g).set 8 (.int v) := fun _ _ _ _ _ => rfl
theorem pfX0_9 : ∀ (ad : Nat → Nat) (k : Nat) (r : Nat → Int32) (g : Nat → Int64) (v : Int32), fsX0 ad k (upd r 9 v) g = (fsX0 ad k r g).set 9 (.int v) := fun _ _ _ _ _ => rfl
theorem pfX0_10 : ∀ (ad : Nat → Nat) (k : Nat) (r : Nat → Int32) (g : Nat → Int64) (v : Int32), fsX0 ad k (upd r 10 v) g = (fsX0 ad k r g).set 10 (.int v) := fun _ _ _ _ _ => rfl
theorem pfX0_11 : ∀ (ad : Nat → Nat) (k : Nat) (r : Nat → Int32) (g : Nat → Int64) (v : Int32), fsX0 ad k (upd r 11 v) g = (fsX0 ad k r g).set 11 (.int v) := fun _ _ _ _ _ => rfl
theorem pfX0_12 : ∀ (ad : Nat → Nat) (k : Nat) (r : Nat → Int32) (g : Nat → Int64) (v : Int32), fsX0 ad k (upd r 12 v) g = (fsX0 ad k r g).set 12 (.int v) := fun _ _ _ _ _ => rfl
theorem plX0 : ∀ j, j < 13 → ∀ (ad : Nat → Nat) (k : Nat) (r : Nat → Int32) (g : Nat → Int64), j < (fsX0 ad k r g).length := fun j h _ _ _ _ => h
theorem pfX1_11 : ∀ (ad : Nat → Nat) (k : Nat) (r : Nat → Int32) (g : Nat → Int64) (v : Int32), fsX1 ad k (upd r 11 v) g = (fsX1 ad k r g).set 11 (.int v) := fun _ _ _ _ _ => rfl
theorem pfX1_12 : ∀ (ad : Nat → Nat) (k : Nat) (r : Nat → Int32) (g : Nat → Int64) (v : Int32), fsX1 ad k (upd r 12 v) g = (fsX1 ad k r g).set 12 (.int v) := fun _ _ _ _ _ => rfl
theorem pfX1_13 : ∀ (ad : Nat → Nat) (k : Nat) (r : Nat → Int32) (g : Nat → Int64) (v : Int32), fsX1 ad k (upd r 13 v) g = (fsX1 ad k r g).set 13 (.int v) := fun _ _ _ _ _ => rfl
theorem plX1 : ∀ j, j < 14 → ∀ (ad : Nat → Nat) (k : Nat) (r : Nat → Int32) (g : Nat → Int64), j < (fsX1 ad k r g).length := fun j h _ _ _ _ => h
theorem pfX2_1 : ∀ (ad : Nat → Nat) (k : Nat) (r : Nat → Int32) (g : Nat → Int64) (v : Int32), fsX2 ad k (upd r 1 v) g = (fsX2 ad k r g).set 1 (.int v) := fun _ _ _ _ _ => rfl
theorem pfX2_2 : ∀ (ad : Nat → Nat) (k : Nat) (r : Nat → Int32) (g : Nat → Int64) (v : Int32), fsX2 ad k (upd r 2 v) g = (fsX2 ad k r g).set 2 (.int v) := fun _ _ _ _ _ => rfl
theorem plX2 : ∀ j, j < 3 → ∀ (ad : Nat → Nat) (k : Nat) (r : Nat → Int32) (g : Nat → Int64), j < (fsX2 ad k r g).length := fun j h _ _ _ _ => h
theorem pfX3_1 : ∀ (ad : Nat → Nat) (k : Nat) (r : Nat → Int32) (g : Nat → Int64) (v : Int32), fsX3 ad k (upd r 1 v) g = (fsX3 ad k r g).set 1 (.int v) := fun _ _ _ _ _ => rfl
theorem pfX3_2 : ∀ (ad : Nat → Nat) (k : Nat) (r : Nat → Int32) (g : Nat → Int64) (v : Int32), fsX3 ad k (upd r 2 v) g = (fsX3 ad k r g).set 2 (.int v) := fun _ _ _ _ _ => rfl
theorem pfX3_3 : ∀ (ad : Nat → Nat) (k : Nat) (r : Nat → Int32) (g : Nat → Int64) (v : Int32), fsX3 ad k (upd r 3 v) g = (fsX3 ad k r g).set 3 (.int v) := fun _ _ _ _ _ => rfl
theorem pfX3_4 : ∀ (ad : Nat → Nat) (k : Nat) (r : Nat → Int32) (g : Nat → Int64) (v : Int32), fsX3 ad k (upd r 4 v) g = (fsX3 ad k r g).set 4 (.int v) := fun _ _ _ _ _ => rfl
theorem pfX3_5 : ∀ (ad : Nat → Nat) (k : Nat) (r : Nat → Int32) (g : Nat → Int64) (v : Int32), fsX3 ad k (upd r 5 v) g = (fsX3 ad k r g).set 5 (.int v) := fun _ _ _ _ _ => rfl
theorem plX3 : ∀ j, j < 7 → ∀ (ad : Nat → Nat) (k : Nat) (r : Nat → Int32) (g : Nat → Int64), j < (fsX3 ad k r g).length := fun j h _ _ _ _ => h
theorem pfX4_3 : ∀ (ad : Nat → Nat) (k : Nat) (r : Nat → Int32) (g : Nat → Int64) (v : Int32), fsX4 ad k (upd r 3 v) g = (fsX4 ad k r g).set 3 (.int v) := fun _ _ _ _ _ => rfl
theorem plX4 : ∀ j, j < 4 → ∀ (ad : Nat → Nat) (k : Nat) (r : Nat → Int32) (g : Nat → Int64), j < (fsX4 ad k r g).length := fun j h _ _ _ _ => h
theorem pfX5_8 : ∀ (ad : Nat → Nat) (k : Nat) (r : Nat → Int32) (g : Nat → Int64) (v : Int32), fsX5 ad k (upd r 8 v) g = (fsX5 ad k r g).set 8 (.int v) := fun _ _ _ _ _ => rfl
theorem pfX5_9 : ∀ (ad : Nat → Nat) (k : Nat) (r : Nat → Int32) (g : Nat → Int64) (v : Int32), fsX5 ad k (upd r 9 v) g = (fsX5 ad k r g).set 9 (.int v) := fun _ _ _ _ _ => rfl
theorem plX5 : ∀ j, j < 10 → ∀ (ad : Nat → Nat) (k : Nat) (r : Nat → Int32) (g : Nat → Int64), j < (fsX5 ad k r g).length := fun j h _ _ _ _ => h
theorem pfX6_0 : ∀ (ad : Nat → Nat) (k : Nat) (r : Nat → Int32) (g : Nat → Int64) (v : Int32), fsX6 ad k (upd r 0 v) g = (fsX6 ad k r g).set 0 (.int v) := fun _ _ _ _ _ => rfl
theorem pfX6_3 : ∀ (ad : Nat → Nat) (k : Nat) (r : Nat → Int32) (g : Nat → Int64) (v : Int32), fsX6 ad k (upd r 3 v) g = (fsX6 ad k r g).set 3 (.int v) := fun _ _ _ _ _ => rfl
theorem pfX6_4 : ∀ (ad : Nat → Nat) (k : Nat) (r : Nat → Int32) (g : Nat → Int64) (v : Int32), fsX6 ad k (upd r 4 v) g = (fsX6 ad k r g).set 4 (.int v) := fun _ _ _ _ _ => rfl
theorem pfX6_6 : ∀ (ad : Nat → Nat) (k : Nat) (r : Nat → Int32) (g : Nat → Int64) (v : Int32), fsX6 ad k (upd r 6 v) g = (fsX6 ad k r g).set 6 (.int v) := fun _ _ _ _ _ => rfl
theorem pfX6_9 : ∀ (ad : Nat → Nat) (k : Nat) (r : Nat → Int32) (g : Nat → Int64) (v : Int32), fsX6 ad k (upd r 9 v) g = (fsX6 ad k r g).set 9 (.int v) := fun _ _ _ _ _ => rfl
theorem pfX6_14 : ∀ (ad : Nat → Nat) (k : Nat) (r : Nat → Int32) (g : Nat → Int64) (v : Int32), fsX6 ad k (upd r 14 v) g = (fsX6 ad k r g).set 14 (.int v) := fun _ _ _ _ _ => rfl
theorem pfX6_15 : ∀ (ad : Nat → Nat) (k : Nat) (r : Nat → Int32) (g : Nat → Int64) (v : Int32), fsX6 ad k (upd r 15 v) g = (fsX6 ad k r g).set 15 (.int v) := fun _ _ _ _ _ => rfl
theorem pfX6_16 : ∀ (ad : Nat → Nat) (k : Nat) (r : Nat → Int32) (g : Nat → Int64) (v : Int32), fsX6 ad k (upd r 16 v) g = (fsX6 ad k r g).set 16 (.int v) := fun _ _ _ _ _ => rfl
theorem pfX6_17 : ∀ (ad : Nat → Nat) (k : Nat) (r : Nat → Int32) (g : Nat → Int64) (v : Int32), fsX6 ad k (upd r 17 v) g = (fsX6 ad k r g).set 17 (.int v) := fun _ _ _ _ _ => rfl
theorem pfX6_18 : ∀ (ad : Nat → Nat) (k : Nat) (r : Nat → Int32) (g : Nat → Int64) (v : Int32), fsX6 ad k (upd r 18 v) g = (fsX6 ad k r g).set 18 (.int v) := fun _ _ _ _ _ => rfl
theorem pfX6_19 : ∀ (ad : Nat → Nat) (k : Nat) (r : Nat → Int32) (g : Nat → Int64) (v : Int32), fsX6 ad k (upd r 19 v) g = (fsX6 ad k r g).set 19 (.int v) := fun _ _ _ _ _ => rfl
theorem pfX6_20 : ∀ (ad : Nat → Nat) (k : Nat) (r : Nat → Int32) (g : Nat → Int64) (v : Int32), fsX6 ad k (upd r 20 v) g = (fsX6 ad k r g).set 20 (.int v) := fun _ _ _ _ _ => rfl
theorem pfX6_21 : ∀ (ad : Nat → Nat) (k : Nat) (r : Nat → Int32) (g : Nat → Int64) (v : Int32), fsX6 ad k (upd r 21 v) g = (fsX6 ad k r g).set 21 (.int v) := fun _ _ _ _ _ => rfl
theorem pfX6_22 : ∀ (ad : Nat → Nat) (k : Nat) (r : Nat → Int32) (g : Nat → Int64) (v : Int32), fsX6 ad k (upd r 22 v) g = (fsX6 ad k r g).set 22 (.int v) := fun _ _ _ _ _ => rfl
theorem pfX6_23 : ∀ (ad : Nat → Nat) (k : Nat) (r : Nat → Int32) (g : Nat → Int64) (v : Int32), fsX6 ad k (upd r 23 v) g = (fsX6 ad k r g).set 23 (.int v) := fun _ _ _ _ _ => rfl
theorem pfX6_24 : ∀ (ad : Nat → Nat) (k : Nat) (r : Nat → Int32) (g : Nat → Int64) (v : Int32), fsX6 ad k (upd r 24 v) g = (fsX6 ad k r g).set 24 (.int v) := fun _ _ _ _ _ => rfl
theorem pfX6_25 : ∀ (ad : Nat → Nat) (k : Nat) (r : Nat → Int32) (g : Nat → Int64) (v : Int32), fsX6 ad k (upd r 25 v) g = (fsX6 ad k r g).set 25 (.int v) := fun _ _ _ _ _ => rfl
theorem pfX6_26 : ∀ (ad : Nat → Nat) (k : Nat) (r : Nat → Int32) (g : Nat → Int64) (v : Int32), fsX6 ad k (upd r 26 v) g = (fsX6 ad k r g).set 26 (.int v) := fun _ _ _ _ _ => rfl
theorem pfX6_27 : ∀ (ad : Nat → Nat) (k : Nat) (r : Nat → Int32) (g : Nat → Int64) (v : Int32), fsX6 ad k (upd r 27 v) g = (fsX6 ad k r g).set 27 (.int v) := fun _ _ _ _ _ => rfl
theorem pfX6_28 : ∀ (ad : Nat → Nat) (k : Nat) (r : Nat → Int32) (g : Nat → Int64) (v : Int32), fsX6 ad k (upd r 28 v) g = (fsX6 ad k r g).set 28 (.int v) := fun _ _ _ _ _ => rfl
theorem pfX6_29 : ∀ (ad : Nat → Nat) (k : Nat) (r : Nat → Int32) (g : Nat → Int64) (v : Int32), fsX6 ad k (upd r 29 v) g = (fsX6 ad k r g).set 29 (.int v) := fun _ _ _ _ _ => rfl
theorem pfX6_30 : ∀ (ad : Nat → Nat) (k : Nat) (r : Nat → Int32) (g : Nat → Int64) (v : Int64), fsX6 ad k r (vp_updL g 30 v) = (fsX6 ad k r g).set 30 (.long v) := fun _ _ _ _ _ => rfl
theorem pfX6_31 : ∀ (ad : Nat → Nat) (k : Nat) (r : Nat → Int32) (g : Nat → Int64) (v : Int32), fsX6 ad k (upd r 31 v) g = (fsX6 ad k r g).set 31 (.int v) := fun _ _ _ _ _ => rfl
theorem pfX6_32 : ∀ (ad : Nat → Nat) (k : Nat) (r : Nat → Int32) (g : Nat → Int64) (v : Int32), fsX6 ad k (upd r 32 v) g = (fsX6 ad k r g).set 32 (.int v) := fun _ _ _ _ _ => rfl
theorem pfX6_33 : ∀ (ad : Nat → Nat) (k : Nat) (r : Nat → Int32) (g : Nat → Int64) (v : Int32), fsX6 ad k (upd r 33 v) g = (fsX6 ad k r g).set 33 (.int v) := fun _ _ _ _ _ => rfl
theorem pfX6_40 : ∀ (ad : Nat → Nat) (k : Nat) (r : Nat → Int32) (g : Nat → Int64) (v : Int32), fsX6 ad k (upd r 40 v) g = (fsX6 ad k r g).set 40 (.int v) := fun _ _ _ _ _ => rfl
theorem pfX6_41 : ∀ (ad : Nat → Nat) (k : Nat) (r : Nat → Int32) (g : Nat → Int64) (v : Int32), fsX6 ad k (upd r 41 v) g = (fsX6 ad k r g).set 41 (.int v) := fun _ _ _ _ _ => rfl
theorem pfX6_45 : ∀ (ad : Nat → Nat) (k : Nat) (r : Nat → Int32) (g : Nat → Int64) (v : Int32), fsX6 ad k (upd r 45 v) g = (fsX6 ad k r g).set 45 (.int v) := fun _ _ _ _ _ => rfl
theorem pfX6_46 : ∀ (ad : Nat → Nat) (k : Nat) (r : Nat → Int32) (g : Nat → Int64) (v : Int32), fsX6 ad k (upd r 46 v) g = (fsX6 ad k r g).set 46 (.int v) := fun _ _ _ _ _ => rfl
theorem pfX6_47 : ∀ (ad : Nat → Nat) (k : Nat) (r : Nat → Int32) (g : Nat → Int64) (v : Int32), fsX6 ad k (upd r 47 v) g = (fsX6 ad k r g).set 47 (.int v) := fun _ _ _ _ _ => rfl
theorem pfX6_48 : ∀ (ad : Nat → Nat) (k : Nat) (r : Nat → Int32) (g : Nat → Int64) (v : Int32), fsX6 ad k (upd r 48 v) g = (fsX6 ad k r g).set 48 (.int v) := fun _ _ _ _ _ => rfl
theorem pfX6_49 : ∀ (ad : Nat → Nat) (k : Nat) (r : Nat → Int32) (g : Nat → Int64) (v : Int32), fsX6 ad k (upd r 49 v) g = (fsX6 ad k r g).set 49 (.int v) := fun _ _ _ _ _ => rfl
theorem plX6 : ∀ j, j < 54 → ∀ (ad : Nat → Nat) (k : Nat) (r : Nat → Int32) (g : Nat → Int64), j < (fsX6 ad k r g).length := fun j h _ _ _ _ => h
section GGspecial
variable {p : Program} {l : Launch} {e : Env} {R : Room} {s : State} {mt : MethodId} {args : Array Value} {below : List Frame} {meth : Method} {c : Code} {Q : State → Prop} {cc : ByteArray} {own : String} {D : va_G} {cA : Nat → ClassId} {ad : Nat → Nat} {nL : Nat} {tb : Nat → Nat} {m : MM} {pc : Nat} {lv : List (Nat × Value)} {st : List Value}
theorem g_getLot (C : CX p R s mt args c cc own D cA ad 73 nL tb) {index : Nat} (hcl : ∀ w ∈ wsX10, w.before args s = true) (hlk : Cond.fieldLink own index RX1 "lot" "LBothHandsFull$Lot;" ∈ WL) (hd : decode cc pc = .ok (.getfield index, 3)) {α : Type} {K : Option α} {z : α} (h : Gu (rI m 25 10 == 17) K = some z) (kk : K = some z → GG p l e R s mt args below meth c Q D cA ad cfC 73 nL m (pc + 3) lv (.ref (ad 17) :: st)) : GG p l e R s mt args below meth c Q D cA ad cfC 73 nL m pc lv (.ref (ad 25) :: st) :=
  g_get C (T := TX1) hcl cO_25 rfl (j := 10) (by decide) hlk (v := .ref (ad 17)) (by
    have h0 := eq_of_beq (Gu_inv h).1
    show some (rv ad (m.1 25 10)) = _
    rw [show m.1 25 10 = 17 from h0]
    rfl) hd (kk (Gu_inv h).2)
theorem g_getInto (C : CX p R s mt args c cc own D cA ad 73 nL tb) {index : Nat} (hcl : ∀ w ∈ wsX30, w.before args s = true) (hlk : Cond.fieldLink own index RX3 "into" "LBothHandsFull$Text;" ∈ WL) (hd : decode cc pc = .ok (.getfield index, 3)) {α : Type} {K : Option α} {z : α} (h : Gu (isTxB (rI m 36 6)) K = some z) (kk : isTxB (rI m 36 6) = true → K = some z → GG p l e R s mt args below meth c Q D cA ad cfC 73 nL m (pc + 3) lv (.ref (ad (ix (rI m 36 6))) :: st)) : GG p l e R s mt args below meth c Q D cA ad cfC 73 nL m pc lv (.ref (ad 36) :: st) :=
  g_get C (T := TX3) hcl cO_36 rfl (j := 6) (by decide) hlk (v := .ref (ad (ix (rI m 36 6)))) (by
    have h0 := (Gu_inv h).1
    show some (rv ad (m.1 36 6)) = _
    rw [show m.1 36 6 = rI m 36 6 from rfl, tx_rv h0]) hd (kk (Gu_inv h).1 (Gu_inv h).2)
theorem g_putLot (C : CX p R s mt args c cc own D cA ad 73 nL tb) {index : Nat} (hcl : ∀ w ∈ wsX10, w.before args s = true) (hlk : Cond.fieldLink own index RX1 "lot" "LBothHandsFull$Lot;" ∈ WL) (hd : decode cc pc = .ok (.putfield index, 3)) {α : Type} {K : MM → Option α} {z : α} (h : Lt (wI m 25 10 17) K = some z) (kk : ∀ m', K m' = some z → GG p l e R s mt args below meth c Q D cA ad cfC 73 nL m' (pc + 3) lv st) : GG p l e R s mt args below meth c Q D cA ad cfC 73 nL m pc lv (.ref (ad 17) :: .ref (ad 25) :: st) :=
  g_put C (T := TX1) hcl cO_25 rfl (j := 10) (by decide) hlk tyX1 tyX1_ok nmX1 rfl rfl rfl (m' := wI m 25 10 17) (by rw [wI_at]; rfl) (fun q hq => wI_ne hq) (fun _ _ => rfl) (plX1 10 (by decide) _ _ _ _) hd h kk
theorem g_putInto (C : CX p R s mt args c cc own D cA ad 73 nL tb) {index k : Nat} (hk : isTx k) (hcl : ∀ w ∈ wsX30, w.before args s = true) (hlk : Cond.fieldLink own index RX3 "into" "LBothHandsFull$Text;" ∈ WL) (hd : decode cc pc = .ok (.putfield index, 3)) {α : Type} {K : MM → Option α} {z : α} (h : Lt (wI m 36 6 (nI k)) K = some z) (kk : ∀ m', K m' = some z → GG p l e R s mt args below meth c Q D cA ad cfC 73 nL m' (pc + 3) lv st) : GG p l e R s mt args below meth c Q D cA ad cfC 73 nL m pc lv (.ref (ad k) :: .ref (ad 36) :: st) :=
  g_put C (T := TX3) hcl cO_36 rfl (j := 6) (by decide) hlk tyX3 tyX3_ok nmX3 rfl rfl rfl (m' := wI m 36 6 (nI k)) (by
    rw [wI_at]
    show [_, _, _, _, _, _, rv ad (nI k)] = [_, _, _, _, _, _, .ref (ad k)]
    rw [tx_nI hk]
    rfl) (fun q hq => wI_ne hq) (fun _ _ => rfl) (plX3 6 (by decide) _ _ _ _) hd h kk
end GGspecial
/-! TEXT CONSTANTS: what the walker's rows say of them -/
def strL (q : Nat) : Int32 := Int32.ofNat (stL.getD q 0)
def strB (q i : Nat) : Int32 := (stB.getD q []).getD i 0
theorem st_lt0 : (0 : Nat) < 3 := by decide
theorem st_lt1 : (1 : Nat) < 3 := by decide
theorem st_lt2 : (2 : Nat) < 3 := by decide
def by8 (x : Int32) : Bool := x.toInt8.toInt32 == x
def ch16 (x : Int32) : Bool := (x.toUInt32 % 65536).toInt32 == x
theorem by8_nar {x : Int32} (h : by8 x = true) : narrow .byte (.int x) = .int x := by
  have e := eq_of_beq h
  rw [← e]
  exact pk_nb x
theorem ch16_nar {x : Int32} (h : ch16 x = true) : narrow .char (.int x) = .int x := by
  have e := eq_of_beq h
  rw [← e]
  exact pk_nc x
section GGtext
variable {p : Program} {l : Launch} {e : Env} {R : Room} {s : State} {mt : MethodId} {args : Array Value} {below : List Frame} {meth : Method} {c : Code} {Q : State → Prop} {cc : ByteArray} {own : String} {D : va_G} {cA : Nat → ClassId} {ad : Nat → Nat} {cf : CF} {n nL : Nat} {tb : Nat → Nat} {m : MM} {pc : Nat} {lv : List (Nat × Value)} {st : List Value}
theorem CX.str (C : CX p R s mt args c cc own D cA ad n nL tb) : SXs tb (AA ad n s.heap.size) s s.heap := C.2.2.2.2.2.2.2.2.2
theorem g_ldcS0 (C : CX p R s mt args c cc "BothHandsFull" D cA ad n nL tb) (hd : decode cc pc = .ok (.ldc 54, 2)) (k : GG p l e R s mt args below meth c Q D cA ad cf n nL m (pc + 2) lv (.ref (tb (4 + 0)) :: st)) : GG p l e R s mt args below meth c Q D cA ad cf n nL m pc lv st :=
  fun H locs ls hP hS hl => va_ldcS C.1 C.2.1 C.2.2.2.1 C.str.2.1.1 hd (k H locs ls hP hS hl)
theorem g_ldcS1 (C : CX p R s mt args c cc "BothHandsFull$Tape" D cA ad n nL tb) (hd : decode cc pc = .ok (.ldc 73, 2)) (k : GG p l e R s mt args below meth c Q D cA ad cf n nL m (pc + 2) lv (.ref (tb (4 + 1)) :: st)) : GG p l e R s mt args below meth c Q D cA ad cf n nL m pc lv st :=
  fun H locs ls hP hS hl => va_ldcS C.1 C.2.1 C.2.2.2.1 C.str.2.1.2.1 hd (k H locs ls hP hS hl)
theorem g_ldcS2 (C : CX p R s mt args c cc "BothHandsFull$Tape" D cA ad n nL tb) (hd : decode cc pc = .ok (.ldc 84, 2)) (k : GG p l e R s mt args below meth c Q D cA ad cf n nL m (pc + 2) lv (.ref (tb (4 + 2)) :: st)) : GG p l e R s mt args below meth c Q D cA ad cf n nL m pc lv st :=
  fun H locs ls hP hS hl => va_ldcS C.1 C.2.1 C.2.2.2.1 C.str.2.1.2.2 hd (k H locs ls hP hS hl)
theorem g_sval (C : CX p R s mt args c cc own D cA ad n nL tb) {q index : Nat} (hq : q < 3) (hlk : Cond.fieldLink own index "java/lang/String" "value" "[B" ∈ WL) (hd : decode cc pc = .ok (.getfield index, 3)) (k : GG p l e R s mt args below meth c Q D cA ad cf n nL m (pc + 3) lv (.ref (tb (7 + q)) :: st)) : GG p l e R s mt args below meth c Q D cA ad cf n nL m pc lv (.ref (tb (4 + q)) :: st) :=
  fun H locs ls hP hS hl => vk_getf C.1 C.2.1 (C.str.1.1 q hq).2.2.1 hS C.2.2.2.1 (C.2.2.2.2.1 _ hlk) (fun _ h => h) hd (k H locs ls hP hS hl)
theorem g_scod (C : CX p R s mt args c cc own D cA ad n nL tb) {q index : Nat} (hq : q < 3) (hlk : Cond.fieldLink own index "java/lang/String" "coder" "B" ∈ WL) (hd : decode cc pc = .ok (.getfield index, 3)) (k : GG p l e R s mt args below meth c Q D cA ad cf n nL m (pc + 3) lv (.int 0 :: st)) : GG p l e R s mt args below meth c Q D cA ad cf n nL m pc lv (.ref (tb (4 + q)) :: st) :=
  fun H locs ls hP hS hl => vk_getf C.1 C.2.1 (C.str.1.1 q hq).2.1 hS C.2.2.2.1 (C.2.2.2.2.1 _ hlk) (fun _ h => h) hd (k H locs ls hP hS hl)
theorem g_scmp (C : CX p R s mt args c cc own D cA ad n nL tb) {index : Nat} (hlk : Cond.fieldLink own index "java/lang/String" "COMPACT_STRINGS" "Z" ∈ WL) (hd : decode cc pc = .ok (.getstatic index, 3)) (k : GG p l e R s mt args below meth c Q D cA ad cf n nL m (pc + 3) lv (.int 1 :: st)) : GG p l e R s mt args below meth c Q D cA ad cf n nL m pc lv st :=
  fun H locs ls hP hS hl => va_gets C.1 C.2.1 C.str.2.2.1 hS C.2.2.2.1 (C.2.2.2.2.1 _ hlk) (fun _ h => h) hd (k H locs ls hP hS hl)
theorem g_ssio (C : CX p R s mt args c cc own D cA ad n nL tb) {index : Nat} (hlk : Cond.fieldLink own index "jdk/internal/util/Preconditions" "SIOOBE_FORMATTER" "Ljava/util/function/BiFunction;" ∈ WL) (hd : decode cc pc = .ok (.getstatic index, 3)) (k : ∀ o : Option Nat, GG p l e R s mt args below meth c Q D cA ad cf n nL m (pc + 3) lv (va_rf o :: st)) : GG p l e R s mt args below meth c Q D cA ad cf n nL m pc lv st := by
  intro H locs ls hP hS hl
  rcases C.str.2.2.2 with h | ⟨t, h⟩
  · exact va_gets C.1 C.2.1 h hS C.2.2.2.1 (C.2.2.2.2.1 _ hlk) (fun _ h => h) hd (k none H locs ls hP hS hl)
  · exact va_gets C.1 C.2.1 h hS C.2.2.2.1 (C.2.2.2.2.1 _ hlk) (fun _ h => h) hd (k (some t) H locs ls hP hS hl)
theorem g_vlen (C : CX p R s mt args c cc own D cA ad n nL tb) {q : Nat} (hq : q < 3) (hd : decode cc pc = .ok (.arraylength, 1)) (k : GG p l e R s mt args below meth c Q D cA ad cf n nL m (pc + 1) lv (.int (strL q) :: st)) : GG p l e R s mt args below meth c Q D cA ad cf n nL m pc lv (.ref (tb (7 + q)) :: st) := by
  intro H locs ls hP hS hl
  obtain ⟨cell, h1, h2, h3, h4, h5, h6, h7⟩ := (C.str.1.1 q hq).2.2.2
  exact W.alen (n := strL q) C.1 C.2.1 (by rw [hS.2.1 _ (Array.getElem?_eq_some_iff.mp h1).1 h7]; exact h1) h2 h5 rfl rfl hd (k H locs ls hP hS hl)
theorem g_vald (C : CX p R s mt args c cc own D cA ad n nL tb) {q : Nat} (hq : q < 3) {i : Int32} (hd : decode cc pc = .ok (.baload, 1)) {α : Type} {K : Option α} {z : α} (h : Gu (inB i (stL.getD q 0)) K = some z) (k : K = some z → GG p l e R s mt args below meth c Q D cA ad cf n nL m (pc + 1) lv (.int (strB q (ix i)) :: st)) : GG p l e R s mt args below meth c Q D cA ad cf n nL m pc lv (.int i :: .ref (tb (7 + q)) :: st) := by
  intro H locs ls hP hS hl
  obtain ⟨cell, h1, h2, h3, h4, h5, h6, h7⟩ := (C.str.1.1 q hq).2.2.2
  have hi := inB_in (Gu_inv h).1
  have hlt : i.toNatClampNeg < stL.getD q 0 := Nat.not_le.mp fun q => hi (Or.inr q)
  exact W.bald (v := .int (strB q (ix i))) C.1 C.2.1 (by rw [hS.2.1 _ (Array.getElem?_eq_some_iff.mp h1).1 h7]; exact h1) h2 h3 (fun q => hi (q.imp_right (fun z => Nat.le_trans h4 z))) (h6 _ hlt) rfl rfl hd (k (Gu_inv h).2 H locs ls hP hS hl)
theorem g_nret (C : CX p R s mt args c cc own D cA ad n nL tb) {m' : MM} {x : Int32} {ty : FieldType} (hr : meth.sig.returnType = some ty) (hlk : meth.locks = false) (hd : decode cc pc = .ok (.ireturn, 1)) (hz : narrow ty (.int x) = .int x) (hm : m = m') : GG p l e R s mt args below meth c (MQ below (QF D cA ad cf n (some (.int x)) m' s.heap.size) args s 0 0 (AA ad n s.heap.size)) D cA ad cf n nL m pc lv [.int x] := by
  subst hm
  intro H locs ls hP hS hl
  exact W.zret C.1 C.2.1 hr hz (fun t ht hW => ⟨⟨rfl, by rw [ht]; exact hP⟩, hS.F ht⟩) hS.2.2 hd hlk
theorem g_callT {y : MethodName} {bytes : ByteArray} {maxL index np : Nat} {ret : Option FieldType} {rm' : Room} {av : (Nat → Nat) → (Nat → Nat) → List Value} {o : Option Value} {m' : MM} {As rest stk : List Value} (C : CX p R s mt args c cc own D cA ad n nL tb) (hct : CT l y bytes maxL ret rm' cf n av m o m') {q : Nat} (cw : CallW R s args own "java/lang/String" index y bytes maxL ret (Cond.code y bytes maxL ret :: WL) rm' 0 0 np) (hq : q < 3) (hav : av ad tb = .ref (tb (4 + q)) :: As) (hn : As.length = np) (hst : stk = As.reverse ++ .ref (tb (4 + q)) :: rest) (hsum : (rest.map fun v => v.category).sum ≤ 8) (hd : decode cc pc = .ok (.invokevirtual index, 3)) (kk : GG p l e R s mt args below meth c Q D cA ad cf n nL m' (pc + 3) lv (o.toList ++ rest)) : GG p l e R s mt args below meth c Q D cA ad cf n nL m pc lv stk := by
  intro H locs ls hP hS hl
  exact g_ran hS hl (va_runV (As := As) (rest := rest) ⟨C.1, C.2.1, C.2.2.1, C.2.2.2.1, C.2.2.2.2.1⟩ (hct D cA ad tb H.size C.2.2.2.2.2.2.1) cw ⟨g_blind, vk_recv C.str.1 hq hS, fun U hU hW => hav ▸ g_pre C hP hS U hU hW⟩ rfl hn hl.1 hst (lv_room hsum) hd ⟨Nat.zero_le _, Nat.zero_le _⟩) kk
end GGtext
end
section
/-! THE COMPONENT'S METHODS AS PURE FUNCTIONS, by program out of the bytecode -/
def f_X5_within  (a0 : Int32) (a1 : Int32) (m : MM) : Option Int32 := if a0 < 0 then some (0 : Int32) else if a1 ≤ a0 then some (0 : Int32) else some (1 : Int32)

def f_X5_roomOf  (a0 : Int32) (a1 : Int32) (m : MM) : Option Int32 := Lt (a1 + (6 : Int32)) fun x2_1 => Lt (x2_1 - (3 : Int32)) fun x3_2 => if a0 = (1 : Int32) then some x3_2 else if a0 = (2 : Int32) then some ((2 : Int32) * x2_1) else if a0 = (3 : Int32) then Gu (nz (2 : Int32)) <| some (x3_2 / (2 : Int32)) else if a0 = (4 : Int32) then some (a1 + (1 : Int32)) else if a0 = (5 : Int32) then some ((2 : Int32) * x2_1) else some x2_1

def f_X0_renumber  (k : Nat) (a0 : Int32) (a1 : Int32) (m : MM) : Option MM := Gu (inB a0 5) <| Lt (wI m (k + 2) (ix a0) a1) fun m1 => Gu (inB a0 5) <| bd1 (f_X5_roomOf (rI m1 (k + 1) (ix a0)) a1 m1) fun r2 => Gu (inB a0 5) <| Lt (wI m1 (k + 3) (ix a0) r2) fun m4 => some m4

def f_X5_hold  (a0 : Int32) (a1 : Int32) (m : MM) : Option (Int32 × MM) := bd1 (f_X5_within a0 (6 : Int32) m) fun r1 => if r1 = 0 then some ((-2 : Int32), m) else bd1 (f_X5_within a1 (10 : Int32) m) fun r3 => if r3 = 0 then some ((-2 : Int32), m) else if (rI m 1 7) < (5 : Int32) then Gu (inB (rI m 1 7) 5) <| Lt (wI m 2 (ix (rI m 1 7)) a0) fun m5 => bd1 (f_X0_renumber 1 (rI m5 1 7) a1 m5) fun m7 => Lt (wI m7 1 7 ((rI m7 1 7) + (1 : Int32))) fun m8 => some (rI m7 1 7, m8) else some ((-4 : Int32), m)

def f_X0_hasHold  (k : Nat) (a0 : Int32) (m : MM) : Option Int32 := bd1 (f_X5_within a0 (rI m k 7) m) fun r1 => Gu (bz r1) <| some r1

def f_X0_refusal_L28 (k : Nat) (a1 : Int32) (m : MM) (K : Int32 → Int32 → Int32 → Int32 → Option Int32) : Nat → Int32 → Int32 → Int32 → Int32 → Option Int32
  | 0, _, _, _, _ => none
  | n + 1, x3_2, x4_3, x5_4, x6_5 => if (rI m k 8) ≤ x6_5 then K x3_2 x4_3 x5_4 x6_5 else Gu (inB x6_5 5) <| if (rI m (k + 7) (ix x6_5)) = a1 then Gu (inB x6_5 5) <| Lt (x3_2 + (rI m (k + 4) (ix x6_5))) fun x3_7 => Lt (x4_3 + (1 : Int32)) fun x4_8 => Lt (x5_4 ||| (shlI (1 : Int32) x6_5)) fun x5_9 => Lt (x6_5 + (1 : Int32)) fun x6_10 => f_X0_refusal_L28 k a1 m K n x3_7 x4_8 x5_9 x6_10 else Lt (x6_5 + (1 : Int32)) fun x6_11 => f_X0_refusal_L28 k a1 m K n x3_2 x4_3 x5_4 x6_11

def f_X0_refusal (F : Nat)  (k : Nat) (a0 : Int32) (a1 : Int32) (m : MM) : Option Int32 := Gu (inB a0 5) <| if (rI m (k + 7) (ix a0)) = a1 then some (1 : Int32) else Gu (inB a0 5) <| Lt (rI m (k + 4) (ix a0)) fun x3_1 => f_X0_refusal_L28 k a1 m (fun x3_2 x4_3 x5_4 x6_5 => Gu (inB a1 5) <| if x3_2 ≤ (rI m (k + 3) (ix a1)) then Gu (inB a1 5) <| Gu (inB (rI m (k + 1) (ix a1)) 6) <| if x4_3 ≤ (stT 1 (ix (rI m (k + 1) (ix a1)))) then Gu (inB a0 5) <| Jp (Gu (inB a0 5) <| if ((rI m (k + 6) (ix a0)) &&& x5_4) = 0 then some (0 : Int32) else some (5 : Int32)) fun J12 => if (rI m (k + 5) (ix a0)) = (1 : Int32) then Gu (inB a1 5) <| Gu (inB (rI m (k + 1) (ix a1)) 6) <| if (stT 2 (ix (rI m (k + 1) (ix a1)))) = (1 : Int32) then some (4 : Int32) else J12 else J12 else some (3 : Int32) else some (2 : Int32)) F x3_1 (1 : Int32) (0 : Int32) (0 : Int32)

def f_X5_thing (F : Nat)  (a0 : Int32) (a1 : Int32) (m : MM) : Option (Int32 × MM) := Gu (nz (10 : Int32)) <| Lt (a0 / (10 : Int32)) fun x3_1 => Gu (nz (10 : Int32)) <| Lt (remI a0 (10 : Int32)) fun x4_2 => if x3_1 < (1 : Int32) then some ((-2 : Int32), m) else if (9 : Int32) < x3_1 then some ((-2 : Int32), m) else bd1 (f_X5_within x4_2 (2 : Int32) m) fun r3 => if r3 = 0 then some ((-2 : Int32), m) else bd1 (f_X0_hasHold 1 a1 m) fun r5 => if r5 = 0 then some ((-2 : Int32), m) else if (rI m 1 8) < (5 : Int32) then Lt (rI m 1 8) fun x5_7 => Gu (inB x5_7 5) <| Lt (wI m 5 (ix x5_7) x3_1) fun m8 => Gu (inB x5_7 5) <| Lt (wI m8 6 (ix x5_7) x4_2) fun m9 => Gu (inB x5_7 5) <| Lt (wI m9 7 (ix x5_7) (0 : Int32)) fun m10 => Gu (inB x5_7 5) <| Lt (wI m10 8 (ix x5_7) (-1 : Int32)) fun m11 => bd1 (f_X0_refusal F 1 x5_7 a1 m11) fun r12 => if r12 = 0 then Gu (inB x5_7 5) <| Lt (wI m11 8 (ix x5_7) a1) fun m14 => Lt (wI m14 1 8 ((rI m14 1 8) + (1 : Int32))) fun m15 => some (x5_7, m15) else some ((-3 : Int32), m11) else some ((-4 : Int32), m)

def f_X5_setFree  (a0 : Int32) (m : MM) : Option (Int32 × MM) := bd1 (f_X5_within a0 (4 : Int32) m) fun r1 => if r1 = 0 then some ((-100 : Int32), m) else Lt (rI m 1 10) fun x2_3 => Lt (wI m 1 10 a0) fun m4 => some (x2_3, m4)

def f_X0_hasThing  (k : Nat) (a0 : Int32) (m : MM) : Option Int32 := bd1 (f_X5_within a0 (rI m k 8) m) fun r1 => Gu (bz r1) <| some r1

def f_X5_setKey  (a0 : Int32) (m : MM) : Option (Int32 × MM) := Jp (Lt (rI m 1 9) fun x2_2 => Lt (wI m 1 9 a0) fun m3 => some (x2_2, m3)) fun J1 => if a0 = (-1 : Int32) then J1 else bd1 (f_X0_hasThing 1 a0 m) fun r4 => if r4 = 0 then some ((-100 : Int32), m) else J1

def f_X0_left_L9 (k : Nat) (a0 : Int32) (m : MM) (K : Int32 → Int32 → Option Int32) : Nat → Int32 → Int32 → Option Int32
  | 0, _, _ => none
  | n + 1, x2_2, x3_3 => if (rI m k 8) ≤ x3_3 then K x2_2 x3_3 else Gu (inB x3_3 5) <| if (rI m (k + 7) (ix x3_3)) = a0 then Gu (inB x3_3 5) <| Lt (x2_2 - (rI m (k + 4) (ix x3_3))) fun x2_5 => Lt (x3_3 + (1 : Int32)) fun x3_6 => f_X0_left_L9 k a0 m K n x2_5 x3_6 else Lt (x3_3 + (1 : Int32)) fun x3_7 => f_X0_left_L9 k a0 m K n x2_2 x3_7

def f_X0_left (F : Nat)  (k : Nat) (a0 : Int32) (m : MM) : Option Int32 := Gu (inB a0 5) <| Lt (rI m (k + 3) (ix a0)) fun x2_1 => f_X0_left_L9 k a0 m (fun x2_2 x3_3 => some x2_2) F x2_1 (0 : Int32)

def f_X5_setNumber (F : Nat)  (a0 : Int32) (a1 : Int32) (m : MM) : Option (Int32 × MM) := bd1 (f_X0_hasHold 1 a0 m) fun r1 => if r1 = 0 then some ((-100 : Int32), m) else bd1 (f_X5_within a1 (10 : Int32) m) fun r3 => if r3 = 0 then some ((-100 : Int32), m) else Gu (inB a0 5) <| Lt (rI m 3 (ix a0)) fun x3_5 => bd1 (f_X0_renumber 1 a0 a1 m) fun m7 => bd1 (f_X0_left F 1 a0 m7) fun r8 => if 0 ≤ r8 then some (x3_5, m7) else bd1 (f_X0_renumber 1 a0 x3_5 m7) fun m11 => some ((-3 : Int32), m11)

def f_X0_wet  (k : Nat) (a0 : Int32) (m : MM) : Option Int32 := Gu (inB a0 5) <| Gu (inB (rI m (k + 1) (ix a0)) 6) <| some (stT 2 (ix (rI m (k + 1) (ix a0))))

def f_X5_setDry  (a0 : Int32) (a1 : Int32) (m : MM) : Option (Int32 × MM) := bd1 (f_X0_hasThing 1 a0 m) fun r1 => if r1 = 0 then some ((-100 : Int32), m) else bd1 (f_X5_within a1 (2 : Int32) m) fun r3 => if r3 = 0 then some ((-100 : Int32), m) else Jp (Gu (inB a0 5) <| Lt (rI m 6 (ix a0)) fun x3_6 => Gu (inB a0 5) <| Lt (wI m 6 (ix a0) a1) fun m7 => some (x3_6, m7)) fun J5 => if a1 = (1 : Int32) then Gu (inB a0 5) <| bd1 (f_X0_wet 1 (rI m 8 (ix a0)) m) fun r8 => if r8 = (1 : Int32) then some ((-3 : Int32), m) else J5 else J5

def f_X5_set (F : Nat)  (a0 : Int32) (a1 : Int32) (a2 : Int32) (m : MM) : Option (Int32 × MM) := if a0 = (0 : Int32) then bd2 (f_X5_setFree a2 m) fun r2 m4 => some (r2, m4) else if a0 = (1 : Int32) then bd2 (f_X5_setKey a2 m) fun r6 m8 => some (r6, m8) else if a0 = (2 : Int32) then bd2 (f_X5_setNumber F a1 a2 m) fun r10 m12 => some (r10, m12) else if a0 = (3 : Int32) then bd2 (f_X5_setDry a1 a2 m) fun r14 m16 => some (r14, m16) else some ((-100 : Int32), m)

def f_X5_withBit  (a0 : Int32) (a1 : Int32) (a2 : Int32) (m : MM) : Option Int32 := if a2 = (1 : Int32) then some (a0 ||| (shlI (1 : Int32) a1)) else some (a0 &&& ((shlI (1 : Int32) a1) ^^^ (-1 : Int32)))

def f_X5_part  (a0 : Int32) (a1 : Int32) (a2 : Int32) (m : MM) : Option (Int32 × MM) := bd1 (f_X0_hasThing 1 a0 m) fun r1 => if r1 = 0 then some ((-2 : Int32), m) else bd1 (f_X0_hasThing 1 a1 m) fun r3 => if r3 = 0 then some ((-2 : Int32), m) else if a0 = a1 then some ((-2 : Int32), m) else bd1 (f_X5_within a2 (2 : Int32) m) fun r5 => if r5 = 0 then some ((-2 : Int32), m) else Jp (Gu (inB a0 5) <| Lt ((shrI (rI m 7 (ix a0)) a1) &&& (1 : Int32)) fun x4_8 => Gu (inB a0 5) <| bd1 (f_X5_withBit (rI m 7 (ix a0)) a1 a2 m) fun r9 => Gu (inB a0 5) <| Lt (wI m 7 (ix a0) r9) fun m11 => Gu (inB a1 5) <| bd1 (f_X5_withBit (rI m11 7 (ix a1)) a0 a2 m11) fun r12 => Gu (inB a1 5) <| Lt (wI m11 7 (ix a1) r12) fun m14 => some (x4_8, m14)) fun J7 => if a2 = (1 : Int32) then Gu (inB a0 5) <| Gu (inB a1 5) <| if (rI m 8 (ix a0)) = (rI m 8 (ix a1)) then some ((-3 : Int32), m) else J7 else J7

def f_X0_lying_L4 (k : Nat) (a0 : Int32) (m : MM) (K : Int32 → Int32 → Option Int32) : Nat → Int32 → Int32 → Option Int32
  | 0, _, _ => none
  | n + 1, x2_1, x3_2 => if (rI m k 8) ≤ x3_2 then K x2_1 x3_2 else Gu (inB x3_2 5) <| if (rI m (k + 7) (ix x3_2)) = a0 then Lt (x2_1 ||| (shlI (1 : Int32) x3_2)) fun x2_4 => Lt (x3_2 + (1 : Int32)) fun x3_5 => f_X0_lying_L4 k a0 m K n x2_4 x3_5 else Lt (x3_2 + (1 : Int32)) fun x3_6 => f_X0_lying_L4 k a0 m K n x2_1 x3_6

def f_X0_lying (F : Nat)  (k : Nat) (a0 : Int32) (m : MM) : Option Int32 := f_X0_lying_L4 k a0 m (fun x2_1 x3_2 => some x2_1) F (0 : Int32) (0 : Int32)

def f_X5_toldOfHold (F : Nat)  (a0 : Int32) (a1 : Int32) (m : MM) : Option Int32 := if a1 = (0 : Int32) then Gu (inB a0 5) <| some (rI m 2 (ix a0)) else if a1 = (1 : Int32) then Gu (inB a0 5) <| some (rI m 3 (ix a0)) else if a1 = (2 : Int32) then Gu (inB a0 5) <| some (rI m 4 (ix a0)) else if a1 = (3 : Int32) then Gu (inB a0 5) <| Gu (inB (rI m 2 (ix a0)) 6) <| some (stT 1 (ix (rI m 2 (ix a0)))) else if a1 = (4 : Int32) then bd1 (f_X0_wet 1 a0 m) fun r6 => some r6 else if a1 = (5 : Int32) then Gu (inB a0 5) <| Gu (inB (rI m 2 (ix a0)) 6) <| some (stT 3 (ix (rI m 2 (ix a0)))) else if a1 = (6 : Int32) then bd1 (f_X0_lying F 1 a0 m) fun r10 => some r10 else bd1 (f_X0_left F 1 a0 m) fun r12 => some r12

def f_X5_toldOfThing  (a0 : Int32) (a1 : Int32) (m : MM) : Option Int32 := if a1 = (8 : Int32) then Gu (inB a0 5) <| some (rI m 5 (ix a0)) else if a1 = (9 : Int32) then Gu (inB a0 5) <| some (rI m 6 (ix a0)) else if a1 = (10 : Int32) then Gu (inB a0 5) <| some (rI m 8 (ix a0)) else Gu (inB a0 5) <| some (rI m 7 (ix a0))

def f_X5_told (F : Nat)  (a0 : Int32) (a1 : Int32) (m : MM) : Option Int32 := Jp (if a1 < (8 : Int32) then some (-100 : Int32) else if (11 : Int32) < a1 then some (-100 : Int32) else bd1 (f_X0_hasThing 1 a0 m) fun r2 => if r2 = 0 then some (-100 : Int32) else bd1 (f_X5_toldOfThing a0 a1 m) fun r4 => some r4) fun J1 => if a1 < 0 then J1 else if (7 : Int32) < a1 then J1 else bd1 (f_X0_hasHold 1 a0 m) fun r6 => if r6 = 0 then J1 else bd1 (f_X5_toldOfHold F a0 a1 m) fun r8 => some r8

def f_X3_add  (a0 : Int32) (m : MM) : Option MM := if (160 : Int32) ≤ (rI m 36 1) then some m else Lt (wI m 36 1 ((rI m 36 1) + (1 : Int32))) fun m1 => Gu (inB (rI m 36 1) 160) <| Lt (wI m1 37 (ix (rI m 36 1)) a0) fun m2 => some m2

def f_X5_feed  (a0 : Int32) (m : MM) : Option (Int32 × MM) := bd1 (f_X5_within a0 (256 : Int32) m) fun r1 => if r1 = 0 then some ((-2 : Int32), m) else if (rI m 36 1) < (160 : Int32) then bd1 (f_X3_add a0 m) fun m4 => some (rI m4 36 1, m4) else some ((-4 : Int32), m)

def f_X4_clear  (k : Nat) (m : MM) : Option MM := Lt (wI m k 3 (0 : Int32)) fun m1 => some m1

def f_X3_isLetter  (a0 : Int32) (m : MM) : Option Int32 := if a0 < (97 : Int32) then some (0 : Int32) else if (122 : Int32) < a0 then some (0 : Int32) else some (1 : Int32)

def f_J0_isLatin1_aae02  (q : Nat) (m : MM) : Option Int32 := if (1 : Int32) = 0 then some (0 : Int32) else if (0 : Int32) = 0 then some (1 : Int32) else some (0 : Int32)

def f_J3_checkIndex_8e157  (a0 : Int32) (a1 : Int32) (m : MM) : Option Int32 := Jp (none) fun J1 => if a0 < 0 then J1 else if a0 < a1 then some a0 else J1

def f_J0_checkIndex_df160  (a0 : Int32) (a1 : Int32) (m : MM) : Option Unit := bd1 (f_J3_checkIndex_8e157 a0 a1 m) fun r2 => some ()

def f_J1_charAt_3b067  (q : Nat) (a1 : Int32) (m : MM) : Option Int32 := bd1 (f_J0_checkIndex_df160 a1 (strL q) m) fun _ => Gu (inB a1 (stL.getD q 0)) <| Gu (ch16 (((Int32.toUInt32 ((strB q (ix a1)) &&& (255 : Int32))) % 65536).toInt32)) <| some (((Int32.toUInt32 ((strB q (ix a1)) &&& (255 : Int32))) % 65536).toInt32)

def f_J0_charAt_5068e  (q : Nat) (a0 : Int32) (m : MM) : Option Int32 := bd1 (f_J0_isLatin1_aae02 q m) fun r1 => if r1 = 0 then none else bd1 (f_J1_charAt_3b067 q a0 m) fun r3 => Gu (ch16 r3) <| some r3

def f_X3_isWord_L36 (a0 : Int32) (m : MM) (x2_1 : Int32) (K : Int32 → Option Int32) : Nat → Int32 → Option Int32
  | 0, _ => none
  | n + 1, x3_4 => if x2_1 ≤ x3_4 then K x3_4 else bd1 (f_J0_charAt_5068e 2 ((a0 * (6 : Int32)) + x3_4) m) fun r6 => Gu (inB ((rI m 36 4) + x3_4) 160) <| if r6 = (rI m 37 (ix ((rI m 36 4) + x3_4))) then Lt (x3_4 + (1 : Int32)) fun x3_8 => f_X3_isWord_L36 a0 m x2_1 K n x3_8 else some (0 : Int32)

def f_X3_isWord (F : Nat)  (a0 : Int32) (m : MM) : Option Int32 := Lt ((rI m 36 2) - (rI m 36 4)) fun x2_1 => if (6 : Int32) ≤ x2_1 then some (0 : Int32) else bd1 (f_J0_charAt_5068e 2 ((a0 * (6 : Int32)) + x2_1) m) fun r2 => if r2 = (32 : Int32) then f_X3_isWord_L36 a0 m x2_1 (fun x3_4 => some (1 : Int32)) F (0 : Int32) else some (0 : Int32)

def f_X3_takeWord_L46 (F : Nat) (m6 : MM) (K : Int32 → Option MM) : Nat → Int32 → Option MM
  | 0, _ => none
  | n + 1, x1_7 => if (12 : Int32) ≤ x1_7 then K x1_7 else bd1 (f_X3_isWord F x1_7 m6) fun r9 => if r9 = 0 then Lt (x1_7 + (1 : Int32)) fun x1_11 => f_X3_takeWord_L46 F m6 K n x1_11 else Jp (fun s12 => Lt (wI m6 36 3 s12) fun m14 => Lt (wI m14 36 5 x1_7) fun m15 => some m15) fun J13 => if (6 : Int32) ≤ x1_7 then J13 (((6 : Int32) + x1_7) - (6 : Int32)) else J13 (5 : Int32)

def f_X3_takeWord_L0  (K : MM → Option MM) : Nat → MM → Option MM
  | 0, _ => none
  | n + 1, m1 => if (rI m1 36 1) ≤ (rI m1 36 2) then K m1 else Gu (inB (rI m1 36 2) 160) <| bd1 (f_X3_isLetter (rI m1 37 (ix (rI m1 36 2))) m1) fun r3 => if r3 = 0 then K m1 else Lt (wI m1 36 2 ((rI m1 36 2) + (1 : Int32))) fun m5 => f_X3_takeWord_L0 K n m5

def f_X3_takeWord (F : Nat)   (m : MM) : Option MM := f_X3_takeWord_L0 (fun m1 => Lt (wI m1 36 3 (3 : Int32)) fun m6 => f_X3_takeWord_L46 F m6 (fun x1_7 => some m6) F (0 : Int32)) F m

def f_X3_isDigit  (a0 : Int32) (m : MM) : Option Int32 := if a0 < (48 : Int32) then some (0 : Int32) else if (57 : Int32) < a0 then some (0 : Int32) else some (1 : Int32)

def f_X3_takeNumber_L5  (K : MM → Option MM) : Nat → MM → Option MM
  | 0, _ => none
  | n + 1, m2 => if (rI m2 36 1) ≤ (rI m2 36 2) then K m2 else Gu (inB (rI m2 36 2) 160) <| bd1 (f_X3_isDigit (rI m2 37 (ix (rI m2 36 2))) m2) fun r4 => if r4 = 0 then K m2 else Gu (inB (rI m2 36 2) 160) <| Lt (wI m2 36 5 ((((rI m2 36 5) * (10 : Int32)) + (rI m2 37 (ix (rI m2 36 2)))) - (48 : Int32))) fun m6 => Lt (wI m6 36 2 ((rI m6 36 2) + (1 : Int32))) fun m7 => f_X3_takeNumber_L5 K n m7

def f_X3_takeNumber (F : Nat)   (m : MM) : Option MM := Lt (wI m 36 5 (0 : Int32)) fun m1 => f_X3_takeNumber_L5 (fun m2 => Jp (fun s8 => Lt (wI m2 36 3 s8) fun m10 => some m10) fun J9 => if (4 : Int32) < ((rI m2 36 2) - (rI m2 36 4)) then J9 (3 : Int32) else J9 (4 : Int32)) F m1

def f_J0_coder_7d493  (q : Nat) (m : MM) : Option Int32 := if (1 : Int32) = 0 then Gu (by8 (1 : Int32)) <| some (1 : Int32) else Gu (by8 (0 : Int32)) <| some (0 : Int32)

def f_J0_length_8abf5  (q : Nat) (m : MM) : Option Int32 := bd1 (f_J0_coder_7d493 q m) fun r1 => some (shrI (strL q) r1)

def f_J1_canEncode_9a6ad  (a0 : Int32) (m : MM) : Option Int32 := if a0 < 0 then some (0 : Int32) else if (255 : Int32) < a0 then some (0 : Int32) else some (1 : Int32)

def f_J1_indexOfChar_4cfef_L7 (q : Nat) (a3 : Int32) (x4_1 : Int32) (K : Int32 → Option Int32) : Nat → Int32 → Option Int32
  | 0, _ => none
  | n + 1, x5_2 => if a3 ≤ x5_2 then K x5_2 else Gu (inB x5_2 (stL.getD q 0)) <| if (strB q (ix x5_2)) = x4_1 then some x5_2 else Lt (x5_2 + (1 : Int32)) fun x5_4 => f_J1_indexOfChar_4cfef_L7 q a3 x4_1 K n x5_4

def f_J1_indexOfChar_4cfef (F : Nat)  (q : Nat) (a1 : Int32) (a2 : Int32) (a3 : Int32) (m : MM) : Option Int32 := Lt ((Int32.toInt8 a1).toInt32) fun x4_1 => f_J1_indexOfChar_4cfef_L7 q a3 x4_1 (fun x5_2 => some (-1 : Int32)) F a2

def f_J1_indexOf_4cfef (F : Nat)  (q : Nat) (a1 : Int32) (a2 : Int32) (a3 : Int32) (m : MM) : Option Int32 := bd1 (f_J1_canEncode_9a6ad a1 m) fun r1 => if r1 = 0 then some (-1 : Int32) else Lt (maxI a2 (0 : Int32)) fun x2_3 => Lt (minI a3 (strL q)) fun x3_4 => if x2_3 < x3_4 then bd1 (f_J1_indexOfChar_4cfef F q a1 x2_3 x3_4 m) fun r5 => some r5 else some (-1 : Int32)

def f_J0_indexOf_7cf53 (F : Nat)  (q : Nat) (a0 : Int32) (a1 : Int32) (m : MM) : Option Int32 := bd1 (f_J0_isLatin1_aae02 q m) fun r1 => if r1 = 0 then none else bd1 (f_J0_length_8abf5 q m) fun r3 => bd1 (f_J1_indexOf_4cfef F q a0 a1 r3 m) fun r5 => some r5

def f_J0_indexOf_0f7a4 (F : Nat)  (q : Nat) (a0 : Int32) (m : MM) : Option Int32 := bd1 (f_J0_indexOf_7cf53 F q a0 (0 : Int32) m) fun r1 => some r1

def f_X3_advance_L0  (K : MM → Option MM) : Nat → MM → Option MM
  | 0, _ => none
  | n + 1, m1 => if (rI m1 36 1) ≤ (rI m1 36 2) then K m1 else Gu (inB (rI m1 36 2) 160) <| Jp (Lt (wI m1 36 2 ((rI m1 36 2) + (1 : Int32))) fun m4 => f_X3_advance_L0 K n m4) fun J3 => if (rI m1 37 (ix (rI m1 36 2))) = (32 : Int32) then J3 else Gu (inB (rI m1 36 2) 160) <| if (rI m1 37 (ix (rI m1 36 2))) = (10 : Int32) then J3 else K m1

def f_X3_advance (F : Nat)   (m : MM) : Option MM := f_X3_advance_L0 (fun m1 => Lt (wI m1 36 4 (rI m1 36 2)) fun m5 => if (rI m5 36 2) < (rI m5 36 1) then Gu (inB (rI m5 36 2) 160) <| bd1 (f_X3_isLetter (rI m5 37 (ix (rI m5 36 2))) m5) fun r6 => if r6 = 0 then Gu (inB (rI m5 36 2) 160) <| bd1 (f_X3_isDigit (rI m5 37 (ix (rI m5 36 2))) m5) fun r8 => if r8 = 0 then Gu (inB (rI m5 36 2) 160) <| bd1 (f_J0_indexOf_0f7a4 F 1 (((Int32.toUInt32 (rI m5 37 (ix (rI m5 36 2)))) % 65536).toInt32) m5) fun r10 => Jp (fun s12 => Lt (wI m5 36 3 s12) fun m14 => Lt (wI m14 36 2 ((rI m14 36 2) + (1 : Int32))) fun m15 => some m15) fun J13 => if r10 < 0 then J13 (3 : Int32) else Gu (inB (rI m5 36 2) 160) <| J13 (rI m5 37 (ix (rI m5 36 2))) else bd1 (f_X3_takeNumber F m5) fun m17 => some m17 else bd1 (f_X3_takeWord F m5) fun m19 => some m19 else Lt (wI m5 36 3 (2 : Int32)) fun m20 => some m20) F m

def f_X4_begin  (k : Nat) (a0 : Int32) (m : MM) : Option MM := Gu (inB a0 4) <| Lt (wI m (k + 2) (ix a0) (rI m k 3)) fun m1 => some m1

def f_X4_add  (k : Nat) (a0 : Int32) (m : MM) : Option MM := if (160 : Int32) ≤ (rI m k 3) then some m else Lt (wI m k 3 ((rI m k 3) + (1 : Int32))) fun m1 => Gu (inB (rI m k 3) 160) <| Lt (wI m1 (k + 1) (ix (rI m k 3)) a0) fun m2 => some m2

def fb_X3_one (F : Nat) (rec0 : Int32 → Int32 → MM → Option (Int32 × MM)) (rec1 : Int32 → MM → Option (Int32 × MM)) (a0 : Int32) (m : MM) : Option (Int32 × MM) := Jp (Gu (isTxB (rI m 36 6)) <| Jp (fun s3 => bd1 (f_X4_add (ix (rI m 36 6)) s3 m) fun m6 => bd1 (f_X3_advance F m6) fun m8 => some ((1 : Int32), m8)) fun J4 => if (rI m 36 3) = (4 : Int32) then J4 (rI m 36 5) else J4 ((10000 : Int32) + (rI m 36 5))) fun J1 => if (rI m 36 3) = (4 : Int32) then J1 else if (rI m 36 3) = (5 : Int32) then J1 else Jp (if a0 < (5 : Int32) then Jp (fun s10 => bd1 (f_X3_advance F m) fun m13 => if s10 = 0 then bd2 (rec0 (0 : Int32) (a0 + (1 : Int32)) m13) fun r14 m16 => if r14 = 0 then some ((0 : Int32), m16) else if (rI m16 36 3) = (41 : Int32) then bd1 (f_X3_advance F m16) fun m18 => some ((1 : Int32), m18) else some ((0 : Int32), m16) else bd2 (rec1 (a0 + (1 : Int32)) m13) fun r19 m21 => if r19 = 0 then some ((0 : Int32), m21) else Gu (isTxB (rI m21 36 6)) <| bd1 (f_X4_add (ix (rI m21 36 6)) (20001 : Int32) m21) fun m24 => some ((1 : Int32), m24)) fun J11 => if (rI m 36 3) = (45 : Int32) then J11 (1 : Int32) else J11 (0 : Int32) else some ((0 : Int32), m)) fun J9 => if (rI m 36 3) = (45 : Int32) then J9 else if (rI m 36 3) = (40 : Int32) then J9 else some ((0 : Int32), m)

def f_X3_joins  (a0 : Int32) (m : MM) : Option Int32 := if a0 = (0 : Int32) then if (rI m 36 3) = (9 : Int32) then some (1 : Int32) else some (0 : Int32) else if a0 = (1 : Int32) then if (rI m 36 3) = (10 : Int32) then some (1 : Int32) else some (0 : Int32) else if a0 = (2 : Int32) then if (rI m 36 3) = (60 : Int32) then some (1 : Int32) else if (rI m 36 3) = (61 : Int32) then some (1 : Int32) else some (0 : Int32) else if a0 = (3 : Int32) then if (rI m 36 3) = (43 : Int32) then some (1 : Int32) else if (rI m 36 3) = (45 : Int32) then some (1 : Int32) else some (0 : Int32) else if a0 = (4 : Int32) then if (rI m 36 3) = (42 : Int32) then some (1 : Int32) else some (0 : Int32) else some (0 : Int32)

def f_X3_joined_L90 (F : Nat) (a0 : Int32) (a1 : Int32) (rec0 : Int32 → Int32 → MM → Option (Int32 × MM)) (s5 : Int32) (K : Int32 → MM → Option (Int32 × MM)) : Nat → Int32 → MM → Option (Int32 × MM)
  | 0, _, _ => none
  | n + 1, x4_7, m8 => if s5 ≤ x4_7 then K x4_7 m8 else bd1 (f_X3_joins a0 m8) fun r10 => if r10 = 0 then K x4_7 m8 else Lt (rI m8 36 3) fun x5_12 => bd1 (f_X3_advance F m8) fun m14 => bd2 (rec0 (a0 + (1 : Int32)) a1 m14) fun r15 m17 => if r15 = 0 then some ((0 : Int32), m17) else Gu (isTxB (rI m17 36 6)) <| bd1 (f_X4_add (ix (rI m17 36 6)) ((20000 : Int32) + x5_12) m17) fun m20 => Lt (x4_7 + (1 : Int32)) fun x4_21 => f_X3_joined_L90 F a0 a1 rec0 s5 K n x4_21 m20

def fb_X3_joined (F : Nat) (rec0 : Int32 → Int32 → MM → Option (Int32 × MM)) (rec1 : Int32 → MM → Option (Int32 × MM)) (a0 : Int32) (a1 : Int32) (m : MM) : Option (Int32 × MM) := if a0 < (5 : Int32) then Jp (bd2 (rec0 (a0 + (1 : Int32)) a1 m) fun r2 m4 => if r2 = 0 then some ((0 : Int32), m4) else Jp (fun s5 => f_X3_joined_L90 F a0 a1 rec0 s5 (fun x4_7 m8 => some ((1 : Int32), m8)) F (0 : Int32) m4) fun J6 => if a0 = (2 : Int32) then J6 (1 : Int32) else J6 (160 : Int32)) fun J1 => if a0 = (2 : Int32) then if (rI m 36 3) = (11 : Int32) then if a1 < (5 : Int32) then bd1 (f_X3_advance F m) fun m23 => bd2 (rec0 (2 : Int32) (a1 + (1 : Int32)) m23) fun r24 m26 => if r24 = 0 then some ((0 : Int32), m26) else Gu (isTxB (rI m26 36 6)) <| bd1 (f_X4_add (ix (rI m26 36 6)) (20011 : Int32) m26) fun m29 => some ((1 : Int32), m29) else some ((0 : Int32), m) else J1 else J1 else bd2 (rec1 a1 m) fun r30 m32 => Gu (bz r30) <| some (r30, m32)
def f_X3_joD (F : Nat) : Nat → Bool → Int32 → Int32 → MM → Option (Int32 × MM)
  | 0, _, _, _, _ => none
  | d + 1, true, a0, a1, m => fb_X3_joined F (fun a0 a1 m => f_X3_joD F d true a0 a1 m) (fun a0 m => f_X3_joD F d false 0 a0 m) a0 a1 m
  | d + 1, false, _, a0, m => fb_X3_one F (fun a0 a1 m => f_X3_joD F d true a0 a1 m) (fun a0 m => f_X3_joD F d false 0 a0 m) a0 m
def f_X3_joined (F : Nat) (a0 : Int32) (a1 : Int32) (m : MM) : Option (Int32 × MM) := f_X3_joD F 48 true a0 a1 m

def f_X3_read_L23 (F : Nat) (K : Int32 → MM → Option (Int32 × MM)) : Nat → Int32 → MM → Option (Int32 × MM)
  | 0, _, _ => none
  | n + 1, x2_8, m9 => if (3 : Int32) ≤ x2_8 then K x2_8 m9 else if (rI m9 36 3) = ((6 : Int32) + x2_8) then Gu (isTxB (rI m9 36 6)) <| bd1 (f_X4_begin (ix (rI m9 36 6)) x2_8 m9) fun m13 => bd1 (f_X3_advance F m13) fun m15 => bd2 (f_X3_joined F (0 : Int32) (0 : Int32) m15) fun r16 m18 => if r16 = 0 then some (rI m18 36 4, m18) else if (rI m18 36 3) = (59 : Int32) then bd1 (f_X3_advance F m18) fun m20 => Lt (x2_8 + (1 : Int32)) fun x2_21 => f_X3_read_L23 F K n x2_21 m20 else some (rI m18 36 4, m18) else some (rI m9 36 4, m9)

def f_X3_read (F : Nat)  (k : Nat) (m : MM) : Option (Int32 × MM) := Lt (wI m 36 6 (nI k)) fun m1 => Gu (isTxB (rI m1 36 6)) <| bd1 (f_X4_clear (ix (rI m1 36 6)) m1) fun m4 => Lt (wI m4 36 2 (0 : Int32)) fun m5 => bd1 (f_X3_advance F m5) fun m7 => f_X3_read_L23 F (fun x2_8 m9 => Gu (isTxB (rI m9 36 6)) <| bd1 (f_X4_begin (ix (rI m9 36 6)) (3 : Int32) m9) fun m24 => if (rI m24 36 3) = (2 : Int32) then some ((-1 : Int32), m24) else some (rI m24 36 4, m24)) F (0 : Int32) m7

def f_X3_clear   (m : MM) : Option MM := Lt (wI m 36 1 (0 : Int32)) fun m1 => some m1

def f_X5_text (F : Nat)   (m : MM) : Option (Int32 × MM) := if (rI m 0 8) < (6 : Int32) then Gu (inB (rI m 0 8) 6) <| bd2 (f_X3_read F (39 + 4 * ix (rI m 0 8)) m) fun r2 m4 => bd1 (f_X3_clear m4) fun m6 => if r2 = (-1 : Int32) then Lt (wI m6 0 8 ((rI m6 0 8) + (1 : Int32))) fun m7 => some (rI m6 0 8, m7) else some ((-100 : Int32) - r2, m6) else some ((-4 : Int32), m)

def f_X5_force  (a0 : Int32) (m : MM) : Option (Int32 × MM) := bd1 (f_X5_within a0 (rI m 0 8) m) fun r1 => if r1 = 0 then some ((-2 : Int32), m) else Lt (rI m 1 11) fun x2_3 => Lt (wI m 1 11 a0) fun m4 => some (x2_3, m4)

def f_X5_name  (a0 : Int32) (a1 : Int32) (a2 : Int32) (a3 : Int32) (a4 : Int32) (m : MM) : Option MM := Gu (inB (0 : Int32) 6) <| Lt (wI m 72 (ix (0 : Int32)) a0) fun m1 => Gu (inB (1 : Int32) 6) <| Lt (wI m1 72 (ix (1 : Int32)) a1) fun m2 => Gu (inB (2 : Int32) 6) <| Lt (wI m2 72 (ix (2 : Int32)) a2) fun m3 => Gu (inB (3 : Int32) 6) <| Lt (wI m3 72 (ix (3 : Int32)) a3) fun m4 => Gu (inB (4 : Int32) 6) <| Lt (wI m4 72 (ix (4 : Int32)) (rI m4 1 8)) fun m5 => Gu (inB (5 : Int32) 6) <| Lt (wI m5 72 (ix (5 : Int32)) a4) fun m6 => some m6

def f_X4_ofOne  (a0 : Int32) (a1 : Int32) (m : MM) : Option Int32 := if a0 = (1 : Int32) then some (-a1) else if a1 = 0 then some (1 : Int32) else some (0 : Int32)

def f_X4_ofTwo  (a0 : Int32) (a1 : Int32) (a2 : Int32) (m : MM) : Option Int32 := if a0 = (10 : Int32) then if a1 = 0 then some (0 : Int32) else if a2 = 0 then some (0 : Int32) else some (1 : Int32) else if a0 = (42 : Int32) then some (a1 * a2) else if a0 = (43 : Int32) then some (a1 + a2) else if a0 = (45 : Int32) then some (a1 - a2) else if a0 = (60 : Int32) then if a2 ≤ a1 then some (0 : Int32) else some (1 : Int32) else if a0 = (61 : Int32) then if a1 = a2 then some (1 : Int32) else some (0 : Int32) else if a1 = 0 then if a2 = 0 then some (0 : Int32) else some (1 : Int32) else some (1 : Int32)

def f_X4_tells_L10 (k : Nat) (a0 : Int32) (K : Int32 → Int32 → MM → Option (Int32 × MM)) : Nat → Int32 → Int32 → MM → Option (Int32 × MM)
  | 0, _, _, _ => none
  | n + 1, x3_2, x4_3, m4 => Gu (inB (a0 + (1 : Int32)) 4) <| if (rI m4 (k + 2) (ix (a0 + (1 : Int32)))) ≤ x4_3 then K x3_2 x4_3 m4 else Gu (inB x4_3 160) <| Lt (rI m4 (k + 1) (ix x4_3)) fun x5_6 => if (20000 : Int32) ≤ x5_6 then Jp (if (1 : Int32) ≤ x3_2 then Gu (inB (x3_2 - (1 : Int32)) 40) <| bd1 (f_X4_ofOne (x5_6 - (20000 : Int32)) (rI m4 (k + 3) (ix (x3_2 - (1 : Int32)))) m4) fun r8 => Gu (inB (x3_2 - (1 : Int32)) 40) <| Lt (wI m4 (k + 3) (ix (x3_2 - (1 : Int32))) r8) fun m10 => Lt (x4_3 + (1 : Int32)) fun x4_11 => f_X4_tells_L10 k a0 K n x3_2 x4_11 m10 else some ((0 : Int32), m4)) fun J7 => if x5_6 = (20001 : Int32) then J7 else if x5_6 = (20011 : Int32) then J7 else if (2 : Int32) ≤ x3_2 then Lt (x3_2 + (-1 : Int32)) fun x3_12 => Gu (inB (x3_12 - (1 : Int32)) 40) <| Gu (inB x3_12 40) <| bd1 (f_X4_ofTwo (x5_6 - (20000 : Int32)) (rI m4 (k + 3) (ix (x3_12 - (1 : Int32)))) (rI m4 (k + 3) (ix x3_12)) m4) fun r13 => Gu (inB (x3_12 - (1 : Int32)) 40) <| Lt (wI m4 (k + 3) (ix (x3_12 - (1 : Int32))) r13) fun m15 => Lt (x4_3 + (1 : Int32)) fun x4_16 => f_X4_tells_L10 k a0 K n x3_12 x4_16 m15 else some ((0 : Int32), m4) else if x3_2 < (40 : Int32) then Lt (x3_2 + (1 : Int32)) fun x3_17 => Jp (fun s18 => Gu (inB x3_2 40) <| Lt (wI m4 (k + 3) (ix x3_2) s18) fun m20 => Lt (x4_3 + (1 : Int32)) fun x4_21 => f_X4_tells_L10 k a0 K n x3_17 x4_21 m20) fun J19 => if (10000 : Int32) ≤ x5_6 then Gu (inB (x5_6 - (10000 : Int32)) 6) <| J19 (rI m4 72 (ix (x5_6 - (10000 : Int32)))) else J19 x5_6 else some ((0 : Int32), m4)

def f_X4_tells (F : Nat)  (k : Nat) (a0 : Int32) (m : MM) : Option (Int32 × MM) := Gu (inB a0 4) <| Lt (rI m (k + 2) (ix a0)) fun x4_1 => f_X4_tells_L10 k a0 (fun x3_2 x4_3 m4 => Gu (inB (0 : Int32) 40) <| some (rI m4 (k + 3) (ix (0 : Int32)), m4)) F (0 : Int32) x4_1 m

def f_X5_bounded  (a0 : Int32) (a1 : Int32) (m : MM) : Option Int32 := some (maxI (0 : Int32) (minI a0 a1))

def f_X5_costs (F : Nat)  (a0 : Int32) (a1 : Int32) (a2 : Int32) (m : MM) : Option (Int32 × MM) := Gu (inB a0 5) <| bd1 (f_X0_wet 1 a2 m) fun r1 => bd1 (f_X5_name (rI m 5 (ix a0)) a1 a2 a0 r1 m) fun m4 => Gu (inB (rI m4 1 11) 6) <| bd2 (f_X4_tells F (39 + 4 * ix (rI m4 1 11)) (0 : Int32) m4) fun r6 m8 => bd1 (f_X5_bounded r6 (99 : Int32) m8) fun r9 => some (r9, m8)

def f_X5_move (F : Nat)  (a0 : Int32) (a1 : Int32) (m : MM) : Option (Int32 × MM) := bd1 (f_X0_hasThing 1 a0 m) fun r1 => if r1 = 0 then some ((-2 : Int32), m) else bd1 (f_X0_hasHold 1 a1 m) fun r3 => if r3 = 0 then some ((-2 : Int32), m) else bd1 (f_X0_refusal F 1 a0 a1 m) fun r5 => if r5 = 0 then Gu (inB a0 5) <| bd2 (f_X5_costs F a0 (rI m 8 (ix a0)) a1 m) fun r7 m9 => Gu (inB a0 5) <| Lt (wI m9 8 (ix a0) a1) fun m10 => some (r7, m10) else some ((-3 : Int32), m)

def f_X5_why (F : Nat)  (a0 : Int32) (a1 : Int32) (m : MM) : Option Int32 := bd1 (f_X0_hasThing 1 a0 m) fun r1 => if r1 = 0 then some (-2 : Int32) else bd1 (f_X0_hasHold 1 a1 m) fun r3 => if r3 = 0 then some (-2 : Int32) else bd1 (f_X0_refusal F 1 a0 a1 m) fun r5 => some r5

def f_X0_freeHands_L43 (k : Nat) (m : MM) (x1_1 : Int32) (K : Int32 → Int32 → Option Int32) : Nat → Int32 → Int32 → Option Int32
  | 0, _, _ => none
  | n + 1, x2_7, x3_8 => if (rI m k 7) ≤ x3_8 then K x2_7 x3_8 else Gu (inB x3_8 5) <| Gu (inB (rI m (k + 1) (ix x3_8)) 6) <| if (stT 3 (ix (rI m (k + 1) (ix x3_8)))) = (1 : Int32) then if ((shrI x1_1 x3_8) &&& (1 : Int32)) = 0 then Lt (x2_7 + (1 : Int32)) fun x2_10 => Lt (x3_8 + (1 : Int32)) fun x3_11 => f_X0_freeHands_L43 k m x1_1 K n x2_10 x3_11 else Lt (x3_8 + (1 : Int32)) fun x3_12 => f_X0_freeHands_L43 k m x1_1 K n x2_7 x3_12 else Lt (x3_8 + (1 : Int32)) fun x3_13 => f_X0_freeHands_L43 k m x1_1 K n x2_7 x3_13

def f_X0_freeHands_L4 (k : Nat) (m : MM) (K : Int32 → Int32 → Option Int32) : Nat → Int32 → Int32 → Option Int32
  | 0, _, _ => none
  | n + 1, x1_1, x2_2 => if (rI m k 8) ≤ x2_2 then K x1_1 x2_2 else Gu (inB x2_2 5) <| if (rI m (k + 7) (ix x2_2)) = (-1 : Int32) then Lt (x2_2 + (1 : Int32)) fun x2_4 => f_X0_freeHands_L4 k m K n x1_1 x2_4 else Gu (inB x2_2 5) <| Lt (x1_1 ||| (shlI (1 : Int32) (rI m (k + 7) (ix x2_2)))) fun x1_5 => Lt (x2_2 + (1 : Int32)) fun x2_6 => f_X0_freeHands_L4 k m K n x1_5 x2_6

def f_X0_freeHands (F : Nat)  (k : Nat) (m : MM) : Option Int32 := f_X0_freeHands_L4 k m (fun x1_1 x2_2 => f_X0_freeHands_L43 k m x1_1 (fun x2_7 x3_8 => some x2_7) F (0 : Int32) (0 : Int32)) F (0 : Int32) (0 : Int32)

def f_X0_isOpen (F : Nat)  (k : Nat) (m : MM) : Option Int32 := if (rI m k 9) = (-1 : Int32) then some (0 : Int32) else Gu (inB (rI m k 9) 5) <| if (rI m (k + 7) (ix (rI m k 9))) = (-1 : Int32) then some (0 : Int32) else Gu (inB (rI m k 9) 5) <| Gu (inB (rI m (k + 7) (ix (rI m k 9))) 5) <| Gu (inB (rI m (k + 1) (ix (rI m (k + 7) (ix (rI m k 9))))) 6) <| if (stT 3 (ix (rI m (k + 1) (ix (rI m (k + 7) (ix (rI m k 9))))))) = (1 : Int32) then bd1 (f_X0_freeHands F k m) fun r1 => if r1 < (rI m k 10) then some (0 : Int32) else some (1 : Int32) else some (0 : Int32)

def f_X0_movesThatCanBe_L14 (F : Nat) (k : Nat) (m : MM) (x2_2 : Int32) (K : Int32 → Int32 → Option Int32) : Nat → Int32 → Int32 → Option Int32
  | 0, _, _ => none
  | n + 1, x1_4, x3_5 => if (rI m k 7) ≤ x3_5 then K x1_4 x3_5 else bd1 (f_X0_refusal F k x2_2 x3_5 m) fun r7 => if r7 = 0 then Lt (x1_4 + (1 : Int32)) fun x1_9 => Lt (x3_5 + (1 : Int32)) fun x3_10 => f_X0_movesThatCanBe_L14 F k m x2_2 K n x1_9 x3_10 else Lt (x3_5 + (1 : Int32)) fun x3_11 => f_X0_movesThatCanBe_L14 F k m x2_2 K n x1_4 x3_11

def f_X0_movesThatCanBe_L4 (F : Nat) (k : Nat) (m : MM) (K : Int32 → Int32 → Option Int32) : Nat → Int32 → Int32 → Option Int32
  | 0, _, _ => none
  | n + 1, x1_1, x2_2 => if (rI m k 8) ≤ x2_2 then K x1_1 x2_2 else f_X0_movesThatCanBe_L14 F k m x2_2 (fun x1_4 x3_5 => Lt (x2_2 + (1 : Int32)) fun x2_12 => f_X0_movesThatCanBe_L4 F k m K n x1_4 x2_12) F x1_1 (0 : Int32)

def f_X0_movesThatCanBe (F : Nat)  (k : Nat) (m : MM) : Option Int32 := f_X0_movesThatCanBe_L4 F k m (fun x1_1 x2_2 => some x1_1) F (0 : Int32) (0 : Int32)

def f_X5_open (F : Nat)  (a0 : Int32) (m : MM) : Option Int32 := if a0 = (0 : Int32) then bd1 (f_X0_isOpen F 1 m) fun r2 => if r2 = 0 then some (0 : Int32) else some (1 : Int32) else if a0 = (1 : Int32) then bd1 (f_X0_freeHands F 1 m) fun r5 => some r5 else if a0 = (2 : Int32) then bd1 (f_X0_movesThatCanBe F 1 m) fun r8 => some r8 else some (-2 : Int32)

def f_X5_bell (F : Nat)   (m : MM) : Option (Int32 × MM) := bd1 (f_X5_name (0 : Int32) (0 : Int32) (0 : Int32) (0 : Int32) (0 : Int32) m) fun m2 => Gu (inB (rI m2 1 11) 6) <| bd2 (f_X4_tells F (39 + 4 * ix (rI m2 1 11)) (1 : Int32) m2) fun r4 m6 => bd1 (f_X5_bounded r4 (9999 : Int32) m6) fun r7 => some (r7, m6)

def f_X5_worth (F : Nat)  (a0 : Int32) (m : MM) : Option (Int32 × MM) := Gu (inB a0 5) <| Gu (inB a0 5) <| bd1 (f_X5_name (rI m 5 (ix a0)) (rI m 8 (ix a0)) (0 : Int32) a0 (0 : Int32) m) fun m2 => Gu (inB (rI m2 1 11) 6) <| bd2 (f_X4_tells F (39 + 4 * ix (rI m2 1 11)) (2 : Int32) m2) fun r4 m6 => bd1 (f_X5_bounded r4 (999 : Int32) m6) fun r7 => some (r7, m6)

def f_X5_asks (F : Nat)  (a0 : Int32) (a1 : Int32) (a2 : Int32) (m : MM) : Option (Int32 × MM) := Jp (if a0 = (1 : Int32) then bd2 (f_X5_bell F m) fun r2 m4 => some (r2, m4) else if a0 = (2 : Int32) then bd1 (f_X0_hasThing 1 a1 m) fun r5 => if r5 = 0 then some ((-1 : Int32), m) else bd2 (f_X5_worth F a1 m) fun r7 m9 => some (r7, m9) else some ((-1 : Int32), m)) fun J1 => if a0 = 0 then bd1 (f_X0_hasThing 1 a1 m) fun r10 => if r10 = 0 then J1 else bd1 (f_X0_hasHold 1 a2 m) fun r12 => if r12 = 0 then J1 else Gu (inB a1 5) <| bd2 (f_X5_costs F a1 (rI m 8 (ix a1)) a2 m) fun r14 m16 => some (r14, m16) else J1

def f_X0_become  (k : Nat) (k2 : Nat) (m : MM) : Option MM := Gu (cpyOk (0 : Int32) (0 : Int32) (5 : Int32) 5 5) <| Lt (cpy m (k2 + 1) (0 : Int32) (k + 1) (0 : Int32) (5 : Int32)) fun m1 => Gu (cpyOk (0 : Int32) (0 : Int32) (5 : Int32) 5 5) <| Lt (cpy m1 (k2 + 2) (0 : Int32) (k + 2) (0 : Int32) (5 : Int32)) fun m2 => Gu (cpyOk (0 : Int32) (0 : Int32) (5 : Int32) 5 5) <| Lt (cpy m2 (k2 + 3) (0 : Int32) (k + 3) (0 : Int32) (5 : Int32)) fun m3 => Gu (cpyOk (0 : Int32) (0 : Int32) (5 : Int32) 5 5) <| Lt (cpy m3 (k2 + 4) (0 : Int32) (k + 4) (0 : Int32) (5 : Int32)) fun m4 => Gu (cpyOk (0 : Int32) (0 : Int32) (5 : Int32) 5 5) <| Lt (cpy m4 (k2 + 5) (0 : Int32) (k + 5) (0 : Int32) (5 : Int32)) fun m5 => Gu (cpyOk (0 : Int32) (0 : Int32) (5 : Int32) 5 5) <| Lt (cpy m5 (k2 + 6) (0 : Int32) (k + 6) (0 : Int32) (5 : Int32)) fun m6 => Gu (cpyOk (0 : Int32) (0 : Int32) (5 : Int32) 5 5) <| Lt (cpy m6 (k2 + 7) (0 : Int32) (k + 7) (0 : Int32) (5 : Int32)) fun m7 => Lt (wI m7 k 7 (rI m7 k2 7)) fun m8 => Lt (wI m8 k 8 (rI m8 k2 8)) fun m9 => Lt (wI m9 k 9 (rI m9 k2 9)) fun m10 => Lt (wI m10 k 10 (rI m10 k2 10)) fun m11 => Lt (wI m11 k 11 (rI m11 k2 11)) fun m12 => Lt (wI m12 k 12 (-1 : Int32)) fun m13 => some m13

def f_X1_lay_L55 (F : Nat) (a0 : Int32) (a1 : Int32) (rec0 : Int32 → Int32 → MM → Option MM) (K : Int32 → MM → Option MM) : Nat → Int32 → MM → Option MM
  | 0, _, _ => none
  | n + 1, x3_3, m4 => Gu (rI m4 25 10 == 17) <| if (rI m4 17 7) ≤ x3_3 then K x3_3 m4 else Gu (rI m4 25 10 == 17) <| bd1 (f_X0_refusal F 17 a0 x3_3 m4) fun r6 => if r6 = 0 then Gu (rI m4 25 10 == 17) <| Gu (inB a0 5) <| Lt (wI m4 24 (ix a0) x3_3) fun m8 => Gu (inB a0 5) <| bd1 (rec0 (a0 + (1 : Int32)) (a1 + (x3_3 * (rI m8 32 (ix a0)))) m8) fun m10 => Gu (rI m10 25 10 == 17) <| Gu (inB a0 5) <| Lt (wI m10 24 (ix a0) (-1 : Int32)) fun m11 => Lt (x3_3 + (1 : Int32)) fun x3_12 => f_X1_lay_L55 F a0 a1 rec0 K n x3_12 m11 else Lt (x3_3 + (1 : Int32)) fun x3_13 => f_X1_lay_L55 F a0 a1 rec0 K n x3_13 m4

def fb_X1_lay (F : Nat) (rec0 : Int32 → Int32 → MM → Option MM) (a0 : Int32) (a1 : Int32) (m : MM) : Option MM := Gu (rI m 25 10 == 17) <| if a0 < (rI m 17 8) then Gu (rI m 25 10 == 17) <| if a0 = (rI m 17 12) then bd1 (rec0 (a0 + (1 : Int32)) a1 m) fun m2 => some m2 else f_X1_lay_L55 F a0 a1 rec0 (fun x3_3 m4 => some m4) F (0 : Int32) m else Gu (rI m 25 10 == 17) <| bd1 (f_X0_isOpen F 17 m) fun r14 => Jp (fun s16 => Gu (inB a1 3125) <| Lt (wI m 26 (ix a1) s16) fun m18 => some m18) fun J17 => if r14 = 0 then J17 (1 : Int32) else J17 (2 : Int32)
def f_X1_layD (F : Nat) : Nat → Int32 → Int32 → MM → Option MM
  | 0, _, _, _ => none
  | d + 1, a0, a1, m => fb_X1_lay F (f_X1_layD F d) a0 a1 m
def f_X1_lay (F : Nat) (a0 : Int32) (a1 : Int32) (m : MM) : Option MM := f_X1_layD F 8 a0 a1 m

def f_X1_split_L4  (K : Int32 → Int32 → MM → Option MM) : Nat → Int32 → Int32 → MM → Option MM
  | 0, _, _, _ => none
  | n + 1, x2_1, x3_2, m3 => Gu (rI m3 25 10 == 17) <| if (rI m3 17 8) ≤ x3_2 then K x2_1 x3_2 m3 else Gu (rI m3 25 10 == 17) <| if (rI m3 17 7) ≤ 0 then K x2_1 x3_2 m3 else Gu (rI m3 25 10 == 17) <| Gu (nz (rI m3 17 7)) <| Gu (inB x3_2 5) <| Lt (wI m3 33 (ix x3_2) (remI x2_1 (rI m3 17 7))) fun m5 => Gu (rI m5 25 10 == 17) <| Gu (nz (rI m5 17 7)) <| Lt (x2_1 / (rI m5 17 7)) fun x2_6 => Lt (x3_2 + (1 : Int32)) fun x3_7 => f_X1_split_L4 K n x2_6 x3_7 m5

def f_X1_split (F : Nat)  (a0 : Int32) (m : MM) : Option MM := f_X1_split_L4 (fun x2_1 x3_2 m3 => some m3) F a0 (0 : Int32) m

def f_X1_look_L145  (K : Int32 → MM → Option MM) : Nat → Int32 → MM → Option MM
  | 0, _, _ => none
  | n + 1, x2_23, m24 => Gu (rI m24 25 10 == 17) <| if (rI m24 17 8) ≤ x2_23 then K x2_23 m24 else Gu (rI m24 25 10 == 17) <| Gu (rI m24 25 10 == 17) <| Jp (fun s26 => Gu (inB x2_23 5) <| Lt (wI m24 24 (ix x2_23) s26) fun m28 => Lt (x2_23 + (1 : Int32)) fun x2_29 => f_X1_look_L145 K n x2_29 m28) fun J27 => if x2_23 = (rI m24 17 12) then J27 (-1 : Int32) else Gu (inB x2_23 5) <| J27 (rI m24 33 (ix x2_23))

def f_X1_look_L108  (K : Int32 → MM → Option MM) : Nat → Int32 → MM → Option MM
  | 0, _, _ => none
  | n + 1, x2_14, m15 => if (rI m15 25 11) ≤ x2_14 then K x2_14 m15 else Gu (inB x2_14 3125) <| Lt (wI m15 26 (ix x2_14) (0 : Int32)) fun m17 => Lt (x2_14 + (1 : Int32)) fun x2_18 => f_X1_look_L108 K n x2_18 m17

def f_X1_look_L17  (K : Int32 → MM → Option MM) : Nat → Int32 → MM → Option MM
  | 0, _, _ => none
  | n + 1, x2_4, m5 => Gu (rI m5 25 10 == 17) <| if (rI m5 17 8) ≤ x2_4 then K x2_4 m5 else Gu (inB x2_4 5) <| Lt (wI m5 32 (ix x2_4) (rI m5 25 11)) fun m7 => Gu (rI m7 25 10 == 17) <| Lt (wI m7 25 11 ((rI m7 25 11) * (rI m7 17 7))) fun m8 => Gu (rI m8 25 10 == 17) <| Jp (fun m9 => Gu (rI m9 25 10 == 17) <| Gu (inB x2_4 5) <| Lt (wI m9 24 (ix x2_4) (-1 : Int32)) fun m11 => Lt (x2_4 + (1 : Int32)) fun x2_12 => f_X1_look_L17 K n x2_12 m11) fun J10 => if x2_4 = (rI m8 17 12) then J10 m8 else Gu (rI m8 25 10 == 17) <| Gu (inB x2_4 5) <| Gu (inB x2_4 5) <| Lt (wI m8 25 12 ((rI m8 25 12) + ((rI m8 24 (ix x2_4)) * (rI m8 32 (ix x2_4))))) fun m13 => J10 m13

def f_X1_look (F : Nat)   (m : MM) : Option MM := Lt (wI m 25 10 17) fun m1 => Lt (wI m1 25 11 (1 : Int32)) fun m2 => Lt (wI m2 25 12 (0 : Int32)) fun m3 => f_X1_look_L17 (fun x2_4 m5 => f_X1_look_L108 (fun x2_14 m15 => bd1 (f_X1_lay F (0 : Int32) (0 : Int32) m15) fun m20 => bd1 (f_X1_split F (rI m20 25 12) m20) fun m22 => f_X1_look_L145 (fun x2_23 m24 => some m24) F (0 : Int32) m22) F (0 : Int32) m5) F (0 : Int32) m3

def f_X5_think (F : Nat)  (a0 : Int32) (a1 : Int32) (m : MM) : Option MM := bd1 (f_X0_become 17 1 m) fun m2 => Lt (wI m2 17 12 a0) fun m3 => Jp (fun m4 => bd1 (f_X1_look F m4) fun m7 => some m7) fun J5 => if a1 = (-1 : Int32) then J5 m3 else Gu (inB a1 5) <| Gu (inB a1 5) <| Lt (wI m3 20 (ix a1) ((rI m3 20 (ix a1)) + (1 : Int32))) fun m8 => J5 m8

def f_X1_countMoves_L2  (K : Int32 → MM → Option MM) : Nat → Int32 → MM → Option MM
  | 0, _, _ => none
  | n + 1, x1_1, m2 => if (125 : Int32) ≤ x1_1 then K x1_1 m2 else Gu (inB x1_1 125) <| Lt (wI m2 31 (ix x1_1) (1 : Int32)) fun m4 => Lt (x1_1 + (1 : Int32)) fun x1_5 => f_X1_countMoves_L2 K n x1_5 m4

def f_X1_countMoves (F : Nat)   (m : MM) : Option MM := f_X1_countMoves_L2 (fun x1_1 m2 => some m2) F (0 : Int32) m

def f_X1_clearTurns_L30  (K : Int32 → MM → Option MM) : Nat → Int32 → MM → Option MM
  | 0, _, _ => none
  | n + 1, x1_7, m8 => if (100 : Int32) ≤ x1_7 then K x1_7 m8 else Gu (inB x1_7 100) <| Lt (wI m8 30 (ix x1_7) (-1 : Int32)) fun m10 => Lt (x1_7 + (1 : Int32)) fun x1_11 => f_X1_clearTurns_L30 K n x1_11 m10

def f_X1_clearTurns_L7  (K : Int32 → MM → Option MM) : Nat → Int32 → MM → Option MM
  | 0, _, _ => none
  | n + 1, x1_2, m3 => if (rI m3 25 11) ≤ x1_2 then K x1_2 m3 else Gu (inB x1_2 3125) <| Lt (wI m3 27 (ix x1_2) (-1 : Int32)) fun m5 => Lt (x1_2 + (1 : Int32)) fun x1_6 => f_X1_clearTurns_L7 K n x1_6 m5

def f_X1_clearTurns (F : Nat)   (m : MM) : Option MM := Lt (wI m 25 13 (0 : Int32)) fun m1 => f_X1_clearTurns_L7 (fun x1_2 m3 => f_X1_clearTurns_L30 (fun x1_7 m8 => some m8) F (0 : Int32) m3) F (0 : Int32) m1

def f_X1_enterTurn  (a0 : Int32) (a1 : Int32) (m : MM) : Option MM := Gu (nz (100 : Int32)) <| Lt (remI a1 (100 : Int32)) fun x3_1 => Gu (inB x3_1 100) <| Lt (rI m 30 (ix x3_1)) fun x4_2 => Gu (inB a0 3125) <| Lt (wI m 27 (ix a0) a1) fun m3 => Gu (inB a0 3125) <| Lt (wI m3 28 (ix a0) x4_2) fun m4 => Gu (inB a0 3125) <| Lt (wI m4 29 (ix a0) (-1 : Int32)) fun m5 => Jp (fun m6 => Gu (inB x3_1 100) <| Lt (wI m6 30 (ix x3_1) a0) fun m8 => Lt (wI m8 25 13 ((rI m8 25 13) + (1 : Int32))) fun m9 => some m9) fun J7 => if x4_2 = (-1 : Int32) then J7 m5 else Gu (inB x4_2 3125) <| Lt (wI m5 29 (ix x4_2) a0) fun m10 => J7 m10

def f_X1_leaveTurn  (a0 : Int32) (m : MM) : Option MM := Gu (inB a0 3125) <| Jp (fun m1 => Gu (inB a0 3125) <| Jp (fun m3 => Lt (wI m3 25 13 ((rI m3 25 13) - (1 : Int32))) fun m5 => some m5) fun J4 => if (rI m1 28 (ix a0)) = (-1 : Int32) then J4 m1 else Gu (inB a0 3125) <| Gu (inB a0 3125) <| Gu (inB (rI m1 28 (ix a0)) 3125) <| Lt (wI m1 29 (ix (rI m1 28 (ix a0))) (rI m1 29 (ix a0))) fun m6 => J4 m6) fun J2 => if (rI m 29 (ix a0)) = (-1 : Int32) then Gu (inB a0 3125) <| Gu (nz (100 : Int32)) <| Gu (inB a0 3125) <| Gu (inB (remI (rI m 27 (ix a0)) (100 : Int32)) 100) <| Lt (wI m 30 (ix (remI (rI m 27 (ix a0)) (100 : Int32))) (rI m 28 (ix a0))) fun m7 => J2 m7 else Gu (inB a0 3125) <| Gu (inB a0 3125) <| Gu (inB (rI m 29 (ix a0)) 3125) <| Lt (wI m 28 (ix (rI m 29 (ix a0))) (rI m 28 (ix a0))) fun m8 => J2 m8

def f_X1_placeOf  (a0 : Int32) (a1 : Int32) (a2 : Int32) (m : MM) : Option Int32 := some ((((a0 * (5 : Int32)) + a1) * (5 : Int32)) + a2)

def f_X1_lookAround_L44 (x3_4 : Int32) (x4_7 : Int32) (K : Int32 → Int32 → Int32 → MM → Option (Int32 × MM)) : Nat → Int32 → Int32 → Int32 → MM → Option (Int32 × MM)
  | 0, _, _, _, _ => none
  | n + 1, x2_9, x5_10, x6_11, m12 => Gu (rI m12 25 10 == 17) <| if (rI m12 17 7) ≤ x6_11 then K x2_9 x5_10 x6_11 m12 else Jp (fun x2_14 m15 => Gu (inB x3_4 5) <| Lt (x5_10 + (rI m15 32 (ix x3_4))) fun x5_17 => Lt (x6_11 + (1 : Int32)) fun x6_18 => f_X1_lookAround_L44 x3_4 x4_7 K n x2_14 x5_17 x6_18 m15) fun J16 => if x6_11 = x4_7 then J16 x2_9 m12 else Gu (inB x5_10 3125) <| if (rI m12 26 (ix x5_10)) = 0 then J16 x2_9 m12 else Gu (inB x2_9 25) <| Lt (wI m12 34 (ix x2_9) x5_10) fun m19 => bd1 (f_X1_placeOf x3_4 x6_11 x4_7 m19) fun r20 => Gu (inB x2_9 25) <| Lt (wI m19 35 (ix x2_9) r20) fun m22 => Lt (x2_9 + (1 : Int32)) fun x2_23 => J16 x2_23 m22

def f_X1_lookAround_L9 (F : Nat) (a0 : Int32) (K : Int32 → Int32 → MM → Option (Int32 × MM)) : Nat → Int32 → Int32 → MM → Option (Int32 × MM)
  | 0, _, _, _ => none
  | n + 1, x2_3, x3_4, m5 => Gu (rI m5 25 10 == 17) <| if (rI m5 17 8) ≤ x3_4 then K x2_3 x3_4 m5 else Gu (inB x3_4 5) <| Lt (rI m5 33 (ix x3_4)) fun x4_7 => Gu (inB x3_4 5) <| Lt (a0 - (x4_7 * (rI m5 32 (ix x3_4)))) fun x5_8 => f_X1_lookAround_L44 x3_4 x4_7 (fun x2_9 x5_10 x6_11 m12 => Lt (x3_4 + (1 : Int32)) fun x3_24 => f_X1_lookAround_L9 F a0 K n x2_9 x3_24 m12) F x2_3 x5_8 (0 : Int32) m5

def f_X1_lookAround (F : Nat)  (a0 : Int32) (m : MM) : Option (Int32 × MM) := bd1 (f_X1_split F a0 m) fun m2 => f_X1_lookAround_L9 F a0 (fun x2_3 x3_4 m5 => some (x2_3, m5)) F (0 : Int32) (0 : Int32) m2

def f_X1_spreadOnce_L9 (a1 : Int32) (r1 : Int32) (K : Int32 → MM → Option MM) : Nat → Int32 → MM → Option MM
  | 0, _, _ => none
  | n + 1, x4_4, m5 => if r1 ≤ x4_4 then K x4_4 m5 else Gu (inB x4_4 25) <| Lt (rI m5 34 (ix x4_4)) fun x5_7 => Gu (inB x4_4 25) <| Gu (inB (rI m5 35 (ix x4_4)) 125) <| Lt (a1 + (rI m5 31 (ix (rI m5 35 (ix x4_4))))) fun x6_8 => Gu (inB x5_7 3125) <| if (rI m5 27 (ix x5_7)) = (-1 : Int32) then bd1 (f_X1_enterTurn x5_7 x6_8 m5) fun m10 => Lt (x4_4 + (1 : Int32)) fun x4_11 => f_X1_spreadOnce_L9 a1 r1 K n x4_11 m10 else Gu (inB x5_7 3125) <| if (rI m5 27 (ix x5_7)) ≤ x6_8 then Lt (x4_4 + (1 : Int32)) fun x4_12 => f_X1_spreadOnce_L9 a1 r1 K n x4_12 m5 else bd1 (f_X1_leaveTurn x5_7 m5) fun m14 => bd1 (f_X1_enterTurn x5_7 x6_8 m14) fun m16 => Lt (x4_4 + (1 : Int32)) fun x4_17 => f_X1_spreadOnce_L9 a1 r1 K n x4_17 m16

def f_X1_spreadOnce (F : Nat)  (a0 : Int32) (a1 : Int32) (m : MM) : Option MM := bd2 (f_X1_lookAround F a0 m) fun r1 m3 => f_X1_spreadOnce_L9 a1 r1 (fun x4_4 m5 => some m5) F (0 : Int32) m3

def f_X1_spread_L57 (F : Nat) (x2_1 : Int32) (K : Int32 → MM → Option (Int32 × MM)) : Nat → Int32 → MM → Option (Int32 × MM)
  | 0, _, _ => none
  | n + 1, x3_5, m6 => if (rI m6 25 11) ≤ x3_5 then K x3_5 m6 else Gu (nz (100 : Int32)) <| Gu (inB (remI x2_1 (100 : Int32)) 100) <| if (rI m6 30 (ix (remI x2_1 (100 : Int32)))) = (-1 : Int32) then K x3_5 m6 else Gu (nz (100 : Int32)) <| Gu (inB (remI x2_1 (100 : Int32)) 100) <| Lt (rI m6 30 (ix (remI x2_1 (100 : Int32)))) fun x4_8 => bd1 (f_X1_leaveTurn x4_8 m6) fun m10 => bd1 (f_X1_spreadOnce F x4_8 x2_1 m10) fun m12 => Lt (x3_5 + (1 : Int32)) fun x3_13 => f_X1_spread_L57 F x2_1 K n x3_13 m12

def f_X1_spread_L2 (F : Nat) (a0 : Int32) (K : Int32 → MM → Option (Int32 × MM)) : Nat → Int32 → MM → Option (Int32 × MM)
  | 0, _, _ => none
  | n + 1, x2_1, m2 => if (309375 : Int32) < x2_1 then K x2_1 m2 else if (rI m2 25 13) ≤ 0 then K x2_1 m2 else Jp (f_X1_spread_L57 F x2_1 (fun x3_5 m6 => Lt (x2_1 + (1 : Int32)) fun x2_14 => f_X1_spread_L2 F a0 K n x2_14 m6) F (0 : Int32) m2) fun J4 => if a0 = 0 then Gu (inB (rI m2 25 12) 3125) <| if (rI m2 27 (ix (rI m2 25 12))) = (-1 : Int32) then J4 else Gu (inB (rI m2 25 12) 3125) <| if x2_1 ≤ (rI m2 27 (ix (rI m2 25 12))) then J4 else Gu (inB (rI m2 25 12) 3125) <| some (rI m2 27 (ix (rI m2 25 12)), m2) else J4

def f_X1_spread (F : Nat)  (a0 : Int32) (m : MM) : Option (Int32 × MM) := f_X1_spread_L2 F a0 (fun x2_1 m2 => Gu (inB (rI m2 25 12) 3125) <| some (rI m2 27 (ix (rI m2 25 12)), m2)) F (0 : Int32) m

def f_X1_spreadFromOpen_L6  (K : Int32 → MM → Option (Int32 × MM)) : Nat → Int32 → MM → Option (Int32 × MM)
  | 0, _, _ => none
  | n + 1, x2_3, m4 => if (rI m4 25 11) ≤ x2_3 then K x2_3 m4 else Gu (inB x2_3 3125) <| if (rI m4 26 (ix x2_3)) = (2 : Int32) then bd1 (f_X1_enterTurn x2_3 (0 : Int32) m4) fun m7 => Lt (x2_3 + (1 : Int32)) fun x2_8 => f_X1_spreadFromOpen_L6 K n x2_8 m7 else Lt (x2_3 + (1 : Int32)) fun x2_9 => f_X1_spreadFromOpen_L6 K n x2_9 m4

def f_X1_spreadFromOpen (F : Nat)  (a0 : Int32) (m : MM) : Option (Int32 × MM) := bd1 (f_X1_clearTurns F m) fun m2 => f_X1_spreadFromOpen_L6 (fun x2_3 m4 => bd2 (f_X1_spread F a0 m4) fun r10 m12 => some (r10, m12)) F (0 : Int32) m2

def f_X5_fewest (F : Nat)  (a0 : Int32) (m : MM) : Option (Int32 × MM) := bd1 (f_X5_think F (-1 : Int32) (-1 : Int32) m) fun m2 => bd1 (f_X1_countMoves F m2) fun m4 => bd2 (f_X1_spreadFromOpen F a0 m4) fun r5 m7 => some (r5, m7)

def f_X1_firstBest_L53 (m : MM) (x1_1 : Int32) (x2_3 : Int32) (K : Int32 → Option Int32) : Nat → Int32 → Option Int32
  | 0, _ => none
  | n + 1, x3_4 => Gu (rI m 25 10 == 17) <| if (rI m 17 7) ≤ x3_4 then K x3_4 else Gu (inB x1_1 5) <| Lt ((rI m 25 12) + ((x3_4 - x2_3) * (rI m 32 (ix x1_1)))) fun x4_6 => Gu (inB x4_6 3125) <| if (rI m 26 (ix x4_6)) = 0 then Lt (x3_4 + (1 : Int32)) fun x3_7 => f_X1_firstBest_L53 m x1_1 x2_3 K n x3_7 else if x4_6 = (rI m 25 12) then Lt (x3_4 + (1 : Int32)) fun x3_8 => f_X1_firstBest_L53 m x1_1 x2_3 K n x3_8 else Gu (inB x4_6 3125) <| if (rI m 27 (ix x4_6)) = (-1 : Int32) then Lt (x3_4 + (1 : Int32)) fun x3_9 => f_X1_firstBest_L53 m x1_1 x2_3 K n x3_9 else Gu (inB (rI m 25 12) 3125) <| Gu (inB x4_6 3125) <| bd1 (f_X1_placeOf x1_1 x2_3 x3_4 m) fun r10 => Gu (inB r10 125) <| if ((rI m 27 (ix (rI m 25 12))) - (rI m 27 (ix x4_6))) = (rI m 31 (ix r10)) then some (((10 : Int32) * x1_1) + x3_4) else Lt (x3_4 + (1 : Int32)) fun x3_12 => f_X1_firstBest_L53 m x1_1 x2_3 K n x3_12

def f_X1_firstBest_L30 (F : Nat) (m : MM) (K : Int32 → Option Int32) : Nat → Int32 → Option Int32
  | 0, _ => none
  | n + 1, x1_1 => Gu (rI m 25 10 == 17) <| if (rI m 17 8) ≤ x1_1 then K x1_1 else Gu (rI m 25 10 == 17) <| Gu (inB x1_1 5) <| Lt (rI m 24 (ix x1_1)) fun x2_3 => f_X1_firstBest_L53 m x1_1 x2_3 (fun x3_4 => Lt (x1_1 + (1 : Int32)) fun x1_13 => f_X1_firstBest_L30 F m K n x1_13) F (0 : Int32)

def f_X1_firstBest (F : Nat)   (m : MM) : Option Int32 := Gu (inB (rI m 25 12) 3125) <| if (rI m 26 (ix (rI m 25 12))) = (2 : Int32) then some (-1 : Int32) else Gu (inB (rI m 25 12) 3125) <| if (rI m 27 (ix (rI m 25 12))) = (-1 : Int32) then some (-1 : Int32) else f_X1_firstBest_L30 F m (fun x1_1 => some (-1 : Int32)) F (0 : Int32)

def f_X1_price  (a0 : Int32) (a1 : Int32) (a2 : Int32) (a3 : Int32) (m : MM) : Option MM := bd1 (f_X1_placeOf a0 a1 a2 m) fun r1 => Gu (inB r1 125) <| Lt (wI m 31 (ix r1) a3) fun m3 => some m3

def f_X5_countCosts_L28 (F : Nat) (x1_1 : Int32) (x2_4 : Int32) (K : Int32 → MM → Option MM) : Nat → Int32 → MM → Option MM
  | 0, _, _ => none
  | n + 1, x3_7, m8 => if (rI m8 1 7) ≤ x3_7 then K x3_7 m8 else bd2 (f_X5_costs F x1_1 x2_4 x3_7 m8) fun r10 m12 => bd1 (f_X1_price x1_1 x2_4 x3_7 r10 m12) fun m14 => Lt (x3_7 + (1 : Int32)) fun x3_15 => f_X5_countCosts_L28 F x1_1 x2_4 K n x3_15 m14

def f_X5_countCosts_L15 (F : Nat) (x1_1 : Int32) (K : Int32 → MM → Option MM) : Nat → Int32 → MM → Option MM
  | 0, _, _ => none
  | n + 1, x2_4, m5 => if (rI m5 1 7) ≤ x2_4 then K x2_4 m5 else f_X5_countCosts_L28 F x1_1 x2_4 (fun x3_7 m8 => Lt (x2_4 + (1 : Int32)) fun x2_16 => f_X5_countCosts_L15 F x1_1 K n x2_16 m8) F (0 : Int32) m5

def f_X5_countCosts_L2 (F : Nat) (K : Int32 → MM → Option MM) : Nat → Int32 → MM → Option MM
  | 0, _, _ => none
  | n + 1, x1_1, m2 => if (rI m2 1 8) ≤ x1_1 then K x1_1 m2 else f_X5_countCosts_L15 F x1_1 (fun x2_4 m5 => Lt (x1_1 + (1 : Int32)) fun x1_17 => f_X5_countCosts_L2 F K n x1_17 m5) F (0 : Int32) m2

def f_X5_countCosts (F : Nat)   (m : MM) : Option MM := f_X5_countCosts_L2 F (fun x1_1 m2 => some m2) F (0 : Int32) m

def f_X5_leastIf (F : Nat)  (a0 : Int32) (a1 : Int32) (m : MM) : Option (Int32 × MM) := bd1 (f_X5_think F a0 a1 m) fun m2 => bd2 (f_X1_spreadFromOpen F (0 : Int32) m2) fun r3 m5 => some (r3, m5)

def f_X1_floodOnce_L12 (r1 : Int32) (K : Int32 → Int32 → MM → Option (Int32 × MM)) : Nat → Int32 → Int32 → MM → Option (Int32 × MM)
  | 0, _, _, _ => none
  | n + 1, x3_4, x5_5, m6 => if r1 ≤ x5_5 then K x3_4 x5_5 m6 else Gu (inB x5_5 25) <| Gu (inB (rI m6 34 (ix x5_5)) 3125) <| if (rI m6 29 (ix (rI m6 34 (ix x5_5)))) = 0 then Gu (inB x5_5 25) <| Gu (inB (rI m6 34 (ix x5_5)) 3125) <| Lt (wI m6 29 (ix (rI m6 34 (ix x5_5))) (1 : Int32)) fun m8 => Lt (x3_4 + (1 : Int32)) fun x3_9 => Gu (inB x5_5 25) <| Gu (inB x3_4 3125) <| Lt (wI m8 28 (ix x3_4) (rI m8 34 (ix x5_5))) fun m10 => Lt (x5_5 + (1 : Int32)) fun x5_11 => f_X1_floodOnce_L12 r1 K n x3_9 x5_11 m10 else Lt (x5_5 + (1 : Int32)) fun x5_12 => f_X1_floodOnce_L12 r1 K n x3_4 x5_12 m6

def f_X1_floodOnce (F : Nat)  (a0 : Int32) (a1 : Int32) (m : MM) : Option (Int32 × MM) := bd2 (f_X1_lookAround F a0 m) fun r1 m3 => f_X1_floodOnce_L12 r1 (fun x3_4 x5_5 m6 => some (x3_4, m6)) F a1 (0 : Int32) m3

def f_X1_flood_L47 (F : Nat) (K : Int32 → Int32 → MM → Option (Int32 × MM)) : Nat → Int32 → Int32 → MM → Option (Int32 × MM)
  | 0, _, _, _ => none
  | n + 1, x1_8, x2_9, m10 => if x1_8 ≤ x2_9 then K x1_8 x2_9 m10 else if (rI m10 25 11) ≤ x2_9 then K x1_8 x2_9 m10 else Gu (inB x2_9 3125) <| bd2 (f_X1_floodOnce F (rI m10 28 (ix x2_9)) x1_8 m10) fun r12 m14 => Lt (x2_9 + (1 : Int32)) fun x2_15 => f_X1_flood_L47 F K n r12 x2_15 m14

def f_X1_flood_L2  (K : Int32 → MM → Option (Int32 × MM)) : Nat → Int32 → MM → Option (Int32 × MM)
  | 0, _, _ => none
  | n + 1, x1_1, m2 => if (rI m2 25 11) ≤ x1_1 then K x1_1 m2 else Gu (inB x1_1 3125) <| Lt (wI m2 29 (ix x1_1) (0 : Int32)) fun m4 => Lt (x1_1 + (1 : Int32)) fun x1_5 => f_X1_flood_L2 K n x1_5 m4

def f_X1_flood (F : Nat)   (m : MM) : Option (Int32 × MM) := f_X1_flood_L2 (fun x1_1 m2 => Gu (inB (rI m2 25 12) 3125) <| Lt (wI m2 29 (ix (rI m2 25 12)) (1 : Int32)) fun m6 => Gu (inB (0 : Int32) 3125) <| Lt (wI m6 28 (ix (0 : Int32)) (rI m6 25 12)) fun m7 => f_X1_flood_L47 F (fun x1_8 x2_9 m10 => some (x1_8, m10)) F (1 : Int32) (0 : Int32) m7) F (0 : Int32) m

def f_X1_farthest_L9 (r1 : Int32) (m3 : MM) (K : Int32 → Int32 → Option (Int32 × MM)) : Nat → Int32 → Int32 → Option (Int32 × MM)
  | 0, _, _ => none
  | n + 1, x2_4, x3_5 => if r1 ≤ x3_5 then K x2_4 x3_5 else Gu (inB x3_5 3125) <| Gu (inB (rI m3 28 (ix x3_5)) 3125) <| Lt (maxI x2_4 (rI m3 27 (ix (rI m3 28 (ix x3_5))))) fun x2_7 => Lt (x3_5 + (1 : Int32)) fun x3_8 => f_X1_farthest_L9 r1 m3 K n x2_7 x3_8

def f_X1_farthest (F : Nat)   (m : MM) : Option (Int32 × MM) := bd2 (f_X1_flood F m) fun r1 m3 => f_X1_farthest_L9 r1 m3 (fun x2_4 x3_5 => some (x2_4, m3)) F (-1 : Int32) (0 : Int32)

def f_X5_best (F : Nat)  (a0 : Int32) (m : MM) : Option (Int32 × MM) := if a0 = (0 : Int32) then bd2 (f_X5_fewest F (0 : Int32) m) fun r2 m4 => some (r2, m4) else if a0 = (1 : Int32) then bd2 (f_X5_fewest F (0 : Int32) m) fun r6 m8 => bd1 (f_X1_firstBest F m8) fun r9 => some (r9, m8) else if a0 = (2 : Int32) then bd1 (f_X5_countCosts F m) fun m13 => bd2 (f_X5_leastIf F (-1 : Int32) (-1 : Int32) m13) fun r14 m16 => some (r14, m16) else if a0 = (3 : Int32) then bd1 (f_X5_countCosts F m) fun m19 => bd2 (f_X5_leastIf F (-1 : Int32) (-1 : Int32) m19) fun r20 m22 => bd1 (f_X1_firstBest F m22) fun r23 => some (r23, m22) else if a0 = (4 : Int32) then bd1 (f_X5_think F (-1 : Int32) (-1 : Int32) m) fun m27 => bd2 (f_X1_flood F m27) fun r28 m30 => some (r28, m30) else if a0 = (5 : Int32) then bd2 (f_X5_fewest F (1 : Int32) m) fun r32 m34 => bd2 (f_X1_farthest F m34) fun r35 m37 => some (r35, m37) else some ((-100 : Int32), m)

def f_X1_farWith  (a0 : Int32) (a1 : Int32) (m : MM) : Option Int32 := Gu (rI m 25 10 == 17) <| Gu (inB a0 5) <| Gu (inB a0 5) <| Lt ((rI m 25 12) + ((a1 - (rI m 24 (ix a0))) * (rI m 32 (ix a0)))) fun x3_1 => Gu (inB x3_1 3125) <| if (rI m 26 (ix x3_1)) = 0 then some (-1 : Int32) else Gu (inB x3_1 3125) <| some (rI m 27 (ix x3_1))

def f_X5_isLess  (a0 : Int32) (a1 : Int32) (m : MM) : Option Int32 := if a0 = (-1 : Int32) then some (0 : Int32) else if a1 = (-1 : Int32) then some (1 : Int32) else if a1 ≤ a0 then some (0 : Int32) else some (1 : Int32)

def f_X5_pack_L36 (a0 : Int32) (m7 : MM) (K : Int32 → Int32 → Int32 → Option (Int32 × MM)) : Nat → Int32 → Int32 → Int32 → Option (Int32 × MM)
  | 0, _, _, _ => none
  | n + 1, x3_8, x4_9, x5_10 => if (rI m7 1 7) ≤ x5_10 then K x3_8 x4_9 x5_10 else bd1 (f_X1_farWith a0 x5_10 m7) fun r12 => bd1 (f_X5_isLess r12 x4_9 m7) fun r14 => if r14 = 0 then Lt (x5_10 + (1 : Int32)) fun x5_16 => f_X5_pack_L36 a0 m7 K n x3_8 x4_9 x5_16 else Lt (x5_10 + (1 : Int32)) fun x5_17 => f_X5_pack_L36 a0 m7 K n x5_10 r12 x5_17

def f_X5_pack (F : Nat)  (a0 : Int32) (a1 : Int32) (m : MM) : Option (Int32 × MM) := bd1 (f_X0_hasThing 1 a0 m) fun r1 => if r1 = 0 then some ((-2 : Int32), m) else bd1 (f_X5_within a1 (2 : Int32) m) fun r3 => if r3 = 0 then some ((-2 : Int32), m) else bd2 (f_X5_fewest F (1 : Int32) m) fun r5 m7 => f_X5_pack_L36 a0 m7 (fun x3_8 x4_9 x5_10 => if a1 = 0 then some (x3_8, m7) else some (x4_9, m7)) F (-1 : Int32) (-1 : Int32) (0 : Int32)

def f_X5_ring (F : Nat)  (a0 : Int32) (m : MM) : Option (Int32 × MM) := bd1 (f_X5_within a0 (2 : Int32) m) fun r1 => if r1 = 0 then some ((-2 : Int32), m) else bd1 (f_X5_countCosts F m) fun m4 => bd2 (f_X5_leastIf F (-1 : Int32) (-1 : Int32) m4) fun r5 m7 => bd2 (f_X5_bell F m7) fun r8 m10 => bd1 (f_X5_isLess r8 r5 m10) fun r11 => if a0 = 0 then if r11 = 0 then some ((0 : Int32), m10) else some ((1 : Int32), m10) else if r11 = 0 then some (r5, m10) else some (r8, m10)

def f_X5_leave_L15 (F : Nat) (K : Int32 → Int32 → Int32 → MM → Option (Int32 × MM)) : Nat → Int32 → Int32 → Int32 → MM → Option (Int32 × MM)
  | 0, _, _, _, _ => none
  | n + 1, x1_6, x2_7, x3_8, m9 => if (rI m9 1 8) ≤ x3_8 then K x1_6 x2_7 x3_8 m9 else Jp (fun s11 m12 => if s11 = (-1 : Int32) then Lt (x3_8 + (1 : Int32)) fun x3_14 => f_X5_leave_L15 F K n x1_6 x2_7 x3_14 m12 else bd2 (f_X5_worth F x3_8 m12) fun r15 m17 => bd1 (f_X5_isLess (s11 + r15) x1_6 m17) fun r18 => if r18 = 0 then Lt (x3_8 + (1 : Int32)) fun x3_20 => f_X5_leave_L15 F K n x1_6 x2_7 x3_20 m17 else bd2 (f_X5_worth F x3_8 m17) fun r21 m23 => Lt (s11 + r21) fun x1_24 => Lt (x3_8 + (1 : Int32)) fun x3_25 => f_X5_leave_L15 F K n x1_24 x3_8 x3_25 m23) fun J13 => if x3_8 = (rI m9 1 9) then J13 (-1 : Int32) m9 else bd2 (f_X5_leastIf F x3_8 (-1 : Int32) m9) fun r26 m28 => J13 r26 m28

def f_X5_leave (F : Nat)   (m : MM) : Option (Int32 × MM) := bd1 (f_X5_countCosts F m) fun m2 => bd2 (f_X5_leastIf F (-1 : Int32) (-1 : Int32) m2) fun r3 m5 => f_X5_leave_L15 F (fun x1_6 x2_7 x3_8 m9 => some (x2_7, m9)) F r3 (-1 : Int32) (0 : Int32) m5

def f_X5_roomy_L27 (F : Nat) (K : Int32 → Int32 → Int32 → MM → Option (Int32 × MM)) : Nat → Int32 → Int32 → Int32 → MM → Option (Int32 × MM)
  | 0, _, _, _, _ => none
  | n + 1, x2_8, x3_9, x4_10, m11 => if (rI m11 1 7) ≤ x4_10 then K x2_8 x3_9 x4_10 m11 else bd2 (f_X5_leastIf F (-1 : Int32) x4_10 m11) fun r13 m15 => bd1 (f_X5_isLess r13 x2_8 m15) fun r16 => if r16 = 0 then Lt (x4_10 + (1 : Int32)) fun x4_18 => f_X5_roomy_L27 F K n x2_8 x3_9 x4_18 m15 else Lt (x4_10 + (1 : Int32)) fun x4_19 => f_X5_roomy_L27 F K n r13 x4_10 x4_19 m15

def f_X5_roomy (F : Nat)  (a0 : Int32) (m : MM) : Option (Int32 × MM) := bd1 (f_X5_within a0 (2 : Int32) m) fun r1 => if r1 = 0 then some ((-2 : Int32), m) else bd1 (f_X5_countCosts F m) fun m4 => bd2 (f_X5_leastIf F (-1 : Int32) (-1 : Int32) m4) fun r5 m7 => f_X5_roomy_L27 F (fun x2_8 x3_9 x4_10 m11 => if x3_9 = (-1 : Int32) then some ((-1 : Int32), m11) else if a0 = 0 then some (x3_9, m11) else some (x2_8, m11)) F r5 (-1 : Int32) (0 : Int32) m7

def f_X2_isMissing  (k : Nat) (m : MM) : Option Int32 := if (rI m k 1) = (-1 : Int32) then some (1 : Int32) else some (0 : Int32)

def f_X5_canBe (F : Nat)  (a0 : Int32) (m : MM) : Option Int32 := Gu (nz (10 : Int32)) <| Lt (a0 / (10 : Int32)) fun x2_1 => Gu (nz (10 : Int32)) <| Lt (remI a0 (10 : Int32)) fun x3_2 => if a0 < 0 then some (0 : Int32) else bd1 (f_X0_hasThing 17 x2_1 m) fun r3 => if r3 = 0 then some (0 : Int32) else bd1 (f_X0_hasHold 17 x3_2 m) fun r5 => if r5 = 0 then some (0 : Int32) else bd1 (f_X0_refusal F 17 x2_1 x3_2 m) fun r7 => if r7 = 0 then some (1 : Int32) else some (0 : Int32)

def f_X5_judge_L53 (F : Nat) (a0 : Int32) (K : Int32 → Int32 → MM → Option (Int32 × MM)) : Nat → Int32 → Int32 → MM → Option (Int32 × MM)
  | 0, _, _, _ => none
  | n + 1, x4_10, x5_11, m12 => if (rI m12 (64 + 2 * ix a0) 2) ≤ x5_11 then K x4_10 x5_11 m12 else Gu (inB x5_11 40) <| bd1 (f_X5_canBe F (rI m12 ((64 + 2 * ix a0) + 1) (ix x5_11)) m12) fun r14 => if r14 = 0 then K x4_10 x5_11 m12 else Gu (inB x5_11 40) <| Gu (nz (10 : Int32)) <| Lt ((rI m12 ((64 + 2 * ix a0) + 1) (ix x5_11)) / (10 : Int32)) fun x6_16 => Gu (inB x5_11 40) <| Gu (nz (10 : Int32)) <| Lt (remI (rI m12 ((64 + 2 * ix a0) + 1) (ix x5_11)) (10 : Int32)) fun x7_17 => Gu (inB x6_16 5) <| bd2 (f_X5_costs F x6_16 (rI m12 24 (ix x6_16)) x7_17 m12) fun r18 m20 => Lt (x4_10 + r18) fun x4_21 => Gu (inB x6_16 5) <| Lt (wI m20 24 (ix x6_16) x7_17) fun m22 => Lt (x5_11 + (1 : Int32)) fun x5_23 => f_X5_judge_L53 F a0 K n x4_21 x5_23 m22

def f_X5_judge (F : Nat)  (a0 : Int32) (a1 : Int32) (m : MM) : Option (Int32 × MM) := bd1 (f_X5_within a0 (4 : Int32) m) fun r1 => if r1 = 0 then some ((-2 : Int32), m) else bd1 (f_X5_within a1 (3 : Int32) m) fun r3 => if r3 = 0 then some ((-2 : Int32), m) else Gu (inB a0 4) <| bd1 (f_X2_isMissing (64 + 2 * ix a0) m) fun r6 => if r6 = 0 then bd1 (f_X0_become 17 1 m) fun m9 => f_X5_judge_L53 F a0 (fun x4_10 x5_11 m12 => if a1 = 0 then if (rI m12 (64 + 2 * ix a0) 2) ≤ x5_11 then some ((-1 : Int32), m12) else some (x5_11, m12) else if a1 = (1 : Int32) then some (x4_10, m12) else bd1 (f_X0_isOpen F 17 m12) fun r24 => if r24 = 0 then some ((0 : Int32), m12) else some ((1 : Int32), m12)) F (0 : Int32) (0 : Int32) m9 else some ((-11 : Int32), m)

def f_X1_stateOf_L4 (q : Nat) (m : MM) (K : Int32 → Int32 → Option Int32) : Nat → Int32 → Int32 → Option Int32
  | 0, _, _ => none
  | n + 1, x2_1, x3_2 => Gu (rI m 25 10 == 17) <| if (rI m 17 8) ≤ x3_2 then K x2_1 x3_2 else Gu (rI m 25 10 == 17) <| Gu (inB x3_2 40) <| bd1 (f_X0_hasHold 17 (rI m q (ix x3_2)) m) fun r4 => if r4 = 0 then some (-1 : Int32) else Gu (inB x3_2 40) <| Gu (inB x3_2 5) <| Lt (x2_1 + ((rI m q (ix x3_2)) * (rI m 32 (ix x3_2)))) fun x2_6 => Lt (x3_2 + (1 : Int32)) fun x3_7 => f_X1_stateOf_L4 q m K n x2_6 x3_7

def f_X1_stateOf (F : Nat)  (q : Nat) (m : MM) : Option Int32 := f_X1_stateOf_L4 q m (fun x2_1 x3_2 => Gu (inB x2_1 3125) <| if (rI m 26 (ix x2_1)) = 0 then some (-1 : Int32) else some x2_1) F (0 : Int32) (0 : Int32)

def f_X1_stepOnce_L9 (a1 : Int32) (r1 : Int32) (K : Int32 → MM → Option MM) : Nat → Int32 → MM → Option MM
  | 0, _, _ => none
  | n + 1, x4_4, m5 => if r1 ≤ x4_4 then K x4_4 m5 else Gu (inB x4_4 25) <| Gu (inB (rI m5 34 (ix x4_4)) 3125) <| Gu (inB (rI m5 34 (ix x4_4)) 3125) <| Lt (wI m5 28 (ix (rI m5 34 (ix x4_4))) ((rI m5 28 (ix (rI m5 34 (ix x4_4)))) + a1)) fun m7 => Lt (x4_4 + (1 : Int32)) fun x4_8 => f_X1_stepOnce_L9 a1 r1 K n x4_8 m7

def f_X1_stepOnce (F : Nat)  (a0 : Int32) (a1 : Int32) (m : MM) : Option MM := bd2 (f_X1_lookAround F a0 m) fun r1 m3 => f_X1_stepOnce_L9 a1 r1 (fun x4_4 m5 => some m5) F (0 : Int32) m3

def f_X1_step_L65 (F : Nat) (q : Nat) (K : Int32 → MM → Option MM) : Nat → Int32 → MM → Option MM
  | 0, _, _ => none
  | n + 1, x5_15, m16 => if (rI m16 25 11) ≤ x5_15 then K x5_15 m16 else Gu (inB x5_15 3125) <| if (rI m16 q (ix x5_15)) = 0 then Lt (x5_15 + (1 : Int32)) fun x5_18 => f_X1_step_L65 F q K n x5_18 m16 else Gu (inB x5_15 3125) <| bd1 (f_X1_stepOnce F x5_15 (rI m16 q (ix x5_15)) m16) fun m20 => Lt (x5_15 + (1 : Int32)) fun x5_21 => f_X1_step_L65 F q K n x5_21 m20

def f_X1_step_L39  (K : Int32 → MM → Option MM) : Nat → Int32 → MM → Option MM
  | 0, _, _ => none
  | n + 1, x5_10, m11 => if (rI m11 25 11) ≤ x5_10 then K x5_10 m11 else Gu (inB x5_10 3125) <| Lt (wI m11 28 (ix x5_10) (0 : Int32)) fun m13 => Lt (x5_10 + (1 : Int32)) fun x5_14 => f_X1_step_L39 K n x5_14 m13

def f_X1_step_L30 (F : Nat) (q : Nat) (a2 : Int32) (K : Int32 → MM → Option MM) : Nat → Int32 → MM → Option MM
  | 0, _, _ => none
  | n + 1, x4_7, m8 => if a2 ≤ x4_7 then K x4_7 m8 else f_X1_step_L39 (fun x5_10 m11 => f_X1_step_L65 F q (fun x5_15 m16 => Gu (cpyOk (0 : Int32) (0 : Int32) (rI m16 25 11) 3125 3125) <| Lt (cpy m16 28 (0 : Int32) q (0 : Int32) (rI m16 25 11)) fun m22 => Lt (x4_7 + (1 : Int32)) fun x4_23 => f_X1_step_L30 F q a2 K n x4_23 m22) F (0 : Int32) m11) F (0 : Int32) m8

def f_X1_step_L3 (q : Nat) (K : Int32 → MM → Option MM) : Nat → Int32 → MM → Option MM
  | 0, _, _ => none
  | n + 1, x4_1, m2 => if (rI m2 25 11) ≤ x4_1 then K x4_1 m2 else Gu (inB x4_1 3125) <| Lt (wI m2 q (ix x4_1) (0 : Int32)) fun m4 => Lt (x4_1 + (1 : Int32)) fun x4_5 => f_X1_step_L3 q K n x4_5 m4

def f_X1_step (F : Nat)  (q : Nat) (a1 : Int32) (a2 : Int32) (m : MM) : Option MM := f_X1_step_L3 q (fun x4_1 m2 => Gu (inB a1 3125) <| Lt (wI m2 q (ix a1) (1 : Int32)) fun m6 => f_X1_step_L30 F q a2 (fun x4_7 m8 => some m8) F (0 : Int32) m6) F (0 : Int32) m

def f_X1_rowsTo_L41 (m4 : MM) (K : Int64 → Int32 → Option (Int64 × MM)) : Nat → Int64 → Int32 → Option (Int64 × MM)
  | 0, _, _ => none
  | n + 1, x3_5, x5_6 => if (rI m4 25 11) ≤ x5_6 then K x3_5 x5_6 else Gu (inB x5_6 3125) <| Gu (inB x5_6 3125) <| Lt (x3_5 + ((Int32.toInt64 (rI m4 27 (ix x5_6))) * (Int32.toInt64 (rI m4 29 (ix x5_6))))) fun x3_8 => Lt (x5_6 + (1 : Int32)) fun x5_9 => f_X1_rowsTo_L41 m4 K n x3_8 x5_9

def f_X1_rowsTo (F : Nat)  (a0 : Int32) (a1 : Int32) (m : MM) : Option (Int64 × MM) := if a0 = (-1 : Int32) then some ((0 : Int64), m) else Gu (nz (2 : Int32)) <| bd1 (f_X1_step F 27 (rI m 25 12) (a1 / (2 : Int32)) m) fun m2 => Gu (nz (2 : Int32)) <| bd1 (f_X1_step F 29 a0 (a1 - (a1 / (2 : Int32))) m2) fun m4 => f_X1_rowsTo_L41 m4 (fun x3_5 x5_6 => some (x3_5, m4)) F (0 : Int64) (0 : Int32)

def f_X5_ways (F : Nat)  (a0 : Int32) (a1 : Int32) (m : MM) : Option (Int64 × MM) := bd1 (f_X5_within a0 (4 : Int32) m) fun r1 => if r1 = 0 then some ((-4611686018427387904 : Int64), m) else bd1 (f_X5_within a1 (9 : Int32) m) fun r3 => if r3 = 0 then some ((-4611686018427387904 : Int64), m) else Gu (inB a0 4) <| bd1 (f_X2_isMissing (64 + 2 * ix a0) m) fun r6 => if r6 = 0 then if (rI m (64 + 2 * ix a0) 2) = (rI m 1 8) then bd1 (f_X5_think F (-1 : Int32) (-1 : Int32) m) fun m9 => bd1 (f_X1_stateOf F ((64 + 2 * ix a0) + 1) m9) fun r10 => bd2 (f_X1_rowsTo F r10 a1 m9) fun r12 m14 => some (r12, m14) else some ((-4611686018427387904 : Int64), m) else some ((-4611686018427387904 : Int64), m)

def f_X1_spreadFrom (F : Nat)  (a0 : Int32) (m : MM) : Option (Int32 × MM) := bd1 (f_X1_clearTurns F m) fun m2 => Jp (fun m3 => bd2 (f_X1_spread F (0 : Int32) m3) fun r5 m7 => some (r5, m7)) fun J4 => if a0 = (-1 : Int32) then J4 m2 else bd1 (f_X1_enterTurn a0 (0 : Int32) m2) fun m9 => J4 m9

def f_X5_soonest (F : Nat)  (a0 : Int32) (m : MM) : Option (Int32 × MM) := bd1 (f_X5_within a0 (4 : Int32) m) fun r1 => if r1 = 0 then some ((-2 : Int32), m) else Gu (inB a0 4) <| bd1 (f_X2_isMissing (64 + 2 * ix a0) m) fun r4 => if r4 = 0 then if (rI m (64 + 2 * ix a0) 2) = (rI m 1 8) then bd1 (f_X5_think F (-1 : Int32) (-1 : Int32) m) fun m7 => bd1 (f_X1_countMoves F m7) fun m9 => bd1 (f_X1_stateOf F ((64 + 2 * ix a0) + 1) m9) fun r10 => bd2 (f_X1_spreadFrom F r10 m9) fun r12 m14 => if (8 : Int32) < r12 then some ((-1 : Int32), m14) else some (r12, m14) else some ((-2 : Int32), m) else some ((-11 : Int32), m)

def f_X5_drawOnce (F : Nat)  (a0 : Int32) (m : MM) : Option MM := if (rI m 17 8) < (1 : Int32) then some m else if (1 : Int32) ≤ (rI m 17 7) then Gu (nz (rI m 17 8)) <| Lt (remI (ushI a0 (9 : Int32)) (rI m 17 8)) fun x2_1 => Gu (nz (rI m 17 7)) <| Lt (remI (ushI a0 (17 : Int32)) (rI m 17 7)) fun x3_2 => bd1 (f_X0_refusal F 17 x2_1 x3_2 m) fun r3 => if r3 = 0 then Gu (inB x2_1 5) <| Lt (wI m 24 (ix x2_1) x3_2) fun m5 => some m5 else some m else some m

def f_X5_openBehind_L16 (F : Nat) (a1 : Int32) (K : Int32 → Int32 → MM → Option (Int32 × MM)) : Nat → Int32 → Int32 → MM → Option (Int32 × MM)
  | 0, _, _, _ => none
  | n + 1, x3_3, x4_4, m5 => if a1 < x4_4 then K x3_3 x4_4 m5 else bd1 (f_X0_isOpen F 17 m5) fun r7 => if r7 = 0 then Lt ((x3_3 * (1103515245 : Int32)) + (12345 : Int32)) fun x3_9 => bd1 (f_X5_drawOnce F x3_9 m5) fun m11 => Lt (x4_4 + (1 : Int32)) fun x4_12 => f_X5_openBehind_L16 F a1 K n x3_9 x4_12 m11 else some (x4_4, m5)

def f_X5_openBehind (F : Nat)  (a0 : Int32) (a1 : Int32) (m : MM) : Option (Int32 × MM) := bd1 (f_X0_become 17 1 m) fun m2 => f_X5_openBehind_L16 F a1 (fun x3_3 x4_4 m5 => some ((-1 : Int32), m5)) F a0 (0 : Int32) m2

def f_X5_drawn (F : Nat)  (a0 : Int32) (a1 : Int32) (m : MM) : Option (Int32 × MM) := if a1 < (1 : Int32) then some ((-2 : Int32), m) else if a1 ≤ (40 : Int32) then bd2 (f_X5_openBehind F a0 a1 m) fun r1 m3 => some (r1, m3) else some ((-2 : Int32), m)

def f_X5_commonPart_L2 (a0 : Int32) (a1 : Int32) (K : Int32 → Option Int32) : Nat → Int32 → Option Int32
  | 0, _ => none
  | n + 1, x2_1 => if x2_1 ≤ (1 : Int32) then K x2_1 else Gu (nz x2_1) <| if (remI a0 x2_1) = 0 then Gu (nz x2_1) <| if (remI a1 x2_1) = 0 then some x2_1 else Lt (x2_1 + (-1 : Int32)) fun x2_3 => f_X5_commonPart_L2 a0 a1 K n x2_3 else Lt (x2_1 + (-1 : Int32)) fun x2_4 => f_X5_commonPart_L2 a0 a1 K n x2_4

def f_X5_commonPart (F : Nat)  (a0 : Int32) (a1 : Int32) (m : MM) : Option Int32 := f_X5_commonPart_L2 a0 a1 (fun x2_1 => some (1 : Int32)) F a1

def f_X5_chance_L29 (F : Nat) (a0 : Int32) (a1 : Int32) (K : Int32 → Int32 → MM → Option (Int64 × MM)) : Nat → Int32 → Int32 → MM → Option (Int64 × MM)
  | 0, _, _, _ => none
  | n + 1, x4_3, x5_4, m5 => if a1 ≤ x5_4 then K x4_3 x5_4 m5 else bd2 (f_X5_openBehind F (a0 + x5_4) (40 : Int32) m5) fun r7 m9 => if r7 = (-1 : Int32) then Lt (x5_4 + (1 : Int32)) fun x5_10 => f_X5_chance_L29 F a0 a1 K n x4_3 x5_10 m9 else Lt (x4_3 + (1 : Int32)) fun x4_11 => Lt (x5_4 + (1 : Int32)) fun x5_12 => f_X5_chance_L29 F a0 a1 K n x4_11 x5_12 m9

def f_X5_chance (F : Nat)  (a0 : Int32) (a1 : Int32) (a2 : Int32) (m : MM) : Option (Int64 × MM) := if a1 < (1 : Int32) then some ((-4611686018427387904 : Int64), m) else if (20 : Int32) < a1 then some ((-4611686018427387904 : Int64), m) else bd1 (f_X5_within a2 (2 : Int32) m) fun r1 => if r1 = 0 then some ((-4611686018427387904 : Int64), m) else f_X5_chance_L29 F a0 a1 (fun x4_3 x5_4 m5 => bd1 (f_X5_commonPart F x4_3 a1 m5) fun r13 => Jp (fun s15 => Gu (nz r13) <| some (Int32.toInt64 (s15 / r13), m5)) fun J16 => if a2 = 0 then J16 x4_3 else J16 a1) F (0 : Int32) (0 : Int32) m

def f_X5_image   (m : MM) : Option (Int32 × MM) := bd1 (f_X0_become 9 1 m) fun m2 => Gu (bz (1 : Int32)) <| Lt (wI m2 0 9 (1 : Int32)) fun m3 => some (rI m3 9 8, m3)

def f_X5_back   (m : MM) : Option (Int32 × MM) := if (rI m 0 9) = 0 then some ((-3 : Int32), m) else bd1 (f_X0_become 1 9 m) fun m2 => some (rI m2 1 8, m2)

def f_X5_count  (a0 : Int32) (m : MM) : Option Int32 := if a0 = (0 : Int32) then some (rI m 1 7) else if a0 = (1 : Int32) then some (rI m 1 8) else if a0 = (2 : Int32) then some (rI m 1 10) else if a0 = (3 : Int32) then some (rI m 1 9) else if a0 = (4 : Int32) then some (rI m 0 8) else if a0 = (5 : Int32) then some (rI m 36 1) else if a0 = (6 : Int32) then some (rI m 1 11) else some (-2 : Int32)

def f_X2_become_L12 (k : Nat) (K : Int32 → MM → Option MM) : Nat → Int32 → MM → Option MM
  | 0, _, _ => none
  | n + 1, x3_3, m4 => if (40 : Int32) ≤ x3_3 then K x3_3 m4 else Gu (inB x3_3 40) <| Lt (wI m4 (k + 1) (ix x3_3) (0 : Int32)) fun m6 => Lt (x3_3 + (1 : Int32)) fun x3_7 => f_X2_become_L12 k K n x3_7 m6

def f_X2_become (F : Nat)  (k : Nat) (a0 : Int32) (a1 : Int32) (m : MM) : Option MM := Lt (wI m k 1 a0) fun m1 => Lt (wI m1 k 2 a1) fun m2 => f_X2_become_L12 k (fun x3_3 m4 => some m4) F (0 : Int32) m2

def f_X5_sheet (F : Nat)  (a0 : Int32) (a1 : Int32) (a2 : Int32) (m : MM) : Option (Int32 × MM) := bd1 (f_X5_within a0 (4 : Int32) m) fun r1 => if r1 = 0 then some ((-2 : Int32), m) else if a1 < (-1 : Int32) then some ((-2 : Int32), m) else if a1 < (3 : Int32) then if a1 = (-1 : Int32) then Gu (inB a0 4) <| bd1 (f_X2_become F (64 + 2 * ix a0) (-1 : Int32) (0 : Int32) m) fun m5 => some ((1 : Int32), m5) else if a2 ≤ (40 : Int32) then if 0 ≤ a2 then Gu (inB a0 4) <| bd1 (f_X2_become F (64 + 2 * ix a0) a1 a2 m) fun m8 => some ((1 : Int32), m8) else some ((-14 : Int32), m) else some ((-2 : Int32), m) else some ((-2 : Int32), m)

def f_X2_put  (k : Nat) (a0 : Int32) (a1 : Int32) (m : MM) : Option MM := if (rI m k 1) = 0 then Gu (inB a0 40) <| Lt (wI m (k + 1) (ix a0) ((Int32.toInt8 a1).toInt32)) fun m1 => some m1 else if (rI m k 1) = (1 : Int32) then Gu (inB a0 40) <| Lt (wI m (k + 1) (ix a0) ((Int32.toInt16 a1).toInt32)) fun m2 => some m2 else Gu (inB a0 40) <| Lt (wI m (k + 1) (ix a0) a1) fun m3 => some m3

def f_X5_cell  (a0 : Int32) (a1 : Int32) (a2 : Int32) (m : MM) : Option (Int32 × MM) := bd1 (f_X5_within a0 (4 : Int32) m) fun r1 => if r1 = 0 then some ((-2 : Int32), m) else Gu (inB a0 4) <| bd1 (f_X2_isMissing (64 + 2 * ix a0) m) fun r4 => if r4 = 0 then bd1 (f_X5_within a1 (rI m (64 + 2 * ix a0) 2) m) fun r6 => if r6 = 0 then some ((-12 : Int32), m) else bd1 (f_X2_put (64 + 2 * ix a0) a1 a2 m) fun m9 => some ((1 : Int32), m9) else some ((-11 : Int32), m)

def f_X2_hasPart  (k : Nat) (a0 : Int32) (a1 : Int32) (m : MM) : Option Int32 := if a0 < 0 then some (0 : Int32) else if a1 < 0 then some (0 : Int32) else if (rI m k 2) < a1 then some (0 : Int32) else if ((rI m k 2) - a1) < a0 then some (0 : Int32) else some (1 : Int32)

def f_X5_copy  (a0 : Int32) (a1 : Int32) (a2 : Int32) (a3 : Int32) (a4 : Int32) (m : MM) : Option (Int32 × MM) := bd1 (f_X5_within a0 (4 : Int32) m) fun r1 => if r1 = 0 then some ((-2 : Int32), m) else bd1 (f_X5_within a2 (4 : Int32) m) fun r3 => if r3 = 0 then some ((-2 : Int32), m) else Gu (inB a0 4) <| Gu (inB a2 4) <| bd1 (f_X2_isMissing (64 + 2 * ix a0) m) fun r7 => if r7 = 0 then bd1 (f_X2_isMissing (64 + 2 * ix a2) m) fun r9 => if r9 = 0 then if (rI m (64 + 2 * ix a0) 1) = (rI m (64 + 2 * ix a2) 1) then bd1 (f_X2_hasPart (64 + 2 * ix a0) a1 a4 m) fun r11 => if r11 = 0 then some ((-12 : Int32), m) else bd1 (f_X2_hasPart (64 + 2 * ix a2) a3 a4 m) fun r13 => if r13 = 0 then some ((-12 : Int32), m) else Gu (cpyOk a1 a3 a4 40 40) <| Lt (cpy m ((64 + 2 * ix a0) + 1) a1 ((64 + 2 * ix a2) + 1) a3 a4) fun m15 => some (a4, m15) else some ((-13 : Int32), m) else some ((-11 : Int32), m) else some ((-11 : Int32), m)

def f_X5_things_L67 (F : Nat) (a0 : Int32) (a2 : Int32) (a3 : Int32) (K : Int32 → Int32 → MM → Option (Int32 × MM)) : Nat → Int32 → Int32 → MM → Option (Int32 × MM)
  | 0, _, _, _ => none
  | n + 1, x6_8, x7_9, m10 => if a3 ≤ x7_9 then K x6_8 x7_9 m10 else bd1 (f_X2_hasPart (64 + 2 * ix a0) a2 (((2 : Int32) * x7_9) + (2 : Int32)) m10) fun r12 => if r12 = 0 then some ((-12 : Int32), m10) else Gu (inB (a2 + ((2 : Int32) * x7_9)) 40) <| Gu (inB ((a2 + ((2 : Int32) * x7_9)) + (1 : Int32)) 40) <| bd2 (f_X5_thing F (rI m10 ((64 + 2 * ix a0) + 1) (ix (a2 + ((2 : Int32) * x7_9)))) (rI m10 ((64 + 2 * ix a0) + 1) (ix ((a2 + ((2 : Int32) * x7_9)) + (1 : Int32)))) m10) fun r14 m16 => if r14 < 0 then Lt (x7_9 + (1 : Int32)) fun x7_17 => f_X5_things_L67 F a0 a2 a3 K n x6_8 x7_17 m16 else Lt (x6_8 + (1 : Int32)) fun x6_18 => Lt (x7_9 + (1 : Int32)) fun x7_19 => f_X5_things_L67 F a0 a2 a3 K n x6_18 x7_19 m16

def f_X5_things (F : Nat)  (a0 : Int32) (a1 : Int32) (a2 : Int32) (a3 : Int32) (m : MM) : Option (Int32 × MM) := bd1 (f_X5_within a0 (4 : Int32) m) fun r1 => if r1 = 0 then some ((-2 : Int32), m) else bd1 (f_X5_within a1 (3 : Int32) m) fun r3 => if r3 = 0 then some ((-2 : Int32), m) else if a3 < 0 then some ((-2 : Int32), m) else if a3 ≤ (5 : Int32) then Gu (inB a0 4) <| bd1 (f_X2_isMissing (64 + 2 * ix a0) m) fun r6 => if r6 = 0 then if (rI m (64 + 2 * ix a0) 1) = a1 then f_X5_things_L67 F a0 a2 a3 (fun x6_8 x7_9 m10 => some (x6_8, m10)) F (0 : Int32) (0 : Int32) m else some ((-13 : Int32), m) else some ((-11 : Int32), m) else some ((-2 : Int32), m)

def f_X5_taken_L39 (a0 : Int32) (a1 : Int32) (m : MM) (K : Int32 → Int32 → Option Int32) : Nat → Int32 → Int32 → Option Int32
  | 0, _, _ => none
  | n + 1, x3_6, x4_7 => if (6 : Int32) ≤ x4_7 then K x3_6 x4_7 else if x3_6 = (-1 : Int32) then K x3_6 x4_7 else if x3_6 = a1 then Gu (inB a0 5) <| some (rI m 3 (ix a0)) else Gu (inB x3_6 6) <| Lt (stT 0 (ix x3_6)) fun x3_9 => Lt (x4_7 + (1 : Int32)) fun x4_10 => f_X5_taken_L39 a0 a1 m K n x3_9 x4_10

def f_X5_taken (F : Nat)  (a0 : Int32) (a1 : Int32) (m : MM) : Option Int32 := bd1 (f_X5_within a1 (6 : Int32) m) fun r1 => if r1 = 0 then some (-2 : Int32) else bd1 (f_X0_hasHold 1 a0 m) fun r3 => if r3 = 0 then some (-11 : Int32) else Gu (inB a0 5) <| Lt (rI m 2 (ix a0)) fun x3_5 => f_X5_taken_L39 a0 a1 m (fun x3_6 x4_7 => some (-13 : Int32)) F x3_5 (0 : Int32)
end
section
/-! THE MODEL'S METHODS AS PURE FUNCTIONS, by program out of the bytecode -/
def f_X6_in  (a0 : Int64) (a1 : Int64) (a2 : Int64) (m : MM) : Option Int32 := if (lg_cmp a0 a1) < 0 then some (0 : Int32) else if 0 < (lg_cmp a0 a2) then some (0 : Int32) else some (1 : Int32)

def f_X6_hold  (a0 : Int32) (a1 : Int32) (m : MM) : Option (Int32 × MM) := bd1 (f_X6_in (Int32.toInt64 a0) (0 : Int64) (5 : Int64) m) fun r1 => if r1 = 0 then some ((-2 : Int32), m) else bd1 (f_X6_in (Int32.toInt64 a1) (0 : Int64) (9 : Int64) m) fun r3 => if r3 = 0 then some ((-2 : Int32), m) else if (rI m 0 9) = (5 : Int32) then some ((-4 : Int32), m) else Gu (inB (rI m 0 9) 5) <| Lt (wI m 4 (ix (rI m 0 9)) a0) fun m5 => Gu (inB (rI m5 0 9) 5) <| Lt (wI m5 5 (ix (rI m5 0 9)) a1) fun m6 => Lt (wI m6 0 9 ((rI m6 0 9) + (1 : Int32))) fun m7 => some ((rI m7 0 9) - (1 : Int32), m7)

def f_X6_isHold  (a0 : Int32) (m : MM) : Option Int32 := bd1 (f_X6_in (Int32.toInt64 a0) (0 : Int64) (Int32.toInt64 ((rI m 0 9) - (1 : Int32))) m) fun r1 => Gu (bz r1) <| some r1

def f_X6_inside_L4 (a0 : Int32) (m : MM) (K : Int32 → Int32 → Option Int32) : Nat → Int32 → Int32 → Option Int32
  | 0, _, _ => none
  | n + 1, x2_1, x3_2 => if (rI m 0 14) ≤ x3_2 then K x2_1 x3_2 else Jp (fun s4 => Lt (x2_1 ||| (shlI s4 x3_2)) fun x2_6 => Lt (x3_2 + (1 : Int32)) fun x3_7 => f_X6_inside_L4 a0 m K n x2_6 x3_7) fun J5 => Jp (J5 (0 : Int32)) fun J8 => if x3_2 = (rI m 0 18) then J8 else Gu (inB x3_2 5) <| if (rI m 8 (ix x3_2)) = a0 then J5 (1 : Int32) else J8

def f_X6_inside (F : Nat)  (a0 : Int32) (m : MM) : Option Int32 := f_X6_inside_L4 a0 m (fun x2_1 x3_2 => some x2_1) F (0 : Int32) (0 : Int32)

def f_X6_sizeOf_L4 (a0 : Int32) (m : MM) (K : Int32 → Int32 → Option Int32) : Nat → Int32 → Int32 → Option Int32
  | 0, _, _ => none
  | n + 1, x2_1, x3_2 => if (rI m 0 14) ≤ x3_2 then K x2_1 x3_2 else Jp (fun s4 => Lt (x2_1 + s4) fun x2_6 => Lt (x3_2 + (1 : Int32)) fun x3_7 => f_X6_sizeOf_L4 a0 m K n x2_6 x3_7) fun J5 => if ((shrI a0 x3_2) &&& (1 : Int32)) = (1 : Int32) then Gu (inB x3_2 5) <| J5 (rI m 6 (ix x3_2)) else J5 (0 : Int32)

def f_X6_sizeOf (F : Nat)  (a0 : Int32) (m : MM) : Option Int32 := f_X6_sizeOf_L4 a0 m (fun x2_1 x3_2 => some x2_1) F (0 : Int32) (0 : Int32)

def f_X6_roomOf  (a0 : Int32) (m : MM) : Option Int32 := Gu (inB a0 5) <| Lt (rI m 4 (ix a0)) fun x2_1 => Gu (inB a0 5) <| Lt ((rI m 5 (ix a0)) + (6 : Int32)) fun x3_2 => Jp (fun s3 => if a0 = (rI m 0 17) then some (s3 + (1 : Int32)) else some s3) fun J4 => if x2_1 = 0 then J4 x3_2 else if x2_1 = (1 : Int32) then J4 (x3_2 - (3 : Int32)) else Jp (J4 ((2 : Int32) * x3_2)) fun J5 => if x2_1 = (2 : Int32) then J5 else if x2_1 = (5 : Int32) then J5 else if x2_1 = (3 : Int32) then Gu (nz (2 : Int32)) <| J4 ((x3_2 - (3 : Int32)) / (2 : Int32)) else Gu (inB a0 5) <| J4 ((rI m 5 (ix a0)) + (1 : Int32))

def f_X6_bitsOf_L4  (K : Int32 → Int32 → Option Int32) : Nat → Int32 → Int32 → Option Int32
  | 0, _, _ => none
  | n + 1, x1_1, x2_2 => if x2_2 = 0 then K x1_1 x2_2 else Lt (x1_1 + (1 : Int32)) fun x1_4 => Lt (x2_2 &&& (x2_2 - (1 : Int32))) fun x2_5 => f_X6_bitsOf_L4 K n x1_4 x2_5

def f_X6_bitsOf (F : Nat)  (a0 : Int32) (m : MM) : Option Int32 := f_X6_bitsOf_L4 (fun x1_1 x2_2 => some x1_1) F (0 : Int32) a0

def f_X6_mostOf  (a0 : Int32) (m : MM) : Option Int32 := Gu (inB a0 5) <| Lt (rI m 4 (ix a0)) fun x2_1 => if x2_1 = (1 : Int32) then some (3 : Int32) else if x2_1 = (3 : Int32) then some (1 : Int32) else if x2_1 = (4 : Int32) then some (1 : Int32) else some (5 : Int32)

def f_X6_wetOf  (a0 : Int32) (m : MM) : Option Int32 := Gu (inB a0 5) <| if (rI m 4 (ix a0)) = (5 : Int32) then some (1 : Int32) else some (0 : Int32)

def f_X6_bars (F : Nat)  (a0 : Int32) (a1 : Int32) (a2 : Int32) (a3 : Int32) (a4 : Int32) (m : MM) : Option Int32 := bd1 (f_X6_sizeOf F a4 m) fun r1 => bd1 (f_X6_roomOf a3 m) fun r3 => if (r1 + a0) ≤ r3 then bd1 (f_X6_bitsOf F a4 m) fun r5 => bd1 (f_X6_mostOf a3 m) fun r7 => if (r5 + (1 : Int32)) ≤ r7 then Jp (if (a4 &&& a2) = 0 then some (0 : Int32) else some (5 : Int32)) fun J9 => if a1 = (1 : Int32) then bd1 (f_X6_wetOf a3 m) fun r10 => if r10 = (1 : Int32) then some (4 : Int32) else J9 else J9 else some (3 : Int32) else some (2 : Int32)

def f_X6_thing_L117  (K : Int32 → MM → Option (Int32 × MM)) : Nat → Int32 → MM → Option (Int32 × MM)
  | 0, _, _ => none
  | n + 1, x3_13, m14 => if (5 : Int32) ≤ x3_13 then K x3_13 m14 else Gu (inB x3_13 5) <| Gu (inB x3_13 5) <| Lt (wI m14 9 (ix x3_13) ((rI m14 9 (ix x3_13)) &&& ((shlI (1 : Int32) (rI m14 0 14)) ^^^ (-1 : Int32)))) fun m16 => Lt (x3_13 + (1 : Int32)) fun x3_17 => f_X6_thing_L117 K n x3_17 m16

def f_X6_thing (F : Nat)  (a0 : Int32) (a1 : Int32) (m : MM) : Option (Int32 × MM) := bd1 (f_X6_in (Int32.toInt64 a0) (10 : Int64) (99 : Int64) m) fun r1 => if r1 = 0 then some ((-2 : Int32), m) else Gu (nz (10 : Int32)) <| if (1 : Int32) < (remI a0 (10 : Int32)) then some ((-2 : Int32), m) else bd1 (f_X6_isHold a1 m) fun r3 => if r3 = 0 then some ((-2 : Int32), m) else if (rI m 0 14) = (5 : Int32) then some ((-4 : Int32), m) else Gu (nz (10 : Int32)) <| Gu (nz (10 : Int32)) <| bd1 (f_X6_inside F a1 m) fun r5 => bd1 (f_X6_bars F (a0 / (10 : Int32)) (remI a0 (10 : Int32)) (0 : Int32) a1 r5 m) fun r7 => if r7 = 0 then Gu (nz (10 : Int32)) <| Gu (inB (rI m 0 14) 5) <| Lt (wI m 6 (ix (rI m 0 14)) (a0 / (10 : Int32))) fun m9 => Gu (nz (10 : Int32)) <| Gu (inB (rI m9 0 14) 5) <| Lt (wI m9 7 (ix (rI m9 0 14)) (remI a0 (10 : Int32))) fun m10 => Gu (inB (rI m10 0 14) 5) <| Lt (wI m10 8 (ix (rI m10 0 14)) a1) fun m11 => Gu (inB (rI m11 0 14) 5) <| Lt (wI m11 9 (ix (rI m11 0 14)) (0 : Int32)) fun m12 => f_X6_thing_L117 (fun x3_13 m14 => Lt (wI m14 0 14 ((rI m14 0 14) + (1 : Int32))) fun m18 => some ((rI m18 0 14) - (1 : Int32), m18)) F (0 : Int32) m12 else some ((-3 : Int32), m)

def f_X6_isThing  (a0 : Int32) (m : MM) : Option Int32 := bd1 (f_X6_in (Int32.toInt64 a0) (0 : Int64) (Int32.toInt64 ((rI m 0 14) - (1 : Int32))) m) fun r1 => Gu (bz r1) <| some r1

def f_X6_set (F : Nat)  (a0 : Int32) (a1 : Int32) (a2 : Int32) (m : MM) : Option (Int32 × MM) := bd1 (f_X6_in (Int32.toInt64 a0) (0 : Int64) (3 : Int64) m) fun r1 => if r1 = 0 then some ((-100 : Int32), m) else Jp (Jp (Jp (Jp (fun s6 => if a0 = 0 then Lt (wI m 0 16 a2) fun m8 => some (s6, m8) else if a0 = (1 : Int32) then Lt (wI m 0 15 a2) fun m9 => some (s6, m9) else if a0 = (2 : Int32) then Gu (inB a1 5) <| Lt (wI m 5 (ix a1) a2) fun m10 => bd1 (f_X6_inside F a1 m10) fun r11 => bd1 (f_X6_sizeOf F r11 m10) fun r13 => bd1 (f_X6_roomOf a1 m10) fun r15 => if r13 ≤ r15 then some (s6, m10) else Gu (inB a1 5) <| Lt (wI m10 5 (ix a1) s6) fun m17 => some ((-3 : Int32), m17) else Jp (Gu (inB a1 5) <| Lt (wI m 7 (ix a1) a2) fun m19 => some (s6, m19)) fun J18 => if a2 = (1 : Int32) then Gu (inB a1 5) <| bd1 (f_X6_wetOf (rI m 8 (ix a1)) m) fun r20 => if r20 = (1 : Int32) then some ((-3 : Int32), m) else J18 else J18) fun J7 => if a0 = 0 then J7 (rI m 0 16) else if a0 = (1 : Int32) then J7 (rI m 0 15) else if a0 = (2 : Int32) then Gu (inB a1 5) <| J7 (rI m 5 (ix a1)) else Gu (inB a1 5) <| J7 (rI m 7 (ix a1))) fun J5 => if a0 = (1 : Int32) then if a2 = (-1 : Int32) then J5 else bd1 (f_X6_isThing a2 m) fun r22 => if r22 = 0 then some ((-100 : Int32), m) else J5 else Jp (fun s24 => bd1 (f_X6_in (Int32.toInt64 a2) (0 : Int64) s24 m) fun r26 => if r26 = 0 then some ((-100 : Int32), m) else J5) fun J25 => if a0 = 0 then J25 (3 : Int64) else if a0 = (2 : Int32) then J25 (9 : Int64) else J25 (1 : Int64)) fun J4 => if a0 = (3 : Int32) then bd1 (f_X6_isThing a1 m) fun r28 => if r28 = 0 then some ((-100 : Int32), m) else J4 else J4) fun J3 => if a0 = (2 : Int32) then bd1 (f_X6_isHold a1 m) fun r30 => if r30 = 0 then some ((-100 : Int32), m) else J3 else J3

def f_X6_part  (a0 : Int32) (a1 : Int32) (a2 : Int32) (m : MM) : Option (Int32 × MM) := bd1 (f_X6_isThing a0 m) fun r1 => if r1 = 0 then some ((-2 : Int32), m) else bd1 (f_X6_isThing a1 m) fun r3 => if r3 = 0 then some ((-2 : Int32), m) else if a0 = a1 then some ((-2 : Int32), m) else bd1 (f_X6_in (Int32.toInt64 a2) (0 : Int64) (1 : Int64) m) fun r5 => if r5 = 0 then some ((-2 : Int32), m) else Jp (Gu (inB a0 5) <| Lt ((shrI (rI m 9 (ix a0)) a1) &&& (1 : Int32)) fun x4_8 => Gu (inB a0 5) <| Gu (inB a0 5) <| Lt (wI m 9 (ix a0) (((rI m 9 (ix a0)) &&& ((shlI (1 : Int32) a1) ^^^ (-1 : Int32))) ||| (shlI a2 a1))) fun m9 => Gu (inB a1 5) <| Gu (inB a1 5) <| Lt (wI m9 9 (ix a1) (((rI m9 9 (ix a1)) &&& ((shlI (1 : Int32) a0) ^^^ (-1 : Int32))) ||| (shlI a2 a0))) fun m10 => some (x4_8, m10)) fun J7 => if a2 = (1 : Int32) then Gu (inB a0 5) <| Gu (inB a1 5) <| if (rI m 8 (ix a0)) = (rI m 8 (ix a1)) then some ((-3 : Int32), m) else J7 else J7

def f_X6_opensOf  (a0 : Int32) (m : MM) : Option Int32 := Gu (inB a0 5) <| if (rI m 4 (ix a0)) = (1 : Int32) then some (1 : Int32) else some (0 : Int32)

def f_X6_told (F : Nat)  (a0 : Int32) (a1 : Int32) (m : MM) : Option Int32 := bd1 (f_X6_in (Int32.toInt64 a1) (0 : Int64) (11 : Int64) m) fun r1 => if r1 = 0 then some (-100 : Int32) else Jp (if (6 : Int32) ≤ a1 then if (8 : Int32) ≤ a1 then if a1 = (8 : Int32) then Gu (inB a0 5) <| some (rI m 6 (ix a0)) else if a1 = (9 : Int32) then Gu (inB a0 5) <| some (rI m 7 (ix a0)) else if a1 = (10 : Int32) then Gu (inB a0 5) <| some (rI m 8 (ix a0)) else Gu (inB a0 5) <| some (rI m 9 (ix a0)) else if a1 = (6 : Int32) then bd1 (f_X6_inside F a0 m) fun r4 => some r4 else bd1 (f_X6_roomOf a0 m) fun r6 => bd1 (f_X6_inside F a0 m) fun r8 => bd1 (f_X6_sizeOf F r8 m) fun r10 => some (r6 - r10) else if a1 = 0 then Gu (inB a0 5) <| some (rI m 4 (ix a0)) else if a1 = (1 : Int32) then Gu (inB a0 5) <| some (rI m 5 (ix a0)) else if a1 = (2 : Int32) then bd1 (f_X6_roomOf a0 m) fun r12 => some r12 else if a1 = (3 : Int32) then bd1 (f_X6_mostOf a0 m) fun r14 => some r14 else if a1 = (4 : Int32) then bd1 (f_X6_wetOf a0 m) fun r16 => some r16 else bd1 (f_X6_opensOf a0 m) fun r18 => some r18) fun J3 => if (8 : Int32) ≤ a1 then bd1 (f_X6_isThing a0 m) fun r20 => if r20 = 0 then some (-100 : Int32) else J3 else bd1 (f_X6_isHold a0 m) fun r22 => if r22 = 0 then some (-100 : Int32) else J3

def f_X6_feed  (a0 : Int32) (m : MM) : Option (Int32 × MM) := bd1 (f_X6_in (Int32.toInt64 a0) (0 : Int64) (255 : Int64) m) fun r1 => if r1 = 0 then some ((-2 : Int32), m) else if (rI m 0 6) = (160 : Int32) then some ((-4 : Int32), m) else Gu (inB (rI m 0 6) 160) <| Lt (wI m 3 (ix (rI m 0 6)) a0) fun m3 => Lt (wI m3 0 6 ((rI m3 0 6) + (1 : Int32))) fun m4 => some (rI m4 0 6, m4)

def f_X6_byteAt  (a0 : Int32) (m : MM) : Option Int32 := if (rI m 0 26) ≤ a0 then some (-1 : Int32) else Gu (inB ((rI m 0 25) + a0) 960) <| some (rI m 1 (ix ((rI m 0 25) + a0)))

def f_X6_next_L160  (K : Int32 → MM → Option MM) : Nat → Int32 → MM → Option MM
  | 0, _, _ => none
  | n + 1, x2_23, m24 => bd1 (f_X6_byteAt (rI m24 0 27) m24) fun r26 => bd1 (f_X6_in (Int32.toInt64 r26) (48 : Int64) (57 : Int64) m24) fun r28 => if r28 = 0 then K x2_23 m24 else Jp (fun s30 => Lt (wL m24 0 30 s30) fun m32 => Lt (x2_23 + (1 : Int32)) fun x2_33 => Lt (wI m32 0 27 ((rI m32 0 27) + (1 : Int32))) fun m34 => f_X6_next_L160 K n x2_33 m34) fun J31 => if (4 : Int32) ≤ x2_23 then J31 (rL m24 0 30) else bd1 (f_X6_byteAt (rI m24 0 27) m24) fun r35 => J31 ((((10 : Int64) * (rL m24 0 30)) + (Int32.toInt64 r35)) - (48 : Int64))

def f_X6_next_L100  (K : MM → Option MM) : Nat → MM → Option MM
  | 0, _ => none
  | n + 1, m41 => bd1 (f_X6_byteAt (rI m41 0 27) m41) fun r43 => bd1 (f_X6_in (Int32.toInt64 r43) (97 : Int64) (122 : Int64) m41) fun r45 => if r45 = 0 then some m41 else Lt (wI m41 0 27 ((rI m41 0 27) + (1 : Int32))) fun m47 => f_X6_next_L100 K n m47

def f_X6_next_L0  (K : MM → Option MM) : Nat → MM → Option MM
  | 0, _ => none
  | n + 1, m1 => bd1 (f_X6_byteAt (rI m1 0 27) m1) fun r3 => Jp (Lt (wI m1 0 27 ((rI m1 0 27) + (1 : Int32))) fun m6 => f_X6_next_L0 K n m6) fun J5 => if r3 = (32 : Int32) then J5 else bd1 (f_X6_byteAt (rI m1 0 27) m1) fun r7 => if r7 = (10 : Int32) then J5 else K m1

def f_X6_next (F : Nat)   (m : MM) : Option MM := f_X6_next_L0 (fun m1 => Lt (wI m1 0 29 (rI m1 0 27)) fun m9 => bd1 (f_X6_byteAt (rI m9 0 27) m9) fun r10 => Lt (wI m9 0 28 (4 : Int32)) fun m12 => if 0 ≤ r10 then bd1 (f_X6_in (Int32.toInt64 r10) (97 : Int64) (122 : Int64) m12) fun r13 => if r13 = 0 then bd1 (f_X6_in (Int32.toInt64 r10) (48 : Int64) (57 : Int64) m12) fun r15 => if r15 = 0 then Jp (Lt (wI m12 0 28 (3 : Int32)) fun m18 => Lt (wL m18 0 30 (Int32.toInt64 r10)) fun m19 => Lt (wI m19 0 27 ((rI m19 0 27) + (1 : Int32))) fun m20 => some m20) fun J17 => if r10 = (40 : Int32) then J17 else if r10 = (41 : Int32) then J17 else if r10 = (59 : Int32) then J17 else if r10 = (43 : Int32) then J17 else if r10 = (45 : Int32) then J17 else if r10 = (42 : Int32) then J17 else if r10 = (60 : Int32) then J17 else if r10 = (61 : Int32) then J17 else some m12 else Lt (wI m12 0 28 (2 : Int32)) fun m21 => Lt (wL m21 0 30 (0 : Int64)) fun m22 => f_X6_next_L160 (fun x2_23 m24 => Jp (fun s37 => Lt (wI m24 0 28 s37) fun m39 => some m39) fun J38 => if x2_23 ≤ (4 : Int32) then J38 (2 : Int32) else J38 (4 : Int32)) F (0 : Int32) m22 else Lt (wI m12 0 28 (1 : Int32)) fun m40 => f_X6_next_L100 (fun m41 => none) F m40 else Lt (wI m12 0 28 (0 : Int32)) fun m48 => Lt (wI m48 0 29 (rI m48 0 26)) fun m49 => some m49) F m

def f_X6_isLetter  (a0 : Int32) (a1 : Int32) (m : MM) : Option Int32 := if (rI m 0 27) ≤ ((rI m 0 29) + a0) then if a1 = 0 then some (1 : Int32) else some (0 : Int32) else bd1 (f_X6_byteAt ((rI m 0 29) + a0) m) fun r1 => if r1 = a1 then some (1 : Int32) else some (0 : Int32)

def f_X6_isWord  (a0 : Int32) (a1 : Int32) (a2 : Int32) (a3 : Int32) (a4 : Int32) (a5 : Int32) (a6 : Int32) (a7 : Int32) (m : MM) : Option Int32 := if (rI m 0 32) = 0 then if (rI m 0 28) = (1 : Int32) then if ((rI m 0 29) + (8 : Int32)) < (rI m 0 27) then some (0 : Int32) else bd1 (f_X6_isLetter (0 : Int32) a0 m) fun r1 => if r1 = 0 then some (0 : Int32) else bd1 (f_X6_isLetter (1 : Int32) a1 m) fun r3 => if r3 = 0 then some (0 : Int32) else bd1 (f_X6_isLetter (2 : Int32) a2 m) fun r5 => if r5 = 0 then some (0 : Int32) else bd1 (f_X6_isLetter (3 : Int32) a3 m) fun r7 => if r7 = 0 then some (0 : Int32) else bd1 (f_X6_isLetter (4 : Int32) a4 m) fun r9 => if r9 = 0 then some (0 : Int32) else bd1 (f_X6_isLetter (5 : Int32) a5 m) fun r11 => if r11 = 0 then some (0 : Int32) else bd1 (f_X6_isLetter (6 : Int32) a6 m) fun r13 => if r13 = 0 then some (0 : Int32) else bd1 (f_X6_isLetter (7 : Int32) a7 m) fun r15 => if r15 = 0 then some (0 : Int32) else some (1 : Int32) else some (0 : Int32) else some (0 : Int32)

def f_X6_fail   (m : MM) : Option MM := if (rI m 0 32) = 0 then Gu (bz (1 : Int32)) <| Lt (wI m 0 32 (1 : Int32)) fun m1 => Lt (wI m1 0 33 (rI m1 0 29)) fun m2 => some m2 else some m

def f_X6_opens (F : Nat)   (m : MM) : Option (Int32 × MM) := if (rI m 0 31) = (5 : Int32) then bd1 (f_X6_fail m) fun m2 => some ((0 : Int32), m2) else Lt (wI m 0 31 ((rI m 0 31) + (1 : Int32))) fun m3 => bd1 (f_X6_next F m3) fun m5 => some ((1 : Int32), m5)

def f_X6_isSign  (a0 : Int32) (m : MM) : Option Int32 := if (rI m 0 32) = 0 then if (rI m 0 28) = (3 : Int32) then if (lg_cmp (rL m 0 30) (Int32.toInt64 a0)) = 0 then some (1 : Int32) else some (0 : Int32) else some (0 : Int32) else some (0 : Int32)

def f_X6_name   (m : MM) : Option (Int32 × MM) := bd1 (f_X6_isWord (115 : Int32) (105 : Int32) (122 : Int32) (101 : Int32) (0 : Int32) (0 : Int32) (0 : Int32) (0 : Int32) m) fun r1 => if r1 = 0 then bd1 (f_X6_isWord (102 : Int32) (114 : Int32) (111 : Int32) (109 : Int32) (0 : Int32) (0 : Int32) (0 : Int32) (0 : Int32) m) fun r3 => if r3 = 0 then bd1 (f_X6_isWord (116 : Int32) (111 : Int32) (0 : Int32) (0 : Int32) (0 : Int32) (0 : Int32) (0 : Int32) (0 : Int32) m) fun r5 => if r5 = 0 then bd1 (f_X6_isWord (116 : Int32) (104 : Int32) (105 : Int32) (110 : Int32) (103 : Int32) (0 : Int32) (0 : Int32) (0 : Int32) m) fun r7 => if r7 = 0 then bd1 (f_X6_isWord (109 : Int32) (97 : Int32) (110 : Int32) (121 : Int32) (0 : Int32) (0 : Int32) (0 : Int32) (0 : Int32) m) fun r9 => if r9 = 0 then bd1 (f_X6_isWord (119 : Int32) (101 : Int32) (116 : Int32) (0 : Int32) (0 : Int32) (0 : Int32) (0 : Int32) (0 : Int32) m) fun r11 => if r11 = 0 then bd1 (f_X6_fail m) fun m14 => some ((0 : Int32), m14) else some (rI m 0 24, m) else some (rI m 0 23, m) else some (rI m 0 22, m) else some (rI m 0 21, m) else some (rI m 0 20, m) else some (rI m 0 19, m)

def f_X6_atom5 (F : Nat)   (m : MM) : Option (Int32 × MM) := bd1 (f_X6_isSign (45 : Int32) m) fun r1 => if r1 = 0 then bd1 (f_X6_isSign (40 : Int32) m) fun r3 => if r3 = 0 then Jp (Jp (bd1 (f_X6_fail m) fun m8 => some ((0 : Int32), m8)) fun J6 => if (rI m 0 32) = 0 then if (rI m 0 28) = (1 : Int32) then bd2 (f_X6_name m) fun r9 m11 => if (rI m11 0 32) = 0 then bd1 (f_X6_next F m11) fun m13 => some (r9, m13) else some (r9, m11) else J6 else J6) fun J5 => if (rI m 0 32) = 0 then if (rI m 0 28) = (2 : Int32) then Lt (Int64.toInt32 (rL m 0 30)) fun x1_14 => bd1 (f_X6_next F m) fun m16 => some (x1_14, m16) else J5 else J5 else bd2 (f_X6_opens F m) fun r17 m19 => some ((0 : Int32), m19) else bd2 (f_X6_opens F m) fun r20 m22 => some ((0 : Int32), m22)

def f_X6_term5_L5 (F : Nat) (K : Int32 → MM → Option (Int32 × MM)) : Nat → Int32 → MM → Option (Int32 × MM)
  | 0, _, _ => none
  | n + 1, x1_4, m5 => bd1 (f_X6_isSign (42 : Int32) m5) fun r7 => if r7 = 0 then K x1_4 m5 else bd1 (f_X6_next F m5) fun m10 => bd2 (f_X6_atom5 F m10) fun r11 m13 => Lt (x1_4 * r11) fun x1_14 => f_X6_term5_L5 F K n x1_14 m13

def f_X6_term5 (F : Nat)   (m : MM) : Option (Int32 × MM) := bd2 (f_X6_atom5 F m) fun r1 m3 => f_X6_term5_L5 F (fun x1_4 m5 => some (x1_4, m5)) F r1 m3

def f_X6_added5_L5 (F : Nat) (K : Int32 → MM → Option (Int32 × MM)) : Nat → Int32 → MM → Option (Int32 × MM)
  | 0, _, _ => none
  | n + 1, x1_4, m5 => bd1 (f_X6_isSign (43 : Int32) m5) fun r7 => Jp (Jp (fun s10 => bd1 (f_X6_next F m5) fun m13 => bd2 (f_X6_term5 F m13) fun r14 m16 => Jp (fun s17 => f_X6_added5_L5 F K n s17 m16) fun J18 => if s10 = 0 then J18 (x1_4 - r14) else J18 (x1_4 + r14)) fun J11 => if (lg_cmp (rL m5 0 30) (43 : Int64)) = 0 then J11 (1 : Int32) else J11 (0 : Int32)) fun J9 => if r7 = 0 then bd1 (f_X6_isSign (45 : Int32) m5) fun r19 => if r19 = 0 then K x1_4 m5 else J9 else J9

def f_X6_added5 (F : Nat)   (m : MM) : Option (Int32 × MM) := bd2 (f_X6_term5 F m) fun r1 m3 => f_X6_added5_L5 F (fun x1_4 m5 => some (x1_4, m5)) F r1 m3

def f_X6_not5 (F : Nat)   (m : MM) : Option (Int32 × MM) := bd1 (f_X6_isWord (110 : Int32) (111 : Int32) (116 : Int32) (0 : Int32) (0 : Int32) (0 : Int32) (0 : Int32) (0 : Int32) m) fun r1 => if r1 = 0 then bd2 (f_X6_added5 F m) fun r3 m5 => bd1 (f_X6_isSign (60 : Int32) m5) fun r6 => Jp (Jp (fun s9 => bd1 (f_X6_next F m5) fun m12 => bd2 (f_X6_added5 F m12) fun r13 m15 => if s9 = 0 then if r3 = r13 then some ((1 : Int32), m15) else some ((0 : Int32), m15) else if r13 ≤ r3 then some ((0 : Int32), m15) else some ((1 : Int32), m15)) fun J10 => if (lg_cmp (rL m5 0 30) (60 : Int64)) = 0 then J10 (1 : Int32) else J10 (0 : Int32)) fun J8 => if r6 = 0 then bd1 (f_X6_isSign (61 : Int32) m5) fun r16 => if r16 = 0 then some (r3, m5) else J8 else J8 else bd2 (f_X6_opens F m) fun r18 m20 => some ((0 : Int32), m20)

def f_X6_both5_L5 (F : Nat) (K : Int32 → MM → Option (Int32 × MM)) : Nat → Int32 → MM → Option (Int32 × MM)
  | 0, _, _ => none
  | n + 1, x1_4, m5 => bd1 (f_X6_isWord (97 : Int32) (110 : Int32) (100 : Int32) (0 : Int32) (0 : Int32) (0 : Int32) (0 : Int32) (0 : Int32) m5) fun r7 => if r7 = 0 then K x1_4 m5 else bd1 (f_X6_next F m5) fun m10 => bd2 (f_X6_not5 F m10) fun r11 m13 => Jp (fun s14 => f_X6_both5_L5 F K n s14 m13) fun J15 => Jp (J15 (0 : Int32)) fun J16 => if x1_4 = 0 then J16 else if r11 = 0 then J16 else J15 (1 : Int32)

def f_X6_both5 (F : Nat)   (m : MM) : Option (Int32 × MM) := bd2 (f_X6_not5 F m) fun r1 m3 => f_X6_both5_L5 F (fun x1_4 m5 => some (x1_4, m5)) F r1 m3

def f_X6_either5_L5 (F : Nat) (K : Int32 → MM → Option (Int32 × MM)) : Nat → Int32 → MM → Option (Int32 × MM)
  | 0, _, _ => none
  | n + 1, x1_4, m5 => bd1 (f_X6_isWord (111 : Int32) (114 : Int32) (0 : Int32) (0 : Int32) (0 : Int32) (0 : Int32) (0 : Int32) (0 : Int32) m5) fun r7 => if r7 = 0 then K x1_4 m5 else bd1 (f_X6_next F m5) fun m10 => bd2 (f_X6_both5 F m10) fun r11 m13 => Jp (fun s14 => f_X6_either5_L5 F K n s14 m13) fun J15 => Jp (J15 (1 : Int32)) fun J16 => if x1_4 = 0 then if r11 = 0 then J15 (0 : Int32) else J16 else J16

def f_X6_either5 (F : Nat)   (m : MM) : Option (Int32 × MM) := bd2 (f_X6_both5 F m) fun r1 m3 => f_X6_either5_L5 F (fun x1_4 m5 => some (x1_4, m5)) F r1 m3

def f_X6_atom4 (F : Nat)   (m : MM) : Option (Int32 × MM) := bd1 (f_X6_isSign (45 : Int32) m) fun r1 => if r1 = 0 then bd1 (f_X6_isSign (40 : Int32) m) fun r3 => if r3 = 0 then Jp (Jp (bd1 (f_X6_fail m) fun m8 => some ((0 : Int32), m8)) fun J6 => if (rI m 0 32) = 0 then if (rI m 0 28) = (1 : Int32) then bd2 (f_X6_name m) fun r9 m11 => if (rI m11 0 32) = 0 then bd1 (f_X6_next F m11) fun m13 => some (r9, m13) else some (r9, m11) else J6 else J6) fun J5 => if (rI m 0 32) = 0 then if (rI m 0 28) = (2 : Int32) then Lt (Int64.toInt32 (rL m 0 30)) fun x1_14 => bd1 (f_X6_next F m) fun m16 => some (x1_14, m16) else J5 else J5 else bd2 (f_X6_opens F m) fun r17 m19 => if r17 = 0 then some ((0 : Int32), m19) else bd2 (f_X6_either5 F m19) fun r20 m22 => bd1 (f_X6_isSign (41 : Int32) m22) fun r23 => Jp (fun m25 => Lt (wI m25 0 31 ((rI m25 0 31) - (1 : Int32))) fun m27 => if (rI m27 0 32) = 0 then bd1 (f_X6_next F m27) fun m29 => some (r20, m29) else some (r20, m27)) fun J26 => if r23 = 0 then bd1 (f_X6_fail m22) fun m31 => J26 m31 else J26 m22 else bd2 (f_X6_opens F m) fun r32 m34 => if r32 = 0 then some ((0 : Int32), m34) else bd2 (f_X6_atom5 F m34) fun r35 m37 => Lt (wI m37 0 31 ((rI m37 0 31) - (1 : Int32))) fun m38 => some (-r35, m38)

def f_X6_term4_L5 (F : Nat) (K : Int32 → MM → Option (Int32 × MM)) : Nat → Int32 → MM → Option (Int32 × MM)
  | 0, _, _ => none
  | n + 1, x1_4, m5 => bd1 (f_X6_isSign (42 : Int32) m5) fun r7 => if r7 = 0 then K x1_4 m5 else bd1 (f_X6_next F m5) fun m10 => bd2 (f_X6_atom4 F m10) fun r11 m13 => Lt (x1_4 * r11) fun x1_14 => f_X6_term4_L5 F K n x1_14 m13

def f_X6_term4 (F : Nat)   (m : MM) : Option (Int32 × MM) := bd2 (f_X6_atom4 F m) fun r1 m3 => f_X6_term4_L5 F (fun x1_4 m5 => some (x1_4, m5)) F r1 m3

def f_X6_added4_L5 (F : Nat) (K : Int32 → MM → Option (Int32 × MM)) : Nat → Int32 → MM → Option (Int32 × MM)
  | 0, _, _ => none
  | n + 1, x1_4, m5 => bd1 (f_X6_isSign (43 : Int32) m5) fun r7 => Jp (Jp (fun s10 => bd1 (f_X6_next F m5) fun m13 => bd2 (f_X6_term4 F m13) fun r14 m16 => Jp (fun s17 => f_X6_added4_L5 F K n s17 m16) fun J18 => if s10 = 0 then J18 (x1_4 - r14) else J18 (x1_4 + r14)) fun J11 => if (lg_cmp (rL m5 0 30) (43 : Int64)) = 0 then J11 (1 : Int32) else J11 (0 : Int32)) fun J9 => if r7 = 0 then bd1 (f_X6_isSign (45 : Int32) m5) fun r19 => if r19 = 0 then K x1_4 m5 else J9 else J9

def f_X6_added4 (F : Nat)   (m : MM) : Option (Int32 × MM) := bd2 (f_X6_term4 F m) fun r1 m3 => f_X6_added4_L5 F (fun x1_4 m5 => some (x1_4, m5)) F r1 m3

def f_X6_not4 (F : Nat)   (m : MM) : Option (Int32 × MM) := bd1 (f_X6_isWord (110 : Int32) (111 : Int32) (116 : Int32) (0 : Int32) (0 : Int32) (0 : Int32) (0 : Int32) (0 : Int32) m) fun r1 => if r1 = 0 then bd2 (f_X6_added4 F m) fun r3 m5 => bd1 (f_X6_isSign (60 : Int32) m5) fun r6 => Jp (Jp (fun s9 => bd1 (f_X6_next F m5) fun m12 => bd2 (f_X6_added4 F m12) fun r13 m15 => if s9 = 0 then if r3 = r13 then some ((1 : Int32), m15) else some ((0 : Int32), m15) else if r13 ≤ r3 then some ((0 : Int32), m15) else some ((1 : Int32), m15)) fun J10 => if (lg_cmp (rL m5 0 30) (60 : Int64)) = 0 then J10 (1 : Int32) else J10 (0 : Int32)) fun J8 => if r6 = 0 then bd1 (f_X6_isSign (61 : Int32) m5) fun r16 => if r16 = 0 then some (r3, m5) else J8 else J8 else bd2 (f_X6_opens F m) fun r18 m20 => if r18 = 0 then some ((0 : Int32), m20) else bd2 (f_X6_not5 F m20) fun r21 m23 => Lt (wI m23 0 31 ((rI m23 0 31) - (1 : Int32))) fun m24 => if r21 = 0 then some ((1 : Int32), m24) else some ((0 : Int32), m24)

def f_X6_both4_L5 (F : Nat) (K : Int32 → MM → Option (Int32 × MM)) : Nat → Int32 → MM → Option (Int32 × MM)
  | 0, _, _ => none
  | n + 1, x1_4, m5 => bd1 (f_X6_isWord (97 : Int32) (110 : Int32) (100 : Int32) (0 : Int32) (0 : Int32) (0 : Int32) (0 : Int32) (0 : Int32) m5) fun r7 => if r7 = 0 then K x1_4 m5 else bd1 (f_X6_next F m5) fun m10 => bd2 (f_X6_not4 F m10) fun r11 m13 => Jp (fun s14 => f_X6_both4_L5 F K n s14 m13) fun J15 => Jp (J15 (0 : Int32)) fun J16 => if x1_4 = 0 then J16 else if r11 = 0 then J16 else J15 (1 : Int32)

def f_X6_both4 (F : Nat)   (m : MM) : Option (Int32 × MM) := bd2 (f_X6_not4 F m) fun r1 m3 => f_X6_both4_L5 F (fun x1_4 m5 => some (x1_4, m5)) F r1 m3

def f_X6_either4_L5 (F : Nat) (K : Int32 → MM → Option (Int32 × MM)) : Nat → Int32 → MM → Option (Int32 × MM)
  | 0, _, _ => none
  | n + 1, x1_4, m5 => bd1 (f_X6_isWord (111 : Int32) (114 : Int32) (0 : Int32) (0 : Int32) (0 : Int32) (0 : Int32) (0 : Int32) (0 : Int32) m5) fun r7 => if r7 = 0 then K x1_4 m5 else bd1 (f_X6_next F m5) fun m10 => bd2 (f_X6_both4 F m10) fun r11 m13 => Jp (fun s14 => f_X6_either4_L5 F K n s14 m13) fun J15 => Jp (J15 (1 : Int32)) fun J16 => if x1_4 = 0 then if r11 = 0 then J15 (0 : Int32) else J16 else J16

def f_X6_either4 (F : Nat)   (m : MM) : Option (Int32 × MM) := bd2 (f_X6_both4 F m) fun r1 m3 => f_X6_either4_L5 F (fun x1_4 m5 => some (x1_4, m5)) F r1 m3

def f_X6_atom3 (F : Nat)   (m : MM) : Option (Int32 × MM) := bd1 (f_X6_isSign (45 : Int32) m) fun r1 => if r1 = 0 then bd1 (f_X6_isSign (40 : Int32) m) fun r3 => if r3 = 0 then Jp (Jp (bd1 (f_X6_fail m) fun m8 => some ((0 : Int32), m8)) fun J6 => if (rI m 0 32) = 0 then if (rI m 0 28) = (1 : Int32) then bd2 (f_X6_name m) fun r9 m11 => if (rI m11 0 32) = 0 then bd1 (f_X6_next F m11) fun m13 => some (r9, m13) else some (r9, m11) else J6 else J6) fun J5 => if (rI m 0 32) = 0 then if (rI m 0 28) = (2 : Int32) then Lt (Int64.toInt32 (rL m 0 30)) fun x1_14 => bd1 (f_X6_next F m) fun m16 => some (x1_14, m16) else J5 else J5 else bd2 (f_X6_opens F m) fun r17 m19 => if r17 = 0 then some ((0 : Int32), m19) else bd2 (f_X6_either4 F m19) fun r20 m22 => bd1 (f_X6_isSign (41 : Int32) m22) fun r23 => Jp (fun m25 => Lt (wI m25 0 31 ((rI m25 0 31) - (1 : Int32))) fun m27 => if (rI m27 0 32) = 0 then bd1 (f_X6_next F m27) fun m29 => some (r20, m29) else some (r20, m27)) fun J26 => if r23 = 0 then bd1 (f_X6_fail m22) fun m31 => J26 m31 else J26 m22 else bd2 (f_X6_opens F m) fun r32 m34 => if r32 = 0 then some ((0 : Int32), m34) else bd2 (f_X6_atom4 F m34) fun r35 m37 => Lt (wI m37 0 31 ((rI m37 0 31) - (1 : Int32))) fun m38 => some (-r35, m38)

def f_X6_term3_L5 (F : Nat) (K : Int32 → MM → Option (Int32 × MM)) : Nat → Int32 → MM → Option (Int32 × MM)
  | 0, _, _ => none
  | n + 1, x1_4, m5 => bd1 (f_X6_isSign (42 : Int32) m5) fun r7 => if r7 = 0 then K x1_4 m5 else bd1 (f_X6_next F m5) fun m10 => bd2 (f_X6_atom3 F m10) fun r11 m13 => Lt (x1_4 * r11) fun x1_14 => f_X6_term3_L5 F K n x1_14 m13

def f_X6_term3 (F : Nat)   (m : MM) : Option (Int32 × MM) := bd2 (f_X6_atom3 F m) fun r1 m3 => f_X6_term3_L5 F (fun x1_4 m5 => some (x1_4, m5)) F r1 m3

def f_X6_added3_L5 (F : Nat) (K : Int32 → MM → Option (Int32 × MM)) : Nat → Int32 → MM → Option (Int32 × MM)
  | 0, _, _ => none
  | n + 1, x1_4, m5 => bd1 (f_X6_isSign (43 : Int32) m5) fun r7 => Jp (Jp (fun s10 => bd1 (f_X6_next F m5) fun m13 => bd2 (f_X6_term3 F m13) fun r14 m16 => Jp (fun s17 => f_X6_added3_L5 F K n s17 m16) fun J18 => if s10 = 0 then J18 (x1_4 - r14) else J18 (x1_4 + r14)) fun J11 => if (lg_cmp (rL m5 0 30) (43 : Int64)) = 0 then J11 (1 : Int32) else J11 (0 : Int32)) fun J9 => if r7 = 0 then bd1 (f_X6_isSign (45 : Int32) m5) fun r19 => if r19 = 0 then K x1_4 m5 else J9 else J9

def f_X6_added3 (F : Nat)   (m : MM) : Option (Int32 × MM) := bd2 (f_X6_term3 F m) fun r1 m3 => f_X6_added3_L5 F (fun x1_4 m5 => some (x1_4, m5)) F r1 m3

def f_X6_not3 (F : Nat)   (m : MM) : Option (Int32 × MM) := bd1 (f_X6_isWord (110 : Int32) (111 : Int32) (116 : Int32) (0 : Int32) (0 : Int32) (0 : Int32) (0 : Int32) (0 : Int32) m) fun r1 => if r1 = 0 then bd2 (f_X6_added3 F m) fun r3 m5 => bd1 (f_X6_isSign (60 : Int32) m5) fun r6 => Jp (Jp (fun s9 => bd1 (f_X6_next F m5) fun m12 => bd2 (f_X6_added3 F m12) fun r13 m15 => if s9 = 0 then if r3 = r13 then some ((1 : Int32), m15) else some ((0 : Int32), m15) else if r13 ≤ r3 then some ((0 : Int32), m15) else some ((1 : Int32), m15)) fun J10 => if (lg_cmp (rL m5 0 30) (60 : Int64)) = 0 then J10 (1 : Int32) else J10 (0 : Int32)) fun J8 => if r6 = 0 then bd1 (f_X6_isSign (61 : Int32) m5) fun r16 => if r16 = 0 then some (r3, m5) else J8 else J8 else bd2 (f_X6_opens F m) fun r18 m20 => if r18 = 0 then some ((0 : Int32), m20) else bd2 (f_X6_not4 F m20) fun r21 m23 => Lt (wI m23 0 31 ((rI m23 0 31) - (1 : Int32))) fun m24 => if r21 = 0 then some ((1 : Int32), m24) else some ((0 : Int32), m24)

def f_X6_both3_L5 (F : Nat) (K : Int32 → MM → Option (Int32 × MM)) : Nat → Int32 → MM → Option (Int32 × MM)
  | 0, _, _ => none
  | n + 1, x1_4, m5 => bd1 (f_X6_isWord (97 : Int32) (110 : Int32) (100 : Int32) (0 : Int32) (0 : Int32) (0 : Int32) (0 : Int32) (0 : Int32) m5) fun r7 => if r7 = 0 then K x1_4 m5 else bd1 (f_X6_next F m5) fun m10 => bd2 (f_X6_not3 F m10) fun r11 m13 => Jp (fun s14 => f_X6_both3_L5 F K n s14 m13) fun J15 => Jp (J15 (0 : Int32)) fun J16 => if x1_4 = 0 then J16 else if r11 = 0 then J16 else J15 (1 : Int32)

def f_X6_both3 (F : Nat)   (m : MM) : Option (Int32 × MM) := bd2 (f_X6_not3 F m) fun r1 m3 => f_X6_both3_L5 F (fun x1_4 m5 => some (x1_4, m5)) F r1 m3

def f_X6_either3_L5 (F : Nat) (K : Int32 → MM → Option (Int32 × MM)) : Nat → Int32 → MM → Option (Int32 × MM)
  | 0, _, _ => none
  | n + 1, x1_4, m5 => bd1 (f_X6_isWord (111 : Int32) (114 : Int32) (0 : Int32) (0 : Int32) (0 : Int32) (0 : Int32) (0 : Int32) (0 : Int32) m5) fun r7 => if r7 = 0 then K x1_4 m5 else bd1 (f_X6_next F m5) fun m10 => bd2 (f_X6_both3 F m10) fun r11 m13 => Jp (fun s14 => f_X6_either3_L5 F K n s14 m13) fun J15 => Jp (J15 (1 : Int32)) fun J16 => if x1_4 = 0 then if r11 = 0 then J15 (0 : Int32) else J16 else J16

def f_X6_either3 (F : Nat)   (m : MM) : Option (Int32 × MM) := bd2 (f_X6_both3 F m) fun r1 m3 => f_X6_either3_L5 F (fun x1_4 m5 => some (x1_4, m5)) F r1 m3

def f_X6_atom2 (F : Nat)   (m : MM) : Option (Int32 × MM) := bd1 (f_X6_isSign (45 : Int32) m) fun r1 => if r1 = 0 then bd1 (f_X6_isSign (40 : Int32) m) fun r3 => if r3 = 0 then Jp (Jp (bd1 (f_X6_fail m) fun m8 => some ((0 : Int32), m8)) fun J6 => if (rI m 0 32) = 0 then if (rI m 0 28) = (1 : Int32) then bd2 (f_X6_name m) fun r9 m11 => if (rI m11 0 32) = 0 then bd1 (f_X6_next F m11) fun m13 => some (r9, m13) else some (r9, m11) else J6 else J6) fun J5 => if (rI m 0 32) = 0 then if (rI m 0 28) = (2 : Int32) then Lt (Int64.toInt32 (rL m 0 30)) fun x1_14 => bd1 (f_X6_next F m) fun m16 => some (x1_14, m16) else J5 else J5 else bd2 (f_X6_opens F m) fun r17 m19 => if r17 = 0 then some ((0 : Int32), m19) else bd2 (f_X6_either3 F m19) fun r20 m22 => bd1 (f_X6_isSign (41 : Int32) m22) fun r23 => Jp (fun m25 => Lt (wI m25 0 31 ((rI m25 0 31) - (1 : Int32))) fun m27 => if (rI m27 0 32) = 0 then bd1 (f_X6_next F m27) fun m29 => some (r20, m29) else some (r20, m27)) fun J26 => if r23 = 0 then bd1 (f_X6_fail m22) fun m31 => J26 m31 else J26 m22 else bd2 (f_X6_opens F m) fun r32 m34 => if r32 = 0 then some ((0 : Int32), m34) else bd2 (f_X6_atom3 F m34) fun r35 m37 => Lt (wI m37 0 31 ((rI m37 0 31) - (1 : Int32))) fun m38 => some (-r35, m38)

def f_X6_term2_L5 (F : Nat) (K : Int32 → MM → Option (Int32 × MM)) : Nat → Int32 → MM → Option (Int32 × MM)
  | 0, _, _ => none
  | n + 1, x1_4, m5 => bd1 (f_X6_isSign (42 : Int32) m5) fun r7 => if r7 = 0 then K x1_4 m5 else bd1 (f_X6_next F m5) fun m10 => bd2 (f_X6_atom2 F m10) fun r11 m13 => Lt (x1_4 * r11) fun x1_14 => f_X6_term2_L5 F K n x1_14 m13

def f_X6_term2 (F : Nat)   (m : MM) : Option (Int32 × MM) := bd2 (f_X6_atom2 F m) fun r1 m3 => f_X6_term2_L5 F (fun x1_4 m5 => some (x1_4, m5)) F r1 m3

def f_X6_added2_L5 (F : Nat) (K : Int32 → MM → Option (Int32 × MM)) : Nat → Int32 → MM → Option (Int32 × MM)
  | 0, _, _ => none
  | n + 1, x1_4, m5 => bd1 (f_X6_isSign (43 : Int32) m5) fun r7 => Jp (Jp (fun s10 => bd1 (f_X6_next F m5) fun m13 => bd2 (f_X6_term2 F m13) fun r14 m16 => Jp (fun s17 => f_X6_added2_L5 F K n s17 m16) fun J18 => if s10 = 0 then J18 (x1_4 - r14) else J18 (x1_4 + r14)) fun J11 => if (lg_cmp (rL m5 0 30) (43 : Int64)) = 0 then J11 (1 : Int32) else J11 (0 : Int32)) fun J9 => if r7 = 0 then bd1 (f_X6_isSign (45 : Int32) m5) fun r19 => if r19 = 0 then K x1_4 m5 else J9 else J9

def f_X6_added2 (F : Nat)   (m : MM) : Option (Int32 × MM) := bd2 (f_X6_term2 F m) fun r1 m3 => f_X6_added2_L5 F (fun x1_4 m5 => some (x1_4, m5)) F r1 m3

def f_X6_not2 (F : Nat)   (m : MM) : Option (Int32 × MM) := bd1 (f_X6_isWord (110 : Int32) (111 : Int32) (116 : Int32) (0 : Int32) (0 : Int32) (0 : Int32) (0 : Int32) (0 : Int32) m) fun r1 => if r1 = 0 then bd2 (f_X6_added2 F m) fun r3 m5 => bd1 (f_X6_isSign (60 : Int32) m5) fun r6 => Jp (Jp (fun s9 => bd1 (f_X6_next F m5) fun m12 => bd2 (f_X6_added2 F m12) fun r13 m15 => if s9 = 0 then if r3 = r13 then some ((1 : Int32), m15) else some ((0 : Int32), m15) else if r13 ≤ r3 then some ((0 : Int32), m15) else some ((1 : Int32), m15)) fun J10 => if (lg_cmp (rL m5 0 30) (60 : Int64)) = 0 then J10 (1 : Int32) else J10 (0 : Int32)) fun J8 => if r6 = 0 then bd1 (f_X6_isSign (61 : Int32) m5) fun r16 => if r16 = 0 then some (r3, m5) else J8 else J8 else bd2 (f_X6_opens F m) fun r18 m20 => if r18 = 0 then some ((0 : Int32), m20) else bd2 (f_X6_not3 F m20) fun r21 m23 => Lt (wI m23 0 31 ((rI m23 0 31) - (1 : Int32))) fun m24 => if r21 = 0 then some ((1 : Int32), m24) else some ((0 : Int32), m24)

def f_X6_both2_L5 (F : Nat) (K : Int32 → MM → Option (Int32 × MM)) : Nat → Int32 → MM → Option (Int32 × MM)
  | 0, _, _ => none
  | n + 1, x1_4, m5 => bd1 (f_X6_isWord (97 : Int32) (110 : Int32) (100 : Int32) (0 : Int32) (0 : Int32) (0 : Int32) (0 : Int32) (0 : Int32) m5) fun r7 => if r7 = 0 then K x1_4 m5 else bd1 (f_X6_next F m5) fun m10 => bd2 (f_X6_not2 F m10) fun r11 m13 => Jp (fun s14 => f_X6_both2_L5 F K n s14 m13) fun J15 => Jp (J15 (0 : Int32)) fun J16 => if x1_4 = 0 then J16 else if r11 = 0 then J16 else J15 (1 : Int32)

def f_X6_both2 (F : Nat)   (m : MM) : Option (Int32 × MM) := bd2 (f_X6_not2 F m) fun r1 m3 => f_X6_both2_L5 F (fun x1_4 m5 => some (x1_4, m5)) F r1 m3

def f_X6_either2_L5 (F : Nat) (K : Int32 → MM → Option (Int32 × MM)) : Nat → Int32 → MM → Option (Int32 × MM)
  | 0, _, _ => none
  | n + 1, x1_4, m5 => bd1 (f_X6_isWord (111 : Int32) (114 : Int32) (0 : Int32) (0 : Int32) (0 : Int32) (0 : Int32) (0 : Int32) (0 : Int32) m5) fun r7 => if r7 = 0 then K x1_4 m5 else bd1 (f_X6_next F m5) fun m10 => bd2 (f_X6_both2 F m10) fun r11 m13 => Jp (fun s14 => f_X6_either2_L5 F K n s14 m13) fun J15 => Jp (J15 (1 : Int32)) fun J16 => if x1_4 = 0 then if r11 = 0 then J15 (0 : Int32) else J16 else J16

def f_X6_either2 (F : Nat)   (m : MM) : Option (Int32 × MM) := bd2 (f_X6_both2 F m) fun r1 m3 => f_X6_either2_L5 F (fun x1_4 m5 => some (x1_4, m5)) F r1 m3

def f_X6_atom1 (F : Nat)   (m : MM) : Option (Int32 × MM) := bd1 (f_X6_isSign (45 : Int32) m) fun r1 => if r1 = 0 then bd1 (f_X6_isSign (40 : Int32) m) fun r3 => if r3 = 0 then Jp (Jp (bd1 (f_X6_fail m) fun m8 => some ((0 : Int32), m8)) fun J6 => if (rI m 0 32) = 0 then if (rI m 0 28) = (1 : Int32) then bd2 (f_X6_name m) fun r9 m11 => if (rI m11 0 32) = 0 then bd1 (f_X6_next F m11) fun m13 => some (r9, m13) else some (r9, m11) else J6 else J6) fun J5 => if (rI m 0 32) = 0 then if (rI m 0 28) = (2 : Int32) then Lt (Int64.toInt32 (rL m 0 30)) fun x1_14 => bd1 (f_X6_next F m) fun m16 => some (x1_14, m16) else J5 else J5 else bd2 (f_X6_opens F m) fun r17 m19 => if r17 = 0 then some ((0 : Int32), m19) else bd2 (f_X6_either2 F m19) fun r20 m22 => bd1 (f_X6_isSign (41 : Int32) m22) fun r23 => Jp (fun m25 => Lt (wI m25 0 31 ((rI m25 0 31) - (1 : Int32))) fun m27 => if (rI m27 0 32) = 0 then bd1 (f_X6_next F m27) fun m29 => some (r20, m29) else some (r20, m27)) fun J26 => if r23 = 0 then bd1 (f_X6_fail m22) fun m31 => J26 m31 else J26 m22 else bd2 (f_X6_opens F m) fun r32 m34 => if r32 = 0 then some ((0 : Int32), m34) else bd2 (f_X6_atom2 F m34) fun r35 m37 => Lt (wI m37 0 31 ((rI m37 0 31) - (1 : Int32))) fun m38 => some (-r35, m38)

def f_X6_term1_L5 (F : Nat) (K : Int32 → MM → Option (Int32 × MM)) : Nat → Int32 → MM → Option (Int32 × MM)
  | 0, _, _ => none
  | n + 1, x1_4, m5 => bd1 (f_X6_isSign (42 : Int32) m5) fun r7 => if r7 = 0 then K x1_4 m5 else bd1 (f_X6_next F m5) fun m10 => bd2 (f_X6_atom1 F m10) fun r11 m13 => Lt (x1_4 * r11) fun x1_14 => f_X6_term1_L5 F K n x1_14 m13

def f_X6_term1 (F : Nat)   (m : MM) : Option (Int32 × MM) := bd2 (f_X6_atom1 F m) fun r1 m3 => f_X6_term1_L5 F (fun x1_4 m5 => some (x1_4, m5)) F r1 m3

def f_X6_added1_L5 (F : Nat) (K : Int32 → MM → Option (Int32 × MM)) : Nat → Int32 → MM → Option (Int32 × MM)
  | 0, _, _ => none
  | n + 1, x1_4, m5 => bd1 (f_X6_isSign (43 : Int32) m5) fun r7 => Jp (Jp (fun s10 => bd1 (f_X6_next F m5) fun m13 => bd2 (f_X6_term1 F m13) fun r14 m16 => Jp (fun s17 => f_X6_added1_L5 F K n s17 m16) fun J18 => if s10 = 0 then J18 (x1_4 - r14) else J18 (x1_4 + r14)) fun J11 => if (lg_cmp (rL m5 0 30) (43 : Int64)) = 0 then J11 (1 : Int32) else J11 (0 : Int32)) fun J9 => if r7 = 0 then bd1 (f_X6_isSign (45 : Int32) m5) fun r19 => if r19 = 0 then K x1_4 m5 else J9 else J9

def f_X6_added1 (F : Nat)   (m : MM) : Option (Int32 × MM) := bd2 (f_X6_term1 F m) fun r1 m3 => f_X6_added1_L5 F (fun x1_4 m5 => some (x1_4, m5)) F r1 m3

def f_X6_not1 (F : Nat)   (m : MM) : Option (Int32 × MM) := bd1 (f_X6_isWord (110 : Int32) (111 : Int32) (116 : Int32) (0 : Int32) (0 : Int32) (0 : Int32) (0 : Int32) (0 : Int32) m) fun r1 => if r1 = 0 then bd2 (f_X6_added1 F m) fun r3 m5 => bd1 (f_X6_isSign (60 : Int32) m5) fun r6 => Jp (Jp (fun s9 => bd1 (f_X6_next F m5) fun m12 => bd2 (f_X6_added1 F m12) fun r13 m15 => if s9 = 0 then if r3 = r13 then some ((1 : Int32), m15) else some ((0 : Int32), m15) else if r13 ≤ r3 then some ((0 : Int32), m15) else some ((1 : Int32), m15)) fun J10 => if (lg_cmp (rL m5 0 30) (60 : Int64)) = 0 then J10 (1 : Int32) else J10 (0 : Int32)) fun J8 => if r6 = 0 then bd1 (f_X6_isSign (61 : Int32) m5) fun r16 => if r16 = 0 then some (r3, m5) else J8 else J8 else bd2 (f_X6_opens F m) fun r18 m20 => if r18 = 0 then some ((0 : Int32), m20) else bd2 (f_X6_not2 F m20) fun r21 m23 => Lt (wI m23 0 31 ((rI m23 0 31) - (1 : Int32))) fun m24 => if r21 = 0 then some ((1 : Int32), m24) else some ((0 : Int32), m24)

def f_X6_both1_L5 (F : Nat) (K : Int32 → MM → Option (Int32 × MM)) : Nat → Int32 → MM → Option (Int32 × MM)
  | 0, _, _ => none
  | n + 1, x1_4, m5 => bd1 (f_X6_isWord (97 : Int32) (110 : Int32) (100 : Int32) (0 : Int32) (0 : Int32) (0 : Int32) (0 : Int32) (0 : Int32) m5) fun r7 => if r7 = 0 then K x1_4 m5 else bd1 (f_X6_next F m5) fun m10 => bd2 (f_X6_not1 F m10) fun r11 m13 => Jp (fun s14 => f_X6_both1_L5 F K n s14 m13) fun J15 => Jp (J15 (0 : Int32)) fun J16 => if x1_4 = 0 then J16 else if r11 = 0 then J16 else J15 (1 : Int32)

def f_X6_both1 (F : Nat)   (m : MM) : Option (Int32 × MM) := bd2 (f_X6_not1 F m) fun r1 m3 => f_X6_both1_L5 F (fun x1_4 m5 => some (x1_4, m5)) F r1 m3

def f_X6_either1_L5 (F : Nat) (K : Int32 → MM → Option (Int32 × MM)) : Nat → Int32 → MM → Option (Int32 × MM)
  | 0, _, _ => none
  | n + 1, x1_4, m5 => bd1 (f_X6_isWord (111 : Int32) (114 : Int32) (0 : Int32) (0 : Int32) (0 : Int32) (0 : Int32) (0 : Int32) (0 : Int32) m5) fun r7 => if r7 = 0 then K x1_4 m5 else bd1 (f_X6_next F m5) fun m10 => bd2 (f_X6_both1 F m10) fun r11 m13 => Jp (fun s14 => f_X6_either1_L5 F K n s14 m13) fun J15 => Jp (J15 (1 : Int32)) fun J16 => if x1_4 = 0 then if r11 = 0 then J15 (0 : Int32) else J16 else J16

def f_X6_either1 (F : Nat)   (m : MM) : Option (Int32 × MM) := bd2 (f_X6_both1 F m) fun r1 m3 => f_X6_either1_L5 F (fun x1_4 m5 => some (x1_4, m5)) F r1 m3

def f_X6_atom0 (F : Nat)   (m : MM) : Option (Int32 × MM) := bd1 (f_X6_isSign (45 : Int32) m) fun r1 => if r1 = 0 then bd1 (f_X6_isSign (40 : Int32) m) fun r3 => if r3 = 0 then Jp (Jp (bd1 (f_X6_fail m) fun m8 => some ((0 : Int32), m8)) fun J6 => if (rI m 0 32) = 0 then if (rI m 0 28) = (1 : Int32) then bd2 (f_X6_name m) fun r9 m11 => if (rI m11 0 32) = 0 then bd1 (f_X6_next F m11) fun m13 => some (r9, m13) else some (r9, m11) else J6 else J6) fun J5 => if (rI m 0 32) = 0 then if (rI m 0 28) = (2 : Int32) then Lt (Int64.toInt32 (rL m 0 30)) fun x1_14 => bd1 (f_X6_next F m) fun m16 => some (x1_14, m16) else J5 else J5 else bd2 (f_X6_opens F m) fun r17 m19 => if r17 = 0 then some ((0 : Int32), m19) else bd2 (f_X6_either1 F m19) fun r20 m22 => bd1 (f_X6_isSign (41 : Int32) m22) fun r23 => Jp (fun m25 => Lt (wI m25 0 31 ((rI m25 0 31) - (1 : Int32))) fun m27 => if (rI m27 0 32) = 0 then bd1 (f_X6_next F m27) fun m29 => some (r20, m29) else some (r20, m27)) fun J26 => if r23 = 0 then bd1 (f_X6_fail m22) fun m31 => J26 m31 else J26 m22 else bd2 (f_X6_opens F m) fun r32 m34 => if r32 = 0 then some ((0 : Int32), m34) else bd2 (f_X6_atom1 F m34) fun r35 m37 => Lt (wI m37 0 31 ((rI m37 0 31) - (1 : Int32))) fun m38 => some (-r35, m38)

def f_X6_term0_L5 (F : Nat) (K : Int32 → MM → Option (Int32 × MM)) : Nat → Int32 → MM → Option (Int32 × MM)
  | 0, _, _ => none
  | n + 1, x1_4, m5 => bd1 (f_X6_isSign (42 : Int32) m5) fun r7 => if r7 = 0 then K x1_4 m5 else bd1 (f_X6_next F m5) fun m10 => bd2 (f_X6_atom0 F m10) fun r11 m13 => Lt (x1_4 * r11) fun x1_14 => f_X6_term0_L5 F K n x1_14 m13

def f_X6_term0 (F : Nat)   (m : MM) : Option (Int32 × MM) := bd2 (f_X6_atom0 F m) fun r1 m3 => f_X6_term0_L5 F (fun x1_4 m5 => some (x1_4, m5)) F r1 m3

def f_X6_added0_L5 (F : Nat) (K : Int32 → MM → Option (Int32 × MM)) : Nat → Int32 → MM → Option (Int32 × MM)
  | 0, _, _ => none
  | n + 1, x1_4, m5 => bd1 (f_X6_isSign (43 : Int32) m5) fun r7 => Jp (Jp (fun s10 => bd1 (f_X6_next F m5) fun m13 => bd2 (f_X6_term0 F m13) fun r14 m16 => Jp (fun s17 => f_X6_added0_L5 F K n s17 m16) fun J18 => if s10 = 0 then J18 (x1_4 - r14) else J18 (x1_4 + r14)) fun J11 => if (lg_cmp (rL m5 0 30) (43 : Int64)) = 0 then J11 (1 : Int32) else J11 (0 : Int32)) fun J9 => if r7 = 0 then bd1 (f_X6_isSign (45 : Int32) m5) fun r19 => if r19 = 0 then K x1_4 m5 else J9 else J9

def f_X6_added0 (F : Nat)   (m : MM) : Option (Int32 × MM) := bd2 (f_X6_term0 F m) fun r1 m3 => f_X6_added0_L5 F (fun x1_4 m5 => some (x1_4, m5)) F r1 m3

def f_X6_not0 (F : Nat)   (m : MM) : Option (Int32 × MM) := bd1 (f_X6_isWord (110 : Int32) (111 : Int32) (116 : Int32) (0 : Int32) (0 : Int32) (0 : Int32) (0 : Int32) (0 : Int32) m) fun r1 => if r1 = 0 then bd2 (f_X6_added0 F m) fun r3 m5 => bd1 (f_X6_isSign (60 : Int32) m5) fun r6 => Jp (Jp (fun s9 => bd1 (f_X6_next F m5) fun m12 => bd2 (f_X6_added0 F m12) fun r13 m15 => if s9 = 0 then if r3 = r13 then some ((1 : Int32), m15) else some ((0 : Int32), m15) else if r13 ≤ r3 then some ((0 : Int32), m15) else some ((1 : Int32), m15)) fun J10 => if (lg_cmp (rL m5 0 30) (60 : Int64)) = 0 then J10 (1 : Int32) else J10 (0 : Int32)) fun J8 => if r6 = 0 then bd1 (f_X6_isSign (61 : Int32) m5) fun r16 => if r16 = 0 then some (r3, m5) else J8 else J8 else bd2 (f_X6_opens F m) fun r18 m20 => if r18 = 0 then some ((0 : Int32), m20) else bd2 (f_X6_not1 F m20) fun r21 m23 => Lt (wI m23 0 31 ((rI m23 0 31) - (1 : Int32))) fun m24 => if r21 = 0 then some ((1 : Int32), m24) else some ((0 : Int32), m24)

def f_X6_both0_L5 (F : Nat) (K : Int32 → MM → Option (Int32 × MM)) : Nat → Int32 → MM → Option (Int32 × MM)
  | 0, _, _ => none
  | n + 1, x1_4, m5 => bd1 (f_X6_isWord (97 : Int32) (110 : Int32) (100 : Int32) (0 : Int32) (0 : Int32) (0 : Int32) (0 : Int32) (0 : Int32) m5) fun r7 => if r7 = 0 then K x1_4 m5 else bd1 (f_X6_next F m5) fun m10 => bd2 (f_X6_not0 F m10) fun r11 m13 => Jp (fun s14 => f_X6_both0_L5 F K n s14 m13) fun J15 => Jp (J15 (0 : Int32)) fun J16 => if x1_4 = 0 then J16 else if r11 = 0 then J16 else J15 (1 : Int32)

def f_X6_both0 (F : Nat)   (m : MM) : Option (Int32 × MM) := bd2 (f_X6_not0 F m) fun r1 m3 => f_X6_both0_L5 F (fun x1_4 m5 => some (x1_4, m5)) F r1 m3

def f_X6_either0_L5 (F : Nat) (K : Int32 → MM → Option (Int32 × MM)) : Nat → Int32 → MM → Option (Int32 × MM)
  | 0, _, _ => none
  | n + 1, x1_4, m5 => bd1 (f_X6_isWord (111 : Int32) (114 : Int32) (0 : Int32) (0 : Int32) (0 : Int32) (0 : Int32) (0 : Int32) (0 : Int32) m5) fun r7 => if r7 = 0 then K x1_4 m5 else bd1 (f_X6_next F m5) fun m10 => bd2 (f_X6_both0 F m10) fun r11 m13 => Jp (fun s14 => f_X6_either0_L5 F K n s14 m13) fun J15 => Jp (J15 (1 : Int32)) fun J16 => if x1_4 = 0 then if r11 = 0 then J15 (0 : Int32) else J16 else J16

def f_X6_either0 (F : Nat)   (m : MM) : Option (Int32 × MM) := bd2 (f_X6_both0 F m) fun r1 m3 => f_X6_either0_L5 F (fun x1_4 m5 => some (x1_4, m5)) F r1 m3

def f_X6_part_ (F : Nat)  (a0 : Int32) (m : MM) : Option (Int32 × MM) := Jp (fun m1 => Jp (fun m3 => Jp (fun s5 m6 => bd1 (f_X6_isSign (59 : Int32) m6) fun r8 => Jp (fun m10 => if (rI m10 0 32) = 0 then bd1 (f_X6_next F m10) fun m13 => some (s5, m13) else some (s5, m10)) fun J11 => if r8 = 0 then bd1 (f_X6_fail m6) fun m15 => J11 m15 else J11 m6) fun J7 => if (rI m3 0 32) = 0 then bd2 (f_X6_either0 F m3) fun r16 m18 => J7 r16 m18 else J7 (0 : Int32) m3) fun J4 => if (rI m1 0 32) = 0 then bd1 (f_X6_next F m1) fun m20 => J4 m20 else J4 m1) fun J2 => if a0 = 0 then bd1 (f_X6_fail m) fun m22 => J2 m22 else J2 m

def f_X6_read (F : Nat)  (a0 : Int32) (a1 : Int32) (m : MM) : Option (Int32 × MM) := Lt (wI m 0 25 ((160 : Int32) * a0)) fun m1 => Gu (inB a0 6) <| Lt (wI m1 0 26 (rI m1 2 (ix a0))) fun m2 => Lt (wI m2 0 27 (0 : Int32)) fun m3 => Lt (wI m3 0 31 (0 : Int32)) fun m4 => Gu (bz (0 : Int32)) <| Lt (wI m4 0 32 (0 : Int32)) fun m5 => bd1 (f_X6_next F m5) fun m7 => bd1 (f_X6_isWord (99 : Int32) (111 : Int32) (115 : Int32) (116 : Int32) (115 : Int32) (0 : Int32) (0 : Int32) (0 : Int32) m7) fun r8 => bd2 (f_X6_part_ F r8 m7) fun r10 m12 => Jp (fun s13 m14 => Jp (fun s16 m17 => Jp (fun m19 => if a1 = 0 then some (r10, m19) else if a1 = (1 : Int32) then some (s13, m19) else some (s16, m19)) fun J20 => if (rI m17 0 32) = 0 then if (rI m17 0 28) = 0 then J20 m17 else bd1 (f_X6_fail m17) fun m22 => J20 m22 else J20 m17) fun J18 => if (rI m14 0 32) = 0 then bd1 (f_X6_isWord (119 : Int32) (111 : Int32) (114 : Int32) (116 : Int32) (104 : Int32) (0 : Int32) (0 : Int32) (0 : Int32) m14) fun r23 => bd2 (f_X6_part_ F r23 m14) fun r25 m27 => J18 r25 m27 else J18 (0 : Int32) m14) fun J15 => if (rI m12 0 32) = 0 then bd1 (f_X6_isWord (98 : Int32) (101 : Int32) (108 : Int32) (108 : Int32) (0 : Int32) (0 : Int32) (0 : Int32) (0 : Int32) m12) fun r28 => bd2 (f_X6_part_ F r28 m12) fun r30 m32 => J15 r30 m32 else J15 (0 : Int32) m12

def f_X6_text_L14  (K : Int32 → MM → Option (Int32 × MM)) : Nat → Int32 → MM → Option (Int32 × MM)
  | 0, _, _ => none
  | n + 1, x1_1, m2 => if (rI m2 0 6) ≤ x1_1 then K x1_1 m2 else Gu (inB x1_1 160) <| Gu (inB (((160 : Int32) * (rI m2 0 3)) + x1_1) 960) <| Lt (wI m2 1 (ix (((160 : Int32) * (rI m2 0 3)) + x1_1)) (rI m2 3 (ix x1_1))) fun m4 => Lt (x1_1 + (1 : Int32)) fun x1_5 => f_X6_text_L14 K n x1_5 m4

def f_X6_text (F : Nat)   (m : MM) : Option (Int32 × MM) := if (rI m 0 3) = (6 : Int32) then some ((-4 : Int32), m) else f_X6_text_L14 (fun x1_1 m2 => Gu (inB (rI m2 0 3) 6) <| Lt (wI m2 2 (ix (rI m2 0 3)) (rI m2 0 6)) fun m6 => Lt (wI m6 0 6 (0 : Int32)) fun m7 => bd2 (f_X6_read F (rI m7 0 3) (0 : Int32) m7) fun r8 m10 => if (rI m10 0 32) = 0 then Lt (wI m10 0 3 ((rI m10 0 3) + (1 : Int32))) fun m11 => some ((rI m11 0 3) - (1 : Int32), m11) else some ((-100 : Int32) - (rI m10 0 33), m10)) F (0 : Int32) m

def f_X6_force  (a0 : Int32) (m : MM) : Option (Int32 × MM) := bd1 (f_X6_in (Int32.toInt64 a0) (0 : Int64) (Int32.toInt64 ((rI m 0 3) - (1 : Int32))) m) fun r1 => if r1 = 0 then some ((-2 : Int32), m) else Lt (rI m 0 4) fun x2_3 => Lt (wI m 0 4 a0) fun m4 => some (x2_3, m4)

def f_X6_barsThing (F : Nat)  (a0 : Int32) (a1 : Int32) (m : MM) : Option Int32 := Gu (inB a0 5) <| Gu (inB a0 5) <| Gu (inB a0 5) <| bd1 (f_X6_inside F a1 m) fun r1 => bd1 (f_X6_bars F (rI m 6 (ix a0)) (rI m 7 (ix a0)) (rI m 9 (ix a0)) a1 (r1 &&& ((shlI (1 : Int32) a0) ^^^ (-1 : Int32))) m) fun r3 => some r3

def f_X6_canGo (F : Nat)  (a0 : Int32) (a1 : Int32) (m : MM) : Option Int32 := if a0 = (rI m 0 18) then some (0 : Int32) else Gu (inB a0 5) <| if (rI m 8 (ix a0)) = a1 then some (0 : Int32) else bd1 (f_X6_barsThing F a0 a1 m) fun r1 => if r1 = 0 then some (1 : Int32) else some (0 : Int32)

def f_X6_within  (a0 : Int32) (a1 : Int32) (a2 : Int32) (m : MM) : Option Int32 := if a1 ≤ a0 then if a0 ≤ a2 then some a0 else some a2 else some a1

def f_X6_says (F : Nat)  (a0 : Int32) (a1 : Int32) (a2 : Int32) (a3 : Int32) (m : MM) : Option (Int32 × MM) := Jp (fun s1 => Lt (wI m 0 19 s1) fun m3 => Lt (wI m3 0 20 a2) fun m4 => Lt (wI m4 0 21 a3) fun m5 => Jp (fun s6 => Lt (wI m5 0 22 s6) fun m8 => Lt (wI m8 0 23 (rI m8 0 14)) fun m9 => Jp (fun s10 => Lt (wI m9 0 24 s10) fun m12 => bd2 (f_X6_read F (rI m12 0 4) a0 m12) fun r13 m15 => Jp (fun s16 => bd1 (f_X6_within r13 (0 : Int32) s16 m15) fun r18 => some (r18, m15)) fun J17 => if a0 = 0 then J17 (99 : Int32) else if a0 = (1 : Int32) then J17 (9999 : Int32) else J17 (999 : Int32)) fun J11 => if a0 = 0 then bd1 (f_X6_wetOf a3 m9) fun r20 => J11 r20 else J11 (0 : Int32)) fun J7 => if a0 = (1 : Int32) then J7 (0 : Int32) else J7 a1) fun J2 => if a0 = (1 : Int32) then J2 (0 : Int32) else Gu (inB a1 5) <| J2 (rI m 6 (ix a1))

def f_X6_move (F : Nat)  (a0 : Int32) (a1 : Int32) (m : MM) : Option (Int32 × MM) := bd1 (f_X6_isThing a0 m) fun r1 => if r1 = 0 then some ((-2 : Int32), m) else bd1 (f_X6_isHold a1 m) fun r3 => if r3 = 0 then some ((-2 : Int32), m) else bd1 (f_X6_canGo F a0 a1 m) fun r5 => if r5 = 0 then some ((-3 : Int32), m) else Gu (inB a0 5) <| bd2 (f_X6_says F (0 : Int32) a0 (rI m 8 (ix a0)) a1 m) fun r7 m9 => Gu (inB a0 5) <| Lt (wI m9 8 (ix a0) a1) fun m10 => some (r7, m10)

def f_X6_why (F : Nat)  (a0 : Int32) (a1 : Int32) (m : MM) : Option Int32 := bd1 (f_X6_isThing a0 m) fun r1 => if r1 = 0 then some (-2 : Int32) else bd1 (f_X6_isHold a1 m) fun r3 => if r3 = 0 then some (-2 : Int32) else Gu (inB a0 5) <| if (rI m 8 (ix a0)) = a1 then some (1 : Int32) else bd1 (f_X6_barsThing F a0 a1 m) fun r5 => some r5

def f_X6_isOpen_L30 (F : Nat) (m : MM) (K : Int32 → Int32 → Option Int32) : Nat → Int32 → Int32 → Option Int32
  | 0, _, _ => none
  | n + 1, x1_3, x2_4 => if (rI m 0 9) ≤ x2_4 then K x1_3 x2_4 else Gu (inB (rI m 0 15) 5) <| Jp (fun s6 => Lt (x1_3 + s6) fun x1_8 => Lt (x2_4 + (1 : Int32)) fun x2_9 => f_X6_isOpen_L30 F m K n x1_8 x2_9) fun J7 => Jp (J7 (0 : Int32)) fun J10 => if x2_4 = (rI m 8 (ix (rI m 0 15))) then J10 else bd1 (f_X6_opensOf x2_4 m) fun r11 => if r11 = (1 : Int32) then bd1 (f_X6_inside F x2_4 m) fun r13 => if r13 = 0 then J7 (1 : Int32) else J10 else J10

def f_X6_isOpen (F : Nat)   (m : MM) : Option Int32 := if (rI m 0 15) = (-1 : Int32) then some (0 : Int32) else Gu (inB (rI m 0 15) 5) <| bd1 (f_X6_opensOf (rI m 8 (ix (rI m 0 15))) m) fun r1 => if r1 = 0 then some (0 : Int32) else f_X6_isOpen_L30 F m (fun x1_3 x2_4 => if x1_3 < (rI m 0 16) then some (0 : Int32) else some (1 : Int32)) F (0 : Int32) (0 : Int32)

def f_X6_open_L41 (F : Nat) (m : MM) (K : Int32 → Int32 → Option Int32) : Nat → Int32 → Int32 → Option Int32
  | 0, _, _ => none
  | n + 1, x2_5, x3_6 => if (rI m 0 9) ≤ x3_6 then K x2_5 x3_6 else bd1 (f_X6_opensOf x3_6 m) fun r8 => Jp (fun s10 => Lt (x2_5 + s10) fun x2_12 => Lt (x3_6 + (1 : Int32)) fun x3_13 => f_X6_open_L41 F m K n x2_12 x3_13) fun J11 => Jp (J11 (0 : Int32)) fun J14 => if r8 = (1 : Int32) then bd1 (f_X6_inside F x3_6 m) fun r15 => if r15 = 0 then J11 (1 : Int32) else J14 else J14

def f_X6_open_L95 (F : Nat) (m : MM) (x3_18 : Int32) (K : Int32 → Int32 → Option Int32) : Nat → Int32 → Int32 → Option Int32
  | 0, _, _ => none
  | n + 1, x2_20, x4_21 => if (rI m 0 9) ≤ x4_21 then K x2_20 x4_21 else bd1 (f_X6_canGo F x3_18 x4_21 m) fun r23 => Jp (fun s25 => Lt (x2_20 + s25) fun x2_27 => Lt (x4_21 + (1 : Int32)) fun x4_28 => f_X6_open_L95 F m x3_18 K n x2_27 x4_28) fun J26 => if r23 = 0 then J26 (0 : Int32) else J26 (1 : Int32)

def f_X6_open_L84 (F : Nat) (m : MM) (K : Int32 → Int32 → Option Int32) : Nat → Int32 → Int32 → Option Int32
  | 0, _, _ => none
  | n + 1, x2_17, x3_18 => if (rI m 0 14) ≤ x3_18 then K x2_17 x3_18 else f_X6_open_L95 F m x3_18 (fun x2_20 x4_21 => Lt (x3_18 + (1 : Int32)) fun x3_29 => f_X6_open_L84 F m K n x2_20 x3_29) F x2_17 (0 : Int32)

def f_X6_open (F : Nat)  (a0 : Int32) (m : MM) : Option Int32 := bd1 (f_X6_in (Int32.toInt64 a0) (0 : Int64) (2 : Int64) m) fun r1 => if r1 = 0 then some (-2 : Int32) else if a0 = 0 then bd1 (f_X6_isOpen F m) fun r3 => if r3 = 0 then some (0 : Int32) else some (1 : Int32) else if a0 = (1 : Int32) then f_X6_open_L41 F m (fun x2_5 x3_6 => some x2_5) F (0 : Int32) (0 : Int32) else f_X6_open_L84 F m (fun x2_17 x3_18 => some x2_17) F (0 : Int32) (0 : Int32)

def f_X6_asks (F : Nat)  (a0 : Int32) (a1 : Int32) (a2 : Int32) (m : MM) : Option (Int32 × MM) := bd1 (f_X6_in (Int32.toInt64 a0) (0 : Int64) (2 : Int64) m) fun r1 => if r1 = 0 then some ((-1 : Int32), m) else Jp (Jp (if a0 = 0 then Gu (inB a1 5) <| bd2 (f_X6_says F (0 : Int32) a1 (rI m 8 (ix a1)) a2 m) fun r5 m7 => some (r5, m7) else if a0 = (1 : Int32) then bd2 (f_X6_says F (1 : Int32) (0 : Int32) (0 : Int32) (0 : Int32) m) fun r8 m10 => some (r8, m10) else Gu (inB a1 5) <| bd2 (f_X6_says F (2 : Int32) a1 (rI m 8 (ix a1)) (0 : Int32) m) fun r11 m13 => some (r11, m13)) fun J4 => if a0 = 0 then bd1 (f_X6_isHold a2 m) fun r14 => if r14 = 0 then some ((-1 : Int32), m) else J4 else J4) fun J3 => if a0 = (1 : Int32) then J3 else bd1 (f_X6_isThing a1 m) fun r16 => if r16 = 0 then some ((-1 : Int32), m) else J3

def f_X6_place  (a0 : Int32) (m : MM) : Option Int32 := if a0 = 0 then some (1 : Int32) else if a0 = (1 : Int32) then some (5 : Int32) else if a0 = (2 : Int32) then some (25 : Int32) else if a0 = (3 : Int32) then some (125 : Int32) else some (625 : Int32)

def f_X6_codeNow_L4 (m : MM) (K : Int32 → Int32 → Option Int32) : Nat → Int32 → Int32 → Option Int32
  | 0, _, _ => none
  | n + 1, x1_1, x2_2 => if (rI m 0 14) ≤ x2_2 then K x1_1 x2_2 else bd1 (f_X6_place x2_2 m) fun r4 => Gu (inB x2_2 5) <| Lt (x1_1 + (r4 * (rI m 8 (ix x2_2)))) fun x1_6 => Lt (x2_2 + (1 : Int32)) fun x2_7 => f_X6_codeNow_L4 m K n x1_6 x2_7

def f_X6_codeNow (F : Nat)   (m : MM) : Option Int32 := f_X6_codeNow_L4 m (fun x1_1 x2_2 => some x1_1) F (0 : Int32) (0 : Int32)

def f_X6_lays_L2 (a0 : Int32) (K : Int32 → MM → Option MM) : Nat → Int32 → MM → Option MM
  | 0, _, _ => none
  | n + 1, x2_1, m2 => if (rI m2 0 14) ≤ x2_1 then K x2_1 m2 else bd1 (f_X6_place x2_1 m2) fun r4 => Gu (nz r4) <| Gu (nz (5 : Int32)) <| Gu (inB x2_1 5) <| Lt (wI m2 8 (ix x2_1) (remI (a0 / r4) (5 : Int32))) fun m6 => Lt (x2_1 + (1 : Int32)) fun x2_7 => f_X6_lays_L2 a0 K n x2_7 m6

def f_X6_lays (F : Nat)  (a0 : Int32) (m : MM) : Option MM := f_X6_lays_L2 a0 (fun x2_1 m2 => some m2) F (0 : Int32) m

def f_X6_areWell_L2 (F : Nat) (m : MM) (K : Int32 → Option Int32) : Nat → Int32 → Option Int32
  | 0, _ => none
  | n + 1, x1_1 => if (rI m 0 14) ≤ x1_1 then K x1_1 else Gu (inB x1_1 5) <| bd1 (f_X6_isHold (rI m 8 (ix x1_1)) m) fun r3 => if r3 = 0 then some (0 : Int32) else if x1_1 = (rI m 0 18) then Lt (x1_1 + (1 : Int32)) fun x1_5 => f_X6_areWell_L2 F m K n x1_5 else Gu (inB x1_1 5) <| bd1 (f_X6_barsThing F x1_1 (rI m 8 (ix x1_1)) m) fun r6 => if r6 = 0 then Lt (x1_1 + (1 : Int32)) fun x1_8 => f_X6_areWell_L2 F m K n x1_8 else some (0 : Int32)

def f_X6_areWell (F : Nat)   (m : MM) : Option Int32 := f_X6_areWell_L2 F m (fun x1_1 => some (1 : Int32)) F (0 : Int32)

def f_X6_after  (a0 : Int32) (a1 : Int32) (a2 : Int32) (m : MM) : Option Int32 := bd1 (f_X6_place a1 m) fun r1 => bd1 (f_X6_place a1 m) fun r3 => Gu (nz r3) <| Gu (nz (5 : Int32)) <| some (a0 + (r1 * (a2 - (remI (a0 / r3) (5 : Int32)))))

def f_X6_eases_L25 (a0 : Int32) (x3_2 : Int32) (x4_7 : Int32) (K : Int32 → Int32 → MM → Option (Int32 × MM)) : Nat → Int32 → Int32 → MM → Option (Int32 × MM)
  | 0, _, _, _ => none
  | n + 1, x2_8, x5_9, m10 => if (rI m10 0 9) ≤ x5_9 then K x2_8 x5_9 m10 else if x3_2 = (rI m10 0 18) then K x2_8 x5_9 m10 else bd1 (f_X6_after a0 x3_2 x5_9 m10) fun r12 => if x5_9 = x4_7 then Lt (x5_9 + (1 : Int32)) fun x5_14 => f_X6_eases_L25 a0 x3_2 x4_7 K n x2_8 x5_14 m10 else Gu (inB r12 3125) <| if (rI m10 11 (ix r12)) = (1 : Int32) then Gu (inB r12 3125) <| Gu (inB a0 3125) <| Jp (fun x2_15 m16 => Gu (inB r12 3125) <| Gu (inB ((((25 : Int32) * x3_2) + ((5 : Int32) * x4_7)) + x5_9) 125) <| Gu (inB a0 3125) <| if (rI m16 13 (ix a0)) ≤ ((rI m16 13 (ix r12)) + (rI m16 14 (ix ((((25 : Int32) * x3_2) + ((5 : Int32) * x4_7)) + x5_9)))) then Lt (x5_9 + (1 : Int32)) fun x5_18 => f_X6_eases_L25 a0 x3_2 x4_7 K n x2_15 x5_18 m16 else Gu (inB r12 3125) <| Gu (inB ((((25 : Int32) * x3_2) + ((5 : Int32) * x4_7)) + x5_9) 125) <| Gu (inB a0 3125) <| Lt (wI m16 13 (ix a0) ((rI m16 13 (ix r12)) + (rI m16 14 (ix ((((25 : Int32) * x3_2) + ((5 : Int32) * x4_7)) + x5_9))))) fun m19 => Lt (x5_9 + (1 : Int32)) fun x5_20 => f_X6_eases_L25 a0 x3_2 x4_7 K n (1 : Int32) x5_20 m19) fun J17 => if (rI m10 12 (ix a0)) ≤ ((rI m10 12 (ix r12)) + (1 : Int32)) then J17 x2_8 m10 else Gu (inB r12 3125) <| Gu (inB a0 3125) <| Lt (wI m10 12 (ix a0) ((rI m10 12 (ix r12)) + (1 : Int32))) fun m21 => J17 (1 : Int32) m21 else Lt (x5_9 + (1 : Int32)) fun x5_22 => f_X6_eases_L25 a0 x3_2 x4_7 K n x2_8 x5_22 m10

def f_X6_eases_L4 (F : Nat) (a0 : Int32) (K : Int32 → Int32 → MM → Option (Int32 × MM)) : Nat → Int32 → Int32 → MM → Option (Int32 × MM)
  | 0, _, _, _ => none
  | n + 1, x2_1, x3_2, m3 => if (rI m3 0 14) ≤ x3_2 then K x2_1 x3_2 m3 else bd1 (f_X6_place x3_2 m3) fun r5 => Gu (nz r5) <| Gu (nz (5 : Int32)) <| Lt (remI (a0 / r5) (5 : Int32)) fun x4_7 => f_X6_eases_L25 a0 x3_2 x4_7 (fun x2_8 x5_9 m10 => Lt (x3_2 + (1 : Int32)) fun x3_23 => f_X6_eases_L4 F a0 K n x2_8 x3_23 m10) F x2_1 (0 : Int32) m3

def f_X6_eases (F : Nat)  (a0 : Int32) (m : MM) : Option (Int32 × MM) := f_X6_eases_L4 F a0 (fun x2_1 x3_2 m3 => Gu (bz x2_1) <| some (x2_1, m3)) F (0 : Int32) (0 : Int32) m

def f_X6_gathers_L53 (F : Nat) (x3_5 : Int32) (x4_8 : Int32) (K : Int32 → MM → Option MM) : Nat → Int32 → MM → Option MM
  | 0, _, _ => none
  | n + 1, x5_11, m12 => if (rI m12 0 9) ≤ x5_11 then K x5_11 m12 else bd2 (f_X6_says F (0 : Int32) x3_5 x4_8 x5_11 m12) fun r14 m16 => Gu (inB ((((25 : Int32) * x3_5) + ((5 : Int32) * x4_8)) + x5_11) 125) <| Lt (wI m16 14 (ix ((((25 : Int32) * x3_5) + ((5 : Int32) * x4_8)) + x5_11)) r14) fun m17 => Lt (x5_11 + (1 : Int32)) fun x5_18 => f_X6_gathers_L53 F x3_5 x4_8 K n x5_18 m17

def f_X6_gathers_L41 (F : Nat) (x3_5 : Int32) (K : Int32 → MM → Option MM) : Nat → Int32 → MM → Option MM
  | 0, _, _ => none
  | n + 1, x4_8, m9 => if (rI m9 0 9) ≤ x4_8 then K x4_8 m9 else f_X6_gathers_L53 F x3_5 x4_8 (fun x5_11 m12 => Lt (x4_8 + (1 : Int32)) fun x4_19 => f_X6_gathers_L41 F x3_5 K n x4_19 m12) F (0 : Int32) m9

def f_X6_gathers_L200 (F : Nat) (s3 : Int32) (K : Int32 → Int32 → MM → Option MM) : Nat → Int32 → Int32 → MM → Option MM
  | 0, _, _, _ => none
  | n + 1, x3_44, x4_45, m46 => if s3 ≤ x4_45 then K x3_44 x4_45 m46 else Gu (inB x4_45 3125) <| if (rI m46 11 (ix x4_45)) = (1 : Int32) then bd2 (f_X6_eases F x4_45 m46) fun r48 m50 => if r48 = 0 then Lt (x4_45 + (1 : Int32)) fun x4_51 => f_X6_gathers_L200 F s3 K n x3_44 x4_51 m50 else Lt (x4_45 + (1 : Int32)) fun x4_52 => f_X6_gathers_L200 F s3 K n (1 : Int32) x4_52 m50 else Lt (x4_45 + (1 : Int32)) fun x4_53 => f_X6_gathers_L200 F s3 K n x3_44 x4_53 m46

def f_X6_gathers_L191 (F : Nat) (s3 : Int32) (K : Int32 → MM → Option MM) : Nat → Int32 → MM → Option MM
  | 0, _, _ => none
  | n + 1, x3_41, m42 => if x3_41 = 0 then K x3_41 m42 else f_X6_gathers_L200 F s3 (fun x3_44 x4_45 m46 => f_X6_gathers_L191 F s3 K n x3_44 m46) F (0 : Int32) (0 : Int32) m42

def f_X6_gathers_L109 (F : Nat) (s3 : Int32) (K : Int32 → MM → Option MM) : Nat → Int32 → MM → Option MM
  | 0, _, _ => none
  | n + 1, x3_21, m22 => if s3 ≤ x3_21 then K x3_21 m22 else bd1 (f_X6_lays F x3_21 m22) fun m25 => bd1 (f_X6_areWell F m25) fun r26 => Jp (fun s28 => Gu (inB x3_21 3125) <| Lt (wI m25 11 (ix x3_21) s28) fun m30 => Jp (fun s31 => Gu (inB x3_21 3125) <| Lt (wI m30 12 (ix x3_21) s31) fun m33 => Gu (inB x3_21 3125) <| Gu (inB x3_21 3125) <| Lt (wI m33 13 (ix x3_21) (rI m33 12 (ix x3_21))) fun m34 => Lt (x3_21 + (1 : Int32)) fun x3_35 => f_X6_gathers_L109 F s3 K n x3_35 m34) fun J32 => Jp (J32 (99999999 : Int32)) fun J36 => if r26 = 0 then J36 else bd1 (f_X6_isOpen F m30) fun r37 => if r37 = 0 then J36 else J32 (0 : Int32)) fun J29 => if r26 = 0 then J29 (0 : Int32) else J29 (1 : Int32)

def f_X6_gathers_L30 (F : Nat) (K : Int32 → MM → Option MM) : Nat → Int32 → MM → Option MM
  | 0, _, _ => none
  | n + 1, x3_5, m6 => if (rI m6 0 14) ≤ x3_5 then K x3_5 m6 else f_X6_gathers_L41 F x3_5 (fun x4_8 m9 => Lt (x3_5 + (1 : Int32)) fun x3_20 => f_X6_gathers_L30 F K n x3_20 m9) F (0 : Int32) m6

def f_X6_gathers (F : Nat)   (m : MM) : Option MM := bd1 (f_X6_codeNow F m) fun r1 => Jp (fun s3 => f_X6_gathers_L30 F (fun x3_5 m6 => f_X6_gathers_L109 F s3 (fun x3_21 m22 => bd1 (f_X6_lays F r1 m22) fun m40 => f_X6_gathers_L191 F s3 (fun x3_41 m42 => some m42) F (1 : Int32) m40) F (0 : Int32) m6) F (0 : Int32) m) fun J4 => if (rI m 0 14) = 0 then J4 (1 : Int32) else bd1 (f_X6_place ((rI m 0 14) - (1 : Int32)) m) fun r54 => J4 (r54 * (5 : Int32))

def f_X6_told1  (a0 : Int32) (m : MM) : Option Int32 := if a0 < (99999999 : Int32) then some a0 else some (-1 : Int32)

def f_X6_moveBy_L41 (a0 : Int32) (m : MM) (r1 : Int32) (x3_3 : Int32) (K : Int32 → Option Int32) : Nat → Int32 → Option Int32
  | 0, _ => none
  | n + 1, x4_5 => if (rI m 0 9) ≤ x4_5 then K x4_5 else bd1 (f_X6_after r1 x3_3 x4_5 m) fun r7 => Gu (inB x3_3 5) <| if x4_5 = (rI m 8 (ix x3_3)) then Lt (x4_5 + (1 : Int32)) fun x4_9 => f_X6_moveBy_L41 a0 m r1 x3_3 K n x4_9 else Gu (inB r7 3125) <| if (rI m 11 (ix r7)) = (1 : Int32) then if a0 = 0 then Gu (inB r7 3125) <| Gu (inB r1 3125) <| if ((rI m 12 (ix r7)) + (1 : Int32)) = (rI m 12 (ix r1)) then some (((10 : Int32) * x3_3) + x4_5) else Lt (x4_5 + (1 : Int32)) fun x4_10 => f_X6_moveBy_L41 a0 m r1 x3_3 K n x4_10 else Gu (inB r7 3125) <| Gu (inB x3_3 5) <| Gu (inB ((((25 : Int32) * x3_3) + ((5 : Int32) * (rI m 8 (ix x3_3)))) + x4_5) 125) <| Gu (inB r1 3125) <| if ((rI m 13 (ix r7)) + (rI m 14 (ix ((((25 : Int32) * x3_3) + ((5 : Int32) * (rI m 8 (ix x3_3)))) + x4_5)))) = (rI m 13 (ix r1)) then some (((10 : Int32) * x3_3) + x4_5) else Lt (x4_5 + (1 : Int32)) fun x4_11 => f_X6_moveBy_L41 a0 m r1 x3_3 K n x4_11 else Lt (x4_5 + (1 : Int32)) fun x4_12 => f_X6_moveBy_L41 a0 m r1 x3_3 K n x4_12

def f_X6_moveBy_L30 (F : Nat) (a0 : Int32) (m : MM) (r1 : Int32) (K : Int32 → Option Int32) : Nat → Int32 → Option Int32
  | 0, _ => none
  | n + 1, x3_3 => if (rI m 0 14) ≤ x3_3 then K x3_3 else f_X6_moveBy_L41 a0 m r1 x3_3 (fun x4_5 => Lt (x3_3 + (1 : Int32)) fun x3_13 => f_X6_moveBy_L30 F a0 m r1 K n x3_13) F (0 : Int32)

def f_X6_moveBy (F : Nat)  (a0 : Int32) (m : MM) : Option Int32 := bd1 (f_X6_codeNow F m) fun r1 => Gu (inB r1 3125) <| if (rI m 12 (ix r1)) = 0 then some (-1 : Int32) else Gu (inB r1 3125) <| if (rI m 12 (ix r1)) < (99999999 : Int32) then f_X6_moveBy_L30 F a0 m r1 (fun x3_3 => some (-1 : Int32)) F (0 : Int32) else some (-1 : Int32)

def f_X6_reaches_L96 (x4_15 : Int32) (x5_19 : Int32) (K : Int32 → Int32 → MM → Option (Int32 × MM)) : Nat → Int32 → Int32 → MM → Option (Int32 × MM)
  | 0, _, _, _ => none
  | n + 1, x3_22, x6_23, m24 => if (rI m24 0 9) ≤ x6_23 then K x3_22 x6_23 m24 else bd1 (f_X6_after x4_15 x5_19 x6_23 m24) fun r26 => Gu (inB r26 3125) <| if (rI m24 11 (ix r26)) = (1 : Int32) then Gu (inB r26 3125) <| if (rI m24 15 (ix r26)) = 0 then Gu (inB r26 3125) <| Lt (wI m24 15 (ix r26) (1 : Int32)) fun m28 => Lt (x6_23 + (1 : Int32)) fun x6_29 => f_X6_reaches_L96 x4_15 x5_19 K n (1 : Int32) x6_29 m28 else Lt (x6_23 + (1 : Int32)) fun x6_30 => f_X6_reaches_L96 x4_15 x5_19 K n x3_22 x6_30 m24 else Lt (x6_23 + (1 : Int32)) fun x6_31 => f_X6_reaches_L96 x4_15 x5_19 K n x3_22 x6_31 m24

def f_X6_reaches_L73 (F : Nat) (x4_15 : Int32) (K : Int32 → Int32 → MM → Option (Int32 × MM)) : Nat → Int32 → Int32 → MM → Option (Int32 × MM)
  | 0, _, _, _ => none
  | n + 1, x3_18, x5_19, m20 => if (rI m20 0 14) ≤ x5_19 then K x3_18 x5_19 m20 else Gu (inB x4_15 3125) <| if (rI m20 15 (ix x4_15)) = (1 : Int32) then f_X6_reaches_L96 x4_15 x5_19 (fun x3_22 x6_23 m24 => Lt (x5_19 + (1 : Int32)) fun x5_32 => f_X6_reaches_L73 F x4_15 K n x3_22 x5_32 m24) F x3_18 (0 : Int32) m20 else K x3_18 x5_19 m20

def f_X6_reaches_L64 (F : Nat) (s1 : Int32) (K : Int32 → Int32 → MM → Option (Int32 × MM)) : Nat → Int32 → Int32 → MM → Option (Int32 × MM)
  | 0, _, _, _ => none
  | n + 1, x3_14, x4_15, m16 => if s1 ≤ x4_15 then K x3_14 x4_15 m16 else f_X6_reaches_L73 F x4_15 (fun x3_18 x5_19 m20 => Lt (x4_15 + (1 : Int32)) fun x4_33 => f_X6_reaches_L64 F s1 K n x3_18 x4_33 m20) F x3_14 (0 : Int32) m16

def f_X6_reaches_L178 (s1 : Int32) (m12 : MM) (K : Int32 → Int32 → Int32 → Option (Int32 × MM)) : Nat → Int32 → Int32 → Int32 → Option (Int32 × MM)
  | 0, _, _, _ => none
  | n + 1, x4_34, x5_35, x6_36 => if s1 ≤ x6_36 then K x4_34 x5_35 x6_36 else Gu (inB x6_36 3125) <| Lt (x4_34 + (rI m12 15 (ix x6_36))) fun x4_38 => Gu (inB x6_36 3125) <| Jp (fun s39 => Lt (x6_36 + (1 : Int32)) fun x6_41 => f_X6_reaches_L178 s1 m12 K n x4_38 s39 x6_41) fun J40 => Jp (J40 x5_35) fun J42 => if (rI m12 15 (ix x6_36)) = (1 : Int32) then Gu (inB x6_36 3125) <| if (99999999 : Int32) ≤ (rI m12 12 (ix x6_36)) then J42 else Gu (inB x6_36 3125) <| if (rI m12 12 (ix x6_36)) ≤ x5_35 then J42 else Gu (inB x6_36 3125) <| J40 (rI m12 12 (ix x6_36)) else J42

def f_X6_reaches_L55 (F : Nat) (s1 : Int32) (K : Int32 → MM → Option (Int32 × MM)) : Nat → Int32 → MM → Option (Int32 × MM)
  | 0, _, _ => none
  | n + 1, x3_11, m12 => if x3_11 = 0 then K x3_11 m12 else f_X6_reaches_L64 F s1 (fun x3_14 x4_15 m16 => f_X6_reaches_L55 F s1 K n x3_14 m16) F (0 : Int32) (0 : Int32) m12

def f_X6_reaches_L25 (s1 : Int32) (K : Int32 → MM → Option (Int32 × MM)) : Nat → Int32 → MM → Option (Int32 × MM)
  | 0, _, _ => none
  | n + 1, x3_3, m4 => if s1 ≤ x3_3 then K x3_3 m4 else Gu (inB x3_3 3125) <| Lt (wI m4 15 (ix x3_3) (0 : Int32)) fun m6 => Lt (x3_3 + (1 : Int32)) fun x3_7 => f_X6_reaches_L25 s1 K n x3_7 m6

def f_X6_reaches (F : Nat)  (a0 : Int32) (m : MM) : Option (Int32 × MM) := Jp (fun s1 => f_X6_reaches_L25 s1 (fun x3_3 m4 => bd1 (f_X6_codeNow F m4) fun r8 => Gu (inB r8 3125) <| Lt (wI m4 15 (ix r8) (1 : Int32)) fun m10 => f_X6_reaches_L55 F s1 (fun x3_11 m12 => f_X6_reaches_L178 s1 m12 (fun x4_34 x5_35 x6_36 => if a0 = 0 then some (x4_34, m12) else some (x5_35, m12)) F (0 : Int32) (-1 : Int32) (0 : Int32)) F (1 : Int32) m10) F (0 : Int32) m) fun J2 => if (rI m 0 14) = 0 then J2 (1 : Int32) else bd1 (f_X6_place ((rI m 0 14) - (1 : Int32)) m) fun r43 => J2 (r43 * (5 : Int32))

def f_X6_best (F : Nat)  (a0 : Int32) (m : MM) : Option (Int32 × MM) := bd1 (f_X6_in (Int32.toInt64 a0) (0 : Int64) (5 : Int64) m) fun r1 => if r1 = 0 then some ((-100 : Int32), m) else bd1 (f_X6_gathers F m) fun m4 => Jp (Jp (fun s6 => bd1 (f_X6_told1 s6 m4) fun r8 => some (r8, m4)) fun J7 => if a0 = 0 then bd1 (f_X6_codeNow F m4) fun r10 => Gu (inB r10 3125) <| J7 (rI m4 12 (ix r10)) else bd1 (f_X6_codeNow F m4) fun r12 => Gu (inB r12 3125) <| J7 (rI m4 13 (ix r12))) fun J5 => if a0 = 0 then J5 else if a0 = (2 : Int32) then J5 else if (4 : Int32) ≤ a0 then bd2 (f_X6_reaches F (a0 - (4 : Int32)) m4) fun r14 m16 => some (r14, m16) else Jp (fun s17 => bd1 (f_X6_moveBy F s17 m4) fun r19 => some (r19, m4)) fun J18 => if a0 = (3 : Int32) then J18 (1 : Int32) else J18 (0 : Int32)

def f_X6_pack_L41 (a0 : Int32) (m6 : MM) (r7 : Int32) (K : Int32 → Int32 → Int32 → Option (Int32 × MM)) : Nat → Int32 → Int32 → Int32 → Option (Int32 × MM)
  | 0, _, _, _ => none
  | n + 1, x4_9, x5_10, x6_11 => if (rI m6 0 9) ≤ x6_11 then K x4_9 x5_10 x6_11 else bd1 (f_X6_after r7 a0 x6_11 m6) fun r13 => Gu (inB r13 3125) <| if (rI m6 11 (ix r13)) = (1 : Int32) then Gu (inB r13 3125) <| if x5_10 ≤ (rI m6 12 (ix r13)) then Lt (x6_11 + (1 : Int32)) fun x6_15 => f_X6_pack_L41 a0 m6 r7 K n x4_9 x5_10 x6_15 else Gu (inB r13 3125) <| Lt (rI m6 12 (ix r13)) fun x5_16 => Lt (x6_11 + (1 : Int32)) fun x6_17 => f_X6_pack_L41 a0 m6 r7 K n x6_11 x5_16 x6_17 else Lt (x6_11 + (1 : Int32)) fun x6_18 => f_X6_pack_L41 a0 m6 r7 K n x4_9 x5_10 x6_18

def f_X6_pack (F : Nat)  (a0 : Int32) (a1 : Int32) (m : MM) : Option (Int32 × MM) := bd1 (f_X6_isThing a0 m) fun r1 => if r1 = 0 then some ((-2 : Int32), m) else bd1 (f_X6_in (Int32.toInt64 a1) (0 : Int64) (1 : Int64) m) fun r3 => if r3 = 0 then some ((-2 : Int32), m) else bd1 (f_X6_gathers F m) fun m6 => bd1 (f_X6_codeNow F m6) fun r7 => f_X6_pack_L41 a0 m6 r7 (fun x4_9 x5_10 x6_11 => if a1 = 0 then some (x4_9, m6) else bd1 (f_X6_told1 x5_10 m6) fun r19 => some (r19, m6)) F (-1 : Int32) (99999999 : Int32) (0 : Int32)

def f_X6_ring (F : Nat)  (a0 : Int32) (m : MM) : Option (Int32 × MM) := bd1 (f_X6_in (Int32.toInt64 a0) (0 : Int64) (1 : Int64) m) fun r1 => if r1 = 0 then some ((-2 : Int32), m) else bd1 (f_X6_gathers F m) fun m4 => bd2 (f_X6_says F (1 : Int32) (0 : Int32) (0 : Int32) (0 : Int32) m4) fun r5 m7 => bd1 (f_X6_codeNow F m7) fun r8 => Gu (inB r8 3125) <| Lt (rI m7 13 (ix r8)) fun x3_10 => if a0 = 0 then if x3_10 ≤ r5 then some ((0 : Int32), m7) else some ((1 : Int32), m7) else if x3_10 ≤ r5 then some (x3_10, m7) else some (r5, m7)

def f_X6_leave_L18 (F : Nat) (K : Int32 → Int32 → Int32 → MM → Option (Int32 × MM)) : Nat → Int32 → Int32 → Int32 → MM → Option (Int32 × MM)
  | 0, _, _, _, _ => none
  | n + 1, x1_6, x2_7, x3_8, m9 => if (rI m9 0 14) ≤ x3_8 then K x1_6 x2_7 x3_8 m9 else if x3_8 = (rI m9 0 15) then Lt (x3_8 + (1 : Int32)) fun x3_11 => f_X6_leave_L18 F K n x1_6 x2_7 x3_11 m9 else Lt (wI m9 0 18 x3_8) fun m12 => bd1 (f_X6_gathers F m12) fun m14 => bd1 (f_X6_codeNow F m14) fun r15 => Gu (inB r15 3125) <| Lt (rI m14 13 (ix r15)) fun x4_17 => Lt (wI m14 0 18 (-1 : Int32)) fun m18 => Jp (fun s19 m20 => if x1_6 ≤ s19 then Lt (x3_8 + (1 : Int32)) fun x3_22 => f_X6_leave_L18 F K n x1_6 x2_7 x3_22 m20 else Lt (x3_8 + (1 : Int32)) fun x3_23 => f_X6_leave_L18 F K n s19 x3_8 x3_23 m20) fun J21 => if x4_17 < (99999999 : Int32) then Gu (inB x3_8 5) <| bd2 (f_X6_says F (2 : Int32) x3_8 (rI m18 8 (ix x3_8)) (0 : Int32) m18) fun r24 m26 => J21 (x4_17 + r24) m26 else J21 (99999999 : Int32) m18

def f_X6_leave (F : Nat)   (m : MM) : Option (Int32 × MM) := bd1 (f_X6_gathers F m) fun m2 => bd1 (f_X6_codeNow F m2) fun r3 => Gu (inB r3 3125) <| Lt (rI m2 13 (ix r3)) fun x1_5 => f_X6_leave_L18 F (fun x1_6 x2_7 x3_8 m9 => some (x2_7, m9)) F x1_5 (-1 : Int32) (0 : Int32) m2

def f_X6_roomy_L32 (F : Nat) (K : Int32 → Int32 → Int32 → MM → Option (Int32 × MM)) : Nat → Int32 → Int32 → Int32 → MM → Option (Int32 × MM)
  | 0, _, _, _, _ => none
  | n + 1, x2_8, x3_9, x4_10, m11 => if (rI m11 0 9) ≤ x4_10 then K x2_8 x3_9 x4_10 m11 else Lt (wI m11 0 17 x4_10) fun m13 => bd1 (f_X6_gathers F m13) fun m15 => Lt (wI m15 0 17 (-1 : Int32)) fun m16 => bd1 (f_X6_codeNow F m16) fun r17 => Gu (inB r17 3125) <| Lt (rI m16 13 (ix r17)) fun x5_19 => if x2_8 ≤ x5_19 then Lt (x4_10 + (1 : Int32)) fun x4_20 => f_X6_roomy_L32 F K n x2_8 x3_9 x4_20 m16 else Lt (x4_10 + (1 : Int32)) fun x4_21 => f_X6_roomy_L32 F K n x5_19 x4_10 x4_21 m16

def f_X6_roomy (F : Nat)  (a0 : Int32) (m : MM) : Option (Int32 × MM) := bd1 (f_X6_in (Int32.toInt64 a0) (0 : Int64) (1 : Int64) m) fun r1 => if r1 = 0 then some ((-2 : Int32), m) else bd1 (f_X6_gathers F m) fun m4 => bd1 (f_X6_codeNow F m4) fun r5 => Gu (inB r5 3125) <| Lt (rI m4 13 (ix r5)) fun x2_7 => f_X6_roomy_L32 F (fun x2_8 x3_9 x4_10 m11 => if a0 = 0 then some (x3_9, m11) else if x3_9 = (-1 : Int32) then some (x3_9, m11) else some (x2_8, m11)) F x2_7 (-1 : Int32) (0 : Int32) m4

def f_X6_isSheet  (a0 : Int32) (m : MM) : Option Int32 := bd1 (f_X6_in (Int32.toInt64 a0) (0 : Int64) (3 : Int64) m) fun r1 => Gu (bz r1) <| some r1

def f_X6_goesBy_L133  (K : Int32 → MM → Option (Int32 × MM)) : Nat → Int32 → MM → Option (Int32 × MM)
  | 0, _, _ => none
  | n + 1, x3_26, m27 => if (5 : Int32) ≤ x3_26 then K x3_26 m27 else Gu (inB x3_26 5) <| Gu (inB x3_26 5) <| Lt (wI m27 8 (ix x3_26) (rI m27 10 (ix x3_26))) fun m29 => Lt (x3_26 + (1 : Int32)) fun x3_30 => f_X6_goesBy_L133 K n x3_30 m29

def f_X6_goesBy_L34 (F : Nat) (a0 : Int32) (K : Int32 → Int32 → MM → Option (Int32 × MM)) : Nat → Int32 → Int32 → MM → Option (Int32 × MM)
  | 0, _, _, _ => none
  | n + 1, x2_7, x3_8, m9 => Gu (inB a0 4) <| if (rI m9 21 (ix a0)) ≤ x3_8 then K x2_7 x3_8 m9 else if x2_7 = (-1 : Int32) then Gu (inB (((40 : Int32) * a0) + x3_8) 160) <| Lt (rI m9 22 (ix (((40 : Int32) * a0) + x3_8))) fun x4_11 => bd1 (f_X6_in (Int32.toInt64 x4_11) (0 : Int64) (99 : Int64) m9) fun r12 => Jp (fun s14 m15 => if 0 ≤ s14 then Lt (wI m15 0 40 ((rI m15 0 40) + s14)) fun m17 => Lt (x3_8 + (1 : Int32)) fun x3_18 => f_X6_goesBy_L34 F a0 K n x2_7 x3_18 m17 else Lt (x3_8 + (1 : Int32)) fun x3_19 => f_X6_goesBy_L34 F a0 K n x3_8 x3_19 m15) fun J16 => if r12 = 0 then J16 (-2 : Int32) m9 else Gu (nz (10 : Int32)) <| Gu (nz (10 : Int32)) <| bd2 (f_X6_move F (x4_11 / (10 : Int32)) (remI x4_11 (10 : Int32)) m9) fun r20 m22 => J16 r20 m22 else K x2_7 x3_8 m9

def f_X6_goesBy_L2  (K : Int32 → MM → Option (Int32 × MM)) : Nat → Int32 → MM → Option (Int32 × MM)
  | 0, _, _ => none
  | n + 1, x2_1, m2 => if (5 : Int32) ≤ x2_1 then K x2_1 m2 else Gu (inB x2_1 5) <| Gu (inB x2_1 5) <| Lt (wI m2 10 (ix x2_1) (rI m2 8 (ix x2_1))) fun m4 => Lt (x2_1 + (1 : Int32)) fun x2_5 => f_X6_goesBy_L2 K n x2_5 m4

def f_X6_goesBy (F : Nat)  (a0 : Int32) (m : MM) : Option (Int32 × MM) := f_X6_goesBy_L2 (fun x2_1 m2 => Lt (wI m2 0 40 (0 : Int32)) fun m6 => f_X6_goesBy_L34 F a0 (fun x2_7 x3_8 m9 => bd1 (f_X6_isOpen F m9) fun r23 => Gu (bz r23) <| Lt (wI m9 0 41 r23) fun m25 => f_X6_goesBy_L133 (fun x3_26 m27 => some (x2_7, m27)) F (0 : Int32) m25) F (-1 : Int32) (0 : Int32) m6) F (0 : Int32) m

def f_X6_judge (F : Nat)  (a0 : Int32) (a1 : Int32) (m : MM) : Option (Int32 × MM) := bd1 (f_X6_isSheet a0 m) fun r1 => if r1 = 0 then some ((-2 : Int32), m) else bd1 (f_X6_in (Int32.toInt64 a1) (0 : Int64) (2 : Int64) m) fun r3 => if r3 = 0 then some ((-2 : Int32), m) else Gu (inB a0 4) <| if (rI m 19 (ix a0)) = 0 then some ((-11 : Int32), m) else bd2 (f_X6_goesBy F a0 m) fun r5 m7 => if a1 = 0 then some (r5, m7) else if a1 = (1 : Int32) then some (rI m7 0 40, m7) else if (rI m7 0 41) = 0 then some ((0 : Int32), m7) else some ((1 : Int32), m7)

def f_X6_codeOf_L4 (a0 : Int32) (m : MM) (K : Int32 → Int32 → Option Int32) : Nat → Int32 → Int32 → Option Int32
  | 0, _, _ => none
  | n + 1, x2_1, x3_2 => if (rI m 0 14) ≤ x3_2 then K x2_1 x3_2 else Gu (inB (((40 : Int32) * a0) + x3_2) 160) <| Lt (rI m 22 (ix (((40 : Int32) * a0) + x3_2))) fun x4_4 => bd1 (f_X6_isHold x4_4 m) fun r5 => if r5 = 0 then some (-1 : Int32) else bd1 (f_X6_place x3_2 m) fun r7 => Lt (x2_1 + (r7 * x4_4)) fun x2_9 => Lt (x3_2 + (1 : Int32)) fun x3_10 => f_X6_codeOf_L4 a0 m K n x2_9 x3_10

def f_X6_codeOf (F : Nat)  (a0 : Int32) (m : MM) : Option Int32 := f_X6_codeOf_L4 a0 m (fun x2_1 x3_2 => some x2_1) F (0 : Int32) (0 : Int32)

def f_X6_begins_L6  (K : Int32 → MM → Option MM) : Nat → Int32 → MM → Option MM
  | 0, _, _ => none
  | n + 1, x1_3, m4 => if (3125 : Int32) ≤ x1_3 then K x1_3 m4 else Gu (inB x1_3 3125) <| Lt (wL m4 16 (ix x1_3) (0 : Int64)) fun m6 => Lt (x1_3 + (1 : Int32)) fun x1_7 => f_X6_begins_L6 K n x1_7 m6

def f_X6_begins (F : Nat)   (m : MM) : Option MM := bd1 (f_X6_gathers F m) fun m2 => f_X6_begins_L6 (fun x1_3 m4 => bd1 (f_X6_codeNow F m4) fun r8 => Gu (inB r8 3125) <| Lt (wL m4 16 (ix r8) (1 : Int64)) fun m10 => some m10) F (0 : Int32) m2

def f_X6_steps_L74 (x2_8 : Int32) (x3_11 : Int32) (K : Int32 → MM → Option MM) : Nat → Int32 → MM → Option MM
  | 0, _, _ => none
  | n + 1, x4_14, m15 => if (rI m15 0 9) ≤ x4_14 then K x4_14 m15 else bd1 (f_X6_after x2_8 x3_11 x4_14 m15) fun r17 => if r17 = x2_8 then Lt (x4_14 + (1 : Int32)) fun x4_19 => f_X6_steps_L74 x2_8 x3_11 K n x4_19 m15 else Gu (inB r17 3125) <| if (rI m15 11 (ix r17)) = (1 : Int32) then Gu (inB r17 3125) <| Gu (inB x2_8 3125) <| Gu (inB r17 3125) <| Lt (wL m15 17 (ix r17) ((rL m15 17 (ix r17)) + (rL m15 16 (ix x2_8)))) fun m20 => Lt (x4_14 + (1 : Int32)) fun x4_21 => f_X6_steps_L74 x2_8 x3_11 K n x4_21 m20 else Lt (x4_14 + (1 : Int32)) fun x4_22 => f_X6_steps_L74 x2_8 x3_11 K n x4_22 m15

def f_X6_steps_L52 (F : Nat) (x2_8 : Int32) (K : Int32 → MM → Option MM) : Nat → Int32 → MM → Option MM
  | 0, _, _ => none
  | n + 1, x3_11, m12 => if (rI m12 0 14) ≤ x3_11 then K x3_11 m12 else Gu (inB x2_8 3125) <| if (lg_cmp (rL m12 16 (ix x2_8)) (0 : Int64)) ≤ 0 then K x3_11 m12 else f_X6_steps_L74 x2_8 x3_11 (fun x4_14 m15 => Lt (x3_11 + (1 : Int32)) fun x3_23 => f_X6_steps_L52 F x2_8 K n x3_23 m15) F (0 : Int32) m12

def f_X6_steps_L146 (s1 : Int32) (K : Int32 → MM → Option MM) : Nat → Int32 → MM → Option MM
  | 0, _, _ => none
  | n + 1, x2_25, m26 => if s1 ≤ x2_25 then K x2_25 m26 else Gu (inB x2_25 3125) <| Gu (inB x2_25 3125) <| Lt (wL m26 16 (ix x2_25) (rL m26 17 (ix x2_25))) fun m28 => Lt (x2_25 + (1 : Int32)) fun x2_29 => f_X6_steps_L146 s1 K n x2_29 m28

def f_X6_steps_L45 (F : Nat) (s1 : Int32) (K : Int32 → MM → Option MM) : Nat → Int32 → MM → Option MM
  | 0, _, _ => none
  | n + 1, x2_8, m9 => if s1 ≤ x2_8 then K x2_8 m9 else f_X6_steps_L52 F x2_8 (fun x3_11 m12 => Lt (x2_8 + (1 : Int32)) fun x2_24 => f_X6_steps_L45 F s1 K n x2_24 m12) F (0 : Int32) m9

def f_X6_steps_L25 (s1 : Int32) (K : Int32 → MM → Option MM) : Nat → Int32 → MM → Option MM
  | 0, _, _ => none
  | n + 1, x2_3, m4 => if s1 ≤ x2_3 then K x2_3 m4 else Gu (inB x2_3 3125) <| Lt (wL m4 17 (ix x2_3) (0 : Int64)) fun m6 => Lt (x2_3 + (1 : Int32)) fun x2_7 => f_X6_steps_L25 s1 K n x2_7 m6

def f_X6_steps (F : Nat)   (m : MM) : Option MM := Jp (fun s1 => f_X6_steps_L25 s1 (fun x2_3 m4 => f_X6_steps_L45 F s1 (fun x2_8 m9 => f_X6_steps_L146 s1 (fun x2_25 m26 => some m26) F (0 : Int32) m9) F (0 : Int32) m4) F (0 : Int32) m) fun J2 => if (rI m 0 14) = 0 then J2 (1 : Int32) else bd1 (f_X6_place ((rI m 0 14) - (1 : Int32)) m) fun r30 => J2 (r30 * (5 : Int32))

def f_X6_ways_L65 (F : Nat) (a1 : Int32) (K : Int32 → MM → Option (Int64 × MM)) : Nat → Int32 → MM → Option (Int64 × MM)
  | 0, _, _ => none
  | n + 1, x4_9, m10 => if a1 ≤ x4_9 then K x4_9 m10 else bd1 (f_X6_steps F m10) fun m13 => Lt (x4_9 + (1 : Int32)) fun x4_14 => f_X6_ways_L65 F a1 K n x4_14 m13

def f_X6_ways (F : Nat)  (a0 : Int32) (a1 : Int32) (m : MM) : Option (Int64 × MM) := bd1 (f_X6_isSheet a0 m) fun r1 => if r1 = 0 then some ((-4611686018427387904 : Int64), m) else bd1 (f_X6_in (Int32.toInt64 a1) (0 : Int64) (8 : Int64) m) fun r3 => if r3 = 0 then some ((-4611686018427387904 : Int64), m) else Gu (inB a0 4) <| if (rI m 19 (ix a0)) = 0 then some ((-4611686018427387904 : Int64), m) else Gu (inB a0 4) <| if (rI m 21 (ix a0)) = (rI m 0 14) then bd1 (f_X6_codeOf F a0 m) fun r5 => if r5 = (-1 : Int32) then some ((0 : Int64), m) else bd1 (f_X6_begins F m) fun m8 => f_X6_ways_L65 F a1 (fun x4_9 m10 => Gu (inB r5 3125) <| some (rL m10 16 (ix r5), m10)) F (0 : Int32) m8 else some ((-4611686018427387904 : Int64), m)

def f_X6_soonest_L57 (F : Nat) (r3 : Int32) (K : Int32 → MM → Option (Int32 × MM)) : Nat → Int32 → MM → Option (Int32 × MM)
  | 0, _, _ => none
  | n + 1, x3_7, m8 => if (9 : Int32) ≤ x3_7 then K x3_7 m8 else Gu (inB r3 3125) <| if (lg_cmp (rL m8 16 (ix r3)) (0 : Int64)) ≤ 0 then bd1 (f_X6_steps F m8) fun m11 => Lt (x3_7 + (1 : Int32)) fun x3_12 => f_X6_soonest_L57 F r3 K n x3_12 m11 else some (x3_7, m8)

def f_X6_soonest (F : Nat)  (a0 : Int32) (m : MM) : Option (Int32 × MM) := bd1 (f_X6_isSheet a0 m) fun r1 => if r1 = 0 then some ((-2 : Int32), m) else Gu (inB a0 4) <| if (rI m 19 (ix a0)) = 0 then some ((-11 : Int32), m) else Gu (inB a0 4) <| if (rI m 21 (ix a0)) = (rI m 0 14) then bd1 (f_X6_codeOf F a0 m) fun r3 => if r3 = (-1 : Int32) then some ((-1 : Int32), m) else bd1 (f_X6_begins F m) fun m6 => f_X6_soonest_L57 F r3 (fun x3_7 m8 => some ((-1 : Int32), m8)) F (0 : Int32) m6 else some ((-2 : Int32), m)

def f_X6_draws_L139  (K : Int32 → MM → Option (Int32 × MM)) : Nat → Int32 → MM → Option (Int32 × MM)
  | 0, _, _ => none
  | n + 1, x5_28, m29 => if (5 : Int32) ≤ x5_28 then K x5_28 m29 else Gu (inB x5_28 5) <| Gu (inB x5_28 5) <| Lt (wI m29 8 (ix x5_28) (rI m29 10 (ix x5_28))) fun m31 => Lt (x5_28 + (1 : Int32)) fun x5_32 => f_X6_draws_L139 K n x5_32 m31

def f_X6_draws_L44 (F : Nat) (a1 : Int32) (K : Int32 → Int32 → Int32 → MM → Option (Int32 × MM)) : Nat → Int32 → Int32 → Int32 → MM → Option (Int32 × MM)
  | 0, _, _, _, _ => none
  | n + 1, x3_10, x4_11, x5_12, m13 => if a1 < x5_12 then K x3_10 x4_11 x5_12 m13 else if x4_11 = (-1 : Int32) then if (rI m13 0 14) ≤ 0 then K x3_10 x4_11 x5_12 m13 else Lt ((x3_10 * (1103515245 : Int32)) + (12345 : Int32)) fun x3_15 => Gu (nz (rI m13 0 14)) <| Lt (remI (ushI x3_15 (9 : Int32)) (rI m13 0 14)) fun x6_16 => Gu (nz (rI m13 0 9)) <| Lt (remI (ushI x3_15 (17 : Int32)) (rI m13 0 9)) fun x7_17 => bd1 (f_X6_canGo F x6_16 x7_17 m13) fun r18 => Jp (fun m20 => bd1 (f_X6_isOpen F m20) fun r22 => Jp (fun s24 => Lt (x5_12 + (1 : Int32)) fun x5_26 => f_X6_draws_L44 F a1 K n x3_15 s24 x5_26 m20) fun J25 => if r22 = 0 then J25 (-1 : Int32) else J25 x5_12) fun J21 => if r18 = 0 then J21 m13 else Gu (inB x6_16 5) <| Lt (wI m13 8 (ix x6_16) x7_17) fun m27 => J21 m27 else K x3_10 x4_11 x5_12 m13

def f_X6_draws_L2  (K : Int32 → MM → Option (Int32 × MM)) : Nat → Int32 → MM → Option (Int32 × MM)
  | 0, _, _ => none
  | n + 1, x3_1, m2 => if (5 : Int32) ≤ x3_1 then K x3_1 m2 else Gu (inB x3_1 5) <| Gu (inB x3_1 5) <| Lt (wI m2 10 (ix x3_1) (rI m2 8 (ix x3_1))) fun m4 => Lt (x3_1 + (1 : Int32)) fun x3_5 => f_X6_draws_L2 K n x3_5 m4

def f_X6_draws (F : Nat)  (a0 : Int32) (a1 : Int32) (m : MM) : Option (Int32 × MM) := f_X6_draws_L2 (fun x3_1 m2 => bd1 (f_X6_isOpen F m2) fun r6 => Jp (fun s8 => f_X6_draws_L44 F a1 (fun x3_10 x4_11 x5_12 m13 => f_X6_draws_L139 (fun x5_28 m29 => some (x4_11, m29)) F (0 : Int32) m13) F a0 s8 (1 : Int32) m2) fun J9 => if r6 = 0 then J9 (-1 : Int32) else J9 (0 : Int32)) F (0 : Int32) m

def f_X6_drawn (F : Nat)  (a0 : Int32) (a1 : Int32) (m : MM) : Option (Int32 × MM) := bd1 (f_X6_in (Int32.toInt64 a1) (1 : Int64) (40 : Int64) m) fun r1 => if r1 = 0 then some ((-2 : Int32), m) else bd2 (f_X6_draws F a0 a1 m) fun r3 m5 => some (r3, m5)

def f_X6_chance_L76  (K : Int64 → Int64 → Option (Int64 × MM)) : Nat → Int64 → Int64 → Option (Int64 × MM)
  | 0, _, _ => none
  | n + 1, x6_17, x8_18 => if (lg_cmp x8_18 (0 : Int64)) = 0 then K x6_17 x8_18 else Gu (nzL x8_18) <| Lt (remL x6_17 x8_18) fun x10_20 => f_X6_chance_L76 K n x8_18 x10_20

def f_X6_chance_L32 (F : Nat) (a0 : Int32) (a1 : Int32) (K : Int64 → Int32 → MM → Option (Int64 × MM)) : Nat → Int64 → Int32 → MM → Option (Int64 × MM)
  | 0, _, _, _ => none
  | n + 1, x4_5, x6_6, m7 => if a1 ≤ x6_6 then K x4_5 x6_6 m7 else bd2 (f_X6_draws F (a0 + x6_6) (40 : Int32) m7) fun r9 m11 => Jp (fun s12 => Lt (x4_5 + s12) fun x4_14 => Lt (x6_6 + (1 : Int32)) fun x6_15 => f_X6_chance_L32 F a0 a1 K n x4_14 x6_15 m11) fun J13 => if r9 = (-1 : Int32) then J13 (0 : Int64) else J13 (1 : Int64)

def f_X6_chance (F : Nat)  (a0 : Int32) (a1 : Int32) (a2 : Int32) (m : MM) : Option (Int64 × MM) := bd1 (f_X6_in (Int32.toInt64 a1) (1 : Int64) (20 : Int64) m) fun r1 => if r1 = 0 then some ((-4611686018427387904 : Int64), m) else bd1 (f_X6_in (Int32.toInt64 a2) (0 : Int64) (1 : Int64) m) fun r3 => if r3 = 0 then some ((-4611686018427387904 : Int64), m) else f_X6_chance_L32 F a0 a1 (fun x4_5 x6_6 m7 => Lt (Int32.toInt64 a1) fun x8_16 => f_X6_chance_L76 (fun x6_17 x8_18 => if a2 = 0 then Gu (nzL x6_17) <| some (x4_5 / x6_17, m7) else Gu (nzL x6_17) <| some ((Int32.toInt64 a1) / x6_17, m7)) F x4_5 x8_16) F (0 : Int64) (0 : Int32) m

def f_X6_image_L2  (K : Int32 → MM → Option (Int32 × MM)) : Nat → Int32 → MM → Option (Int32 × MM)
  | 0, _, _ => none
  | n + 1, x1_1, m2 => if (5 : Int32) ≤ x1_1 then K x1_1 m2 else Gu (inB x1_1 5) <| Gu (inB x1_1 20) <| Lt (wI m2 18 (ix x1_1) (rI m2 5 (ix x1_1))) fun m4 => Gu (inB x1_1 5) <| Gu (inB ((5 : Int32) + x1_1) 20) <| Lt (wI m4 18 (ix ((5 : Int32) + x1_1)) (rI m4 8 (ix x1_1))) fun m5 => Gu (inB x1_1 5) <| Gu (inB ((10 : Int32) + x1_1) 20) <| Lt (wI m5 18 (ix ((10 : Int32) + x1_1)) (rI m5 7 (ix x1_1))) fun m6 => Gu (inB x1_1 5) <| Gu (inB ((15 : Int32) + x1_1) 20) <| Lt (wI m6 18 (ix ((15 : Int32) + x1_1)) (rI m6 9 (ix x1_1))) fun m7 => Lt (x1_1 + (1 : Int32)) fun x1_8 => f_X6_image_L2 K n x1_8 m7

def f_X6_image (F : Nat)   (m : MM) : Option (Int32 × MM) := f_X6_image_L2 (fun x1_1 m2 => Lt (wI m2 0 45 (rI m2 0 14)) fun m9 => Lt (wI m9 0 46 (rI m9 0 9)) fun m10 => Lt (wI m10 0 47 (rI m10 0 15)) fun m11 => Lt (wI m11 0 48 (rI m11 0 16)) fun m12 => Lt (wI m12 0 49 (rI m12 0 4)) fun m13 => some (rI m13 0 14, m13)) F (0 : Int32) m

def f_X6_back_L13  (K : Int32 → MM → Option (Int32 × MM)) : Nat → Int32 → MM → Option (Int32 × MM)
  | 0, _, _ => none
  | n + 1, x1_1, m2 => if (5 : Int32) ≤ x1_1 then K x1_1 m2 else Gu (inB x1_1 20) <| Gu (inB x1_1 5) <| Lt (wI m2 5 (ix x1_1) (rI m2 18 (ix x1_1))) fun m4 => Gu (inB ((5 : Int32) + x1_1) 20) <| Gu (inB x1_1 5) <| Lt (wI m4 8 (ix x1_1) (rI m4 18 (ix ((5 : Int32) + x1_1)))) fun m5 => Gu (inB ((10 : Int32) + x1_1) 20) <| Gu (inB x1_1 5) <| Lt (wI m5 7 (ix x1_1) (rI m5 18 (ix ((10 : Int32) + x1_1)))) fun m6 => Gu (inB ((15 : Int32) + x1_1) 20) <| Gu (inB x1_1 5) <| Lt (wI m6 9 (ix x1_1) (rI m6 18 (ix ((15 : Int32) + x1_1)))) fun m7 => Lt (x1_1 + (1 : Int32)) fun x1_8 => f_X6_back_L13 K n x1_8 m7

def f_X6_back (F : Nat)   (m : MM) : Option (Int32 × MM) := if (rI m 0 45) = (-1 : Int32) then some ((-3 : Int32), m) else f_X6_back_L13 (fun x1_1 m2 => Lt (wI m2 0 14 (rI m2 0 45)) fun m9 => Lt (wI m9 0 9 (rI m9 0 46)) fun m10 => Lt (wI m10 0 15 (rI m10 0 47)) fun m11 => Lt (wI m11 0 16 (rI m11 0 48)) fun m12 => Lt (wI m12 0 4 (rI m12 0 49)) fun m13 => some (rI m13 0 14, m13)) F (0 : Int32) m

def f_X6_count  (a0 : Int32) (m : MM) : Option Int32 := bd1 (f_X6_in (Int32.toInt64 a0) (0 : Int64) (6 : Int64) m) fun r1 => if r1 = 0 then some (-2 : Int32) else if (4 : Int32) ≤ a0 then if a0 = (4 : Int32) then some (rI m 0 3) else if a0 = (5 : Int32) then some (rI m 0 6) else some (rI m 0 4) else if a0 = 0 then some (rI m 0 9) else if a0 = (1 : Int32) then some (rI m 0 14) else if a0 = (2 : Int32) then some (rI m 0 16) else some (rI m 0 15)

def f_X6_sheet_L77 (a0 : Int32) (a1 : Int32) (a2 : Int32) (K : Int32 → MM → Option (Int32 × MM)) : Nat → Int32 → MM → Option (Int32 × MM)
  | 0, _, _ => none
  | n + 1, x4_12, m13 => if a2 ≤ x4_12 then K x4_12 m13 else if a1 < 0 then K x4_12 m13 else Gu (inB (((40 : Int32) * a0) + x4_12) 160) <| Lt (wI m13 22 (ix (((40 : Int32) * a0) + x4_12)) (0 : Int32)) fun m15 => Lt (x4_12 + (1 : Int32)) fun x4_16 => f_X6_sheet_L77 a0 a1 a2 K n x4_16 m15

def f_X6_sheet (F : Nat)  (a0 : Int32) (a1 : Int32) (a2 : Int32) (m : MM) : Option (Int32 × MM) := bd1 (f_X6_isSheet a0 m) fun r1 => if r1 = 0 then some ((-2 : Int32), m) else bd1 (f_X6_in (Int32.toInt64 a1) (-1 : Int64) (2 : Int64) m) fun r3 => if r3 = 0 then some ((-2 : Int32), m) else Jp (Jp (Jp (fun s7 => Gu (inB a0 4 && bz s7) <| Lt (wI m 19 (ix a0) s7) fun m9 => Gu (inB a0 4) <| Lt (wI m9 20 (ix a0) a1) fun m10 => Gu (inB a0 4) <| Lt (wI m10 21 (ix a0) a2) fun m11 => f_X6_sheet_L77 a0 a1 a2 (fun x4_12 m13 => some ((1 : Int32), m13)) F (0 : Int32) m11) fun J8 => if a1 < 0 then J8 (0 : Int32) else J8 (1 : Int32)) fun J6 => if a1 < 0 then J6 else if 0 ≤ a2 then J6 else some ((-14 : Int32), m)) fun J5 => if a1 < 0 then J5 else if a2 ≤ (40 : Int32) then J5 else some ((-2 : Int32), m)

def f_X6_cell  (a0 : Int32) (a1 : Int32) (a2 : Int32) (m : MM) : Option (Int32 × MM) := bd1 (f_X6_isSheet a0 m) fun r1 => if r1 = 0 then some ((-2 : Int32), m) else Gu (inB a0 4) <| if (rI m 19 (ix a0)) = 0 then some ((-11 : Int32), m) else Gu (inB a0 4) <| bd1 (f_X6_in (Int32.toInt64 a1) (0 : Int64) (Int32.toInt64 ((rI m 21 (ix a0)) - (1 : Int32))) m) fun r3 => if r3 = 0 then some ((-12 : Int32), m) else Gu (inB a0 4) <| Jp (fun s5 => Gu (inB (((40 : Int32) * a0) + a1) 160) <| Lt (wI m 22 (ix (((40 : Int32) * a0) + a1)) s5) fun m7 => some ((1 : Int32), m7)) fun J6 => if (rI m 20 (ix a0)) = 0 then J6 ((Int32.toInt8 a2).toInt32) else Gu (inB a0 4) <| if (rI m 20 (ix a0)) = (1 : Int32) then J6 ((Int32.toInt16 a2).toInt32) else J6 a2

def f_X6_copy_L121 (a0 : Int32) (a1 : Int32) (a2 : Int32) (a3 : Int32) (a4 : Int32) (s5 : Int32) (K : Int32 → MM → Option (Int32 × MM)) : Nat → Int32 → MM → Option (Int32 × MM)
  | 0, _, _ => none
  | n + 1, x7_7, m8 => if a4 ≤ x7_7 then K x7_7 m8 else Jp (fun s10 => Gu (inB ((((40 : Int32) * a0) + a1) + s10) 160) <| Gu (inB ((((40 : Int32) * a2) + a3) + s10) 160) <| Lt (wI m8 22 (ix ((((40 : Int32) * a2) + a3) + s10)) (rI m8 22 (ix ((((40 : Int32) * a0) + a1) + s10)))) fun m12 => Lt (x7_7 + (1 : Int32)) fun x7_13 => f_X6_copy_L121 a0 a1 a2 a3 a4 s5 K n x7_13 m12) fun J11 => if s5 = 0 then J11 x7_7 else J11 ((a4 - (1 : Int32)) - x7_7)

def f_X6_copy (F : Nat)  (a0 : Int32) (a1 : Int32) (a2 : Int32) (a3 : Int32) (a4 : Int32) (m : MM) : Option (Int32 × MM) := bd1 (f_X6_isSheet a0 m) fun r1 => if r1 = 0 then some ((-2 : Int32), m) else bd1 (f_X6_isSheet a2 m) fun r3 => if r3 = 0 then some ((-2 : Int32), m) else Gu (inB a0 4) <| if (rI m 19 (ix a0)) = 0 then some ((-11 : Int32), m) else Gu (inB a2 4) <| if (rI m 19 (ix a2)) = 0 then some ((-11 : Int32), m) else Gu (inB a0 4) <| Gu (inB a2 4) <| if (rI m 20 (ix a0)) = (rI m 20 (ix a2)) then if a4 < 0 then some ((-12 : Int32), m) else if a1 < 0 then some ((-12 : Int32), m) else if a3 < 0 then some ((-12 : Int32), m) else Gu (inB a0 4) <| if ((rI m 21 (ix a0)) - a4) < a1 then some ((-12 : Int32), m) else Gu (inB a2 4) <| if a3 ≤ ((rI m 21 (ix a2)) - a4) then Jp (fun s5 => f_X6_copy_L121 a0 a1 a2 a3 a4 s5 (fun x7_7 m8 => some (a4, m8)) F (0 : Int32) m) fun J6 => Jp (J6 (0 : Int32)) fun J14 => if a0 = a2 then if a3 ≤ a1 then J14 else J6 (1 : Int32) else J14 else some ((-12 : Int32), m) else some ((-13 : Int32), m)

def f_X6_things_L75 (F : Nat) (a0 : Int32) (a2 : Int32) (a3 : Int32) (K : Int32 → Int32 → MM → Option (Int32 × MM)) : Nat → Int32 → Int32 → MM → Option (Int32 × MM)
  | 0, _, _, _ => none
  | n + 1, x5_8, x6_9, m10 => if a3 ≤ x6_9 then K x5_8 x6_9 m10 else if a2 < 0 then some ((-12 : Int32), m10) else Gu (inB a0 4) <| if a2 ≤ (((rI m10 21 (ix a0)) - ((2 : Int32) * x6_9)) - (2 : Int32)) then Lt ((((40 : Int32) * a0) + a2) + ((2 : Int32) * x6_9)) fun x7_12 => Gu (inB x7_12 160) <| Gu (inB (x7_12 + (1 : Int32)) 160) <| bd2 (f_X6_thing F (rI m10 22 (ix x7_12)) (rI m10 22 (ix (x7_12 + (1 : Int32)))) m10) fun r13 m15 => Jp (fun s16 => Lt (x5_8 + s16) fun x5_18 => Lt (x6_9 + (1 : Int32)) fun x6_19 => f_X6_things_L75 F a0 a2 a3 K n x5_18 x6_19 m15) fun J17 => if r13 < 0 then J17 (0 : Int32) else J17 (1 : Int32) else some ((-12 : Int32), m10)

def f_X6_things (F : Nat)  (a0 : Int32) (a1 : Int32) (a2 : Int32) (a3 : Int32) (m : MM) : Option (Int32 × MM) := bd1 (f_X6_isSheet a0 m) fun r1 => if r1 = 0 then some ((-2 : Int32), m) else bd1 (f_X6_in (Int32.toInt64 a1) (0 : Int64) (2 : Int64) m) fun r3 => if r3 = 0 then some ((-2 : Int32), m) else bd1 (f_X6_in (Int32.toInt64 a3) (0 : Int64) (5 : Int64) m) fun r5 => if r5 = 0 then some ((-2 : Int32), m) else Gu (inB a0 4) <| Jp (Gu (inB a0 4) <| if (rI m 19 (ix a0)) = 0 then some ((-11 : Int32), m) else f_X6_things_L75 F a0 a2 a3 (fun x5_8 x6_9 m10 => some (x5_8, m10)) F (0 : Int32) (0 : Int32) m) fun J7 => if (rI m 19 (ix a0)) = 0 then J7 else Gu (inB a0 4) <| if (rI m 20 (ix a0)) = a1 then J7 else some ((-13 : Int32), m)

def f_X6_over  (a0 : Int32) (m : MM) : Option Int32 := if a0 = 0 then some (-1 : Int32) else if a0 = (3 : Int32) then some (1 : Int32) else if a0 = (4 : Int32) then some (2 : Int32) else if a0 = (5 : Int32) then some (2 : Int32) else some (0 : Int32)

def f_X6_taken_L33 (a1 : Int32) (m : MM) (K : Int32 → Option Int32) : Nat → Int32 → Option Int32
  | 0, _ => none
  | n + 1, x3_6 => if x3_6 = (-1 : Int32) then K x3_6 else if x3_6 = a1 then K x3_6 else bd1 (f_X6_over x3_6 m) fun r8 => f_X6_taken_L33 a1 m K n r8

def f_X6_taken (F : Nat)  (a0 : Int32) (a1 : Int32) (m : MM) : Option Int32 := bd1 (f_X6_in (Int32.toInt64 a1) (0 : Int64) (5 : Int64) m) fun r1 => if r1 = 0 then some (-2 : Int32) else bd1 (f_X6_isHold a0 m) fun r3 => if r3 = 0 then some (-11 : Int32) else Gu (inB a0 5) <| Lt (rI m 4 (ix a0)) fun x3_5 => f_X6_taken_L33 a1 m (fun x3_6 => if x3_6 = a1 then Gu (inB a0 5) <| some (rI m 5 (ix a0)) else some (-13 : Int32)) F x3_5

def f_X6_spell  (a0 : Int32) (a1 : Int32) (a2 : Int32) (a3 : Int32) (a4 : Int32) (a5 : Int32) (a6 : Int32) (a7 : Int32) (a8 : Int32) (m : MM) : Option MM := Gu (inB a0 960) <| Lt (wI m 1 (ix a0) a1) fun m1 => Gu (inB (a0 + (1 : Int32)) 960) <| Lt (wI m1 1 (ix (a0 + (1 : Int32))) a2) fun m2 => Gu (inB (a0 + (2 : Int32)) 960) <| Lt (wI m2 1 (ix (a0 + (2 : Int32))) a3) fun m3 => Gu (inB (a0 + (3 : Int32)) 960) <| Lt (wI m3 1 (ix (a0 + (3 : Int32))) a4) fun m4 => Gu (inB (a0 + (4 : Int32)) 960) <| Lt (wI m4 1 (ix (a0 + (4 : Int32))) a5) fun m5 => Gu (inB (a0 + (5 : Int32)) 960) <| Lt (wI m5 1 (ix (a0 + (5 : Int32))) a6) fun m6 => Gu (inB (a0 + (6 : Int32)) 960) <| Lt (wI m6 1 (ix (a0 + (6 : Int32))) a7) fun m7 => Gu (inB (a0 + (7 : Int32)) 960) <| Lt (wI m7 1 (ix (a0 + (7 : Int32))) a8) fun m8 => some m8
end
section
section GGsigs
variable {p : Program} {l : Launch} {e : Env} {R : Room} {s : State} {mt : MethodId} {args : Array Value} {below : List Frame} {meth : Method} {c : Code} {Q : State → Prop} {D : va_G} {cA : Nat → ClassId} {ad : Nat → Nat} {cf : CF} {n nL : Nat} {m : MM} {pc : Nat} {lv : List (Nat × Value)} {st : List Value}
theorem ti_ne {x v : Int32} {z : Int} (h : ¬ x = v) (hz : v.toInt = z) : x.toInt ≠ z := fun q => h (Int32.toInt_inj.mp (q.trans hz.symm))
theorem g_join_ {α : Type} {y : α} {K : Option α} {B : (Option α) → Option α} (h : Jp K B = some y) (tgt : Nat) (lv' : List (Nat × Value)) (st' : List Value) (kJ : K = some y → GG p l e R s mt args below meth c Q D cA ad cf n nL m tgt lv' st') (kk : ∀ q : Option α, (q = some y → GG p l e R s mt args below meth c Q D cA ad cf n nL m tgt lv' st') → B q = some y → GG p l e R s mt args below meth c Q D cA ad cf n nL m pc lv st) : GG p l e R s mt args below meth c Q D cA ad cf n nL m pc lv st := kk K kJ h
theorem g_loop_ {α : Type} {y : α} {K : Option α} {L : (Option α) → Nat → Option α} {F : Nat}  (h : L K F  = some y) (hd xt : Nat) (lvH lvX : List (Nat × Value)) (stH stX : List Value) (kX : K = some y → GG p l e R s mt args below meth c Q D cA ad cf n nL m xt lvX stX) (kL : ∀ q : Option α, (q = some y → GG p l e R s mt args below meth c Q D cA ad cf n nL m xt lvX stX) → ∀ i : Nat, (L q i = some y → GG p l e R s mt args below meth c Q D cA ad cf n nL m hd lvH stH) → L q (i + 1) = some y → GG p l e R s mt args below meth c Q D cA ad cf n nL m hd lvH stH) (k0 : ∀ (q : Option α) , L q 0 = none) : GG p l e R s mt args below meth c Q D cA ad cf n nL m hd lvH stH := by
  have key : ∀ i : Nat, L K i = some y → GG p l e R s mt args below meth c Q D cA ad cf n nL m hd lvH stH := by
    intro i
    induction i with
    | zero =>
      intro  h
      rw [k0] at h
      cases h
    | succ i ih => exact kL K kX i ih
  exact key F  h
theorem g_join_I {α : Type} {y : α} {K : Int32 → Option α} {B : (Int32 → Option α) → Option α} (h : Jp K B = some y) (tgt : Nat) (lv' : Int32 → List (Nat × Value)) (st' : Int32 → List Value) (kJ : ∀ (v0 : Int32), K v0 = some y → GG p l e R s mt args below meth c Q D cA ad cf n nL m tgt (lv' v0) (st' v0)) (kk : ∀ q : Int32 → Option α, (∀ (v0 : Int32), q v0 = some y → GG p l e R s mt args below meth c Q D cA ad cf n nL m tgt (lv' v0) (st' v0)) → B q = some y → GG p l e R s mt args below meth c Q D cA ad cf n nL m pc lv st) : GG p l e R s mt args below meth c Q D cA ad cf n nL m pc lv st := kk K kJ h
theorem g_loop_I {α : Type} {y : α} {K : Int32 → Option α} {L : (Int32 → Option α) → Nat → Int32 → Option α} {F : Nat} {v00 : Int32} (h : L K F v00 = some y) (hd xt : Nat) (lvH lvX : Int32 → List (Nat × Value)) (stH stX : Int32 → List Value) (kX : ∀ (v0 : Int32), K v0 = some y → GG p l e R s mt args below meth c Q D cA ad cf n nL m xt (lvX v0) (stX v0)) (kL : ∀ q : Int32 → Option α, (∀ (v0 : Int32), q v0 = some y → GG p l e R s mt args below meth c Q D cA ad cf n nL m xt (lvX v0) (stX v0)) → ∀ i : Nat, (∀ (v0 : Int32), L q i v0 = some y → GG p l e R s mt args below meth c Q D cA ad cf n nL m hd (lvH v0) (stH v0)) → ∀ (v0 : Int32), L q (i + 1) v0 = some y → GG p l e R s mt args below meth c Q D cA ad cf n nL m hd (lvH v0) (stH v0)) (k0 : ∀ (q : Int32 → Option α) (v0 : Int32), L q 0 v0 = none) : GG p l e R s mt args below meth c Q D cA ad cf n nL m hd (lvH v00) (stH v00) := by
  have key : ∀ i : Nat, ∀ (v0 : Int32), L K i v0 = some y → GG p l e R s mt args below meth c Q D cA ad cf n nL m hd (lvH v0) (stH v0) := by
    intro i
    induction i with
    | zero =>
      intro v0 h
      rw [k0] at h
      cases h
    | succ i ih => exact kL K kX i ih
  exact key F _ h
theorem g_join_II {α : Type} {y : α} {K : Int32 → Int32 → Option α} {B : (Int32 → Int32 → Option α) → Option α} (h : Jp K B = some y) (tgt : Nat) (lv' : Int32 → Int32 → List (Nat × Value)) (st' : Int32 → Int32 → List Value) (kJ : ∀ (v0 : Int32) (v1 : Int32), K v0 v1 = some y → GG p l e R s mt args below meth c Q D cA ad cf n nL m tgt (lv' v0 v1) (st' v0 v1)) (kk : ∀ q : Int32 → Int32 → Option α, (∀ (v0 : Int32) (v1 : Int32), q v0 v1 = some y → GG p l e R s mt args below meth c Q D cA ad cf n nL m tgt (lv' v0 v1) (st' v0 v1)) → B q = some y → GG p l e R s mt args below meth c Q D cA ad cf n nL m pc lv st) : GG p l e R s mt args below meth c Q D cA ad cf n nL m pc lv st := kk K kJ h
theorem g_loop_II {α : Type} {y : α} {K : Int32 → Int32 → Option α} {L : (Int32 → Int32 → Option α) → Nat → Int32 → Int32 → Option α} {F : Nat} {v00 : Int32} {v10 : Int32} (h : L K F v00 v10 = some y) (hd xt : Nat) (lvH lvX : Int32 → Int32 → List (Nat × Value)) (stH stX : Int32 → Int32 → List Value) (kX : ∀ (v0 : Int32) (v1 : Int32), K v0 v1 = some y → GG p l e R s mt args below meth c Q D cA ad cf n nL m xt (lvX v0 v1) (stX v0 v1)) (kL : ∀ q : Int32 → Int32 → Option α, (∀ (v0 : Int32) (v1 : Int32), q v0 v1 = some y → GG p l e R s mt args below meth c Q D cA ad cf n nL m xt (lvX v0 v1) (stX v0 v1)) → ∀ i : Nat, (∀ (v0 : Int32) (v1 : Int32), L q i v0 v1 = some y → GG p l e R s mt args below meth c Q D cA ad cf n nL m hd (lvH v0 v1) (stH v0 v1)) → ∀ (v0 : Int32) (v1 : Int32), L q (i + 1) v0 v1 = some y → GG p l e R s mt args below meth c Q D cA ad cf n nL m hd (lvH v0 v1) (stH v0 v1)) (k0 : ∀ (q : Int32 → Int32 → Option α) (v0 : Int32) (v1 : Int32), L q 0 v0 v1 = none) : GG p l e R s mt args below meth c Q D cA ad cf n nL m hd (lvH v00 v10) (stH v00 v10) := by
  have key : ∀ i : Nat, ∀ (v0 : Int32) (v1 : Int32), L K i v0 v1 = some y → GG p l e R s mt args below meth c Q D cA ad cf n nL m hd (lvH v0 v1) (stH v0 v1) := by
    intro i
    induction i with
    | zero =>
      intro v0 v1 h
      rw [k0] at h
      cases h
    | succ i ih => exact kL K kX i ih
  exact key F _ _ h
theorem g_join_III {α : Type} {y : α} {K : Int32 → Int32 → Int32 → Option α} {B : (Int32 → Int32 → Int32 → Option α) → Option α} (h : Jp K B = some y) (tgt : Nat) (lv' : Int32 → Int32 → Int32 → List (Nat × Value)) (st' : Int32 → Int32 → Int32 → List Value) (kJ : ∀ (v0 : Int32) (v1 : Int32) (v2 : Int32), K v0 v1 v2 = some y → GG p l e R s mt args below meth c Q D cA ad cf n nL m tgt (lv' v0 v1 v2) (st' v0 v1 v2)) (kk : ∀ q : Int32 → Int32 → Int32 → Option α, (∀ (v0 : Int32) (v1 : Int32) (v2 : Int32), q v0 v1 v2 = some y → GG p l e R s mt args below meth c Q D cA ad cf n nL m tgt (lv' v0 v1 v2) (st' v0 v1 v2)) → B q = some y → GG p l e R s mt args below meth c Q D cA ad cf n nL m pc lv st) : GG p l e R s mt args below meth c Q D cA ad cf n nL m pc lv st := kk K kJ h
theorem g_loop_III {α : Type} {y : α} {K : Int32 → Int32 → Int32 → Option α} {L : (Int32 → Int32 → Int32 → Option α) → Nat → Int32 → Int32 → Int32 → Option α} {F : Nat} {v00 : Int32} {v10 : Int32} {v20 : Int32} (h : L K F v00 v10 v20 = some y) (hd xt : Nat) (lvH lvX : Int32 → Int32 → Int32 → List (Nat × Value)) (stH stX : Int32 → Int32 → Int32 → List Value) (kX : ∀ (v0 : Int32) (v1 : Int32) (v2 : Int32), K v0 v1 v2 = some y → GG p l e R s mt args below meth c Q D cA ad cf n nL m xt (lvX v0 v1 v2) (stX v0 v1 v2)) (kL : ∀ q : Int32 → Int32 → Int32 → Option α, (∀ (v0 : Int32) (v1 : Int32) (v2 : Int32), q v0 v1 v2 = some y → GG p l e R s mt args below meth c Q D cA ad cf n nL m xt (lvX v0 v1 v2) (stX v0 v1 v2)) → ∀ i : Nat, (∀ (v0 : Int32) (v1 : Int32) (v2 : Int32), L q i v0 v1 v2 = some y → GG p l e R s mt args below meth c Q D cA ad cf n nL m hd (lvH v0 v1 v2) (stH v0 v1 v2)) → ∀ (v0 : Int32) (v1 : Int32) (v2 : Int32), L q (i + 1) v0 v1 v2 = some y → GG p l e R s mt args below meth c Q D cA ad cf n nL m hd (lvH v0 v1 v2) (stH v0 v1 v2)) (k0 : ∀ (q : Int32 → Int32 → Int32 → Option α) (v0 : Int32) (v1 : Int32) (v2 : Int32), L q 0 v0 v1 v2 = none) : GG p l e R s mt args below meth c Q D cA ad cf n nL m hd (lvH v00 v10 v20) (stH v00 v10 v20) := by
  have key : ∀ i : Nat, ∀ (v0 : Int32) (v1 : Int32) (v2 : Int32), L K i v0 v1 v2 = some y → GG p l e R s mt args below meth c Q D cA ad cf n nL m hd (lvH v0 v1 v2) (stH v0 v1 v2) := by
    intro i
    induction i with
    | zero =>
      intro v0 v1 v2 h
      rw [k0] at h
      cases h
    | succ i ih => exact kL K kX i ih
  exact key F _ _ _ h
theorem g_join_IIII {α : Type} {y : α} {K : Int32 → Int32 → Int32 → Int32 → Option α} {B : (Int32 → Int32 → Int32 → Int32 → Option α) → Option α} (h : Jp K B = some y) (tgt : Nat) (lv' : Int32 → Int32 → Int32 → Int32 → List (Nat × Value)) (st' : Int32 → Int32 → Int32 → Int32 → List Value) (kJ : ∀ (v0 : Int32) (v1 : Int32) (v2 : Int32) (v3 : Int32), K v0 v1 v2 v3 = some y → GG p l e R s mt args below meth c Q D cA ad cf n nL m tgt (lv' v0 v1 v2 v3) (st' v0 v1 v2 v3)) (kk : ∀ q : Int32 → Int32 → Int32 → Int32 → Option α, (∀ (v0 : Int32) (v1 : Int32) (v2 : Int32) (v3 : Int32), q v0 v1 v2 v3 = some y → GG p l e R s mt args below meth c Q D cA ad cf n nL m tgt (lv' v0 v1 v2 v3) (st' v0 v1 v2 v3)) → B q = some y → GG p l e R s mt args below meth c Q D cA ad cf n nL m pc lv st) : GG p l e R s mt args below meth c Q D cA ad cf n nL m pc lv st := kk K kJ h
theorem g_loop_IIII {α : Type} {y : α} {K : Int32 → Int32 → Int32 → Int32 → Option α} {L : (Int32 → Int32 → Int32 → Int32 → Option α) → Nat → Int32 → Int32 → Int32 → Int32 → Option α} {F : Nat} {v00 : Int32} {v10 : Int32} {v20 : Int32} {v30 : Int32} (h : L K F v00 v10 v20 v30 = some y) (hd xt : Nat) (lvH lvX : Int32 → Int32 → Int32 → Int32 → List (Nat × Value)) (stH stX : Int32 → Int32 → Int32 → Int32 → List Value) (kX : ∀ (v0 : Int32) (v1 : Int32) (v2 : Int32) (v3 : Int32), K v0 v1 v2 v3 = some y → GG p l e R s mt args below meth c Q D cA ad cf n nL m xt (lvX v0 v1 v2 v3) (stX v0 v1 v2 v3)) (kL : ∀ q : Int32 → Int32 → Int32 → Int32 → Option α, (∀ (v0 : Int32) (v1 : Int32) (v2 : Int32) (v3 : Int32), q v0 v1 v2 v3 = some y → GG p l e R s mt args below meth c Q D cA ad cf n nL m xt (lvX v0 v1 v2 v3) (stX v0 v1 v2 v3)) → ∀ i : Nat, (∀ (v0 : Int32) (v1 : Int32) (v2 : Int32) (v3 : Int32), L q i v0 v1 v2 v3 = some y → GG p l e R s mt args below meth c Q D cA ad cf n nL m hd (lvH v0 v1 v2 v3) (stH v0 v1 v2 v3)) → ∀ (v0 : Int32) (v1 : Int32) (v2 : Int32) (v3 : Int32), L q (i + 1) v0 v1 v2 v3 = some y → GG p l e R s mt args below meth c Q D cA ad cf n nL m hd (lvH v0 v1 v2 v3) (stH v0 v1 v2 v3)) (k0 : ∀ (q : Int32 → Int32 → Int32 → Int32 → Option α) (v0 : Int32) (v1 : Int32) (v2 : Int32) (v3 : Int32), L q 0 v0 v1 v2 v3 = none) : GG p l e R s mt args below meth c Q D cA ad cf n nL m hd (lvH v00 v10 v20 v30) (stH v00 v10 v20 v30) := by
  have key : ∀ i : Nat, ∀ (v0 : Int32) (v1 : Int32) (v2 : Int32) (v3 : Int32), L K i v0 v1 v2 v3 = some y → GG p l e R s mt args below meth c Q D cA ad cf n nL m hd (lvH v0 v1 v2 v3) (stH v0 v1 v2 v3) := by
    intro i
    induction i with
    | zero =>
      intro v0 v1 v2 v3 h
      rw [k0] at h
      cases h
    | succ i ih => exact kL K kX i ih
  exact key F _ _ _ _ h
theorem g_join_IIIM {α : Type} {y : α} {K : Int32 → Int32 → Int32 → MM → Option α} {B : (Int32 → Int32 → Int32 → MM → Option α) → Option α} (h : Jp K B = some y) (tgt : Nat) (lv' : Int32 → Int32 → Int32 → MM → List (Nat × Value)) (st' : Int32 → Int32 → Int32 → MM → List Value) (kJ : ∀ (v0 : Int32) (v1 : Int32) (v2 : Int32) (v3 : MM), K v0 v1 v2 v3 = some y → GG p l e R s mt args below meth c Q D cA ad cf n nL v3 tgt (lv' v0 v1 v2 v3) (st' v0 v1 v2 v3)) (kk : ∀ q : Int32 → Int32 → Int32 → MM → Option α, (∀ (v0 : Int32) (v1 : Int32) (v2 : Int32) (v3 : MM), q v0 v1 v2 v3 = some y → GG p l e R s mt args below meth c Q D cA ad cf n nL v3 tgt (lv' v0 v1 v2 v3) (st' v0 v1 v2 v3)) → B q = some y → GG p l e R s mt args below meth c Q D cA ad cf n nL m pc lv st) : GG p l e R s mt args below meth c Q D cA ad cf n nL m pc lv st := kk K kJ h
theorem g_loop_IIIM {α : Type} {y : α} {K : Int32 → Int32 → Int32 → MM → Option α} {L : (Int32 → Int32 → Int32 → MM → Option α) → Nat → Int32 → Int32 → Int32 → MM → Option α} {F : Nat} {v00 : Int32} {v10 : Int32} {v20 : Int32} {v30 : MM} (h : L K F v00 v10 v20 v30 = some y) (hd xt : Nat) (lvH lvX : Int32 → Int32 → Int32 → MM → List (Nat × Value)) (stH stX : Int32 → Int32 → Int32 → MM → List Value) (kX : ∀ (v0 : Int32) (v1 : Int32) (v2 : Int32) (v3 : MM), K v0 v1 v2 v3 = some y → GG p l e R s mt args below meth c Q D cA ad cf n nL v3 xt (lvX v0 v1 v2 v3) (stX v0 v1 v2 v3)) (kL : ∀ q : Int32 → Int32 → Int32 → MM → Option α, (∀ (v0 : Int32) (v1 : Int32) (v2 : Int32) (v3 : MM), q v0 v1 v2 v3 = some y → GG p l e R s mt args below meth c Q D cA ad cf n nL v3 xt (lvX v0 v1 v2 v3) (stX v0 v1 v2 v3)) → ∀ i : Nat, (∀ (v0 : Int32) (v1 : Int32) (v2 : Int32) (v3 : MM), L q i v0 v1 v2 v3 = some y → GG p l e R s mt args below meth c Q D cA ad cf n nL v3 hd (lvH v0 v1 v2 v3) (stH v0 v1 v2 v3)) → ∀ (v0 : Int32) (v1 : Int32) (v2 : Int32) (v3 : MM), L q (i + 1) v0 v1 v2 v3 = some y → GG p l e R s mt args below meth c Q D cA ad cf n nL v3 hd (lvH v0 v1 v2 v3) (stH v0 v1 v2 v3)) (k0 : ∀ (q : Int32 → Int32 → Int32 → MM → Option α) (v0 : Int32) (v1 : Int32) (v2 : Int32) (v3 : MM), L q 0 v0 v1 v2 v3 = none) : GG p l e R s mt args below meth c Q D cA ad cf n nL v30 hd (lvH v00 v10 v20 v30) (stH v00 v10 v20 v30) := by
  have key : ∀ i : Nat, ∀ (v0 : Int32) (v1 : Int32) (v2 : Int32) (v3 : MM), L K i v0 v1 v2 v3 = some y → GG p l e R s mt args below meth c Q D cA ad cf n nL v3 hd (lvH v0 v1 v2 v3) (stH v0 v1 v2 v3) := by
    intro i
    induction i with
    | zero =>
      intro v0 v1 v2 v3 h
      rw [k0] at h
      cases h
    | succ i ih => exact kL K kX i ih
  exact key F _ _ _ _ h
theorem g_join_IIM {α : Type} {y : α} {K : Int32 → Int32 → MM → Option α} {B : (Int32 → Int32 → MM → Option α) → Option α} (h : Jp K B = some y) (tgt : Nat) (lv' : Int32 → Int32 → MM → List (Nat × Value)) (st' : Int32 → Int32 → MM → List Value) (kJ : ∀ (v0 : Int32) (v1 : Int32) (v2 : MM), K v0 v1 v2 = some y → GG p l e R s mt args below meth c Q D cA ad cf n nL v2 tgt (lv' v0 v1 v2) (st' v0 v1 v2)) (kk : ∀ q : Int32 → Int32 → MM → Option α, (∀ (v0 : Int32) (v1 : Int32) (v2 : MM), q v0 v1 v2 = some y → GG p l e R s mt args below meth c Q D cA ad cf n nL v2 tgt (lv' v0 v1 v2) (st' v0 v1 v2)) → B q = some y → GG p l e R s mt args below meth c Q D cA ad cf n nL m pc lv st) : GG p l e R s mt args below meth c Q D cA ad cf n nL m pc lv st := kk K kJ h
theorem g_loop_IIM {α : Type} {y : α} {K : Int32 → Int32 → MM → Option α} {L : (Int32 → Int32 → MM → Option α) → Nat → Int32 → Int32 → MM → Option α} {F : Nat} {v00 : Int32} {v10 : Int32} {v20 : MM} (h : L K F v00 v10 v20 = some y) (hd xt : Nat) (lvH lvX : Int32 → Int32 → MM → List (Nat × Value)) (stH stX : Int32 → Int32 → MM → List Value) (kX : ∀ (v0 : Int32) (v1 : Int32) (v2 : MM), K v0 v1 v2 = some y → GG p l e R s mt args below meth c Q D cA ad cf n nL v2 xt (lvX v0 v1 v2) (stX v0 v1 v2)) (kL : ∀ q : Int32 → Int32 → MM → Option α, (∀ (v0 : Int32) (v1 : Int32) (v2 : MM), q v0 v1 v2 = some y → GG p l e R s mt args below meth c Q D cA ad cf n nL v2 xt (lvX v0 v1 v2) (stX v0 v1 v2)) → ∀ i : Nat, (∀ (v0 : Int32) (v1 : Int32) (v2 : MM), L q i v0 v1 v2 = some y → GG p l e R s mt args below meth c Q D cA ad cf n nL v2 hd (lvH v0 v1 v2) (stH v0 v1 v2)) → ∀ (v0 : Int32) (v1 : Int32) (v2 : MM), L q (i + 1) v0 v1 v2 = some y → GG p l e R s mt args below meth c Q D cA ad cf n nL v2 hd (lvH v0 v1 v2) (stH v0 v1 v2)) (k0 : ∀ (q : Int32 → Int32 → MM → Option α) (v0 : Int32) (v1 : Int32) (v2 : MM), L q 0 v0 v1 v2 = none) : GG p l e R s mt args below meth c Q D cA ad cf n nL v20 hd (lvH v00 v10 v20) (stH v00 v10 v20) := by
  have key : ∀ i : Nat, ∀ (v0 : Int32) (v1 : Int32) (v2 : MM), L K i v0 v1 v2 = some y → GG p l e R s mt args below meth c Q D cA ad cf n nL v2 hd (lvH v0 v1 v2) (stH v0 v1 v2) := by
    intro i
    induction i with
    | zero =>
      intro v0 v1 v2 h
      rw [k0] at h
      cases h
    | succ i ih => exact kL K kX i ih
  exact key F _ _ _ h
theorem g_join_IM {α : Type} {y : α} {K : Int32 → MM → Option α} {B : (Int32 → MM → Option α) → Option α} (h : Jp K B = some y) (tgt : Nat) (lv' : Int32 → MM → List (Nat × Value)) (st' : Int32 → MM → List Value) (kJ : ∀ (v0 : Int32) (v1 : MM), K v0 v1 = some y → GG p l e R s mt args below meth c Q D cA ad cf n nL v1 tgt (lv' v0 v1) (st' v0 v1)) (kk : ∀ q : Int32 → MM → Option α, (∀ (v0 : Int32) (v1 : MM), q v0 v1 = some y → GG p l e R s mt args below meth c Q D cA ad cf n nL v1 tgt (lv' v0 v1) (st' v0 v1)) → B q = some y → GG p l e R s mt args below meth c Q D cA ad cf n nL m pc lv st) : GG p l e R s mt args below meth c Q D cA ad cf n nL m pc lv st := kk K kJ h
theorem g_loop_IM {α : Type} {y : α} {K : Int32 → MM → Option α} {L : (Int32 → MM → Option α) → Nat → Int32 → MM → Option α} {F : Nat} {v00 : Int32} {v10 : MM} (h : L K F v00 v10 = some y) (hd xt : Nat) (lvH lvX : Int32 → MM → List (Nat × Value)) (stH stX : Int32 → MM → List Value) (kX : ∀ (v0 : Int32) (v1 : MM), K v0 v1 = some y → GG p l e R s mt args below meth c Q D cA ad cf n nL v1 xt (lvX v0 v1) (stX v0 v1)) (kL : ∀ q : Int32 → MM → Option α, (∀ (v0 : Int32) (v1 : MM), q v0 v1 = some y → GG p l e R s mt args below meth c Q D cA ad cf n nL v1 xt (lvX v0 v1) (stX v0 v1)) → ∀ i : Nat, (∀ (v0 : Int32) (v1 : MM), L q i v0 v1 = some y → GG p l e R s mt args below meth c Q D cA ad cf n nL v1 hd (lvH v0 v1) (stH v0 v1)) → ∀ (v0 : Int32) (v1 : MM), L q (i + 1) v0 v1 = some y → GG p l e R s mt args below meth c Q D cA ad cf n nL v1 hd (lvH v0 v1) (stH v0 v1)) (k0 : ∀ (q : Int32 → MM → Option α) (v0 : Int32) (v1 : MM), L q 0 v0 v1 = none) : GG p l e R s mt args below meth c Q D cA ad cf n nL v10 hd (lvH v00 v10) (stH v00 v10) := by
  have key : ∀ i : Nat, ∀ (v0 : Int32) (v1 : MM), L K i v0 v1 = some y → GG p l e R s mt args below meth c Q D cA ad cf n nL v1 hd (lvH v0 v1) (stH v0 v1) := by
    intro i
    induction i with
    | zero =>
      intro v0 v1 h
      rw [k0] at h
      cases h
    | succ i ih => exact kL K kX i ih
  exact key F _ _ h
theorem g_join_LI {α : Type} {y : α} {K : Int64 → Int32 → Option α} {B : (Int64 → Int32 → Option α) → Option α} (h : Jp K B = some y) (tgt : Nat) (lv' : Int64 → Int32 → List (Nat × Value)) (st' : Int64 → Int32 → List Value) (kJ : ∀ (v0 : Int64) (v1 : Int32), K v0 v1 = some y → GG p l e R s mt args below meth c Q D cA ad cf n nL m tgt (lv' v0 v1) (st' v0 v1)) (kk : ∀ q : Int64 → Int32 → Option α, (∀ (v0 : Int64) (v1 : Int32), q v0 v1 = some y → GG p l e R s mt args below meth c Q D cA ad cf n nL m tgt (lv' v0 v1) (st' v0 v1)) → B q = some y → GG p l e R s mt args below meth c Q D cA ad cf n nL m pc lv st) : GG p l e R s mt args below meth c Q D cA ad cf n nL m pc lv st := kk K kJ h
theorem g_loop_LI {α : Type} {y : α} {K : Int64 → Int32 → Option α} {L : (Int64 → Int32 → Option α) → Nat → Int64 → Int32 → Option α} {F : Nat} {v00 : Int64} {v10 : Int32} (h : L K F v00 v10 = some y) (hd xt : Nat) (lvH lvX : Int64 → Int32 → List (Nat × Value)) (stH stX : Int64 → Int32 → List Value) (kX : ∀ (v0 : Int64) (v1 : Int32), K v0 v1 = some y → GG p l e R s mt args below meth c Q D cA ad cf n nL m xt (lvX v0 v1) (stX v0 v1)) (kL : ∀ q : Int64 → Int32 → Option α, (∀ (v0 : Int64) (v1 : Int32), q v0 v1 = some y → GG p l e R s mt args below meth c Q D cA ad cf n nL m xt (lvX v0 v1) (stX v0 v1)) → ∀ i : Nat, (∀ (v0 : Int64) (v1 : Int32), L q i v0 v1 = some y → GG p l e R s mt args below meth c Q D cA ad cf n nL m hd (lvH v0 v1) (stH v0 v1)) → ∀ (v0 : Int64) (v1 : Int32), L q (i + 1) v0 v1 = some y → GG p l e R s mt args below meth c Q D cA ad cf n nL m hd (lvH v0 v1) (stH v0 v1)) (k0 : ∀ (q : Int64 → Int32 → Option α) (v0 : Int64) (v1 : Int32), L q 0 v0 v1 = none) : GG p l e R s mt args below meth c Q D cA ad cf n nL m hd (lvH v00 v10) (stH v00 v10) := by
  have key : ∀ i : Nat, ∀ (v0 : Int64) (v1 : Int32), L K i v0 v1 = some y → GG p l e R s mt args below meth c Q D cA ad cf n nL m hd (lvH v0 v1) (stH v0 v1) := by
    intro i
    induction i with
    | zero =>
      intro v0 v1 h
      rw [k0] at h
      cases h
    | succ i ih => exact kL K kX i ih
  exact key F _ _ h
theorem g_join_LIM {α : Type} {y : α} {K : Int64 → Int32 → MM → Option α} {B : (Int64 → Int32 → MM → Option α) → Option α} (h : Jp K B = some y) (tgt : Nat) (lv' : Int64 → Int32 → MM → List (Nat × Value)) (st' : Int64 → Int32 → MM → List Value) (kJ : ∀ (v0 : Int64) (v1 : Int32) (v2 : MM), K v0 v1 v2 = some y → GG p l e R s mt args below meth c Q D cA ad cf n nL v2 tgt (lv' v0 v1 v2) (st' v0 v1 v2)) (kk : ∀ q : Int64 → Int32 → MM → Option α, (∀ (v0 : Int64) (v1 : Int32) (v2 : MM), q v0 v1 v2 = some y → GG p l e R s mt args below meth c Q D cA ad cf n nL v2 tgt (lv' v0 v1 v2) (st' v0 v1 v2)) → B q = some y → GG p l e R s mt args below meth c Q D cA ad cf n nL m pc lv st) : GG p l e R s mt args below meth c Q D cA ad cf n nL m pc lv st := kk K kJ h
theorem g_loop_LIM {α : Type} {y : α} {K : Int64 → Int32 → MM → Option α} {L : (Int64 → Int32 → MM → Option α) → Nat → Int64 → Int32 → MM → Option α} {F : Nat} {v00 : Int64} {v10 : Int32} {v20 : MM} (h : L K F v00 v10 v20 = some y) (hd xt : Nat) (lvH lvX : Int64 → Int32 → MM → List (Nat × Value)) (stH stX : Int64 → Int32 → MM → List Value) (kX : ∀ (v0 : Int64) (v1 : Int32) (v2 : MM), K v0 v1 v2 = some y → GG p l e R s mt args below meth c Q D cA ad cf n nL v2 xt (lvX v0 v1 v2) (stX v0 v1 v2)) (kL : ∀ q : Int64 → Int32 → MM → Option α, (∀ (v0 : Int64) (v1 : Int32) (v2 : MM), q v0 v1 v2 = some y → GG p l e R s mt args below meth c Q D cA ad cf n nL v2 xt (lvX v0 v1 v2) (stX v0 v1 v2)) → ∀ i : Nat, (∀ (v0 : Int64) (v1 : Int32) (v2 : MM), L q i v0 v1 v2 = some y → GG p l e R s mt args below meth c Q D cA ad cf n nL v2 hd (lvH v0 v1 v2) (stH v0 v1 v2)) → ∀ (v0 : Int64) (v1 : Int32) (v2 : MM), L q (i + 1) v0 v1 v2 = some y → GG p l e R s mt args below meth c Q D cA ad cf n nL v2 hd (lvH v0 v1 v2) (stH v0 v1 v2)) (k0 : ∀ (q : Int64 → Int32 → MM → Option α) (v0 : Int64) (v1 : Int32) (v2 : MM), L q 0 v0 v1 v2 = none) : GG p l e R s mt args below meth c Q D cA ad cf n nL v20 hd (lvH v00 v10 v20) (stH v00 v10 v20) := by
  have key : ∀ i : Nat, ∀ (v0 : Int64) (v1 : Int32) (v2 : MM), L K i v0 v1 v2 = some y → GG p l e R s mt args below meth c Q D cA ad cf n nL v2 hd (lvH v0 v1 v2) (stH v0 v1 v2) := by
    intro i
    induction i with
    | zero =>
      intro v0 v1 v2 h
      rw [k0] at h
      cases h
    | succ i ih => exact kL K kX i ih
  exact key F _ _ _ h
theorem g_join_LL {α : Type} {y : α} {K : Int64 → Int64 → Option α} {B : (Int64 → Int64 → Option α) → Option α} (h : Jp K B = some y) (tgt : Nat) (lv' : Int64 → Int64 → List (Nat × Value)) (st' : Int64 → Int64 → List Value) (kJ : ∀ (v0 : Int64) (v1 : Int64), K v0 v1 = some y → GG p l e R s mt args below meth c Q D cA ad cf n nL m tgt (lv' v0 v1) (st' v0 v1)) (kk : ∀ q : Int64 → Int64 → Option α, (∀ (v0 : Int64) (v1 : Int64), q v0 v1 = some y → GG p l e R s mt args below meth c Q D cA ad cf n nL m tgt (lv' v0 v1) (st' v0 v1)) → B q = some y → GG p l e R s mt args below meth c Q D cA ad cf n nL m pc lv st) : GG p l e R s mt args below meth c Q D cA ad cf n nL m pc lv st := kk K kJ h
theorem g_loop_LL {α : Type} {y : α} {K : Int64 → Int64 → Option α} {L : (Int64 → Int64 → Option α) → Nat → Int64 → Int64 → Option α} {F : Nat} {v00 : Int64} {v10 : Int64} (h : L K F v00 v10 = some y) (hd xt : Nat) (lvH lvX : Int64 → Int64 → List (Nat × Value)) (stH stX : Int64 → Int64 → List Value) (kX : ∀ (v0 : Int64) (v1 : Int64), K v0 v1 = some y → GG p l e R s mt args below meth c Q D cA ad cf n nL m xt (lvX v0 v1) (stX v0 v1)) (kL : ∀ q : Int64 → Int64 → Option α, (∀ (v0 : Int64) (v1 : Int64), q v0 v1 = some y → GG p l e R s mt args below meth c Q D cA ad cf n nL m xt (lvX v0 v1) (stX v0 v1)) → ∀ i : Nat, (∀ (v0 : Int64) (v1 : Int64), L q i v0 v1 = some y → GG p l e R s mt args below meth c Q D cA ad cf n nL m hd (lvH v0 v1) (stH v0 v1)) → ∀ (v0 : Int64) (v1 : Int64), L q (i + 1) v0 v1 = some y → GG p l e R s mt args below meth c Q D cA ad cf n nL m hd (lvH v0 v1) (stH v0 v1)) (k0 : ∀ (q : Int64 → Int64 → Option α) (v0 : Int64) (v1 : Int64), L q 0 v0 v1 = none) : GG p l e R s mt args below meth c Q D cA ad cf n nL m hd (lvH v00 v10) (stH v00 v10) := by
  have key : ∀ i : Nat, ∀ (v0 : Int64) (v1 : Int64), L K i v0 v1 = some y → GG p l e R s mt args below meth c Q D cA ad cf n nL m hd (lvH v0 v1) (stH v0 v1) := by
    intro i
    induction i with
    | zero =>
      intro v0 v1 h
      rw [k0] at h
      cases h
    | succ i ih => exact kL K kX i ih
  exact key F _ _ h
theorem g_join_M {α : Type} {y : α} {K : MM → Option α} {B : (MM → Option α) → Option α} (h : Jp K B = some y) (tgt : Nat) (lv' : MM → List (Nat × Value)) (st' : MM → List Value) (kJ : ∀ (v0 : MM), K v0 = some y → GG p l e R s mt args below meth c Q D cA ad cf n nL v0 tgt (lv' v0) (st' v0)) (kk : ∀ q : MM → Option α, (∀ (v0 : MM), q v0 = some y → GG p l e R s mt args below meth c Q D cA ad cf n nL v0 tgt (lv' v0) (st' v0)) → B q = some y → GG p l e R s mt args below meth c Q D cA ad cf n nL m pc lv st) : GG p l e R s mt args below meth c Q D cA ad cf n nL m pc lv st := kk K kJ h
theorem g_loop_M {α : Type} {y : α} {K : MM → Option α} {L : (MM → Option α) → Nat → MM → Option α} {F : Nat} {v00 : MM} (h : L K F v00 = some y) (hd xt : Nat) (lvH lvX : MM → List (Nat × Value)) (stH stX : MM → List Value) (kX : ∀ (v0 : MM), K v0 = some y → GG p l e R s mt args below meth c Q D cA ad cf n nL v0 xt (lvX v0) (stX v0)) (kL : ∀ q : MM → Option α, (∀ (v0 : MM), q v0 = some y → GG p l e R s mt args below meth c Q D cA ad cf n nL v0 xt (lvX v0) (stX v0)) → ∀ i : Nat, (∀ (v0 : MM), L q i v0 = some y → GG p l e R s mt args below meth c Q D cA ad cf n nL v0 hd (lvH v0) (stH v0)) → ∀ (v0 : MM), L q (i + 1) v0 = some y → GG p l e R s mt args below meth c Q D cA ad cf n nL v0 hd (lvH v0) (stH v0)) (k0 : ∀ (q : MM → Option α) (v0 : MM), L q 0 v0 = none) : GG p l e R s mt args below meth c Q D cA ad cf n nL v00 hd (lvH v00) (stH v00) := by
  have key : ∀ i : Nat, ∀ (v0 : MM), L K i v0 = some y → GG p l e R s mt args below meth c Q D cA ad cf n nL v0 hd (lvH v0) (stH v0) := by
    intro i
    induction i with
    | zero =>
      intro v0 h
      rw [k0] at h
      cases h
    | succ i ih => exact kL K kX i ih
  exact key F _ h
end GGsigs
end
section
theorem i_vc : Claimed_1_1 ∧ Claimed_1_2 := sorry
end
