/-- a private method of a class that the tables say can be made, by its rows of tables_1 -/
def lw_okq (q : MethodName × Nat) : Prop := (q.1.cls ≠ "java/lang/invoke/MethodHandle" ∧ q.1.cls ≠ "java/lang/invoke/VarHandle") ∧ Cond.instantiable q.1.cls q.2 ∈ tables_1 ∧ Cond.privateMethod q.1 ∈ tables_1 ∧ Cond.instanceMethod q.1 ∈ tables_1
theorem lw_p0 : lw_okq (⟨"BothHandsFull$Tape", "advance", "()V"⟩, 7) := ⟨⟨by decide +kernel, by decide +kernel⟩, List.mem_of_getElem? (i := 137) (by decide +kernel), List.mem_of_getElem? (i := 267) (by decide +kernel), List.mem_of_getElem? (i := 268) (by decide +kernel)⟩
theorem lw_p1 : lw_okq (⟨"BothHandsFull$Tape", "takeWord", "()V"⟩, 7) := ⟨⟨by decide +kernel, by decide +kernel⟩, List.mem_of_getElem? (i := 137) (by decide +kernel), List.mem_of_getElem? (i := 274) (by decide +kernel), List.mem_of_getElem? (i := 275) (by decide +kernel)⟩
theorem lw_p2 : lw_okq (⟨"BothHandsFull$Tape", "isWord", "(I)Z"⟩, 7) := ⟨⟨by decide +kernel, by decide +kernel⟩, List.mem_of_getElem? (i := 137) (by decide +kernel), List.mem_of_getElem? (i := 278) (by decide +kernel), List.mem_of_getElem? (i := 279) (by decide +kernel)⟩
theorem lw_p3 : lw_okq (⟨"BothHandsFull$Tape", "takeNumber", "()V"⟩, 7) := ⟨⟨by decide +kernel, by decide +kernel⟩, List.mem_of_getElem? (i := 137) (by decide +kernel), List.mem_of_getElem? (i := 287) (by decide +kernel), List.mem_of_getElem? (i := 288) (by decide +kernel)⟩
theorem lw_p4 : lw_okq (⟨"BothHandsFull$Tape", "joined", "(II)Z"⟩, 7) := ⟨⟨by decide +kernel, by decide +kernel⟩, List.mem_of_getElem? (i := 137) (by decide +kernel), List.mem_of_getElem? (i := 355) (by decide +kernel), List.mem_of_getElem? (i := 356) (by decide +kernel)⟩
theorem lw_p5 : lw_okq (⟨"BothHandsFull$Tape", "one", "(I)Z"⟩, 7) := ⟨⟨by decide +kernel, by decide +kernel⟩, List.mem_of_getElem? (i := 137) (by decide +kernel), List.mem_of_getElem? (i := 359) (by decide +kernel), List.mem_of_getElem? (i := 360) (by decide +kernel)⟩
theorem lw_p6 : lw_okq (⟨"BothHandsFull$Tape", "joins", "(I)Z"⟩, 7) := ⟨⟨by decide +kernel, by decide +kernel⟩, List.mem_of_getElem? (i := 137) (by decide +kernel), List.mem_of_getElem? (i := 367) (by decide +kernel), List.mem_of_getElem? (i := 368) (by decide +kernel)⟩
theorem lw_p7 : lw_okq (⟨"BothHandsFull", "setFree", "(I)I"⟩, 10) := ⟨⟨by decide +kernel, by decide +kernel⟩, List.mem_of_getElem? (i := 16) (by decide +kernel), List.mem_of_getElem? (i := 442) (by decide +kernel), List.mem_of_getElem? (i := 443) (by decide +kernel)⟩
theorem lw_p8 : lw_okq (⟨"BothHandsFull", "setKey", "(I)I"⟩, 10) := ⟨⟨by decide +kernel, by decide +kernel⟩, List.mem_of_getElem? (i := 16) (by decide +kernel), List.mem_of_getElem? (i := 446) (by decide +kernel), List.mem_of_getElem? (i := 447) (by decide +kernel)⟩
theorem lw_p9 : lw_okq (⟨"BothHandsFull", "setNumber", "(II)I"⟩, 10) := ⟨⟨by decide +kernel, by decide +kernel⟩, List.mem_of_getElem? (i := 16) (by decide +kernel), List.mem_of_getElem? (i := 454) (by decide +kernel), List.mem_of_getElem? (i := 455) (by decide +kernel)⟩
theorem lw_p10 : lw_okq (⟨"BothHandsFull", "setDry", "(II)I"⟩, 10) := ⟨⟨by decide +kernel, by decide +kernel⟩, List.mem_of_getElem? (i := 16) (by decide +kernel), List.mem_of_getElem? (i := 462) (by decide +kernel), List.mem_of_getElem? (i := 463) (by decide +kernel)⟩
theorem lw_p11 : lw_okq (⟨"BothHandsFull", "toldOfHold", "(II)I"⟩, 10) := ⟨⟨by decide +kernel, by decide +kernel⟩, List.mem_of_getElem? (i := 16) (by decide +kernel), List.mem_of_getElem? (i := 481) (by decide +kernel), List.mem_of_getElem? (i := 482) (by decide +kernel)⟩
theorem lw_p12 : lw_okq (⟨"BothHandsFull", "toldOfThing", "(II)I"⟩, 10) := ⟨⟨by decide +kernel, by decide +kernel⟩, List.mem_of_getElem? (i := 16) (by decide +kernel), List.mem_of_getElem? (i := 492) (by decide +kernel), List.mem_of_getElem? (i := 493) (by decide +kernel)⟩
theorem lw_p13 : lw_okq (⟨"BothHandsFull", "costs", "(III)I"⟩, 10) := ⟨⟨by decide +kernel, by decide +kernel⟩, List.mem_of_getElem? (i := 16) (by decide +kernel), List.mem_of_getElem? (i := 512) (by decide +kernel), List.mem_of_getElem? (i := 513) (by decide +kernel)⟩
theorem lw_p14 : lw_okq (⟨"BothHandsFull", "name", "(IIIII)V"⟩, 10) := ⟨⟨by decide +kernel, by decide +kernel⟩, List.mem_of_getElem? (i := 16) (by decide +kernel), List.mem_of_getElem? (i := 516) (by decide +kernel), List.mem_of_getElem? (i := 517) (by decide +kernel)⟩
theorem lw_p15 : lw_okq (⟨"BothHandsFull", "bell", "()I"⟩, 10) := ⟨⟨by decide +kernel, by decide +kernel⟩, List.mem_of_getElem? (i := 16) (by decide +kernel), List.mem_of_getElem? (i := 562) (by decide +kernel), List.mem_of_getElem? (i := 563) (by decide +kernel)⟩
def lw_privs_1 : List (MethodName × Nat) := [(⟨"BothHandsFull$Tape", "advance", "()V"⟩, 7), (⟨"BothHandsFull$Tape", "takeWord", "()V"⟩, 7), (⟨"BothHandsFull$Tape", "isWord", "(I)Z"⟩, 7), (⟨"BothHandsFull$Tape", "takeNumber", "()V"⟩, 7), (⟨"BothHandsFull$Tape", "joined", "(II)Z"⟩, 7), (⟨"BothHandsFull$Tape", "one", "(I)Z"⟩, 7), (⟨"BothHandsFull$Tape", "joins", "(I)Z"⟩, 7), (⟨"BothHandsFull", "setFree", "(I)I"⟩, 10), (⟨"BothHandsFull", "setKey", "(I)I"⟩, 10), (⟨"BothHandsFull", "setNumber", "(II)I"⟩, 10), (⟨"BothHandsFull", "setDry", "(II)I"⟩, 10), (⟨"BothHandsFull", "toldOfHold", "(II)I"⟩, 10), (⟨"BothHandsFull", "toldOfThing", "(II)I"⟩, 10), (⟨"BothHandsFull", "costs", "(III)I"⟩, 10), (⟨"BothHandsFull", "name", "(IIIII)V"⟩, 10), (⟨"BothHandsFull", "bell", "()I"⟩, 10)]
theorem lw_r1 : ∀ q ∈ lw_privs_1, lw_okq q := List.forall_mem_cons.mpr ⟨lw_p0, List.forall_mem_cons.mpr ⟨lw_p1, List.forall_mem_cons.mpr ⟨lw_p2, List.forall_mem_cons.mpr ⟨lw_p3, List.forall_mem_cons.mpr ⟨lw_p4, List.forall_mem_cons.mpr ⟨lw_p5, List.forall_mem_cons.mpr ⟨lw_p6, List.forall_mem_cons.mpr ⟨lw_p7, List.forall_mem_cons.mpr ⟨lw_p8, List.forall_mem_cons.mpr ⟨lw_p9, List.forall_mem_cons.mpr ⟨lw_p10, List.forall_mem_cons.mpr ⟨lw_p11, List.forall_mem_cons.mpr ⟨lw_p12, List.forall_mem_cons.mpr ⟨lw_p13, List.forall_mem_cons.mpr ⟨lw_p14, List.forall_mem_cons.mpr ⟨lw_p15, fun _ h => absurd h List.not_mem_nil⟩⟩⟩⟩⟩⟩⟩⟩⟩⟩⟩⟩⟩⟩⟩⟩
theorem lw_p16 : lw_okq (⟨"BothHandsFull", "worth", "(I)I"⟩, 10) := ⟨⟨by decide +kernel, by decide +kernel⟩, List.mem_of_getElem? (i := 16) (by decide +kernel), List.mem_of_getElem? (i := 566) (by decide +kernel), List.mem_of_getElem? (i := 567) (by decide +kernel)⟩
theorem lw_p17 : lw_okq (⟨"BothHandsFull", "fewest", "(Z)I"⟩, 10) := ⟨⟨by decide +kernel, by decide +kernel⟩, List.mem_of_getElem? (i := 16) (by decide +kernel), List.mem_of_getElem? (i := 574) (by decide +kernel), List.mem_of_getElem? (i := 575) (by decide +kernel)⟩
theorem lw_p18 : lw_okq (⟨"BothHandsFull", "think", "(II)V"⟩, 10) := ⟨⟨by decide +kernel, by decide +kernel⟩, List.mem_of_getElem? (i := 16) (by decide +kernel), List.mem_of_getElem? (i := 578) (by decide +kernel), List.mem_of_getElem? (i := 579) (by decide +kernel)⟩
theorem lw_p19 : lw_okq (⟨"BothHandsFull$Search", "lay", "(II)V"⟩, 14) := ⟨⟨by decide +kernel, by decide +kernel⟩, List.mem_of_getElem? (i := 88) (by decide +kernel), List.mem_of_getElem? (i := 593) (by decide +kernel), List.mem_of_getElem? (i := 594) (by decide +kernel)⟩
theorem lw_p20 : lw_okq (⟨"BothHandsFull$Search", "split", "(I)V"⟩, 14) := ⟨⟨by decide +kernel, by decide +kernel⟩, List.mem_of_getElem? (i := 88) (by decide +kernel), List.mem_of_getElem? (i := 599) (by decide +kernel), List.mem_of_getElem? (i := 600) (by decide +kernel)⟩
theorem lw_p21 : lw_okq (⟨"BothHandsFull$Search", "clearTurns", "()V"⟩, 14) := ⟨⟨by decide +kernel, by decide +kernel⟩, List.mem_of_getElem? (i := 88) (by decide +kernel), List.mem_of_getElem? (i := 611) (by decide +kernel), List.mem_of_getElem? (i := 612) (by decide +kernel)⟩
theorem lw_p22 : lw_okq (⟨"BothHandsFull$Search", "enterTurn", "(II)V"⟩, 14) := ⟨⟨by decide +kernel, by decide +kernel⟩, List.mem_of_getElem? (i := 88) (by decide +kernel), List.mem_of_getElem? (i := 615) (by decide +kernel), List.mem_of_getElem? (i := 616) (by decide +kernel)⟩
theorem lw_p23 : lw_okq (⟨"BothHandsFull$Search", "spread", "(Z)I"⟩, 14) := ⟨⟨by decide +kernel, by decide +kernel⟩, List.mem_of_getElem? (i := 88) (by decide +kernel), List.mem_of_getElem? (i := 619) (by decide +kernel), List.mem_of_getElem? (i := 620) (by decide +kernel)⟩
theorem lw_p24 : lw_okq (⟨"BothHandsFull$Search", "leaveTurn", "(I)V"⟩, 14) := ⟨⟨by decide +kernel, by decide +kernel⟩, List.mem_of_getElem? (i := 88) (by decide +kernel), List.mem_of_getElem? (i := 624) (by decide +kernel), List.mem_of_getElem? (i := 625) (by decide +kernel)⟩
theorem lw_p25 : lw_okq (⟨"BothHandsFull$Search", "spreadOnce", "(II)V"⟩, 14) := ⟨⟨by decide +kernel, by decide +kernel⟩, List.mem_of_getElem? (i := 88) (by decide +kernel), List.mem_of_getElem? (i := 628) (by decide +kernel), List.mem_of_getElem? (i := 629) (by decide +kernel)⟩
theorem lw_p26 : lw_okq (⟨"BothHandsFull$Search", "lookAround", "(I)I"⟩, 14) := ⟨⟨by decide +kernel, by decide +kernel⟩, List.mem_of_getElem? (i := 88) (by decide +kernel), List.mem_of_getElem? (i := 632) (by decide +kernel), List.mem_of_getElem? (i := 633) (by decide +kernel)⟩
theorem lw_p27 : lw_okq (⟨"BothHandsFull", "countCosts", "()V"⟩, 10) := ⟨⟨by decide +kernel, by decide +kernel⟩, List.mem_of_getElem? (i := 16) (by decide +kernel), List.mem_of_getElem? (i := 643) (by decide +kernel), List.mem_of_getElem? (i := 644) (by decide +kernel)⟩
theorem lw_p28 : lw_okq (⟨"BothHandsFull", "leastIf", "(II)I"⟩, 10) := ⟨⟨by decide +kernel, by decide +kernel⟩, List.mem_of_getElem? (i := 16) (by decide +kernel), List.mem_of_getElem? (i := 651) (by decide +kernel), List.mem_of_getElem? (i := 652) (by decide +kernel)⟩
theorem lw_p29 : lw_okq (⟨"BothHandsFull$Search", "floodOnce", "(II)I"⟩, 14) := ⟨⟨by decide +kernel, by decide +kernel⟩, List.mem_of_getElem? (i := 88) (by decide +kernel), List.mem_of_getElem? (i := 659) (by decide +kernel), List.mem_of_getElem? (i := 660) (by decide +kernel)⟩
theorem lw_p30 : lw_okq (⟨"BothHandsFull", "canBe", "(I)Z"⟩, 10) := ⟨⟨by decide +kernel, by decide +kernel⟩, List.mem_of_getElem? (i := 16) (by decide +kernel), List.mem_of_getElem? (i := 700) (by decide +kernel), List.mem_of_getElem? (i := 701) (by decide +kernel)⟩
theorem lw_p31 : lw_okq (⟨"BothHandsFull$Search", "step", "([III)V"⟩, 14) := ⟨⟨by decide +kernel, by decide +kernel⟩, List.mem_of_getElem? (i := 88) (by decide +kernel), List.mem_of_getElem? (i := 718) (by decide +kernel), List.mem_of_getElem? (i := 719) (by decide +kernel)⟩
def lw_privs_2 : List (MethodName × Nat) := [(⟨"BothHandsFull", "worth", "(I)I"⟩, 10), (⟨"BothHandsFull", "fewest", "(Z)I"⟩, 10), (⟨"BothHandsFull", "think", "(II)V"⟩, 10), (⟨"BothHandsFull$Search", "lay", "(II)V"⟩, 14), (⟨"BothHandsFull$Search", "split", "(I)V"⟩, 14), (⟨"BothHandsFull$Search", "clearTurns", "()V"⟩, 14), (⟨"BothHandsFull$Search", "enterTurn", "(II)V"⟩, 14), (⟨"BothHandsFull$Search", "spread", "(Z)I"⟩, 14), (⟨"BothHandsFull$Search", "leaveTurn", "(I)V"⟩, 14), (⟨"BothHandsFull$Search", "spreadOnce", "(II)V"⟩, 14), (⟨"BothHandsFull$Search", "lookAround", "(I)I"⟩, 14), (⟨"BothHandsFull", "countCosts", "()V"⟩, 10), (⟨"BothHandsFull", "leastIf", "(II)I"⟩, 10), (⟨"BothHandsFull$Search", "floodOnce", "(II)I"⟩, 14), (⟨"BothHandsFull", "canBe", "(I)Z"⟩, 10), (⟨"BothHandsFull$Search", "step", "([III)V"⟩, 14)]
theorem lw_r2 : ∀ q ∈ lw_privs_2, lw_okq q := List.forall_mem_cons.mpr ⟨lw_p16, List.forall_mem_cons.mpr ⟨lw_p17, List.forall_mem_cons.mpr ⟨lw_p18, List.forall_mem_cons.mpr ⟨lw_p19, List.forall_mem_cons.mpr ⟨lw_p20, List.forall_mem_cons.mpr ⟨lw_p21, List.forall_mem_cons.mpr ⟨lw_p22, List.forall_mem_cons.mpr ⟨lw_p23, List.forall_mem_cons.mpr ⟨lw_p24, List.forall_mem_cons.mpr ⟨lw_p25, List.forall_mem_cons.mpr ⟨lw_p26, List.forall_mem_cons.mpr ⟨lw_p27, List.forall_mem_cons.mpr ⟨lw_p28, List.forall_mem_cons.mpr ⟨lw_p29, List.forall_mem_cons.mpr ⟨lw_p30, List.forall_mem_cons.mpr ⟨lw_p31, fun _ h => absurd h List.not_mem_nil⟩⟩⟩⟩⟩⟩⟩⟩⟩⟩⟩⟩⟩⟩⟩⟩
theorem lw_p32 : lw_okq (⟨"BothHandsFull$Search", "stepOnce", "(II)V"⟩, 14) := ⟨⟨by decide +kernel, by decide +kernel⟩, List.mem_of_getElem? (i := 88) (by decide +kernel), List.mem_of_getElem? (i := 722) (by decide +kernel), List.mem_of_getElem? (i := 723) (by decide +kernel)⟩
theorem lw_p33 : lw_okq (⟨"BothHandsFull", "openBehind", "(II)I"⟩, 10) := ⟨⟨by decide +kernel, by decide +kernel⟩, List.mem_of_getElem? (i := 16) (by decide +kernel), List.mem_of_getElem? (i := 739) (by decide +kernel), List.mem_of_getElem? (i := 740) (by decide +kernel)⟩
theorem lw_p34 : lw_okq (⟨"BothHandsFull", "drawOnce", "(I)V"⟩, 10) := ⟨⟨by decide +kernel, by decide +kernel⟩, List.mem_of_getElem? (i := 16) (by decide +kernel), List.mem_of_getElem? (i := 744) (by decide +kernel), List.mem_of_getElem? (i := 745) (by decide +kernel)⟩
theorem lw_p35 : lw_okq (⟨"BothHandsFullModel", "spell", "(IIIIIIIII)V"⟩, 54) := ⟨⟨by decide +kernel, by decide +kernel⟩, List.mem_of_getElem? (i := 803) (by decide +kernel), List.mem_of_getElem? (i := 809) (by decide +kernel), List.mem_of_getElem? (i := 810) (by decide +kernel)⟩
theorem lw_p36 : lw_okq (⟨"BothHandsFullModel", "isHold", "(I)Z"⟩, 54) := ⟨⟨by decide +kernel, by decide +kernel⟩, List.mem_of_getElem? (i := 803) (by decide +kernel), List.mem_of_getElem? (i := 992) (by decide +kernel), List.mem_of_getElem? (i := 993) (by decide +kernel)⟩
theorem lw_p37 : lw_okq (⟨"BothHandsFullModel", "inside", "(I)I"⟩, 54) := ⟨⟨by decide +kernel, by decide +kernel⟩, List.mem_of_getElem? (i := 803) (by decide +kernel), List.mem_of_getElem? (i := 996) (by decide +kernel), List.mem_of_getElem? (i := 997) (by decide +kernel)⟩
theorem lw_p38 : lw_okq (⟨"BothHandsFullModel", "bars", "(IIIII)I"⟩, 54) := ⟨⟨by decide +kernel, by decide +kernel⟩, List.mem_of_getElem? (i := 803) (by decide +kernel), List.mem_of_getElem? (i := 1000) (by decide +kernel), List.mem_of_getElem? (i := 1001) (by decide +kernel)⟩
theorem lw_p39 : lw_okq (⟨"BothHandsFullModel", "sizeOf", "(I)I"⟩, 54) := ⟨⟨by decide +kernel, by decide +kernel⟩, List.mem_of_getElem? (i := 803) (by decide +kernel), List.mem_of_getElem? (i := 1004) (by decide +kernel), List.mem_of_getElem? (i := 1005) (by decide +kernel)⟩
theorem lw_p40 : lw_okq (⟨"BothHandsFullModel", "roomOf", "(I)I"⟩, 54) := ⟨⟨by decide +kernel, by decide +kernel⟩, List.mem_of_getElem? (i := 803) (by decide +kernel), List.mem_of_getElem? (i := 1008) (by decide +kernel), List.mem_of_getElem? (i := 1009) (by decide +kernel)⟩
theorem lw_p41 : lw_okq (⟨"BothHandsFullModel", "mostOf", "(I)I"⟩, 54) := ⟨⟨by decide +kernel, by decide +kernel⟩, List.mem_of_getElem? (i := 803) (by decide +kernel), List.mem_of_getElem? (i := 1015) (by decide +kernel), List.mem_of_getElem? (i := 1016) (by decide +kernel)⟩
theorem lw_p42 : lw_okq (⟨"BothHandsFullModel", "wetOf", "(I)I"⟩, 54) := ⟨⟨by decide +kernel, by decide +kernel⟩, List.mem_of_getElem? (i := 803) (by decide +kernel), List.mem_of_getElem? (i := 1019) (by decide +kernel), List.mem_of_getElem? (i := 1020) (by decide +kernel)⟩
theorem lw_p43 : lw_okq (⟨"BothHandsFullModel", "isThing", "(I)Z"⟩, 54) := ⟨⟨by decide +kernel, by decide +kernel⟩, List.mem_of_getElem? (i := 803) (by decide +kernel), List.mem_of_getElem? (i := 1028) (by decide +kernel), List.mem_of_getElem? (i := 1029) (by decide +kernel)⟩
theorem lw_p44 : lw_okq (⟨"BothHandsFullModel", "opensOf", "(I)I"⟩, 54) := ⟨⟨by decide +kernel, by decide +kernel⟩, List.mem_of_getElem? (i := 803) (by decide +kernel), List.mem_of_getElem? (i := 1041) (by decide +kernel), List.mem_of_getElem? (i := 1042) (by decide +kernel)⟩
theorem lw_p45 : lw_okq (⟨"BothHandsFullModel", "read", "(II)I"⟩, 54) := ⟨⟨by decide +kernel, by decide +kernel⟩, List.mem_of_getElem? (i := 803) (by decide +kernel), List.mem_of_getElem? (i := 1054) (by decide +kernel), List.mem_of_getElem? (i := 1055) (by decide +kernel)⟩
theorem lw_p46 : lw_okq (⟨"BothHandsFullModel", "next", "()V"⟩, 54) := ⟨⟨by decide +kernel, by decide +kernel⟩, List.mem_of_getElem? (i := 803) (by decide +kernel), List.mem_of_getElem? (i := 1058) (by decide +kernel), List.mem_of_getElem? (i := 1059) (by decide +kernel)⟩
theorem lw_p47 : lw_okq (⟨"BothHandsFullModel", "byteAt", "(I)I"⟩, 54) := ⟨⟨by decide +kernel, by decide +kernel⟩, List.mem_of_getElem? (i := 803) (by decide +kernel), List.mem_of_getElem? (i := 1062) (by decide +kernel), List.mem_of_getElem? (i := 1063) (by decide +kernel)⟩
def lw_privs_3 : List (MethodName × Nat) := [(⟨"BothHandsFull$Search", "stepOnce", "(II)V"⟩, 14), (⟨"BothHandsFull", "openBehind", "(II)I"⟩, 10), (⟨"BothHandsFull", "drawOnce", "(I)V"⟩, 10), (⟨"BothHandsFullModel", "spell", "(IIIIIIIII)V"⟩, 54), (⟨"BothHandsFullModel", "isHold", "(I)Z"⟩, 54), (⟨"BothHandsFullModel", "inside", "(I)I"⟩, 54), (⟨"BothHandsFullModel", "bars", "(IIIII)I"⟩, 54), (⟨"BothHandsFullModel", "sizeOf", "(I)I"⟩, 54), (⟨"BothHandsFullModel", "roomOf", "(I)I"⟩, 54), (⟨"BothHandsFullModel", "mostOf", "(I)I"⟩, 54), (⟨"BothHandsFullModel", "wetOf", "(I)I"⟩, 54), (⟨"BothHandsFullModel", "isThing", "(I)Z"⟩, 54), (⟨"BothHandsFullModel", "opensOf", "(I)I"⟩, 54), (⟨"BothHandsFullModel", "read", "(II)I"⟩, 54), (⟨"BothHandsFullModel", "next", "()V"⟩, 54), (⟨"BothHandsFullModel", "byteAt", "(I)I"⟩, 54)]
theorem lw_r3 : ∀ q ∈ lw_privs_3, lw_okq q := List.forall_mem_cons.mpr ⟨lw_p32, List.forall_mem_cons.mpr ⟨lw_p33, List.forall_mem_cons.mpr ⟨lw_p34, List.forall_mem_cons.mpr ⟨lw_p35, List.forall_mem_cons.mpr ⟨lw_p36, List.forall_mem_cons.mpr ⟨lw_p37, List.forall_mem_cons.mpr ⟨lw_p38, List.forall_mem_cons.mpr ⟨lw_p39, List.forall_mem_cons.mpr ⟨lw_p40, List.forall_mem_cons.mpr ⟨lw_p41, List.forall_mem_cons.mpr ⟨lw_p42, List.forall_mem_cons.mpr ⟨lw_p43, List.forall_mem_cons.mpr ⟨lw_p44, List.forall_mem_cons.mpr ⟨lw_p45, List.forall_mem_cons.mpr ⟨lw_p46, List.forall_mem_cons.mpr ⟨lw_p47, fun _ h => absurd h List.not_mem_nil⟩⟩⟩⟩⟩⟩⟩⟩⟩⟩⟩⟩⟩⟩⟩⟩
theorem lw_p48 : lw_okq (⟨"BothHandsFullModel", "isWord", "(IIIIIIII)Z"⟩, 54) := ⟨⟨by decide +kernel, by decide +kernel⟩, List.mem_of_getElem? (i := 803) (by decide +kernel), List.mem_of_getElem? (i := 1070) (by decide +kernel), List.mem_of_getElem? (i := 1071) (by decide +kernel)⟩
theorem lw_p49 : lw_okq (⟨"BothHandsFullModel", "isLetter", "(II)Z"⟩, 54) := ⟨⟨by decide +kernel, by decide +kernel⟩, List.mem_of_getElem? (i := 803) (by decide +kernel), List.mem_of_getElem? (i := 1074) (by decide +kernel), List.mem_of_getElem? (i := 1075) (by decide +kernel)⟩
theorem lw_p50 : lw_okq (⟨"BothHandsFullModel", "part", "(Z)I"⟩, 54) := ⟨⟨by decide +kernel, by decide +kernel⟩, List.mem_of_getElem? (i := 803) (by decide +kernel), List.mem_of_getElem? (i := 1078) (by decide +kernel), List.mem_of_getElem? (i := 1079) (by decide +kernel)⟩
theorem lw_p51 : lw_okq (⟨"BothHandsFullModel", "fail", "()V"⟩, 54) := ⟨⟨by decide +kernel, by decide +kernel⟩, List.mem_of_getElem? (i := 803) (by decide +kernel), List.mem_of_getElem? (i := 1082) (by decide +kernel), List.mem_of_getElem? (i := 1083) (by decide +kernel)⟩
theorem lw_p52 : lw_okq (⟨"BothHandsFullModel", "either0", "()I"⟩, 54) := ⟨⟨by decide +kernel, by decide +kernel⟩, List.mem_of_getElem? (i := 803) (by decide +kernel), List.mem_of_getElem? (i := 1086) (by decide +kernel), List.mem_of_getElem? (i := 1087) (by decide +kernel)⟩
theorem lw_p53 : lw_okq (⟨"BothHandsFullModel", "both0", "()I"⟩, 54) := ⟨⟨by decide +kernel, by decide +kernel⟩, List.mem_of_getElem? (i := 803) (by decide +kernel), List.mem_of_getElem? (i := 1090) (by decide +kernel), List.mem_of_getElem? (i := 1091) (by decide +kernel)⟩
theorem lw_p54 : lw_okq (⟨"BothHandsFullModel", "not0", "()I"⟩, 54) := ⟨⟨by decide +kernel, by decide +kernel⟩, List.mem_of_getElem? (i := 803) (by decide +kernel), List.mem_of_getElem? (i := 1094) (by decide +kernel), List.mem_of_getElem? (i := 1095) (by decide +kernel)⟩
theorem lw_p55 : lw_okq (⟨"BothHandsFullModel", "opens", "()Z"⟩, 54) := ⟨⟨by decide +kernel, by decide +kernel⟩, List.mem_of_getElem? (i := 803) (by decide +kernel), List.mem_of_getElem? (i := 1098) (by decide +kernel), List.mem_of_getElem? (i := 1099) (by decide +kernel)⟩
theorem lw_p56 : lw_okq (⟨"BothHandsFullModel", "not1", "()I"⟩, 54) := ⟨⟨by decide +kernel, by decide +kernel⟩, List.mem_of_getElem? (i := 803) (by decide +kernel), List.mem_of_getElem? (i := 1102) (by decide +kernel), List.mem_of_getElem? (i := 1103) (by decide +kernel)⟩
theorem lw_p57 : lw_okq (⟨"BothHandsFullModel", "not2", "()I"⟩, 54) := ⟨⟨by decide +kernel, by decide +kernel⟩, List.mem_of_getElem? (i := 803) (by decide +kernel), List.mem_of_getElem? (i := 1106) (by decide +kernel), List.mem_of_getElem? (i := 1107) (by decide +kernel)⟩
theorem lw_p58 : lw_okq (⟨"BothHandsFullModel", "not3", "()I"⟩, 54) := ⟨⟨by decide +kernel, by decide +kernel⟩, List.mem_of_getElem? (i := 803) (by decide +kernel), List.mem_of_getElem? (i := 1110) (by decide +kernel), List.mem_of_getElem? (i := 1111) (by decide +kernel)⟩
theorem lw_p59 : lw_okq (⟨"BothHandsFullModel", "not4", "()I"⟩, 54) := ⟨⟨by decide +kernel, by decide +kernel⟩, List.mem_of_getElem? (i := 803) (by decide +kernel), List.mem_of_getElem? (i := 1114) (by decide +kernel), List.mem_of_getElem? (i := 1115) (by decide +kernel)⟩
theorem lw_p60 : lw_okq (⟨"BothHandsFullModel", "not5", "()I"⟩, 54) := ⟨⟨by decide +kernel, by decide +kernel⟩, List.mem_of_getElem? (i := 803) (by decide +kernel), List.mem_of_getElem? (i := 1118) (by decide +kernel), List.mem_of_getElem? (i := 1119) (by decide +kernel)⟩
theorem lw_p61 : lw_okq (⟨"BothHandsFullModel", "added5", "()I"⟩, 54) := ⟨⟨by decide +kernel, by decide +kernel⟩, List.mem_of_getElem? (i := 803) (by decide +kernel), List.mem_of_getElem? (i := 1122) (by decide +kernel), List.mem_of_getElem? (i := 1123) (by decide +kernel)⟩
theorem lw_p62 : lw_okq (⟨"BothHandsFullModel", "term5", "()I"⟩, 54) := ⟨⟨by decide +kernel, by decide +kernel⟩, List.mem_of_getElem? (i := 803) (by decide +kernel), List.mem_of_getElem? (i := 1126) (by decide +kernel), List.mem_of_getElem? (i := 1127) (by decide +kernel)⟩
theorem lw_p63 : lw_okq (⟨"BothHandsFullModel", "atom5", "()I"⟩, 54) := ⟨⟨by decide +kernel, by decide +kernel⟩, List.mem_of_getElem? (i := 803) (by decide +kernel), List.mem_of_getElem? (i := 1130) (by decide +kernel), List.mem_of_getElem? (i := 1131) (by decide +kernel)⟩
def lw_privs_4 : List (MethodName × Nat) := [(⟨"BothHandsFullModel", "isWord", "(IIIIIIII)Z"⟩, 54), (⟨"BothHandsFullModel", "isLetter", "(II)Z"⟩, 54), (⟨"BothHandsFullModel", "part", "(Z)I"⟩, 54), (⟨"BothHandsFullModel", "fail", "()V"⟩, 54), (⟨"BothHandsFullModel", "either0", "()I"⟩, 54), (⟨"BothHandsFullModel", "both0", "()I"⟩, 54), (⟨"BothHandsFullModel", "not0", "()I"⟩, 54), (⟨"BothHandsFullModel", "opens", "()Z"⟩, 54), (⟨"BothHandsFullModel", "not1", "()I"⟩, 54), (⟨"BothHandsFullModel", "not2", "()I"⟩, 54), (⟨"BothHandsFullModel", "not3", "()I"⟩, 54), (⟨"BothHandsFullModel", "not4", "()I"⟩, 54), (⟨"BothHandsFullModel", "not5", "()I"⟩, 54), (⟨"BothHandsFullModel", "added5", "()I"⟩, 54), (⟨"BothHandsFullModel", "term5", "()I"⟩, 54), (⟨"BothHandsFullModel", "atom5", "()I"⟩, 54)]
theorem lw_r4 : ∀ q ∈ lw_privs_4, lw_okq q := List.forall_mem_cons.mpr ⟨lw_p48, List.forall_mem_cons.mpr ⟨lw_p49, List.forall_mem_cons.mpr ⟨lw_p50, List.forall_mem_cons.mpr ⟨lw_p51, List.forall_mem_cons.mpr ⟨lw_p52, List.forall_mem_cons.mpr ⟨lw_p53, List.forall_mem_cons.mpr ⟨lw_p54, List.forall_mem_cons.mpr ⟨lw_p55, List.forall_mem_cons.mpr ⟨lw_p56, List.forall_mem_cons.mpr ⟨lw_p57, List.forall_mem_cons.mpr ⟨lw_p58, List.forall_mem_cons.mpr ⟨lw_p59, List.forall_mem_cons.mpr ⟨lw_p60, List.forall_mem_cons.mpr ⟨lw_p61, List.forall_mem_cons.mpr ⟨lw_p62, List.forall_mem_cons.mpr ⟨lw_p63, fun _ h => absurd h List.not_mem_nil⟩⟩⟩⟩⟩⟩⟩⟩⟩⟩⟩⟩⟩⟩⟩⟩
theorem lw_p64 : lw_okq (⟨"BothHandsFullModel", "isSign", "(I)Z"⟩, 54) := ⟨⟨by decide +kernel, by decide +kernel⟩, List.mem_of_getElem? (i := 803) (by decide +kernel), List.mem_of_getElem? (i := 1134) (by decide +kernel), List.mem_of_getElem? (i := 1135) (by decide +kernel)⟩
theorem lw_p65 : lw_okq (⟨"BothHandsFullModel", "name", "()I"⟩, 54) := ⟨⟨by decide +kernel, by decide +kernel⟩, List.mem_of_getElem? (i := 803) (by decide +kernel), List.mem_of_getElem? (i := 1138) (by decide +kernel), List.mem_of_getElem? (i := 1139) (by decide +kernel)⟩
theorem lw_p66 : lw_okq (⟨"BothHandsFullModel", "added4", "()I"⟩, 54) := ⟨⟨by decide +kernel, by decide +kernel⟩, List.mem_of_getElem? (i := 803) (by decide +kernel), List.mem_of_getElem? (i := 1144) (by decide +kernel), List.mem_of_getElem? (i := 1145) (by decide +kernel)⟩
theorem lw_p67 : lw_okq (⟨"BothHandsFullModel", "term4", "()I"⟩, 54) := ⟨⟨by decide +kernel, by decide +kernel⟩, List.mem_of_getElem? (i := 803) (by decide +kernel), List.mem_of_getElem? (i := 1148) (by decide +kernel), List.mem_of_getElem? (i := 1149) (by decide +kernel)⟩
theorem lw_p68 : lw_okq (⟨"BothHandsFullModel", "atom4", "()I"⟩, 54) := ⟨⟨by decide +kernel, by decide +kernel⟩, List.mem_of_getElem? (i := 803) (by decide +kernel), List.mem_of_getElem? (i := 1152) (by decide +kernel), List.mem_of_getElem? (i := 1153) (by decide +kernel)⟩
theorem lw_p69 : lw_okq (⟨"BothHandsFullModel", "either5", "()I"⟩, 54) := ⟨⟨by decide +kernel, by decide +kernel⟩, List.mem_of_getElem? (i := 803) (by decide +kernel), List.mem_of_getElem? (i := 1156) (by decide +kernel), List.mem_of_getElem? (i := 1157) (by decide +kernel)⟩
theorem lw_p70 : lw_okq (⟨"BothHandsFullModel", "both5", "()I"⟩, 54) := ⟨⟨by decide +kernel, by decide +kernel⟩, List.mem_of_getElem? (i := 803) (by decide +kernel), List.mem_of_getElem? (i := 1160) (by decide +kernel), List.mem_of_getElem? (i := 1161) (by decide +kernel)⟩
theorem lw_p71 : lw_okq (⟨"BothHandsFullModel", "added3", "()I"⟩, 54) := ⟨⟨by decide +kernel, by decide +kernel⟩, List.mem_of_getElem? (i := 803) (by decide +kernel), List.mem_of_getElem? (i := 1164) (by decide +kernel), List.mem_of_getElem? (i := 1165) (by decide +kernel)⟩
theorem lw_p72 : lw_okq (⟨"BothHandsFullModel", "term3", "()I"⟩, 54) := ⟨⟨by decide +kernel, by decide +kernel⟩, List.mem_of_getElem? (i := 803) (by decide +kernel), List.mem_of_getElem? (i := 1168) (by decide +kernel), List.mem_of_getElem? (i := 1169) (by decide +kernel)⟩
theorem lw_p73 : lw_okq (⟨"BothHandsFullModel", "atom3", "()I"⟩, 54) := ⟨⟨by decide +kernel, by decide +kernel⟩, List.mem_of_getElem? (i := 803) (by decide +kernel), List.mem_of_getElem? (i := 1172) (by decide +kernel), List.mem_of_getElem? (i := 1173) (by decide +kernel)⟩
theorem lw_p74 : lw_okq (⟨"BothHandsFullModel", "either4", "()I"⟩, 54) := ⟨⟨by decide +kernel, by decide +kernel⟩, List.mem_of_getElem? (i := 803) (by decide +kernel), List.mem_of_getElem? (i := 1176) (by decide +kernel), List.mem_of_getElem? (i := 1177) (by decide +kernel)⟩
theorem lw_p75 : lw_okq (⟨"BothHandsFullModel", "both4", "()I"⟩, 54) := ⟨⟨by decide +kernel, by decide +kernel⟩, List.mem_of_getElem? (i := 803) (by decide +kernel), List.mem_of_getElem? (i := 1180) (by decide +kernel), List.mem_of_getElem? (i := 1181) (by decide +kernel)⟩
theorem lw_p76 : lw_okq (⟨"BothHandsFullModel", "added2", "()I"⟩, 54) := ⟨⟨by decide +kernel, by decide +kernel⟩, List.mem_of_getElem? (i := 803) (by decide +kernel), List.mem_of_getElem? (i := 1184) (by decide +kernel), List.mem_of_getElem? (i := 1185) (by decide +kernel)⟩
theorem lw_p77 : lw_okq (⟨"BothHandsFullModel", "term2", "()I"⟩, 54) := ⟨⟨by decide +kernel, by decide +kernel⟩, List.mem_of_getElem? (i := 803) (by decide +kernel), List.mem_of_getElem? (i := 1188) (by decide +kernel), List.mem_of_getElem? (i := 1189) (by decide +kernel)⟩
theorem lw_p78 : lw_okq (⟨"BothHandsFullModel", "atom2", "()I"⟩, 54) := ⟨⟨by decide +kernel, by decide +kernel⟩, List.mem_of_getElem? (i := 803) (by decide +kernel), List.mem_of_getElem? (i := 1192) (by decide +kernel), List.mem_of_getElem? (i := 1193) (by decide +kernel)⟩
theorem lw_p79 : lw_okq (⟨"BothHandsFullModel", "either3", "()I"⟩, 54) := ⟨⟨by decide +kernel, by decide +kernel⟩, List.mem_of_getElem? (i := 803) (by decide +kernel), List.mem_of_getElem? (i := 1196) (by decide +kernel), List.mem_of_getElem? (i := 1197) (by decide +kernel)⟩
def lw_privs_5 : List (MethodName × Nat) := [(⟨"BothHandsFullModel", "isSign", "(I)Z"⟩, 54), (⟨"BothHandsFullModel", "name", "()I"⟩, 54), (⟨"BothHandsFullModel", "added4", "()I"⟩, 54), (⟨"BothHandsFullModel", "term4", "()I"⟩, 54), (⟨"BothHandsFullModel", "atom4", "()I"⟩, 54), (⟨"BothHandsFullModel", "either5", "()I"⟩, 54), (⟨"BothHandsFullModel", "both5", "()I"⟩, 54), (⟨"BothHandsFullModel", "added3", "()I"⟩, 54), (⟨"BothHandsFullModel", "term3", "()I"⟩, 54), (⟨"BothHandsFullModel", "atom3", "()I"⟩, 54), (⟨"BothHandsFullModel", "either4", "()I"⟩, 54), (⟨"BothHandsFullModel", "both4", "()I"⟩, 54), (⟨"BothHandsFullModel", "added2", "()I"⟩, 54), (⟨"BothHandsFullModel", "term2", "()I"⟩, 54), (⟨"BothHandsFullModel", "atom2", "()I"⟩, 54), (⟨"BothHandsFullModel", "either3", "()I"⟩, 54)]
theorem lw_r5 : ∀ q ∈ lw_privs_5, lw_okq q := List.forall_mem_cons.mpr ⟨lw_p64, List.forall_mem_cons.mpr ⟨lw_p65, List.forall_mem_cons.mpr ⟨lw_p66, List.forall_mem_cons.mpr ⟨lw_p67, List.forall_mem_cons.mpr ⟨lw_p68, List.forall_mem_cons.mpr ⟨lw_p69, List.forall_mem_cons.mpr ⟨lw_p70, List.forall_mem_cons.mpr ⟨lw_p71, List.forall_mem_cons.mpr ⟨lw_p72, List.forall_mem_cons.mpr ⟨lw_p73, List.forall_mem_cons.mpr ⟨lw_p74, List.forall_mem_cons.mpr ⟨lw_p75, List.forall_mem_cons.mpr ⟨lw_p76, List.forall_mem_cons.mpr ⟨lw_p77, List.forall_mem_cons.mpr ⟨lw_p78, List.forall_mem_cons.mpr ⟨lw_p79, fun _ h => absurd h List.not_mem_nil⟩⟩⟩⟩⟩⟩⟩⟩⟩⟩⟩⟩⟩⟩⟩⟩
theorem lw_p80 : lw_okq (⟨"BothHandsFullModel", "both3", "()I"⟩, 54) := ⟨⟨by decide +kernel, by decide +kernel⟩, List.mem_of_getElem? (i := 803) (by decide +kernel), List.mem_of_getElem? (i := 1200) (by decide +kernel), List.mem_of_getElem? (i := 1201) (by decide +kernel)⟩
theorem lw_p81 : lw_okq (⟨"BothHandsFullModel", "added1", "()I"⟩, 54) := ⟨⟨by decide +kernel, by decide +kernel⟩, List.mem_of_getElem? (i := 803) (by decide +kernel), List.mem_of_getElem? (i := 1204) (by decide +kernel), List.mem_of_getElem? (i := 1205) (by decide +kernel)⟩
theorem lw_p82 : lw_okq (⟨"BothHandsFullModel", "term1", "()I"⟩, 54) := ⟨⟨by decide +kernel, by decide +kernel⟩, List.mem_of_getElem? (i := 803) (by decide +kernel), List.mem_of_getElem? (i := 1208) (by decide +kernel), List.mem_of_getElem? (i := 1209) (by decide +kernel)⟩
theorem lw_p83 : lw_okq (⟨"BothHandsFullModel", "atom1", "()I"⟩, 54) := ⟨⟨by decide +kernel, by decide +kernel⟩, List.mem_of_getElem? (i := 803) (by decide +kernel), List.mem_of_getElem? (i := 1212) (by decide +kernel), List.mem_of_getElem? (i := 1213) (by decide +kernel)⟩
theorem lw_p84 : lw_okq (⟨"BothHandsFullModel", "either2", "()I"⟩, 54) := ⟨⟨by decide +kernel, by decide +kernel⟩, List.mem_of_getElem? (i := 803) (by decide +kernel), List.mem_of_getElem? (i := 1216) (by decide +kernel), List.mem_of_getElem? (i := 1217) (by decide +kernel)⟩
theorem lw_p85 : lw_okq (⟨"BothHandsFullModel", "both2", "()I"⟩, 54) := ⟨⟨by decide +kernel, by decide +kernel⟩, List.mem_of_getElem? (i := 803) (by decide +kernel), List.mem_of_getElem? (i := 1220) (by decide +kernel), List.mem_of_getElem? (i := 1221) (by decide +kernel)⟩
theorem lw_p86 : lw_okq (⟨"BothHandsFullModel", "added0", "()I"⟩, 54) := ⟨⟨by decide +kernel, by decide +kernel⟩, List.mem_of_getElem? (i := 803) (by decide +kernel), List.mem_of_getElem? (i := 1224) (by decide +kernel), List.mem_of_getElem? (i := 1225) (by decide +kernel)⟩
theorem lw_p87 : lw_okq (⟨"BothHandsFullModel", "term0", "()I"⟩, 54) := ⟨⟨by decide +kernel, by decide +kernel⟩, List.mem_of_getElem? (i := 803) (by decide +kernel), List.mem_of_getElem? (i := 1228) (by decide +kernel), List.mem_of_getElem? (i := 1229) (by decide +kernel)⟩
theorem lw_p88 : lw_okq (⟨"BothHandsFullModel", "atom0", "()I"⟩, 54) := ⟨⟨by decide +kernel, by decide +kernel⟩, List.mem_of_getElem? (i := 803) (by decide +kernel), List.mem_of_getElem? (i := 1232) (by decide +kernel), List.mem_of_getElem? (i := 1233) (by decide +kernel)⟩
theorem lw_p89 : lw_okq (⟨"BothHandsFullModel", "either1", "()I"⟩, 54) := ⟨⟨by decide +kernel, by decide +kernel⟩, List.mem_of_getElem? (i := 803) (by decide +kernel), List.mem_of_getElem? (i := 1236) (by decide +kernel), List.mem_of_getElem? (i := 1237) (by decide +kernel)⟩
theorem lw_p90 : lw_okq (⟨"BothHandsFullModel", "both1", "()I"⟩, 54) := ⟨⟨by decide +kernel, by decide +kernel⟩, List.mem_of_getElem? (i := 803) (by decide +kernel), List.mem_of_getElem? (i := 1240) (by decide +kernel), List.mem_of_getElem? (i := 1241) (by decide +kernel)⟩
theorem lw_p91 : lw_okq (⟨"BothHandsFullModel", "says", "(IIII)I"⟩, 54) := ⟨⟨by decide +kernel, by decide +kernel⟩, List.mem_of_getElem? (i := 803) (by decide +kernel), List.mem_of_getElem? (i := 1253) (by decide +kernel), List.mem_of_getElem? (i := 1254) (by decide +kernel)⟩
theorem lw_p92 : lw_okq (⟨"BothHandsFullModel", "canGo", "(II)Z"⟩, 54) := ⟨⟨by decide +kernel, by decide +kernel⟩, List.mem_of_getElem? (i := 803) (by decide +kernel), List.mem_of_getElem? (i := 1264) (by decide +kernel), List.mem_of_getElem? (i := 1265) (by decide +kernel)⟩
theorem lw_p93 : lw_okq (⟨"BothHandsFullModel", "barsThing", "(II)I"⟩, 54) := ⟨⟨by decide +kernel, by decide +kernel⟩, List.mem_of_getElem? (i := 803) (by decide +kernel), List.mem_of_getElem? (i := 1268) (by decide +kernel), List.mem_of_getElem? (i := 1269) (by decide +kernel)⟩
theorem lw_p94 : lw_okq (⟨"BothHandsFullModel", "isOpen", "()Z"⟩, 54) := ⟨⟨by decide +kernel, by decide +kernel⟩, List.mem_of_getElem? (i := 803) (by decide +kernel), List.mem_of_getElem? (i := 1280) (by decide +kernel), List.mem_of_getElem? (i := 1281) (by decide +kernel)⟩
theorem lw_p95 : lw_okq (⟨"BothHandsFullModel", "gathers", "()V"⟩, 54) := ⟨⟨by decide +kernel, by decide +kernel⟩, List.mem_of_getElem? (i := 803) (by decide +kernel), List.mem_of_getElem? (i := 1288) (by decide +kernel), List.mem_of_getElem? (i := 1289) (by decide +kernel)⟩
def lw_privs_6 : List (MethodName × Nat) := [(⟨"BothHandsFullModel", "both3", "()I"⟩, 54), (⟨"BothHandsFullModel", "added1", "()I"⟩, 54), (⟨"BothHandsFullModel", "term1", "()I"⟩, 54), (⟨"BothHandsFullModel", "atom1", "()I"⟩, 54), (⟨"BothHandsFullModel", "either2", "()I"⟩, 54), (⟨"BothHandsFullModel", "both2", "()I"⟩, 54), (⟨"BothHandsFullModel", "added0", "()I"⟩, 54), (⟨"BothHandsFullModel", "term0", "()I"⟩, 54), (⟨"BothHandsFullModel", "atom0", "()I"⟩, 54), (⟨"BothHandsFullModel", "either1", "()I"⟩, 54), (⟨"BothHandsFullModel", "both1", "()I"⟩, 54), (⟨"BothHandsFullModel", "says", "(IIII)I"⟩, 54), (⟨"BothHandsFullModel", "canGo", "(II)Z"⟩, 54), (⟨"BothHandsFullModel", "barsThing", "(II)I"⟩, 54), (⟨"BothHandsFullModel", "isOpen", "()Z"⟩, 54), (⟨"BothHandsFullModel", "gathers", "()V"⟩, 54)]
theorem lw_r6 : ∀ q ∈ lw_privs_6, lw_okq q := List.forall_mem_cons.mpr ⟨lw_p80, List.forall_mem_cons.mpr ⟨lw_p81, List.forall_mem_cons.mpr ⟨lw_p82, List.forall_mem_cons.mpr ⟨lw_p83, List.forall_mem_cons.mpr ⟨lw_p84, List.forall_mem_cons.mpr ⟨lw_p85, List.forall_mem_cons.mpr ⟨lw_p86, List.forall_mem_cons.mpr ⟨lw_p87, List.forall_mem_cons.mpr ⟨lw_p88, List.forall_mem_cons.mpr ⟨lw_p89, List.forall_mem_cons.mpr ⟨lw_p90, List.forall_mem_cons.mpr ⟨lw_p91, List.forall_mem_cons.mpr ⟨lw_p92, List.forall_mem_cons.mpr ⟨lw_p93, List.forall_mem_cons.mpr ⟨lw_p94, List.forall_mem_cons.mpr ⟨lw_p95, fun _ h => absurd h List.not_mem_nil⟩⟩⟩⟩⟩⟩⟩⟩⟩⟩⟩⟩⟩⟩⟩⟩
theorem lw_p96 : lw_okq (⟨"BothHandsFullModel", "codeNow", "()I"⟩, 54) := ⟨⟨by decide +kernel, by decide +kernel⟩, List.mem_of_getElem? (i := 803) (by decide +kernel), List.mem_of_getElem? (i := 1292) (by decide +kernel), List.mem_of_getElem? (i := 1293) (by decide +kernel)⟩
theorem lw_p97 : lw_okq (⟨"BothHandsFullModel", "lays", "(I)V"⟩, 54) := ⟨⟨by decide +kernel, by decide +kernel⟩, List.mem_of_getElem? (i := 803) (by decide +kernel), List.mem_of_getElem? (i := 1299) (by decide +kernel), List.mem_of_getElem? (i := 1300) (by decide +kernel)⟩
theorem lw_p98 : lw_okq (⟨"BothHandsFullModel", "areWell", "()Z"⟩, 54) := ⟨⟨by decide +kernel, by decide +kernel⟩, List.mem_of_getElem? (i := 803) (by decide +kernel), List.mem_of_getElem? (i := 1303) (by decide +kernel), List.mem_of_getElem? (i := 1304) (by decide +kernel)⟩
theorem lw_p99 : lw_okq (⟨"BothHandsFullModel", "eases", "(I)Z"⟩, 54) := ⟨⟨by decide +kernel, by decide +kernel⟩, List.mem_of_getElem? (i := 803) (by decide +kernel), List.mem_of_getElem? (i := 1308) (by decide +kernel), List.mem_of_getElem? (i := 1309) (by decide +kernel)⟩
theorem lw_p100 : lw_okq (⟨"BothHandsFullModel", "after", "(III)I"⟩, 54) := ⟨⟨by decide +kernel, by decide +kernel⟩, List.mem_of_getElem? (i := 803) (by decide +kernel), List.mem_of_getElem? (i := 1312) (by decide +kernel), List.mem_of_getElem? (i := 1313) (by decide +kernel)⟩
theorem lw_p101 : lw_okq (⟨"BothHandsFullModel", "moveBy", "(Z)I"⟩, 54) := ⟨⟨by decide +kernel, by decide +kernel⟩, List.mem_of_getElem? (i := 803) (by decide +kernel), List.mem_of_getElem? (i := 1319) (by decide +kernel), List.mem_of_getElem? (i := 1320) (by decide +kernel)⟩
theorem lw_p102 : lw_okq (⟨"BothHandsFullModel", "reaches", "(I)I"⟩, 54) := ⟨⟨by decide +kernel, by decide +kernel⟩, List.mem_of_getElem? (i := 803) (by decide +kernel), List.mem_of_getElem? (i := 1323) (by decide +kernel), List.mem_of_getElem? (i := 1324) (by decide +kernel)⟩
theorem lw_p103 : lw_okq (⟨"BothHandsFullModel", "goesBy", "(I)I"⟩, 54) := ⟨⟨by decide +kernel, by decide +kernel⟩, List.mem_of_getElem? (i := 803) (by decide +kernel), List.mem_of_getElem? (i := 1350) (by decide +kernel), List.mem_of_getElem? (i := 1351) (by decide +kernel)⟩
theorem lw_p104 : lw_okq (⟨"BothHandsFullModel", "codeOf", "(I)I"⟩, 54) := ⟨⟨by decide +kernel, by decide +kernel⟩, List.mem_of_getElem? (i := 803) (by decide +kernel), List.mem_of_getElem? (i := 1361) (by decide +kernel), List.mem_of_getElem? (i := 1362) (by decide +kernel)⟩
theorem lw_p105 : lw_okq (⟨"BothHandsFullModel", "begins", "()V"⟩, 54) := ⟨⟨by decide +kernel, by decide +kernel⟩, List.mem_of_getElem? (i := 803) (by decide +kernel), List.mem_of_getElem? (i := 1365) (by decide +kernel), List.mem_of_getElem? (i := 1366) (by decide +kernel)⟩
theorem lw_p106 : lw_okq (⟨"BothHandsFullModel", "steps", "()V"⟩, 54) := ⟨⟨by decide +kernel, by decide +kernel⟩, List.mem_of_getElem? (i := 803) (by decide +kernel), List.mem_of_getElem? (i := 1369) (by decide +kernel), List.mem_of_getElem? (i := 1370) (by decide +kernel)⟩
theorem lw_p107 : lw_okq (⟨"BothHandsFullModel", "draws", "(II)I"⟩, 54) := ⟨⟨by decide +kernel, by decide +kernel⟩, List.mem_of_getElem? (i := 803) (by decide +kernel), List.mem_of_getElem? (i := 1382) (by decide +kernel), List.mem_of_getElem? (i := 1383) (by decide +kernel)⟩
def lw_privs_7 : List (MethodName × Nat) := [(⟨"BothHandsFullModel", "codeNow", "()I"⟩, 54), (⟨"BothHandsFullModel", "lays", "(I)V"⟩, 54), (⟨"BothHandsFullModel", "areWell", "()Z"⟩, 54), (⟨"BothHandsFullModel", "eases", "(I)Z"⟩, 54), (⟨"BothHandsFullModel", "after", "(III)I"⟩, 54), (⟨"BothHandsFullModel", "moveBy", "(Z)I"⟩, 54), (⟨"BothHandsFullModel", "reaches", "(I)I"⟩, 54), (⟨"BothHandsFullModel", "goesBy", "(I)I"⟩, 54), (⟨"BothHandsFullModel", "codeOf", "(I)I"⟩, 54), (⟨"BothHandsFullModel", "begins", "()V"⟩, 54), (⟨"BothHandsFullModel", "steps", "()V"⟩, 54), (⟨"BothHandsFullModel", "draws", "(II)I"⟩, 54)]
theorem lw_r7 : ∀ q ∈ lw_privs_7, lw_okq q := List.forall_mem_cons.mpr ⟨lw_p96, List.forall_mem_cons.mpr ⟨lw_p97, List.forall_mem_cons.mpr ⟨lw_p98, List.forall_mem_cons.mpr ⟨lw_p99, List.forall_mem_cons.mpr ⟨lw_p100, List.forall_mem_cons.mpr ⟨lw_p101, List.forall_mem_cons.mpr ⟨lw_p102, List.forall_mem_cons.mpr ⟨lw_p103, List.forall_mem_cons.mpr ⟨lw_p104, List.forall_mem_cons.mpr ⟨lw_p105, List.forall_mem_cons.mpr ⟨lw_p106, List.forall_mem_cons.mpr ⟨lw_p107, fun _ h => absurd h List.not_mem_nil⟩⟩⟩⟩⟩⟩⟩⟩⟩⟩⟩⟩
def lw_privs : List (MethodName × Nat) := lw_privs_1 ++ (lw_privs_2 ++ (lw_privs_3 ++ (lw_privs_4 ++ (lw_privs_5 ++ (lw_privs_6 ++ (lw_privs_7))))))
def lw_tbl : List Cond := k2_sels lw_privs ++ tables_1
theorem lw_privs_ok : ∀ q ∈ lw_privs, lw_okq q := by
  show ∀ q ∈ lw_privs_1 ++ (lw_privs_2 ++ (lw_privs_3 ++ (lw_privs_4 ++ (lw_privs_5 ++ (lw_privs_6 ++ (lw_privs_7)))))), lw_okq q
  exact List.forall_mem_append.mpr ⟨lw_r1, List.forall_mem_append.mpr ⟨lw_r2, List.forall_mem_append.mpr ⟨lw_r3, List.forall_mem_append.mpr ⟨lw_r4, List.forall_mem_append.mpr ⟨lw_r5, List.forall_mem_append.mpr ⟨lw_r6, lw_r7⟩⟩⟩⟩⟩⟩
def RX0 : String := "BothHandsFull$Lot"
def TX0 : u_T := fun k => match k with
  | 0 => ("BothHandsFull$Lot", "kind", "[I", true)
  | 1 => ("BothHandsFull$Lot", "number", "[I", true)
  | 2 => ("BothHandsFull$Lot", "room", "[I", true)
  | 3 => ("BothHandsFull$Lot", "size", "[I", true)
  | 4 => ("BothHandsFull$Lot", "dry", "[I", true)
  | 5 => ("BothHandsFull$Lot", "apart", "[I", true)
  | 6 => ("BothHandsFull$Lot", "lies", "[I", true)
  | 7 => ("BothHandsFull$Lot", "holds", "I", false)
  | 8 => ("BothHandsFull$Lot", "things", "I", false)
  | 9 => ("BothHandsFull$Lot", "key", "I", false)
  | 10 => ("BothHandsFull$Lot", "free", "I", false)
  | 11 => ("BothHandsFull$Lot", "rule", "I", false)
  | _ => ("BothHandsFull$Lot", "gone", "I", false)
def tyX0 : Nat → FieldType := fun k => match k with
  | 0 => .array .int
  | 1 => .array .int
  | 2 => .array .int
  | 3 => .array .int
  | 4 => .array .int
  | 5 => .array .int
  | 6 => .array .int
  | 7 => .int
  | 8 => .int
  | 9 => .int
  | 10 => .int
  | 11 => .int
  | _ => .int
abbrev wsX00 : List Cond := u_ws RX0 TX0 13
theorem nmX0 : ∀ a, a < 13 → ∀ b, b < 13 → a ≠ b → (TX0 a).2.1 ≠ (TX0 b).2.1 := by decide +kernel
theorem tyX0_ok : ∀ k, k < 13 → parseFieldDescriptor (TX0 k).2.2.1 = some (tyX0 k) := by decide +kernel
abbrev cX0_init : ByteArray := prog_2_method_1_code
def yX0_init : MethodName := ⟨RX0, "<init>", "()V"⟩
abbrev cX0_become : ByteArray := prog_2_method_2_code
def yX0_become : MethodName := ⟨RX0, "become", "(LBothHandsFull$Lot;)V"⟩
abbrev cX0_hasHold : ByteArray := prog_2_method_3_code
def yX0_hasHold : MethodName := ⟨RX0, "hasHold", "(I)Z"⟩
abbrev cX0_hasThing : ByteArray := prog_2_method_4_code
def yX0_hasThing : MethodName := ⟨RX0, "hasThing", "(I)Z"⟩
abbrev cX0_wet : ByteArray := prog_2_method_5_code
def yX0_wet : MethodName := ⟨RX0, "wet", "(I)I"⟩
abbrev cX0_renumber : ByteArray := prog_2_method_6_code
def yX0_renumber : MethodName := ⟨RX0, "renumber", "(II)V"⟩
abbrev cX0_lying : ByteArray := prog_2_method_7_code
def yX0_lying : MethodName := ⟨RX0, "lying", "(I)I"⟩
abbrev cX0_left : ByteArray := prog_2_method_8_code
def yX0_left : MethodName := ⟨RX0, "left", "(I)I"⟩
abbrev cX0_refusal : ByteArray := prog_2_method_9_code
def yX0_refusal : MethodName := ⟨RX0, "refusal", "(II)I"⟩
abbrev cX0_movesThatCanBe : ByteArray := prog_2_method_10_code
def yX0_movesThatCanBe : MethodName := ⟨RX0, "movesThatCanBe", "()I"⟩
abbrev cX0_freeHands : ByteArray := prog_2_method_11_code
def yX0_freeHands : MethodName := ⟨RX0, "freeHands", "()I"⟩
abbrev cX0_isOpen : ByteArray := prog_2_method_12_code
def yX0_isOpen : MethodName := ⟨RX0, "isOpen", "()Z"⟩
def RX1 : String := "BothHandsFull$Search"
def TX1 : u_T := fun k => match k with
  | 0 => ("BothHandsFull$Search", "mark", "[I", true)
  | 1 => ("BothHandsFull$Search", "far", "[I", true)
  | 2 => ("BothHandsFull$Search", "next", "[I", true)
  | 3 => ("BothHandsFull$Search", "before", "[I", true)
  | 4 => ("BothHandsFull$Search", "heads", "[I", true)
  | 5 => ("BothHandsFull$Search", "prices", "[I", true)
  | 6 => ("BothHandsFull$Search", "power", "[I", true)
  | 7 => ("BothHandsFull$Search", "at", "[I", true)
  | 8 => ("BothHandsFull$Search", "near", "[I", true)
  | 9 => ("BothHandsFull$Search", "backBy", "[I", true)
  | 10 => ("BothHandsFull$Search", "lot", "LBothHandsFull$Lot;", false)
  | 11 => ("BothHandsFull$Search", "states", "I", false)
  | 12 => ("BothHandsFull$Search", "home", "I", false)
  | _ => ("BothHandsFull$Search", "waiting", "I", false)
def tyX1 : Nat → FieldType := fun k => match k with
  | 0 => .array .int
  | 1 => .array .int
  | 2 => .array .int
  | 3 => .array .int
  | 4 => .array .int
  | 5 => .array .int
  | 6 => .array .int
  | 7 => .array .int
  | 8 => .array .int
  | 9 => .array .int
  | 10 => .object "BothHandsFull$Lot"
  | 11 => .int
  | 12 => .int
  | _ => .int
abbrev wsX10 : List Cond := u_ws RX1 TX1 14
theorem nmX1 : ∀ a, a < 14 → ∀ b, b < 14 → a ≠ b → (TX1 a).2.1 ≠ (TX1 b).2.1 := by decide +kernel
theorem tyX1_ok : ∀ k, k < 14 → parseFieldDescriptor (TX1 k).2.2.1 = some (tyX1 k) := by decide +kernel
abbrev cX1_init : ByteArray := prog_3_method_1_code
def yX1_init : MethodName := ⟨RX1, "<init>", "()V"⟩
abbrev cX1_look : ByteArray := prog_3_method_2_code
def yX1_look : MethodName := ⟨RX1, "look", "(LBothHandsFull$Lot;)V"⟩
abbrev cX1_lay : ByteArray := prog_3_method_3_code
def yX1_lay : MethodName := ⟨RX1, "lay", "(II)V"⟩
abbrev cX1_split : ByteArray := prog_3_method_4_code
def yX1_split : MethodName := ⟨RX1, "split", "(I)V"⟩
abbrev cX1_stateOf : ByteArray := prog_3_method_5_code
def yX1_stateOf : MethodName := ⟨RX1, "stateOf", "([I)I"⟩
abbrev cX1_price : ByteArray := prog_3_method_6_code
def yX1_price : MethodName := ⟨RX1, "price", "(IIII)V"⟩
abbrev cX1_placeOf : ByteArray := prog_3_method_7_code
def yX1_placeOf : MethodName := ⟨RX1, "placeOf", "(III)I"⟩
abbrev cX1_countMoves : ByteArray := prog_3_method_8_code
def yX1_countMoves : MethodName := ⟨RX1, "countMoves", "()V"⟩
abbrev cX1_spreadFromOpen : ByteArray := prog_3_method_9_code
def yX1_spreadFromOpen : MethodName := ⟨RX1, "spreadFromOpen", "(Z)I"⟩
abbrev cX1_spreadFrom : ByteArray := prog_3_method_10_code
def yX1_spreadFrom : MethodName := ⟨RX1, "spreadFrom", "(I)I"⟩
abbrev cX1_clearTurns : ByteArray := prog_3_method_11_code
def yX1_clearTurns : MethodName := ⟨RX1, "clearTurns", "()V"⟩
abbrev cX1_spread : ByteArray := prog_3_method_12_code
def yX1_spread : MethodName := ⟨RX1, "spread", "(Z)I"⟩
abbrev cX1_spreadOnce : ByteArray := prog_3_method_13_code
def yX1_spreadOnce : MethodName := ⟨RX1, "spreadOnce", "(II)V"⟩
abbrev cX1_lookAround : ByteArray := prog_3_method_14_code
def yX1_lookAround : MethodName := ⟨RX1, "lookAround", "(I)I"⟩
abbrev cX1_enterTurn : ByteArray := prog_3_method_15_code
def yX1_enterTurn : MethodName := ⟨RX1, "enterTurn", "(II)V"⟩
abbrev cX1_leaveTurn : ByteArray := prog_3_method_16_code
def yX1_leaveTurn : MethodName := ⟨RX1, "leaveTurn", "(I)V"⟩
abbrev cX1_firstBest : ByteArray := prog_3_method_17_code
def yX1_firstBest : MethodName := ⟨RX1, "firstBest", "()I"⟩
abbrev cX1_farWith : ByteArray := prog_3_method_18_code
def yX1_farWith : MethodName := ⟨RX1, "farWith", "(II)I"⟩
abbrev cX1_flood : ByteArray := prog_3_method_19_code
def yX1_flood : MethodName := ⟨RX1, "flood", "()I"⟩
abbrev cX1_floodOnce : ByteArray := prog_3_method_20_code
def yX1_floodOnce : MethodName := ⟨RX1, "floodOnce", "(II)I"⟩
abbrev cX1_farthest : ByteArray := prog_3_method_21_code
def yX1_farthest : MethodName := ⟨RX1, "farthest", "()I"⟩
abbrev cX1_rowsTo : ByteArray := prog_3_method_22_code
def yX1_rowsTo : MethodName := ⟨RX1, "rowsTo", "(II)J"⟩
abbrev cX1_step : ByteArray := prog_3_method_23_code
def yX1_step : MethodName := ⟨RX1, "step", "([III)V"⟩
abbrev cX1_stepOnce : ByteArray := prog_3_method_24_code
def yX1_stepOnce : MethodName := ⟨RX1, "stepOnce", "(II)V"⟩
def RX2 : String := "BothHandsFull$Sheet"
def TX2 : u_T := fun k => match k with
  | 0 => ("BothHandsFull$Sheet", "cells", "[I", true)
  | 1 => ("BothHandsFull$Sheet", "sort", "I", false)
  | _ => ("BothHandsFull$Sheet", "size", "I", false)
def tyX2 : Nat → FieldType := fun k => match k with
  | 0 => .array .int
  | 1 => .int
  | _ => .int
abbrev wsX20 : List Cond := u_ws RX2 TX2 3
theorem nmX2 : ∀ a, a < 3 → ∀ b, b < 3 → a ≠ b → (TX2 a).2.1 ≠ (TX2 b).2.1 := by decide +kernel
theorem tyX2_ok : ∀ k, k < 3 → parseFieldDescriptor (TX2 k).2.2.1 = some (tyX2 k) := by decide +kernel
abbrev cX2_init : ByteArray := prog_4_method_1_code
def yX2_init : MethodName := ⟨RX2, "<init>", "()V"⟩
abbrev cX2_isMissing : ByteArray := prog_4_method_2_code
def yX2_isMissing : MethodName := ⟨RX2, "isMissing", "()Z"⟩
abbrev cX2_become : ByteArray := prog_4_method_3_code
def yX2_become : MethodName := ⟨RX2, "become", "(II)V"⟩
abbrev cX2_put : ByteArray := prog_4_method_4_code
def yX2_put : MethodName := ⟨RX2, "put", "(II)V"⟩
abbrev cX2_hasPart : ByteArray := prog_4_method_5_code
def yX2_hasPart : MethodName := ⟨RX2, "hasPart", "(II)Z"⟩
def RX3 : String := "BothHandsFull$Tape"
def TX3 : u_T := fun k => match k with
  | 0 => ("BothHandsFull$Tape", "bytes", "[I", true)
  | 1 => ("BothHandsFull$Tape", "size", "I", false)
  | 2 => ("BothHandsFull$Tape", "at", "I", false)
  | 3 => ("BothHandsFull$Tape", "token", "I", false)
  | 4 => ("BothHandsFull$Tape", "place", "I", false)
  | 5 => ("BothHandsFull$Tape", "value", "I", false)
  | _ => ("BothHandsFull$Tape", "into", "LBothHandsFull$Text;", false)
def tyX3 : Nat → FieldType := fun k => match k with
  | 0 => .array .int
  | 1 => .int
  | 2 => .int
  | 3 => .int
  | 4 => .int
  | 5 => .int
  | _ => .object "BothHandsFull$Text"
abbrev wsX30 : List Cond := u_ws RX3 TX3 7
theorem nmX3 : ∀ a, a < 7 → ∀ b, b < 7 → a ≠ b → (TX3 a).2.1 ≠ (TX3 b).2.1 := by decide +kernel
theorem tyX3_ok : ∀ k, k < 7 → parseFieldDescriptor (TX3 k).2.2.1 = some (tyX3 k) := by decide +kernel
abbrev cX3_init : ByteArray := prog_5_method_1_code
def yX3_init : MethodName := ⟨RX3, "<init>", "()V"⟩
abbrev cX3_clear : ByteArray := prog_5_method_2_code
def yX3_clear : MethodName := ⟨RX3, "clear", "()V"⟩
abbrev cX3_add : ByteArray := prog_5_method_3_code
def yX3_add : MethodName := ⟨RX3, "add", "(I)V"⟩
abbrev cX3_read : ByteArray := prog_5_method_4_code
def yX3_read : MethodName := ⟨RX3, "read", "(LBothHandsFull$Text;)I"⟩
abbrev cX3_joined : ByteArray := prog_5_method_5_code
def yX3_joined : MethodName := ⟨RX3, "joined", "(II)Z"⟩
abbrev cX3_joins : ByteArray := prog_5_method_6_code
def yX3_joins : MethodName := ⟨RX3, "joins", "(I)Z"⟩
abbrev cX3_one : ByteArray := prog_5_method_7_code
def yX3_one : MethodName := ⟨RX3, "one", "(I)Z"⟩
abbrev cX3_advance : ByteArray := prog_5_method_8_code
def yX3_advance : MethodName := ⟨RX3, "advance", "()V"⟩
abbrev cX3_takeWord : ByteArray := prog_5_method_9_code
def yX3_takeWord : MethodName := ⟨RX3, "takeWord", "()V"⟩
abbrev cX3_isWord : ByteArray := prog_5_method_10_code
def yX3_isWord : MethodName := ⟨RX3, "isWord", "(I)Z"⟩
abbrev cX3_takeNumber : ByteArray := prog_5_method_11_code
def yX3_takeNumber : MethodName := ⟨RX3, "takeNumber", "()V"⟩
abbrev cX3_isLetter : ByteArray := prog_5_method_12_code
def yX3_isLetter : MethodName := ⟨RX3, "isLetter", "(I)Z"⟩
abbrev cX3_isDigit : ByteArray := prog_5_method_13_code
def yX3_isDigit : MethodName := ⟨RX3, "isDigit", "(I)Z"⟩
def RX4 : String := "BothHandsFull$Text"
def TX4 : u_T := fun k => match k with
  | 0 => ("BothHandsFull$Text", "code", "[I", true)
  | 1 => ("BothHandsFull$Text", "begins", "[I", true)
  | 2 => ("BothHandsFull$Text", "stack", "[I", true)
  | _ => ("BothHandsFull$Text", "size", "I", false)
def tyX4 : Nat → FieldType := fun k => match k with
  | 0 => .array .int
  | 1 => .array .int
  | 2 => .array .int
  | _ => .int
abbrev wsX40 : List Cond := u_ws RX4 TX4 4
theorem nmX4 : ∀ a, a < 4 → ∀ b, b < 4 → a ≠ b → (TX4 a).2.1 ≠ (TX4 b).2.1 := by decide +kernel
theorem tyX4_ok : ∀ k, k < 4 → parseFieldDescriptor (TX4 k).2.2.1 = some (tyX4 k) := by decide +kernel
abbrev cX4_init : ByteArray := prog_6_method_1_code
def yX4_init : MethodName := ⟨RX4, "<init>", "()V"⟩
abbrev cX4_clear : ByteArray := prog_6_method_2_code
def yX4_clear : MethodName := ⟨RX4, "clear", "()V"⟩
abbrev cX4_begin : ByteArray := prog_6_method_3_code
def yX4_begin : MethodName := ⟨RX4, "begin", "(I)V"⟩
abbrev cX4_add : ByteArray := prog_6_method_4_code
def yX4_add : MethodName := ⟨RX4, "add", "(I)V"⟩
abbrev cX4_tells : ByteArray := prog_6_method_5_code
def yX4_tells : MethodName := ⟨RX4, "tells", "(I[I)I"⟩
abbrev cX4_ofOne : ByteArray := prog_6_method_6_code
def yX4_ofOne : MethodName := ⟨RX4, "ofOne", "(II)I"⟩
abbrev cX4_ofTwo : ByteArray := prog_6_method_7_code
def yX4_ofTwo : MethodName := ⟨RX4, "ofTwo", "(III)I"⟩
def RX5 : String := "BothHandsFull"
def TX5 : u_T := fun k => match k with
  | 0 => ("BothHandsFull", "now", "LBothHandsFull$Lot;", true)
  | 1 => ("BothHandsFull", "kept", "LBothHandsFull$Lot;", true)
  | 2 => ("BothHandsFull", "thought", "LBothHandsFull$Lot;", true)
  | 3 => ("BothHandsFull", "search", "LBothHandsFull$Search;", true)
  | 4 => ("BothHandsFull", "tape", "LBothHandsFull$Tape;", true)
  | 5 => ("BothHandsFull", "texts", "[LBothHandsFull$Text;", true)
  | 6 => ("BothHandsFull", "sheets", "[LBothHandsFull$Sheet;", true)
  | 7 => ("BothHandsFull", "names", "[I", true)
  | 8 => ("BothHandsFull", "textCount", "I", false)
  | _ => ("BothHandsFull", "hasImage", "Z", false)
def tyX5 : Nat → FieldType := fun k => match k with
  | 0 => .object "BothHandsFull$Lot"
  | 1 => .object "BothHandsFull$Lot"
  | 2 => .object "BothHandsFull$Lot"
  | 3 => .object "BothHandsFull$Search"
  | 4 => .object "BothHandsFull$Tape"
  | 5 => .array (.object "BothHandsFull$Text")
  | 6 => .array (.object "BothHandsFull$Sheet")
  | 7 => .array .int
  | 8 => .int
  | _ => .boolean
abbrev wsX50 : List Cond := u_ws RX5 TX5 10
theorem nmX5 : ∀ a, a < 10 → ∀ b, b < 10 → a ≠ b → (TX5 a).2.1 ≠ (TX5 b).2.1 := by decide +kernel
theorem tyX5_ok : ∀ k, k < 10 → parseFieldDescriptor (TX5 k).2.2.1 = some (tyX5 k) := by decide +kernel
abbrev cX5_init : ByteArray := prog_1_method_1_code
def yX5_init : MethodName := ⟨RX5, "<init>", "()V"⟩
abbrev cX5_hold : ByteArray := prog_1_method_2_code
def yX5_hold : MethodName := ⟨RX5, "hold", "(II)I"⟩
abbrev cX5_thing : ByteArray := prog_1_method_3_code
def yX5_thing : MethodName := ⟨RX5, "thing", "(II)I"⟩
abbrev cX5_set : ByteArray := prog_1_method_4_code
def yX5_set : MethodName := ⟨RX5, "set", "(III)I"⟩
abbrev cX5_setFree : ByteArray := prog_1_method_5_code
def yX5_setFree : MethodName := ⟨RX5, "setFree", "(I)I"⟩
abbrev cX5_setKey : ByteArray := prog_1_method_6_code
def yX5_setKey : MethodName := ⟨RX5, "setKey", "(I)I"⟩
abbrev cX5_setNumber : ByteArray := prog_1_method_7_code
def yX5_setNumber : MethodName := ⟨RX5, "setNumber", "(II)I"⟩
abbrev cX5_setDry : ByteArray := prog_1_method_8_code
def yX5_setDry : MethodName := ⟨RX5, "setDry", "(II)I"⟩
abbrev cX5_part : ByteArray := prog_1_method_9_code
def yX5_part : MethodName := ⟨RX5, "part", "(III)I"⟩
abbrev cX5_told : ByteArray := prog_1_method_10_code
def yX5_told : MethodName := ⟨RX5, "told", "(II)I"⟩
abbrev cX5_toldOfHold : ByteArray := prog_1_method_11_code
def yX5_toldOfHold : MethodName := ⟨RX5, "toldOfHold", "(II)I"⟩
abbrev cX5_toldOfThing : ByteArray := prog_1_method_12_code
def yX5_toldOfThing : MethodName := ⟨RX5, "toldOfThing", "(II)I"⟩
abbrev cX5_feed : ByteArray := prog_1_method_13_code
def yX5_feed : MethodName := ⟨RX5, "feed", "(I)I"⟩
abbrev cX5_text : ByteArray := prog_1_method_14_code
def yX5_text : MethodName := ⟨RX5, "text", "()I"⟩
abbrev cX5_force : ByteArray := prog_1_method_15_code
def yX5_force : MethodName := ⟨RX5, "force", "(I)I"⟩
abbrev cX5_move : ByteArray := prog_1_method_16_code
def yX5_move : MethodName := ⟨RX5, "move", "(II)I"⟩
abbrev cX5_why : ByteArray := prog_1_method_17_code
def yX5_why : MethodName := ⟨RX5, "why", "(II)I"⟩
abbrev cX5_open : ByteArray := prog_1_method_18_code
def yX5_open : MethodName := ⟨RX5, "open", "(I)I"⟩
abbrev cX5_asks : ByteArray := prog_1_method_19_code
def yX5_asks : MethodName := ⟨RX5, "asks", "(III)I"⟩
abbrev cX5_costs : ByteArray := prog_1_method_20_code
def yX5_costs : MethodName := ⟨RX5, "costs", "(III)I"⟩
abbrev cX5_bell : ByteArray := prog_1_method_21_code
def yX5_bell : MethodName := ⟨RX5, "bell", "()I"⟩
abbrev cX5_worth : ByteArray := prog_1_method_22_code
def yX5_worth : MethodName := ⟨RX5, "worth", "(I)I"⟩
abbrev cX5_name : ByteArray := prog_1_method_23_code
def yX5_name : MethodName := ⟨RX5, "name", "(IIIII)V"⟩
abbrev cX5_best : ByteArray := prog_1_method_24_code
def yX5_best : MethodName := ⟨RX5, "best", "(I)I"⟩
abbrev cX5_pack : ByteArray := prog_1_method_25_code
def yX5_pack : MethodName := ⟨RX5, "pack", "(II)I"⟩
abbrev cX5_ring : ByteArray := prog_1_method_26_code
def yX5_ring : MethodName := ⟨RX5, "ring", "(I)I"⟩
abbrev cX5_leave : ByteArray := prog_1_method_27_code
def yX5_leave : MethodName := ⟨RX5, "leave", "()I"⟩
abbrev cX5_roomy : ByteArray := prog_1_method_28_code
def yX5_roomy : MethodName := ⟨RX5, "roomy", "(I)I"⟩
abbrev cX5_fewest : ByteArray := prog_1_method_29_code
def yX5_fewest : MethodName := ⟨RX5, "fewest", "(Z)I"⟩
abbrev cX5_countCosts : ByteArray := prog_1_method_30_code
def yX5_countCosts : MethodName := ⟨RX5, "countCosts", "()V"⟩
abbrev cX5_leastIf : ByteArray := prog_1_method_31_code
def yX5_leastIf : MethodName := ⟨RX5, "leastIf", "(II)I"⟩
abbrev cX5_think : ByteArray := prog_1_method_32_code
def yX5_think : MethodName := ⟨RX5, "think", "(II)V"⟩
abbrev cX5_isLess : ByteArray := prog_1_method_33_code
def yX5_isLess : MethodName := ⟨RX5, "isLess", "(II)Z"⟩
abbrev cX5_judge : ByteArray := prog_1_method_34_code
def yX5_judge : MethodName := ⟨RX5, "judge", "(II)I"⟩
abbrev cX5_canBe : ByteArray := prog_1_method_35_code
def yX5_canBe : MethodName := ⟨RX5, "canBe", "(I)Z"⟩
abbrev cX5_ways : ByteArray := prog_1_method_36_code
def yX5_ways : MethodName := ⟨RX5, "ways", "(II)J"⟩
abbrev cX5_soonest : ByteArray := prog_1_method_37_code
def yX5_soonest : MethodName := ⟨RX5, "soonest", "(I)I"⟩
abbrev cX5_drawn : ByteArray := prog_1_method_38_code
def yX5_drawn : MethodName := ⟨RX5, "drawn", "(II)I"⟩
abbrev cX5_chance : ByteArray := prog_1_method_39_code
def yX5_chance : MethodName := ⟨RX5, "chance", "(III)J"⟩
abbrev cX5_openBehind : ByteArray := prog_1_method_40_code
def yX5_openBehind : MethodName := ⟨RX5, "openBehind", "(II)I"⟩
abbrev cX5_drawOnce : ByteArray := prog_1_method_41_code
def yX5_drawOnce : MethodName := ⟨RX5, "drawOnce", "(I)V"⟩
abbrev cX5_commonPart : ByteArray := prog_1_method_42_code
def yX5_commonPart : MethodName := ⟨RX5, "commonPart", "(II)I"⟩
abbrev cX5_image : ByteArray := prog_1_method_43_code
def yX5_image : MethodName := ⟨RX5, "image", "()I"⟩
abbrev cX5_back : ByteArray := prog_1_method_44_code
def yX5_back : MethodName := ⟨RX5, "back", "()I"⟩
abbrev cX5_count : ByteArray := prog_1_method_45_code
def yX5_count : MethodName := ⟨RX5, "count", "(I)I"⟩
abbrev cX5_sheet : ByteArray := prog_1_method_46_code
def yX5_sheet : MethodName := ⟨RX5, "sheet", "(III)I"⟩
abbrev cX5_cell : ByteArray := prog_1_method_47_code
def yX5_cell : MethodName := ⟨RX5, "cell", "(III)I"⟩
abbrev cX5_copy : ByteArray := prog_1_method_48_code
def yX5_copy : MethodName := ⟨RX5, "copy", "(IIIII)I"⟩
abbrev cX5_things : ByteArray := prog_1_method_49_code
def yX5_things : MethodName := ⟨RX5, "things", "(IIII)I"⟩
abbrev cX5_taken : ByteArray := prog_1_method_50_code
def yX5_taken : MethodName := ⟨RX5, "taken", "(II)I"⟩
abbrev cX5_within : ByteArray := prog_1_method_51_code
def yX5_within : MethodName := ⟨RX5, "within", "(II)Z"⟩
abbrev cX5_bounded : ByteArray := prog_1_method_52_code
def yX5_bounded : MethodName := ⟨RX5, "bounded", "(II)I"⟩
abbrev cX5_withBit : ByteArray := prog_1_method_53_code
def yX5_withBit : MethodName := ⟨RX5, "withBit", "(III)I"⟩
abbrev cX5_roomOf : ByteArray := prog_1_method_54_code
def yX5_roomOf : MethodName := ⟨RX5, "roomOf", "(II)I"⟩
def RX6 : String := "BothHandsFullModel"
def TX6 : u_T := fun k => match k with
  | 0 => ("BothHandsFullModel", "thrown", "I", false)
  | 1 => ("BothHandsFullModel", "texts", "[I", true)
  | 2 => ("BothHandsFullModel", "textSize", "[I", true)
  | 3 => ("BothHandsFullModel", "textCount", "I", false)
  | 4 => ("BothHandsFullModel", "rule", "I", false)
  | 5 => ("BothHandsFullModel", "tape", "[I", true)
  | 6 => ("BothHandsFullModel", "taped", "I", false)
  | 7 => ("BothHandsFullModel", "kinds", "[I", true)
  | 8 => ("BothHandsFullModel", "numbers", "[I", true)
  | 9 => ("BothHandsFullModel", "holds", "I", false)
  | 10 => ("BothHandsFullModel", "sizes", "[I", true)
  | 11 => ("BothHandsFullModel", "dry", "[I", true)
  | 12 => ("BothHandsFullModel", "lies", "[I", true)
  | 13 => ("BothHandsFullModel", "apart", "[I", true)
  | 14 => ("BothHandsFullModel", "things", "I", false)
  | 15 => ("BothHandsFullModel", "key", "I", false)
  | 16 => ("BothHandsFullModel", "free", "I", false)
  | 17 => ("BothHandsFullModel", "roomyHold", "I", false)
  | 18 => ("BothHandsFullModel", "nowhere", "I", false)
  | 19 => ("BothHandsFullModel", "ofSize", "I", false)
  | 20 => ("BothHandsFullModel", "ofFrom", "I", false)
  | 21 => ("BothHandsFullModel", "ofTo", "I", false)
  | 22 => ("BothHandsFullModel", "ofThing", "I", false)
  | 23 => ("BothHandsFullModel", "ofMany", "I", false)
  | 24 => ("BothHandsFullModel", "ofWet", "I", false)
  | 25 => ("BothHandsFullModel", "from", "I", false)
  | 26 => ("BothHandsFullModel", "size", "I", false)
  | 27 => ("BothHandsFullModel", "here", "I", false)
  | 28 => ("BothHandsFullModel", "token", "I", false)
  | 29 => ("BothHandsFullModel", "tokenAt", "I", false)
  | 30 => ("BothHandsFullModel", "tokenWorth", "J", false)
  | 31 => ("BothHandsFullModel", "open", "I", false)
  | 32 => ("BothHandsFullModel", "bad", "Z", false)
  | 33 => ("BothHandsFullModel", "fault", "I", false)
  | 34 => ("BothHandsFullModel", "liesWas", "[I", true)
  | 35 => ("BothHandsFullModel", "mayBe", "[I", true)
  | 36 => ("BothHandsFullModel", "few", "[I", true)
  | 37 => ("BothHandsFullModel", "little", "[I", true)
  | 38 => ("BothHandsFullModel", "costs", "[I", true)
  | 39 => ("BothHandsFullModel", "seen", "[I", true)
  | 40 => ("BothHandsFullModel", "judgeCost", "I", false)
  | 41 => ("BothHandsFullModel", "judgeOpen", "Z", false)
  | 42 => ("BothHandsFullModel", "rows", "[J", true)
  | 43 => ("BothHandsFullModel", "then", "[J", true)
  | 44 => ("BothHandsFullModel", "kept", "[I", true)
  | 45 => ("BothHandsFullModel", "thingsKept", "I", false)
  | 46 => ("BothHandsFullModel", "holdsKept", "I", false)
  | 47 => ("BothHandsFullModel", "keyKept", "I", false)
  | 48 => ("BothHandsFullModel", "freeKept", "I", false)
  | 49 => ("BothHandsFullModel", "ruleKept", "I", false)
  | 50 => ("BothHandsFullModel", "isThere", "[Z", true)
  | 51 => ("BothHandsFullModel", "sorts", "[I", true)
  | 52 => ("BothHandsFullModel", "sheetSize", "[I", true)
  | _ => ("BothHandsFullModel", "items", "[I", true)
def tyX6 : Nat → FieldType := fun k => match k with
  | 0 => .int
  | 1 => .array .int
  | 2 => .array .int
  | 3 => .int
  | 4 => .int
  | 5 => .array .int
  | 6 => .int
  | 7 => .array .int
  | 8 => .array .int
  | 9 => .int
  | 10 => .array .int
  | 11 => .array .int
  | 12 => .array .int
  | 13 => .array .int
  | 14 => .int
  | 15 => .int
  | 16 => .int
  | 17 => .int
  | 18 => .int
  | 19 => .int
  | 20 => .int
  | 21 => .int
  | 22 => .int
  | 23 => .int
  | 24 => .int
  | 25 => .int
  | 26 => .int
  | 27 => .int
  | 28 => .int
  | 29 => .int
  | 30 => .long
  | 31 => .int
  | 32 => .boolean
  | 33 => .int
  | 34 => .array .int
  | 35 => .array .int
  | 36 => .array .int
  | 37 => .array .int
  | 38 => .array .int
  | 39 => .array .int
  | 40 => .int
  | 41 => .boolean
  | 42 => .array .long
  | 43 => .array .long
  | 44 => .array .int
  | 45 => .int
  | 46 => .int
  | 47 => .int
  | 48 => .int
  | 49 => .int
  | 50 => .array .boolean
  | 51 => .array .int
  | 52 => .array .int
  | _ => .array .int
abbrev wsX60 : List Cond := u_ws RX6 TX6 54
theorem nmX6 : ∀ a, a < 54 → ∀ b, b < 54 → a ≠ b → (TX6 a).2.1 ≠ (TX6 b).2.1 := by decide +kernel
theorem tyX6_ok : ∀ k, k < 54 → parseFieldDescriptor (TX6 k).2.2.1 = some (tyX6 k) := by decide +kernel
abbrev cX6_in : ByteArray := prog_8_method_2_code
def yX6_in : MethodName := ⟨RX6, "in", "(JJJ)Z"⟩
abbrev cX6_within : ByteArray := prog_8_method_3_code
def yX6_within : MethodName := ⟨RX6, "within", "(III)I"⟩
abbrev cX6_bitsOf : ByteArray := prog_8_method_4_code
def yX6_bitsOf : MethodName := ⟨RX6, "bitsOf", "(I)I"⟩
abbrev cX6_init : ByteArray := prog_8_method_5_code
def yX6_init : MethodName := ⟨RX6, "<init>", "()V"⟩
abbrev cX6_spell : ByteArray := prog_8_method_6_code
def yX6_spell : MethodName := ⟨RX6, "spell", "(IIIIIIIII)V"⟩
abbrev cX6_isHold : ByteArray := prog_8_method_7_code
def yX6_isHold : MethodName := ⟨RX6, "isHold", "(I)Z"⟩
abbrev cX6_isThing : ByteArray := prog_8_method_8_code
def yX6_isThing : MethodName := ⟨RX6, "isThing", "(I)Z"⟩
abbrev cX6_roomOf : ByteArray := prog_8_method_9_code
def yX6_roomOf : MethodName := ⟨RX6, "roomOf", "(I)I"⟩
abbrev cX6_mostOf : ByteArray := prog_8_method_10_code
def yX6_mostOf : MethodName := ⟨RX6, "mostOf", "(I)I"⟩
abbrev cX6_wetOf : ByteArray := prog_8_method_11_code
def yX6_wetOf : MethodName := ⟨RX6, "wetOf", "(I)I"⟩
abbrev cX6_opensOf : ByteArray := prog_8_method_12_code
def yX6_opensOf : MethodName := ⟨RX6, "opensOf", "(I)I"⟩
abbrev cX6_inside : ByteArray := prog_8_method_13_code
def yX6_inside : MethodName := ⟨RX6, "inside", "(I)I"⟩
abbrev cX6_sizeOf : ByteArray := prog_8_method_14_code
def yX6_sizeOf : MethodName := ⟨RX6, "sizeOf", "(I)I"⟩
abbrev cX6_bars : ByteArray := prog_8_method_15_code
def yX6_bars : MethodName := ⟨RX6, "bars", "(IIIII)I"⟩
abbrev cX6_barsThing : ByteArray := prog_8_method_16_code
def yX6_barsThing : MethodName := ⟨RX6, "barsThing", "(II)I"⟩
abbrev cX6_canGo : ByteArray := prog_8_method_17_code
def yX6_canGo : MethodName := ⟨RX6, "canGo", "(II)Z"⟩
abbrev cX6_hold : ByteArray := prog_8_method_18_code
def yX6_hold : MethodName := ⟨RX6, "hold", "(II)I"⟩
abbrev cX6_thing : ByteArray := prog_8_method_19_code
def yX6_thing : MethodName := ⟨RX6, "thing", "(II)I"⟩
abbrev cX6_set : ByteArray := prog_8_method_20_code
def yX6_set : MethodName := ⟨RX6, "set", "(III)I"⟩
abbrev cX6_part : ByteArray := prog_8_method_21_code
def yX6_part : MethodName := ⟨RX6, "part", "(III)I"⟩
abbrev cX6_told : ByteArray := prog_8_method_22_code
def yX6_told : MethodName := ⟨RX6, "told", "(II)I"⟩
abbrev cX6_feed : ByteArray := prog_8_method_23_code
def yX6_feed : MethodName := ⟨RX6, "feed", "(I)I"⟩
abbrev cX6_byteAt : ByteArray := prog_8_method_24_code
def yX6_byteAt : MethodName := ⟨RX6, "byteAt", "(I)I"⟩
abbrev cX6_next : ByteArray := prog_8_method_25_code
def yX6_next : MethodName := ⟨RX6, "next", "()V"⟩
abbrev cX6_fail : ByteArray := prog_8_method_26_code
def yX6_fail : MethodName := ⟨RX6, "fail", "()V"⟩
abbrev cX6_isLetter : ByteArray := prog_8_method_27_code
def yX6_isLetter : MethodName := ⟨RX6, "isLetter", "(II)Z"⟩
abbrev cX6_isWord : ByteArray := prog_8_method_28_code
def yX6_isWord : MethodName := ⟨RX6, "isWord", "(IIIIIIII)Z"⟩
abbrev cX6_isSign : ByteArray := prog_8_method_29_code
def yX6_isSign : MethodName := ⟨RX6, "isSign", "(I)Z"⟩
abbrev cX6_opens : ByteArray := prog_8_method_30_code
def yX6_opens : MethodName := ⟨RX6, "opens", "()Z"⟩
abbrev cX6_name : ByteArray := prog_8_method_31_code
def yX6_name : MethodName := ⟨RX6, "name", "()I"⟩
abbrev cX6_atom5 : ByteArray := prog_8_method_32_code
def yX6_atom5 : MethodName := ⟨RX6, "atom5", "()I"⟩
abbrev cX6_term5 : ByteArray := prog_8_method_33_code
def yX6_term5 : MethodName := ⟨RX6, "term5", "()I"⟩
abbrev cX6_added5 : ByteArray := prog_8_method_34_code
def yX6_added5 : MethodName := ⟨RX6, "added5", "()I"⟩
abbrev cX6_not5 : ByteArray := prog_8_method_35_code
def yX6_not5 : MethodName := ⟨RX6, "not5", "()I"⟩
abbrev cX6_both5 : ByteArray := prog_8_method_36_code
def yX6_both5 : MethodName := ⟨RX6, "both5", "()I"⟩
abbrev cX6_either5 : ByteArray := prog_8_method_37_code
def yX6_either5 : MethodName := ⟨RX6, "either5", "()I"⟩
abbrev cX6_atom4 : ByteArray := prog_8_method_38_code
def yX6_atom4 : MethodName := ⟨RX6, "atom4", "()I"⟩
abbrev cX6_term4 : ByteArray := prog_8_method_39_code
def yX6_term4 : MethodName := ⟨RX6, "term4", "()I"⟩
abbrev cX6_added4 : ByteArray := prog_8_method_40_code
def yX6_added4 : MethodName := ⟨RX6, "added4", "()I"⟩
abbrev cX6_not4 : ByteArray := prog_8_method_41_code
def yX6_not4 : MethodName := ⟨RX6, "not4", "()I"⟩
abbrev cX6_both4 : ByteArray := prog_8_method_42_code
def yX6_both4 : MethodName := ⟨RX6, "both4", "()I"⟩
abbrev cX6_either4 : ByteArray := prog_8_method_43_code
def yX6_either4 : MethodName := ⟨RX6, "either4", "()I"⟩
abbrev cX6_atom3 : ByteArray := prog_8_method_44_code
def yX6_atom3 : MethodName := ⟨RX6, "atom3", "()I"⟩
abbrev cX6_term3 : ByteArray := prog_8_method_45_code
def yX6_term3 : MethodName := ⟨RX6, "term3", "()I"⟩
abbrev cX6_added3 : ByteArray := prog_8_method_46_code
def yX6_added3 : MethodName := ⟨RX6, "added3", "()I"⟩
abbrev cX6_not3 : ByteArray := prog_8_method_47_code
def yX6_not3 : MethodName := ⟨RX6, "not3", "()I"⟩
abbrev cX6_both3 : ByteArray := prog_8_method_48_code
def yX6_both3 : MethodName := ⟨RX6, "both3", "()I"⟩
abbrev cX6_either3 : ByteArray := prog_8_method_49_code
def yX6_either3 : MethodName := ⟨RX6, "either3", "()I"⟩
abbrev cX6_atom2 : ByteArray := prog_8_method_50_code
def yX6_atom2 : MethodName := ⟨RX6, "atom2", "()I"⟩
abbrev cX6_term2 : ByteArray := prog_8_method_51_code
def yX6_term2 : MethodName := ⟨RX6, "term2", "()I"⟩
abbrev cX6_added2 : ByteArray := prog_8_method_52_code
def yX6_added2 : MethodName := ⟨RX6, "added2", "()I"⟩
abbrev cX6_not2 : ByteArray := prog_8_method_53_code
def yX6_not2 : MethodName := ⟨RX6, "not2", "()I"⟩
abbrev cX6_both2 : ByteArray := prog_8_method_54_code
def yX6_both2 : MethodName := ⟨RX6, "both2", "()I"⟩
abbrev cX6_either2 : ByteArray := prog_8_method_55_code
def yX6_either2 : MethodName := ⟨RX6, "either2", "()I"⟩
abbrev cX6_atom1 : ByteArray := prog_8_method_56_code
def yX6_atom1 : MethodName := ⟨RX6, "atom1", "()I"⟩
abbrev cX6_term1 : ByteArray := prog_8_method_57_code
def yX6_term1 : MethodName := ⟨RX6, "term1", "()I"⟩
abbrev cX6_added1 : ByteArray := prog_8_method_58_code
def yX6_added1 : MethodName := ⟨RX6, "added1", "()I"⟩
abbrev cX6_not1 : ByteArray := prog_8_method_59_code
def yX6_not1 : MethodName := ⟨RX6, "not1", "()I"⟩
abbrev cX6_both1 : ByteArray := prog_8_method_60_code
def yX6_both1 : MethodName := ⟨RX6, "both1", "()I"⟩
abbrev cX6_either1 : ByteArray := prog_8_method_61_code
def yX6_either1 : MethodName := ⟨RX6, "either1", "()I"⟩
abbrev cX6_atom0 : ByteArray := prog_8_method_62_code
def yX6_atom0 : MethodName := ⟨RX6, "atom0", "()I"⟩
abbrev cX6_term0 : ByteArray := prog_8_method_63_code
def yX6_term0 : MethodName := ⟨RX6, "term0", "()I"⟩
abbrev cX6_added0 : ByteArray := prog_8_method_64_code
def yX6_added0 : MethodName := ⟨RX6, "added0", "()I"⟩
abbrev cX6_not0 : ByteArray := prog_8_method_65_code
def yX6_not0 : MethodName := ⟨RX6, "not0", "()I"⟩
abbrev cX6_both0 : ByteArray := prog_8_method_66_code
def yX6_both0 : MethodName := ⟨RX6, "both0", "()I"⟩
abbrev cX6_either0 : ByteArray := prog_8_method_67_code
def yX6_either0 : MethodName := ⟨RX6, "either0", "()I"⟩
abbrev cX6_part_ : ByteArray := prog_8_method_68_code
def yX6_part_ : MethodName := ⟨RX6, "part", "(Z)I"⟩
abbrev cX6_read : ByteArray := prog_8_method_69_code
def yX6_read : MethodName := ⟨RX6, "read", "(II)I"⟩
abbrev cX6_text : ByteArray := prog_8_method_70_code
def yX6_text : MethodName := ⟨RX6, "text", "()I"⟩
abbrev cX6_force : ByteArray := prog_8_method_71_code
def yX6_force : MethodName := ⟨RX6, "force", "(I)I"⟩
abbrev cX6_says : ByteArray := prog_8_method_72_code
def yX6_says : MethodName := ⟨RX6, "says", "(IIII)I"⟩
abbrev cX6_asks : ByteArray := prog_8_method_73_code
def yX6_asks : MethodName := ⟨RX6, "asks", "(III)I"⟩
abbrev cX6_move : ByteArray := prog_8_method_74_code
def yX6_move : MethodName := ⟨RX6, "move", "(II)I"⟩
abbrev cX6_why : ByteArray := prog_8_method_75_code
def yX6_why : MethodName := ⟨RX6, "why", "(II)I"⟩
abbrev cX6_isOpen : ByteArray := prog_8_method_76_code
def yX6_isOpen : MethodName := ⟨RX6, "isOpen", "()Z"⟩
abbrev cX6_open : ByteArray := prog_8_method_77_code
def yX6_open : MethodName := ⟨RX6, "open", "(I)I"⟩
abbrev cX6_place : ByteArray := prog_8_method_78_code
def yX6_place : MethodName := ⟨RX6, "place", "(I)I"⟩
abbrev cX6_codeNow : ByteArray := prog_8_method_79_code
def yX6_codeNow : MethodName := ⟨RX6, "codeNow", "()I"⟩
abbrev cX6_lays : ByteArray := prog_8_method_80_code
def yX6_lays : MethodName := ⟨RX6, "lays", "(I)V"⟩
abbrev cX6_areWell : ByteArray := prog_8_method_81_code
def yX6_areWell : MethodName := ⟨RX6, "areWell", "()Z"⟩
abbrev cX6_after : ByteArray := prog_8_method_82_code
def yX6_after : MethodName := ⟨RX6, "after", "(III)I"⟩
abbrev cX6_gathers : ByteArray := prog_8_method_83_code
def yX6_gathers : MethodName := ⟨RX6, "gathers", "()V"⟩
abbrev cX6_eases : ByteArray := prog_8_method_84_code
def yX6_eases : MethodName := ⟨RX6, "eases", "(I)Z"⟩
abbrev cX6_told1 : ByteArray := prog_8_method_85_code
def yX6_told1 : MethodName := ⟨RX6, "told1", "(I)I"⟩
abbrev cX6_moveBy : ByteArray := prog_8_method_86_code
def yX6_moveBy : MethodName := ⟨RX6, "moveBy", "(Z)I"⟩
abbrev cX6_reaches : ByteArray := prog_8_method_87_code
def yX6_reaches : MethodName := ⟨RX6, "reaches", "(I)I"⟩
abbrev cX6_best : ByteArray := prog_8_method_88_code
def yX6_best : MethodName := ⟨RX6, "best", "(I)I"⟩
abbrev cX6_pack : ByteArray := prog_8_method_89_code
def yX6_pack : MethodName := ⟨RX6, "pack", "(II)I"⟩
abbrev cX6_ring : ByteArray := prog_8_method_90_code
def yX6_ring : MethodName := ⟨RX6, "ring", "(I)I"⟩
abbrev cX6_leave : ByteArray := prog_8_method_91_code
def yX6_leave : MethodName := ⟨RX6, "leave", "()I"⟩
abbrev cX6_roomy : ByteArray := prog_8_method_92_code
def yX6_roomy : MethodName := ⟨RX6, "roomy", "(I)I"⟩
abbrev cX6_goesBy : ByteArray := prog_8_method_93_code
def yX6_goesBy : MethodName := ⟨RX6, "goesBy", "(I)I"⟩
abbrev cX6_judge : ByteArray := prog_8_method_94_code
def yX6_judge : MethodName := ⟨RX6, "judge", "(II)I"⟩
abbrev cX6_codeOf : ByteArray := prog_8_method_95_code
def yX6_codeOf : MethodName := ⟨RX6, "codeOf", "(I)I"⟩
abbrev cX6_begins : ByteArray := prog_8_method_96_code
def yX6_begins : MethodName := ⟨RX6, "begins", "()V"⟩
abbrev cX6_steps : ByteArray := prog_8_method_97_code
def yX6_steps : MethodName := ⟨RX6, "steps", "()V"⟩
abbrev cX6_ways : ByteArray := prog_8_method_98_code
def yX6_ways : MethodName := ⟨RX6, "ways", "(II)J"⟩
abbrev cX6_soonest : ByteArray := prog_8_method_99_code
def yX6_soonest : MethodName := ⟨RX6, "soonest", "(I)I"⟩
abbrev cX6_draws : ByteArray := prog_8_method_100_code
def yX6_draws : MethodName := ⟨RX6, "draws", "(II)I"⟩
abbrev cX6_drawn : ByteArray := prog_8_method_101_code
def yX6_drawn : MethodName := ⟨RX6, "drawn", "(II)I"⟩
abbrev cX6_chance : ByteArray := prog_8_method_102_code
def yX6_chance : MethodName := ⟨RX6, "chance", "(III)J"⟩
abbrev cX6_image : ByteArray := prog_8_method_103_code
def yX6_image : MethodName := ⟨RX6, "image", "()I"⟩
abbrev cX6_back : ByteArray := prog_8_method_104_code
def yX6_back : MethodName := ⟨RX6, "back", "()I"⟩
abbrev cX6_count : ByteArray := prog_8_method_105_code
def yX6_count : MethodName := ⟨RX6, "count", "(I)I"⟩
abbrev cX6_isSheet : ByteArray := prog_8_method_106_code
def yX6_isSheet : MethodName := ⟨RX6, "isSheet", "(I)Z"⟩
abbrev cX6_sheet : ByteArray := prog_8_method_107_code
def yX6_sheet : MethodName := ⟨RX6, "sheet", "(III)I"⟩
abbrev cX6_cell : ByteArray := prog_8_method_108_code
def yX6_cell : MethodName := ⟨RX6, "cell", "(III)I"⟩
abbrev cX6_copy : ByteArray := prog_8_method_109_code
def yX6_copy : MethodName := ⟨RX6, "copy", "(IIIII)I"⟩
abbrev cX6_things : ByteArray := prog_8_method_110_code
def yX6_things : MethodName := ⟨RX6, "things", "(IIII)I"⟩
abbrev cX6_over : ByteArray := prog_8_method_111_code
def yX6_over : MethodName := ⟨RX6, "over", "(I)I"⟩
abbrev cX6_taken : ByteArray := prog_8_method_112_code
def yX6_taken : MethodName := ⟨RX6, "taken", "(II)I"⟩
def RJ11 : String := "java/lang/Character"
def TJ11 : u_T := fun k => match k with
  | _ => ("", "", "", false)
abbrev cJ11_isValidCodePoint_9a6ad : ByteArray := prog_9_method_11_code
def yJ11_isValidCodePoint_9a6ad : MethodName := ⟨RJ11, "isValidCodePoint", "(I)Z"⟩
abbrev cJ11_highSurrogate_5068e : ByteArray := prog_9_method_28_code
def yJ11_highSurrogate_5068e : MethodName := ⟨RJ11, "highSurrogate", "(I)C"⟩
abbrev cJ11_lowSurrogate_5068e : ByteArray := prog_9_method_29_code
def yJ11_lowSurrogate_5068e : MethodName := ⟨RJ11, "lowSurrogate", "(I)C"⟩
def RJ9 : String := "java/lang/Math"
def TJ9 : u_T := fun k => match k with
  | _ => ("", "", "", false)
abbrev cJ9_max_7cf53 : ByteArray := prog_10_method_65_code
def yJ9_max_7cf53 : MethodName := ⟨RJ9, "max", "(II)I"⟩
abbrev cJ9_min_7cf53 : ByteArray := prog_10_method_69_code
def yJ9_min_7cf53 : MethodName := ⟨RJ9, "min", "(II)I"⟩
def RJ0 : String := "java/lang/String"
def TJ0 : u_T := fun k => match k with
  | _ => ("", "", "", false)
abbrev cJ0_length_8abf5 : ByteArray := prog_11_method_54_code
def yJ0_length_8abf5 : MethodName := ⟨RJ0, "length", "()I"⟩
abbrev cJ0_charAt_5068e : ByteArray := prog_11_method_56_code
def yJ0_charAt_5068e : MethodName := ⟨RJ0, "charAt", "(I)C"⟩
abbrev cJ0_indexOf_0f7a4 : ByteArray := prog_11_method_79_code
def yJ0_indexOf_0f7a4 : MethodName := ⟨RJ0, "indexOf", "(I)I"⟩
abbrev cJ0_indexOf_7cf53 : ByteArray := prog_11_method_80_code
def yJ0_indexOf_7cf53 : MethodName := ⟨RJ0, "indexOf", "(II)I"⟩
abbrev cJ0_coder_7d493 : ByteArray := prog_11_method_152_code
def yJ0_coder_7d493 : MethodName := ⟨RJ0, "coder", "()B"⟩
abbrev cJ0_isLatin1_aae02 : ByteArray := prog_11_method_154_code
def yJ0_isLatin1_aae02 : MethodName := ⟨RJ0, "isLatin1", "()Z"⟩
abbrev cJ0_checkIndex_df160 : ByteArray := prog_11_method_155_code
def yJ0_checkIndex_df160 : MethodName := ⟨RJ0, "checkIndex", "(II)V"⟩
abbrev cJ0_checkBoundsBeginEnd_23922 : ByteArray := prog_11_method_158_code
def yJ0_checkBoundsBeginEnd_23922 : MethodName := ⟨RJ0, "checkBoundsBeginEnd", "(III)V"⟩
def RJ1 : String := "java/lang/StringLatin1"
def TJ1 : u_T := fun k => match k with
  | _ => ("", "", "", false)
abbrev cJ1_charAt_3b067 : ByteArray := prog_12_method_2_code
def yJ1_charAt_3b067 : MethodName := ⟨RJ1, "charAt", "([BI)C"⟩
abbrev cJ1_canEncode_9a6ad : ByteArray := prog_12_method_4_code
def yJ1_canEncode_9a6ad : MethodName := ⟨RJ1, "canEncode", "(I)Z"⟩
abbrev cJ1_indexOf_4cfef : ByteArray := prog_12_method_22_code
def yJ1_indexOf_4cfef : MethodName := ⟨RJ1, "indexOf", "([BIII)I"⟩
abbrev cJ1_indexOfChar_4cfef : ByteArray := prog_12_method_23_code
def yJ1_indexOfChar_4cfef : MethodName := ⟨RJ1, "indexOfChar", "([BIII)I"⟩
def RJ2 : String := "java/lang/StringUTF16"
def TJ2 : u_T := fun k => match k with
  | _ => ("", "", "", false)
abbrev cJ2_getChar_3b067 : ByteArray := prog_13_method_5_code
def yJ2_getChar_3b067 : MethodName := ⟨RJ2, "getChar", "([BI)C"⟩
abbrev cJ2_length_9d52b : ByteArray := prog_13_method_6_code
def yJ2_length_9d52b : MethodName := ⟨RJ2, "length", "([B)I"⟩
abbrev cJ2_indexOf_4cfef : ByteArray := prog_13_method_40_code
def yJ2_indexOf_4cfef : MethodName := ⟨RJ2, "indexOf", "([BIII)I"⟩
abbrev cJ2_indexOfChar_4cfef : ByteArray := prog_13_method_47_code
def yJ2_indexOfChar_4cfef : MethodName := ⟨RJ2, "indexOfChar", "([BIII)I"⟩
abbrev cJ2_indexOfCharUnsafe_4cfef : ByteArray := prog_13_method_48_code
def yJ2_indexOfCharUnsafe_4cfef : MethodName := ⟨RJ2, "indexOfCharUnsafe", "([BIII)I"⟩
abbrev cJ2_indexOfSupplementary_4cfef : ByteArray := prog_13_method_49_code
def yJ2_indexOfSupplementary_4cfef : MethodName := ⟨RJ2, "indexOfSupplementary", "([BIII)I"⟩
abbrev cJ2_charAt_3b067 : ByteArray := prog_13_method_83_code
def yJ2_charAt_3b067 : MethodName := ⟨RJ2, "charAt", "([BI)C"⟩
abbrev cJ2_checkIndex_2214a : ByteArray := prog_13_method_91_code
def yJ2_checkIndex_2214a : MethodName := ⟨RJ2, "checkIndex", "(I[B)V"⟩
abbrev cJ2_checkBoundsBeginEnd_d044e : ByteArray := prog_13_method_93_code
def yJ2_checkBoundsBeginEnd_d044e : MethodName := ⟨RJ2, "checkBoundsBeginEnd", "(II[B)V"⟩
def RJ10 : String := "java/lang/System"
def TJ10 : u_T := fun k => match k with
  | _ => ("", "", "", false)
def RJ3 : String := "jdk/internal/util/Preconditions"
def TJ3 : u_T := fun k => match k with
  | _ => ("", "", "", false)
abbrev cJ3_checkIndex_8e157 : ByteArray := prog_15_method_11_code
def yJ3_checkIndex_8e157 : MethodName := ⟨RJ3, "checkIndex", "(IILjava/util/function/BiFunction;)I"⟩
abbrev cJ3_checkFromToIndex_8c36e : ByteArray := prog_15_method_12_code
def yJ3_checkFromToIndex_8c36e : MethodName := ⟨RJ3, "checkFromToIndex", "(IIILjava/util/function/BiFunction;)I"⟩
def RL : String := "BothHandsFullLaw"
abbrev cL_law : ByteArray := code
def yL_law : MethodName := ⟨RL, "law", "([I)Z"⟩
abbrev vwCl : List vw_C := [(RX0, TX0, 13), (RX1, TX1, 14), (RX2, TX2, 3), (RX3, TX3, 7), (RX4, TX4, 4), (RX5, TX5, 10), (RX6, TX6, 54)]
