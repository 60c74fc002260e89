section
-- ===== PART A: goes FIRST, ahead of the names: the tables' words, and 'selects' of the private methods out of them =====
/-- a private method of a class that the tables say can be made, by its rows of tables_1 -/
def lw_okq (q : MethodName × Nat) : Prop := (q.1.cls ≠ "java/lang/invoke/MethodHandle" ∧ q.1.cls ≠ "java/lang/invoke/VarHandle") ∧ Cond.instantiable q.1.cls q.2 ∈ tables_1 ∧ Cond.privateMethod q.1 ∈ tables_1 ∧ Cond.instanceMethod q.1 ∈ tables_1
theorem lw_p0 : lw_okq (⟨"SoftCosts$Reader", "readItem", "(LSoftCosts$Text;LSoftCosts$Costs;)Z"⟩, 2) := ⟨⟨by decide +kernel, by decide +kernel⟩, List.mem_of_getElem? (i := 53) (by decide +kernel), List.mem_of_getElem? (i := 270) (by decide +kernel), List.mem_of_getElem? (i := 271) (by decide +kernel)⟩
theorem lw_p1 : lw_okq (⟨"SoftCosts$Reader", "readNumbers", "(LSoftCosts$Text;I)Z"⟩, 2) := ⟨⟨by decide +kernel, by decide +kernel⟩, List.mem_of_getElem? (i := 53) (by decide +kernel), List.mem_of_getElem? (i := 285) (by decide +kernel), List.mem_of_getElem? (i := 286) (by decide +kernel)⟩
theorem lw_p2 : lw_okq (⟨"SoftCosts$Reader", "readNumber", "(LSoftCosts$Text;I)Z"⟩, 2) := ⟨⟨by decide +kernel, by decide +kernel⟩, List.mem_of_getElem? (i := 53) (by decide +kernel), List.mem_of_getElem? (i := 289) (by decide +kernel), List.mem_of_getElem? (i := 290) (by decide +kernel)⟩
theorem lw_p3 : lw_okq (⟨"SoftCosts$Reader", "tell", "(ILSoftCosts$Costs;)Z"⟩, 2) := ⟨⟨by decide +kernel, by decide +kernel⟩, List.mem_of_getElem? (i := 53) (by decide +kernel), List.mem_of_getElem? (i := 297) (by decide +kernel), List.mem_of_getElem? (i := 298) (by decide +kernel)⟩
theorem lw_p4 : lw_okq (⟨"SoftCosts$Costs", "setSingle", "(III)V"⟩, 7) := ⟨⟨by decide +kernel, by decide +kernel⟩, List.mem_of_getElem? (i := 68) (by decide +kernel), List.mem_of_getElem? (i := 320) (by decide +kernel), List.mem_of_getElem? (i := 321) (by decide +kernel)⟩
theorem lw_p5 : lw_okq (⟨"SoftCosts$Costs", "isJoined", "(II)Z"⟩, 7) := ⟨⟨by decide +kernel, by decide +kernel⟩, List.mem_of_getElem? (i := 68) (by decide +kernel), List.mem_of_getElem? (i := 335) (by decide +kernel), List.mem_of_getElem? (i := 336) (by decide +kernel)⟩
theorem lw_p6 : lw_okq (⟨"SoftCosts$Costs", "setPair", "(IIII)V"⟩, 7) := ⟨⟨by decide +kernel, by decide +kernel⟩, List.mem_of_getElem? (i := 68) (by decide +kernel), List.mem_of_getElem? (i := 350) (by decide +kernel), List.mem_of_getElem? (i := 351) (by decide +kernel)⟩
theorem lw_p7 : lw_okq (⟨"SoftCosts$Costs", "enlarge", "(II)V"⟩, 7) := ⟨⟨by decide +kernel, by decide +kernel⟩, List.mem_of_getElem? (i := 68) (by decide +kernel), List.mem_of_getElem? (i := 540) (by decide +kernel), List.mem_of_getElem? (i := 541) (by decide +kernel)⟩
theorem lw_p8 : lw_okq (⟨"SoftCosts$Costs", "lessen", "(II)V"⟩, 7) := ⟨⟨by decide +kernel, by decide +kernel⟩, List.mem_of_getElem? (i := 68) (by decide +kernel), List.mem_of_getElem? (i := 575) (by decide +kernel), List.mem_of_getElem? (i := 576) (by decide +kernel)⟩
theorem lw_p9 : lw_okq (⟨"SoftCosts$Sweeps", "doDirected", "(LSoftCosts$Costs;)V"⟩, 3) := ⟨⟨by decide +kernel, by decide +kernel⟩, List.mem_of_getElem? (i := 100) (by decide +kernel), List.mem_of_getElem? (i := 624) (by decide +kernel), List.mem_of_getElem? (i := 625) (by decide +kernel)⟩
theorem lw_p10 : lw_okq (⟨"SoftCosts$Sweeps", "direct", "(LSoftCosts$Costs;I)V"⟩, 3) := ⟨⟨by decide +kernel, by decide +kernel⟩, List.mem_of_getElem? (i := 100) (by decide +kernel), List.mem_of_getElem? (i := 630) (by decide +kernel), List.mem_of_getElem? (i := 631) (by decide +kernel)⟩
theorem lw_p11 : lw_okq (⟨"SoftCosts$Sweeps", "needOf", "(LSoftCosts$Costs;II)I"⟩, 3) := ⟨⟨by decide +kernel, by decide +kernel⟩, List.mem_of_getElem? (i := 100) (by decide +kernel), List.mem_of_getElem? (i := 647) (by decide +kernel), List.mem_of_getElem? (i := 648) (by decide +kernel)⟩
theorem lw_p12 : lw_okq (⟨"SoftCosts$Search", "goOn", "(LSoftCosts$Costs;II)V"⟩, 11) := ⟨⟨by decide +kernel, by decide +kernel⟩, List.mem_of_getElem? (i := 137) (by decide +kernel), List.mem_of_getElem? (i := 711) (by decide +kernel), List.mem_of_getElem? (i := 712) (by decide +kernel)⟩
theorem lw_p13 : lw_okq (⟨"SoftCosts$Search", "note", "(LSoftCosts$Costs;I)V"⟩, 11) := ⟨⟨by decide +kernel, by decide +kernel⟩, List.mem_of_getElem? (i := 137) (by decide +kernel), List.mem_of_getElem? (i := 716) (by decide +kernel), List.mem_of_getElem? (i := 717) (by decide +kernel)⟩
theorem lw_p14 : lw_okq (⟨"SoftCosts$Search", "chosenBits", "(I)I"⟩, 11) := ⟨⟨by decide +kernel, by decide +kernel⟩, List.mem_of_getElem? (i := 137) (by decide +kernel), List.mem_of_getElem? (i := 720) (by decide +kernel), List.mem_of_getElem? (i := 721) (by decide +kernel)⟩
theorem lw_p15 : lw_okq (⟨"SoftCosts$Search", "take", "(LSoftCosts$Costs;III)V"⟩, 11) := ⟨⟨by decide +kernel, by decide +kernel⟩, List.mem_of_getElem? (i := 137) (by decide +kernel), List.mem_of_getElem? (i := 728) (by decide +kernel), List.mem_of_getElem? (i := 729) (by decide +kernel)⟩
def lw_privs_1 : List (MethodName × Nat) := [(⟨"SoftCosts$Reader", "readItem", "(LSoftCosts$Text;LSoftCosts$Costs;)Z"⟩, 2), (⟨"SoftCosts$Reader", "readNumbers", "(LSoftCosts$Text;I)Z"⟩, 2), (⟨"SoftCosts$Reader", "readNumber", "(LSoftCosts$Text;I)Z"⟩, 2), (⟨"SoftCosts$Reader", "tell", "(ILSoftCosts$Costs;)Z"⟩, 2), (⟨"SoftCosts$Costs", "setSingle", "(III)V"⟩, 7), (⟨"SoftCosts$Costs", "isJoined", "(II)Z"⟩, 7), (⟨"SoftCosts$Costs", "setPair", "(IIII)V"⟩, 7), (⟨"SoftCosts$Costs", "enlarge", "(II)V"⟩, 7), (⟨"SoftCosts$Costs", "lessen", "(II)V"⟩, 7), (⟨"SoftCosts$Sweeps", "doDirected", "(LSoftCosts$Costs;)V"⟩, 3), (⟨"SoftCosts$Sweeps", "direct", "(LSoftCosts$Costs;I)V"⟩, 3), (⟨"SoftCosts$Sweeps", "needOf", "(LSoftCosts$Costs;II)I"⟩, 3), (⟨"SoftCosts$Search", "goOn", "(LSoftCosts$Costs;II)V"⟩, 11), (⟨"SoftCosts$Search", "note", "(LSoftCosts$Costs;I)V"⟩, 11), (⟨"SoftCosts$Search", "chosenBits", "(I)I"⟩, 11), (⟨"SoftCosts$Search", "take", "(LSoftCosts$Costs;III)V"⟩, 11)]
theorem lw_r1 : ∀ q ∈ lw_privs_1, lw_okq q := List.forall_mem_cons.mpr ⟨lw_p0, List.forall_mem_cons.mpr ⟨lw_p1, List.forall_mem_cons.mpr ⟨lw_p2, List.forall_mem_cons.mpr ⟨lw_p3, List.forall_mem_cons.mpr ⟨lw_p4, List.forall_mem_cons.mpr ⟨lw_p5, List.forall_mem_cons.mpr ⟨lw_p6, List.forall_mem_cons.mpr ⟨lw_p7, List.forall_mem_cons.mpr ⟨lw_p8, List.forall_mem_cons.mpr ⟨lw_p9, List.forall_mem_cons.mpr ⟨lw_p10, List.forall_mem_cons.mpr ⟨lw_p11, List.forall_mem_cons.mpr ⟨lw_p12, List.forall_mem_cons.mpr ⟨lw_p13, List.forall_mem_cons.mpr ⟨lw_p14, List.forall_mem_cons.mpr ⟨lw_p15, fun _ h => absurd h List.not_mem_nil⟩⟩⟩⟩⟩⟩⟩⟩⟩⟩⟩⟩⟩⟩⟩⟩
theorem lw_p16 : lw_okq (⟨"SoftCosts$Trial", "goOn", "(LSoftCosts$Costs;II)V"⟩, 3) := ⟨⟨by decide +kernel, by decide +kernel⟩, List.mem_of_getElem? (i := 179) (by decide +kernel), List.mem_of_getElem? (i := 793) (by decide +kernel), List.mem_of_getElem? (i := 794) (by decide +kernel)⟩
theorem lw_p17 : lw_okq (⟨"SoftCosts$Trial", "tryValue", "(LSoftCosts$Costs;III)V"⟩, 3) := ⟨⟨by decide +kernel, by decide +kernel⟩, List.mem_of_getElem? (i := 179) (by decide +kernel), List.mem_of_getElem? (i := 799) (by decide +kernel), List.mem_of_getElem? (i := 800) (by decide +kernel)⟩
theorem lw_p18 : lw_okq (⟨"SoftCosts$Trial", "lowOf", "(LSoftCosts$Costs;II)I"⟩, 3) := ⟨⟨by decide +kernel, by decide +kernel⟩, List.mem_of_getElem? (i := 179) (by decide +kernel), List.mem_of_getElem? (i := 806) (by decide +kernel), List.mem_of_getElem? (i := 807) (by decide +kernel)⟩
theorem lw_p19 : lw_okq (⟨"SoftCosts$Trial", "leastBeside", "(LSoftCosts$Costs;II)I"⟩, 3) := ⟨⟨by decide +kernel, by decide +kernel⟩, List.mem_of_getElem? (i := 179) (by decide +kernel), List.mem_of_getElem? (i := 810) (by decide +kernel), List.mem_of_getElem? (i := 811) (by decide +kernel)⟩
theorem lw_p20 : lw_okq (⟨"SoftCostsModel", "begins", "(IIII)V"⟩, 31) := ⟨⟨by decide +kernel, by decide +kernel⟩, List.mem_of_getElem? (i := 832) (by decide +kernel), List.mem_of_getElem? (i := 838) (by decide +kernel), List.mem_of_getElem? (i := 839) (by decide +kernel)⟩
theorem lw_p21 : lw_okq (⟨"SoftCostsModel", "reads", "()I"⟩, 31) := ⟨⟨by decide +kernel, by decide +kernel⟩, List.mem_of_getElem? (i := 832) (by decide +kernel), List.mem_of_getElem? (i := 948) (by decide +kernel), List.mem_of_getElem? (i := 949) (by decide +kernel)⟩
theorem lw_p22 : lw_okq (⟨"SoftCostsModel", "readsItem", "(II)Z"⟩, 31) := ⟨⟨by decide +kernel, by decide +kernel⟩, List.mem_of_getElem? (i := 832) (by decide +kernel), List.mem_of_getElem? (i := 952) (by decide +kernel), List.mem_of_getElem? (i := 953) (by decide +kernel)⟩
theorem lw_p23 : lw_okq (⟨"SoftCostsModel", "number", "(III)Z"⟩, 31) := ⟨⟨by decide +kernel, by decide +kernel⟩, List.mem_of_getElem? (i := 832) (by decide +kernel), List.mem_of_getElem? (i := 956) (by decide +kernel), List.mem_of_getElem? (i := 957) (by decide +kernel)⟩
theorem lw_p24 : lw_okq (⟨"SoftCostsModel", "letterAt", "(I)I"⟩, 31) := ⟨⟨by decide +kernel, by decide +kernel⟩, List.mem_of_getElem? (i := 832) (by decide +kernel), List.mem_of_getElem? (i := 960) (by decide +kernel), List.mem_of_getElem? (i := 961) (by decide +kernel)⟩
theorem lw_p25 : lw_okq (⟨"SoftCostsModel", "readsName", "(I)Z"⟩, 31) := ⟨⟨by decide +kernel, by decide +kernel⟩, List.mem_of_getElem? (i := 832) (by decide +kernel), List.mem_of_getElem? (i := 967) (by decide +kernel), List.mem_of_getElem? (i := 968) (by decide +kernel)⟩
theorem lw_p26 : lw_okq (⟨"SoftCostsModel", "readsSingle", "(I)Z"⟩, 31) := ⟨⟨by decide +kernel, by decide +kernel⟩, List.mem_of_getElem? (i := 832) (by decide +kernel), List.mem_of_getElem? (i := 971) (by decide +kernel), List.mem_of_getElem? (i := 972) (by decide +kernel)⟩
theorem lw_p27 : lw_okq (⟨"SoftCostsModel", "more", "(II)Z"⟩, 31) := ⟨⟨by decide +kernel, by decide +kernel⟩, List.mem_of_getElem? (i := 832) (by decide +kernel), List.mem_of_getElem? (i := 975) (by decide +kernel), List.mem_of_getElem? (i := 976) (by decide +kernel)⟩
theorem lw_p28 : lw_okq (⟨"SoftCostsModel", "readsTable", "(I)Z"⟩, 31) := ⟨⟨by decide +kernel, by decide +kernel⟩, List.mem_of_getElem? (i := 832) (by decide +kernel), List.mem_of_getElem? (i := 979) (by decide +kernel), List.mem_of_getElem? (i := 980) (by decide +kernel)⟩
theorem lw_p29 : lw_okq (⟨"SoftCostsModel", "readsPair", "(I)Z"⟩, 31) := ⟨⟨by decide +kernel, by decide +kernel⟩, List.mem_of_getElem? (i := 832) (by decide +kernel), List.mem_of_getElem? (i := 983) (by decide +kernel), List.mem_of_getElem? (i := 984) (by decide +kernel)⟩
theorem lw_p30 : lw_okq (⟨"SoftCostsModel", "sum", "(II)I"⟩, 31) := ⟨⟨by decide +kernel, by decide +kernel⟩, List.mem_of_getElem? (i := 832) (by decide +kernel), List.mem_of_getElem? (i := 991) (by decide +kernel), List.mem_of_getElem? (i := 992) (by decide +kernel)⟩
theorem lw_p31 : lw_okq (⟨"SoftCostsModel", "isName", "(I)Z"⟩, 31) := ⟨⟨by decide +kernel, by decide +kernel⟩, List.mem_of_getElem? (i := 832) (by decide +kernel), List.mem_of_getElem? (i := 999) (by decide +kernel), List.mem_of_getElem? (i := 1000) (by decide +kernel)⟩
def lw_privs_2 : List (MethodName × Nat) := [(⟨"SoftCosts$Trial", "goOn", "(LSoftCosts$Costs;II)V"⟩, 3), (⟨"SoftCosts$Trial", "tryValue", "(LSoftCosts$Costs;III)V"⟩, 3), (⟨"SoftCosts$Trial", "lowOf", "(LSoftCosts$Costs;II)I"⟩, 3), (⟨"SoftCosts$Trial", "leastBeside", "(LSoftCosts$Costs;II)I"⟩, 3), (⟨"SoftCostsModel", "begins", "(IIII)V"⟩, 31), (⟨"SoftCostsModel", "reads", "()I"⟩, 31), (⟨"SoftCostsModel", "readsItem", "(II)Z"⟩, 31), (⟨"SoftCostsModel", "number", "(III)Z"⟩, 31), (⟨"SoftCostsModel", "letterAt", "(I)I"⟩, 31), (⟨"SoftCostsModel", "readsName", "(I)Z"⟩, 31), (⟨"SoftCostsModel", "readsSingle", "(I)Z"⟩, 31), (⟨"SoftCostsModel", "more", "(II)Z"⟩, 31), (⟨"SoftCostsModel", "readsTable", "(I)Z"⟩, 31), (⟨"SoftCostsModel", "readsPair", "(I)Z"⟩, 31), (⟨"SoftCostsModel", "sum", "(II)I"⟩, 31), (⟨"SoftCostsModel", "isName", "(I)Z"⟩, 31)]
theorem lw_r2 : ∀ q ∈ lw_privs_2, lw_okq q := List.forall_mem_cons.mpr ⟨lw_p16, List.forall_mem_cons.mpr ⟨lw_p17, List.forall_mem_cons.mpr ⟨lw_p18, List.forall_mem_cons.mpr ⟨lw_p19, List.forall_mem_cons.mpr ⟨lw_p20, List.forall_mem_cons.mpr ⟨lw_p21, List.forall_mem_cons.mpr ⟨lw_p22, List.forall_mem_cons.mpr ⟨lw_p23, List.forall_mem_cons.mpr ⟨lw_p24, List.forall_mem_cons.mpr ⟨lw_p25, List.forall_mem_cons.mpr ⟨lw_p26, List.forall_mem_cons.mpr ⟨lw_p27, List.forall_mem_cons.mpr ⟨lw_p28, List.forall_mem_cons.mpr ⟨lw_p29, List.forall_mem_cons.mpr ⟨lw_p30, List.forall_mem_cons.mpr ⟨lw_p31, fun _ h => absurd h List.not_mem_nil⟩⟩⟩⟩⟩⟩⟩⟩⟩⟩⟩⟩⟩⟩⟩⟩
theorem lw_p32 : lw_okq (⟨"SoftCostsModel", "leastSingle", "(I)I"⟩, 31) := ⟨⟨by decide +kernel, by decide +kernel⟩, List.mem_of_getElem? (i := 832) (by decide +kernel), List.mem_of_getElem? (i := 1003) (by decide +kernel), List.mem_of_getElem? (i := 1004) (by decide +kernel)⟩
theorem lw_p33 : lw_okq (⟨"SoftCostsModel", "isShut", "(II)Z"⟩, 31) := ⟨⟨by decide +kernel, by decide +kernel⟩, List.mem_of_getElem? (i := 832) (by decide +kernel), List.mem_of_getElem? (i := 1007) (by decide +kernel), List.mem_of_getElem? (i := 1008) (by decide +kernel)⟩
theorem lw_p34 : lw_okq (⟨"SoftCostsModel", "isValue", "(II)Z"⟩, 31) := ⟨⟨by decide +kernel, by decide +kernel⟩, List.mem_of_getElem? (i := 832) (by decide +kernel), List.mem_of_getElem? (i := 1015) (by decide +kernel), List.mem_of_getElem? (i := 1016) (by decide +kernel)⟩
theorem lw_p35 : lw_okq (⟨"SoftCostsModel", "isTable", "(I)Z"⟩, 31) := ⟨⟨by decide +kernel, by decide +kernel⟩, List.mem_of_getElem? (i := 832) (by decide +kernel), List.mem_of_getElem? (i := 1023) (by decide +kernel), List.mem_of_getElem? (i := 1024) (by decide +kernel)⟩
theorem lw_p36 : lw_okq (⟨"SoftCostsModel", "nameOf", "(II)I"⟩, 31) := ⟨⟨by decide +kernel, by decide +kernel⟩, List.mem_of_getElem? (i := 832) (by decide +kernel), List.mem_of_getElem? (i := 1027) (by decide +kernel), List.mem_of_getElem? (i := 1028) (by decide +kernel)⟩
theorem lw_p37 : lw_okq (⟨"SoftCostsModel", "keeps", "()V"⟩, 31) := ⟨⟨by decide +kernel, by decide +kernel⟩, List.mem_of_getElem? (i := 832) (by decide +kernel), List.mem_of_getElem? (i := 1046) (by decide +kernel), List.mem_of_getElem? (i := 1047) (by decide +kernel)⟩
theorem lw_p38 : lw_okq (⟨"SoftCostsModel", "isMoved", "(IIII)Z"⟩, 31) := ⟨⟨by decide +kernel, by decide +kernel⟩, List.mem_of_getElem? (i := 832) (by decide +kernel), List.mem_of_getElem? (i := 1058) (by decide +kernel), List.mem_of_getElem? (i := 1059) (by decide +kernel)⟩
theorem lw_p39 : lw_okq (⟨"SoftCostsModel", "leastPair", "(III)I"⟩, 31) := ⟨⟨by decide +kernel, by decide +kernel⟩, List.mem_of_getElem? (i := 832) (by decide +kernel), List.mem_of_getElem? (i := 1062) (by decide +kernel), List.mem_of_getElem? (i := 1063) (by decide +kernel)⟩
theorem lw_p40 : lw_okq (⟨"SoftCostsModel", "projects", "(IIII)V"⟩, 31) := ⟨⟨by decide +kernel, by decide +kernel⟩, List.mem_of_getElem? (i := 832) (by decide +kernel), List.mem_of_getElem? (i := 1066) (by decide +kernel), List.mem_of_getElem? (i := 1067) (by decide +kernel)⟩
theorem lw_p41 : lw_okq (⟨"SoftCostsModel", "less", "(II)I"⟩, 31) := ⟨⟨by decide +kernel, by decide +kernel⟩, List.mem_of_getElem? (i := 832) (by decide +kernel), List.mem_of_getElem? (i := 1070) (by decide +kernel), List.mem_of_getElem? (i := 1071) (by decide +kernel)⟩
theorem lw_p42 : lw_okq (⟨"SoftCostsModel", "extendsBy", "(IIII)V"⟩, 31) := ⟨⟨by decide +kernel, by decide +kernel⟩, List.mem_of_getElem? (i := 832) (by decide +kernel), List.mem_of_getElem? (i := 1078) (by decide +kernel), List.mem_of_getElem? (i := 1079) (by decide +kernel)⟩
theorem lw_p43 : lw_okq (⟨"SoftCostsModel", "raises", "(II)V"⟩, 31) := ⟨⟨by decide +kernel, by decide +kernel⟩, List.mem_of_getElem? (i := 832) (by decide +kernel), List.mem_of_getElem? (i := 1086) (by decide +kernel), List.mem_of_getElem? (i := 1087) (by decide +kernel)⟩
theorem lw_p44 : lw_okq (⟨"SoftCostsModel", "sweeps", "(I)V"⟩, 31) := ⟨⟨by decide +kernel, by decide +kernel⟩, List.mem_of_getElem? (i := 832) (by decide +kernel), List.mem_of_getElem? (i := 1094) (by decide +kernel), List.mem_of_getElem? (i := 1095) (by decide +kernel)⟩
theorem lw_p45 : lw_okq (⟨"SoftCostsModel", "arcs", "(I)V"⟩, 31) := ⟨⟨by decide +kernel, by decide +kernel⟩, List.mem_of_getElem? (i := 832) (by decide +kernel), List.mem_of_getElem? (i := 1098) (by decide +kernel), List.mem_of_getElem? (i := 1099) (by decide +kernel)⟩
theorem lw_p46 : lw_okq (⟨"SoftCostsModel", "shuts", "(I)V"⟩, 31) := ⟨⟨by decide +kernel, by decide +kernel⟩, List.mem_of_getElem? (i := 832) (by decide +kernel), List.mem_of_getElem? (i := 1102) (by decide +kernel), List.mem_of_getElem? (i := 1103) (by decide +kernel)⟩
theorem lw_p47 : lw_okq (⟨"SoftCostsModel", "directs", "(I)V"⟩, 31) := ⟨⟨by decide +kernel, by decide +kernel⟩, List.mem_of_getElem? (i := 832) (by decide +kernel), List.mem_of_getElem? (i := 1106) (by decide +kernel), List.mem_of_getElem? (i := 1107) (by decide +kernel)⟩
def lw_privs_3 : List (MethodName × Nat) := [(⟨"SoftCostsModel", "leastSingle", "(I)I"⟩, 31), (⟨"SoftCostsModel", "isShut", "(II)Z"⟩, 31), (⟨"SoftCostsModel", "isValue", "(II)Z"⟩, 31), (⟨"SoftCostsModel", "isTable", "(I)Z"⟩, 31), (⟨"SoftCostsModel", "nameOf", "(II)I"⟩, 31), (⟨"SoftCostsModel", "keeps", "()V"⟩, 31), (⟨"SoftCostsModel", "isMoved", "(IIII)Z"⟩, 31), (⟨"SoftCostsModel", "leastPair", "(III)I"⟩, 31), (⟨"SoftCostsModel", "projects", "(IIII)V"⟩, 31), (⟨"SoftCostsModel", "less", "(II)I"⟩, 31), (⟨"SoftCostsModel", "extendsBy", "(IIII)V"⟩, 31), (⟨"SoftCostsModel", "raises", "(II)V"⟩, 31), (⟨"SoftCostsModel", "sweeps", "(I)V"⟩, 31), (⟨"SoftCostsModel", "arcs", "(I)V"⟩, 31), (⟨"SoftCostsModel", "shuts", "(I)V"⟩, 31), (⟨"SoftCostsModel", "directs", "(I)V"⟩, 31)]
theorem lw_r3 : ∀ q ∈ lw_privs_3, lw_okq q := List.forall_mem_cons.mpr ⟨lw_p32, List.forall_mem_cons.mpr ⟨lw_p33, List.forall_mem_cons.mpr ⟨lw_p34, List.forall_mem_cons.mpr ⟨lw_p35, List.forall_mem_cons.mpr ⟨lw_p36, List.forall_mem_cons.mpr ⟨lw_p37, List.forall_mem_cons.mpr ⟨lw_p38, List.forall_mem_cons.mpr ⟨lw_p39, List.forall_mem_cons.mpr ⟨lw_p40, List.forall_mem_cons.mpr ⟨lw_p41, List.forall_mem_cons.mpr ⟨lw_p42, List.forall_mem_cons.mpr ⟨lw_p43, List.forall_mem_cons.mpr ⟨lw_p44, List.forall_mem_cons.mpr ⟨lw_p45, List.forall_mem_cons.mpr ⟨lw_p46, List.forall_mem_cons.mpr ⟨lw_p47, fun _ h => absurd h List.not_mem_nil⟩⟩⟩⟩⟩⟩⟩⟩⟩⟩⟩⟩⟩⟩⟩⟩
theorem lw_p48 : lw_okq (⟨"SoftCostsModel", "nodes", "()V"⟩, 31) := ⟨⟨by decide +kernel, by decide +kernel⟩, List.mem_of_getElem? (i := 832) (by decide +kernel), List.mem_of_getElem? (i := 1110) (by decide +kernel), List.mem_of_getElem? (i := 1111) (by decide +kernel)⟩
theorem lw_p49 : lw_okq (⟨"SoftCostsModel", "settles", "(I)I"⟩, 31) := ⟨⟨by decide +kernel, by decide +kernel⟩, List.mem_of_getElem? (i := 832) (by decide +kernel), List.mem_of_getElem? (i := 1118) (by decide +kernel), List.mem_of_getElem? (i := 1119) (by decide +kernel)⟩
theorem lw_p50 : lw_okq (⟨"SoftCostsModel", "totalOf", "(I)I"⟩, 31) := ⟨⟨by decide +kernel, by decide +kernel⟩, List.mem_of_getElem? (i := 832) (by decide +kernel), List.mem_of_getElem? (i := 1130) (by decide +kernel), List.mem_of_getElem? (i := 1131) (by decide +kernel)⟩
theorem lw_p51 : lw_okq (⟨"SoftCostsModel", "looks", "()V"⟩, 31) := ⟨⟨by decide +kernel, by decide +kernel⟩, List.mem_of_getElem? (i := 832) (by decide +kernel), List.mem_of_getElem? (i := 1138) (by decide +kernel), List.mem_of_getElem? (i := 1139) (by decide +kernel)⟩
theorem lw_p52 : lw_okq (⟨"SoftCostsModel", "choices", "()I"⟩, 31) := ⟨⟨by decide +kernel, by decide +kernel⟩, List.mem_of_getElem? (i := 832) (by decide +kernel), List.mem_of_getElem? (i := 1142) (by decide +kernel), List.mem_of_getElem? (i := 1143) (by decide +kernel)⟩
theorem lw_p53 : lw_okq (⟨"SoftCostsModel", "takes", "(I)V"⟩, 31) := ⟨⟨by decide +kernel, by decide +kernel⟩, List.mem_of_getElem? (i := 832) (by decide +kernel), List.mem_of_getElem? (i := 1146) (by decide +kernel), List.mem_of_getElem? (i := 1147) (by decide +kernel)⟩
theorem lw_p54 : lw_okq (⟨"SoftCostsModel", "meets", "(I)V"⟩, 31) := ⟨⟨by decide +kernel, by decide +kernel⟩, List.mem_of_getElem? (i := 832) (by decide +kernel), List.mem_of_getElem? (i := 1150) (by decide +kernel), List.mem_of_getElem? (i := 1151) (by decide +kernel)⟩
theorem lw_p55 : lw_okq (⟨"SoftCostsModel", "least", "(III)I"⟩, 31) := ⟨⟨by decide +kernel, by decide +kernel⟩, List.mem_of_getElem? (i := 832) (by decide +kernel), List.mem_of_getElem? (i := 1166) (by decide +kernel), List.mem_of_getElem? (i := 1167) (by decide +kernel)⟩
theorem lw_p56 : lw_okq (⟨"SoftCostsModel", "lowOf", "(I)I"⟩, 31) := ⟨⟨by decide +kernel, by decide +kernel⟩, List.mem_of_getElem? (i := 832) (by decide +kernel), List.mem_of_getElem? (i := 1178) (by decide +kernel), List.mem_of_getElem? (i := 1179) (by decide +kernel)⟩
theorem lw_p57 : lw_okq (⟨"SoftCostsModel", "pairsWith", "(III)I"⟩, 31) := ⟨⟨by decide +kernel, by decide +kernel⟩, List.mem_of_getElem? (i := 832) (by decide +kernel), List.mem_of_getElem? (i := 1182) (by decide +kernel), List.mem_of_getElem? (i := 1183) (by decide +kernel)⟩
def lw_privs_4 : List (MethodName × Nat) := [(⟨"SoftCostsModel", "nodes", "()V"⟩, 31), (⟨"SoftCostsModel", "settles", "(I)I"⟩, 31), (⟨"SoftCostsModel", "totalOf", "(I)I"⟩, 31), (⟨"SoftCostsModel", "looks", "()V"⟩, 31), (⟨"SoftCostsModel", "choices", "()I"⟩, 31), (⟨"SoftCostsModel", "takes", "(I)V"⟩, 31), (⟨"SoftCostsModel", "meets", "(I)V"⟩, 31), (⟨"SoftCostsModel", "least", "(III)I"⟩, 31), (⟨"SoftCostsModel", "lowOf", "(I)I"⟩, 31), (⟨"SoftCostsModel", "pairsWith", "(III)I"⟩, 31)]
theorem lw_r4 : ∀ q ∈ lw_privs_4, lw_okq q := List.forall_mem_cons.mpr ⟨lw_p48, List.forall_mem_cons.mpr ⟨lw_p49, List.forall_mem_cons.mpr ⟨lw_p50, List.forall_mem_cons.mpr ⟨lw_p51, List.forall_mem_cons.mpr ⟨lw_p52, List.forall_mem_cons.mpr ⟨lw_p53, List.forall_mem_cons.mpr ⟨lw_p54, List.forall_mem_cons.mpr ⟨lw_p55, List.forall_mem_cons.mpr ⟨lw_p56, List.forall_mem_cons.mpr ⟨lw_p57, fun _ h => absurd h List.not_mem_nil⟩⟩⟩⟩⟩⟩⟩⟩⟩⟩
def lw_privs : List (MethodName × Nat) := lw_privs_1 ++ (lw_privs_2 ++ (lw_privs_3 ++ (lw_privs_4)))
def lw_tbl : List Cond := k2_sels lw_privs ++ tables_1
theorem lw_privs_ok : ∀ q ∈ lw_privs, lw_okq q := by
  show ∀ q ∈ lw_privs_1 ++ (lw_privs_2 ++ (lw_privs_3 ++ (lw_privs_4))), lw_okq q
  exact List.forall_mem_append.mpr ⟨lw_r1, List.forall_mem_append.mpr ⟨lw_r2, List.forall_mem_append.mpr ⟨lw_r3, lw_r4⟩⟩⟩
end
section
def RX0 : String := "SoftCosts$Costs"
def TX0 : u_T := fun k => match k with
  | 0 => ("SoftCosts$Costs", "sizes", "LSoftCosts$Row;", true)
  | 1 => ("SoftCosts$Costs", "lowers", "LSoftCosts$Row;", true)
  | 2 => ("SoftCosts$Costs", "highers", "LSoftCosts$Row;", true)
  | 3 => ("SoftCosts$Costs", "costs", "LSoftCosts$Row;", true)
  | 4 => ("SoftCosts$Costs", "names", "I", false)
  | 5 => ("SoftCosts$Costs", "tables", "I", false)
  | _ => ("SoftCosts$Costs", "top", "I", false)
def tyX0 : Nat → FieldType := fun k => match k with
  | 0 => .object "SoftCosts$Row"
  | 1 => .object "SoftCosts$Row"
  | 2 => .object "SoftCosts$Row"
  | 3 => .object "SoftCosts$Row"
  | 4 => .int
  | 5 => .int
  | _ => .int
theorem nmX0 : ∀ a, a < 7 → ∀ b, b < 7 → a ≠ b → (TX0 a).2.1 ≠ (TX0 b).2.1 := by decide +kernel
theorem tyX0_ok : ∀ k, k < 7 → parseFieldDescriptor (TX0 k).2.2.1 = some (tyX0 k) := by decide +kernel
abbrev cX0_init : ByteArray := prog_2_method_1_code
def yX0_init : MethodName := ⟨RX0, "<init>", "()V"⟩
abbrev cX0_clear : ByteArray := prog_2_method_2_code
def yX0_clear : MethodName := ⟨RX0, "clear", "()V"⟩
abbrev cX0_takeAll : ByteArray := prog_2_method_3_code
def yX0_takeAll : MethodName := ⟨RX0, "takeAll", "(LSoftCosts$Costs;)V"⟩
abbrev cX0_tellTop : ByteArray := prog_2_method_4_code
def yX0_tellTop : MethodName := ⟨RX0, "tellTop", "(I)Z"⟩
abbrev cX0_addName : ByteArray := prog_2_method_5_code
def yX0_addName : MethodName := ⟨RX0, "addName", "(I)Z"⟩
abbrev cX0_tellSingle : ByteArray := prog_2_method_6_code
def yX0_tellSingle : MethodName := ⟨RX0, "tellSingle", "(III)Z"⟩
abbrev cX0_addTable : ByteArray := prog_2_method_7_code
def yX0_addTable : MethodName := ⟨RX0, "addTable", "(III)Z"⟩
abbrev cX0_isJoined : ByteArray := prog_2_method_8_code
def yX0_isJoined : MethodName := ⟨RX0, "isJoined", "(II)Z"⟩
abbrev cX0_tellPair : ByteArray := prog_2_method_9_code
def yX0_tellPair : MethodName := ⟨RX0, "tellPair", "(IIII)Z"⟩
abbrev cX0_keepToTop : ByteArray := prog_2_method_10_code
def yX0_keepToTop : MethodName := ⟨RX0, "keepToTop", "()V"⟩
abbrev cX0_names : ByteArray := prog_2_method_11_code
def yX0_names : MethodName := ⟨RX0, "names", "()I"⟩
abbrev cX0_tables : ByteArray := prog_2_method_12_code
def yX0_tables : MethodName := ⟨RX0, "tables", "()I"⟩
abbrev cX0_top : ByteArray := prog_2_method_13_code
def yX0_top : MethodName := ⟨RX0, "top", "()I"⟩
abbrev cX0_hasName : ByteArray := prog_2_method_14_code
def yX0_hasName : MethodName := ⟨RX0, "hasName", "(I)Z"⟩
abbrev cX0_hasValue : ByteArray := prog_2_method_15_code
def yX0_hasValue : MethodName := ⟨RX0, "hasValue", "(II)Z"⟩
abbrev cX0_hasTable : ByteArray := prog_2_method_16_code
def yX0_hasTable : MethodName := ⟨RX0, "hasTable", "(I)Z"⟩
abbrev cX0_hasValueOn : ByteArray := prog_2_method_17_code
def yX0_hasValueOn : MethodName := ⟨RX0, "hasValueOn", "(III)Z"⟩
abbrev cX0_hasPair : ByteArray := prog_2_method_18_code
def yX0_hasPair : MethodName := ⟨RX0, "hasPair", "(III)Z"⟩
abbrev cX0_valuesOf : ByteArray := prog_2_method_19_code
def yX0_valuesOf : MethodName := ⟨RX0, "valuesOf", "(I)I"⟩
abbrev cX0_nameOn : ByteArray := prog_2_method_20_code
def yX0_nameOn : MethodName := ⟨RX0, "nameOn", "(II)I"⟩
abbrev cX0_valuesOn : ByteArray := prog_2_method_21_code
def yX0_valuesOn : MethodName := ⟨RX0, "valuesOn", "(II)I"⟩
abbrev cX0_tablesOf : ByteArray := prog_2_method_22_code
def yX0_tablesOf : MethodName := ⟨RX0, "tablesOf", "(I)I"⟩
abbrev cX0_constant : ByteArray := prog_2_method_23_code
def yX0_constant : MethodName := ⟨RX0, "constant", "()I"⟩
abbrev cX0_singleCost : ByteArray := prog_2_method_24_code
def yX0_singleCost : MethodName := ⟨RX0, "singleCost", "(II)I"⟩
abbrev cX0_pairCost : ByteArray := prog_2_method_25_code
def yX0_pairCost : MethodName := ⟨RX0, "pairCost", "(III)I"⟩
abbrev cX0_singleAt : ByteArray := prog_2_method_26_code
def yX0_singleAt : MethodName := ⟨RX0, "singleAt", "(II)I"⟩
abbrev cX0_pairAt : ByteArray := prog_2_method_27_code
def yX0_pairAt : MethodName := ⟨RX0, "pairAt", "(III)I"⟩
abbrev cX0_pairFrom : ByteArray := prog_2_method_28_code
def yX0_pairFrom : MethodName := ⟨RX0, "pairFrom", "(IIII)I"⟩
abbrev cX0_acrossFrom : ByteArray := prog_2_method_29_code
def yX0_acrossFrom : MethodName := ⟨RX0, "acrossFrom", "(I)I"⟩
abbrev cX0_leastSingle : ByteArray := prog_2_method_30_code
def yX0_leastSingle : MethodName := ⟨RX0, "leastSingle", "(I)I"⟩
abbrev cX0_leastPairOf : ByteArray := prog_2_method_31_code
def yX0_leastPairOf : MethodName := ⟨RX0, "leastPairOf", "(III)I"⟩
abbrev cX0_leastOfTable : ByteArray := prog_2_method_32_code
def yX0_leastOfTable : MethodName := ⟨RX0, "leastOfTable", "(I)I"⟩
abbrev cX0_greatestOfTable : ByteArray := prog_2_method_33_code
def yX0_greatestOfTable : MethodName := ⟨RX0, "greatestOfTable", "(I)I"⟩
abbrev cX0_isShut : ByteArray := prog_2_method_34_code
def yX0_isShut : MethodName := ⟨RX0, "isShut", "(II)Z"⟩
abbrev cX0_shutOf : ByteArray := prog_2_method_35_code
def yX0_shutOf : MethodName := ⟨RX0, "shutOf", "(I)I"⟩
abbrev cX0_shutInAll : ByteArray := prog_2_method_36_code
def yX0_shutInAll : MethodName := ⟨RX0, "shutInAll", "()I"⟩
abbrev cX0_sum : ByteArray := prog_2_method_37_code
def yX0_sum : MethodName := ⟨RX0, "sum", "(II)I"⟩
abbrev cX0_costBeside : ByteArray := prog_2_method_38_code
def yX0_costBeside : MethodName := ⟨RX0, "costBeside", "(LSoftCosts$Row;IIII)I"⟩
abbrev cX0_totalOf : ByteArray := prog_2_method_39_code
def yX0_totalOf : MethodName := ⟨RX0, "totalOf", "(LSoftCosts$Row;)I"⟩
abbrev cX0_copyTo : ByteArray := prog_2_method_40_code
def yX0_copyTo : MethodName := ⟨RX0, "copyTo", "(LSoftCosts$Row;)V"⟩
abbrev cX0_copyFrom : ByteArray := prog_2_method_41_code
def yX0_copyFrom : MethodName := ⟨RX0, "copyFrom", "(LSoftCosts$Row;)V"⟩
abbrev cX0_areAs : ByteArray := prog_2_method_42_code
def yX0_areAs : MethodName := ⟨RX0, "areAs", "(LSoftCosts$Row;)Z"⟩
abbrev cX0_setSingle : ByteArray := prog_2_method_43_code
def yX0_setSingle : MethodName := ⟨RX0, "setSingle", "(III)V"⟩
abbrev cX0_setPair : ByteArray := prog_2_method_44_code
def yX0_setPair : MethodName := ⟨RX0, "setPair", "(IIII)V"⟩
abbrev cX0_lessen : ByteArray := prog_2_method_45_code
def yX0_lessen : MethodName := ⟨RX0, "lessen", "(II)V"⟩
abbrev cX0_enlarge : ByteArray := prog_2_method_46_code
def yX0_enlarge : MethodName := ⟨RX0, "enlarge", "(II)V"⟩
abbrev cX0_growSingle : ByteArray := prog_2_method_47_code
def yX0_growSingle : MethodName := ⟨RX0, "growSingle", "(III)V"⟩
abbrev cX0_moveToValue : ByteArray := prog_2_method_48_code
def yX0_moveToValue : MethodName := ⟨RX0, "moveToValue", "(IIII)V"⟩
abbrev cX0_moveToTable : ByteArray := prog_2_method_49_code
def yX0_moveToTable : MethodName := ⟨RX0, "moveToTable", "(IIII)V"⟩
abbrev cX0_moveToConstant : ByteArray := prog_2_method_50_code
def yX0_moveToConstant : MethodName := ⟨RX0, "moveToConstant", "(II)V"⟩
abbrev cX0_topShutSingles : ByteArray := prog_2_method_51_code
def yX0_topShutSingles : MethodName := ⟨RX0, "topShutSingles", "(I)V"⟩
abbrev cX0_topPairsOfTopSingles : ByteArray := prog_2_method_52_code
def yX0_topPairsOfTopSingles : MethodName := ⟨RX0, "topPairsOfTopSingles", "(I)V"⟩
def RX1 : String := "SoftCosts$History"
def TX1 : u_T := fun k => match k with
  | 0 => ("SoftCosts$History", "kept", "[LSoftCosts$Row;", true)
  | 1 => ("SoftCosts$History", "slot", "I", false)
  | _ => ("SoftCosts$History", "size", "I", false)
def tyX1 : Nat → FieldType := fun k => match k with
  | 0 => .array (.object "SoftCosts$Row")
  | 1 => .int
  | _ => .int
theorem nmX1 : ∀ a, a < 3 → ∀ b, b < 3 → a ≠ b → (TX1 a).2.1 ≠ (TX1 b).2.1 := by decide +kernel
theorem tyX1_ok : ∀ k, k < 3 → parseFieldDescriptor (TX1 k).2.2.1 = some (tyX1 k) := by decide +kernel
abbrev cX1_init : ByteArray := prog_3_method_1_code
def yX1_init : MethodName := ⟨RX1, "<init>", "()V"⟩
abbrev cX1_size : ByteArray := prog_3_method_2_code
def yX1_size : MethodName := ⟨RX1, "size", "()I"⟩
abbrev cX1_clear : ByteArray := prog_3_method_3_code
def yX1_clear : MethodName := ⟨RX1, "clear", "()V"⟩
abbrev cX1_keep : ByteArray := prog_3_method_4_code
def yX1_keep : MethodName := ⟨RX1, "keep", "(LSoftCosts$Costs;)V"⟩
abbrev cX1_giveBack : ByteArray := prog_3_method_5_code
def yX1_giveBack : MethodName := ⟨RX1, "giveBack", "(LSoftCosts$Costs;)Z"⟩
def RX2 : String := "SoftCosts$Reader"
def TX2 : u_T := fun k => match k with
  | 0 => ("SoftCosts$Reader", "numbers", "LSoftCosts$Row;", true)
  | _ => ("SoftCosts$Reader", "place", "I", false)
def tyX2 : Nat → FieldType := fun k => match k with
  | 0 => .object "SoftCosts$Row"
  | _ => .int
theorem nmX2 : ∀ a, a < 2 → ∀ b, b < 2 → a ≠ b → (TX2 a).2.1 ≠ (TX2 b).2.1 := by decide +kernel
theorem tyX2_ok : ∀ k, k < 2 → parseFieldDescriptor (TX2 k).2.2.1 = some (tyX2 k) := by decide +kernel
abbrev cX2_init : ByteArray := prog_4_method_1_code
def yX2_init : MethodName := ⟨RX2, "<init>", "()V"⟩
abbrev cX2_readAll : ByteArray := prog_4_method_2_code
def yX2_readAll : MethodName := ⟨RX2, "readAll", "(LSoftCosts$Text;LSoftCosts$Costs;)I"⟩
abbrev cX2_readItem : ByteArray := prog_4_method_3_code
def yX2_readItem : MethodName := ⟨RX2, "readItem", "(LSoftCosts$Text;LSoftCosts$Costs;)Z"⟩
abbrev cX2_numbersOf : ByteArray := prog_4_method_4_code
def yX2_numbersOf : MethodName := ⟨RX2, "numbersOf", "(I)I"⟩
abbrev cX2_readNumbers : ByteArray := prog_4_method_5_code
def yX2_readNumbers : MethodName := ⟨RX2, "readNumbers", "(LSoftCosts$Text;I)Z"⟩
abbrev cX2_readNumber : ByteArray := prog_4_method_6_code
def yX2_readNumber : MethodName := ⟨RX2, "readNumber", "(LSoftCosts$Text;I)Z"⟩
abbrev cX2_isFigure : ByteArray := prog_4_method_7_code
def yX2_isFigure : MethodName := ⟨RX2, "isFigure", "(I)Z"⟩
abbrev cX2_tell : ByteArray := prog_4_method_8_code
def yX2_tell : MethodName := ⟨RX2, "tell", "(ILSoftCosts$Costs;)Z"⟩
def RX3 : String := "SoftCosts$Row"
def TX3 : u_T := fun k => match k with
  | _ => ("SoftCosts$Row", "numbers", "[I", true)
def tyX3 : Nat → FieldType := fun k => match k with
  | _ => .array .int
theorem nmX3 : ∀ a, a < 1 → ∀ b, b < 1 → a ≠ b → (TX3 a).2.1 ≠ (TX3 b).2.1 := by decide +kernel
theorem tyX3_ok : ∀ k, k < 1 → parseFieldDescriptor (TX3 k).2.2.1 = some (tyX3 k) := by decide +kernel
abbrev cX3_init : ByteArray := prog_5_method_1_code
def yX3_init : MethodName := ⟨RX3, "<init>", "(I)V"⟩
abbrev cX3_get : ByteArray := prog_5_method_2_code
def yX3_get : MethodName := ⟨RX3, "get", "(I)I"⟩
abbrev cX3_set : ByteArray := prog_5_method_3_code
def yX3_set : MethodName := ⟨RX3, "set", "(II)V"⟩
abbrev cX3_clear : ByteArray := prog_5_method_4_code
def yX3_clear : MethodName := ⟨RX3, "clear", "()V"⟩
abbrev cX3_takeFrom : ByteArray := prog_5_method_5_code
def yX3_takeFrom : MethodName := ⟨RX3, "takeFrom", "(LSoftCosts$Row;)V"⟩
abbrev cX3_isLike : ByteArray := prog_5_method_6_code
def yX3_isLike : MethodName := ⟨RX3, "isLike", "(LSoftCosts$Row;)Z"⟩
def RX4 : String := "SoftCosts$Search"
def TX4 : u_T := fun k => match k with
  | 0 => ("SoftCosts$Search", "choice", "LSoftCosts$Row;", true)
  | 1 => ("SoftCosts$Search", "first", "LSoftCosts$Row;", true)
  | 2 => ("SoftCosts$Search", "fixedName", "I", false)
  | 3 => ("SoftCosts$Search", "fixedValue", "I", false)
  | 4 => ("SoftCosts$Search", "leftOut", "I", false)
  | 5 => ("SoftCosts$Search", "limit", "I", false)
  | 6 => ("SoftCosts$Search", "least", "I", false)
  | 7 => ("SoftCosts$Search", "second", "I", false)
  | 8 => ("SoftCosts$Search", "ways", "I", false)
  | 9 => ("SoftCosts$Search", "below", "I", false)
  | _ => ("SoftCosts$Search", "common", "I", false)
def tyX4 : Nat → FieldType := fun k => match k with
  | 0 => .object "SoftCosts$Row"
  | 1 => .object "SoftCosts$Row"
  | 2 => .int
  | 3 => .int
  | 4 => .int
  | 5 => .int
  | 6 => .int
  | 7 => .int
  | 8 => .int
  | 9 => .int
  | _ => .int
theorem nmX4 : ∀ a, a < 11 → ∀ b, b < 11 → a ≠ b → (TX4 a).2.1 ≠ (TX4 b).2.1 := by decide +kernel
theorem tyX4_ok : ∀ k, k < 11 → parseFieldDescriptor (TX4 k).2.2.1 = some (tyX4 k) := by decide +kernel
abbrev cX4_init : ByteArray := prog_6_method_1_code
def yX4_init : MethodName := ⟨RX4, "<init>", "()V"⟩
abbrev cX4_goThrough : ByteArray := prog_6_method_2_code
def yX4_goThrough : MethodName := ⟨RX4, "goThrough", "(LSoftCosts$Costs;III)V"⟩
abbrev cX4_goOn : ByteArray := prog_6_method_3_code
def yX4_goOn : MethodName := ⟨RX4, "goOn", "(LSoftCosts$Costs;II)V"⟩
abbrev cX4_take : ByteArray := prog_6_method_4_code
def yX4_take : MethodName := ⟨RX4, "take", "(LSoftCosts$Costs;III)V"⟩
abbrev cX4_note : ByteArray := prog_6_method_5_code
def yX4_note : MethodName := ⟨RX4, "note", "(LSoftCosts$Costs;I)V"⟩
abbrev cX4_chosenBits : ByteArray := prog_6_method_6_code
def yX4_chosenBits : MethodName := ⟨RX4, "chosenBits", "(I)I"⟩
abbrev cX4_hasFound : ByteArray := prog_6_method_7_code
def yX4_hasFound : MethodName := ⟨RX4, "hasFound", "()Z"⟩
abbrev cX4_hasSecond : ByteArray := prog_6_method_8_code
def yX4_hasSecond : MethodName := ⟨RX4, "hasSecond", "()Z"⟩
abbrev cX4_leastTotal : ByteArray := prog_6_method_9_code
def yX4_leastTotal : MethodName := ⟨RX4, "leastTotal", "()I"⟩
abbrev cX4_waysOfLeast : ByteArray := prog_6_method_10_code
def yX4_waysOfLeast : MethodName := ⟨RX4, "waysOfLeast", "()I"⟩
abbrev cX4_secondTotal : ByteArray := prog_6_method_11_code
def yX4_secondTotal : MethodName := ⟨RX4, "secondTotal", "()I"⟩
abbrev cX4_choicesBelowTop : ByteArray := prog_6_method_12_code
def yX4_choicesBelowTop : MethodName := ⟨RX4, "choicesBelowTop", "()I"⟩
abbrev cX4_commonValues : ByteArray := prog_6_method_13_code
def yX4_commonValues : MethodName := ⟨RX4, "commonValues", "()I"⟩
abbrev cX4_firstValueOf : ByteArray := prog_6_method_14_code
def yX4_firstValueOf : MethodName := ⟨RX4, "firstValueOf", "(I)I"⟩
def RX5 : String := "SoftCosts$Sweeps"
def TX5 : u_T := fun k => match k with
  | 0 => ("SoftCosts$Sweeps", "ahead", "LSoftCosts$Row;", true)
  | 1 => ("SoftCosts$Sweeps", "toLower", "LSoftCosts$Row;", true)
  | _ => ("SoftCosts$Sweeps", "fromHigher", "LSoftCosts$Row;", true)
def tyX5 : Nat → FieldType := fun k => match k with
  | 0 => .object "SoftCosts$Row"
  | 1 => .object "SoftCosts$Row"
  | _ => .object "SoftCosts$Row"
theorem nmX5 : ∀ a, a < 3 → ∀ b, b < 3 → a ≠ b → (TX5 a).2.1 ≠ (TX5 b).2.1 := by decide +kernel
theorem tyX5_ok : ∀ k, k < 3 → parseFieldDescriptor (TX5 k).2.2.1 = some (tyX5 k) := by decide +kernel
abbrev cX5_init : ByteArray := prog_7_method_1_code
def yX5_init : MethodName := ⟨RX5, "<init>", "()V"⟩
abbrev cX5_doTillSettled : ByteArray := prog_7_method_2_code
def yX5_doTillSettled : MethodName := ⟨RX5, "doTillSettled", "(LSoftCosts$Costs;I)I"⟩
abbrev cX5_doOne : ByteArray := prog_7_method_3_code
def yX5_doOne : MethodName := ⟨RX5, "doOne", "(LSoftCosts$Costs;I)V"⟩
abbrev cX5_doNodes : ByteArray := prog_7_method_4_code
def yX5_doNodes : MethodName := ⟨RX5, "doNodes", "(LSoftCosts$Costs;)V"⟩
abbrev cX5_doArcs : ByteArray := prog_7_method_5_code
def yX5_doArcs : MethodName := ⟨RX5, "doArcs", "(LSoftCosts$Costs;)V"⟩
abbrev cX5_projectLeasts : ByteArray := prog_7_method_6_code
def yX5_projectLeasts : MethodName := ⟨RX5, "projectLeasts", "(LSoftCosts$Costs;II)V"⟩
abbrev cX5_doDirected : ByteArray := prog_7_method_7_code
def yX5_doDirected : MethodName := ⟨RX5, "doDirected", "(LSoftCosts$Costs;)V"⟩
abbrev cX5_direct : ByteArray := prog_7_method_8_code
def yX5_direct : MethodName := ⟨RX5, "direct", "(LSoftCosts$Costs;I)V"⟩
abbrev cX5_reachOf : ByteArray := prog_7_method_9_code
def yX5_reachOf : MethodName := ⟨RX5, "reachOf", "(LSoftCosts$Costs;II)I"⟩
abbrev cX5_needOf : ByteArray := prog_7_method_10_code
def yX5_needOf : MethodName := ⟨RX5, "needOf", "(LSoftCosts$Costs;II)I"⟩
def RX6 : String := "SoftCosts$Text"
def TX6 : u_T := fun k => match k with
  | 0 => ("SoftCosts$Text", "letters", "LSoftCosts$Row;", true)
  | _ => ("SoftCosts$Text", "length", "I", false)
def tyX6 : Nat → FieldType := fun k => match k with
  | 0 => .object "SoftCosts$Row"
  | _ => .int
theorem nmX6 : ∀ a, a < 2 → ∀ b, b < 2 → a ≠ b → (TX6 a).2.1 ≠ (TX6 b).2.1 := by decide +kernel
theorem tyX6_ok : ∀ k, k < 2 → parseFieldDescriptor (TX6 k).2.2.1 = some (tyX6 k) := by decide +kernel
abbrev cX6_init : ByteArray := prog_8_method_1_code
def yX6_init : MethodName := ⟨RX6, "<init>", "()V"⟩
abbrev cX6_length : ByteArray := prog_8_method_2_code
def yX6_length : MethodName := ⟨RX6, "length", "()I"⟩
abbrev cX6_clear : ByteArray := prog_8_method_3_code
def yX6_clear : MethodName := ⟨RX6, "clear", "()V"⟩
abbrev cX6_add : ByteArray := prog_8_method_4_code
def yX6_add : MethodName := ⟨RX6, "add", "(I)Z"⟩
abbrev cX6_letterAt : ByteArray := prog_8_method_5_code
def yX6_letterAt : MethodName := ⟨RX6, "letterAt", "(I)I"⟩
def RX7 : String := "SoftCosts$Trial"
def TX7 : u_T := fun k => match k with
  | 0 => ("SoftCosts$Trial", "choice", "LSoftCosts$Row;", true)
  | 1 => ("SoftCosts$Trial", "best", "I", false)
  | _ => ("SoftCosts$Trial", "tried", "I", false)
def tyX7 : Nat → FieldType := fun k => match k with
  | 0 => .object "SoftCosts$Row"
  | 1 => .int
  | _ => .int
theorem nmX7 : ∀ a, a < 3 → ∀ b, b < 3 → a ≠ b → (TX7 a).2.1 ≠ (TX7 b).2.1 := by decide +kernel
theorem tyX7_ok : ∀ k, k < 3 → parseFieldDescriptor (TX7 k).2.2.1 = some (tyX7 k) := by decide +kernel
abbrev cX7_init : ByteArray := prog_9_method_1_code
def yX7_init : MethodName := ⟨RX7, "<init>", "()V"⟩
abbrev cX7_countTries : ByteArray := prog_9_method_2_code
def yX7_countTries : MethodName := ⟨RX7, "countTries", "(LSoftCosts$Costs;)I"⟩
abbrev cX7_goOn : ByteArray := prog_9_method_3_code
def yX7_goOn : MethodName := ⟨RX7, "goOn", "(LSoftCosts$Costs;II)V"⟩
abbrev cX7_tryValue : ByteArray := prog_9_method_4_code
def yX7_tryValue : MethodName := ⟨RX7, "tryValue", "(LSoftCosts$Costs;III)V"⟩
abbrev cX7_lowOf : ByteArray := prog_9_method_5_code
def yX7_lowOf : MethodName := ⟨RX7, "lowOf", "(LSoftCosts$Costs;II)I"⟩
abbrev cX7_leastBeside : ByteArray := prog_9_method_6_code
def yX7_leastBeside : MethodName := ⟨RX7, "leastBeside", "(LSoftCosts$Costs;II)I"⟩
def RX8 : String := "SoftCosts"
def TX8 : u_T := fun k => match k with
  | 0 => ("SoftCosts", "text", "LSoftCosts$Text;", true)
  | 1 => ("SoftCosts", "reader", "LSoftCosts$Reader;", true)
  | 2 => ("SoftCosts", "costs", "LSoftCosts$Costs;", true)
  | 3 => ("SoftCosts", "spare", "LSoftCosts$Costs;", true)
  | 4 => ("SoftCosts", "told", "LSoftCosts$Row;", true)
  | 5 => ("SoftCosts", "sweeps", "LSoftCosts$Sweeps;", true)
  | 6 => ("SoftCosts", "history", "LSoftCosts$History;", true)
  | 7 => ("SoftCosts", "search", "LSoftCosts$Search;", true)
  | _ => ("SoftCosts", "trial", "LSoftCosts$Trial;", true)
def tyX8 : Nat → FieldType := fun k => match k with
  | 0 => .object "SoftCosts$Text"
  | 1 => .object "SoftCosts$Reader"
  | 2 => .object "SoftCosts$Costs"
  | 3 => .object "SoftCosts$Costs"
  | 4 => .object "SoftCosts$Row"
  | 5 => .object "SoftCosts$Sweeps"
  | 6 => .object "SoftCosts$History"
  | 7 => .object "SoftCosts$Search"
  | _ => .object "SoftCosts$Trial"
theorem nmX8 : ∀ a, a < 9 → ∀ b, b < 9 → a ≠ b → (TX8 a).2.1 ≠ (TX8 b).2.1 := by decide +kernel
theorem tyX8_ok : ∀ k, k < 9 → parseFieldDescriptor (TX8 k).2.2.1 = some (tyX8 k) := by decide +kernel
abbrev cX8_init : ByteArray := prog_1_method_1_code
def yX8_init : MethodName := ⟨RX8, "<init>", "()V"⟩
abbrev cX8_write : ByteArray := prog_1_method_2_code
def yX8_write : MethodName := ⟨RX8, "write", "(I)I"⟩
abbrev cX8_wipe : ByteArray := prog_1_method_3_code
def yX8_wipe : MethodName := ⟨RX8, "wipe", "()I"⟩
abbrev cX8_fault : ByteArray := prog_1_method_4_code
def yX8_fault : MethodName := ⟨RX8, "fault", "()I"⟩
abbrev cX8_lay : ByteArray := prog_1_method_5_code
def yX8_lay : MethodName := ⟨RX8, "lay", "()I"⟩
abbrev cX8_name : ByteArray := prog_1_method_6_code
def yX8_name : MethodName := ⟨RX8, "name", "(II)I"⟩
abbrev cX8_single : ByteArray := prog_1_method_7_code
def yX8_single : MethodName := ⟨RX8, "single", "(II)I"⟩
abbrev cX8_table : ByteArray := prog_1_method_8_code
def yX8_table : MethodName := ⟨RX8, "table", "(II)I"⟩
abbrev cX8_pair : ByteArray := prog_1_method_9_code
def yX8_pair : MethodName := ⟨RX8, "pair", "(III)I"⟩
abbrev cX8_grow : ByteArray := prog_1_method_10_code
def yX8_grow : MethodName := ⟨RX8, "grow", "(III)I"⟩
abbrev cX8_choose : ByteArray := prog_1_method_11_code
def yX8_choose : MethodName := ⟨RX8, "choose", "(II)I"⟩
abbrev cX8_total : ByteArray := prog_1_method_12_code
def yX8_total : MethodName := ⟨RX8, "total", "()I"⟩
abbrev cX8_project : ByteArray := prog_1_method_13_code
def yX8_project : MethodName := ⟨RX8, "project", "(IIII)I"⟩
abbrev cX8_extend : ByteArray := prog_1_method_14_code
def yX8_extend : MethodName := ⟨RX8, "extend", "(IIII)I"⟩
abbrev cX8_raise : ByteArray := prog_1_method_15_code
def yX8_raise : MethodName := ⟨RX8, "raise", "(II)I"⟩
abbrev cX8_sweep : ByteArray := prog_1_method_16_code
def yX8_sweep : MethodName := ⟨RX8, "sweep", "(II)I"⟩
abbrev cX8_settle : ByteArray := prog_1_method_17_code
def yX8_settle : MethodName := ⟨RX8, "settle", "(I)I"⟩
abbrev cX8_bound : ByteArray := prog_1_method_18_code
def yX8_bound : MethodName := ⟨RX8, "bound", "(I)I"⟩
abbrev cX8_undo : ByteArray := prog_1_method_19_code
def yX8_undo : MethodName := ⟨RX8, "undo", "()I"⟩
abbrev cX8_best : ByteArray := prog_1_method_20_code
def yX8_best : MethodName := ⟨RX8, "best", "(I)I"⟩
abbrev cX8_next : ByteArray := prog_1_method_21_code
def yX8_next : MethodName := ⟨RX8, "next", "(I)I"⟩
abbrev cX8_backbone : ByteArray := prog_1_method_22_code
def yX8_backbone : MethodName := ⟨RX8, "backbone", "()I"⟩
abbrev cX8_with : ByteArray := prog_1_method_23_code
def yX8_with : MethodName := ⟨RX8, "with", "(II)I"⟩
abbrev cX8_without : ByteArray := prog_1_method_24_code
def yX8_without : MethodName := ⟨RX8, "without", "(I)I"⟩
abbrev cX8_tries : ByteArray := prog_1_method_25_code
def yX8_tries : MethodName := ⟨RX8, "tries", "()I"⟩
abbrev cX8_count : ByteArray := prog_1_method_26_code
def yX8_count : MethodName := ⟨RX8, "count", "(I)I"⟩
abbrev cX8_isStep : ByteArray := prog_1_method_27_code
def yX8_isStep : MethodName := ⟨RX8, "isStep", "(I)Z"⟩
abbrev cX8_isSweep : ByteArray := prog_1_method_28_code
def yX8_isSweep : MethodName := ⟨RX8, "isSweep", "(I)Z"⟩
def RX9 : String := "SoftCostsModel"
def TX9 : u_T := fun k => match k with
  | 0 => ("SoftCostsModel", "length", "I", false)
  | 1 => ("SoftCostsModel", "text", "[I", true)
  | 2 => ("SoftCostsModel", "names", "I", false)
  | 3 => ("SoftCostsModel", "many", "[I", true)
  | 4 => ("SoftCostsModel", "tables", "I", false)
  | 5 => ("SoftCostsModel", "low", "[I", true)
  | 6 => ("SoftCostsModel", "high", "[I", true)
  | 7 => ("SoftCostsModel", "top", "I", false)
  | 8 => ("SoftCostsModel", "told", "[I", true)
  | 9 => ("SoftCostsModel", "cost", "[I", true)
  | 10 => ("SoftCostsModel", "was", "[I", true)
  | 11 => ("SoftCostsModel", "changes", "I", false)
  | 12 => ("SoftCostsModel", "aside", "[I", true)
  | 13 => ("SoftCostsModel", "readNames", "I", false)
  | 14 => ("SoftCostsModel", "readMany", "[I", true)
  | 15 => ("SoftCostsModel", "readTables", "I", false)
  | 16 => ("SoftCostsModel", "readLow", "[I", true)
  | 17 => ("SoftCostsModel", "readHigh", "[I", true)
  | 18 => ("SoftCostsModel", "readTop", "I", false)
  | 19 => ("SoftCostsModel", "read", "[I", true)
  | 20 => ("SoftCostsModel", "value", "I", false)
  | 21 => ("SoftCostsModel", "ends", "I", false)
  | 22 => ("SoftCostsModel", "most", "[I", true)
  | 23 => ("SoftCostsModel", "ahead", "[I", true)
  | 24 => ("SoftCostsModel", "choice", "[I", true)
  | 25 => ("SoftCostsModel", "firstBest", "[I", true)
  | 26 => ("SoftCostsModel", "bestTotal", "I", false)
  | 27 => ("SoftCostsModel", "bestMany", "I", false)
  | 28 => ("SoftCostsModel", "second", "I", false)
  | 29 => ("SoftCostsModel", "possible", "I", false)
  | _ => ("SoftCostsModel", "bones", "I", false)
def tyX9 : Nat → FieldType := fun k => match k with
  | 0 => .int
  | 1 => .array .int
  | 2 => .int
  | 3 => .array .int
  | 4 => .int
  | 5 => .array .int
  | 6 => .array .int
  | 7 => .int
  | 8 => .array .int
  | 9 => .array .int
  | 10 => .array .int
  | 11 => .int
  | 12 => .array .int
  | 13 => .int
  | 14 => .array .int
  | 15 => .int
  | 16 => .array .int
  | 17 => .array .int
  | 18 => .int
  | 19 => .array .int
  | 20 => .int
  | 21 => .int
  | 22 => .array .int
  | 23 => .array .int
  | 24 => .array .int
  | 25 => .array .int
  | 26 => .int
  | 27 => .int
  | 28 => .int
  | 29 => .int
  | _ => .int
theorem nmX9 : ∀ a, a < 31 → ∀ b, b < 31 → a ≠ b → (TX9 a).2.1 ≠ (TX9 b).2.1 := by decide +kernel
theorem tyX9_ok : ∀ k, k < 31 → parseFieldDescriptor (TX9 k).2.2.1 = some (tyX9 k) := by decide +kernel
abbrev cX9_init : ByteArray := prog_11_method_1_code
def yX9_init : MethodName := ⟨RX9, "<init>", "()V"⟩
abbrev cX9_begins : ByteArray := prog_11_method_2_code
def yX9_begins : MethodName := ⟨RX9, "begins", "(IIII)V"⟩
abbrev cX9_isIn : ByteArray := prog_11_method_3_code
def yX9_isIn : MethodName := ⟨RX9, "isIn", "(III)Z"⟩
abbrev cX9_letterAt : ByteArray := prog_11_method_4_code
def yX9_letterAt : MethodName := ⟨RX9, "letterAt", "(I)I"⟩
abbrev cX9_number : ByteArray := prog_11_method_5_code
def yX9_number : MethodName := ⟨RX9, "number", "(III)Z"⟩
abbrev cX9_more : ByteArray := prog_11_method_6_code
def yX9_more : MethodName := ⟨RX9, "more", "(II)Z"⟩
abbrev cX9_readsName : ByteArray := prog_11_method_7_code
def yX9_readsName : MethodName := ⟨RX9, "readsName", "(I)Z"⟩
abbrev cX9_readsSingle : ByteArray := prog_11_method_8_code
def yX9_readsSingle : MethodName := ⟨RX9, "readsSingle", "(I)Z"⟩
abbrev cX9_readsTable : ByteArray := prog_11_method_9_code
def yX9_readsTable : MethodName := ⟨RX9, "readsTable", "(I)Z"⟩
abbrev cX9_readsPair : ByteArray := prog_11_method_10_code
def yX9_readsPair : MethodName := ⟨RX9, "readsPair", "(I)Z"⟩
abbrev cX9_readsItem : ByteArray := prog_11_method_11_code
def yX9_readsItem : MethodName := ⟨RX9, "readsItem", "(II)Z"⟩
abbrev cX9_reads : ByteArray := prog_11_method_12_code
def yX9_reads : MethodName := ⟨RX9, "reads", "()I"⟩
abbrev cX9_write : ByteArray := prog_11_method_13_code
def yX9_write : MethodName := ⟨RX9, "write", "(I)I"⟩
abbrev cX9_wipe : ByteArray := prog_11_method_14_code
def yX9_wipe : MethodName := ⟨RX9, "wipe", "()I"⟩
abbrev cX9_fault : ByteArray := prog_11_method_15_code
def yX9_fault : MethodName := ⟨RX9, "fault", "()I"⟩
abbrev cX9_lay : ByteArray := prog_11_method_16_code
def yX9_lay : MethodName := ⟨RX9, "lay", "()I"⟩
abbrev cX9_sum : ByteArray := prog_11_method_17_code
def yX9_sum : MethodName := ⟨RX9, "sum", "(II)I"⟩
abbrev cX9_less : ByteArray := prog_11_method_18_code
def yX9_less : MethodName := ⟨RX9, "less", "(II)I"⟩
abbrev cX9_isName : ByteArray := prog_11_method_19_code
def yX9_isName : MethodName := ⟨RX9, "isName", "(I)Z"⟩
abbrev cX9_isValue : ByteArray := prog_11_method_20_code
def yX9_isValue : MethodName := ⟨RX9, "isValue", "(II)Z"⟩
abbrev cX9_isTable : ByteArray := prog_11_method_21_code
def yX9_isTable : MethodName := ⟨RX9, "isTable", "(I)Z"⟩
abbrev cX9_nameOf : ByteArray := prog_11_method_22_code
def yX9_nameOf : MethodName := ⟨RX9, "nameOf", "(II)I"⟩
abbrev cX9_pairAt : ByteArray := prog_11_method_23_code
def yX9_pairAt : MethodName := ⟨RX9, "pairAt", "(IIII)I"⟩
abbrev cX9_leastSingle : ByteArray := prog_11_method_24_code
def yX9_leastSingle : MethodName := ⟨RX9, "leastSingle", "(I)I"⟩
abbrev cX9_isShut : ByteArray := prog_11_method_25_code
def yX9_isShut : MethodName := ⟨RX9, "isShut", "(II)Z"⟩
abbrev cX9_name : ByteArray := prog_11_method_26_code
def yX9_name : MethodName := ⟨RX9, "name", "(II)I"⟩
abbrev cX9_single : ByteArray := prog_11_method_27_code
def yX9_single : MethodName := ⟨RX9, "single", "(II)I"⟩
abbrev cX9_table : ByteArray := prog_11_method_28_code
def yX9_table : MethodName := ⟨RX9, "table", "(II)I"⟩
abbrev cX9_pair : ByteArray := prog_11_method_29_code
def yX9_pair : MethodName := ⟨RX9, "pair", "(III)I"⟩
abbrev cX9_keeps : ByteArray := prog_11_method_30_code
def yX9_keeps : MethodName := ⟨RX9, "keeps", "()V"⟩
abbrev cX9_undo : ByteArray := prog_11_method_31_code
def yX9_undo : MethodName := ⟨RX9, "undo", "()I"⟩
abbrev cX9_grow : ByteArray := prog_11_method_32_code
def yX9_grow : MethodName := ⟨RX9, "grow", "(III)I"⟩
abbrev cX9_choose : ByteArray := prog_11_method_33_code
def yX9_choose : MethodName := ⟨RX9, "choose", "(II)I"⟩
abbrev cX9_leastPair : ByteArray := prog_11_method_34_code
def yX9_leastPair : MethodName := ⟨RX9, "leastPair", "(III)I"⟩
abbrev cX9_projects : ByteArray := prog_11_method_35_code
def yX9_projects : MethodName := ⟨RX9, "projects", "(IIII)V"⟩
abbrev cX9_extendsBy : ByteArray := prog_11_method_36_code
def yX9_extendsBy : MethodName := ⟨RX9, "extendsBy", "(IIII)V"⟩
abbrev cX9_raises : ByteArray := prog_11_method_37_code
def yX9_raises : MethodName := ⟨RX9, "raises", "(II)V"⟩
abbrev cX9_isMoved : ByteArray := prog_11_method_38_code
def yX9_isMoved : MethodName := ⟨RX9, "isMoved", "(IIII)Z"⟩
abbrev cX9_project : ByteArray := prog_11_method_39_code
def yX9_project : MethodName := ⟨RX9, "project", "(IIII)I"⟩
abbrev cX9_extend : ByteArray := prog_11_method_40_code
def yX9_extend : MethodName := ⟨RX9, "extend", "(IIII)I"⟩
abbrev cX9_raise : ByteArray := prog_11_method_41_code
def yX9_raise : MethodName := ⟨RX9, "raise", "(II)I"⟩
abbrev cX9_nodes : ByteArray := prog_11_method_42_code
def yX9_nodes : MethodName := ⟨RX9, "nodes", "()V"⟩
abbrev cX9_shuts : ByteArray := prog_11_method_43_code
def yX9_shuts : MethodName := ⟨RX9, "shuts", "(I)V"⟩
abbrev cX9_arcs : ByteArray := prog_11_method_44_code
def yX9_arcs : MethodName := ⟨RX9, "arcs", "(I)V"⟩
abbrev cX9_directs : ByteArray := prog_11_method_45_code
def yX9_directs : MethodName := ⟨RX9, "directs", "(I)V"⟩
abbrev cX9_sweeps : ByteArray := prog_11_method_46_code
def yX9_sweeps : MethodName := ⟨RX9, "sweeps", "(I)V"⟩
abbrev cX9_sweep : ByteArray := prog_11_method_47_code
def yX9_sweep : MethodName := ⟨RX9, "sweep", "(II)I"⟩
abbrev cX9_settles : ByteArray := prog_11_method_48_code
def yX9_settles : MethodName := ⟨RX9, "settles", "(I)I"⟩
abbrev cX9_settle : ByteArray := prog_11_method_49_code
def yX9_settle : MethodName := ⟨RX9, "settle", "(I)I"⟩
abbrev cX9_bound : ByteArray := prog_11_method_50_code
def yX9_bound : MethodName := ⟨RX9, "bound", "(I)I"⟩
abbrev cX9_totalOf : ByteArray := prog_11_method_51_code
def yX9_totalOf : MethodName := ⟨RX9, "totalOf", "(I)I"⟩
abbrev cX9_total : ByteArray := prog_11_method_52_code
def yX9_total : MethodName := ⟨RX9, "total", "()I"⟩
abbrev cX9_choices : ByteArray := prog_11_method_53_code
def yX9_choices : MethodName := ⟨RX9, "choices", "()I"⟩
abbrev cX9_takes : ByteArray := prog_11_method_54_code
def yX9_takes : MethodName := ⟨RX9, "takes", "(I)V"⟩
abbrev cX9_meets : ByteArray := prog_11_method_55_code
def yX9_meets : MethodName := ⟨RX9, "meets", "(I)V"⟩
abbrev cX9_looks : ByteArray := prog_11_method_56_code
def yX9_looks : MethodName := ⟨RX9, "looks", "()V"⟩
abbrev cX9_best : ByteArray := prog_11_method_57_code
def yX9_best : MethodName := ⟨RX9, "best", "(I)I"⟩
abbrev cX9_next : ByteArray := prog_11_method_58_code
def yX9_next : MethodName := ⟨RX9, "next", "(I)I"⟩
abbrev cX9_backbone : ByteArray := prog_11_method_59_code
def yX9_backbone : MethodName := ⟨RX9, "backbone", "()I"⟩
abbrev cX9_least : ByteArray := prog_11_method_60_code
def yX9_least : MethodName := ⟨RX9, "least", "(III)I"⟩
abbrev cX9_with : ByteArray := prog_11_method_61_code
def yX9_with : MethodName := ⟨RX9, "with", "(II)I"⟩
abbrev cX9_without : ByteArray := prog_11_method_62_code
def yX9_without : MethodName := ⟨RX9, "without", "(I)I"⟩
abbrev cX9_pairsWith : ByteArray := prog_11_method_63_code
def yX9_pairsWith : MethodName := ⟨RX9, "pairsWith", "(III)I"⟩
abbrev cX9_lowOf : ByteArray := prog_11_method_64_code
def yX9_lowOf : MethodName := ⟨RX9, "lowOf", "(I)I"⟩
abbrev cX9_tries : ByteArray := prog_11_method_65_code
def yX9_tries : MethodName := ⟨RX9, "tries", "()I"⟩
abbrev cX9_count : ByteArray := prog_11_method_66_code
def yX9_count : MethodName := ⟨RX9, "count", "(I)I"⟩
def RJ6 : String := "java/lang/Integer"
def TJ6 : u_T := fun k => match k with
  | _ => ("", "", "", false)
def tyJ6 : Nat → FieldType := fun k => match k with
  | _ => .int
theorem nmJ6 : ∀ a, a < 0 → ∀ b, b < 0 → a ≠ b → (TJ6 a).2.1 ≠ (TJ6 b).2.1 := by decide +kernel
theorem tyJ6_ok : ∀ k, k < 0 → parseFieldDescriptor (TJ6 k).2.2.1 = some (tyJ6 k) := by decide +kernel
abbrev cJ6_bitCount_0f7a4 : ByteArray := prog_12_method_49_code
def yJ6_bitCount_0f7a4 : MethodName := ⟨RJ6, "bitCount", "(I)I"⟩
def RL : String := "SoftCostsLaw"
abbrev cL_law : ByteArray := code
def yL_law : MethodName := ⟨RL, "law", "([I)Z"⟩
abbrev vwCl : List vw_C := [(RX0, TX0, 7), (RX1, TX1, 3), (RX2, TX2, 2), (RX3, TX3, 1), (RX4, TX4, 11), (RX5, TX5, 3), (RX6, TX6, 2), (RX7, TX7, 3), (RX8, TX8, 9), (RX9, TX9, 31)]
end
section
theorem dX0_init_0 : decode cX0_init 0 = .ok (.aload_n 0, 1) := by decide +kernel
theorem dX0_init_1 : decode cX0_init 1 = .ok (.invokespecial 3, 3) := by decide +kernel
theorem dX0_init_4 : decode cX0_init 4 = .ok (.aload_n 0, 1) := by decide +kernel
theorem dX0_init_5 : decode cX0_init 5 = .ok (.new 9, 3) := by decide +kernel
theorem dX0_init_8 : decode cX0_init 8 = .ok (.dup, 1) := by decide +kernel
theorem dX0_init_9 : decode cX0_init 9 = .ok (.bipush 6, 2) := by decide +kernel
theorem dX0_init_11 : decode cX0_init 11 = .ok (.invokespecial 11, 3) := by decide +kernel
theorem dX0_init_14 : decode cX0_init 14 = .ok (.putfield 14, 3) := by decide +kernel
theorem dX0_init_17 : decode cX0_init 17 = .ok (.aload_n 0, 1) := by decide +kernel
theorem dX0_init_18 : decode cX0_init 18 = .ok (.new 9, 3) := by decide +kernel
theorem dX0_init_21 : decode cX0_init 21 = .ok (.dup, 1) := by decide +kernel
theorem dX0_init_22 : decode cX0_init 22 = .ok (.bipush 9, 2) := by decide +kernel
theorem dX0_init_24 : decode cX0_init 24 = .ok (.invokespecial 11, 3) := by decide +kernel
theorem dX0_init_27 : decode cX0_init 27 = .ok (.putfield 20, 3) := by decide +kernel
theorem dX0_init_30 : decode cX0_init 30 = .ok (.aload_n 0, 1) := by decide +kernel
theorem dX0_init_31 : decode cX0_init 31 = .ok (.new 9, 3) := by decide +kernel
theorem dX0_init_34 : decode cX0_init 34 = .ok (.dup, 1) := by decide +kernel
theorem dX0_init_35 : decode cX0_init 35 = .ok (.bipush 9, 2) := by decide +kernel
theorem dX0_init_37 : decode cX0_init 37 = .ok (.invokespecial 11, 3) := by decide +kernel
theorem dX0_init_40 : decode cX0_init 40 = .ok (.putfield 23, 3) := by decide +kernel
theorem dX0_init_43 : decode cX0_init 43 = .ok (.aload_n 0, 1) := by decide +kernel
theorem dX0_init_44 : decode cX0_init 44 = .ok (.new 9, 3) := by decide +kernel
theorem dX0_init_47 : decode cX0_init 47 = .ok (.dup, 1) := by decide +kernel
theorem dX0_init_48 : decode cX0_init 48 = .ok (.sipush 169, 3) := by decide +kernel
theorem dX0_init_51 : decode cX0_init 51 = .ok (.invokespecial 11, 3) := by decide +kernel
theorem dX0_init_54 : decode cX0_init 54 = .ok (.putfield 26, 3) := by decide +kernel
theorem dX0_init_57 : decode cX0_init 57 = .ok (.aload_n 0, 1) := by decide +kernel
theorem dX0_init_58 : decode cX0_init 58 = .ok (.bipush 20, 2) := by decide +kernel
theorem dX0_init_60 : decode cX0_init 60 = .ok (.putfield 29, 3) := by decide +kernel
theorem dX0_init_63 : decode cX0_init 63 = .ok (.return_, 1) := by decide +kernel
theorem dX0_clear_0 : decode cX0_clear 0 = .ok (.aload_n 0, 1) := by decide +kernel
theorem dX0_clear_1 : decode cX0_clear 1 = .ok (.iconst 0, 1) := by decide +kernel
theorem dX0_clear_2 : decode cX0_clear 2 = .ok (.putfield 33, 3) := by decide +kernel
theorem dX0_clear_5 : decode cX0_clear 5 = .ok (.aload_n 0, 1) := by decide +kernel
theorem dX0_clear_6 : decode cX0_clear 6 = .ok (.iconst 0, 1) := by decide +kernel
theorem dX0_clear_7 : decode cX0_clear 7 = .ok (.putfield 36, 3) := by decide +kernel
theorem dX0_clear_10 : decode cX0_clear 10 = .ok (.aload_n 0, 1) := by decide +kernel
theorem dX0_clear_11 : decode cX0_clear 11 = .ok (.bipush 20, 2) := by decide +kernel
theorem dX0_clear_13 : decode cX0_clear 13 = .ok (.putfield 29, 3) := by decide +kernel
theorem dX0_clear_16 : decode cX0_clear 16 = .ok (.aload_n 0, 1) := by decide +kernel
theorem dX0_clear_17 : decode cX0_clear 17 = .ok (.getfield 26, 3) := by decide +kernel
theorem dX0_clear_20 : decode cX0_clear 20 = .ok (.invokevirtual 39, 3) := by decide +kernel
theorem dX0_clear_23 : decode cX0_clear 23 = .ok (.return_, 1) := by decide +kernel
theorem dX0_takeAll_0 : decode cX0_takeAll 0 = .ok (.aload_n 0, 1) := by decide +kernel
theorem dX0_takeAll_1 : decode cX0_takeAll 1 = .ok (.aload_n 1, 1) := by decide +kernel
theorem dX0_takeAll_2 : decode cX0_takeAll 2 = .ok (.getfield 33, 3) := by decide +kernel
theorem dX0_takeAll_5 : decode cX0_takeAll 5 = .ok (.putfield 33, 3) := by decide +kernel
theorem dX0_takeAll_8 : decode cX0_takeAll 8 = .ok (.aload_n 0, 1) := by decide +kernel
theorem dX0_takeAll_9 : decode cX0_takeAll 9 = .ok (.aload_n 1, 1) := by decide +kernel
theorem dX0_takeAll_10 : decode cX0_takeAll 10 = .ok (.getfield 36, 3) := by decide +kernel
theorem dX0_takeAll_13 : decode cX0_takeAll 13 = .ok (.putfield 36, 3) := by decide +kernel
theorem dX0_takeAll_16 : decode cX0_takeAll 16 = .ok (.aload_n 0, 1) := by decide +kernel
theorem dX0_takeAll_17 : decode cX0_takeAll 17 = .ok (.aload_n 1, 1) := by decide +kernel
theorem dX0_takeAll_18 : decode cX0_takeAll 18 = .ok (.getfield 29, 3) := by decide +kernel
theorem dX0_takeAll_21 : decode cX0_takeAll 21 = .ok (.putfield 29, 3) := by decide +kernel
theorem dX0_takeAll_24 : decode cX0_takeAll 24 = .ok (.aload_n 0, 1) := by decide +kernel
theorem dX0_takeAll_25 : decode cX0_takeAll 25 = .ok (.getfield 14, 3) := by decide +kernel
theorem dX0_takeAll_28 : decode cX0_takeAll 28 = .ok (.aload_n 1, 1) := by decide +kernel
theorem dX0_takeAll_29 : decode cX0_takeAll 29 = .ok (.getfield 14, 3) := by decide +kernel
theorem dX0_takeAll_32 : decode cX0_takeAll 32 = .ok (.invokevirtual 42, 3) := by decide +kernel
theorem dX0_takeAll_35 : decode cX0_takeAll 35 = .ok (.aload_n 0, 1) := by decide +kernel
theorem dX0_takeAll_36 : decode cX0_takeAll 36 = .ok (.getfield 20, 3) := by decide +kernel
theorem dX0_takeAll_39 : decode cX0_takeAll 39 = .ok (.aload_n 1, 1) := by decide +kernel
theorem dX0_takeAll_40 : decode cX0_takeAll 40 = .ok (.getfield 20, 3) := by decide +kernel
theorem dX0_takeAll_43 : decode cX0_takeAll 43 = .ok (.invokevirtual 42, 3) := by decide +kernel
theorem dX0_takeAll_46 : decode cX0_takeAll 46 = .ok (.aload_n 0, 1) := by decide +kernel
theorem dX0_takeAll_47 : decode cX0_takeAll 47 = .ok (.getfield 23, 3) := by decide +kernel
theorem dX0_takeAll_50 : decode cX0_takeAll 50 = .ok (.aload_n 1, 1) := by decide +kernel
theorem dX0_takeAll_51 : decode cX0_takeAll 51 = .ok (.getfield 23, 3) := by decide +kernel
theorem dX0_takeAll_54 : decode cX0_takeAll 54 = .ok (.invokevirtual 42, 3) := by decide +kernel
theorem dX0_takeAll_57 : decode cX0_takeAll 57 = .ok (.aload_n 0, 1) := by decide +kernel
theorem dX0_takeAll_58 : decode cX0_takeAll 58 = .ok (.getfield 26, 3) := by decide +kernel
theorem dX0_takeAll_61 : decode cX0_takeAll 61 = .ok (.aload_n 1, 1) := by decide +kernel
theorem dX0_takeAll_62 : decode cX0_takeAll 62 = .ok (.getfield 26, 3) := by decide +kernel
theorem dX0_takeAll_65 : decode cX0_takeAll 65 = .ok (.invokevirtual 42, 3) := by decide +kernel
theorem dX0_takeAll_68 : decode cX0_takeAll 68 = .ok (.return_, 1) := by decide +kernel
theorem dX0_tellTop_0 : decode cX0_tellTop 0 = .ok (.iload_n 1, 1) := by decide +kernel
theorem dX0_tellTop_1 : decode cX0_tellTop 1 = .ok (.iconst 1, 1) := by decide +kernel
theorem dX0_tellTop_2 : decode cX0_tellTop 2 = .ok (.if_icmp .lt 9, 3) := by decide +kernel
theorem dX0_tellTop_5 : decode cX0_tellTop 5 = .ok (.iload_n 1, 1) := by decide +kernel
theorem dX0_tellTop_6 : decode cX0_tellTop 6 = .ok (.bipush 99, 2) := by decide +kernel
theorem dX0_tellTop_8 : decode cX0_tellTop 8 = .ok (.if_icmp .le 5, 3) := by decide +kernel
theorem dX0_tellTop_11 : decode cX0_tellTop 11 = .ok (.iconst 0, 1) := by decide +kernel
theorem dX0_tellTop_12 : decode cX0_tellTop 12 = .ok (.ireturn, 1) := by decide +kernel
theorem dX0_tellTop_13 : decode cX0_tellTop 13 = .ok (.aload_n 0, 1) := by decide +kernel
theorem dX0_tellTop_14 : decode cX0_tellTop 14 = .ok (.iload_n 1, 1) := by decide +kernel
theorem dX0_tellTop_15 : decode cX0_tellTop 15 = .ok (.putfield 29, 3) := by decide +kernel
theorem dX0_tellTop_18 : decode cX0_tellTop 18 = .ok (.iconst 1, 1) := by decide +kernel
theorem dX0_tellTop_19 : decode cX0_tellTop 19 = .ok (.ireturn, 1) := by decide +kernel
theorem dX0_addName_0 : decode cX0_addName 0 = .ok (.aload_n 0, 1) := by decide +kernel
theorem dX0_addName_1 : decode cX0_addName 1 = .ok (.getfield 33, 3) := by decide +kernel
theorem dX0_addName_4 : decode cX0_addName 4 = .ok (.bipush 6, 2) := by decide +kernel
theorem dX0_addName_6 : decode cX0_addName 6 = .ok (.if_icmp .ge 13, 3) := by decide +kernel
theorem dX0_addName_9 : decode cX0_addName 9 = .ok (.iload_n 1, 1) := by decide +kernel
theorem dX0_addName_10 : decode cX0_addName 10 = .ok (.iconst 2, 1) := by decide +kernel
theorem dX0_addName_11 : decode cX0_addName 11 = .ok (.if_icmp .lt 8, 3) := by decide +kernel
theorem dX0_addName_14 : decode cX0_addName 14 = .ok (.iload_n 1, 1) := by decide +kernel
theorem dX0_addName_15 : decode cX0_addName 15 = .ok (.iconst 4, 1) := by decide +kernel
theorem dX0_addName_16 : decode cX0_addName 16 = .ok (.if_icmp .le 5, 3) := by decide +kernel
theorem dX0_addName_19 : decode cX0_addName 19 = .ok (.iconst 0, 1) := by decide +kernel
theorem dX0_addName_20 : decode cX0_addName 20 = .ok (.ireturn, 1) := by decide +kernel
theorem dX0_addName_21 : decode cX0_addName 21 = .ok (.aload_n 0, 1) := by decide +kernel
theorem dX0_addName_22 : decode cX0_addName 22 = .ok (.getfield 14, 3) := by decide +kernel
theorem dX0_addName_25 : decode cX0_addName 25 = .ok (.aload_n 0, 1) := by decide +kernel
theorem dX0_addName_26 : decode cX0_addName 26 = .ok (.getfield 33, 3) := by decide +kernel
theorem dX0_addName_29 : decode cX0_addName 29 = .ok (.iload_n 1, 1) := by decide +kernel
theorem dX0_addName_30 : decode cX0_addName 30 = .ok (.invokevirtual 46, 3) := by decide +kernel
theorem dX0_addName_33 : decode cX0_addName 33 = .ok (.aload_n 0, 1) := by decide +kernel
theorem dX0_addName_34 : decode cX0_addName 34 = .ok (.dup, 1) := by decide +kernel
theorem dX0_addName_35 : decode cX0_addName 35 = .ok (.getfield 33, 3) := by decide +kernel
theorem dX0_addName_38 : decode cX0_addName 38 = .ok (.iconst 1, 1) := by decide +kernel
theorem dX0_addName_39 : decode cX0_addName 39 = .ok (.iadd, 1) := by decide +kernel
theorem dX0_addName_40 : decode cX0_addName 40 = .ok (.putfield 33, 3) := by decide +kernel
theorem dX0_addName_43 : decode cX0_addName 43 = .ok (.iconst 1, 1) := by decide +kernel
theorem dX0_addName_44 : decode cX0_addName 44 = .ok (.ireturn, 1) := by decide +kernel
theorem dX0_tellSingle_0 : decode cX0_tellSingle 0 = .ok (.aload_n 0, 1) := by decide +kernel
theorem dX0_tellSingle_1 : decode cX0_tellSingle 1 = .ok (.iload_n 1, 1) := by decide +kernel
theorem dX0_tellSingle_2 : decode cX0_tellSingle 2 = .ok (.iload_n 2, 1) := by decide +kernel
theorem dX0_tellSingle_3 : decode cX0_tellSingle 3 = .ok (.invokevirtual 50, 3) := by decide +kernel
theorem dX0_tellSingle_6 : decode cX0_tellSingle 6 = .ok (.ifCond .ne 5, 3) := by decide +kernel
theorem dX0_tellSingle_9 : decode cX0_tellSingle 9 = .ok (.iconst 0, 1) := by decide +kernel
theorem dX0_tellSingle_10 : decode cX0_tellSingle 10 = .ok (.ireturn, 1) := by decide +kernel
theorem dX0_tellSingle_11 : decode cX0_tellSingle 11 = .ok (.aload_n 0, 1) := by decide +kernel
theorem dX0_tellSingle_12 : decode cX0_tellSingle 12 = .ok (.iload_n 1, 1) := by decide +kernel
theorem dX0_tellSingle_13 : decode cX0_tellSingle 13 = .ok (.iload_n 2, 1) := by decide +kernel
theorem dX0_tellSingle_14 : decode cX0_tellSingle 14 = .ok (.iload_n 3, 1) := by decide +kernel
theorem dX0_tellSingle_15 : decode cX0_tellSingle 15 = .ok (.invokevirtual 54, 3) := by decide +kernel
theorem dX0_tellSingle_18 : decode cX0_tellSingle 18 = .ok (.iconst 1, 1) := by decide +kernel
theorem dX0_tellSingle_19 : decode cX0_tellSingle 19 = .ok (.ireturn, 1) := by decide +kernel
theorem dX0_addTable_0 : decode cX0_addTable 0 = .ok (.aload_n 0, 1) := by decide +kernel
theorem dX0_addTable_1 : decode cX0_addTable 1 = .ok (.getfield 36, 3) := by decide +kernel
theorem dX0_addTable_4 : decode cX0_addTable 4 = .ok (.bipush 9, 2) := by decide +kernel
theorem dX0_addTable_6 : decode cX0_addTable 6 = .ok (.if_icmp .ge 33, 3) := by decide +kernel
theorem dX0_addTable_9 : decode cX0_addTable 9 = .ok (.aload_n 0, 1) := by decide +kernel
theorem dX0_addTable_10 : decode cX0_addTable 10 = .ok (.iload_n 1, 1) := by decide +kernel
theorem dX0_addTable_11 : decode cX0_addTable 11 = .ok (.invokevirtual 58, 3) := by decide +kernel
theorem dX0_addTable_14 : decode cX0_addTable 14 = .ok (.ifCond .eq 25, 3) := by decide +kernel
theorem dX0_addTable_17 : decode cX0_addTable 17 = .ok (.aload_n 0, 1) := by decide +kernel
theorem dX0_addTable_18 : decode cX0_addTable 18 = .ok (.iload_n 2, 1) := by decide +kernel
theorem dX0_addTable_19 : decode cX0_addTable 19 = .ok (.invokevirtual 58, 3) := by decide +kernel
theorem dX0_addTable_22 : decode cX0_addTable 22 = .ok (.ifCond .eq 17, 3) := by decide +kernel
theorem dX0_addTable_25 : decode cX0_addTable 25 = .ok (.iload_n 1, 1) := by decide +kernel
theorem dX0_addTable_26 : decode cX0_addTable 26 = .ok (.iload_n 2, 1) := by decide +kernel
theorem dX0_addTable_27 : decode cX0_addTable 27 = .ok (.if_icmp .ge 12, 3) := by decide +kernel
theorem dX0_addTable_30 : decode cX0_addTable 30 = .ok (.aload_n 0, 1) := by decide +kernel
theorem dX0_addTable_31 : decode cX0_addTable 31 = .ok (.iload_n 1, 1) := by decide +kernel
theorem dX0_addTable_32 : decode cX0_addTable 32 = .ok (.iload_n 2, 1) := by decide +kernel
theorem dX0_addTable_33 : decode cX0_addTable 33 = .ok (.invokevirtual 62, 3) := by decide +kernel
theorem dX0_addTable_36 : decode cX0_addTable 36 = .ok (.ifCond .eq 5, 3) := by decide +kernel
theorem dX0_addTable_39 : decode cX0_addTable 39 = .ok (.iconst 0, 1) := by decide +kernel
theorem dX0_addTable_40 : decode cX0_addTable 40 = .ok (.ireturn, 1) := by decide +kernel
theorem dX0_addTable_41 : decode cX0_addTable 41 = .ok (.aload_n 0, 1) := by decide +kernel
theorem dX0_addTable_42 : decode cX0_addTable 42 = .ok (.getfield 36, 3) := by decide +kernel
theorem dX0_addTable_45 : decode cX0_addTable 45 = .ok (.istore 4, 2) := by decide +kernel
theorem dX0_addTable_47 : decode cX0_addTable 47 = .ok (.aload_n 0, 1) := by decide +kernel
theorem dX0_addTable_48 : decode cX0_addTable 48 = .ok (.getfield 20, 3) := by decide +kernel
theorem dX0_addTable_51 : decode cX0_addTable 51 = .ok (.iload 4, 2) := by decide +kernel
theorem dX0_addTable_53 : decode cX0_addTable 53 = .ok (.iload_n 1, 1) := by decide +kernel
theorem dX0_addTable_54 : decode cX0_addTable 54 = .ok (.invokevirtual 46, 3) := by decide +kernel
theorem dX0_addTable_57 : decode cX0_addTable 57 = .ok (.aload_n 0, 1) := by decide +kernel
theorem dX0_addTable_58 : decode cX0_addTable 58 = .ok (.getfield 23, 3) := by decide +kernel
theorem dX0_addTable_61 : decode cX0_addTable 61 = .ok (.iload 4, 2) := by decide +kernel
theorem dX0_addTable_63 : decode cX0_addTable 63 = .ok (.iload_n 2, 1) := by decide +kernel
theorem dX0_addTable_64 : decode cX0_addTable 64 = .ok (.invokevirtual 46, 3) := by decide +kernel
theorem dX0_addTable_67 : decode cX0_addTable 67 = .ok (.aload_n 0, 1) := by decide +kernel
theorem dX0_addTable_68 : decode cX0_addTable 68 = .ok (.dup, 1) := by decide +kernel
theorem dX0_addTable_69 : decode cX0_addTable 69 = .ok (.getfield 36, 3) := by decide +kernel
theorem dX0_addTable_72 : decode cX0_addTable 72 = .ok (.iconst 1, 1) := by decide +kernel
theorem dX0_addTable_73 : decode cX0_addTable 73 = .ok (.iadd, 1) := by decide +kernel
theorem dX0_addTable_74 : decode cX0_addTable 74 = .ok (.putfield 36, 3) := by decide +kernel
theorem dX0_addTable_77 : decode cX0_addTable 77 = .ok (.iconst 0, 1) := by decide +kernel
theorem dX0_addTable_78 : decode cX0_addTable 78 = .ok (.istore 5, 2) := by decide +kernel
theorem dX0_addTable_80 : decode cX0_addTable 80 = .ok (.iload 5, 2) := by decide +kernel
theorem dX0_addTable_82 : decode cX0_addTable 82 = .ok (.aload_n 0, 1) := by decide +kernel
theorem dX0_addTable_83 : decode cX0_addTable 83 = .ok (.iload_n 1, 1) := by decide +kernel
theorem dX0_addTable_84 : decode cX0_addTable 84 = .ok (.invokevirtual 65, 3) := by decide +kernel
theorem dX0_addTable_87 : decode cX0_addTable 87 = .ok (.aload_n 0, 1) := by decide +kernel
theorem dX0_addTable_88 : decode cX0_addTable 88 = .ok (.iload_n 2, 1) := by decide +kernel
theorem dX0_addTable_89 : decode cX0_addTable 89 = .ok (.invokevirtual 65, 3) := by decide +kernel
theorem dX0_addTable_92 : decode cX0_addTable 92 = .ok (.invokestatic 69, 3) := by decide +kernel
theorem dX0_addTable_95 : decode cX0_addTable 95 = .ok (.if_icmp .ge 20, 3) := by decide +kernel
theorem dX0_addTable_98 : decode cX0_addTable 98 = .ok (.aload_n 0, 1) := by decide +kernel
theorem dX0_addTable_99 : decode cX0_addTable 99 = .ok (.iload 4, 2) := by decide +kernel
theorem dX0_addTable_101 : decode cX0_addTable 101 = .ok (.iload 5, 2) := by decide +kernel
theorem dX0_addTable_103 : decode cX0_addTable 103 = .ok (.iload 5, 2) := by decide +kernel
theorem dX0_addTable_105 : decode cX0_addTable 105 = .ok (.iload_n 3, 1) := by decide +kernel
theorem dX0_addTable_106 : decode cX0_addTable 106 = .ok (.invokevirtual 75, 3) := by decide +kernel
theorem dX0_addTable_109 : decode cX0_addTable 109 = .ok (.iinc 5 1, 3) := by decide +kernel
theorem dX0_addTable_112 : decode cX0_addTable 112 = .ok (.goto (-32), 3) := by decide +kernel
theorem dX0_addTable_115 : decode cX0_addTable 115 = .ok (.iconst 1, 1) := by decide +kernel
theorem dX0_addTable_116 : decode cX0_addTable 116 = .ok (.ireturn, 1) := by decide +kernel
theorem dX0_isJoined_0 : decode cX0_isJoined 0 = .ok (.iconst 0, 1) := by decide +kernel
theorem dX0_isJoined_1 : decode cX0_isJoined 1 = .ok (.istore_n 3, 1) := by decide +kernel
theorem dX0_isJoined_2 : decode cX0_isJoined 2 = .ok (.iload_n 3, 1) := by decide +kernel
theorem dX0_isJoined_3 : decode cX0_isJoined 3 = .ok (.aload_n 0, 1) := by decide +kernel
theorem dX0_isJoined_4 : decode cX0_isJoined 4 = .ok (.getfield 36, 3) := by decide +kernel
theorem dX0_isJoined_7 : decode cX0_isJoined 7 = .ok (.if_icmp .ge 31, 3) := by decide +kernel
theorem dX0_isJoined_10 : decode cX0_isJoined 10 = .ok (.aload_n 0, 1) := by decide +kernel
theorem dX0_isJoined_11 : decode cX0_isJoined 11 = .ok (.iload_n 3, 1) := by decide +kernel
theorem dX0_isJoined_12 : decode cX0_isJoined 12 = .ok (.iconst 0, 1) := by decide +kernel
theorem dX0_isJoined_13 : decode cX0_isJoined 13 = .ok (.invokevirtual 79, 3) := by decide +kernel
theorem dX0_isJoined_16 : decode cX0_isJoined 16 = .ok (.iload_n 1, 1) := by decide +kernel
theorem dX0_isJoined_17 : decode cX0_isJoined 17 = .ok (.if_icmp .ne 15, 3) := by decide +kernel
theorem dX0_isJoined_20 : decode cX0_isJoined 20 = .ok (.aload_n 0, 1) := by decide +kernel
theorem dX0_isJoined_21 : decode cX0_isJoined 21 = .ok (.iload_n 3, 1) := by decide +kernel
theorem dX0_isJoined_22 : decode cX0_isJoined 22 = .ok (.iconst 1, 1) := by decide +kernel
theorem dX0_isJoined_23 : decode cX0_isJoined 23 = .ok (.invokevirtual 79, 3) := by decide +kernel
theorem dX0_isJoined_26 : decode cX0_isJoined 26 = .ok (.iload_n 2, 1) := by decide +kernel
theorem dX0_isJoined_27 : decode cX0_isJoined 27 = .ok (.if_icmp .ne 5, 3) := by decide +kernel
theorem dX0_isJoined_30 : decode cX0_isJoined 30 = .ok (.iconst 1, 1) := by decide +kernel
theorem dX0_isJoined_31 : decode cX0_isJoined 31 = .ok (.ireturn, 1) := by decide +kernel
theorem dX0_isJoined_32 : decode cX0_isJoined 32 = .ok (.iinc 3 1, 3) := by decide +kernel
theorem dX0_isJoined_35 : decode cX0_isJoined 35 = .ok (.goto (-33), 3) := by decide +kernel
theorem dX0_isJoined_38 : decode cX0_isJoined 38 = .ok (.iconst 0, 1) := by decide +kernel
theorem dX0_isJoined_39 : decode cX0_isJoined 39 = .ok (.ireturn, 1) := by decide +kernel
theorem dX0_tellPair_0 : decode cX0_tellPair 0 = .ok (.aload_n 0, 1) := by decide +kernel
theorem dX0_tellPair_1 : decode cX0_tellPair 1 = .ok (.iload_n 1, 1) := by decide +kernel
theorem dX0_tellPair_2 : decode cX0_tellPair 2 = .ok (.iload_n 2, 1) := by decide +kernel
theorem dX0_tellPair_3 : decode cX0_tellPair 3 = .ok (.iload_n 3, 1) := by decide +kernel
theorem dX0_tellPair_4 : decode cX0_tellPair 4 = .ok (.invokevirtual 82, 3) := by decide +kernel
theorem dX0_tellPair_7 : decode cX0_tellPair 7 = .ok (.ifCond .ne 5, 3) := by decide +kernel
theorem dX0_tellPair_10 : decode cX0_tellPair 10 = .ok (.iconst 0, 1) := by decide +kernel
theorem dX0_tellPair_11 : decode cX0_tellPair 11 = .ok (.ireturn, 1) := by decide +kernel
theorem dX0_tellPair_12 : decode cX0_tellPair 12 = .ok (.aload_n 0, 1) := by decide +kernel
theorem dX0_tellPair_13 : decode cX0_tellPair 13 = .ok (.iload_n 1, 1) := by decide +kernel
theorem dX0_tellPair_14 : decode cX0_tellPair 14 = .ok (.iload_n 2, 1) := by decide +kernel
theorem dX0_tellPair_15 : decode cX0_tellPair 15 = .ok (.iload_n 3, 1) := by decide +kernel
theorem dX0_tellPair_16 : decode cX0_tellPair 16 = .ok (.iload 4, 2) := by decide +kernel
theorem dX0_tellPair_18 : decode cX0_tellPair 18 = .ok (.invokevirtual 75, 3) := by decide +kernel
theorem dX0_tellPair_21 : decode cX0_tellPair 21 = .ok (.iconst 1, 1) := by decide +kernel
theorem dX0_tellPair_22 : decode cX0_tellPair 22 = .ok (.ireturn, 1) := by decide +kernel
theorem dX0_keepToTop_0 : decode cX0_keepToTop 0 = .ok (.iconst 0, 1) := by decide +kernel
theorem dX0_keepToTop_1 : decode cX0_keepToTop 1 = .ok (.istore_n 1, 1) := by decide +kernel
theorem dX0_keepToTop_2 : decode cX0_keepToTop 2 = .ok (.iload_n 1, 1) := by decide +kernel
theorem dX0_keepToTop_3 : decode cX0_keepToTop 3 = .ok (.sipush 169, 3) := by decide +kernel
theorem dX0_keepToTop_6 : decode cX0_keepToTop 6 = .ok (.if_icmp .ge 32, 3) := by decide +kernel
theorem dX0_keepToTop_9 : decode cX0_keepToTop 9 = .ok (.aload_n 0, 1) := by decide +kernel
theorem dX0_keepToTop_10 : decode cX0_keepToTop 10 = .ok (.getfield 26, 3) := by decide +kernel
theorem dX0_keepToTop_13 : decode cX0_keepToTop 13 = .ok (.iload_n 1, 1) := by decide +kernel
theorem dX0_keepToTop_14 : decode cX0_keepToTop 14 = .ok (.aload_n 0, 1) := by decide +kernel
theorem dX0_keepToTop_15 : decode cX0_keepToTop 15 = .ok (.getfield 29, 3) := by decide +kernel
theorem dX0_keepToTop_18 : decode cX0_keepToTop 18 = .ok (.aload_n 0, 1) := by decide +kernel
theorem dX0_keepToTop_19 : decode cX0_keepToTop 19 = .ok (.getfield 26, 3) := by decide +kernel
theorem dX0_keepToTop_22 : decode cX0_keepToTop 22 = .ok (.iload_n 1, 1) := by decide +kernel
theorem dX0_keepToTop_23 : decode cX0_keepToTop 23 = .ok (.invokevirtual 86, 3) := by decide +kernel
theorem dX0_keepToTop_26 : decode cX0_keepToTop 26 = .ok (.invokestatic 69, 3) := by decide +kernel
theorem dX0_keepToTop_29 : decode cX0_keepToTop 29 = .ok (.invokevirtual 46, 3) := by decide +kernel
theorem dX0_keepToTop_32 : decode cX0_keepToTop 32 = .ok (.iinc 1 1, 3) := by decide +kernel
theorem dX0_keepToTop_35 : decode cX0_keepToTop 35 = .ok (.goto (-33), 3) := by decide +kernel
theorem dX0_keepToTop_38 : decode cX0_keepToTop 38 = .ok (.return_, 1) := by decide +kernel
theorem dX0_names_0 : decode cX0_names 0 = .ok (.aload_n 0, 1) := by decide +kernel
theorem dX0_names_1 : decode cX0_names 1 = .ok (.getfield 33, 3) := by decide +kernel
theorem dX0_names_4 : decode cX0_names 4 = .ok (.ireturn, 1) := by decide +kernel
theorem dX0_tables_0 : decode cX0_tables 0 = .ok (.aload_n 0, 1) := by decide +kernel
theorem dX0_tables_1 : decode cX0_tables 1 = .ok (.getfield 36, 3) := by decide +kernel
theorem dX0_tables_4 : decode cX0_tables 4 = .ok (.ireturn, 1) := by decide +kernel
theorem dX0_top_0 : decode cX0_top 0 = .ok (.aload_n 0, 1) := by decide +kernel
theorem dX0_top_1 : decode cX0_top 1 = .ok (.getfield 29, 3) := by decide +kernel
theorem dX0_top_4 : decode cX0_top 4 = .ok (.ireturn, 1) := by decide +kernel
theorem dX0_hasName_0 : decode cX0_hasName 0 = .ok (.iload_n 1, 1) := by decide +kernel
theorem dX0_hasName_1 : decode cX0_hasName 1 = .ok (.ifCond .lt 15, 3) := by decide +kernel
theorem dX0_hasName_4 : decode cX0_hasName 4 = .ok (.iload_n 1, 1) := by decide +kernel
theorem dX0_hasName_5 : decode cX0_hasName 5 = .ok (.aload_n 0, 1) := by decide +kernel
theorem dX0_hasName_6 : decode cX0_hasName 6 = .ok (.getfield 33, 3) := by decide +kernel
theorem dX0_hasName_9 : decode cX0_hasName 9 = .ok (.if_icmp .ge 7, 3) := by decide +kernel
theorem dX0_hasName_12 : decode cX0_hasName 12 = .ok (.iconst 1, 1) := by decide +kernel
theorem dX0_hasName_13 : decode cX0_hasName 13 = .ok (.goto 4, 3) := by decide +kernel
theorem dX0_hasName_16 : decode cX0_hasName 16 = .ok (.iconst 0, 1) := by decide +kernel
theorem dX0_hasName_17 : decode cX0_hasName 17 = .ok (.ireturn, 1) := by decide +kernel
theorem dX0_hasValue_0 : decode cX0_hasValue 0 = .ok (.iload_n 1, 1) := by decide +kernel
theorem dX0_hasValue_1 : decode cX0_hasValue 1 = .ok (.ifCond .lt 31, 3) := by decide +kernel
theorem dX0_hasValue_4 : decode cX0_hasValue 4 = .ok (.iload_n 1, 1) := by decide +kernel
theorem dX0_hasValue_5 : decode cX0_hasValue 5 = .ok (.aload_n 0, 1) := by decide +kernel
theorem dX0_hasValue_6 : decode cX0_hasValue 6 = .ok (.getfield 33, 3) := by decide +kernel
theorem dX0_hasValue_9 : decode cX0_hasValue 9 = .ok (.if_icmp .ge 23, 3) := by decide +kernel
theorem dX0_hasValue_12 : decode cX0_hasValue 12 = .ok (.iload_n 2, 1) := by decide +kernel
theorem dX0_hasValue_13 : decode cX0_hasValue 13 = .ok (.ifCond .lt 19, 3) := by decide +kernel
theorem dX0_hasValue_16 : decode cX0_hasValue 16 = .ok (.iload_n 2, 1) := by decide +kernel
theorem dX0_hasValue_17 : decode cX0_hasValue 17 = .ok (.aload_n 0, 1) := by decide +kernel
theorem dX0_hasValue_18 : decode cX0_hasValue 18 = .ok (.getfield 14, 3) := by decide +kernel
theorem dX0_hasValue_21 : decode cX0_hasValue 21 = .ok (.iload_n 1, 1) := by decide +kernel
theorem dX0_hasValue_22 : decode cX0_hasValue 22 = .ok (.invokevirtual 86, 3) := by decide +kernel
theorem dX0_hasValue_25 : decode cX0_hasValue 25 = .ok (.if_icmp .ge 7, 3) := by decide +kernel
theorem dX0_hasValue_28 : decode cX0_hasValue 28 = .ok (.iconst 1, 1) := by decide +kernel
theorem dX0_hasValue_29 : decode cX0_hasValue 29 = .ok (.goto 4, 3) := by decide +kernel
theorem dX0_hasValue_32 : decode cX0_hasValue 32 = .ok (.iconst 0, 1) := by decide +kernel
theorem dX0_hasValue_33 : decode cX0_hasValue 33 = .ok (.ireturn, 1) := by decide +kernel
theorem dX0_hasTable_0 : decode cX0_hasTable 0 = .ok (.iload_n 1, 1) := by decide +kernel
theorem dX0_hasTable_1 : decode cX0_hasTable 1 = .ok (.ifCond .lt 15, 3) := by decide +kernel
theorem dX0_hasTable_4 : decode cX0_hasTable 4 = .ok (.iload_n 1, 1) := by decide +kernel
theorem dX0_hasTable_5 : decode cX0_hasTable 5 = .ok (.aload_n 0, 1) := by decide +kernel
theorem dX0_hasTable_6 : decode cX0_hasTable 6 = .ok (.getfield 36, 3) := by decide +kernel
theorem dX0_hasTable_9 : decode cX0_hasTable 9 = .ok (.if_icmp .ge 7, 3) := by decide +kernel
theorem dX0_hasTable_12 : decode cX0_hasTable 12 = .ok (.iconst 1, 1) := by decide +kernel
theorem dX0_hasTable_13 : decode cX0_hasTable 13 = .ok (.goto 4, 3) := by decide +kernel
theorem dX0_hasTable_16 : decode cX0_hasTable 16 = .ok (.iconst 0, 1) := by decide +kernel
theorem dX0_hasTable_17 : decode cX0_hasTable 17 = .ok (.ireturn, 1) := by decide +kernel
theorem dX0_hasValueOn_0 : decode cX0_hasValueOn 0 = .ok (.aload_n 0, 1) := by decide +kernel
theorem dX0_hasValueOn_1 : decode cX0_hasValueOn 1 = .ok (.iload_n 1, 1) := by decide +kernel
theorem dX0_hasValueOn_2 : decode cX0_hasValueOn 2 = .ok (.invokevirtual 89, 3) := by decide +kernel
theorem dX0_hasValueOn_5 : decode cX0_hasValueOn 5 = .ok (.ifCond .eq 30, 3) := by decide +kernel
theorem dX0_hasValueOn_8 : decode cX0_hasValueOn 8 = .ok (.iload_n 2, 1) := by decide +kernel
theorem dX0_hasValueOn_9 : decode cX0_hasValueOn 9 = .ok (.ifCond .eq 8, 3) := by decide +kernel
theorem dX0_hasValueOn_12 : decode cX0_hasValueOn 12 = .ok (.iload_n 2, 1) := by decide +kernel
theorem dX0_hasValueOn_13 : decode cX0_hasValueOn 13 = .ok (.iconst 1, 1) := by decide +kernel
theorem dX0_hasValueOn_14 : decode cX0_hasValueOn 14 = .ok (.if_icmp .ne 21, 3) := by decide +kernel
theorem dX0_hasValueOn_17 : decode cX0_hasValueOn 17 = .ok (.iload_n 3, 1) := by decide +kernel
theorem dX0_hasValueOn_18 : decode cX0_hasValueOn 18 = .ok (.ifCond .lt 17, 3) := by decide +kernel
theorem dX0_hasValueOn_21 : decode cX0_hasValueOn 21 = .ok (.iload_n 3, 1) := by decide +kernel
theorem dX0_hasValueOn_22 : decode cX0_hasValueOn 22 = .ok (.aload_n 0, 1) := by decide +kernel
theorem dX0_hasValueOn_23 : decode cX0_hasValueOn 23 = .ok (.iload_n 1, 1) := by decide +kernel
theorem dX0_hasValueOn_24 : decode cX0_hasValueOn 24 = .ok (.iload_n 2, 1) := by decide +kernel
theorem dX0_hasValueOn_25 : decode cX0_hasValueOn 25 = .ok (.invokevirtual 92, 3) := by decide +kernel
theorem dX0_hasValueOn_28 : decode cX0_hasValueOn 28 = .ok (.if_icmp .ge 7, 3) := by decide +kernel
theorem dX0_hasValueOn_31 : decode cX0_hasValueOn 31 = .ok (.iconst 1, 1) := by decide +kernel
theorem dX0_hasValueOn_32 : decode cX0_hasValueOn 32 = .ok (.goto 4, 3) := by decide +kernel
theorem dX0_hasValueOn_35 : decode cX0_hasValueOn 35 = .ok (.iconst 0, 1) := by decide +kernel
theorem dX0_hasValueOn_36 : decode cX0_hasValueOn 36 = .ok (.ireturn, 1) := by decide +kernel
theorem dX0_hasPair_0 : decode cX0_hasPair 0 = .ok (.aload_n 0, 1) := by decide +kernel
theorem dX0_hasPair_1 : decode cX0_hasPair 1 = .ok (.iload_n 1, 1) := by decide +kernel
theorem dX0_hasPair_2 : decode cX0_hasPair 2 = .ok (.invokevirtual 89, 3) := by decide +kernel
theorem dX0_hasPair_5 : decode cX0_hasPair 5 = .ok (.ifCond .eq 35, 3) := by decide +kernel
theorem dX0_hasPair_8 : decode cX0_hasPair 8 = .ok (.iload_n 2, 1) := by decide +kernel
theorem dX0_hasPair_9 : decode cX0_hasPair 9 = .ok (.ifCond .lt 31, 3) := by decide +kernel
theorem dX0_hasPair_12 : decode cX0_hasPair 12 = .ok (.iload_n 2, 1) := by decide +kernel
theorem dX0_hasPair_13 : decode cX0_hasPair 13 = .ok (.aload_n 0, 1) := by decide +kernel
theorem dX0_hasPair_14 : decode cX0_hasPair 14 = .ok (.iload_n 1, 1) := by decide +kernel
theorem dX0_hasPair_15 : decode cX0_hasPair 15 = .ok (.iconst 0, 1) := by decide +kernel
theorem dX0_hasPair_16 : decode cX0_hasPair 16 = .ok (.invokevirtual 92, 3) := by decide +kernel
theorem dX0_hasPair_19 : decode cX0_hasPair 19 = .ok (.if_icmp .ge 21, 3) := by decide +kernel
theorem dX0_hasPair_22 : decode cX0_hasPair 22 = .ok (.iload_n 3, 1) := by decide +kernel
theorem dX0_hasPair_23 : decode cX0_hasPair 23 = .ok (.ifCond .lt 17, 3) := by decide +kernel
theorem dX0_hasPair_26 : decode cX0_hasPair 26 = .ok (.iload_n 3, 1) := by decide +kernel
theorem dX0_hasPair_27 : decode cX0_hasPair 27 = .ok (.aload_n 0, 1) := by decide +kernel
theorem dX0_hasPair_28 : decode cX0_hasPair 28 = .ok (.iload_n 1, 1) := by decide +kernel
theorem dX0_hasPair_29 : decode cX0_hasPair 29 = .ok (.iconst 1, 1) := by decide +kernel
theorem dX0_hasPair_30 : decode cX0_hasPair 30 = .ok (.invokevirtual 92, 3) := by decide +kernel
theorem dX0_hasPair_33 : decode cX0_hasPair 33 = .ok (.if_icmp .ge 7, 3) := by decide +kernel
theorem dX0_hasPair_36 : decode cX0_hasPair 36 = .ok (.iconst 1, 1) := by decide +kernel
theorem dX0_hasPair_37 : decode cX0_hasPair 37 = .ok (.goto 4, 3) := by decide +kernel
theorem dX0_hasPair_40 : decode cX0_hasPair 40 = .ok (.iconst 0, 1) := by decide +kernel
theorem dX0_hasPair_41 : decode cX0_hasPair 41 = .ok (.ireturn, 1) := by decide +kernel
theorem dX0_valuesOf_0 : decode cX0_valuesOf 0 = .ok (.aload_n 0, 1) := by decide +kernel
theorem dX0_valuesOf_1 : decode cX0_valuesOf 1 = .ok (.getfield 14, 3) := by decide +kernel
theorem dX0_valuesOf_4 : decode cX0_valuesOf 4 = .ok (.iload_n 1, 1) := by decide +kernel
theorem dX0_valuesOf_5 : decode cX0_valuesOf 5 = .ok (.invokevirtual 86, 3) := by decide +kernel
theorem dX0_valuesOf_8 : decode cX0_valuesOf 8 = .ok (.ireturn, 1) := by decide +kernel
theorem dX0_nameOn_0 : decode cX0_nameOn 0 = .ok (.iload_n 2, 1) := by decide +kernel
theorem dX0_nameOn_1 : decode cX0_nameOn 1 = .ok (.ifCond .ne 14, 3) := by decide +kernel
theorem dX0_nameOn_4 : decode cX0_nameOn 4 = .ok (.aload_n 0, 1) := by decide +kernel
theorem dX0_nameOn_5 : decode cX0_nameOn 5 = .ok (.getfield 20, 3) := by decide +kernel
theorem dX0_nameOn_8 : decode cX0_nameOn 8 = .ok (.iload_n 1, 1) := by decide +kernel
theorem dX0_nameOn_9 : decode cX0_nameOn 9 = .ok (.invokevirtual 86, 3) := by decide +kernel
theorem dX0_nameOn_12 : decode cX0_nameOn 12 = .ok (.goto 11, 3) := by decide +kernel
theorem dX0_nameOn_15 : decode cX0_nameOn 15 = .ok (.aload_n 0, 1) := by decide +kernel
theorem dX0_nameOn_16 : decode cX0_nameOn 16 = .ok (.getfield 23, 3) := by decide +kernel
theorem dX0_nameOn_19 : decode cX0_nameOn 19 = .ok (.iload_n 1, 1) := by decide +kernel
theorem dX0_nameOn_20 : decode cX0_nameOn 20 = .ok (.invokevirtual 86, 3) := by decide +kernel
theorem dX0_nameOn_23 : decode cX0_nameOn 23 = .ok (.ireturn, 1) := by decide +kernel
theorem dX0_valuesOn_0 : decode cX0_valuesOn 0 = .ok (.aload_n 0, 1) := by decide +kernel
theorem dX0_valuesOn_1 : decode cX0_valuesOn 1 = .ok (.getfield 14, 3) := by decide +kernel
theorem dX0_valuesOn_4 : decode cX0_valuesOn 4 = .ok (.iload_n 2, 1) := by decide +kernel
theorem dX0_valuesOn_5 : decode cX0_valuesOn 5 = .ok (.ifCond .ne 14, 3) := by decide +kernel
theorem dX0_valuesOn_8 : decode cX0_valuesOn 8 = .ok (.aload_n 0, 1) := by decide +kernel
theorem dX0_valuesOn_9 : decode cX0_valuesOn 9 = .ok (.getfield 20, 3) := by decide +kernel
theorem dX0_valuesOn_12 : decode cX0_valuesOn 12 = .ok (.iload_n 1, 1) := by decide +kernel
theorem dX0_valuesOn_13 : decode cX0_valuesOn 13 = .ok (.invokevirtual 86, 3) := by decide +kernel
theorem dX0_valuesOn_16 : decode cX0_valuesOn 16 = .ok (.goto 11, 3) := by decide +kernel
theorem dX0_valuesOn_19 : decode cX0_valuesOn 19 = .ok (.aload_n 0, 1) := by decide +kernel
theorem dX0_valuesOn_20 : decode cX0_valuesOn 20 = .ok (.getfield 23, 3) := by decide +kernel
theorem dX0_valuesOn_23 : decode cX0_valuesOn 23 = .ok (.iload_n 1, 1) := by decide +kernel
theorem dX0_valuesOn_24 : decode cX0_valuesOn 24 = .ok (.invokevirtual 86, 3) := by decide +kernel
theorem dX0_valuesOn_27 : decode cX0_valuesOn 27 = .ok (.invokevirtual 86, 3) := by decide +kernel
theorem dX0_valuesOn_30 : decode cX0_valuesOn 30 = .ok (.ireturn, 1) := by decide +kernel
theorem dX0_tablesOf_0 : decode cX0_tablesOf 0 = .ok (.iconst 0, 1) := by decide +kernel
theorem dX0_tablesOf_1 : decode cX0_tablesOf 1 = .ok (.istore_n 2, 1) := by decide +kernel
theorem dX0_tablesOf_2 : decode cX0_tablesOf 2 = .ok (.iconst 0, 1) := by decide +kernel
theorem dX0_tablesOf_3 : decode cX0_tablesOf 3 = .ok (.istore_n 3, 1) := by decide +kernel
theorem dX0_tablesOf_4 : decode cX0_tablesOf 4 = .ok (.iload_n 3, 1) := by decide +kernel
theorem dX0_tablesOf_5 : decode cX0_tablesOf 5 = .ok (.aload_n 0, 1) := by decide +kernel
theorem dX0_tablesOf_6 : decode cX0_tablesOf 6 = .ok (.getfield 36, 3) := by decide +kernel
theorem dX0_tablesOf_9 : decode cX0_tablesOf 9 = .ok (.if_icmp .ge 35, 3) := by decide +kernel
theorem dX0_tablesOf_12 : decode cX0_tablesOf 12 = .ok (.aload_n 0, 1) := by decide +kernel
theorem dX0_tablesOf_13 : decode cX0_tablesOf 13 = .ok (.iload_n 3, 1) := by decide +kernel
theorem dX0_tablesOf_14 : decode cX0_tablesOf 14 = .ok (.iconst 0, 1) := by decide +kernel
theorem dX0_tablesOf_15 : decode cX0_tablesOf 15 = .ok (.invokevirtual 79, 3) := by decide +kernel
theorem dX0_tablesOf_18 : decode cX0_tablesOf 18 = .ok (.iload_n 1, 1) := by decide +kernel
theorem dX0_tablesOf_19 : decode cX0_tablesOf 19 = .ok (.if_icmp .eq 13, 3) := by decide +kernel
theorem dX0_tablesOf_22 : decode cX0_tablesOf 22 = .ok (.aload_n 0, 1) := by decide +kernel
theorem dX0_tablesOf_23 : decode cX0_tablesOf 23 = .ok (.iload_n 3, 1) := by decide +kernel
theorem dX0_tablesOf_24 : decode cX0_tablesOf 24 = .ok (.iconst 1, 1) := by decide +kernel
theorem dX0_tablesOf_25 : decode cX0_tablesOf 25 = .ok (.invokevirtual 79, 3) := by decide +kernel
theorem dX0_tablesOf_28 : decode cX0_tablesOf 28 = .ok (.iload_n 1, 1) := by decide +kernel
theorem dX0_tablesOf_29 : decode cX0_tablesOf 29 = .ok (.if_icmp .ne 9, 3) := by decide +kernel
theorem dX0_tablesOf_32 : decode cX0_tablesOf 32 = .ok (.iload_n 2, 1) := by decide +kernel
theorem dX0_tablesOf_33 : decode cX0_tablesOf 33 = .ok (.iconst 1, 1) := by decide +kernel
theorem dX0_tablesOf_34 : decode cX0_tablesOf 34 = .ok (.iload_n 3, 1) := by decide +kernel
theorem dX0_tablesOf_35 : decode cX0_tablesOf 35 = .ok (.ishl, 1) := by decide +kernel
theorem dX0_tablesOf_36 : decode cX0_tablesOf 36 = .ok (.ior, 1) := by decide +kernel
theorem dX0_tablesOf_37 : decode cX0_tablesOf 37 = .ok (.istore_n 2, 1) := by decide +kernel
theorem dX0_tablesOf_38 : decode cX0_tablesOf 38 = .ok (.iinc 3 1, 3) := by decide +kernel
theorem dX0_tablesOf_41 : decode cX0_tablesOf 41 = .ok (.goto (-37), 3) := by decide +kernel
theorem dX0_tablesOf_44 : decode cX0_tablesOf 44 = .ok (.iload_n 2, 1) := by decide +kernel
theorem dX0_tablesOf_45 : decode cX0_tablesOf 45 = .ok (.ireturn, 1) := by decide +kernel
theorem dX0_constant_0 : decode cX0_constant 0 = .ok (.aload_n 0, 1) := by decide +kernel
theorem dX0_constant_1 : decode cX0_constant 1 = .ok (.getfield 26, 3) := by decide +kernel
theorem dX0_constant_4 : decode cX0_constant 4 = .ok (.iconst 0, 1) := by decide +kernel
theorem dX0_constant_5 : decode cX0_constant 5 = .ok (.invokevirtual 86, 3) := by decide +kernel
theorem dX0_constant_8 : decode cX0_constant 8 = .ok (.ireturn, 1) := by decide +kernel
theorem dX0_singleCost_0 : decode cX0_singleCost 0 = .ok (.aload_n 0, 1) := by decide +kernel
theorem dX0_singleCost_1 : decode cX0_singleCost 1 = .ok (.getfield 26, 3) := by decide +kernel
theorem dX0_singleCost_4 : decode cX0_singleCost 4 = .ok (.iload_n 1, 1) := by decide +kernel
theorem dX0_singleCost_5 : decode cX0_singleCost 5 = .ok (.iload_n 2, 1) := by decide +kernel
theorem dX0_singleCost_6 : decode cX0_singleCost 6 = .ok (.invokestatic 95, 3) := by decide +kernel
theorem dX0_singleCost_9 : decode cX0_singleCost 9 = .ok (.invokevirtual 86, 3) := by decide +kernel
theorem dX0_singleCost_12 : decode cX0_singleCost 12 = .ok (.ireturn, 1) := by decide +kernel
theorem dX0_pairCost_0 : decode cX0_pairCost 0 = .ok (.aload_n 0, 1) := by decide +kernel
theorem dX0_pairCost_1 : decode cX0_pairCost 1 = .ok (.getfield 26, 3) := by decide +kernel
theorem dX0_pairCost_4 : decode cX0_pairCost 4 = .ok (.iload_n 1, 1) := by decide +kernel
theorem dX0_pairCost_5 : decode cX0_pairCost 5 = .ok (.iload_n 2, 1) := by decide +kernel
theorem dX0_pairCost_6 : decode cX0_pairCost 6 = .ok (.iload_n 3, 1) := by decide +kernel
theorem dX0_pairCost_7 : decode cX0_pairCost 7 = .ok (.invokestatic 98, 3) := by decide +kernel
theorem dX0_pairCost_10 : decode cX0_pairCost 10 = .ok (.invokevirtual 86, 3) := by decide +kernel
theorem dX0_pairCost_13 : decode cX0_pairCost 13 = .ok (.ireturn, 1) := by decide +kernel
theorem dX0_singleAt_0 : decode cX0_singleAt 0 = .ok (.iconst 1, 1) := by decide +kernel
theorem dX0_singleAt_1 : decode cX0_singleAt 1 = .ok (.iconst 4, 1) := by decide +kernel
theorem dX0_singleAt_2 : decode cX0_singleAt 2 = .ok (.iload_n 0, 1) := by decide +kernel
theorem dX0_singleAt_3 : decode cX0_singleAt 3 = .ok (.imul, 1) := by decide +kernel
theorem dX0_singleAt_4 : decode cX0_singleAt 4 = .ok (.iadd, 1) := by decide +kernel
theorem dX0_singleAt_5 : decode cX0_singleAt 5 = .ok (.iload_n 1, 1) := by decide +kernel
theorem dX0_singleAt_6 : decode cX0_singleAt 6 = .ok (.iadd, 1) := by decide +kernel
theorem dX0_singleAt_7 : decode cX0_singleAt 7 = .ok (.ireturn, 1) := by decide +kernel
theorem dX0_pairAt_0 : decode cX0_pairAt 0 = .ok (.bipush 25, 2) := by decide +kernel
theorem dX0_pairAt_2 : decode cX0_pairAt 2 = .ok (.bipush 16, 2) := by decide +kernel
theorem dX0_pairAt_4 : decode cX0_pairAt 4 = .ok (.iload_n 0, 1) := by decide +kernel
theorem dX0_pairAt_5 : decode cX0_pairAt 5 = .ok (.imul, 1) := by decide +kernel
theorem dX0_pairAt_6 : decode cX0_pairAt 6 = .ok (.iadd, 1) := by decide +kernel
theorem dX0_pairAt_7 : decode cX0_pairAt 7 = .ok (.iconst 4, 1) := by decide +kernel
theorem dX0_pairAt_8 : decode cX0_pairAt 8 = .ok (.iload_n 1, 1) := by decide +kernel
theorem dX0_pairAt_9 : decode cX0_pairAt 9 = .ok (.imul, 1) := by decide +kernel
theorem dX0_pairAt_10 : decode cX0_pairAt 10 = .ok (.iadd, 1) := by decide +kernel
theorem dX0_pairAt_11 : decode cX0_pairAt 11 = .ok (.iload_n 2, 1) := by decide +kernel
theorem dX0_pairAt_12 : decode cX0_pairAt 12 = .ok (.iadd, 1) := by decide +kernel
theorem dX0_pairAt_13 : decode cX0_pairAt 13 = .ok (.ireturn, 1) := by decide +kernel
theorem dX0_pairFrom_0 : decode cX0_pairFrom 0 = .ok (.iload_n 1, 1) := by decide +kernel
theorem dX0_pairFrom_1 : decode cX0_pairFrom 1 = .ok (.ifCond .ne 12, 3) := by decide +kernel
theorem dX0_pairFrom_4 : decode cX0_pairFrom 4 = .ok (.iload_n 0, 1) := by decide +kernel
theorem dX0_pairFrom_5 : decode cX0_pairFrom 5 = .ok (.iload_n 2, 1) := by decide +kernel
theorem dX0_pairFrom_6 : decode cX0_pairFrom 6 = .ok (.iload_n 3, 1) := by decide +kernel
theorem dX0_pairFrom_7 : decode cX0_pairFrom 7 = .ok (.invokestatic 98, 3) := by decide +kernel
theorem dX0_pairFrom_10 : decode cX0_pairFrom 10 = .ok (.goto 9, 3) := by decide +kernel
theorem dX0_pairFrom_13 : decode cX0_pairFrom 13 = .ok (.iload_n 0, 1) := by decide +kernel
theorem dX0_pairFrom_14 : decode cX0_pairFrom 14 = .ok (.iload_n 3, 1) := by decide +kernel
theorem dX0_pairFrom_15 : decode cX0_pairFrom 15 = .ok (.iload_n 2, 1) := by decide +kernel
theorem dX0_pairFrom_16 : decode cX0_pairFrom 16 = .ok (.invokestatic 98, 3) := by decide +kernel
theorem dX0_pairFrom_19 : decode cX0_pairFrom 19 = .ok (.ireturn, 1) := by decide +kernel
theorem dX0_acrossFrom_0 : decode cX0_acrossFrom 0 = .ok (.iload_n 0, 1) := by decide +kernel
theorem dX0_acrossFrom_1 : decode cX0_acrossFrom 1 = .ok (.ifCond .ne 7, 3) := by decide +kernel
theorem dX0_acrossFrom_4 : decode cX0_acrossFrom 4 = .ok (.iconst 1, 1) := by decide +kernel
theorem dX0_acrossFrom_5 : decode cX0_acrossFrom 5 = .ok (.goto 4, 3) := by decide +kernel
theorem dX0_acrossFrom_8 : decode cX0_acrossFrom 8 = .ok (.iconst 0, 1) := by decide +kernel
theorem dX0_acrossFrom_9 : decode cX0_acrossFrom 9 = .ok (.ireturn, 1) := by decide +kernel
theorem dX0_leastSingle_0 : decode cX0_leastSingle 0 = .ok (.aload_n 0, 1) := by decide +kernel
theorem dX0_leastSingle_1 : decode cX0_leastSingle 1 = .ok (.getfield 29, 3) := by decide +kernel
theorem dX0_leastSingle_4 : decode cX0_leastSingle 4 = .ok (.istore_n 2, 1) := by decide +kernel
theorem dX0_leastSingle_5 : decode cX0_leastSingle 5 = .ok (.iconst 0, 1) := by decide +kernel
theorem dX0_leastSingle_6 : decode cX0_leastSingle 6 = .ok (.istore_n 3, 1) := by decide +kernel
theorem dX0_leastSingle_7 : decode cX0_leastSingle 7 = .ok (.iload_n 3, 1) := by decide +kernel
theorem dX0_leastSingle_8 : decode cX0_leastSingle 8 = .ok (.aload_n 0, 1) := by decide +kernel
theorem dX0_leastSingle_9 : decode cX0_leastSingle 9 = .ok (.iload_n 1, 1) := by decide +kernel
theorem dX0_leastSingle_10 : decode cX0_leastSingle 10 = .ok (.invokevirtual 65, 3) := by decide +kernel
theorem dX0_leastSingle_13 : decode cX0_leastSingle 13 = .ok (.if_icmp .ge 20, 3) := by decide +kernel
theorem dX0_leastSingle_16 : decode cX0_leastSingle 16 = .ok (.iload_n 2, 1) := by decide +kernel
theorem dX0_leastSingle_17 : decode cX0_leastSingle 17 = .ok (.aload_n 0, 1) := by decide +kernel
theorem dX0_leastSingle_18 : decode cX0_leastSingle 18 = .ok (.iload_n 1, 1) := by decide +kernel
theorem dX0_leastSingle_19 : decode cX0_leastSingle 19 = .ok (.iload_n 3, 1) := by decide +kernel
theorem dX0_leastSingle_20 : decode cX0_leastSingle 20 = .ok (.invokevirtual 102, 3) := by decide +kernel
theorem dX0_leastSingle_23 : decode cX0_leastSingle 23 = .ok (.invokestatic 69, 3) := by decide +kernel
theorem dX0_leastSingle_26 : decode cX0_leastSingle 26 = .ok (.istore_n 2, 1) := by decide +kernel
theorem dX0_leastSingle_27 : decode cX0_leastSingle 27 = .ok (.iinc 3 1, 3) := by decide +kernel
theorem dX0_leastSingle_30 : decode cX0_leastSingle 30 = .ok (.goto (-23), 3) := by decide +kernel
theorem dX0_leastSingle_33 : decode cX0_leastSingle 33 = .ok (.iload_n 2, 1) := by decide +kernel
theorem dX0_leastSingle_34 : decode cX0_leastSingle 34 = .ok (.ireturn, 1) := by decide +kernel
theorem dX0_leastPairOf_0 : decode cX0_leastPairOf 0 = .ok (.aload_n 0, 1) := by decide +kernel
theorem dX0_leastPairOf_1 : decode cX0_leastPairOf 1 = .ok (.getfield 29, 3) := by decide +kernel
theorem dX0_leastPairOf_4 : decode cX0_leastPairOf 4 = .ok (.istore 4, 2) := by decide +kernel
theorem dX0_leastPairOf_6 : decode cX0_leastPairOf 6 = .ok (.aload_n 0, 1) := by decide +kernel
theorem dX0_leastPairOf_7 : decode cX0_leastPairOf 7 = .ok (.iload_n 1, 1) := by decide +kernel
theorem dX0_leastPairOf_8 : decode cX0_leastPairOf 8 = .ok (.iload_n 2, 1) := by decide +kernel
theorem dX0_leastPairOf_9 : decode cX0_leastPairOf 9 = .ok (.invokestatic 105, 3) := by decide +kernel
theorem dX0_leastPairOf_12 : decode cX0_leastPairOf 12 = .ok (.invokevirtual 92, 3) := by decide +kernel
theorem dX0_leastPairOf_15 : decode cX0_leastPairOf 15 = .ok (.istore 5, 2) := by decide +kernel
theorem dX0_leastPairOf_17 : decode cX0_leastPairOf 17 = .ok (.iconst 0, 1) := by decide +kernel
theorem dX0_leastPairOf_18 : decode cX0_leastPairOf 18 = .ok (.istore 6, 2) := by decide +kernel
theorem dX0_leastPairOf_20 : decode cX0_leastPairOf 20 = .ok (.iload 6, 2) := by decide +kernel
theorem dX0_leastPairOf_22 : decode cX0_leastPairOf 22 = .ok (.iload 5, 2) := by decide +kernel
theorem dX0_leastPairOf_24 : decode cX0_leastPairOf 24 = .ok (.if_icmp .ge 31, 3) := by decide +kernel
theorem dX0_leastPairOf_27 : decode cX0_leastPairOf 27 = .ok (.iload 4, 2) := by decide +kernel
theorem dX0_leastPairOf_29 : decode cX0_leastPairOf 29 = .ok (.aload_n 0, 1) := by decide +kernel
theorem dX0_leastPairOf_30 : decode cX0_leastPairOf 30 = .ok (.getfield 26, 3) := by decide +kernel
theorem dX0_leastPairOf_33 : decode cX0_leastPairOf 33 = .ok (.iload_n 1, 1) := by decide +kernel
theorem dX0_leastPairOf_34 : decode cX0_leastPairOf 34 = .ok (.iload_n 2, 1) := by decide +kernel
theorem dX0_leastPairOf_35 : decode cX0_leastPairOf 35 = .ok (.iload_n 3, 1) := by decide +kernel
theorem dX0_leastPairOf_36 : decode cX0_leastPairOf 36 = .ok (.iload 6, 2) := by decide +kernel
theorem dX0_leastPairOf_38 : decode cX0_leastPairOf 38 = .ok (.invokestatic 108, 3) := by decide +kernel
theorem dX0_leastPairOf_41 : decode cX0_leastPairOf 41 = .ok (.invokevirtual 86, 3) := by decide +kernel
theorem dX0_leastPairOf_44 : decode cX0_leastPairOf 44 = .ok (.invokestatic 69, 3) := by decide +kernel
theorem dX0_leastPairOf_47 : decode cX0_leastPairOf 47 = .ok (.istore 4, 2) := by decide +kernel
theorem dX0_leastPairOf_49 : decode cX0_leastPairOf 49 = .ok (.iinc 6 1, 3) := by decide +kernel
theorem dX0_leastPairOf_52 : decode cX0_leastPairOf 52 = .ok (.goto (-32), 3) := by decide +kernel
theorem dX0_leastPairOf_55 : decode cX0_leastPairOf 55 = .ok (.iload 4, 2) := by decide +kernel
theorem dX0_leastPairOf_57 : decode cX0_leastPairOf 57 = .ok (.ireturn, 1) := by decide +kernel
theorem dX0_leastOfTable_0 : decode cX0_leastOfTable 0 = .ok (.aload_n 0, 1) := by decide +kernel
theorem dX0_leastOfTable_1 : decode cX0_leastOfTable 1 = .ok (.getfield 29, 3) := by decide +kernel
theorem dX0_leastOfTable_4 : decode cX0_leastOfTable 4 = .ok (.istore_n 2, 1) := by decide +kernel
theorem dX0_leastOfTable_5 : decode cX0_leastOfTable 5 = .ok (.iconst 0, 1) := by decide +kernel
theorem dX0_leastOfTable_6 : decode cX0_leastOfTable 6 = .ok (.istore_n 3, 1) := by decide +kernel
theorem dX0_leastOfTable_7 : decode cX0_leastOfTable 7 = .ok (.iload_n 3, 1) := by decide +kernel
theorem dX0_leastOfTable_8 : decode cX0_leastOfTable 8 = .ok (.aload_n 0, 1) := by decide +kernel
theorem dX0_leastOfTable_9 : decode cX0_leastOfTable 9 = .ok (.iload_n 1, 1) := by decide +kernel
theorem dX0_leastOfTable_10 : decode cX0_leastOfTable 10 = .ok (.iconst 0, 1) := by decide +kernel
theorem dX0_leastOfTable_11 : decode cX0_leastOfTable 11 = .ok (.invokevirtual 92, 3) := by decide +kernel
theorem dX0_leastOfTable_14 : decode cX0_leastOfTable 14 = .ok (.if_icmp .ge 21, 3) := by decide +kernel
theorem dX0_leastOfTable_17 : decode cX0_leastOfTable 17 = .ok (.iload_n 2, 1) := by decide +kernel
theorem dX0_leastOfTable_18 : decode cX0_leastOfTable 18 = .ok (.aload_n 0, 1) := by decide +kernel
theorem dX0_leastOfTable_19 : decode cX0_leastOfTable 19 = .ok (.iload_n 1, 1) := by decide +kernel
theorem dX0_leastOfTable_20 : decode cX0_leastOfTable 20 = .ok (.iconst 0, 1) := by decide +kernel
theorem dX0_leastOfTable_21 : decode cX0_leastOfTable 21 = .ok (.iload_n 3, 1) := by decide +kernel
theorem dX0_leastOfTable_22 : decode cX0_leastOfTable 22 = .ok (.invokevirtual 112, 3) := by decide +kernel
theorem dX0_leastOfTable_25 : decode cX0_leastOfTable 25 = .ok (.invokestatic 69, 3) := by decide +kernel
theorem dX0_leastOfTable_28 : decode cX0_leastOfTable 28 = .ok (.istore_n 2, 1) := by decide +kernel
theorem dX0_leastOfTable_29 : decode cX0_leastOfTable 29 = .ok (.iinc 3 1, 3) := by decide +kernel
theorem dX0_leastOfTable_32 : decode cX0_leastOfTable 32 = .ok (.goto (-25), 3) := by decide +kernel
theorem dX0_leastOfTable_35 : decode cX0_leastOfTable 35 = .ok (.iload_n 2, 1) := by decide +kernel
theorem dX0_leastOfTable_36 : decode cX0_leastOfTable 36 = .ok (.ireturn, 1) := by decide +kernel
theorem dX0_greatestOfTable_0 : decode cX0_greatestOfTable 0 = .ok (.iconst 0, 1) := by decide +kernel
theorem dX0_greatestOfTable_1 : decode cX0_greatestOfTable 1 = .ok (.istore_n 2, 1) := by decide +kernel
theorem dX0_greatestOfTable_2 : decode cX0_greatestOfTable 2 = .ok (.iconst 0, 1) := by decide +kernel
theorem dX0_greatestOfTable_3 : decode cX0_greatestOfTable 3 = .ok (.istore_n 3, 1) := by decide +kernel
theorem dX0_greatestOfTable_4 : decode cX0_greatestOfTable 4 = .ok (.iload_n 3, 1) := by decide +kernel
theorem dX0_greatestOfTable_5 : decode cX0_greatestOfTable 5 = .ok (.aload_n 0, 1) := by decide +kernel
theorem dX0_greatestOfTable_6 : decode cX0_greatestOfTable 6 = .ok (.iload_n 1, 1) := by decide +kernel
theorem dX0_greatestOfTable_7 : decode cX0_greatestOfTable 7 = .ok (.iconst 0, 1) := by decide +kernel
theorem dX0_greatestOfTable_8 : decode cX0_greatestOfTable 8 = .ok (.invokevirtual 92, 3) := by decide +kernel
theorem dX0_greatestOfTable_11 : decode cX0_greatestOfTable 11 = .ok (.if_icmp .ge 42, 3) := by decide +kernel
theorem dX0_greatestOfTable_14 : decode cX0_greatestOfTable 14 = .ok (.iconst 0, 1) := by decide +kernel
theorem dX0_greatestOfTable_15 : decode cX0_greatestOfTable 15 = .ok (.istore 4, 2) := by decide +kernel
theorem dX0_greatestOfTable_17 : decode cX0_greatestOfTable 17 = .ok (.iload 4, 2) := by decide +kernel
theorem dX0_greatestOfTable_19 : decode cX0_greatestOfTable 19 = .ok (.aload_n 0, 1) := by decide +kernel
theorem dX0_greatestOfTable_20 : decode cX0_greatestOfTable 20 = .ok (.iload_n 1, 1) := by decide +kernel
theorem dX0_greatestOfTable_21 : decode cX0_greatestOfTable 21 = .ok (.iconst 1, 1) := by decide +kernel
theorem dX0_greatestOfTable_22 : decode cX0_greatestOfTable 22 = .ok (.invokevirtual 92, 3) := by decide +kernel
theorem dX0_greatestOfTable_25 : decode cX0_greatestOfTable 25 = .ok (.if_icmp .ge 22, 3) := by decide +kernel
theorem dX0_greatestOfTable_28 : decode cX0_greatestOfTable 28 = .ok (.iload_n 2, 1) := by decide +kernel
theorem dX0_greatestOfTable_29 : decode cX0_greatestOfTable 29 = .ok (.aload_n 0, 1) := by decide +kernel
theorem dX0_greatestOfTable_30 : decode cX0_greatestOfTable 30 = .ok (.iload_n 1, 1) := by decide +kernel
theorem dX0_greatestOfTable_31 : decode cX0_greatestOfTable 31 = .ok (.iload_n 3, 1) := by decide +kernel
theorem dX0_greatestOfTable_32 : decode cX0_greatestOfTable 32 = .ok (.iload 4, 2) := by decide +kernel
theorem dX0_greatestOfTable_34 : decode cX0_greatestOfTable 34 = .ok (.invokevirtual 115, 3) := by decide +kernel
theorem dX0_greatestOfTable_37 : decode cX0_greatestOfTable 37 = .ok (.invokestatic 118, 3) := by decide +kernel
theorem dX0_greatestOfTable_40 : decode cX0_greatestOfTable 40 = .ok (.istore_n 2, 1) := by decide +kernel
theorem dX0_greatestOfTable_41 : decode cX0_greatestOfTable 41 = .ok (.iinc 4 1, 3) := by decide +kernel
theorem dX0_greatestOfTable_44 : decode cX0_greatestOfTable 44 = .ok (.goto (-27), 3) := by decide +kernel
theorem dX0_greatestOfTable_47 : decode cX0_greatestOfTable 47 = .ok (.iinc 3 1, 3) := by decide +kernel
theorem dX0_greatestOfTable_50 : decode cX0_greatestOfTable 50 = .ok (.goto (-46), 3) := by decide +kernel
theorem dX0_greatestOfTable_53 : decode cX0_greatestOfTable 53 = .ok (.iload_n 2, 1) := by decide +kernel
theorem dX0_greatestOfTable_54 : decode cX0_greatestOfTable 54 = .ok (.ireturn, 1) := by decide +kernel
theorem dX0_isShut_0 : decode cX0_isShut 0 = .ok (.aload_n 0, 1) := by decide +kernel
theorem dX0_isShut_1 : decode cX0_isShut 1 = .ok (.aload_n 0, 1) := by decide +kernel
theorem dX0_isShut_2 : decode cX0_isShut 2 = .ok (.invokevirtual 121, 3) := by decide +kernel
theorem dX0_isShut_5 : decode cX0_isShut 5 = .ok (.aload_n 0, 1) := by decide +kernel
theorem dX0_isShut_6 : decode cX0_isShut 6 = .ok (.iload_n 1, 1) := by decide +kernel
theorem dX0_isShut_7 : decode cX0_isShut 7 = .ok (.iload_n 2, 1) := by decide +kernel
theorem dX0_isShut_8 : decode cX0_isShut 8 = .ok (.invokevirtual 102, 3) := by decide +kernel
theorem dX0_isShut_11 : decode cX0_isShut 11 = .ok (.invokevirtual 125, 3) := by decide +kernel
theorem dX0_isShut_14 : decode cX0_isShut 14 = .ok (.aload_n 0, 1) := by decide +kernel
theorem dX0_isShut_15 : decode cX0_isShut 15 = .ok (.getfield 29, 3) := by decide +kernel
theorem dX0_isShut_18 : decode cX0_isShut 18 = .ok (.if_icmp .ne 7, 3) := by decide +kernel
theorem dX0_isShut_21 : decode cX0_isShut 21 = .ok (.iconst 1, 1) := by decide +kernel
theorem dX0_isShut_22 : decode cX0_isShut 22 = .ok (.goto 4, 3) := by decide +kernel
theorem dX0_isShut_25 : decode cX0_isShut 25 = .ok (.iconst 0, 1) := by decide +kernel
theorem dX0_isShut_26 : decode cX0_isShut 26 = .ok (.ireturn, 1) := by decide +kernel
theorem dX0_shutOf_0 : decode cX0_shutOf 0 = .ok (.iconst 0, 1) := by decide +kernel
theorem dX0_shutOf_1 : decode cX0_shutOf 1 = .ok (.istore_n 2, 1) := by decide +kernel
theorem dX0_shutOf_2 : decode cX0_shutOf 2 = .ok (.iconst 0, 1) := by decide +kernel
theorem dX0_shutOf_3 : decode cX0_shutOf 3 = .ok (.istore_n 3, 1) := by decide +kernel
theorem dX0_shutOf_4 : decode cX0_shutOf 4 = .ok (.iload_n 3, 1) := by decide +kernel
theorem dX0_shutOf_5 : decode cX0_shutOf 5 = .ok (.aload_n 0, 1) := by decide +kernel
theorem dX0_shutOf_6 : decode cX0_shutOf 6 = .ok (.iload_n 1, 1) := by decide +kernel
theorem dX0_shutOf_7 : decode cX0_shutOf 7 = .ok (.invokevirtual 65, 3) := by decide +kernel
theorem dX0_shutOf_10 : decode cX0_shutOf 10 = .ok (.if_icmp .ge 24, 3) := by decide +kernel
theorem dX0_shutOf_13 : decode cX0_shutOf 13 = .ok (.aload_n 0, 1) := by decide +kernel
theorem dX0_shutOf_14 : decode cX0_shutOf 14 = .ok (.iload_n 1, 1) := by decide +kernel
theorem dX0_shutOf_15 : decode cX0_shutOf 15 = .ok (.iload_n 3, 1) := by decide +kernel
theorem dX0_shutOf_16 : decode cX0_shutOf 16 = .ok (.invokevirtual 128, 3) := by decide +kernel
theorem dX0_shutOf_19 : decode cX0_shutOf 19 = .ok (.ifCond .eq 9, 3) := by decide +kernel
theorem dX0_shutOf_22 : decode cX0_shutOf 22 = .ok (.iload_n 2, 1) := by decide +kernel
theorem dX0_shutOf_23 : decode cX0_shutOf 23 = .ok (.iconst 1, 1) := by decide +kernel
theorem dX0_shutOf_24 : decode cX0_shutOf 24 = .ok (.iload_n 3, 1) := by decide +kernel
theorem dX0_shutOf_25 : decode cX0_shutOf 25 = .ok (.ishl, 1) := by decide +kernel
theorem dX0_shutOf_26 : decode cX0_shutOf 26 = .ok (.ior, 1) := by decide +kernel
theorem dX0_shutOf_27 : decode cX0_shutOf 27 = .ok (.istore_n 2, 1) := by decide +kernel
theorem dX0_shutOf_28 : decode cX0_shutOf 28 = .ok (.iinc 3 1, 3) := by decide +kernel
theorem dX0_shutOf_31 : decode cX0_shutOf 31 = .ok (.goto (-27), 3) := by decide +kernel
theorem dX0_shutOf_34 : decode cX0_shutOf 34 = .ok (.iload_n 2, 1) := by decide +kernel
theorem dX0_shutOf_35 : decode cX0_shutOf 35 = .ok (.ireturn, 1) := by decide +kernel
theorem dX0_shutInAll_0 : decode cX0_shutInAll 0 = .ok (.iconst 0, 1) := by decide +kernel
theorem dX0_shutInAll_1 : decode cX0_shutInAll 1 = .ok (.istore_n 1, 1) := by decide +kernel
theorem dX0_shutInAll_2 : decode cX0_shutInAll 2 = .ok (.iconst 0, 1) := by decide +kernel
theorem dX0_shutInAll_3 : decode cX0_shutInAll 3 = .ok (.istore_n 2, 1) := by decide +kernel
theorem dX0_shutInAll_4 : decode cX0_shutInAll 4 = .ok (.iload_n 2, 1) := by decide +kernel
theorem dX0_shutInAll_5 : decode cX0_shutInAll 5 = .ok (.aload_n 0, 1) := by decide +kernel
theorem dX0_shutInAll_6 : decode cX0_shutInAll 6 = .ok (.getfield 33, 3) := by decide +kernel
theorem dX0_shutInAll_9 : decode cX0_shutInAll 9 = .ok (.if_icmp .ge 20, 3) := by decide +kernel
theorem dX0_shutInAll_12 : decode cX0_shutInAll 12 = .ok (.iload_n 1, 1) := by decide +kernel
theorem dX0_shutInAll_13 : decode cX0_shutInAll 13 = .ok (.aload_n 0, 1) := by decide +kernel
theorem dX0_shutInAll_14 : decode cX0_shutInAll 14 = .ok (.iload_n 2, 1) := by decide +kernel
theorem dX0_shutInAll_15 : decode cX0_shutInAll 15 = .ok (.invokevirtual 131, 3) := by decide +kernel
theorem dX0_shutInAll_18 : decode cX0_shutInAll 18 = .ok (.invokestatic 134, 3) := by decide +kernel
theorem dX0_shutInAll_21 : decode cX0_shutInAll 21 = .ok (.iadd, 1) := by decide +kernel
theorem dX0_shutInAll_22 : decode cX0_shutInAll 22 = .ok (.istore_n 1, 1) := by decide +kernel
theorem dX0_shutInAll_23 : decode cX0_shutInAll 23 = .ok (.iinc 2 1, 3) := by decide +kernel
theorem dX0_shutInAll_26 : decode cX0_shutInAll 26 = .ok (.goto (-22), 3) := by decide +kernel
theorem dX0_shutInAll_29 : decode cX0_shutInAll 29 = .ok (.iload_n 1, 1) := by decide +kernel
theorem dX0_shutInAll_30 : decode cX0_shutInAll 30 = .ok (.ireturn, 1) := by decide +kernel
theorem dX0_sum_0 : decode cX0_sum 0 = .ok (.iload_n 1, 1) := by decide +kernel
theorem dX0_sum_1 : decode cX0_sum 1 = .ok (.iload_n 2, 1) := by decide +kernel
theorem dX0_sum_2 : decode cX0_sum 2 = .ok (.iadd, 1) := by decide +kernel
theorem dX0_sum_3 : decode cX0_sum 3 = .ok (.istore_n 3, 1) := by decide +kernel
theorem dX0_sum_4 : decode cX0_sum 4 = .ok (.iload_n 3, 1) := by decide +kernel
theorem dX0_sum_5 : decode cX0_sum 5 = .ok (.aload_n 0, 1) := by decide +kernel
theorem dX0_sum_6 : decode cX0_sum 6 = .ok (.getfield 29, 3) := by decide +kernel
theorem dX0_sum_9 : decode cX0_sum 9 = .ok (.if_icmp .ge 7, 3) := by decide +kernel
theorem dX0_sum_12 : decode cX0_sum 12 = .ok (.iload_n 3, 1) := by decide +kernel
theorem dX0_sum_13 : decode cX0_sum 13 = .ok (.goto 7, 3) := by decide +kernel
theorem dX0_sum_16 : decode cX0_sum 16 = .ok (.aload_n 0, 1) := by decide +kernel
theorem dX0_sum_17 : decode cX0_sum 17 = .ok (.getfield 29, 3) := by decide +kernel
theorem dX0_sum_20 : decode cX0_sum 20 = .ok (.ireturn, 1) := by decide +kernel
theorem dX0_costBeside_0 : decode cX0_costBeside 0 = .ok (.aload_n 0, 1) := by decide +kernel
theorem dX0_costBeside_1 : decode cX0_costBeside 1 = .ok (.getfield 26, 3) := by decide +kernel
theorem dX0_costBeside_4 : decode cX0_costBeside 4 = .ok (.iload_n 3, 1) := by decide +kernel
theorem dX0_costBeside_5 : decode cX0_costBeside 5 = .ok (.iload 4, 2) := by decide +kernel
theorem dX0_costBeside_7 : decode cX0_costBeside 7 = .ok (.invokestatic 95, 3) := by decide +kernel
theorem dX0_costBeside_10 : decode cX0_costBeside 10 = .ok (.invokevirtual 86, 3) := by decide +kernel
theorem dX0_costBeside_13 : decode cX0_costBeside 13 = .ok (.istore 6, 2) := by decide +kernel
theorem dX0_costBeside_15 : decode cX0_costBeside 15 = .ok (.iconst 0, 1) := by decide +kernel
theorem dX0_costBeside_16 : decode cX0_costBeside 16 = .ok (.istore 7, 2) := by decide +kernel
theorem dX0_costBeside_18 : decode cX0_costBeside 18 = .ok (.iload 7, 2) := by decide +kernel
theorem dX0_costBeside_20 : decode cX0_costBeside 20 = .ok (.aload_n 0, 1) := by decide +kernel
theorem dX0_costBeside_21 : decode cX0_costBeside 21 = .ok (.getfield 36, 3) := by decide +kernel
theorem dX0_costBeside_24 : decode cX0_costBeside 24 = .ok (.if_icmp .ge 74, 3) := by decide +kernel
theorem dX0_costBeside_27 : decode cX0_costBeside 27 = .ok (.aload_n 0, 1) := by decide +kernel
theorem dX0_costBeside_28 : decode cX0_costBeside 28 = .ok (.getfield 20, 3) := by decide +kernel
theorem dX0_costBeside_31 : decode cX0_costBeside 31 = .ok (.iload 7, 2) := by decide +kernel
theorem dX0_costBeside_33 : decode cX0_costBeside 33 = .ok (.invokevirtual 86, 3) := by decide +kernel
theorem dX0_costBeside_36 : decode cX0_costBeside 36 = .ok (.istore 8, 2) := by decide +kernel
theorem dX0_costBeside_38 : decode cX0_costBeside 38 = .ok (.aload_n 0, 1) := by decide +kernel
theorem dX0_costBeside_39 : decode cX0_costBeside 39 = .ok (.getfield 23, 3) := by decide +kernel
theorem dX0_costBeside_42 : decode cX0_costBeside 42 = .ok (.iload 7, 2) := by decide +kernel
theorem dX0_costBeside_44 : decode cX0_costBeside 44 = .ok (.invokevirtual 86, 3) := by decide +kernel
theorem dX0_costBeside_47 : decode cX0_costBeside 47 = .ok (.iload_n 3, 1) := by decide +kernel
theorem dX0_costBeside_48 : decode cX0_costBeside 48 = .ok (.if_icmp .ne 44, 3) := by decide +kernel
theorem dX0_costBeside_51 : decode cX0_costBeside 51 = .ok (.iload 8, 2) := by decide +kernel
theorem dX0_costBeside_53 : decode cX0_costBeside 53 = .ok (.iload_n 2, 1) := by decide +kernel
theorem dX0_costBeside_54 : decode cX0_costBeside 54 = .ok (.if_icmp .ge 38, 3) := by decide +kernel
theorem dX0_costBeside_57 : decode cX0_costBeside 57 = .ok (.iload 7, 2) := by decide +kernel
theorem dX0_costBeside_59 : decode cX0_costBeside 59 = .ok (.iload 5, 2) := by decide +kernel
theorem dX0_costBeside_61 : decode cX0_costBeside 61 = .ok (.if_icmp .eq 31, 3) := by decide +kernel
theorem dX0_costBeside_64 : decode cX0_costBeside 64 = .ok (.aload_n 0, 1) := by decide +kernel
theorem dX0_costBeside_65 : decode cX0_costBeside 65 = .ok (.iload 6, 2) := by decide +kernel
theorem dX0_costBeside_67 : decode cX0_costBeside 67 = .ok (.aload_n 0, 1) := by decide +kernel
theorem dX0_costBeside_68 : decode cX0_costBeside 68 = .ok (.getfield 26, 3) := by decide +kernel
theorem dX0_costBeside_71 : decode cX0_costBeside 71 = .ok (.iload 7, 2) := by decide +kernel
theorem dX0_costBeside_73 : decode cX0_costBeside 73 = .ok (.aload_n 1, 1) := by decide +kernel
theorem dX0_costBeside_74 : decode cX0_costBeside 74 = .ok (.iload 8, 2) := by decide +kernel
theorem dX0_costBeside_76 : decode cX0_costBeside 76 = .ok (.invokevirtual 86, 3) := by decide +kernel
theorem dX0_costBeside_79 : decode cX0_costBeside 79 = .ok (.iload 4, 2) := by decide +kernel
theorem dX0_costBeside_81 : decode cX0_costBeside 81 = .ok (.invokestatic 98, 3) := by decide +kernel
theorem dX0_costBeside_84 : decode cX0_costBeside 84 = .ok (.invokevirtual 86, 3) := by decide +kernel
theorem dX0_costBeside_87 : decode cX0_costBeside 87 = .ok (.invokevirtual 125, 3) := by decide +kernel
theorem dX0_costBeside_90 : decode cX0_costBeside 90 = .ok (.istore 6, 2) := by decide +kernel
theorem dX0_costBeside_92 : decode cX0_costBeside 92 = .ok (.iinc 7 1, 3) := by decide +kernel
theorem dX0_costBeside_95 : decode cX0_costBeside 95 = .ok (.goto (-77), 3) := by decide +kernel
theorem dX0_costBeside_98 : decode cX0_costBeside 98 = .ok (.iload 6, 2) := by decide +kernel
theorem dX0_costBeside_100 : decode cX0_costBeside 100 = .ok (.ireturn, 1) := by decide +kernel
theorem dX0_totalOf_0 : decode cX0_totalOf 0 = .ok (.aload_n 0, 1) := by decide +kernel
theorem dX0_totalOf_1 : decode cX0_totalOf 1 = .ok (.invokevirtual 121, 3) := by decide +kernel
theorem dX0_totalOf_4 : decode cX0_totalOf 4 = .ok (.istore_n 2, 1) := by decide +kernel
theorem dX0_totalOf_5 : decode cX0_totalOf 5 = .ok (.iconst 0, 1) := by decide +kernel
theorem dX0_totalOf_6 : decode cX0_totalOf 6 = .ok (.istore_n 3, 1) := by decide +kernel
theorem dX0_totalOf_7 : decode cX0_totalOf 7 = .ok (.iload_n 3, 1) := by decide +kernel
theorem dX0_totalOf_8 : decode cX0_totalOf 8 = .ok (.aload_n 0, 1) := by decide +kernel
theorem dX0_totalOf_9 : decode cX0_totalOf 9 = .ok (.getfield 33, 3) := by decide +kernel
theorem dX0_totalOf_12 : decode cX0_totalOf 12 = .ok (.if_icmp .ge 28, 3) := by decide +kernel
theorem dX0_totalOf_15 : decode cX0_totalOf 15 = .ok (.aload_n 0, 1) := by decide +kernel
theorem dX0_totalOf_16 : decode cX0_totalOf 16 = .ok (.iload_n 2, 1) := by decide +kernel
theorem dX0_totalOf_17 : decode cX0_totalOf 17 = .ok (.aload_n 0, 1) := by decide +kernel
theorem dX0_totalOf_18 : decode cX0_totalOf 18 = .ok (.aload_n 1, 1) := by decide +kernel
theorem dX0_totalOf_19 : decode cX0_totalOf 19 = .ok (.iload_n 3, 1) := by decide +kernel
theorem dX0_totalOf_20 : decode cX0_totalOf 20 = .ok (.iload_n 3, 1) := by decide +kernel
theorem dX0_totalOf_21 : decode cX0_totalOf 21 = .ok (.aload_n 1, 1) := by decide +kernel
theorem dX0_totalOf_22 : decode cX0_totalOf 22 = .ok (.iload_n 3, 1) := by decide +kernel
theorem dX0_totalOf_23 : decode cX0_totalOf 23 = .ok (.invokevirtual 86, 3) := by decide +kernel
theorem dX0_totalOf_26 : decode cX0_totalOf 26 = .ok (.iconst (-1), 1) := by decide +kernel
theorem dX0_totalOf_27 : decode cX0_totalOf 27 = .ok (.invokevirtual 139, 3) := by decide +kernel
theorem dX0_totalOf_30 : decode cX0_totalOf 30 = .ok (.invokevirtual 125, 3) := by decide +kernel
theorem dX0_totalOf_33 : decode cX0_totalOf 33 = .ok (.istore_n 2, 1) := by decide +kernel
theorem dX0_totalOf_34 : decode cX0_totalOf 34 = .ok (.iinc 3 1, 3) := by decide +kernel
theorem dX0_totalOf_37 : decode cX0_totalOf 37 = .ok (.goto (-30), 3) := by decide +kernel
theorem dX0_totalOf_40 : decode cX0_totalOf 40 = .ok (.iload_n 2, 1) := by decide +kernel
theorem dX0_totalOf_41 : decode cX0_totalOf 41 = .ok (.ireturn, 1) := by decide +kernel
theorem dX0_copyTo_0 : decode cX0_copyTo 0 = .ok (.aload_n 1, 1) := by decide +kernel
theorem dX0_copyTo_1 : decode cX0_copyTo 1 = .ok (.aload_n 0, 1) := by decide +kernel
theorem dX0_copyTo_2 : decode cX0_copyTo 2 = .ok (.getfield 26, 3) := by decide +kernel
theorem dX0_copyTo_5 : decode cX0_copyTo 5 = .ok (.invokevirtual 42, 3) := by decide +kernel
theorem dX0_copyTo_8 : decode cX0_copyTo 8 = .ok (.return_, 1) := by decide +kernel
theorem dX0_copyFrom_0 : decode cX0_copyFrom 0 = .ok (.aload_n 0, 1) := by decide +kernel
theorem dX0_copyFrom_1 : decode cX0_copyFrom 1 = .ok (.getfield 26, 3) := by decide +kernel
theorem dX0_copyFrom_4 : decode cX0_copyFrom 4 = .ok (.aload_n 1, 1) := by decide +kernel
theorem dX0_copyFrom_5 : decode cX0_copyFrom 5 = .ok (.invokevirtual 42, 3) := by decide +kernel
theorem dX0_copyFrom_8 : decode cX0_copyFrom 8 = .ok (.return_, 1) := by decide +kernel
theorem dX0_areAs_0 : decode cX0_areAs 0 = .ok (.aload_n 0, 1) := by decide +kernel
theorem dX0_areAs_1 : decode cX0_areAs 1 = .ok (.getfield 26, 3) := by decide +kernel
theorem dX0_areAs_4 : decode cX0_areAs 4 = .ok (.aload_n 1, 1) := by decide +kernel
theorem dX0_areAs_5 : decode cX0_areAs 5 = .ok (.invokevirtual 143, 3) := by decide +kernel
theorem dX0_areAs_8 : decode cX0_areAs 8 = .ok (.ireturn, 1) := by decide +kernel
theorem dX0_setSingle_0 : decode cX0_setSingle 0 = .ok (.aload_n 0, 1) := by decide +kernel
theorem dX0_setSingle_1 : decode cX0_setSingle 1 = .ok (.getfield 26, 3) := by decide +kernel
theorem dX0_setSingle_4 : decode cX0_setSingle 4 = .ok (.iload_n 1, 1) := by decide +kernel
theorem dX0_setSingle_5 : decode cX0_setSingle 5 = .ok (.iload_n 2, 1) := by decide +kernel
theorem dX0_setSingle_6 : decode cX0_setSingle 6 = .ok (.invokestatic 95, 3) := by decide +kernel
theorem dX0_setSingle_9 : decode cX0_setSingle 9 = .ok (.iload_n 3, 1) := by decide +kernel
theorem dX0_setSingle_10 : decode cX0_setSingle 10 = .ok (.invokevirtual 46, 3) := by decide +kernel
theorem dX0_setSingle_13 : decode cX0_setSingle 13 = .ok (.return_, 1) := by decide +kernel
theorem dX0_setPair_0 : decode cX0_setPair 0 = .ok (.aload_n 0, 1) := by decide +kernel
theorem dX0_setPair_1 : decode cX0_setPair 1 = .ok (.getfield 26, 3) := by decide +kernel
theorem dX0_setPair_4 : decode cX0_setPair 4 = .ok (.iload_n 1, 1) := by decide +kernel
theorem dX0_setPair_5 : decode cX0_setPair 5 = .ok (.iload_n 2, 1) := by decide +kernel
theorem dX0_setPair_6 : decode cX0_setPair 6 = .ok (.iload_n 3, 1) := by decide +kernel
theorem dX0_setPair_7 : decode cX0_setPair 7 = .ok (.invokestatic 98, 3) := by decide +kernel
theorem dX0_setPair_10 : decode cX0_setPair 10 = .ok (.iload 4, 2) := by decide +kernel
theorem dX0_setPair_12 : decode cX0_setPair 12 = .ok (.invokevirtual 46, 3) := by decide +kernel
theorem dX0_setPair_15 : decode cX0_setPair 15 = .ok (.return_, 1) := by decide +kernel
theorem dX0_lessen_0 : decode cX0_lessen 0 = .ok (.aload_n 0, 1) := by decide +kernel
theorem dX0_lessen_1 : decode cX0_lessen 1 = .ok (.getfield 26, 3) := by decide +kernel
theorem dX0_lessen_4 : decode cX0_lessen 4 = .ok (.iload_n 1, 1) := by decide +kernel
theorem dX0_lessen_5 : decode cX0_lessen 5 = .ok (.invokevirtual 86, 3) := by decide +kernel
theorem dX0_lessen_8 : decode cX0_lessen 8 = .ok (.istore_n 3, 1) := by decide +kernel
theorem dX0_lessen_9 : decode cX0_lessen 9 = .ok (.aload_n 0, 1) := by decide +kernel
theorem dX0_lessen_10 : decode cX0_lessen 10 = .ok (.getfield 26, 3) := by decide +kernel
theorem dX0_lessen_13 : decode cX0_lessen 13 = .ok (.iload_n 1, 1) := by decide +kernel
theorem dX0_lessen_14 : decode cX0_lessen 14 = .ok (.iload_n 3, 1) := by decide +kernel
theorem dX0_lessen_15 : decode cX0_lessen 15 = .ok (.aload_n 0, 1) := by decide +kernel
theorem dX0_lessen_16 : decode cX0_lessen 16 = .ok (.getfield 29, 3) := by decide +kernel
theorem dX0_lessen_19 : decode cX0_lessen 19 = .ok (.if_icmp .ne 7, 3) := by decide +kernel
theorem dX0_lessen_22 : decode cX0_lessen 22 = .ok (.iload_n 3, 1) := by decide +kernel
theorem dX0_lessen_23 : decode cX0_lessen 23 = .ok (.goto 6, 3) := by decide +kernel
theorem dX0_lessen_26 : decode cX0_lessen 26 = .ok (.iload_n 3, 1) := by decide +kernel
theorem dX0_lessen_27 : decode cX0_lessen 27 = .ok (.iload_n 2, 1) := by decide +kernel
theorem dX0_lessen_28 : decode cX0_lessen 28 = .ok (.isub, 1) := by decide +kernel
theorem dX0_lessen_29 : decode cX0_lessen 29 = .ok (.invokevirtual 46, 3) := by decide +kernel
theorem dX0_lessen_32 : decode cX0_lessen 32 = .ok (.return_, 1) := by decide +kernel
theorem dX0_enlarge_0 : decode cX0_enlarge 0 = .ok (.aload_n 0, 1) := by decide +kernel
theorem dX0_enlarge_1 : decode cX0_enlarge 1 = .ok (.getfield 26, 3) := by decide +kernel
theorem dX0_enlarge_4 : decode cX0_enlarge 4 = .ok (.iload_n 1, 1) := by decide +kernel
theorem dX0_enlarge_5 : decode cX0_enlarge 5 = .ok (.aload_n 0, 1) := by decide +kernel
theorem dX0_enlarge_6 : decode cX0_enlarge 6 = .ok (.aload_n 0, 1) := by decide +kernel
theorem dX0_enlarge_7 : decode cX0_enlarge 7 = .ok (.getfield 26, 3) := by decide +kernel
theorem dX0_enlarge_10 : decode cX0_enlarge 10 = .ok (.iload_n 1, 1) := by decide +kernel
theorem dX0_enlarge_11 : decode cX0_enlarge 11 = .ok (.invokevirtual 86, 3) := by decide +kernel
theorem dX0_enlarge_14 : decode cX0_enlarge 14 = .ok (.iload_n 2, 1) := by decide +kernel
theorem dX0_enlarge_15 : decode cX0_enlarge 15 = .ok (.invokevirtual 125, 3) := by decide +kernel
theorem dX0_enlarge_18 : decode cX0_enlarge 18 = .ok (.invokevirtual 46, 3) := by decide +kernel
theorem dX0_enlarge_21 : decode cX0_enlarge 21 = .ok (.return_, 1) := by decide +kernel
theorem dX0_growSingle_0 : decode cX0_growSingle 0 = .ok (.aload_n 0, 1) := by decide +kernel
theorem dX0_growSingle_1 : decode cX0_growSingle 1 = .ok (.iload_n 1, 1) := by decide +kernel
theorem dX0_growSingle_2 : decode cX0_growSingle 2 = .ok (.iload_n 2, 1) := by decide +kernel
theorem dX0_growSingle_3 : decode cX0_growSingle 3 = .ok (.invokestatic 95, 3) := by decide +kernel
theorem dX0_growSingle_6 : decode cX0_growSingle 6 = .ok (.iload_n 3, 1) := by decide +kernel
theorem dX0_growSingle_7 : decode cX0_growSingle 7 = .ok (.invokevirtual 147, 3) := by decide +kernel
theorem dX0_growSingle_10 : decode cX0_growSingle 10 = .ok (.return_, 1) := by decide +kernel
theorem dX0_moveToValue_0 : decode cX0_moveToValue 0 = .ok (.aload_n 0, 1) := by decide +kernel
theorem dX0_moveToValue_1 : decode cX0_moveToValue 1 = .ok (.iload_n 1, 1) := by decide +kernel
theorem dX0_moveToValue_2 : decode cX0_moveToValue 2 = .ok (.iload_n 2, 1) := by decide +kernel
theorem dX0_moveToValue_3 : decode cX0_moveToValue 3 = .ok (.invokestatic 105, 3) := by decide +kernel
theorem dX0_moveToValue_6 : decode cX0_moveToValue 6 = .ok (.invokevirtual 92, 3) := by decide +kernel
theorem dX0_moveToValue_9 : decode cX0_moveToValue 9 = .ok (.istore 5, 2) := by decide +kernel
theorem dX0_moveToValue_11 : decode cX0_moveToValue 11 = .ok (.iconst 0, 1) := by decide +kernel
theorem dX0_moveToValue_12 : decode cX0_moveToValue 12 = .ok (.istore 6, 2) := by decide +kernel
theorem dX0_moveToValue_14 : decode cX0_moveToValue 14 = .ok (.iload 6, 2) := by decide +kernel
theorem dX0_moveToValue_16 : decode cX0_moveToValue 16 = .ok (.iload 5, 2) := by decide +kernel
theorem dX0_moveToValue_18 : decode cX0_moveToValue 18 = .ok (.if_icmp .ge 23, 3) := by decide +kernel
theorem dX0_moveToValue_21 : decode cX0_moveToValue 21 = .ok (.aload_n 0, 1) := by decide +kernel
theorem dX0_moveToValue_22 : decode cX0_moveToValue 22 = .ok (.iload_n 1, 1) := by decide +kernel
theorem dX0_moveToValue_23 : decode cX0_moveToValue 23 = .ok (.iload_n 2, 1) := by decide +kernel
theorem dX0_moveToValue_24 : decode cX0_moveToValue 24 = .ok (.iload_n 3, 1) := by decide +kernel
theorem dX0_moveToValue_25 : decode cX0_moveToValue 25 = .ok (.iload 6, 2) := by decide +kernel
theorem dX0_moveToValue_27 : decode cX0_moveToValue 27 = .ok (.invokestatic 108, 3) := by decide +kernel
theorem dX0_moveToValue_30 : decode cX0_moveToValue 30 = .ok (.iload 4, 2) := by decide +kernel
theorem dX0_moveToValue_32 : decode cX0_moveToValue 32 = .ok (.invokevirtual 150, 3) := by decide +kernel
theorem dX0_moveToValue_35 : decode cX0_moveToValue 35 = .ok (.iinc 6 1, 3) := by decide +kernel
theorem dX0_moveToValue_38 : decode cX0_moveToValue 38 = .ok (.goto (-24), 3) := by decide +kernel
theorem dX0_moveToValue_41 : decode cX0_moveToValue 41 = .ok (.aload_n 0, 1) := by decide +kernel
theorem dX0_moveToValue_42 : decode cX0_moveToValue 42 = .ok (.aload_n 0, 1) := by decide +kernel
theorem dX0_moveToValue_43 : decode cX0_moveToValue 43 = .ok (.iload_n 1, 1) := by decide +kernel
theorem dX0_moveToValue_44 : decode cX0_moveToValue 44 = .ok (.iload_n 2, 1) := by decide +kernel
theorem dX0_moveToValue_45 : decode cX0_moveToValue 45 = .ok (.invokevirtual 79, 3) := by decide +kernel
theorem dX0_moveToValue_48 : decode cX0_moveToValue 48 = .ok (.iload_n 3, 1) := by decide +kernel
theorem dX0_moveToValue_49 : decode cX0_moveToValue 49 = .ok (.invokestatic 95, 3) := by decide +kernel
theorem dX0_moveToValue_52 : decode cX0_moveToValue 52 = .ok (.iload 4, 2) := by decide +kernel
theorem dX0_moveToValue_54 : decode cX0_moveToValue 54 = .ok (.invokevirtual 147, 3) := by decide +kernel
theorem dX0_moveToValue_57 : decode cX0_moveToValue 57 = .ok (.return_, 1) := by decide +kernel
theorem dX0_moveToTable_0 : decode cX0_moveToTable 0 = .ok (.aload_n 0, 1) := by decide +kernel
theorem dX0_moveToTable_1 : decode cX0_moveToTable 1 = .ok (.aload_n 0, 1) := by decide +kernel
theorem dX0_moveToTable_2 : decode cX0_moveToTable 2 = .ok (.iload_n 1, 1) := by decide +kernel
theorem dX0_moveToTable_3 : decode cX0_moveToTable 3 = .ok (.iload_n 2, 1) := by decide +kernel
theorem dX0_moveToTable_4 : decode cX0_moveToTable 4 = .ok (.invokevirtual 79, 3) := by decide +kernel
theorem dX0_moveToTable_7 : decode cX0_moveToTable 7 = .ok (.iload_n 3, 1) := by decide +kernel
theorem dX0_moveToTable_8 : decode cX0_moveToTable 8 = .ok (.invokestatic 95, 3) := by decide +kernel
theorem dX0_moveToTable_11 : decode cX0_moveToTable 11 = .ok (.iload 4, 2) := by decide +kernel
theorem dX0_moveToTable_13 : decode cX0_moveToTable 13 = .ok (.invokevirtual 150, 3) := by decide +kernel
theorem dX0_moveToTable_16 : decode cX0_moveToTable 16 = .ok (.aload_n 0, 1) := by decide +kernel
theorem dX0_moveToTable_17 : decode cX0_moveToTable 17 = .ok (.iload_n 1, 1) := by decide +kernel
theorem dX0_moveToTable_18 : decode cX0_moveToTable 18 = .ok (.iload_n 2, 1) := by decide +kernel
theorem dX0_moveToTable_19 : decode cX0_moveToTable 19 = .ok (.invokestatic 105, 3) := by decide +kernel
theorem dX0_moveToTable_22 : decode cX0_moveToTable 22 = .ok (.invokevirtual 92, 3) := by decide +kernel
theorem dX0_moveToTable_25 : decode cX0_moveToTable 25 = .ok (.istore 5, 2) := by decide +kernel
theorem dX0_moveToTable_27 : decode cX0_moveToTable 27 = .ok (.iconst 0, 1) := by decide +kernel
theorem dX0_moveToTable_28 : decode cX0_moveToTable 28 = .ok (.istore 6, 2) := by decide +kernel
theorem dX0_moveToTable_30 : decode cX0_moveToTable 30 = .ok (.iload 6, 2) := by decide +kernel
theorem dX0_moveToTable_32 : decode cX0_moveToTable 32 = .ok (.iload 5, 2) := by decide +kernel
theorem dX0_moveToTable_34 : decode cX0_moveToTable 34 = .ok (.if_icmp .ge 23, 3) := by decide +kernel
theorem dX0_moveToTable_37 : decode cX0_moveToTable 37 = .ok (.aload_n 0, 1) := by decide +kernel
theorem dX0_moveToTable_38 : decode cX0_moveToTable 38 = .ok (.iload_n 1, 1) := by decide +kernel
theorem dX0_moveToTable_39 : decode cX0_moveToTable 39 = .ok (.iload_n 2, 1) := by decide +kernel
theorem dX0_moveToTable_40 : decode cX0_moveToTable 40 = .ok (.iload_n 3, 1) := by decide +kernel
theorem dX0_moveToTable_41 : decode cX0_moveToTable 41 = .ok (.iload 6, 2) := by decide +kernel
theorem dX0_moveToTable_43 : decode cX0_moveToTable 43 = .ok (.invokestatic 108, 3) := by decide +kernel
theorem dX0_moveToTable_46 : decode cX0_moveToTable 46 = .ok (.iload 4, 2) := by decide +kernel
theorem dX0_moveToTable_48 : decode cX0_moveToTable 48 = .ok (.invokevirtual 147, 3) := by decide +kernel
theorem dX0_moveToTable_51 : decode cX0_moveToTable 51 = .ok (.iinc 6 1, 3) := by decide +kernel
theorem dX0_moveToTable_54 : decode cX0_moveToTable 54 = .ok (.goto (-24), 3) := by decide +kernel
theorem dX0_moveToTable_57 : decode cX0_moveToTable 57 = .ok (.return_, 1) := by decide +kernel
theorem dX0_moveToConstant_0 : decode cX0_moveToConstant 0 = .ok (.iconst 0, 1) := by decide +kernel
theorem dX0_moveToConstant_1 : decode cX0_moveToConstant 1 = .ok (.istore_n 3, 1) := by decide +kernel
theorem dX0_moveToConstant_2 : decode cX0_moveToConstant 2 = .ok (.iload_n 3, 1) := by decide +kernel
theorem dX0_moveToConstant_3 : decode cX0_moveToConstant 3 = .ok (.aload_n 0, 1) := by decide +kernel
theorem dX0_moveToConstant_4 : decode cX0_moveToConstant 4 = .ok (.iload_n 1, 1) := by decide +kernel
theorem dX0_moveToConstant_5 : decode cX0_moveToConstant 5 = .ok (.invokevirtual 65, 3) := by decide +kernel
theorem dX0_moveToConstant_8 : decode cX0_moveToConstant 8 = .ok (.if_icmp .ge 19, 3) := by decide +kernel
theorem dX0_moveToConstant_11 : decode cX0_moveToConstant 11 = .ok (.aload_n 0, 1) := by decide +kernel
theorem dX0_moveToConstant_12 : decode cX0_moveToConstant 12 = .ok (.iload_n 1, 1) := by decide +kernel
theorem dX0_moveToConstant_13 : decode cX0_moveToConstant 13 = .ok (.iload_n 3, 1) := by decide +kernel
theorem dX0_moveToConstant_14 : decode cX0_moveToConstant 14 = .ok (.invokestatic 95, 3) := by decide +kernel
theorem dX0_moveToConstant_17 : decode cX0_moveToConstant 17 = .ok (.iload_n 2, 1) := by decide +kernel
theorem dX0_moveToConstant_18 : decode cX0_moveToConstant 18 = .ok (.invokevirtual 150, 3) := by decide +kernel
theorem dX0_moveToConstant_21 : decode cX0_moveToConstant 21 = .ok (.iinc 3 1, 3) := by decide +kernel
theorem dX0_moveToConstant_24 : decode cX0_moveToConstant 24 = .ok (.goto (-22), 3) := by decide +kernel
theorem dX0_moveToConstant_27 : decode cX0_moveToConstant 27 = .ok (.aload_n 0, 1) := by decide +kernel
theorem dX0_moveToConstant_28 : decode cX0_moveToConstant 28 = .ok (.iconst 0, 1) := by decide +kernel
theorem dX0_moveToConstant_29 : decode cX0_moveToConstant 29 = .ok (.iload_n 2, 1) := by decide +kernel
theorem dX0_moveToConstant_30 : decode cX0_moveToConstant 30 = .ok (.invokevirtual 147, 3) := by decide +kernel
theorem dX0_moveToConstant_33 : decode cX0_moveToConstant 33 = .ok (.return_, 1) := by decide +kernel
theorem dX0_topShutSingles_0 : decode cX0_topShutSingles 0 = .ok (.iconst 0, 1) := by decide +kernel
theorem dX0_topShutSingles_1 : decode cX0_topShutSingles 1 = .ok (.istore_n 2, 1) := by decide +kernel
theorem dX0_topShutSingles_2 : decode cX0_topShutSingles 2 = .ok (.iload_n 2, 1) := by decide +kernel
theorem dX0_topShutSingles_3 : decode cX0_topShutSingles 3 = .ok (.aload_n 0, 1) := by decide +kernel
theorem dX0_topShutSingles_4 : decode cX0_topShutSingles 4 = .ok (.iload_n 1, 1) := by decide +kernel
theorem dX0_topShutSingles_5 : decode cX0_topShutSingles 5 = .ok (.invokevirtual 65, 3) := by decide +kernel
theorem dX0_topShutSingles_8 : decode cX0_topShutSingles 8 = .ok (.if_icmp .ge 28, 3) := by decide +kernel
theorem dX0_topShutSingles_11 : decode cX0_topShutSingles 11 = .ok (.aload_n 0, 1) := by decide +kernel
theorem dX0_topShutSingles_12 : decode cX0_topShutSingles 12 = .ok (.iload_n 1, 1) := by decide +kernel
theorem dX0_topShutSingles_13 : decode cX0_topShutSingles 13 = .ok (.iload_n 2, 1) := by decide +kernel
theorem dX0_topShutSingles_14 : decode cX0_topShutSingles 14 = .ok (.invokevirtual 128, 3) := by decide +kernel
theorem dX0_topShutSingles_17 : decode cX0_topShutSingles 17 = .ok (.ifCond .eq 13, 3) := by decide +kernel
theorem dX0_topShutSingles_20 : decode cX0_topShutSingles 20 = .ok (.aload_n 0, 1) := by decide +kernel
theorem dX0_topShutSingles_21 : decode cX0_topShutSingles 21 = .ok (.iload_n 1, 1) := by decide +kernel
theorem dX0_topShutSingles_22 : decode cX0_topShutSingles 22 = .ok (.iload_n 2, 1) := by decide +kernel
theorem dX0_topShutSingles_23 : decode cX0_topShutSingles 23 = .ok (.aload_n 0, 1) := by decide +kernel
theorem dX0_topShutSingles_24 : decode cX0_topShutSingles 24 = .ok (.getfield 29, 3) := by decide +kernel
theorem dX0_topShutSingles_27 : decode cX0_topShutSingles 27 = .ok (.invokevirtual 54, 3) := by decide +kernel
theorem dX0_topShutSingles_30 : decode cX0_topShutSingles 30 = .ok (.iinc 2 1, 3) := by decide +kernel
theorem dX0_topShutSingles_33 : decode cX0_topShutSingles 33 = .ok (.goto (-31), 3) := by decide +kernel
theorem dX0_topShutSingles_36 : decode cX0_topShutSingles 36 = .ok (.return_, 1) := by decide +kernel
theorem dX0_topPairsOfTopSingles_0 : decode cX0_topPairsOfTopSingles 0 = .ok (.aload_n 0, 1) := by decide +kernel
theorem dX0_topPairsOfTopSingles_1 : decode cX0_topPairsOfTopSingles 1 = .ok (.iload_n 1, 1) := by decide +kernel
theorem dX0_topPairsOfTopSingles_2 : decode cX0_topPairsOfTopSingles 2 = .ok (.iconst 0, 1) := by decide +kernel
theorem dX0_topPairsOfTopSingles_3 : decode cX0_topPairsOfTopSingles 3 = .ok (.invokevirtual 79, 3) := by decide +kernel
theorem dX0_topPairsOfTopSingles_6 : decode cX0_topPairsOfTopSingles 6 = .ok (.istore_n 2, 1) := by decide +kernel
theorem dX0_topPairsOfTopSingles_7 : decode cX0_topPairsOfTopSingles 7 = .ok (.aload_n 0, 1) := by decide +kernel
theorem dX0_topPairsOfTopSingles_8 : decode cX0_topPairsOfTopSingles 8 = .ok (.iload_n 1, 1) := by decide +kernel
theorem dX0_topPairsOfTopSingles_9 : decode cX0_topPairsOfTopSingles 9 = .ok (.iconst 1, 1) := by decide +kernel
theorem dX0_topPairsOfTopSingles_10 : decode cX0_topPairsOfTopSingles 10 = .ok (.invokevirtual 79, 3) := by decide +kernel
theorem dX0_topPairsOfTopSingles_13 : decode cX0_topPairsOfTopSingles 13 = .ok (.istore_n 3, 1) := by decide +kernel
theorem dX0_topPairsOfTopSingles_14 : decode cX0_topPairsOfTopSingles 14 = .ok (.iconst 0, 1) := by decide +kernel
theorem dX0_topPairsOfTopSingles_15 : decode cX0_topPairsOfTopSingles 15 = .ok (.istore 4, 2) := by decide +kernel
theorem dX0_topPairsOfTopSingles_17 : decode cX0_topPairsOfTopSingles 17 = .ok (.iload 4, 2) := by decide +kernel
theorem dX0_topPairsOfTopSingles_19 : decode cX0_topPairsOfTopSingles 19 = .ok (.aload_n 0, 1) := by decide +kernel
theorem dX0_topPairsOfTopSingles_20 : decode cX0_topPairsOfTopSingles 20 = .ok (.iload_n 2, 1) := by decide +kernel
theorem dX0_topPairsOfTopSingles_21 : decode cX0_topPairsOfTopSingles 21 = .ok (.invokevirtual 65, 3) := by decide +kernel
theorem dX0_topPairsOfTopSingles_24 : decode cX0_topPairsOfTopSingles 24 = .ok (.if_icmp .ge 69, 3) := by decide +kernel
theorem dX0_topPairsOfTopSingles_27 : decode cX0_topPairsOfTopSingles 27 = .ok (.iconst 0, 1) := by decide +kernel
theorem dX0_topPairsOfTopSingles_28 : decode cX0_topPairsOfTopSingles 28 = .ok (.istore 5, 2) := by decide +kernel
theorem dX0_topPairsOfTopSingles_30 : decode cX0_topPairsOfTopSingles 30 = .ok (.iload 5, 2) := by decide +kernel
theorem dX0_topPairsOfTopSingles_32 : decode cX0_topPairsOfTopSingles 32 = .ok (.aload_n 0, 1) := by decide +kernel
theorem dX0_topPairsOfTopSingles_33 : decode cX0_topPairsOfTopSingles 33 = .ok (.iload_n 3, 1) := by decide +kernel
theorem dX0_topPairsOfTopSingles_34 : decode cX0_topPairsOfTopSingles 34 = .ok (.invokevirtual 65, 3) := by decide +kernel
theorem dX0_topPairsOfTopSingles_37 : decode cX0_topPairsOfTopSingles 37 = .ok (.if_icmp .ge 50, 3) := by decide +kernel
theorem dX0_topPairsOfTopSingles_40 : decode cX0_topPairsOfTopSingles 40 = .ok (.aload_n 0, 1) := by decide +kernel
theorem dX0_topPairsOfTopSingles_41 : decode cX0_topPairsOfTopSingles 41 = .ok (.iload_n 2, 1) := by decide +kernel
theorem dX0_topPairsOfTopSingles_42 : decode cX0_topPairsOfTopSingles 42 = .ok (.iload 4, 2) := by decide +kernel
theorem dX0_topPairsOfTopSingles_44 : decode cX0_topPairsOfTopSingles 44 = .ok (.invokevirtual 102, 3) := by decide +kernel
theorem dX0_topPairsOfTopSingles_47 : decode cX0_topPairsOfTopSingles 47 = .ok (.aload_n 0, 1) := by decide +kernel
theorem dX0_topPairsOfTopSingles_48 : decode cX0_topPairsOfTopSingles 48 = .ok (.getfield 29, 3) := by decide +kernel
theorem dX0_topPairsOfTopSingles_51 : decode cX0_topPairsOfTopSingles 51 = .ok (.if_icmp .eq 17, 3) := by decide +kernel
theorem dX0_topPairsOfTopSingles_54 : decode cX0_topPairsOfTopSingles 54 = .ok (.aload_n 0, 1) := by decide +kernel
theorem dX0_topPairsOfTopSingles_55 : decode cX0_topPairsOfTopSingles 55 = .ok (.iload_n 3, 1) := by decide +kernel
theorem dX0_topPairsOfTopSingles_56 : decode cX0_topPairsOfTopSingles 56 = .ok (.iload 5, 2) := by decide +kernel
theorem dX0_topPairsOfTopSingles_58 : decode cX0_topPairsOfTopSingles 58 = .ok (.invokevirtual 102, 3) := by decide +kernel
theorem dX0_topPairsOfTopSingles_61 : decode cX0_topPairsOfTopSingles 61 = .ok (.aload_n 0, 1) := by decide +kernel
theorem dX0_topPairsOfTopSingles_62 : decode cX0_topPairsOfTopSingles 62 = .ok (.getfield 29, 3) := by decide +kernel
theorem dX0_topPairsOfTopSingles_65 : decode cX0_topPairsOfTopSingles 65 = .ok (.if_icmp .ne 16, 3) := by decide +kernel
theorem dX0_topPairsOfTopSingles_68 : decode cX0_topPairsOfTopSingles 68 = .ok (.aload_n 0, 1) := by decide +kernel
theorem dX0_topPairsOfTopSingles_69 : decode cX0_topPairsOfTopSingles 69 = .ok (.iload_n 1, 1) := by decide +kernel
theorem dX0_topPairsOfTopSingles_70 : decode cX0_topPairsOfTopSingles 70 = .ok (.iload 4, 2) := by decide +kernel
theorem dX0_topPairsOfTopSingles_72 : decode cX0_topPairsOfTopSingles 72 = .ok (.iload 5, 2) := by decide +kernel
theorem dX0_topPairsOfTopSingles_74 : decode cX0_topPairsOfTopSingles 74 = .ok (.aload_n 0, 1) := by decide +kernel
theorem dX0_topPairsOfTopSingles_75 : decode cX0_topPairsOfTopSingles 75 = .ok (.getfield 29, 3) := by decide +kernel
theorem dX0_topPairsOfTopSingles_78 : decode cX0_topPairsOfTopSingles 78 = .ok (.invokevirtual 75, 3) := by decide +kernel
theorem dX0_topPairsOfTopSingles_81 : decode cX0_topPairsOfTopSingles 81 = .ok (.iinc 5 1, 3) := by decide +kernel
theorem dX0_topPairsOfTopSingles_84 : decode cX0_topPairsOfTopSingles 84 = .ok (.goto (-54), 3) := by decide +kernel
theorem dX0_topPairsOfTopSingles_87 : decode cX0_topPairsOfTopSingles 87 = .ok (.iinc 4 1, 3) := by decide +kernel
theorem dX0_topPairsOfTopSingles_90 : decode cX0_topPairsOfTopSingles 90 = .ok (.goto (-73), 3) := by decide +kernel
theorem dX0_topPairsOfTopSingles_93 : decode cX0_topPairsOfTopSingles 93 = .ok (.return_, 1) := by decide +kernel
theorem dX1_init_0 : decode cX1_init 0 = .ok (.aload_n 0, 1) := by decide +kernel
theorem dX1_init_1 : decode cX1_init 1 = .ok (.invokespecial 3, 3) := by decide +kernel
theorem dX1_init_4 : decode cX1_init 4 = .ok (.aload_n 0, 1) := by decide +kernel
theorem dX1_init_5 : decode cX1_init 5 = .ok (.bipush 6, 2) := by decide +kernel
theorem dX1_init_7 : decode cX1_init 7 = .ok (.anewarray 9, 3) := by decide +kernel
theorem dX1_init_10 : decode cX1_init 10 = .ok (.putfield 11, 3) := by decide +kernel
theorem dX1_init_13 : decode cX1_init 13 = .ok (.iconst 0, 1) := by decide +kernel
theorem dX1_init_14 : decode cX1_init 14 = .ok (.istore_n 1, 1) := by decide +kernel
theorem dX1_init_15 : decode cX1_init 15 = .ok (.iload_n 1, 1) := by decide +kernel
theorem dX1_init_16 : decode cX1_init 16 = .ok (.aload_n 0, 1) := by decide +kernel
theorem dX1_init_17 : decode cX1_init 17 = .ok (.getfield 11, 3) := by decide +kernel
theorem dX1_init_20 : decode cX1_init 20 = .ok (.arraylength, 1) := by decide +kernel
theorem dX1_init_21 : decode cX1_init 21 = .ok (.if_icmp .ge 25, 3) := by decide +kernel
theorem dX1_init_24 : decode cX1_init 24 = .ok (.aload_n 0, 1) := by decide +kernel
theorem dX1_init_25 : decode cX1_init 25 = .ok (.getfield 11, 3) := by decide +kernel
theorem dX1_init_28 : decode cX1_init 28 = .ok (.iload_n 1, 1) := by decide +kernel
theorem dX1_init_29 : decode cX1_init 29 = .ok (.new 9, 3) := by decide +kernel
theorem dX1_init_32 : decode cX1_init 32 = .ok (.dup, 1) := by decide +kernel
theorem dX1_init_33 : decode cX1_init 33 = .ok (.sipush 169, 3) := by decide +kernel
theorem dX1_init_36 : decode cX1_init 36 = .ok (.invokespecial 17, 3) := by decide +kernel
theorem dX1_init_39 : decode cX1_init 39 = .ok (.aastore, 1) := by decide +kernel
theorem dX1_init_40 : decode cX1_init 40 = .ok (.iinc 1 1, 3) := by decide +kernel
theorem dX1_init_43 : decode cX1_init 43 = .ok (.goto (-28), 3) := by decide +kernel
theorem dX1_init_46 : decode cX1_init 46 = .ok (.return_, 1) := by decide +kernel
theorem dX1_size_0 : decode cX1_size 0 = .ok (.aload_n 0, 1) := by decide +kernel
theorem dX1_size_1 : decode cX1_size 1 = .ok (.getfield 20, 3) := by decide +kernel
theorem dX1_size_4 : decode cX1_size 4 = .ok (.ireturn, 1) := by decide +kernel
theorem dX1_clear_0 : decode cX1_clear 0 = .ok (.aload_n 0, 1) := by decide +kernel
theorem dX1_clear_1 : decode cX1_clear 1 = .ok (.iconst 0, 1) := by decide +kernel
theorem dX1_clear_2 : decode cX1_clear 2 = .ok (.putfield 20, 3) := by decide +kernel
theorem dX1_clear_5 : decode cX1_clear 5 = .ok (.return_, 1) := by decide +kernel
theorem dX1_keep_0 : decode cX1_keep 0 = .ok (.aload_n 0, 1) := by decide +kernel
theorem dX1_keep_1 : decode cX1_keep 1 = .ok (.getfield 24, 3) := by decide +kernel
theorem dX1_keep_4 : decode cX1_keep 4 = .ok (.ifCond .lt 27, 3) := by decide +kernel
theorem dX1_keep_7 : decode cX1_keep 7 = .ok (.aload_n 0, 1) := by decide +kernel
theorem dX1_keep_8 : decode cX1_keep 8 = .ok (.getfield 24, 3) := by decide +kernel
theorem dX1_keep_11 : decode cX1_keep 11 = .ok (.aload_n 0, 1) := by decide +kernel
theorem dX1_keep_12 : decode cX1_keep 12 = .ok (.getfield 11, 3) := by decide +kernel
theorem dX1_keep_15 : decode cX1_keep 15 = .ok (.arraylength, 1) := by decide +kernel
theorem dX1_keep_16 : decode cX1_keep 16 = .ok (.if_icmp .ge 15, 3) := by decide +kernel
theorem dX1_keep_19 : decode cX1_keep 19 = .ok (.aload_n 0, 1) := by decide +kernel
theorem dX1_keep_20 : decode cX1_keep 20 = .ok (.getfield 11, 3) := by decide +kernel
theorem dX1_keep_23 : decode cX1_keep 23 = .ok (.aload_n 0, 1) := by decide +kernel
theorem dX1_keep_24 : decode cX1_keep 24 = .ok (.getfield 24, 3) := by decide +kernel
theorem dX1_keep_27 : decode cX1_keep 27 = .ok (.aaload, 1) := by decide +kernel
theorem dX1_keep_28 : decode cX1_keep 28 = .ok (.ifnonnull 4, 3) := by decide +kernel
theorem dX1_keep_31 : decode cX1_keep 31 = .ok (.return_, 1) := by decide +kernel
theorem dX1_keep_32 : decode cX1_keep 32 = .ok (.aload_n 1, 1) := by decide +kernel
theorem dX1_keep_33 : decode cX1_keep 33 = .ok (.aload_n 0, 1) := by decide +kernel
theorem dX1_keep_34 : decode cX1_keep 34 = .ok (.getfield 11, 3) := by decide +kernel
theorem dX1_keep_37 : decode cX1_keep 37 = .ok (.aload_n 0, 1) := by decide +kernel
theorem dX1_keep_38 : decode cX1_keep 38 = .ok (.getfield 24, 3) := by decide +kernel
theorem dX1_keep_41 : decode cX1_keep 41 = .ok (.aaload, 1) := by decide +kernel
theorem dX1_keep_42 : decode cX1_keep 42 = .ok (.invokevirtual 27, 3) := by decide +kernel
theorem dX1_keep_45 : decode cX1_keep 45 = .ok (.aload_n 0, 1) := by decide +kernel
theorem dX1_keep_46 : decode cX1_keep 46 = .ok (.aload_n 0, 1) := by decide +kernel
theorem dX1_keep_47 : decode cX1_keep 47 = .ok (.getfield 24, 3) := by decide +kernel
theorem dX1_keep_50 : decode cX1_keep 50 = .ok (.iconst 1, 1) := by decide +kernel
theorem dX1_keep_51 : decode cX1_keep 51 = .ok (.iadd, 1) := by decide +kernel
theorem dX1_keep_52 : decode cX1_keep 52 = .ok (.aload_n 0, 1) := by decide +kernel
theorem dX1_keep_53 : decode cX1_keep 53 = .ok (.getfield 11, 3) := by decide +kernel
theorem dX1_keep_56 : decode cX1_keep 56 = .ok (.arraylength, 1) := by decide +kernel
theorem dX1_keep_57 : decode cX1_keep 57 = .ok (.if_icmp .ge 12, 3) := by decide +kernel
theorem dX1_keep_60 : decode cX1_keep 60 = .ok (.aload_n 0, 1) := by decide +kernel
theorem dX1_keep_61 : decode cX1_keep 61 = .ok (.getfield 24, 3) := by decide +kernel
theorem dX1_keep_64 : decode cX1_keep 64 = .ok (.iconst 1, 1) := by decide +kernel
theorem dX1_keep_65 : decode cX1_keep 65 = .ok (.iadd, 1) := by decide +kernel
theorem dX1_keep_66 : decode cX1_keep 66 = .ok (.goto 4, 3) := by decide +kernel
theorem dX1_keep_69 : decode cX1_keep 69 = .ok (.iconst 0, 1) := by decide +kernel
theorem dX1_keep_70 : decode cX1_keep 70 = .ok (.putfield 24, 3) := by decide +kernel
theorem dX1_keep_73 : decode cX1_keep 73 = .ok (.aload_n 0, 1) := by decide +kernel
theorem dX1_keep_74 : decode cX1_keep 74 = .ok (.aload_n 0, 1) := by decide +kernel
theorem dX1_keep_75 : decode cX1_keep 75 = .ok (.getfield 11, 3) := by decide +kernel
theorem dX1_keep_78 : decode cX1_keep 78 = .ok (.arraylength, 1) := by decide +kernel
theorem dX1_keep_79 : decode cX1_keep 79 = .ok (.aload_n 0, 1) := by decide +kernel
theorem dX1_keep_80 : decode cX1_keep 80 = .ok (.getfield 20, 3) := by decide +kernel
theorem dX1_keep_83 : decode cX1_keep 83 = .ok (.iconst 1, 1) := by decide +kernel
theorem dX1_keep_84 : decode cX1_keep 84 = .ok (.iadd, 1) := by decide +kernel
theorem dX1_keep_85 : decode cX1_keep 85 = .ok (.invokestatic 33, 3) := by decide +kernel
theorem dX1_keep_88 : decode cX1_keep 88 = .ok (.putfield 20, 3) := by decide +kernel
theorem dX1_keep_91 : decode cX1_keep 91 = .ok (.return_, 1) := by decide +kernel
theorem dX1_giveBack_0 : decode cX1_giveBack 0 = .ok (.aload_n 0, 1) := by decide +kernel
theorem dX1_giveBack_1 : decode cX1_giveBack 1 = .ok (.getfield 24, 3) := by decide +kernel
theorem dX1_giveBack_4 : decode cX1_giveBack 4 = .ok (.ifCond .le 12, 3) := by decide +kernel
theorem dX1_giveBack_7 : decode cX1_giveBack 7 = .ok (.aload_n 0, 1) := by decide +kernel
theorem dX1_giveBack_8 : decode cX1_giveBack 8 = .ok (.getfield 24, 3) := by decide +kernel
theorem dX1_giveBack_11 : decode cX1_giveBack 11 = .ok (.iconst 1, 1) := by decide +kernel
theorem dX1_giveBack_12 : decode cX1_giveBack 12 = .ok (.isub, 1) := by decide +kernel
theorem dX1_giveBack_13 : decode cX1_giveBack 13 = .ok (.goto 10, 3) := by decide +kernel
theorem dX1_giveBack_16 : decode cX1_giveBack 16 = .ok (.aload_n 0, 1) := by decide +kernel
theorem dX1_giveBack_17 : decode cX1_giveBack 17 = .ok (.getfield 11, 3) := by decide +kernel
theorem dX1_giveBack_20 : decode cX1_giveBack 20 = .ok (.arraylength, 1) := by decide +kernel
theorem dX1_giveBack_21 : decode cX1_giveBack 21 = .ok (.iconst 1, 1) := by decide +kernel
theorem dX1_giveBack_22 : decode cX1_giveBack 22 = .ok (.isub, 1) := by decide +kernel
theorem dX1_giveBack_23 : decode cX1_giveBack 23 = .ok (.istore_n 2, 1) := by decide +kernel
theorem dX1_giveBack_24 : decode cX1_giveBack 24 = .ok (.aload_n 0, 1) := by decide +kernel
theorem dX1_giveBack_25 : decode cX1_giveBack 25 = .ok (.getfield 20, 3) := by decide +kernel
theorem dX1_giveBack_28 : decode cX1_giveBack 28 = .ok (.ifCond .eq 25, 3) := by decide +kernel
theorem dX1_giveBack_31 : decode cX1_giveBack 31 = .ok (.iload_n 2, 1) := by decide +kernel
theorem dX1_giveBack_32 : decode cX1_giveBack 32 = .ok (.ifCond .lt 21, 3) := by decide +kernel
theorem dX1_giveBack_35 : decode cX1_giveBack 35 = .ok (.iload_n 2, 1) := by decide +kernel
theorem dX1_giveBack_36 : decode cX1_giveBack 36 = .ok (.aload_n 0, 1) := by decide +kernel
theorem dX1_giveBack_37 : decode cX1_giveBack 37 = .ok (.getfield 11, 3) := by decide +kernel
theorem dX1_giveBack_40 : decode cX1_giveBack 40 = .ok (.arraylength, 1) := by decide +kernel
theorem dX1_giveBack_41 : decode cX1_giveBack 41 = .ok (.if_icmp .ge 12, 3) := by decide +kernel
theorem dX1_giveBack_44 : decode cX1_giveBack 44 = .ok (.aload_n 0, 1) := by decide +kernel
theorem dX1_giveBack_45 : decode cX1_giveBack 45 = .ok (.getfield 11, 3) := by decide +kernel
theorem dX1_giveBack_48 : decode cX1_giveBack 48 = .ok (.iload_n 2, 1) := by decide +kernel
theorem dX1_giveBack_49 : decode cX1_giveBack 49 = .ok (.aaload, 1) := by decide +kernel
theorem dX1_giveBack_50 : decode cX1_giveBack 50 = .ok (.ifnonnull 5, 3) := by decide +kernel
theorem dX1_giveBack_53 : decode cX1_giveBack 53 = .ok (.iconst 0, 1) := by decide +kernel
theorem dX1_giveBack_54 : decode cX1_giveBack 54 = .ok (.ireturn, 1) := by decide +kernel
theorem dX1_giveBack_55 : decode cX1_giveBack 55 = .ok (.aload_n 1, 1) := by decide +kernel
theorem dX1_giveBack_56 : decode cX1_giveBack 56 = .ok (.aload_n 0, 1) := by decide +kernel
theorem dX1_giveBack_57 : decode cX1_giveBack 57 = .ok (.getfield 11, 3) := by decide +kernel
theorem dX1_giveBack_60 : decode cX1_giveBack 60 = .ok (.iload_n 2, 1) := by decide +kernel
theorem dX1_giveBack_61 : decode cX1_giveBack 61 = .ok (.aaload, 1) := by decide +kernel
theorem dX1_giveBack_62 : decode cX1_giveBack 62 = .ok (.invokevirtual 39, 3) := by decide +kernel
theorem dX1_giveBack_65 : decode cX1_giveBack 65 = .ok (.aload_n 0, 1) := by decide +kernel
theorem dX1_giveBack_66 : decode cX1_giveBack 66 = .ok (.iload_n 2, 1) := by decide +kernel
theorem dX1_giveBack_67 : decode cX1_giveBack 67 = .ok (.putfield 24, 3) := by decide +kernel
theorem dX1_giveBack_70 : decode cX1_giveBack 70 = .ok (.aload_n 0, 1) := by decide +kernel
theorem dX1_giveBack_71 : decode cX1_giveBack 71 = .ok (.dup, 1) := by decide +kernel
theorem dX1_giveBack_72 : decode cX1_giveBack 72 = .ok (.getfield 20, 3) := by decide +kernel
theorem dX1_giveBack_75 : decode cX1_giveBack 75 = .ok (.iconst 1, 1) := by decide +kernel
theorem dX1_giveBack_76 : decode cX1_giveBack 76 = .ok (.isub, 1) := by decide +kernel
theorem dX1_giveBack_77 : decode cX1_giveBack 77 = .ok (.putfield 20, 3) := by decide +kernel
theorem dX1_giveBack_80 : decode cX1_giveBack 80 = .ok (.iconst 1, 1) := by decide +kernel
theorem dX1_giveBack_81 : decode cX1_giveBack 81 = .ok (.ireturn, 1) := by decide +kernel
theorem dX2_init_0 : decode cX2_init 0 = .ok (.aload_n 0, 1) := by decide +kernel
theorem dX2_init_1 : decode cX2_init 1 = .ok (.invokespecial 3, 3) := by decide +kernel
theorem dX2_init_4 : decode cX2_init 4 = .ok (.aload_n 0, 1) := by decide +kernel
theorem dX2_init_5 : decode cX2_init 5 = .ok (.new 9, 3) := by decide +kernel
theorem dX2_init_8 : decode cX2_init 8 = .ok (.dup, 1) := by decide +kernel
theorem dX2_init_9 : decode cX2_init 9 = .ok (.iconst 4, 1) := by decide +kernel
theorem dX2_init_10 : decode cX2_init 10 = .ok (.invokespecial 13, 3) := by decide +kernel
theorem dX2_init_13 : decode cX2_init 13 = .ok (.putfield 16, 3) := by decide +kernel
theorem dX2_init_16 : decode cX2_init 16 = .ok (.return_, 1) := by decide +kernel
theorem dX2_readAll_0 : decode cX2_readAll 0 = .ok (.aload_n 2, 1) := by decide +kernel
theorem dX2_readAll_1 : decode cX2_readAll 1 = .ok (.invokevirtual 20, 3) := by decide +kernel
theorem dX2_readAll_4 : decode cX2_readAll 4 = .ok (.aload_n 0, 1) := by decide +kernel
theorem dX2_readAll_5 : decode cX2_readAll 5 = .ok (.iconst 0, 1) := by decide +kernel
theorem dX2_readAll_6 : decode cX2_readAll 6 = .ok (.putfield 25, 3) := by decide +kernel
theorem dX2_readAll_9 : decode cX2_readAll 9 = .ok (.iconst 0, 1) := by decide +kernel
theorem dX2_readAll_10 : decode cX2_readAll 10 = .ok (.istore_n 3, 1) := by decide +kernel
theorem dX2_readAll_11 : decode cX2_readAll 11 = .ok (.iload_n 3, 1) := by decide +kernel
theorem dX2_readAll_12 : decode cX2_readAll 12 = .ok (.sipush 200, 3) := by decide +kernel
theorem dX2_readAll_15 : decode cX2_readAll 15 = .ok (.if_icmp .ge 38, 3) := by decide +kernel
theorem dX2_readAll_18 : decode cX2_readAll 18 = .ok (.aload_n 0, 1) := by decide +kernel
theorem dX2_readAll_19 : decode cX2_readAll 19 = .ok (.getfield 25, 3) := by decide +kernel
theorem dX2_readAll_22 : decode cX2_readAll 22 = .ok (.aload_n 1, 1) := by decide +kernel
theorem dX2_readAll_23 : decode cX2_readAll 23 = .ok (.invokevirtual 29, 3) := by decide +kernel
theorem dX2_readAll_26 : decode cX2_readAll 26 = .ok (.if_icmp .ge 27, 3) := by decide +kernel
theorem dX2_readAll_29 : decode cX2_readAll 29 = .ok (.aload_n 0, 1) := by decide +kernel
theorem dX2_readAll_30 : decode cX2_readAll 30 = .ok (.getfield 25, 3) := by decide +kernel
theorem dX2_readAll_33 : decode cX2_readAll 33 = .ok (.istore 4, 2) := by decide +kernel
theorem dX2_readAll_35 : decode cX2_readAll 35 = .ok (.aload_n 0, 1) := by decide +kernel
theorem dX2_readAll_36 : decode cX2_readAll 36 = .ok (.aload_n 1, 1) := by decide +kernel
theorem dX2_readAll_37 : decode cX2_readAll 37 = .ok (.aload_n 2, 1) := by decide +kernel
theorem dX2_readAll_38 : decode cX2_readAll 38 = .ok (.invokevirtual 35, 3) := by decide +kernel
theorem dX2_readAll_41 : decode cX2_readAll 41 = .ok (.ifCond .ne 6, 3) := by decide +kernel
theorem dX2_readAll_44 : decode cX2_readAll 44 = .ok (.iload 4, 2) := by decide +kernel
theorem dX2_readAll_46 : decode cX2_readAll 46 = .ok (.ireturn, 1) := by decide +kernel
theorem dX2_readAll_47 : decode cX2_readAll 47 = .ok (.iinc 3 1, 3) := by decide +kernel
theorem dX2_readAll_50 : decode cX2_readAll 50 = .ok (.goto (-39), 3) := by decide +kernel
theorem dX2_readAll_53 : decode cX2_readAll 53 = .ok (.aload_n 2, 1) := by decide +kernel
theorem dX2_readAll_54 : decode cX2_readAll 54 = .ok (.invokevirtual 39, 3) := by decide +kernel
theorem dX2_readAll_57 : decode cX2_readAll 57 = .ok (.bipush (-4), 2) := by decide +kernel
theorem dX2_readAll_59 : decode cX2_readAll 59 = .ok (.ireturn, 1) := by decide +kernel
theorem dX2_readItem_0 : decode cX2_readItem 0 = .ok (.aload_n 1, 1) := by decide +kernel
theorem dX2_readItem_1 : decode cX2_readItem 1 = .ok (.aload_n 0, 1) := by decide +kernel
theorem dX2_readItem_2 : decode cX2_readItem 2 = .ok (.getfield 25, 3) := by decide +kernel
theorem dX2_readItem_5 : decode cX2_readItem 5 = .ok (.invokevirtual 42, 3) := by decide +kernel
theorem dX2_readItem_8 : decode cX2_readItem 8 = .ok (.istore_n 3, 1) := by decide +kernel
theorem dX2_readItem_9 : decode cX2_readItem 9 = .ok (.aload_n 0, 1) := by decide +kernel
theorem dX2_readItem_10 : decode cX2_readItem 10 = .ok (.dup, 1) := by decide +kernel
theorem dX2_readItem_11 : decode cX2_readItem 11 = .ok (.getfield 25, 3) := by decide +kernel
theorem dX2_readItem_14 : decode cX2_readItem 14 = .ok (.iconst 1, 1) := by decide +kernel
theorem dX2_readItem_15 : decode cX2_readItem 15 = .ok (.iadd, 1) := by decide +kernel
theorem dX2_readItem_16 : decode cX2_readItem 16 = .ok (.putfield 25, 3) := by decide +kernel
theorem dX2_readItem_19 : decode cX2_readItem 19 = .ok (.iload_n 3, 1) := by decide +kernel
theorem dX2_readItem_20 : decode cX2_readItem 20 = .ok (.invokestatic 46, 3) := by decide +kernel
theorem dX2_readItem_23 : decode cX2_readItem 23 = .ok (.istore 4, 2) := by decide +kernel
theorem dX2_readItem_25 : decode cX2_readItem 25 = .ok (.iload 4, 2) := by decide +kernel
theorem dX2_readItem_27 : decode cX2_readItem 27 = .ok (.ifCond .le 26, 3) := by decide +kernel
theorem dX2_readItem_30 : decode cX2_readItem 30 = .ok (.aload_n 0, 1) := by decide +kernel
theorem dX2_readItem_31 : decode cX2_readItem 31 = .ok (.aload_n 1, 1) := by decide +kernel
theorem dX2_readItem_32 : decode cX2_readItem 32 = .ok (.iload 4, 2) := by decide +kernel
theorem dX2_readItem_34 : decode cX2_readItem 34 = .ok (.invokevirtual 49, 3) := by decide +kernel
theorem dX2_readItem_37 : decode cX2_readItem 37 = .ok (.ifCond .eq 16, 3) := by decide +kernel
theorem dX2_readItem_40 : decode cX2_readItem 40 = .ok (.aload_n 0, 1) := by decide +kernel
theorem dX2_readItem_41 : decode cX2_readItem 41 = .ok (.iload_n 3, 1) := by decide +kernel
theorem dX2_readItem_42 : decode cX2_readItem 42 = .ok (.aload_n 2, 1) := by decide +kernel
theorem dX2_readItem_43 : decode cX2_readItem 43 = .ok (.invokevirtual 53, 3) := by decide +kernel
theorem dX2_readItem_46 : decode cX2_readItem 46 = .ok (.ifCond .eq 7, 3) := by decide +kernel
theorem dX2_readItem_49 : decode cX2_readItem 49 = .ok (.iconst 1, 1) := by decide +kernel
theorem dX2_readItem_50 : decode cX2_readItem 50 = .ok (.goto 4, 3) := by decide +kernel
theorem dX2_readItem_53 : decode cX2_readItem 53 = .ok (.iconst 0, 1) := by decide +kernel
theorem dX2_readItem_54 : decode cX2_readItem 54 = .ok (.ireturn, 1) := by decide +kernel
theorem dX2_numbersOf_0 : decode cX2_numbersOf 0 = .ok (.iload_n 0, 1) := by decide +kernel
theorem dX2_numbersOf_1 : decode cX2_numbersOf 1 = .ok (.lookupswitch 61 #[(98, 57), (99, 59), (116, 51), (117, 55), (118, 53)], 51) := by decide +kernel
theorem dX2_numbersOf_52 : decode cX2_numbersOf 52 = .ok (.iconst 1, 1) := by decide +kernel
theorem dX2_numbersOf_53 : decode cX2_numbersOf 53 = .ok (.ireturn, 1) := by decide +kernel
theorem dX2_numbersOf_54 : decode cX2_numbersOf 54 = .ok (.iconst 1, 1) := by decide +kernel
theorem dX2_numbersOf_55 : decode cX2_numbersOf 55 = .ok (.ireturn, 1) := by decide +kernel
theorem dX2_numbersOf_56 : decode cX2_numbersOf 56 = .ok (.iconst 3, 1) := by decide +kernel
theorem dX2_numbersOf_57 : decode cX2_numbersOf 57 = .ok (.ireturn, 1) := by decide +kernel
theorem dX2_numbersOf_58 : decode cX2_numbersOf 58 = .ok (.iconst 3, 1) := by decide +kernel
theorem dX2_numbersOf_59 : decode cX2_numbersOf 59 = .ok (.ireturn, 1) := by decide +kernel
theorem dX2_numbersOf_60 : decode cX2_numbersOf 60 = .ok (.iconst 4, 1) := by decide +kernel
theorem dX2_numbersOf_61 : decode cX2_numbersOf 61 = .ok (.ireturn, 1) := by decide +kernel
theorem dX2_numbersOf_62 : decode cX2_numbersOf 62 = .ok (.iconst 0, 1) := by decide +kernel
theorem dX2_numbersOf_63 : decode cX2_numbersOf 63 = .ok (.ireturn, 1) := by decide +kernel
theorem dX2_readNumbers_0 : decode cX2_readNumbers 0 = .ok (.iconst 0, 1) := by decide +kernel
theorem dX2_readNumbers_1 : decode cX2_readNumbers 1 = .ok (.istore_n 3, 1) := by decide +kernel
theorem dX2_readNumbers_2 : decode cX2_readNumbers 2 = .ok (.iload_n 3, 1) := by decide +kernel
theorem dX2_readNumbers_3 : decode cX2_readNumbers 3 = .ok (.iload_n 2, 1) := by decide +kernel
theorem dX2_readNumbers_4 : decode cX2_readNumbers 4 = .ok (.if_icmp .ge 59, 3) := by decide +kernel
theorem dX2_readNumbers_7 : decode cX2_readNumbers 7 = .ok (.iload_n 3, 1) := by decide +kernel
theorem dX2_readNumbers_8 : decode cX2_readNumbers 8 = .ok (.iload_n 2, 1) := by decide +kernel
theorem dX2_readNumbers_9 : decode cX2_readNumbers 9 = .ok (.iconst 1, 1) := by decide +kernel
theorem dX2_readNumbers_10 : decode cX2_readNumbers 10 = .ok (.isub, 1) := by decide +kernel
theorem dX2_readNumbers_11 : decode cX2_readNumbers 11 = .ok (.if_icmp .ne 8, 3) := by decide +kernel
theorem dX2_readNumbers_14 : decode cX2_readNumbers 14 = .ok (.bipush 59, 2) := by decide +kernel
theorem dX2_readNumbers_16 : decode cX2_readNumbers 16 = .ok (.goto 5, 3) := by decide +kernel
theorem dX2_readNumbers_19 : decode cX2_readNumbers 19 = .ok (.bipush 44, 2) := by decide +kernel
theorem dX2_readNumbers_21 : decode cX2_readNumbers 21 = .ok (.istore 4, 2) := by decide +kernel
theorem dX2_readNumbers_23 : decode cX2_readNumbers 23 = .ok (.aload_n 0, 1) := by decide +kernel
theorem dX2_readNumbers_24 : decode cX2_readNumbers 24 = .ok (.aload_n 1, 1) := by decide +kernel
theorem dX2_readNumbers_25 : decode cX2_readNumbers 25 = .ok (.iload_n 3, 1) := by decide +kernel
theorem dX2_readNumbers_26 : decode cX2_readNumbers 26 = .ok (.invokevirtual 57, 3) := by decide +kernel
theorem dX2_readNumbers_29 : decode cX2_readNumbers 29 = .ok (.ifCond .eq 16, 3) := by decide +kernel
theorem dX2_readNumbers_32 : decode cX2_readNumbers 32 = .ok (.aload_n 1, 1) := by decide +kernel
theorem dX2_readNumbers_33 : decode cX2_readNumbers 33 = .ok (.aload_n 0, 1) := by decide +kernel
theorem dX2_readNumbers_34 : decode cX2_readNumbers 34 = .ok (.getfield 25, 3) := by decide +kernel
theorem dX2_readNumbers_37 : decode cX2_readNumbers 37 = .ok (.invokevirtual 42, 3) := by decide +kernel
theorem dX2_readNumbers_40 : decode cX2_readNumbers 40 = .ok (.iload 4, 2) := by decide +kernel
theorem dX2_readNumbers_42 : decode cX2_readNumbers 42 = .ok (.if_icmp .eq 5, 3) := by decide +kernel
theorem dX2_readNumbers_45 : decode cX2_readNumbers 45 = .ok (.iconst 0, 1) := by decide +kernel
theorem dX2_readNumbers_46 : decode cX2_readNumbers 46 = .ok (.ireturn, 1) := by decide +kernel
theorem dX2_readNumbers_47 : decode cX2_readNumbers 47 = .ok (.aload_n 0, 1) := by decide +kernel
theorem dX2_readNumbers_48 : decode cX2_readNumbers 48 = .ok (.dup, 1) := by decide +kernel
theorem dX2_readNumbers_49 : decode cX2_readNumbers 49 = .ok (.getfield 25, 3) := by decide +kernel
theorem dX2_readNumbers_52 : decode cX2_readNumbers 52 = .ok (.iconst 1, 1) := by decide +kernel
theorem dX2_readNumbers_53 : decode cX2_readNumbers 53 = .ok (.iadd, 1) := by decide +kernel
theorem dX2_readNumbers_54 : decode cX2_readNumbers 54 = .ok (.putfield 25, 3) := by decide +kernel
theorem dX2_readNumbers_57 : decode cX2_readNumbers 57 = .ok (.iinc 3 1, 3) := by decide +kernel
theorem dX2_readNumbers_60 : decode cX2_readNumbers 60 = .ok (.goto (-58), 3) := by decide +kernel
theorem dX2_readNumbers_63 : decode cX2_readNumbers 63 = .ok (.iconst 1, 1) := by decide +kernel
theorem dX2_readNumbers_64 : decode cX2_readNumbers 64 = .ok (.ireturn, 1) := by decide +kernel
theorem dX2_readNumber_0 : decode cX2_readNumber 0 = .ok (.aload_n 1, 1) := by decide +kernel
theorem dX2_readNumber_1 : decode cX2_readNumber 1 = .ok (.aload_n 0, 1) := by decide +kernel
theorem dX2_readNumber_2 : decode cX2_readNumber 2 = .ok (.getfield 25, 3) := by decide +kernel
theorem dX2_readNumber_5 : decode cX2_readNumber 5 = .ok (.invokevirtual 42, 3) := by decide +kernel
theorem dX2_readNumber_8 : decode cX2_readNumber 8 = .ok (.invokestatic 60, 3) := by decide +kernel
theorem dX2_readNumber_11 : decode cX2_readNumber 11 = .ok (.ifCond .ne 5, 3) := by decide +kernel
theorem dX2_readNumber_14 : decode cX2_readNumber 14 = .ok (.iconst 0, 1) := by decide +kernel
theorem dX2_readNumber_15 : decode cX2_readNumber 15 = .ok (.ireturn, 1) := by decide +kernel
theorem dX2_readNumber_16 : decode cX2_readNumber 16 = .ok (.aload_n 1, 1) := by decide +kernel
theorem dX2_readNumber_17 : decode cX2_readNumber 17 = .ok (.aload_n 0, 1) := by decide +kernel
theorem dX2_readNumber_18 : decode cX2_readNumber 18 = .ok (.getfield 25, 3) := by decide +kernel
theorem dX2_readNumber_21 : decode cX2_readNumber 21 = .ok (.invokevirtual 42, 3) := by decide +kernel
theorem dX2_readNumber_24 : decode cX2_readNumber 24 = .ok (.bipush 48, 2) := by decide +kernel
theorem dX2_readNumber_26 : decode cX2_readNumber 26 = .ok (.isub, 1) := by decide +kernel
theorem dX2_readNumber_27 : decode cX2_readNumber 27 = .ok (.istore_n 3, 1) := by decide +kernel
theorem dX2_readNumber_28 : decode cX2_readNumber 28 = .ok (.aload_n 0, 1) := by decide +kernel
theorem dX2_readNumber_29 : decode cX2_readNumber 29 = .ok (.dup, 1) := by decide +kernel
theorem dX2_readNumber_30 : decode cX2_readNumber 30 = .ok (.getfield 25, 3) := by decide +kernel
theorem dX2_readNumber_33 : decode cX2_readNumber 33 = .ok (.iconst 1, 1) := by decide +kernel
theorem dX2_readNumber_34 : decode cX2_readNumber 34 = .ok (.iadd, 1) := by decide +kernel
theorem dX2_readNumber_35 : decode cX2_readNumber 35 = .ok (.putfield 25, 3) := by decide +kernel
theorem dX2_readNumber_38 : decode cX2_readNumber 38 = .ok (.aload_n 1, 1) := by decide +kernel
theorem dX2_readNumber_39 : decode cX2_readNumber 39 = .ok (.aload_n 0, 1) := by decide +kernel
theorem dX2_readNumber_40 : decode cX2_readNumber 40 = .ok (.getfield 25, 3) := by decide +kernel
theorem dX2_readNumber_43 : decode cX2_readNumber 43 = .ok (.invokevirtual 42, 3) := by decide +kernel
theorem dX2_readNumber_46 : decode cX2_readNumber 46 = .ok (.invokestatic 60, 3) := by decide +kernel
theorem dX2_readNumber_49 : decode cX2_readNumber 49 = .ok (.ifCond .eq 30, 3) := by decide +kernel
theorem dX2_readNumber_52 : decode cX2_readNumber 52 = .ok (.bipush 10, 2) := by decide +kernel
theorem dX2_readNumber_54 : decode cX2_readNumber 54 = .ok (.iload_n 3, 1) := by decide +kernel
theorem dX2_readNumber_55 : decode cX2_readNumber 55 = .ok (.imul, 1) := by decide +kernel
theorem dX2_readNumber_56 : decode cX2_readNumber 56 = .ok (.aload_n 1, 1) := by decide +kernel
theorem dX2_readNumber_57 : decode cX2_readNumber 57 = .ok (.aload_n 0, 1) := by decide +kernel
theorem dX2_readNumber_58 : decode cX2_readNumber 58 = .ok (.getfield 25, 3) := by decide +kernel
theorem dX2_readNumber_61 : decode cX2_readNumber 61 = .ok (.invokevirtual 42, 3) := by decide +kernel
theorem dX2_readNumber_64 : decode cX2_readNumber 64 = .ok (.iadd, 1) := by decide +kernel
theorem dX2_readNumber_65 : decode cX2_readNumber 65 = .ok (.bipush 48, 2) := by decide +kernel
theorem dX2_readNumber_67 : decode cX2_readNumber 67 = .ok (.isub, 1) := by decide +kernel
theorem dX2_readNumber_68 : decode cX2_readNumber 68 = .ok (.istore_n 3, 1) := by decide +kernel
theorem dX2_readNumber_69 : decode cX2_readNumber 69 = .ok (.aload_n 0, 1) := by decide +kernel
theorem dX2_readNumber_70 : decode cX2_readNumber 70 = .ok (.dup, 1) := by decide +kernel
theorem dX2_readNumber_71 : decode cX2_readNumber 71 = .ok (.getfield 25, 3) := by decide +kernel
theorem dX2_readNumber_74 : decode cX2_readNumber 74 = .ok (.iconst 1, 1) := by decide +kernel
theorem dX2_readNumber_75 : decode cX2_readNumber 75 = .ok (.iadd, 1) := by decide +kernel
theorem dX2_readNumber_76 : decode cX2_readNumber 76 = .ok (.putfield 25, 3) := by decide +kernel
theorem dX2_readNumber_79 : decode cX2_readNumber 79 = .ok (.aload_n 0, 1) := by decide +kernel
theorem dX2_readNumber_80 : decode cX2_readNumber 80 = .ok (.getfield 16, 3) := by decide +kernel
theorem dX2_readNumber_83 : decode cX2_readNumber 83 = .ok (.iload_n 2, 1) := by decide +kernel
theorem dX2_readNumber_84 : decode cX2_readNumber 84 = .ok (.iload_n 3, 1) := by decide +kernel
theorem dX2_readNumber_85 : decode cX2_readNumber 85 = .ok (.invokevirtual 64, 3) := by decide +kernel
theorem dX2_readNumber_88 : decode cX2_readNumber 88 = .ok (.iconst 1, 1) := by decide +kernel
theorem dX2_readNumber_89 : decode cX2_readNumber 89 = .ok (.ireturn, 1) := by decide +kernel
theorem dX2_isFigure_0 : decode cX2_isFigure 0 = .ok (.iload_n 0, 1) := by decide +kernel
theorem dX2_isFigure_1 : decode cX2_isFigure 1 = .ok (.bipush 48, 2) := by decide +kernel
theorem dX2_isFigure_3 : decode cX2_isFigure 3 = .ok (.if_icmp .lt 13, 3) := by decide +kernel
theorem dX2_isFigure_6 : decode cX2_isFigure 6 = .ok (.iload_n 0, 1) := by decide +kernel
theorem dX2_isFigure_7 : decode cX2_isFigure 7 = .ok (.bipush 57, 2) := by decide +kernel
theorem dX2_isFigure_9 : decode cX2_isFigure 9 = .ok (.if_icmp .gt 7, 3) := by decide +kernel
theorem dX2_isFigure_12 : decode cX2_isFigure 12 = .ok (.iconst 1, 1) := by decide +kernel
theorem dX2_isFigure_13 : decode cX2_isFigure 13 = .ok (.goto 4, 3) := by decide +kernel
theorem dX2_isFigure_16 : decode cX2_isFigure 16 = .ok (.iconst 0, 1) := by decide +kernel
theorem dX2_isFigure_17 : decode cX2_isFigure 17 = .ok (.ireturn, 1) := by decide +kernel
theorem dX2_tell_0 : decode cX2_tell 0 = .ok (.aload_n 0, 1) := by decide +kernel
theorem dX2_tell_1 : decode cX2_tell 1 = .ok (.getfield 16, 3) := by decide +kernel
theorem dX2_tell_4 : decode cX2_tell 4 = .ok (.iconst 0, 1) := by decide +kernel
theorem dX2_tell_5 : decode cX2_tell 5 = .ok (.invokevirtual 68, 3) := by decide +kernel
theorem dX2_tell_8 : decode cX2_tell 8 = .ok (.istore_n 3, 1) := by decide +kernel
theorem dX2_tell_9 : decode cX2_tell 9 = .ok (.aload_n 0, 1) := by decide +kernel
theorem dX2_tell_10 : decode cX2_tell 10 = .ok (.getfield 16, 3) := by decide +kernel
theorem dX2_tell_13 : decode cX2_tell 13 = .ok (.iconst 1, 1) := by decide +kernel
theorem dX2_tell_14 : decode cX2_tell 14 = .ok (.invokevirtual 68, 3) := by decide +kernel
theorem dX2_tell_17 : decode cX2_tell 17 = .ok (.istore 4, 2) := by decide +kernel
theorem dX2_tell_19 : decode cX2_tell 19 = .ok (.aload_n 0, 1) := by decide +kernel
theorem dX2_tell_20 : decode cX2_tell 20 = .ok (.getfield 16, 3) := by decide +kernel
theorem dX2_tell_23 : decode cX2_tell 23 = .ok (.iconst 2, 1) := by decide +kernel
theorem dX2_tell_24 : decode cX2_tell 24 = .ok (.invokevirtual 68, 3) := by decide +kernel
theorem dX2_tell_27 : decode cX2_tell 27 = .ok (.istore 5, 2) := by decide +kernel
theorem dX2_tell_29 : decode cX2_tell 29 = .ok (.iload_n 1, 1) := by decide +kernel
theorem dX2_tell_30 : decode cX2_tell 30 = .ok (.lookupswitch 100 #[(98, 72), (99, 82), (116, 50), (117, 62), (118, 56)], 50) := by decide +kernel
theorem dX2_tell_80 : decode cX2_tell 80 = .ok (.aload_n 2, 1) := by decide +kernel
theorem dX2_tell_81 : decode cX2_tell 81 = .ok (.iload_n 3, 1) := by decide +kernel
theorem dX2_tell_82 : decode cX2_tell 82 = .ok (.invokevirtual 71, 3) := by decide +kernel
theorem dX2_tell_85 : decode cX2_tell 85 = .ok (.ireturn, 1) := by decide +kernel
theorem dX2_tell_86 : decode cX2_tell 86 = .ok (.aload_n 2, 1) := by decide +kernel
theorem dX2_tell_87 : decode cX2_tell 87 = .ok (.iload_n 3, 1) := by decide +kernel
theorem dX2_tell_88 : decode cX2_tell 88 = .ok (.invokevirtual 74, 3) := by decide +kernel
theorem dX2_tell_91 : decode cX2_tell 91 = .ok (.ireturn, 1) := by decide +kernel
theorem dX2_tell_92 : decode cX2_tell 92 = .ok (.aload_n 2, 1) := by decide +kernel
theorem dX2_tell_93 : decode cX2_tell 93 = .ok (.iload_n 3, 1) := by decide +kernel
theorem dX2_tell_94 : decode cX2_tell 94 = .ok (.iload 4, 2) := by decide +kernel
theorem dX2_tell_96 : decode cX2_tell 96 = .ok (.iload 5, 2) := by decide +kernel
theorem dX2_tell_98 : decode cX2_tell 98 = .ok (.invokevirtual 77, 3) := by decide +kernel
theorem dX2_tell_101 : decode cX2_tell 101 = .ok (.ireturn, 1) := by decide +kernel
theorem dX2_tell_102 : decode cX2_tell 102 = .ok (.aload_n 2, 1) := by decide +kernel
theorem dX2_tell_103 : decode cX2_tell 103 = .ok (.iload_n 3, 1) := by decide +kernel
theorem dX2_tell_104 : decode cX2_tell 104 = .ok (.iload 4, 2) := by decide +kernel
theorem dX2_tell_106 : decode cX2_tell 106 = .ok (.iload 5, 2) := by decide +kernel
theorem dX2_tell_108 : decode cX2_tell 108 = .ok (.invokevirtual 81, 3) := by decide +kernel
theorem dX2_tell_111 : decode cX2_tell 111 = .ok (.ireturn, 1) := by decide +kernel
theorem dX2_tell_112 : decode cX2_tell 112 = .ok (.aload_n 2, 1) := by decide +kernel
theorem dX2_tell_113 : decode cX2_tell 113 = .ok (.iload_n 3, 1) := by decide +kernel
theorem dX2_tell_114 : decode cX2_tell 114 = .ok (.iload 4, 2) := by decide +kernel
theorem dX2_tell_116 : decode cX2_tell 116 = .ok (.iload 5, 2) := by decide +kernel
theorem dX2_tell_118 : decode cX2_tell 118 = .ok (.aload_n 0, 1) := by decide +kernel
theorem dX2_tell_119 : decode cX2_tell 119 = .ok (.getfield 16, 3) := by decide +kernel
theorem dX2_tell_122 : decode cX2_tell 122 = .ok (.iconst 3, 1) := by decide +kernel
theorem dX2_tell_123 : decode cX2_tell 123 = .ok (.invokevirtual 68, 3) := by decide +kernel
theorem dX2_tell_126 : decode cX2_tell 126 = .ok (.invokevirtual 84, 3) := by decide +kernel
theorem dX2_tell_129 : decode cX2_tell 129 = .ok (.ireturn, 1) := by decide +kernel
theorem dX2_tell_130 : decode cX2_tell 130 = .ok (.iconst 0, 1) := by decide +kernel
theorem dX2_tell_131 : decode cX2_tell 131 = .ok (.ireturn, 1) := by decide +kernel
theorem dX3_init_0 : decode cX3_init 0 = .ok (.aload_n 0, 1) := by decide +kernel
theorem dX3_init_1 : decode cX3_init 1 = .ok (.invokespecial 1, 3) := by decide +kernel
theorem dX3_init_4 : decode cX3_init 4 = .ok (.aload_n 0, 1) := by decide +kernel
theorem dX3_init_5 : decode cX3_init 5 = .ok (.iconst 0, 1) := by decide +kernel
theorem dX3_init_6 : decode cX3_init 6 = .ok (.iload_n 1, 1) := by decide +kernel
theorem dX3_init_7 : decode cX3_init 7 = .ok (.invokestatic 7, 3) := by decide +kernel
theorem dX3_init_10 : decode cX3_init 10 = .ok (.newarray .int, 2) := by decide +kernel
theorem dX3_init_12 : decode cX3_init 12 = .ok (.putfield 13, 3) := by decide +kernel
theorem dX3_init_15 : decode cX3_init 15 = .ok (.return_, 1) := by decide +kernel
theorem dX3_get_0 : decode cX3_get 0 = .ok (.iload_n 1, 1) := by decide +kernel
theorem dX3_get_1 : decode cX3_get 1 = .ok (.ifCond .lt 21, 3) := by decide +kernel
theorem dX3_get_4 : decode cX3_get 4 = .ok (.iload_n 1, 1) := by decide +kernel
theorem dX3_get_5 : decode cX3_get 5 = .ok (.aload_n 0, 1) := by decide +kernel
theorem dX3_get_6 : decode cX3_get 6 = .ok (.getfield 13, 3) := by decide +kernel
theorem dX3_get_9 : decode cX3_get 9 = .ok (.arraylength, 1) := by decide +kernel
theorem dX3_get_10 : decode cX3_get 10 = .ok (.if_icmp .ge 12, 3) := by decide +kernel
theorem dX3_get_13 : decode cX3_get 13 = .ok (.aload_n 0, 1) := by decide +kernel
theorem dX3_get_14 : decode cX3_get 14 = .ok (.getfield 13, 3) := by decide +kernel
theorem dX3_get_17 : decode cX3_get 17 = .ok (.iload_n 1, 1) := by decide +kernel
theorem dX3_get_18 : decode cX3_get 18 = .ok (.iaload, 1) := by decide +kernel
theorem dX3_get_19 : decode cX3_get 19 = .ok (.goto 4, 3) := by decide +kernel
theorem dX3_get_22 : decode cX3_get 22 = .ok (.iconst 0, 1) := by decide +kernel
theorem dX3_get_23 : decode cX3_get 23 = .ok (.ireturn, 1) := by decide +kernel
theorem dX3_set_0 : decode cX3_set 0 = .ok (.iload_n 1, 1) := by decide +kernel
theorem dX3_set_1 : decode cX3_set 1 = .ok (.ifCond .lt 19, 3) := by decide +kernel
theorem dX3_set_4 : decode cX3_set 4 = .ok (.iload_n 1, 1) := by decide +kernel
theorem dX3_set_5 : decode cX3_set 5 = .ok (.aload_n 0, 1) := by decide +kernel
theorem dX3_set_6 : decode cX3_set 6 = .ok (.getfield 13, 3) := by decide +kernel
theorem dX3_set_9 : decode cX3_set 9 = .ok (.arraylength, 1) := by decide +kernel
theorem dX3_set_10 : decode cX3_set 10 = .ok (.if_icmp .ge 10, 3) := by decide +kernel
theorem dX3_set_13 : decode cX3_set 13 = .ok (.aload_n 0, 1) := by decide +kernel
theorem dX3_set_14 : decode cX3_set 14 = .ok (.getfield 13, 3) := by decide +kernel
theorem dX3_set_17 : decode cX3_set 17 = .ok (.iload_n 1, 1) := by decide +kernel
theorem dX3_set_18 : decode cX3_set 18 = .ok (.iload_n 2, 1) := by decide +kernel
theorem dX3_set_19 : decode cX3_set 19 = .ok (.iastore, 1) := by decide +kernel
theorem dX3_set_20 : decode cX3_set 20 = .ok (.return_, 1) := by decide +kernel
theorem dX3_clear_0 : decode cX3_clear 0 = .ok (.iconst 0, 1) := by decide +kernel
theorem dX3_clear_1 : decode cX3_clear 1 = .ok (.istore_n 1, 1) := by decide +kernel
theorem dX3_clear_2 : decode cX3_clear 2 = .ok (.iload_n 1, 1) := by decide +kernel
theorem dX3_clear_3 : decode cX3_clear 3 = .ok (.aload_n 0, 1) := by decide +kernel
theorem dX3_clear_4 : decode cX3_clear 4 = .ok (.getfield 13, 3) := by decide +kernel
theorem dX3_clear_7 : decode cX3_clear 7 = .ok (.arraylength, 1) := by decide +kernel
theorem dX3_clear_8 : decode cX3_clear 8 = .ok (.if_icmp .ge 16, 3) := by decide +kernel
theorem dX3_clear_11 : decode cX3_clear 11 = .ok (.aload_n 0, 1) := by decide +kernel
theorem dX3_clear_12 : decode cX3_clear 12 = .ok (.getfield 13, 3) := by decide +kernel
theorem dX3_clear_15 : decode cX3_clear 15 = .ok (.iload_n 1, 1) := by decide +kernel
theorem dX3_clear_16 : decode cX3_clear 16 = .ok (.iconst 0, 1) := by decide +kernel
theorem dX3_clear_17 : decode cX3_clear 17 = .ok (.iastore, 1) := by decide +kernel
theorem dX3_clear_18 : decode cX3_clear 18 = .ok (.iinc 1 1, 3) := by decide +kernel
theorem dX3_clear_21 : decode cX3_clear 21 = .ok (.goto (-19), 3) := by decide +kernel
theorem dX3_clear_24 : decode cX3_clear 24 = .ok (.return_, 1) := by decide +kernel
theorem dX3_takeFrom_0 : decode cX3_takeFrom 0 = .ok (.iconst 0, 1) := by decide +kernel
theorem dX3_takeFrom_1 : decode cX3_takeFrom 1 = .ok (.istore_n 2, 1) := by decide +kernel
theorem dX3_takeFrom_2 : decode cX3_takeFrom 2 = .ok (.iload_n 2, 1) := by decide +kernel
theorem dX3_takeFrom_3 : decode cX3_takeFrom 3 = .ok (.aload_n 0, 1) := by decide +kernel
theorem dX3_takeFrom_4 : decode cX3_takeFrom 4 = .ok (.getfield 13, 3) := by decide +kernel
theorem dX3_takeFrom_7 : decode cX3_takeFrom 7 = .ok (.arraylength, 1) := by decide +kernel
theorem dX3_takeFrom_8 : decode cX3_takeFrom 8 = .ok (.if_icmp .ge 20, 3) := by decide +kernel
theorem dX3_takeFrom_11 : decode cX3_takeFrom 11 = .ok (.aload_n 0, 1) := by decide +kernel
theorem dX3_takeFrom_12 : decode cX3_takeFrom 12 = .ok (.getfield 13, 3) := by decide +kernel
theorem dX3_takeFrom_15 : decode cX3_takeFrom 15 = .ok (.iload_n 2, 1) := by decide +kernel
theorem dX3_takeFrom_16 : decode cX3_takeFrom 16 = .ok (.aload_n 1, 1) := by decide +kernel
theorem dX3_takeFrom_17 : decode cX3_takeFrom 17 = .ok (.iload_n 2, 1) := by decide +kernel
theorem dX3_takeFrom_18 : decode cX3_takeFrom 18 = .ok (.invokevirtual 19, 3) := by decide +kernel
theorem dX3_takeFrom_21 : decode cX3_takeFrom 21 = .ok (.iastore, 1) := by decide +kernel
theorem dX3_takeFrom_22 : decode cX3_takeFrom 22 = .ok (.iinc 2 1, 3) := by decide +kernel
theorem dX3_takeFrom_25 : decode cX3_takeFrom 25 = .ok (.goto (-23), 3) := by decide +kernel
theorem dX3_takeFrom_28 : decode cX3_takeFrom 28 = .ok (.return_, 1) := by decide +kernel
theorem dX3_isLike_0 : decode cX3_isLike 0 = .ok (.iconst 0, 1) := by decide +kernel
theorem dX3_isLike_1 : decode cX3_isLike 1 = .ok (.istore_n 2, 1) := by decide +kernel
theorem dX3_isLike_2 : decode cX3_isLike 2 = .ok (.iload_n 2, 1) := by decide +kernel
theorem dX3_isLike_3 : decode cX3_isLike 3 = .ok (.aload_n 0, 1) := by decide +kernel
theorem dX3_isLike_4 : decode cX3_isLike 4 = .ok (.getfield 13, 3) := by decide +kernel
theorem dX3_isLike_7 : decode cX3_isLike 7 = .ok (.arraylength, 1) := by decide +kernel
theorem dX3_isLike_8 : decode cX3_isLike 8 = .ok (.if_icmp .ge 25, 3) := by decide +kernel
theorem dX3_isLike_11 : decode cX3_isLike 11 = .ok (.aload_n 0, 1) := by decide +kernel
theorem dX3_isLike_12 : decode cX3_isLike 12 = .ok (.getfield 13, 3) := by decide +kernel
theorem dX3_isLike_15 : decode cX3_isLike 15 = .ok (.iload_n 2, 1) := by decide +kernel
theorem dX3_isLike_16 : decode cX3_isLike 16 = .ok (.iaload, 1) := by decide +kernel
theorem dX3_isLike_17 : decode cX3_isLike 17 = .ok (.aload_n 1, 1) := by decide +kernel
theorem dX3_isLike_18 : decode cX3_isLike 18 = .ok (.iload_n 2, 1) := by decide +kernel
theorem dX3_isLike_19 : decode cX3_isLike 19 = .ok (.invokevirtual 19, 3) := by decide +kernel
theorem dX3_isLike_22 : decode cX3_isLike 22 = .ok (.if_icmp .eq 5, 3) := by decide +kernel
theorem dX3_isLike_25 : decode cX3_isLike 25 = .ok (.iconst 0, 1) := by decide +kernel
theorem dX3_isLike_26 : decode cX3_isLike 26 = .ok (.ireturn, 1) := by decide +kernel
theorem dX3_isLike_27 : decode cX3_isLike 27 = .ok (.iinc 2 1, 3) := by decide +kernel
theorem dX3_isLike_30 : decode cX3_isLike 30 = .ok (.goto (-28), 3) := by decide +kernel
theorem dX3_isLike_33 : decode cX3_isLike 33 = .ok (.iconst 1, 1) := by decide +kernel
theorem dX3_isLike_34 : decode cX3_isLike 34 = .ok (.ireturn, 1) := by decide +kernel
theorem dX4_init_0 : decode cX4_init 0 = .ok (.aload_n 0, 1) := by decide +kernel
theorem dX4_init_1 : decode cX4_init 1 = .ok (.invokespecial 3, 3) := by decide +kernel
theorem dX4_init_4 : decode cX4_init 4 = .ok (.aload_n 0, 1) := by decide +kernel
theorem dX4_init_5 : decode cX4_init 5 = .ok (.new 9, 3) := by decide +kernel
theorem dX4_init_8 : decode cX4_init 8 = .ok (.dup, 1) := by decide +kernel
theorem dX4_init_9 : decode cX4_init 9 = .ok (.bipush 6, 2) := by decide +kernel
theorem dX4_init_11 : decode cX4_init 11 = .ok (.invokespecial 11, 3) := by decide +kernel
theorem dX4_init_14 : decode cX4_init 14 = .ok (.putfield 14, 3) := by decide +kernel
theorem dX4_init_17 : decode cX4_init 17 = .ok (.aload_n 0, 1) := by decide +kernel
theorem dX4_init_18 : decode cX4_init 18 = .ok (.new 9, 3) := by decide +kernel
theorem dX4_init_21 : decode cX4_init 21 = .ok (.dup, 1) := by decide +kernel
theorem dX4_init_22 : decode cX4_init 22 = .ok (.bipush 6, 2) := by decide +kernel
theorem dX4_init_24 : decode cX4_init 24 = .ok (.invokespecial 11, 3) := by decide +kernel
theorem dX4_init_27 : decode cX4_init 27 = .ok (.putfield 20, 3) := by decide +kernel
theorem dX4_init_30 : decode cX4_init 30 = .ok (.return_, 1) := by decide +kernel
theorem dX4_goThrough_0 : decode cX4_goThrough 0 = .ok (.aload_n 0, 1) := by decide +kernel
theorem dX4_goThrough_1 : decode cX4_goThrough 1 = .ok (.iload_n 2, 1) := by decide +kernel
theorem dX4_goThrough_2 : decode cX4_goThrough 2 = .ok (.putfield 23, 3) := by decide +kernel
theorem dX4_goThrough_5 : decode cX4_goThrough 5 = .ok (.aload_n 0, 1) := by decide +kernel
theorem dX4_goThrough_6 : decode cX4_goThrough 6 = .ok (.iload_n 3, 1) := by decide +kernel
theorem dX4_goThrough_7 : decode cX4_goThrough 7 = .ok (.putfield 27, 3) := by decide +kernel
theorem dX4_goThrough_10 : decode cX4_goThrough 10 = .ok (.aload_n 0, 1) := by decide +kernel
theorem dX4_goThrough_11 : decode cX4_goThrough 11 = .ok (.iload 4, 2) := by decide +kernel
theorem dX4_goThrough_13 : decode cX4_goThrough 13 = .ok (.putfield 30, 3) := by decide +kernel
theorem dX4_goThrough_16 : decode cX4_goThrough 16 = .ok (.aload_n 0, 1) := by decide +kernel
theorem dX4_goThrough_17 : decode cX4_goThrough 17 = .ok (.aload_n 1, 1) := by decide +kernel
theorem dX4_goThrough_18 : decode cX4_goThrough 18 = .ok (.invokevirtual 33, 3) := by decide +kernel
theorem dX4_goThrough_21 : decode cX4_goThrough 21 = .ok (.putfield 39, 3) := by decide +kernel
theorem dX4_goThrough_24 : decode cX4_goThrough 24 = .ok (.aload_n 0, 1) := by decide +kernel
theorem dX4_goThrough_25 : decode cX4_goThrough 25 = .ok (.aload_n 0, 1) := by decide +kernel
theorem dX4_goThrough_26 : decode cX4_goThrough 26 = .ok (.getfield 39, 3) := by decide +kernel
theorem dX4_goThrough_29 : decode cX4_goThrough 29 = .ok (.putfield 42, 3) := by decide +kernel
theorem dX4_goThrough_32 : decode cX4_goThrough 32 = .ok (.aload_n 0, 1) := by decide +kernel
theorem dX4_goThrough_33 : decode cX4_goThrough 33 = .ok (.aload_n 0, 1) := by decide +kernel
theorem dX4_goThrough_34 : decode cX4_goThrough 34 = .ok (.getfield 39, 3) := by decide +kernel
theorem dX4_goThrough_37 : decode cX4_goThrough 37 = .ok (.putfield 45, 3) := by decide +kernel
theorem dX4_goThrough_40 : decode cX4_goThrough 40 = .ok (.aload_n 0, 1) := by decide +kernel
theorem dX4_goThrough_41 : decode cX4_goThrough 41 = .ok (.iconst 0, 1) := by decide +kernel
theorem dX4_goThrough_42 : decode cX4_goThrough 42 = .ok (.putfield 48, 3) := by decide +kernel
theorem dX4_goThrough_45 : decode cX4_goThrough 45 = .ok (.aload_n 0, 1) := by decide +kernel
theorem dX4_goThrough_46 : decode cX4_goThrough 46 = .ok (.iconst 0, 1) := by decide +kernel
theorem dX4_goThrough_47 : decode cX4_goThrough 47 = .ok (.putfield 51, 3) := by decide +kernel
theorem dX4_goThrough_50 : decode cX4_goThrough 50 = .ok (.aload_n 0, 1) := by decide +kernel
theorem dX4_goThrough_51 : decode cX4_goThrough 51 = .ok (.iconst 0, 1) := by decide +kernel
theorem dX4_goThrough_52 : decode cX4_goThrough 52 = .ok (.putfield 54, 3) := by decide +kernel
theorem dX4_goThrough_55 : decode cX4_goThrough 55 = .ok (.aload_n 0, 1) := by decide +kernel
theorem dX4_goThrough_56 : decode cX4_goThrough 56 = .ok (.aload_n 1, 1) := by decide +kernel
theorem dX4_goThrough_57 : decode cX4_goThrough 57 = .ok (.iconst 0, 1) := by decide +kernel
theorem dX4_goThrough_58 : decode cX4_goThrough 58 = .ok (.aload_n 1, 1) := by decide +kernel
theorem dX4_goThrough_59 : decode cX4_goThrough 59 = .ok (.invokevirtual 57, 3) := by decide +kernel
theorem dX4_goThrough_62 : decode cX4_goThrough 62 = .ok (.invokevirtual 60, 3) := by decide +kernel
theorem dX4_goThrough_65 : decode cX4_goThrough 65 = .ok (.return_, 1) := by decide +kernel
theorem dX4_goOn_0 : decode cX4_goOn 0 = .ok (.iload_n 3, 1) := by decide +kernel
theorem dX4_goOn_1 : decode cX4_goOn 1 = .ok (.aload_n 0, 1) := by decide +kernel
theorem dX4_goOn_2 : decode cX4_goOn 2 = .ok (.getfield 39, 3) := by decide +kernel
theorem dX4_goOn_5 : decode cX4_goOn 5 = .ok (.if_icmp .ge 9, 3) := by decide +kernel
theorem dX4_goOn_8 : decode cX4_goOn 8 = .ok (.iload_n 2, 1) := by decide +kernel
theorem dX4_goOn_9 : decode cX4_goOn 9 = .ok (.bipush 6, 2) := by decide +kernel
theorem dX4_goOn_11 : decode cX4_goOn 11 = .ok (.if_icmp .le 4, 3) := by decide +kernel
theorem dX4_goOn_14 : decode cX4_goOn 14 = .ok (.return_, 1) := by decide +kernel
theorem dX4_goOn_15 : decode cX4_goOn 15 = .ok (.iload_n 2, 1) := by decide +kernel
theorem dX4_goOn_16 : decode cX4_goOn 16 = .ok (.aload_n 1, 1) := by decide +kernel
theorem dX4_goOn_17 : decode cX4_goOn 17 = .ok (.invokevirtual 64, 3) := by decide +kernel
theorem dX4_goOn_20 : decode cX4_goOn 20 = .ok (.if_icmp .lt 10, 3) := by decide +kernel
theorem dX4_goOn_23 : decode cX4_goOn 23 = .ok (.aload_n 0, 1) := by decide +kernel
theorem dX4_goOn_24 : decode cX4_goOn 24 = .ok (.aload_n 1, 1) := by decide +kernel
theorem dX4_goOn_25 : decode cX4_goOn 25 = .ok (.iload_n 3, 1) := by decide +kernel
theorem dX4_goOn_26 : decode cX4_goOn 26 = .ok (.invokevirtual 67, 3) := by decide +kernel
theorem dX4_goOn_29 : decode cX4_goOn 29 = .ok (.return_, 1) := by decide +kernel
theorem dX4_goOn_30 : decode cX4_goOn 30 = .ok (.iconst 0, 1) := by decide +kernel
theorem dX4_goOn_31 : decode cX4_goOn 31 = .ok (.istore 4, 2) := by decide +kernel
theorem dX4_goOn_33 : decode cX4_goOn 33 = .ok (.iload 4, 2) := by decide +kernel
theorem dX4_goOn_35 : decode cX4_goOn 35 = .ok (.aload_n 1, 1) := by decide +kernel
theorem dX4_goOn_36 : decode cX4_goOn 36 = .ok (.iload_n 2, 1) := by decide +kernel
theorem dX4_goOn_37 : decode cX4_goOn 37 = .ok (.invokevirtual 71, 3) := by decide +kernel
theorem dX4_goOn_40 : decode cX4_goOn 40 = .ok (.if_icmp .ge 35, 3) := by decide +kernel
theorem dX4_goOn_43 : decode cX4_goOn 43 = .ok (.iload_n 2, 1) := by decide +kernel
theorem dX4_goOn_44 : decode cX4_goOn 44 = .ok (.aload_n 0, 1) := by decide +kernel
theorem dX4_goOn_45 : decode cX4_goOn 45 = .ok (.getfield 23, 3) := by decide +kernel
theorem dX4_goOn_48 : decode cX4_goOn 48 = .ok (.if_icmp .ne 12, 3) := by decide +kernel
theorem dX4_goOn_51 : decode cX4_goOn 51 = .ok (.iload 4, 2) := by decide +kernel
theorem dX4_goOn_53 : decode cX4_goOn 53 = .ok (.aload_n 0, 1) := by decide +kernel
theorem dX4_goOn_54 : decode cX4_goOn 54 = .ok (.getfield 27, 3) := by decide +kernel
theorem dX4_goOn_57 : decode cX4_goOn 57 = .ok (.if_icmp .ne 12, 3) := by decide +kernel
theorem dX4_goOn_60 : decode cX4_goOn 60 = .ok (.aload_n 0, 1) := by decide +kernel
theorem dX4_goOn_61 : decode cX4_goOn 61 = .ok (.aload_n 1, 1) := by decide +kernel
theorem dX4_goOn_62 : decode cX4_goOn 62 = .ok (.iload_n 2, 1) := by decide +kernel
theorem dX4_goOn_63 : decode cX4_goOn 63 = .ok (.iload 4, 2) := by decide +kernel
theorem dX4_goOn_65 : decode cX4_goOn 65 = .ok (.iload_n 3, 1) := by decide +kernel
theorem dX4_goOn_66 : decode cX4_goOn 66 = .ok (.invokevirtual 75, 3) := by decide +kernel
theorem dX4_goOn_69 : decode cX4_goOn 69 = .ok (.iinc 4 1, 3) := by decide +kernel
theorem dX4_goOn_72 : decode cX4_goOn 72 = .ok (.goto (-39), 3) := by decide +kernel
theorem dX4_goOn_75 : decode cX4_goOn 75 = .ok (.return_, 1) := by decide +kernel
theorem dX4_take_0 : decode cX4_take 0 = .ok (.aload_n 0, 1) := by decide +kernel
theorem dX4_take_1 : decode cX4_take 1 = .ok (.getfield 14, 3) := by decide +kernel
theorem dX4_take_4 : decode cX4_take 4 = .ok (.iload_n 2, 1) := by decide +kernel
theorem dX4_take_5 : decode cX4_take 5 = .ok (.iload_n 3, 1) := by decide +kernel
theorem dX4_take_6 : decode cX4_take 6 = .ok (.invokevirtual 79, 3) := by decide +kernel
theorem dX4_take_9 : decode cX4_take 9 = .ok (.aload_n 0, 1) := by decide +kernel
theorem dX4_take_10 : decode cX4_take 10 = .ok (.aload_n 1, 1) := by decide +kernel
theorem dX4_take_11 : decode cX4_take 11 = .ok (.iload_n 2, 1) := by decide +kernel
theorem dX4_take_12 : decode cX4_take 12 = .ok (.iconst 1, 1) := by decide +kernel
theorem dX4_take_13 : decode cX4_take 13 = .ok (.iadd, 1) := by decide +kernel
theorem dX4_take_14 : decode cX4_take 14 = .ok (.aload_n 1, 1) := by decide +kernel
theorem dX4_take_15 : decode cX4_take 15 = .ok (.iload 4, 2) := by decide +kernel
theorem dX4_take_17 : decode cX4_take 17 = .ok (.aload_n 1, 1) := by decide +kernel
theorem dX4_take_18 : decode cX4_take 18 = .ok (.aload_n 0, 1) := by decide +kernel
theorem dX4_take_19 : decode cX4_take 19 = .ok (.getfield 14, 3) := by decide +kernel
theorem dX4_take_22 : decode cX4_take 22 = .ok (.iload_n 2, 1) := by decide +kernel
theorem dX4_take_23 : decode cX4_take 23 = .ok (.iload_n 2, 1) := by decide +kernel
theorem dX4_take_24 : decode cX4_take 24 = .ok (.iload_n 3, 1) := by decide +kernel
theorem dX4_take_25 : decode cX4_take 25 = .ok (.aload_n 0, 1) := by decide +kernel
theorem dX4_take_26 : decode cX4_take 26 = .ok (.getfield 30, 3) := by decide +kernel
theorem dX4_take_29 : decode cX4_take 29 = .ok (.invokevirtual 83, 3) := by decide +kernel
theorem dX4_take_32 : decode cX4_take 32 = .ok (.invokevirtual 87, 3) := by decide +kernel
theorem dX4_take_35 : decode cX4_take 35 = .ok (.invokevirtual 60, 3) := by decide +kernel
theorem dX4_take_38 : decode cX4_take 38 = .ok (.return_, 1) := by decide +kernel
theorem dX4_note_0 : decode cX4_note 0 = .ok (.aload_n 0, 1) := by decide +kernel
theorem dX4_note_1 : decode cX4_note 1 = .ok (.aload_n 1, 1) := by decide +kernel
theorem dX4_note_2 : decode cX4_note 2 = .ok (.invokevirtual 64, 3) := by decide +kernel
theorem dX4_note_5 : decode cX4_note 5 = .ok (.invokevirtual 91, 3) := by decide +kernel
theorem dX4_note_8 : decode cX4_note 8 = .ok (.istore_n 3, 1) := by decide +kernel
theorem dX4_note_9 : decode cX4_note 9 = .ok (.aload_n 0, 1) := by decide +kernel
theorem dX4_note_10 : decode cX4_note 10 = .ok (.dup, 1) := by decide +kernel
theorem dX4_note_11 : decode cX4_note 11 = .ok (.getfield 51, 3) := by decide +kernel
theorem dX4_note_14 : decode cX4_note 14 = .ok (.iconst 1, 1) := by decide +kernel
theorem dX4_note_15 : decode cX4_note 15 = .ok (.iadd, 1) := by decide +kernel
theorem dX4_note_16 : decode cX4_note 16 = .ok (.putfield 51, 3) := by decide +kernel
theorem dX4_note_19 : decode cX4_note 19 = .ok (.iload_n 2, 1) := by decide +kernel
theorem dX4_note_20 : decode cX4_note 20 = .ok (.aload_n 0, 1) := by decide +kernel
theorem dX4_note_21 : decode cX4_note 21 = .ok (.getfield 42, 3) := by decide +kernel
theorem dX4_note_24 : decode cX4_note 24 = .ok (.if_icmp .ge 40, 3) := by decide +kernel
theorem dX4_note_27 : decode cX4_note 27 = .ok (.aload_n 0, 1) := by decide +kernel
theorem dX4_note_28 : decode cX4_note 28 = .ok (.aload_n 0, 1) := by decide +kernel
theorem dX4_note_29 : decode cX4_note 29 = .ok (.getfield 42, 3) := by decide +kernel
theorem dX4_note_32 : decode cX4_note 32 = .ok (.putfield 45, 3) := by decide +kernel
theorem dX4_note_35 : decode cX4_note 35 = .ok (.aload_n 0, 1) := by decide +kernel
theorem dX4_note_36 : decode cX4_note 36 = .ok (.iload_n 2, 1) := by decide +kernel
theorem dX4_note_37 : decode cX4_note 37 = .ok (.putfield 42, 3) := by decide +kernel
theorem dX4_note_40 : decode cX4_note 40 = .ok (.aload_n 0, 1) := by decide +kernel
theorem dX4_note_41 : decode cX4_note 41 = .ok (.iconst 1, 1) := by decide +kernel
theorem dX4_note_42 : decode cX4_note 42 = .ok (.putfield 48, 3) := by decide +kernel
theorem dX4_note_45 : decode cX4_note 45 = .ok (.aload_n 0, 1) := by decide +kernel
theorem dX4_note_46 : decode cX4_note 46 = .ok (.iload_n 3, 1) := by decide +kernel
theorem dX4_note_47 : decode cX4_note 47 = .ok (.putfield 54, 3) := by decide +kernel
theorem dX4_note_50 : decode cX4_note 50 = .ok (.aload_n 0, 1) := by decide +kernel
theorem dX4_note_51 : decode cX4_note 51 = .ok (.getfield 20, 3) := by decide +kernel
theorem dX4_note_54 : decode cX4_note 54 = .ok (.aload_n 0, 1) := by decide +kernel
theorem dX4_note_55 : decode cX4_note 55 = .ok (.getfield 14, 3) := by decide +kernel
theorem dX4_note_58 : decode cX4_note 58 = .ok (.invokevirtual 94, 3) := by decide +kernel
theorem dX4_note_61 : decode cX4_note 61 = .ok (.goto 46, 3) := by decide +kernel
theorem dX4_note_64 : decode cX4_note 64 = .ok (.iload_n 2, 1) := by decide +kernel
theorem dX4_note_65 : decode cX4_note 65 = .ok (.aload_n 0, 1) := by decide +kernel
theorem dX4_note_66 : decode cX4_note 66 = .ok (.getfield 42, 3) := by decide +kernel
theorem dX4_note_69 : decode cX4_note 69 = .ok (.if_icmp .ne 26, 3) := by decide +kernel
theorem dX4_note_72 : decode cX4_note 72 = .ok (.aload_n 0, 1) := by decide +kernel
theorem dX4_note_73 : decode cX4_note 73 = .ok (.dup, 1) := by decide +kernel
theorem dX4_note_74 : decode cX4_note 74 = .ok (.getfield 48, 3) := by decide +kernel
theorem dX4_note_77 : decode cX4_note 77 = .ok (.iconst 1, 1) := by decide +kernel
theorem dX4_note_78 : decode cX4_note 78 = .ok (.iadd, 1) := by decide +kernel
theorem dX4_note_79 : decode cX4_note 79 = .ok (.putfield 48, 3) := by decide +kernel
theorem dX4_note_82 : decode cX4_note 82 = .ok (.aload_n 0, 1) := by decide +kernel
theorem dX4_note_83 : decode cX4_note 83 = .ok (.dup, 1) := by decide +kernel
theorem dX4_note_84 : decode cX4_note 84 = .ok (.getfield 54, 3) := by decide +kernel
theorem dX4_note_87 : decode cX4_note 87 = .ok (.iload_n 3, 1) := by decide +kernel
theorem dX4_note_88 : decode cX4_note 88 = .ok (.iand, 1) := by decide +kernel
theorem dX4_note_89 : decode cX4_note 89 = .ok (.putfield 54, 3) := by decide +kernel
theorem dX4_note_92 : decode cX4_note 92 = .ok (.goto 15, 3) := by decide +kernel
theorem dX4_note_95 : decode cX4_note 95 = .ok (.aload_n 0, 1) := by decide +kernel
theorem dX4_note_96 : decode cX4_note 96 = .ok (.aload_n 0, 1) := by decide +kernel
theorem dX4_note_97 : decode cX4_note 97 = .ok (.getfield 45, 3) := by decide +kernel
theorem dX4_note_100 : decode cX4_note 100 = .ok (.iload_n 2, 1) := by decide +kernel
theorem dX4_note_101 : decode cX4_note 101 = .ok (.invokestatic 98, 3) := by decide +kernel
theorem dX4_note_104 : decode cX4_note 104 = .ok (.putfield 45, 3) := by decide +kernel
theorem dX4_note_107 : decode cX4_note 107 = .ok (.return_, 1) := by decide +kernel
theorem dX4_chosenBits_0 : decode cX4_chosenBits 0 = .ok (.iconst 0, 1) := by decide +kernel
theorem dX4_chosenBits_1 : decode cX4_chosenBits 1 = .ok (.istore_n 2, 1) := by decide +kernel
theorem dX4_chosenBits_2 : decode cX4_chosenBits 2 = .ok (.iconst 0, 1) := by decide +kernel
theorem dX4_chosenBits_3 : decode cX4_chosenBits 3 = .ok (.istore_n 3, 1) := by decide +kernel
theorem dX4_chosenBits_4 : decode cX4_chosenBits 4 = .ok (.iload_n 3, 1) := by decide +kernel
theorem dX4_chosenBits_5 : decode cX4_chosenBits 5 = .ok (.iload_n 1, 1) := by decide +kernel
theorem dX4_chosenBits_6 : decode cX4_chosenBits 6 = .ok (.if_icmp .ge 26, 3) := by decide +kernel
theorem dX4_chosenBits_9 : decode cX4_chosenBits 9 = .ok (.iload_n 2, 1) := by decide +kernel
theorem dX4_chosenBits_10 : decode cX4_chosenBits 10 = .ok (.iconst 1, 1) := by decide +kernel
theorem dX4_chosenBits_11 : decode cX4_chosenBits 11 = .ok (.iconst 4, 1) := by decide +kernel
theorem dX4_chosenBits_12 : decode cX4_chosenBits 12 = .ok (.iload_n 3, 1) := by decide +kernel
theorem dX4_chosenBits_13 : decode cX4_chosenBits 13 = .ok (.imul, 1) := by decide +kernel
theorem dX4_chosenBits_14 : decode cX4_chosenBits 14 = .ok (.aload_n 0, 1) := by decide +kernel
theorem dX4_chosenBits_15 : decode cX4_chosenBits 15 = .ok (.getfield 14, 3) := by decide +kernel
theorem dX4_chosenBits_18 : decode cX4_chosenBits 18 = .ok (.iload_n 3, 1) := by decide +kernel
theorem dX4_chosenBits_19 : decode cX4_chosenBits 19 = .ok (.invokevirtual 103, 3) := by decide +kernel
theorem dX4_chosenBits_22 : decode cX4_chosenBits 22 = .ok (.iadd, 1) := by decide +kernel
theorem dX4_chosenBits_23 : decode cX4_chosenBits 23 = .ok (.ishl, 1) := by decide +kernel
theorem dX4_chosenBits_24 : decode cX4_chosenBits 24 = .ok (.ior, 1) := by decide +kernel
theorem dX4_chosenBits_25 : decode cX4_chosenBits 25 = .ok (.istore_n 2, 1) := by decide +kernel
theorem dX4_chosenBits_26 : decode cX4_chosenBits 26 = .ok (.iinc 3 1, 3) := by decide +kernel
theorem dX4_chosenBits_29 : decode cX4_chosenBits 29 = .ok (.goto (-25), 3) := by decide +kernel
theorem dX4_chosenBits_32 : decode cX4_chosenBits 32 = .ok (.iload_n 2, 1) := by decide +kernel
theorem dX4_chosenBits_33 : decode cX4_chosenBits 33 = .ok (.ireturn, 1) := by decide +kernel
theorem dX4_hasFound_0 : decode cX4_hasFound 0 = .ok (.aload_n 0, 1) := by decide +kernel
theorem dX4_hasFound_1 : decode cX4_hasFound 1 = .ok (.getfield 48, 3) := by decide +kernel
theorem dX4_hasFound_4 : decode cX4_hasFound 4 = .ok (.ifCond .le 7, 3) := by decide +kernel
theorem dX4_hasFound_7 : decode cX4_hasFound 7 = .ok (.iconst 1, 1) := by decide +kernel
theorem dX4_hasFound_8 : decode cX4_hasFound 8 = .ok (.goto 4, 3) := by decide +kernel
theorem dX4_hasFound_11 : decode cX4_hasFound 11 = .ok (.iconst 0, 1) := by decide +kernel
theorem dX4_hasFound_12 : decode cX4_hasFound 12 = .ok (.ireturn, 1) := by decide +kernel
theorem dX4_hasSecond_0 : decode cX4_hasSecond 0 = .ok (.aload_n 0, 1) := by decide +kernel
theorem dX4_hasSecond_1 : decode cX4_hasSecond 1 = .ok (.getfield 45, 3) := by decide +kernel
theorem dX4_hasSecond_4 : decode cX4_hasSecond 4 = .ok (.aload_n 0, 1) := by decide +kernel
theorem dX4_hasSecond_5 : decode cX4_hasSecond 5 = .ok (.getfield 39, 3) := by decide +kernel
theorem dX4_hasSecond_8 : decode cX4_hasSecond 8 = .ok (.if_icmp .ge 7, 3) := by decide +kernel
theorem dX4_hasSecond_11 : decode cX4_hasSecond 11 = .ok (.iconst 1, 1) := by decide +kernel
theorem dX4_hasSecond_12 : decode cX4_hasSecond 12 = .ok (.goto 4, 3) := by decide +kernel
theorem dX4_hasSecond_15 : decode cX4_hasSecond 15 = .ok (.iconst 0, 1) := by decide +kernel
theorem dX4_hasSecond_16 : decode cX4_hasSecond 16 = .ok (.ireturn, 1) := by decide +kernel
theorem dX4_leastTotal_0 : decode cX4_leastTotal 0 = .ok (.aload_n 0, 1) := by decide +kernel
theorem dX4_leastTotal_1 : decode cX4_leastTotal 1 = .ok (.getfield 42, 3) := by decide +kernel
theorem dX4_leastTotal_4 : decode cX4_leastTotal 4 = .ok (.ireturn, 1) := by decide +kernel
theorem dX4_waysOfLeast_0 : decode cX4_waysOfLeast 0 = .ok (.aload_n 0, 1) := by decide +kernel
theorem dX4_waysOfLeast_1 : decode cX4_waysOfLeast 1 = .ok (.getfield 48, 3) := by decide +kernel
theorem dX4_waysOfLeast_4 : decode cX4_waysOfLeast 4 = .ok (.ireturn, 1) := by decide +kernel
theorem dX4_secondTotal_0 : decode cX4_secondTotal 0 = .ok (.aload_n 0, 1) := by decide +kernel
theorem dX4_secondTotal_1 : decode cX4_secondTotal 1 = .ok (.getfield 45, 3) := by decide +kernel
theorem dX4_secondTotal_4 : decode cX4_secondTotal 4 = .ok (.ireturn, 1) := by decide +kernel
theorem dX4_choicesBelowTop_0 : decode cX4_choicesBelowTop 0 = .ok (.aload_n 0, 1) := by decide +kernel
theorem dX4_choicesBelowTop_1 : decode cX4_choicesBelowTop 1 = .ok (.getfield 51, 3) := by decide +kernel
theorem dX4_choicesBelowTop_4 : decode cX4_choicesBelowTop 4 = .ok (.ireturn, 1) := by decide +kernel
theorem dX4_commonValues_0 : decode cX4_commonValues 0 = .ok (.aload_n 0, 1) := by decide +kernel
theorem dX4_commonValues_1 : decode cX4_commonValues 1 = .ok (.getfield 54, 3) := by decide +kernel
theorem dX4_commonValues_4 : decode cX4_commonValues 4 = .ok (.ireturn, 1) := by decide +kernel
theorem dX4_firstValueOf_0 : decode cX4_firstValueOf 0 = .ok (.aload_n 0, 1) := by decide +kernel
theorem dX4_firstValueOf_1 : decode cX4_firstValueOf 1 = .ok (.getfield 20, 3) := by decide +kernel
theorem dX4_firstValueOf_4 : decode cX4_firstValueOf 4 = .ok (.iload_n 1, 1) := by decide +kernel
theorem dX4_firstValueOf_5 : decode cX4_firstValueOf 5 = .ok (.invokevirtual 103, 3) := by decide +kernel
theorem dX4_firstValueOf_8 : decode cX4_firstValueOf 8 = .ok (.ireturn, 1) := by decide +kernel
theorem dX5_init_0 : decode cX5_init 0 = .ok (.aload_n 0, 1) := by decide +kernel
theorem dX5_init_1 : decode cX5_init 1 = .ok (.invokespecial 3, 3) := by decide +kernel
theorem dX5_init_4 : decode cX5_init 4 = .ok (.aload_n 0, 1) := by decide +kernel
theorem dX5_init_5 : decode cX5_init 5 = .ok (.new 9, 3) := by decide +kernel
theorem dX5_init_8 : decode cX5_init 8 = .ok (.dup, 1) := by decide +kernel
theorem dX5_init_9 : decode cX5_init 9 = .ok (.sipush 169, 3) := by decide +kernel
theorem dX5_init_12 : decode cX5_init 12 = .ok (.invokespecial 11, 3) := by decide +kernel
theorem dX5_init_15 : decode cX5_init 15 = .ok (.putfield 14, 3) := by decide +kernel
theorem dX5_init_18 : decode cX5_init 18 = .ok (.aload_n 0, 1) := by decide +kernel
theorem dX5_init_19 : decode cX5_init 19 = .ok (.new 9, 3) := by decide +kernel
theorem dX5_init_22 : decode cX5_init 22 = .ok (.dup, 1) := by decide +kernel
theorem dX5_init_23 : decode cX5_init 23 = .ok (.iconst 4, 1) := by decide +kernel
theorem dX5_init_24 : decode cX5_init 24 = .ok (.invokespecial 11, 3) := by decide +kernel
theorem dX5_init_27 : decode cX5_init 27 = .ok (.putfield 20, 3) := by decide +kernel
theorem dX5_init_30 : decode cX5_init 30 = .ok (.aload_n 0, 1) := by decide +kernel
theorem dX5_init_31 : decode cX5_init 31 = .ok (.new 9, 3) := by decide +kernel
theorem dX5_init_34 : decode cX5_init 34 = .ok (.dup, 1) := by decide +kernel
theorem dX5_init_35 : decode cX5_init 35 = .ok (.iconst 4, 1) := by decide +kernel
theorem dX5_init_36 : decode cX5_init 36 = .ok (.invokespecial 11, 3) := by decide +kernel
theorem dX5_init_39 : decode cX5_init 39 = .ok (.putfield 23, 3) := by decide +kernel
theorem dX5_init_42 : decode cX5_init 42 = .ok (.return_, 1) := by decide +kernel
theorem dX5_doTillSettled_0 : decode cX5_doTillSettled 0 = .ok (.iconst 0, 1) := by decide +kernel
theorem dX5_doTillSettled_1 : decode cX5_doTillSettled 1 = .ok (.istore_n 3, 1) := by decide +kernel
theorem dX5_doTillSettled_2 : decode cX5_doTillSettled 2 = .ok (.iload_n 3, 1) := by decide +kernel
theorem dX5_doTillSettled_3 : decode cX5_doTillSettled 3 = .ok (.bipush 20, 2) := by decide +kernel
theorem dX5_doTillSettled_5 : decode cX5_doTillSettled 5 = .ok (.if_icmp .ge 36, 3) := by decide +kernel
theorem dX5_doTillSettled_8 : decode cX5_doTillSettled 8 = .ok (.aload_n 1, 1) := by decide +kernel
theorem dX5_doTillSettled_9 : decode cX5_doTillSettled 9 = .ok (.aload_n 0, 1) := by decide +kernel
theorem dX5_doTillSettled_10 : decode cX5_doTillSettled 10 = .ok (.getfield 14, 3) := by decide +kernel
theorem dX5_doTillSettled_13 : decode cX5_doTillSettled 13 = .ok (.invokevirtual 26, 3) := by decide +kernel
theorem dX5_doTillSettled_16 : decode cX5_doTillSettled 16 = .ok (.aload_n 0, 1) := by decide +kernel
theorem dX5_doTillSettled_17 : decode cX5_doTillSettled 17 = .ok (.aload_n 1, 1) := by decide +kernel
theorem dX5_doTillSettled_18 : decode cX5_doTillSettled 18 = .ok (.iload_n 2, 1) := by decide +kernel
theorem dX5_doTillSettled_19 : decode cX5_doTillSettled 19 = .ok (.invokevirtual 32, 3) := by decide +kernel
theorem dX5_doTillSettled_22 : decode cX5_doTillSettled 22 = .ok (.aload_n 1, 1) := by decide +kernel
theorem dX5_doTillSettled_23 : decode cX5_doTillSettled 23 = .ok (.aload_n 0, 1) := by decide +kernel
theorem dX5_doTillSettled_24 : decode cX5_doTillSettled 24 = .ok (.getfield 14, 3) := by decide +kernel
theorem dX5_doTillSettled_27 : decode cX5_doTillSettled 27 = .ok (.invokevirtual 36, 3) := by decide +kernel
theorem dX5_doTillSettled_30 : decode cX5_doTillSettled 30 = .ok (.ifCond .eq 5, 3) := by decide +kernel
theorem dX5_doTillSettled_33 : decode cX5_doTillSettled 33 = .ok (.iload_n 3, 1) := by decide +kernel
theorem dX5_doTillSettled_34 : decode cX5_doTillSettled 34 = .ok (.ireturn, 1) := by decide +kernel
theorem dX5_doTillSettled_35 : decode cX5_doTillSettled 35 = .ok (.iinc 3 1, 3) := by decide +kernel
theorem dX5_doTillSettled_38 : decode cX5_doTillSettled 38 = .ok (.goto (-36), 3) := by decide +kernel
theorem dX5_doTillSettled_41 : decode cX5_doTillSettled 41 = .ok (.bipush 20, 2) := by decide +kernel
theorem dX5_doTillSettled_43 : decode cX5_doTillSettled 43 = .ok (.ireturn, 1) := by decide +kernel
theorem dX5_doOne_0 : decode cX5_doOne 0 = .ok (.iload_n 2, 1) := by decide +kernel
theorem dX5_doOne_1 : decode cX5_doOne 1 = .ok (.iconst 1, 1) := by decide +kernel
theorem dX5_doOne_2 : decode cX5_doOne 2 = .ok (.if_icmp .ne 10, 3) := by decide +kernel
theorem dX5_doOne_5 : decode cX5_doOne 5 = .ok (.aload_n 1, 1) := by decide +kernel
theorem dX5_doOne_6 : decode cX5_doOne 6 = .ok (.invokestatic 40, 3) := by decide +kernel
theorem dX5_doOne_9 : decode cX5_doOne 9 = .ok (.goto 13, 3) := by decide +kernel
theorem dX5_doOne_12 : decode cX5_doOne 12 = .ok (.iload_n 2, 1) := by decide +kernel
theorem dX5_doOne_13 : decode cX5_doOne 13 = .ok (.iconst 2, 1) := by decide +kernel
theorem dX5_doOne_14 : decode cX5_doOne 14 = .ok (.if_icmp .ne 8, 3) := by decide +kernel
theorem dX5_doOne_17 : decode cX5_doOne 17 = .ok (.aload_n 0, 1) := by decide +kernel
theorem dX5_doOne_18 : decode cX5_doOne 18 = .ok (.aload_n 1, 1) := by decide +kernel
theorem dX5_doOne_19 : decode cX5_doOne 19 = .ok (.invokevirtual 44, 3) := by decide +kernel
theorem dX5_doOne_22 : decode cX5_doOne 22 = .ok (.aload_n 1, 1) := by decide +kernel
theorem dX5_doOne_23 : decode cX5_doOne 23 = .ok (.invokestatic 47, 3) := by decide +kernel
theorem dX5_doOne_26 : decode cX5_doOne 26 = .ok (.return_, 1) := by decide +kernel
theorem dX5_doNodes_0 : decode cX5_doNodes 0 = .ok (.iconst 0, 1) := by decide +kernel
theorem dX5_doNodes_1 : decode cX5_doNodes 1 = .ok (.istore_n 1, 1) := by decide +kernel
theorem dX5_doNodes_2 : decode cX5_doNodes 2 = .ok (.iload_n 1, 1) := by decide +kernel
theorem dX5_doNodes_3 : decode cX5_doNodes 3 = .ok (.aload_n 0, 1) := by decide +kernel
theorem dX5_doNodes_4 : decode cX5_doNodes 4 = .ok (.invokevirtual 50, 3) := by decide +kernel
theorem dX5_doNodes_7 : decode cX5_doNodes 7 = .ok (.if_icmp .ge 30, 3) := by decide +kernel
theorem dX5_doNodes_10 : decode cX5_doNodes 10 = .ok (.aload_n 0, 1) := by decide +kernel
theorem dX5_doNodes_11 : decode cX5_doNodes 11 = .ok (.iload_n 1, 1) := by decide +kernel
theorem dX5_doNodes_12 : decode cX5_doNodes 12 = .ok (.invokevirtual 54, 3) := by decide +kernel
theorem dX5_doNodes_15 : decode cX5_doNodes 15 = .ok (.istore_n 2, 1) := by decide +kernel
theorem dX5_doNodes_16 : decode cX5_doNodes 16 = .ok (.iload_n 2, 1) := by decide +kernel
theorem dX5_doNodes_17 : decode cX5_doNodes 17 = .ok (.ifCond .le 9, 3) := by decide +kernel
theorem dX5_doNodes_20 : decode cX5_doNodes 20 = .ok (.aload_n 0, 1) := by decide +kernel
theorem dX5_doNodes_21 : decode cX5_doNodes 21 = .ok (.iload_n 1, 1) := by decide +kernel
theorem dX5_doNodes_22 : decode cX5_doNodes 22 = .ok (.iload_n 2, 1) := by decide +kernel
theorem dX5_doNodes_23 : decode cX5_doNodes 23 = .ok (.invokevirtual 58, 3) := by decide +kernel
theorem dX5_doNodes_26 : decode cX5_doNodes 26 = .ok (.aload_n 0, 1) := by decide +kernel
theorem dX5_doNodes_27 : decode cX5_doNodes 27 = .ok (.iload_n 1, 1) := by decide +kernel
theorem dX5_doNodes_28 : decode cX5_doNodes 28 = .ok (.invokevirtual 62, 3) := by decide +kernel
theorem dX5_doNodes_31 : decode cX5_doNodes 31 = .ok (.iinc 1 1, 3) := by decide +kernel
theorem dX5_doNodes_34 : decode cX5_doNodes 34 = .ok (.goto (-32), 3) := by decide +kernel
theorem dX5_doNodes_37 : decode cX5_doNodes 37 = .ok (.return_, 1) := by decide +kernel
theorem dX5_doArcs_0 : decode cX5_doArcs 0 = .ok (.iconst 0, 1) := by decide +kernel
theorem dX5_doArcs_1 : decode cX5_doArcs 1 = .ok (.istore_n 1, 1) := by decide +kernel
theorem dX5_doArcs_2 : decode cX5_doArcs 2 = .ok (.iload_n 1, 1) := by decide +kernel
theorem dX5_doArcs_3 : decode cX5_doArcs 3 = .ok (.aload_n 0, 1) := by decide +kernel
theorem dX5_doArcs_4 : decode cX5_doArcs 4 = .ok (.invokevirtual 65, 3) := by decide +kernel
theorem dX5_doArcs_7 : decode cX5_doArcs 7 = .ok (.if_icmp .ge 26, 3) := by decide +kernel
theorem dX5_doArcs_10 : decode cX5_doArcs 10 = .ok (.aload_n 0, 1) := by decide +kernel
theorem dX5_doArcs_11 : decode cX5_doArcs 11 = .ok (.iload_n 1, 1) := by decide +kernel
theorem dX5_doArcs_12 : decode cX5_doArcs 12 = .ok (.invokevirtual 68, 3) := by decide +kernel
theorem dX5_doArcs_15 : decode cX5_doArcs 15 = .ok (.aload_n 0, 1) := by decide +kernel
theorem dX5_doArcs_16 : decode cX5_doArcs 16 = .ok (.iload_n 1, 1) := by decide +kernel
theorem dX5_doArcs_17 : decode cX5_doArcs 17 = .ok (.iconst 0, 1) := by decide +kernel
theorem dX5_doArcs_18 : decode cX5_doArcs 18 = .ok (.invokestatic 71, 3) := by decide +kernel
theorem dX5_doArcs_21 : decode cX5_doArcs 21 = .ok (.aload_n 0, 1) := by decide +kernel
theorem dX5_doArcs_22 : decode cX5_doArcs 22 = .ok (.iload_n 1, 1) := by decide +kernel
theorem dX5_doArcs_23 : decode cX5_doArcs 23 = .ok (.iconst 1, 1) := by decide +kernel
theorem dX5_doArcs_24 : decode cX5_doArcs 24 = .ok (.invokestatic 71, 3) := by decide +kernel
theorem dX5_doArcs_27 : decode cX5_doArcs 27 = .ok (.iinc 1 1, 3) := by decide +kernel
theorem dX5_doArcs_30 : decode cX5_doArcs 30 = .ok (.goto (-28), 3) := by decide +kernel
theorem dX5_doArcs_33 : decode cX5_doArcs 33 = .ok (.return_, 1) := by decide +kernel
theorem dX5_projectLeasts_0 : decode cX5_projectLeasts 0 = .ok (.iconst 0, 1) := by decide +kernel
theorem dX5_projectLeasts_1 : decode cX5_projectLeasts 1 = .ok (.istore_n 3, 1) := by decide +kernel
theorem dX5_projectLeasts_2 : decode cX5_projectLeasts 2 = .ok (.iload_n 3, 1) := by decide +kernel
theorem dX5_projectLeasts_3 : decode cX5_projectLeasts 3 = .ok (.aload_n 0, 1) := by decide +kernel
theorem dX5_projectLeasts_4 : decode cX5_projectLeasts 4 = .ok (.iload_n 1, 1) := by decide +kernel
theorem dX5_projectLeasts_5 : decode cX5_projectLeasts 5 = .ok (.iload_n 2, 1) := by decide +kernel
theorem dX5_projectLeasts_6 : decode cX5_projectLeasts 6 = .ok (.invokevirtual 75, 3) := by decide +kernel
theorem dX5_projectLeasts_9 : decode cX5_projectLeasts 9 = .ok (.if_icmp .ge 32, 3) := by decide +kernel
theorem dX5_projectLeasts_12 : decode cX5_projectLeasts 12 = .ok (.aload_n 0, 1) := by decide +kernel
theorem dX5_projectLeasts_13 : decode cX5_projectLeasts 13 = .ok (.iload_n 1, 1) := by decide +kernel
theorem dX5_projectLeasts_14 : decode cX5_projectLeasts 14 = .ok (.iload_n 2, 1) := by decide +kernel
theorem dX5_projectLeasts_15 : decode cX5_projectLeasts 15 = .ok (.iload_n 3, 1) := by decide +kernel
theorem dX5_projectLeasts_16 : decode cX5_projectLeasts 16 = .ok (.invokevirtual 79, 3) := by decide +kernel
theorem dX5_projectLeasts_19 : decode cX5_projectLeasts 19 = .ok (.istore 4, 2) := by decide +kernel
theorem dX5_projectLeasts_21 : decode cX5_projectLeasts 21 = .ok (.iload 4, 2) := by decide +kernel
theorem dX5_projectLeasts_23 : decode cX5_projectLeasts 23 = .ok (.ifCond .le 12, 3) := by decide +kernel
theorem dX5_projectLeasts_26 : decode cX5_projectLeasts 26 = .ok (.aload_n 0, 1) := by decide +kernel
theorem dX5_projectLeasts_27 : decode cX5_projectLeasts 27 = .ok (.iload_n 1, 1) := by decide +kernel
theorem dX5_projectLeasts_28 : decode cX5_projectLeasts 28 = .ok (.iload_n 2, 1) := by decide +kernel
theorem dX5_projectLeasts_29 : decode cX5_projectLeasts 29 = .ok (.iload_n 3, 1) := by decide +kernel
theorem dX5_projectLeasts_30 : decode cX5_projectLeasts 30 = .ok (.iload 4, 2) := by decide +kernel
theorem dX5_projectLeasts_32 : decode cX5_projectLeasts 32 = .ok (.invokevirtual 83, 3) := by decide +kernel
theorem dX5_projectLeasts_35 : decode cX5_projectLeasts 35 = .ok (.iinc 3 1, 3) := by decide +kernel
theorem dX5_projectLeasts_38 : decode cX5_projectLeasts 38 = .ok (.goto (-36), 3) := by decide +kernel
theorem dX5_projectLeasts_41 : decode cX5_projectLeasts 41 = .ok (.return_, 1) := by decide +kernel
theorem dX5_doDirected_0 : decode cX5_doDirected 0 = .ok (.aload_n 1, 1) := by decide +kernel
theorem dX5_doDirected_1 : decode cX5_doDirected 1 = .ok (.invokevirtual 50, 3) := by decide +kernel
theorem dX5_doDirected_4 : decode cX5_doDirected 4 = .ok (.iconst 1, 1) := by decide +kernel
theorem dX5_doDirected_5 : decode cX5_doDirected 5 = .ok (.isub, 1) := by decide +kernel
theorem dX5_doDirected_6 : decode cX5_doDirected 6 = .ok (.istore_n 2, 1) := by decide +kernel
theorem dX5_doDirected_7 : decode cX5_doDirected 7 = .ok (.iload_n 2, 1) := by decide +kernel
theorem dX5_doDirected_8 : decode cX5_doDirected 8 = .ok (.ifCond .lt 41, 3) := by decide +kernel
theorem dX5_doDirected_11 : decode cX5_doDirected 11 = .ok (.iconst 0, 1) := by decide +kernel
theorem dX5_doDirected_12 : decode cX5_doDirected 12 = .ok (.istore_n 3, 1) := by decide +kernel
theorem dX5_doDirected_13 : decode cX5_doDirected 13 = .ok (.iload_n 3, 1) := by decide +kernel
theorem dX5_doDirected_14 : decode cX5_doDirected 14 = .ok (.aload_n 1, 1) := by decide +kernel
theorem dX5_doDirected_15 : decode cX5_doDirected 15 = .ok (.invokevirtual 65, 3) := by decide +kernel
theorem dX5_doDirected_18 : decode cX5_doDirected 18 = .ok (.if_icmp .ge 25, 3) := by decide +kernel
theorem dX5_doDirected_21 : decode cX5_doDirected 21 = .ok (.aload_n 1, 1) := by decide +kernel
theorem dX5_doDirected_22 : decode cX5_doDirected 22 = .ok (.iload_n 3, 1) := by decide +kernel
theorem dX5_doDirected_23 : decode cX5_doDirected 23 = .ok (.iconst 1, 1) := by decide +kernel
theorem dX5_doDirected_24 : decode cX5_doDirected 24 = .ok (.invokevirtual 87, 3) := by decide +kernel
theorem dX5_doDirected_27 : decode cX5_doDirected 27 = .ok (.iload_n 2, 1) := by decide +kernel
theorem dX5_doDirected_28 : decode cX5_doDirected 28 = .ok (.if_icmp .ne 9, 3) := by decide +kernel
theorem dX5_doDirected_31 : decode cX5_doDirected 31 = .ok (.aload_n 0, 1) := by decide +kernel
theorem dX5_doDirected_32 : decode cX5_doDirected 32 = .ok (.aload_n 1, 1) := by decide +kernel
theorem dX5_doDirected_33 : decode cX5_doDirected 33 = .ok (.iload_n 3, 1) := by decide +kernel
theorem dX5_doDirected_34 : decode cX5_doDirected 34 = .ok (.invokevirtual 90, 3) := by decide +kernel
theorem dX5_doDirected_37 : decode cX5_doDirected 37 = .ok (.iinc 3 1, 3) := by decide +kernel
theorem dX5_doDirected_40 : decode cX5_doDirected 40 = .ok (.goto (-27), 3) := by decide +kernel
theorem dX5_doDirected_43 : decode cX5_doDirected 43 = .ok (.iinc 2 (-1), 3) := by decide +kernel
theorem dX5_doDirected_46 : decode cX5_doDirected 46 = .ok (.goto (-39), 3) := by decide +kernel
theorem dX5_doDirected_49 : decode cX5_doDirected 49 = .ok (.return_, 1) := by decide +kernel
theorem dX5_direct_0 : decode cX5_direct 0 = .ok (.aload_n 1, 1) := by decide +kernel
theorem dX5_direct_1 : decode cX5_direct 1 = .ok (.iload_n 2, 1) := by decide +kernel
theorem dX5_direct_2 : decode cX5_direct 2 = .ok (.iconst 0, 1) := by decide +kernel
theorem dX5_direct_3 : decode cX5_direct 3 = .ok (.invokevirtual 75, 3) := by decide +kernel
theorem dX5_direct_6 : decode cX5_direct 6 = .ok (.istore_n 3, 1) := by decide +kernel
theorem dX5_direct_7 : decode cX5_direct 7 = .ok (.aload_n 1, 1) := by decide +kernel
theorem dX5_direct_8 : decode cX5_direct 8 = .ok (.iload_n 2, 1) := by decide +kernel
theorem dX5_direct_9 : decode cX5_direct 9 = .ok (.iconst 1, 1) := by decide +kernel
theorem dX5_direct_10 : decode cX5_direct 10 = .ok (.invokevirtual 75, 3) := by decide +kernel
theorem dX5_direct_13 : decode cX5_direct 13 = .ok (.istore 4, 2) := by decide +kernel
theorem dX5_direct_15 : decode cX5_direct 15 = .ok (.aload_n 1, 1) := by decide +kernel
theorem dX5_direct_16 : decode cX5_direct 16 = .ok (.iload_n 2, 1) := by decide +kernel
theorem dX5_direct_17 : decode cX5_direct 17 = .ok (.invokevirtual 68, 3) := by decide +kernel
theorem dX5_direct_20 : decode cX5_direct 20 = .ok (.iconst 0, 1) := by decide +kernel
theorem dX5_direct_21 : decode cX5_direct 21 = .ok (.istore 5, 2) := by decide +kernel
theorem dX5_direct_23 : decode cX5_direct 23 = .ok (.iload 5, 2) := by decide +kernel
theorem dX5_direct_25 : decode cX5_direct 25 = .ok (.iload_n 3, 1) := by decide +kernel
theorem dX5_direct_26 : decode cX5_direct 26 = .ok (.if_icmp .ge 25, 3) := by decide +kernel
theorem dX5_direct_29 : decode cX5_direct 29 = .ok (.aload_n 0, 1) := by decide +kernel
theorem dX5_direct_30 : decode cX5_direct 30 = .ok (.getfield 20, 3) := by decide +kernel
theorem dX5_direct_33 : decode cX5_direct 33 = .ok (.iload 5, 2) := by decide +kernel
theorem dX5_direct_35 : decode cX5_direct 35 = .ok (.aload_n 1, 1) := by decide +kernel
theorem dX5_direct_36 : decode cX5_direct 36 = .ok (.iload_n 2, 1) := by decide +kernel
theorem dX5_direct_37 : decode cX5_direct 37 = .ok (.iload 5, 2) := by decide +kernel
theorem dX5_direct_39 : decode cX5_direct 39 = .ok (.invokestatic 93, 3) := by decide +kernel
theorem dX5_direct_42 : decode cX5_direct 42 = .ok (.invokevirtual 97, 3) := by decide +kernel
theorem dX5_direct_45 : decode cX5_direct 45 = .ok (.iinc 5 1, 3) := by decide +kernel
theorem dX5_direct_48 : decode cX5_direct 48 = .ok (.goto (-25), 3) := by decide +kernel
theorem dX5_direct_51 : decode cX5_direct 51 = .ok (.iconst 0, 1) := by decide +kernel
theorem dX5_direct_52 : decode cX5_direct 52 = .ok (.istore 5, 2) := by decide +kernel
theorem dX5_direct_54 : decode cX5_direct 54 = .ok (.iload 5, 2) := by decide +kernel
theorem dX5_direct_56 : decode cX5_direct 56 = .ok (.iload 4, 2) := by decide +kernel
theorem dX5_direct_58 : decode cX5_direct 58 = .ok (.if_icmp .ge 26, 3) := by decide +kernel
theorem dX5_direct_61 : decode cX5_direct 61 = .ok (.aload_n 0, 1) := by decide +kernel
theorem dX5_direct_62 : decode cX5_direct 62 = .ok (.getfield 23, 3) := by decide +kernel
theorem dX5_direct_65 : decode cX5_direct 65 = .ok (.iload 5, 2) := by decide +kernel
theorem dX5_direct_67 : decode cX5_direct 67 = .ok (.aload_n 0, 1) := by decide +kernel
theorem dX5_direct_68 : decode cX5_direct 68 = .ok (.aload_n 1, 1) := by decide +kernel
theorem dX5_direct_69 : decode cX5_direct 69 = .ok (.iload_n 2, 1) := by decide +kernel
theorem dX5_direct_70 : decode cX5_direct 70 = .ok (.iload 5, 2) := by decide +kernel
theorem dX5_direct_72 : decode cX5_direct 72 = .ok (.invokevirtual 100, 3) := by decide +kernel
theorem dX5_direct_75 : decode cX5_direct 75 = .ok (.invokevirtual 97, 3) := by decide +kernel
theorem dX5_direct_78 : decode cX5_direct 78 = .ok (.iinc 5 1, 3) := by decide +kernel
theorem dX5_direct_81 : decode cX5_direct 81 = .ok (.goto (-27), 3) := by decide +kernel
theorem dX5_direct_84 : decode cX5_direct 84 = .ok (.iconst 0, 1) := by decide +kernel
theorem dX5_direct_85 : decode cX5_direct 85 = .ok (.istore 5, 2) := by decide +kernel
theorem dX5_direct_87 : decode cX5_direct 87 = .ok (.iload 5, 2) := by decide +kernel
theorem dX5_direct_89 : decode cX5_direct 89 = .ok (.iload 4, 2) := by decide +kernel
theorem dX5_direct_91 : decode cX5_direct 91 = .ok (.if_icmp .ge 38, 3) := by decide +kernel
theorem dX5_direct_94 : decode cX5_direct 94 = .ok (.aload_n 0, 1) := by decide +kernel
theorem dX5_direct_95 : decode cX5_direct 95 = .ok (.getfield 23, 3) := by decide +kernel
theorem dX5_direct_98 : decode cX5_direct 98 = .ok (.iload 5, 2) := by decide +kernel
theorem dX5_direct_100 : decode cX5_direct 100 = .ok (.invokevirtual 103, 3) := by decide +kernel
theorem dX5_direct_103 : decode cX5_direct 103 = .ok (.ifCond .le 20, 3) := by decide +kernel
theorem dX5_direct_106 : decode cX5_direct 106 = .ok (.aload_n 1, 1) := by decide +kernel
theorem dX5_direct_107 : decode cX5_direct 107 = .ok (.iload_n 2, 1) := by decide +kernel
theorem dX5_direct_108 : decode cX5_direct 108 = .ok (.iconst 1, 1) := by decide +kernel
theorem dX5_direct_109 : decode cX5_direct 109 = .ok (.iload 5, 2) := by decide +kernel
theorem dX5_direct_111 : decode cX5_direct 111 = .ok (.aload_n 0, 1) := by decide +kernel
theorem dX5_direct_112 : decode cX5_direct 112 = .ok (.getfield 23, 3) := by decide +kernel
theorem dX5_direct_115 : decode cX5_direct 115 = .ok (.iload 5, 2) := by decide +kernel
theorem dX5_direct_117 : decode cX5_direct 117 = .ok (.invokevirtual 103, 3) := by decide +kernel
theorem dX5_direct_120 : decode cX5_direct 120 = .ok (.invokevirtual 106, 3) := by decide +kernel
theorem dX5_direct_123 : decode cX5_direct 123 = .ok (.iinc 5 1, 3) := by decide +kernel
theorem dX5_direct_126 : decode cX5_direct 126 = .ok (.goto (-39), 3) := by decide +kernel
theorem dX5_direct_129 : decode cX5_direct 129 = .ok (.iconst 0, 1) := by decide +kernel
theorem dX5_direct_130 : decode cX5_direct 130 = .ok (.istore 5, 2) := by decide +kernel
theorem dX5_direct_132 : decode cX5_direct 132 = .ok (.iload 5, 2) := by decide +kernel
theorem dX5_direct_134 : decode cX5_direct 134 = .ok (.iload_n 3, 1) := by decide +kernel
theorem dX5_direct_135 : decode cX5_direct 135 = .ok (.if_icmp .ge 38, 3) := by decide +kernel
theorem dX5_direct_138 : decode cX5_direct 138 = .ok (.aload_n 0, 1) := by decide +kernel
theorem dX5_direct_139 : decode cX5_direct 139 = .ok (.getfield 20, 3) := by decide +kernel
theorem dX5_direct_142 : decode cX5_direct 142 = .ok (.iload 5, 2) := by decide +kernel
theorem dX5_direct_144 : decode cX5_direct 144 = .ok (.invokevirtual 103, 3) := by decide +kernel
theorem dX5_direct_147 : decode cX5_direct 147 = .ok (.ifCond .le 20, 3) := by decide +kernel
theorem dX5_direct_150 : decode cX5_direct 150 = .ok (.aload_n 1, 1) := by decide +kernel
theorem dX5_direct_151 : decode cX5_direct 151 = .ok (.iload_n 2, 1) := by decide +kernel
theorem dX5_direct_152 : decode cX5_direct 152 = .ok (.iconst 0, 1) := by decide +kernel
theorem dX5_direct_153 : decode cX5_direct 153 = .ok (.iload 5, 2) := by decide +kernel
theorem dX5_direct_155 : decode cX5_direct 155 = .ok (.aload_n 0, 1) := by decide +kernel
theorem dX5_direct_156 : decode cX5_direct 156 = .ok (.getfield 20, 3) := by decide +kernel
theorem dX5_direct_159 : decode cX5_direct 159 = .ok (.iload 5, 2) := by decide +kernel
theorem dX5_direct_161 : decode cX5_direct 161 = .ok (.invokevirtual 103, 3) := by decide +kernel
theorem dX5_direct_164 : decode cX5_direct 164 = .ok (.invokevirtual 83, 3) := by decide +kernel
theorem dX5_direct_167 : decode cX5_direct 167 = .ok (.iinc 5 1, 3) := by decide +kernel
theorem dX5_direct_170 : decode cX5_direct 170 = .ok (.goto (-38), 3) := by decide +kernel
theorem dX5_direct_173 : decode cX5_direct 173 = .ok (.return_, 1) := by decide +kernel
theorem dX5_reachOf_0 : decode cX5_reachOf 0 = .ok (.aload_n 0, 1) := by decide +kernel
theorem dX5_reachOf_1 : decode cX5_reachOf 1 = .ok (.iload_n 1, 1) := by decide +kernel
theorem dX5_reachOf_2 : decode cX5_reachOf 2 = .ok (.iconst 1, 1) := by decide +kernel
theorem dX5_reachOf_3 : decode cX5_reachOf 3 = .ok (.invokevirtual 87, 3) := by decide +kernel
theorem dX5_reachOf_6 : decode cX5_reachOf 6 = .ok (.istore_n 3, 1) := by decide +kernel
theorem dX5_reachOf_7 : decode cX5_reachOf 7 = .ok (.aload_n 0, 1) := by decide +kernel
theorem dX5_reachOf_8 : decode cX5_reachOf 8 = .ok (.invokevirtual 109, 3) := by decide +kernel
theorem dX5_reachOf_11 : decode cX5_reachOf 11 = .ok (.istore 4, 2) := by decide +kernel
theorem dX5_reachOf_13 : decode cX5_reachOf 13 = .ok (.iconst 0, 1) := by decide +kernel
theorem dX5_reachOf_14 : decode cX5_reachOf 14 = .ok (.istore 5, 2) := by decide +kernel
theorem dX5_reachOf_16 : decode cX5_reachOf 16 = .ok (.iload 5, 2) := by decide +kernel
theorem dX5_reachOf_18 : decode cX5_reachOf 18 = .ok (.aload_n 0, 1) := by decide +kernel
theorem dX5_reachOf_19 : decode cX5_reachOf 19 = .ok (.iload_n 3, 1) := by decide +kernel
theorem dX5_reachOf_20 : decode cX5_reachOf 20 = .ok (.invokevirtual 112, 3) := by decide +kernel
theorem dX5_reachOf_23 : decode cX5_reachOf 23 = .ok (.if_icmp .ge 35, 3) := by decide +kernel
theorem dX5_reachOf_26 : decode cX5_reachOf 26 = .ok (.iload 4, 2) := by decide +kernel
theorem dX5_reachOf_28 : decode cX5_reachOf 28 = .ok (.aload_n 0, 1) := by decide +kernel
theorem dX5_reachOf_29 : decode cX5_reachOf 29 = .ok (.aload_n 0, 1) := by decide +kernel
theorem dX5_reachOf_30 : decode cX5_reachOf 30 = .ok (.iload_n 1, 1) := by decide +kernel
theorem dX5_reachOf_31 : decode cX5_reachOf 31 = .ok (.iload_n 2, 1) := by decide +kernel
theorem dX5_reachOf_32 : decode cX5_reachOf 32 = .ok (.iload 5, 2) := by decide +kernel
theorem dX5_reachOf_34 : decode cX5_reachOf 34 = .ok (.invokevirtual 115, 3) := by decide +kernel
theorem dX5_reachOf_37 : decode cX5_reachOf 37 = .ok (.aload_n 0, 1) := by decide +kernel
theorem dX5_reachOf_38 : decode cX5_reachOf 38 = .ok (.iload_n 3, 1) := by decide +kernel
theorem dX5_reachOf_39 : decode cX5_reachOf 39 = .ok (.iload 5, 2) := by decide +kernel
theorem dX5_reachOf_41 : decode cX5_reachOf 41 = .ok (.invokevirtual 118, 3) := by decide +kernel
theorem dX5_reachOf_44 : decode cX5_reachOf 44 = .ok (.invokevirtual 121, 3) := by decide +kernel
theorem dX5_reachOf_47 : decode cX5_reachOf 47 = .ok (.invokestatic 124, 3) := by decide +kernel
theorem dX5_reachOf_50 : decode cX5_reachOf 50 = .ok (.istore 4, 2) := by decide +kernel
theorem dX5_reachOf_52 : decode cX5_reachOf 52 = .ok (.iinc 5 1, 3) := by decide +kernel
theorem dX5_reachOf_55 : decode cX5_reachOf 55 = .ok (.goto (-39), 3) := by decide +kernel
theorem dX5_reachOf_58 : decode cX5_reachOf 58 = .ok (.iload 4, 2) := by decide +kernel
theorem dX5_reachOf_60 : decode cX5_reachOf 60 = .ok (.ireturn, 1) := by decide +kernel
theorem dX5_needOf_0 : decode cX5_needOf 0 = .ok (.iconst 0, 1) := by decide +kernel
theorem dX5_needOf_1 : decode cX5_needOf 1 = .ok (.istore 4, 2) := by decide +kernel
theorem dX5_needOf_3 : decode cX5_needOf 3 = .ok (.iconst 0, 1) := by decide +kernel
theorem dX5_needOf_4 : decode cX5_needOf 4 = .ok (.istore 5, 2) := by decide +kernel
theorem dX5_needOf_6 : decode cX5_needOf 6 = .ok (.iload 5, 2) := by decide +kernel
theorem dX5_needOf_8 : decode cX5_needOf 8 = .ok (.aload_n 1, 1) := by decide +kernel
theorem dX5_needOf_9 : decode cX5_needOf 9 = .ok (.iload_n 2, 1) := by decide +kernel
theorem dX5_needOf_10 : decode cX5_needOf 10 = .ok (.iconst 0, 1) := by decide +kernel
theorem dX5_needOf_11 : decode cX5_needOf 11 = .ok (.invokevirtual 75, 3) := by decide +kernel
theorem dX5_needOf_14 : decode cX5_needOf 14 = .ok (.if_icmp .ge 34, 3) := by decide +kernel
theorem dX5_needOf_17 : decode cX5_needOf 17 = .ok (.iload 4, 2) := by decide +kernel
theorem dX5_needOf_19 : decode cX5_needOf 19 = .ok (.aload_n 0, 1) := by decide +kernel
theorem dX5_needOf_20 : decode cX5_needOf 20 = .ok (.getfield 20, 3) := by decide +kernel
theorem dX5_needOf_23 : decode cX5_needOf 23 = .ok (.iload 5, 2) := by decide +kernel
theorem dX5_needOf_25 : decode cX5_needOf 25 = .ok (.invokevirtual 103, 3) := by decide +kernel
theorem dX5_needOf_28 : decode cX5_needOf 28 = .ok (.aload_n 1, 1) := by decide +kernel
theorem dX5_needOf_29 : decode cX5_needOf 29 = .ok (.iload_n 2, 1) := by decide +kernel
theorem dX5_needOf_30 : decode cX5_needOf 30 = .ok (.iload 5, 2) := by decide +kernel
theorem dX5_needOf_32 : decode cX5_needOf 32 = .ok (.iload_n 3, 1) := by decide +kernel
theorem dX5_needOf_33 : decode cX5_needOf 33 = .ok (.invokevirtual 115, 3) := by decide +kernel
theorem dX5_needOf_36 : decode cX5_needOf 36 = .ok (.isub, 1) := by decide +kernel
theorem dX5_needOf_37 : decode cX5_needOf 37 = .ok (.invokestatic 129, 3) := by decide +kernel
theorem dX5_needOf_40 : decode cX5_needOf 40 = .ok (.istore 4, 2) := by decide +kernel
theorem dX5_needOf_42 : decode cX5_needOf 42 = .ok (.iinc 5 1, 3) := by decide +kernel
theorem dX5_needOf_45 : decode cX5_needOf 45 = .ok (.goto (-39), 3) := by decide +kernel
theorem dX5_needOf_48 : decode cX5_needOf 48 = .ok (.iload 4, 2) := by decide +kernel
theorem dX5_needOf_50 : decode cX5_needOf 50 = .ok (.ireturn, 1) := by decide +kernel
theorem dX6_init_0 : decode cX6_init 0 = .ok (.aload_n 0, 1) := by decide +kernel
theorem dX6_init_1 : decode cX6_init 1 = .ok (.invokespecial 3, 3) := by decide +kernel
theorem dX6_init_4 : decode cX6_init 4 = .ok (.aload_n 0, 1) := by decide +kernel
theorem dX6_init_5 : decode cX6_init 5 = .ok (.new 9, 3) := by decide +kernel
theorem dX6_init_8 : decode cX6_init 8 = .ok (.dup, 1) := by decide +kernel
theorem dX6_init_9 : decode cX6_init 9 = .ok (.sipush 200, 3) := by decide +kernel
theorem dX6_init_12 : decode cX6_init 12 = .ok (.invokespecial 11, 3) := by decide +kernel
theorem dX6_init_15 : decode cX6_init 15 = .ok (.putfield 14, 3) := by decide +kernel
theorem dX6_init_18 : decode cX6_init 18 = .ok (.return_, 1) := by decide +kernel
theorem dX6_length_0 : decode cX6_length 0 = .ok (.aload_n 0, 1) := by decide +kernel
theorem dX6_length_1 : decode cX6_length 1 = .ok (.getfield 20, 3) := by decide +kernel
theorem dX6_length_4 : decode cX6_length 4 = .ok (.ireturn, 1) := by decide +kernel
theorem dX6_clear_0 : decode cX6_clear 0 = .ok (.aload_n 0, 1) := by decide +kernel
theorem dX6_clear_1 : decode cX6_clear 1 = .ok (.iconst 0, 1) := by decide +kernel
theorem dX6_clear_2 : decode cX6_clear 2 = .ok (.putfield 20, 3) := by decide +kernel
theorem dX6_clear_5 : decode cX6_clear 5 = .ok (.return_, 1) := by decide +kernel
theorem dX6_add_0 : decode cX6_add 0 = .ok (.aload_n 0, 1) := by decide +kernel
theorem dX6_add_1 : decode cX6_add 1 = .ok (.getfield 20, 3) := by decide +kernel
theorem dX6_add_4 : decode cX6_add 4 = .ok (.sipush 200, 3) := by decide +kernel
theorem dX6_add_7 : decode cX6_add 7 = .ok (.if_icmp .lt 5, 3) := by decide +kernel
theorem dX6_add_10 : decode cX6_add 10 = .ok (.iconst 0, 1) := by decide +kernel
theorem dX6_add_11 : decode cX6_add 11 = .ok (.ireturn, 1) := by decide +kernel
theorem dX6_add_12 : decode cX6_add 12 = .ok (.aload_n 0, 1) := by decide +kernel
theorem dX6_add_13 : decode cX6_add 13 = .ok (.getfield 14, 3) := by decide +kernel
theorem dX6_add_16 : decode cX6_add 16 = .ok (.aload_n 0, 1) := by decide +kernel
theorem dX6_add_17 : decode cX6_add 17 = .ok (.getfield 20, 3) := by decide +kernel
theorem dX6_add_20 : decode cX6_add 20 = .ok (.iload_n 1, 1) := by decide +kernel
theorem dX6_add_21 : decode cX6_add 21 = .ok (.invokevirtual 24, 3) := by decide +kernel
theorem dX6_add_24 : decode cX6_add 24 = .ok (.aload_n 0, 1) := by decide +kernel
theorem dX6_add_25 : decode cX6_add 25 = .ok (.dup, 1) := by decide +kernel
theorem dX6_add_26 : decode cX6_add 26 = .ok (.getfield 20, 3) := by decide +kernel
theorem dX6_add_29 : decode cX6_add 29 = .ok (.iconst 1, 1) := by decide +kernel
theorem dX6_add_30 : decode cX6_add 30 = .ok (.iadd, 1) := by decide +kernel
theorem dX6_add_31 : decode cX6_add 31 = .ok (.putfield 20, 3) := by decide +kernel
theorem dX6_add_34 : decode cX6_add 34 = .ok (.iconst 1, 1) := by decide +kernel
theorem dX6_add_35 : decode cX6_add 35 = .ok (.ireturn, 1) := by decide +kernel
theorem dX6_letterAt_0 : decode cX6_letterAt 0 = .ok (.iload_n 1, 1) := by decide +kernel
theorem dX6_letterAt_1 : decode cX6_letterAt 1 = .ok (.ifCond .lt 22, 3) := by decide +kernel
theorem dX6_letterAt_4 : decode cX6_letterAt 4 = .ok (.iload_n 1, 1) := by decide +kernel
theorem dX6_letterAt_5 : decode cX6_letterAt 5 = .ok (.aload_n 0, 1) := by decide +kernel
theorem dX6_letterAt_6 : decode cX6_letterAt 6 = .ok (.getfield 20, 3) := by decide +kernel
theorem dX6_letterAt_9 : decode cX6_letterAt 9 = .ok (.if_icmp .ge 14, 3) := by decide +kernel
theorem dX6_letterAt_12 : decode cX6_letterAt 12 = .ok (.aload_n 0, 1) := by decide +kernel
theorem dX6_letterAt_13 : decode cX6_letterAt 13 = .ok (.getfield 14, 3) := by decide +kernel
theorem dX6_letterAt_16 : decode cX6_letterAt 16 = .ok (.iload_n 1, 1) := by decide +kernel
theorem dX6_letterAt_17 : decode cX6_letterAt 17 = .ok (.invokevirtual 28, 3) := by decide +kernel
theorem dX6_letterAt_20 : decode cX6_letterAt 20 = .ok (.goto 4, 3) := by decide +kernel
theorem dX6_letterAt_23 : decode cX6_letterAt 23 = .ok (.iconst (-1), 1) := by decide +kernel
theorem dX6_letterAt_24 : decode cX6_letterAt 24 = .ok (.ireturn, 1) := by decide +kernel
theorem dX7_init_0 : decode cX7_init 0 = .ok (.aload_n 0, 1) := by decide +kernel
theorem dX7_init_1 : decode cX7_init 1 = .ok (.invokespecial 3, 3) := by decide +kernel
theorem dX7_init_4 : decode cX7_init 4 = .ok (.aload_n 0, 1) := by decide +kernel
theorem dX7_init_5 : decode cX7_init 5 = .ok (.new 9, 3) := by decide +kernel
theorem dX7_init_8 : decode cX7_init 8 = .ok (.dup, 1) := by decide +kernel
theorem dX7_init_9 : decode cX7_init 9 = .ok (.bipush 6, 2) := by decide +kernel
theorem dX7_init_11 : decode cX7_init 11 = .ok (.invokespecial 11, 3) := by decide +kernel
theorem dX7_init_14 : decode cX7_init 14 = .ok (.putfield 14, 3) := by decide +kernel
theorem dX7_init_17 : decode cX7_init 17 = .ok (.return_, 1) := by decide +kernel
theorem dX7_countTries_0 : decode cX7_countTries 0 = .ok (.aload_n 0, 1) := by decide +kernel
theorem dX7_countTries_1 : decode cX7_countTries 1 = .ok (.aload_n 1, 1) := by decide +kernel
theorem dX7_countTries_2 : decode cX7_countTries 2 = .ok (.invokevirtual 20, 3) := by decide +kernel
theorem dX7_countTries_5 : decode cX7_countTries 5 = .ok (.putfield 26, 3) := by decide +kernel
theorem dX7_countTries_8 : decode cX7_countTries 8 = .ok (.aload_n 0, 1) := by decide +kernel
theorem dX7_countTries_9 : decode cX7_countTries 9 = .ok (.iconst 0, 1) := by decide +kernel
theorem dX7_countTries_10 : decode cX7_countTries 10 = .ok (.putfield 30, 3) := by decide +kernel
theorem dX7_countTries_13 : decode cX7_countTries 13 = .ok (.aload_n 0, 1) := by decide +kernel
theorem dX7_countTries_14 : decode cX7_countTries 14 = .ok (.aload_n 1, 1) := by decide +kernel
theorem dX7_countTries_15 : decode cX7_countTries 15 = .ok (.iconst 0, 1) := by decide +kernel
theorem dX7_countTries_16 : decode cX7_countTries 16 = .ok (.aload_n 1, 1) := by decide +kernel
theorem dX7_countTries_17 : decode cX7_countTries 17 = .ok (.invokevirtual 33, 3) := by decide +kernel
theorem dX7_countTries_20 : decode cX7_countTries 20 = .ok (.invokevirtual 36, 3) := by decide +kernel
theorem dX7_countTries_23 : decode cX7_countTries 23 = .ok (.aload_n 0, 1) := by decide +kernel
theorem dX7_countTries_24 : decode cX7_countTries 24 = .ok (.getfield 30, 3) := by decide +kernel
theorem dX7_countTries_27 : decode cX7_countTries 27 = .ok (.ireturn, 1) := by decide +kernel
theorem dX7_goOn_0 : decode cX7_goOn 0 = .ok (.iload_n 2, 1) := by decide +kernel
theorem dX7_goOn_1 : decode cX7_goOn 1 = .ok (.aload_n 1, 1) := by decide +kernel
theorem dX7_goOn_2 : decode cX7_goOn 2 = .ok (.invokevirtual 40, 3) := by decide +kernel
theorem dX7_goOn_5 : decode cX7_goOn 5 = .ok (.if_icmp .ge 9, 3) := by decide +kernel
theorem dX7_goOn_8 : decode cX7_goOn 8 = .ok (.iload_n 2, 1) := by decide +kernel
theorem dX7_goOn_9 : decode cX7_goOn 9 = .ok (.bipush 6, 2) := by decide +kernel
theorem dX7_goOn_11 : decode cX7_goOn 11 = .ok (.if_icmp .lt 4, 3) := by decide +kernel
theorem dX7_goOn_14 : decode cX7_goOn 14 = .ok (.return_, 1) := by decide +kernel
theorem dX7_goOn_15 : decode cX7_goOn 15 = .ok (.iconst 0, 1) := by decide +kernel
theorem dX7_goOn_16 : decode cX7_goOn 16 = .ok (.istore 4, 2) := by decide +kernel
theorem dX7_goOn_18 : decode cX7_goOn 18 = .ok (.iload 4, 2) := by decide +kernel
theorem dX7_goOn_20 : decode cX7_goOn 20 = .ok (.aload_n 1, 1) := by decide +kernel
theorem dX7_goOn_21 : decode cX7_goOn 21 = .ok (.iload_n 2, 1) := by decide +kernel
theorem dX7_goOn_22 : decode cX7_goOn 22 = .ok (.invokevirtual 43, 3) := by decide +kernel
theorem dX7_goOn_25 : decode cX7_goOn 25 = .ok (.if_icmp .ge 18, 3) := by decide +kernel
theorem dX7_goOn_28 : decode cX7_goOn 28 = .ok (.aload_n 0, 1) := by decide +kernel
theorem dX7_goOn_29 : decode cX7_goOn 29 = .ok (.aload_n 1, 1) := by decide +kernel
theorem dX7_goOn_30 : decode cX7_goOn 30 = .ok (.iload_n 2, 1) := by decide +kernel
theorem dX7_goOn_31 : decode cX7_goOn 31 = .ok (.iload 4, 2) := by decide +kernel
theorem dX7_goOn_33 : decode cX7_goOn 33 = .ok (.iload_n 3, 1) := by decide +kernel
theorem dX7_goOn_34 : decode cX7_goOn 34 = .ok (.invokevirtual 47, 3) := by decide +kernel
theorem dX7_goOn_37 : decode cX7_goOn 37 = .ok (.iinc 4 1, 3) := by decide +kernel
theorem dX7_goOn_40 : decode cX7_goOn 40 = .ok (.goto (-22), 3) := by decide +kernel
theorem dX7_goOn_43 : decode cX7_goOn 43 = .ok (.return_, 1) := by decide +kernel
theorem dX7_tryValue_0 : decode cX7_tryValue 0 = .ok (.aload_n 0, 1) := by decide +kernel
theorem dX7_tryValue_1 : decode cX7_tryValue 1 = .ok (.getfield 14, 3) := by decide +kernel
theorem dX7_tryValue_4 : decode cX7_tryValue 4 = .ok (.iload_n 2, 1) := by decide +kernel
theorem dX7_tryValue_5 : decode cX7_tryValue 5 = .ok (.iload_n 3, 1) := by decide +kernel
theorem dX7_tryValue_6 : decode cX7_tryValue 6 = .ok (.invokevirtual 51, 3) := by decide +kernel
theorem dX7_tryValue_9 : decode cX7_tryValue 9 = .ok (.aload_n 0, 1) := by decide +kernel
theorem dX7_tryValue_10 : decode cX7_tryValue 10 = .ok (.dup, 1) := by decide +kernel
theorem dX7_tryValue_11 : decode cX7_tryValue 11 = .ok (.getfield 30, 3) := by decide +kernel
theorem dX7_tryValue_14 : decode cX7_tryValue 14 = .ok (.iconst 1, 1) := by decide +kernel
theorem dX7_tryValue_15 : decode cX7_tryValue 15 = .ok (.iadd, 1) := by decide +kernel
theorem dX7_tryValue_16 : decode cX7_tryValue 16 = .ok (.putfield 30, 3) := by decide +kernel
theorem dX7_tryValue_19 : decode cX7_tryValue 19 = .ok (.aload_n 1, 1) := by decide +kernel
theorem dX7_tryValue_20 : decode cX7_tryValue 20 = .ok (.iload 4, 2) := by decide +kernel
theorem dX7_tryValue_22 : decode cX7_tryValue 22 = .ok (.aload_n 1, 1) := by decide +kernel
theorem dX7_tryValue_23 : decode cX7_tryValue 23 = .ok (.aload_n 0, 1) := by decide +kernel
theorem dX7_tryValue_24 : decode cX7_tryValue 24 = .ok (.getfield 14, 3) := by decide +kernel
theorem dX7_tryValue_27 : decode cX7_tryValue 27 = .ok (.iload_n 2, 1) := by decide +kernel
theorem dX7_tryValue_28 : decode cX7_tryValue 28 = .ok (.iload_n 2, 1) := by decide +kernel
theorem dX7_tryValue_29 : decode cX7_tryValue 29 = .ok (.iload_n 3, 1) := by decide +kernel
theorem dX7_tryValue_30 : decode cX7_tryValue 30 = .ok (.iconst (-1), 1) := by decide +kernel
theorem dX7_tryValue_31 : decode cX7_tryValue 31 = .ok (.invokevirtual 55, 3) := by decide +kernel
theorem dX7_tryValue_34 : decode cX7_tryValue 34 = .ok (.invokevirtual 59, 3) := by decide +kernel
theorem dX7_tryValue_37 : decode cX7_tryValue 37 = .ok (.istore 5, 2) := by decide +kernel
theorem dX7_tryValue_39 : decode cX7_tryValue 39 = .ok (.aload_n 0, 1) := by decide +kernel
theorem dX7_tryValue_40 : decode cX7_tryValue 40 = .ok (.aload_n 1, 1) := by decide +kernel
theorem dX7_tryValue_41 : decode cX7_tryValue 41 = .ok (.iload_n 2, 1) := by decide +kernel
theorem dX7_tryValue_42 : decode cX7_tryValue 42 = .ok (.iload 5, 2) := by decide +kernel
theorem dX7_tryValue_44 : decode cX7_tryValue 44 = .ok (.invokevirtual 63, 3) := by decide +kernel
theorem dX7_tryValue_47 : decode cX7_tryValue 47 = .ok (.istore 6, 2) := by decide +kernel
theorem dX7_tryValue_49 : decode cX7_tryValue 49 = .ok (.iload 6, 2) := by decide +kernel
theorem dX7_tryValue_51 : decode cX7_tryValue 51 = .ok (.aload_n 0, 1) := by decide +kernel
theorem dX7_tryValue_52 : decode cX7_tryValue 52 = .ok (.getfield 26, 3) := by decide +kernel
theorem dX7_tryValue_55 : decode cX7_tryValue 55 = .ok (.if_icmp .lt 4, 3) := by decide +kernel
theorem dX7_tryValue_58 : decode cX7_tryValue 58 = .ok (.return_, 1) := by decide +kernel
theorem dX7_tryValue_59 : decode cX7_tryValue 59 = .ok (.iload_n 2, 1) := by decide +kernel
theorem dX7_tryValue_60 : decode cX7_tryValue 60 = .ok (.iconst 1, 1) := by decide +kernel
theorem dX7_tryValue_61 : decode cX7_tryValue 61 = .ok (.iadd, 1) := by decide +kernel
theorem dX7_tryValue_62 : decode cX7_tryValue 62 = .ok (.aload_n 1, 1) := by decide +kernel
theorem dX7_tryValue_63 : decode cX7_tryValue 63 = .ok (.invokevirtual 40, 3) := by decide +kernel
theorem dX7_tryValue_66 : decode cX7_tryValue 66 = .ok (.if_icmp .ne 12, 3) := by decide +kernel
theorem dX7_tryValue_69 : decode cX7_tryValue 69 = .ok (.aload_n 0, 1) := by decide +kernel
theorem dX7_tryValue_70 : decode cX7_tryValue 70 = .ok (.iload 6, 2) := by decide +kernel
theorem dX7_tryValue_72 : decode cX7_tryValue 72 = .ok (.putfield 26, 3) := by decide +kernel
theorem dX7_tryValue_75 : decode cX7_tryValue 75 = .ok (.goto 13, 3) := by decide +kernel
theorem dX7_tryValue_78 : decode cX7_tryValue 78 = .ok (.aload_n 0, 1) := by decide +kernel
theorem dX7_tryValue_79 : decode cX7_tryValue 79 = .ok (.aload_n 1, 1) := by decide +kernel
theorem dX7_tryValue_80 : decode cX7_tryValue 80 = .ok (.iload_n 2, 1) := by decide +kernel
theorem dX7_tryValue_81 : decode cX7_tryValue 81 = .ok (.iconst 1, 1) := by decide +kernel
theorem dX7_tryValue_82 : decode cX7_tryValue 82 = .ok (.iadd, 1) := by decide +kernel
theorem dX7_tryValue_83 : decode cX7_tryValue 83 = .ok (.iload 5, 2) := by decide +kernel
theorem dX7_tryValue_85 : decode cX7_tryValue 85 = .ok (.invokevirtual 36, 3) := by decide +kernel
theorem dX7_tryValue_88 : decode cX7_tryValue 88 = .ok (.return_, 1) := by decide +kernel
theorem dX7_lowOf_0 : decode cX7_lowOf 0 = .ok (.iload_n 3, 1) := by decide +kernel
theorem dX7_lowOf_1 : decode cX7_lowOf 1 = .ok (.istore 4, 2) := by decide +kernel
theorem dX7_lowOf_3 : decode cX7_lowOf 3 = .ok (.iload_n 2, 1) := by decide +kernel
theorem dX7_lowOf_4 : decode cX7_lowOf 4 = .ok (.iconst 1, 1) := by decide +kernel
theorem dX7_lowOf_5 : decode cX7_lowOf 5 = .ok (.iadd, 1) := by decide +kernel
theorem dX7_lowOf_6 : decode cX7_lowOf 6 = .ok (.istore 5, 2) := by decide +kernel
theorem dX7_lowOf_8 : decode cX7_lowOf 8 = .ok (.iload 5, 2) := by decide +kernel
theorem dX7_lowOf_10 : decode cX7_lowOf 10 = .ok (.aload_n 1, 1) := by decide +kernel
theorem dX7_lowOf_11 : decode cX7_lowOf 11 = .ok (.invokevirtual 40, 3) := by decide +kernel
theorem dX7_lowOf_14 : decode cX7_lowOf 14 = .ok (.if_icmp .ge 25, 3) := by decide +kernel
theorem dX7_lowOf_17 : decode cX7_lowOf 17 = .ok (.aload_n 1, 1) := by decide +kernel
theorem dX7_lowOf_18 : decode cX7_lowOf 18 = .ok (.iload 4, 2) := by decide +kernel
theorem dX7_lowOf_20 : decode cX7_lowOf 20 = .ok (.aload_n 0, 1) := by decide +kernel
theorem dX7_lowOf_21 : decode cX7_lowOf 21 = .ok (.aload_n 1, 1) := by decide +kernel
theorem dX7_lowOf_22 : decode cX7_lowOf 22 = .ok (.iload_n 2, 1) := by decide +kernel
theorem dX7_lowOf_23 : decode cX7_lowOf 23 = .ok (.iload 5, 2) := by decide +kernel
theorem dX7_lowOf_25 : decode cX7_lowOf 25 = .ok (.invokevirtual 67, 3) := by decide +kernel
theorem dX7_lowOf_28 : decode cX7_lowOf 28 = .ok (.invokevirtual 59, 3) := by decide +kernel
theorem dX7_lowOf_31 : decode cX7_lowOf 31 = .ok (.istore 4, 2) := by decide +kernel
theorem dX7_lowOf_33 : decode cX7_lowOf 33 = .ok (.iinc 5 1, 3) := by decide +kernel
theorem dX7_lowOf_36 : decode cX7_lowOf 36 = .ok (.goto (-28), 3) := by decide +kernel
theorem dX7_lowOf_39 : decode cX7_lowOf 39 = .ok (.iload 4, 2) := by decide +kernel
theorem dX7_lowOf_41 : decode cX7_lowOf 41 = .ok (.ireturn, 1) := by decide +kernel
theorem dX7_leastBeside_0 : decode cX7_leastBeside 0 = .ok (.aload_n 1, 1) := by decide +kernel
theorem dX7_leastBeside_1 : decode cX7_leastBeside 1 = .ok (.invokevirtual 20, 3) := by decide +kernel
theorem dX7_leastBeside_4 : decode cX7_leastBeside 4 = .ok (.istore 4, 2) := by decide +kernel
theorem dX7_leastBeside_6 : decode cX7_leastBeside 6 = .ok (.iconst 0, 1) := by decide +kernel
theorem dX7_leastBeside_7 : decode cX7_leastBeside 7 = .ok (.istore 5, 2) := by decide +kernel
theorem dX7_leastBeside_9 : decode cX7_leastBeside 9 = .ok (.iload 5, 2) := by decide +kernel
theorem dX7_leastBeside_11 : decode cX7_leastBeside 11 = .ok (.aload_n 1, 1) := by decide +kernel
theorem dX7_leastBeside_12 : decode cX7_leastBeside 12 = .ok (.iload_n 3, 1) := by decide +kernel
theorem dX7_leastBeside_13 : decode cX7_leastBeside 13 = .ok (.invokevirtual 43, 3) := by decide +kernel
theorem dX7_leastBeside_16 : decode cX7_leastBeside 16 = .ok (.if_icmp .ge 31, 3) := by decide +kernel
theorem dX7_leastBeside_19 : decode cX7_leastBeside 19 = .ok (.iload 4, 2) := by decide +kernel
theorem dX7_leastBeside_21 : decode cX7_leastBeside 21 = .ok (.aload_n 1, 1) := by decide +kernel
theorem dX7_leastBeside_22 : decode cX7_leastBeside 22 = .ok (.aload_n 0, 1) := by decide +kernel
theorem dX7_leastBeside_23 : decode cX7_leastBeside 23 = .ok (.getfield 14, 3) := by decide +kernel
theorem dX7_leastBeside_26 : decode cX7_leastBeside 26 = .ok (.iload_n 2, 1) := by decide +kernel
theorem dX7_leastBeside_27 : decode cX7_leastBeside 27 = .ok (.iconst 1, 1) := by decide +kernel
theorem dX7_leastBeside_28 : decode cX7_leastBeside 28 = .ok (.iadd, 1) := by decide +kernel
theorem dX7_leastBeside_29 : decode cX7_leastBeside 29 = .ok (.iload_n 3, 1) := by decide +kernel
theorem dX7_leastBeside_30 : decode cX7_leastBeside 30 = .ok (.iload 5, 2) := by decide +kernel
theorem dX7_leastBeside_32 : decode cX7_leastBeside 32 = .ok (.iconst (-1), 1) := by decide +kernel
theorem dX7_leastBeside_33 : decode cX7_leastBeside 33 = .ok (.invokevirtual 55, 3) := by decide +kernel
theorem dX7_leastBeside_36 : decode cX7_leastBeside 36 = .ok (.invokestatic 70, 3) := by decide +kernel
theorem dX7_leastBeside_39 : decode cX7_leastBeside 39 = .ok (.istore 4, 2) := by decide +kernel
theorem dX7_leastBeside_41 : decode cX7_leastBeside 41 = .ok (.iinc 5 1, 3) := by decide +kernel
theorem dX7_leastBeside_44 : decode cX7_leastBeside 44 = .ok (.goto (-35), 3) := by decide +kernel
theorem dX7_leastBeside_47 : decode cX7_leastBeside 47 = .ok (.iload 4, 2) := by decide +kernel
theorem dX7_leastBeside_49 : decode cX7_leastBeside 49 = .ok (.ireturn, 1) := by decide +kernel
end
section
theorem dX8_init_0 : decode cX8_init 0 = .ok (.aload_n 0, 1) := by decide +kernel
theorem dX8_init_1 : decode cX8_init 1 = .ok (.invokespecial 3, 3) := by decide +kernel
theorem dX8_init_4 : decode cX8_init 4 = .ok (.aload_n 0, 1) := by decide +kernel
theorem dX8_init_5 : decode cX8_init 5 = .ok (.new 9, 3) := by decide +kernel
theorem dX8_init_8 : decode cX8_init 8 = .ok (.dup, 1) := by decide +kernel
theorem dX8_init_9 : decode cX8_init 9 = .ok (.invokespecial 11, 3) := by decide +kernel
theorem dX8_init_12 : decode cX8_init 12 = .ok (.putfield 12, 3) := by decide +kernel
theorem dX8_init_15 : decode cX8_init 15 = .ok (.aload_n 0, 1) := by decide +kernel
theorem dX8_init_16 : decode cX8_init 16 = .ok (.new 16, 3) := by decide +kernel
theorem dX8_init_19 : decode cX8_init 19 = .ok (.dup, 1) := by decide +kernel
theorem dX8_init_20 : decode cX8_init 20 = .ok (.invokespecial 18, 3) := by decide +kernel
theorem dX8_init_23 : decode cX8_init 23 = .ok (.putfield 19, 3) := by decide +kernel
theorem dX8_init_26 : decode cX8_init 26 = .ok (.aload_n 0, 1) := by decide +kernel
theorem dX8_init_27 : decode cX8_init 27 = .ok (.new 23, 3) := by decide +kernel
theorem dX8_init_30 : decode cX8_init 30 = .ok (.dup, 1) := by decide +kernel
theorem dX8_init_31 : decode cX8_init 31 = .ok (.invokespecial 25, 3) := by decide +kernel
theorem dX8_init_34 : decode cX8_init 34 = .ok (.putfield 26, 3) := by decide +kernel
theorem dX8_init_37 : decode cX8_init 37 = .ok (.aload_n 0, 1) := by decide +kernel
theorem dX8_init_38 : decode cX8_init 38 = .ok (.new 23, 3) := by decide +kernel
theorem dX8_init_41 : decode cX8_init 41 = .ok (.dup, 1) := by decide +kernel
theorem dX8_init_42 : decode cX8_init 42 = .ok (.invokespecial 25, 3) := by decide +kernel
theorem dX8_init_45 : decode cX8_init 45 = .ok (.putfield 30, 3) := by decide +kernel
theorem dX8_init_48 : decode cX8_init 48 = .ok (.aload_n 0, 1) := by decide +kernel
theorem dX8_init_49 : decode cX8_init 49 = .ok (.new 33, 3) := by decide +kernel
theorem dX8_init_52 : decode cX8_init 52 = .ok (.dup, 1) := by decide +kernel
theorem dX8_init_53 : decode cX8_init 53 = .ok (.bipush 6, 2) := by decide +kernel
theorem dX8_init_55 : decode cX8_init 55 = .ok (.invokespecial 35, 3) := by decide +kernel
theorem dX8_init_58 : decode cX8_init 58 = .ok (.putfield 38, 3) := by decide +kernel
theorem dX8_init_61 : decode cX8_init 61 = .ok (.aload_n 0, 1) := by decide +kernel
theorem dX8_init_62 : decode cX8_init 62 = .ok (.new 42, 3) := by decide +kernel
theorem dX8_init_65 : decode cX8_init 65 = .ok (.dup, 1) := by decide +kernel
theorem dX8_init_66 : decode cX8_init 66 = .ok (.invokespecial 44, 3) := by decide +kernel
theorem dX8_init_69 : decode cX8_init 69 = .ok (.putfield 45, 3) := by decide +kernel
theorem dX8_init_72 : decode cX8_init 72 = .ok (.aload_n 0, 1) := by decide +kernel
theorem dX8_init_73 : decode cX8_init 73 = .ok (.new 49, 3) := by decide +kernel
theorem dX8_init_76 : decode cX8_init 76 = .ok (.dup, 1) := by decide +kernel
theorem dX8_init_77 : decode cX8_init 77 = .ok (.invokespecial 51, 3) := by decide +kernel
theorem dX8_init_80 : decode cX8_init 80 = .ok (.putfield 52, 3) := by decide +kernel
theorem dX8_init_83 : decode cX8_init 83 = .ok (.aload_n 0, 1) := by decide +kernel
theorem dX8_init_84 : decode cX8_init 84 = .ok (.new 56, 3) := by decide +kernel
theorem dX8_init_87 : decode cX8_init 87 = .ok (.dup, 1) := by decide +kernel
theorem dX8_init_88 : decode cX8_init 88 = .ok (.invokespecial 58, 3) := by decide +kernel
theorem dX8_init_91 : decode cX8_init 91 = .ok (.putfield 59, 3) := by decide +kernel
theorem dX8_init_94 : decode cX8_init 94 = .ok (.aload_n 0, 1) := by decide +kernel
theorem dX8_init_95 : decode cX8_init 95 = .ok (.new 63, 3) := by decide +kernel
theorem dX8_init_98 : decode cX8_init 98 = .ok (.dup, 1) := by decide +kernel
theorem dX8_init_99 : decode cX8_init 99 = .ok (.invokespecial 65, 3) := by decide +kernel
theorem dX8_init_102 : decode cX8_init 102 = .ok (.putfield 66, 3) := by decide +kernel
theorem dX8_init_105 : decode cX8_init 105 = .ok (.iconst 0, 1) := by decide +kernel
theorem dX8_init_106 : decode cX8_init 106 = .ok (.istore_n 1, 1) := by decide +kernel
theorem dX8_init_107 : decode cX8_init 107 = .ok (.iload_n 1, 1) := by decide +kernel
theorem dX8_init_108 : decode cX8_init 108 = .ok (.ldc 70, 2) := by decide +kernel
theorem dX8_init_110 : decode cX8_init 110 = .ok (.invokevirtual 72, 3) := by decide +kernel
theorem dX8_init_113 : decode cX8_init 113 = .ok (.if_icmp .ge 23, 3) := by decide +kernel
theorem dX8_init_116 : decode cX8_init 116 = .ok (.aload_n 0, 1) := by decide +kernel
theorem dX8_init_117 : decode cX8_init 117 = .ok (.getfield 12, 3) := by decide +kernel
theorem dX8_init_120 : decode cX8_init 120 = .ok (.ldc 70, 2) := by decide +kernel
theorem dX8_init_122 : decode cX8_init 122 = .ok (.iload_n 1, 1) := by decide +kernel
theorem dX8_init_123 : decode cX8_init 123 = .ok (.invokevirtual 78, 3) := by decide +kernel
theorem dX8_init_126 : decode cX8_init 126 = .ok (.invokevirtual 82, 3) := by decide +kernel
theorem dX8_init_129 : decode cX8_init 129 = .ok (.pop, 1) := by decide +kernel
theorem dX8_init_130 : decode cX8_init 130 = .ok (.iinc 1 1, 3) := by decide +kernel
theorem dX8_init_133 : decode cX8_init 133 = .ok (.goto (-26), 3) := by decide +kernel
theorem dX8_init_136 : decode cX8_init 136 = .ok (.aload_n 0, 1) := by decide +kernel
theorem dX8_init_137 : decode cX8_init 137 = .ok (.getfield 19, 3) := by decide +kernel
theorem dX8_init_140 : decode cX8_init 140 = .ok (.aload_n 0, 1) := by decide +kernel
theorem dX8_init_141 : decode cX8_init 141 = .ok (.getfield 12, 3) := by decide +kernel
theorem dX8_init_144 : decode cX8_init 144 = .ok (.aload_n 0, 1) := by decide +kernel
theorem dX8_init_145 : decode cX8_init 145 = .ok (.getfield 26, 3) := by decide +kernel
theorem dX8_init_148 : decode cX8_init 148 = .ok (.invokevirtual 86, 3) := by decide +kernel
theorem dX8_init_151 : decode cX8_init 151 = .ok (.pop, 1) := by decide +kernel
theorem dX8_init_152 : decode cX8_init 152 = .ok (.aload_n 0, 1) := by decide +kernel
theorem dX8_init_153 : decode cX8_init 153 = .ok (.getfield 12, 3) := by decide +kernel
theorem dX8_init_156 : decode cX8_init 156 = .ok (.invokevirtual 90, 3) := by decide +kernel
theorem dX8_init_159 : decode cX8_init 159 = .ok (.return_, 1) := by decide +kernel
theorem dX8_write_0 : decode cX8_write 0 = .ok (.iload_n 1, 1) := by decide +kernel
theorem dX8_write_1 : decode cX8_write 1 = .ok (.bipush 32, 2) := by decide +kernel
theorem dX8_write_3 : decode cX8_write 3 = .ok (.if_icmp .lt 9, 3) := by decide +kernel
theorem dX8_write_6 : decode cX8_write 6 = .ok (.iload_n 1, 1) := by decide +kernel
theorem dX8_write_7 : decode cX8_write 7 = .ok (.bipush 126, 2) := by decide +kernel
theorem dX8_write_9 : decode cX8_write 9 = .ok (.if_icmp .le 5, 3) := by decide +kernel
theorem dX8_write_12 : decode cX8_write 12 = .ok (.iconst (-1), 1) := by decide +kernel
theorem dX8_write_13 : decode cX8_write 13 = .ok (.ireturn, 1) := by decide +kernel
theorem dX8_write_14 : decode cX8_write 14 = .ok (.aload_n 0, 1) := by decide +kernel
theorem dX8_write_15 : decode cX8_write 15 = .ok (.getfield 12, 3) := by decide +kernel
theorem dX8_write_18 : decode cX8_write 18 = .ok (.iload_n 1, 1) := by decide +kernel
theorem dX8_write_19 : decode cX8_write 19 = .ok (.invokevirtual 82, 3) := by decide +kernel
theorem dX8_write_22 : decode cX8_write 22 = .ok (.ifCond .eq 13, 3) := by decide +kernel
theorem dX8_write_25 : decode cX8_write 25 = .ok (.aload_n 0, 1) := by decide +kernel
theorem dX8_write_26 : decode cX8_write 26 = .ok (.getfield 12, 3) := by decide +kernel
theorem dX8_write_29 : decode cX8_write 29 = .ok (.invokevirtual 93, 3) := by decide +kernel
theorem dX8_write_32 : decode cX8_write 32 = .ok (.goto 5, 3) := by decide +kernel
theorem dX8_write_35 : decode cX8_write 35 = .ok (.bipush (-3), 2) := by decide +kernel
theorem dX8_write_37 : decode cX8_write 37 = .ok (.ireturn, 1) := by decide +kernel
theorem dX8_wipe_0 : decode cX8_wipe 0 = .ok (.aload_n 0, 1) := by decide +kernel
theorem dX8_wipe_1 : decode cX8_wipe 1 = .ok (.getfield 12, 3) := by decide +kernel
theorem dX8_wipe_4 : decode cX8_wipe 4 = .ok (.invokevirtual 93, 3) := by decide +kernel
theorem dX8_wipe_7 : decode cX8_wipe 7 = .ok (.istore_n 1, 1) := by decide +kernel
theorem dX8_wipe_8 : decode cX8_wipe 8 = .ok (.aload_n 0, 1) := by decide +kernel
theorem dX8_wipe_9 : decode cX8_wipe 9 = .ok (.getfield 12, 3) := by decide +kernel
theorem dX8_wipe_12 : decode cX8_wipe 12 = .ok (.invokevirtual 90, 3) := by decide +kernel
theorem dX8_wipe_15 : decode cX8_wipe 15 = .ok (.iload_n 1, 1) := by decide +kernel
theorem dX8_wipe_16 : decode cX8_wipe 16 = .ok (.ireturn, 1) := by decide +kernel
theorem dX8_fault_0 : decode cX8_fault 0 = .ok (.aload_n 0, 1) := by decide +kernel
theorem dX8_fault_1 : decode cX8_fault 1 = .ok (.getfield 19, 3) := by decide +kernel
theorem dX8_fault_4 : decode cX8_fault 4 = .ok (.aload_n 0, 1) := by decide +kernel
theorem dX8_fault_5 : decode cX8_fault 5 = .ok (.getfield 12, 3) := by decide +kernel
theorem dX8_fault_8 : decode cX8_fault 8 = .ok (.aload_n 0, 1) := by decide +kernel
theorem dX8_fault_9 : decode cX8_fault 9 = .ok (.getfield 30, 3) := by decide +kernel
theorem dX8_fault_12 : decode cX8_fault 12 = .ok (.invokevirtual 86, 3) := by decide +kernel
theorem dX8_fault_15 : decode cX8_fault 15 = .ok (.ireturn, 1) := by decide +kernel
theorem dX8_lay_0 : decode cX8_lay 0 = .ok (.aload_n 0, 1) := by decide +kernel
theorem dX8_lay_1 : decode cX8_lay 1 = .ok (.getfield 19, 3) := by decide +kernel
theorem dX8_lay_4 : decode cX8_lay 4 = .ok (.aload_n 0, 1) := by decide +kernel
theorem dX8_lay_5 : decode cX8_lay 5 = .ok (.getfield 12, 3) := by decide +kernel
theorem dX8_lay_8 : decode cX8_lay 8 = .ok (.aload_n 0, 1) := by decide +kernel
theorem dX8_lay_9 : decode cX8_lay 9 = .ok (.getfield 30, 3) := by decide +kernel
theorem dX8_lay_12 : decode cX8_lay 12 = .ok (.invokevirtual 86, 3) := by decide +kernel
theorem dX8_lay_15 : decode cX8_lay 15 = .ok (.bipush (-4), 2) := by decide +kernel
theorem dX8_lay_17 : decode cX8_lay 17 = .ok (.if_icmp .ne 13, 3) := by decide +kernel
theorem dX8_lay_20 : decode cX8_lay 20 = .ok (.aload_n 0, 1) := by decide +kernel
theorem dX8_lay_21 : decode cX8_lay 21 = .ok (.getfield 30, 3) := by decide +kernel
theorem dX8_lay_24 : decode cX8_lay 24 = .ok (.invokevirtual 94, 3) := by decide +kernel
theorem dX8_lay_27 : decode cX8_lay 27 = .ok (.ifCond .ne 6, 3) := by decide +kernel
theorem dX8_lay_30 : decode cX8_lay 30 = .ok (.bipush (-2), 2) := by decide +kernel
theorem dX8_lay_32 : decode cX8_lay 32 = .ok (.ireturn, 1) := by decide +kernel
theorem dX8_lay_33 : decode cX8_lay 33 = .ok (.aload_n 0, 1) := by decide +kernel
theorem dX8_lay_34 : decode cX8_lay 34 = .ok (.getfield 26, 3) := by decide +kernel
theorem dX8_lay_37 : decode cX8_lay 37 = .ok (.aload_n 0, 1) := by decide +kernel
theorem dX8_lay_38 : decode cX8_lay 38 = .ok (.getfield 30, 3) := by decide +kernel
theorem dX8_lay_41 : decode cX8_lay 41 = .ok (.invokevirtual 97, 3) := by decide +kernel
theorem dX8_lay_44 : decode cX8_lay 44 = .ok (.aload_n 0, 1) := by decide +kernel
theorem dX8_lay_45 : decode cX8_lay 45 = .ok (.getfield 38, 3) := by decide +kernel
theorem dX8_lay_48 : decode cX8_lay 48 = .ok (.invokevirtual 101, 3) := by decide +kernel
theorem dX8_lay_51 : decode cX8_lay 51 = .ok (.aload_n 0, 1) := by decide +kernel
theorem dX8_lay_52 : decode cX8_lay 52 = .ok (.getfield 52, 3) := by decide +kernel
theorem dX8_lay_55 : decode cX8_lay 55 = .ok (.invokevirtual 102, 3) := by decide +kernel
theorem dX8_lay_58 : decode cX8_lay 58 = .ok (.aload_n 0, 1) := by decide +kernel
theorem dX8_lay_59 : decode cX8_lay 59 = .ok (.getfield 26, 3) := by decide +kernel
theorem dX8_lay_62 : decode cX8_lay 62 = .ok (.invokevirtual 94, 3) := by decide +kernel
theorem dX8_lay_65 : decode cX8_lay 65 = .ok (.ireturn, 1) := by decide +kernel
theorem dX8_name_0 : decode cX8_name 0 = .ok (.aload_n 0, 1) := by decide +kernel
theorem dX8_name_1 : decode cX8_name 1 = .ok (.getfield 26, 3) := by decide +kernel
theorem dX8_name_4 : decode cX8_name 4 = .ok (.iload_n 1, 1) := by decide +kernel
theorem dX8_name_5 : decode cX8_name 5 = .ok (.invokevirtual 103, 3) := by decide +kernel
theorem dX8_name_8 : decode cX8_name 8 = .ok (.ifCond .ne 5, 3) := by decide +kernel
theorem dX8_name_11 : decode cX8_name 11 = .ok (.iconst (-1), 1) := by decide +kernel
theorem dX8_name_12 : decode cX8_name 12 = .ok (.ireturn, 1) := by decide +kernel
theorem dX8_name_13 : decode cX8_name 13 = .ok (.iload_n 2, 1) := by decide +kernel
theorem dX8_name_14 : decode cX8_name 14 = .ok (.tableswitch 66 0 3 #[30, 39, 48, 57], 30) := by decide +kernel
theorem dX8_name_44 : decode cX8_name 44 = .ok (.aload_n 0, 1) := by decide +kernel
theorem dX8_name_45 : decode cX8_name 45 = .ok (.getfield 26, 3) := by decide +kernel
theorem dX8_name_48 : decode cX8_name 48 = .ok (.iload_n 1, 1) := by decide +kernel
theorem dX8_name_49 : decode cX8_name 49 = .ok (.invokevirtual 106, 3) := by decide +kernel
theorem dX8_name_52 : decode cX8_name 52 = .ok (.ireturn, 1) := by decide +kernel
theorem dX8_name_53 : decode cX8_name 53 = .ok (.aload_n 0, 1) := by decide +kernel
theorem dX8_name_54 : decode cX8_name 54 = .ok (.getfield 26, 3) := by decide +kernel
theorem dX8_name_57 : decode cX8_name 57 = .ok (.iload_n 1, 1) := by decide +kernel
theorem dX8_name_58 : decode cX8_name 58 = .ok (.invokevirtual 110, 3) := by decide +kernel
theorem dX8_name_61 : decode cX8_name 61 = .ok (.ireturn, 1) := by decide +kernel
theorem dX8_name_62 : decode cX8_name 62 = .ok (.aload_n 0, 1) := by decide +kernel
theorem dX8_name_63 : decode cX8_name 63 = .ok (.getfield 26, 3) := by decide +kernel
theorem dX8_name_66 : decode cX8_name 66 = .ok (.iload_n 1, 1) := by decide +kernel
theorem dX8_name_67 : decode cX8_name 67 = .ok (.invokevirtual 113, 3) := by decide +kernel
theorem dX8_name_70 : decode cX8_name 70 = .ok (.ireturn, 1) := by decide +kernel
theorem dX8_name_71 : decode cX8_name 71 = .ok (.aload_n 0, 1) := by decide +kernel
theorem dX8_name_72 : decode cX8_name 72 = .ok (.getfield 26, 3) := by decide +kernel
theorem dX8_name_75 : decode cX8_name 75 = .ok (.iload_n 1, 1) := by decide +kernel
theorem dX8_name_76 : decode cX8_name 76 = .ok (.invokevirtual 116, 3) := by decide +kernel
theorem dX8_name_79 : decode cX8_name 79 = .ok (.ireturn, 1) := by decide +kernel
theorem dX8_name_80 : decode cX8_name 80 = .ok (.iconst (-1), 1) := by decide +kernel
theorem dX8_name_81 : decode cX8_name 81 = .ok (.ireturn, 1) := by decide +kernel
theorem dX8_single_0 : decode cX8_single 0 = .ok (.aload_n 0, 1) := by decide +kernel
theorem dX8_single_1 : decode cX8_single 1 = .ok (.getfield 26, 3) := by decide +kernel
theorem dX8_single_4 : decode cX8_single 4 = .ok (.iload_n 1, 1) := by decide +kernel
theorem dX8_single_5 : decode cX8_single 5 = .ok (.iload_n 2, 1) := by decide +kernel
theorem dX8_single_6 : decode cX8_single 6 = .ok (.invokevirtual 119, 3) := by decide +kernel
theorem dX8_single_9 : decode cX8_single 9 = .ok (.ifCond .eq 15, 3) := by decide +kernel
theorem dX8_single_12 : decode cX8_single 12 = .ok (.aload_n 0, 1) := by decide +kernel
theorem dX8_single_13 : decode cX8_single 13 = .ok (.getfield 26, 3) := by decide +kernel
theorem dX8_single_16 : decode cX8_single 16 = .ok (.iload_n 1, 1) := by decide +kernel
theorem dX8_single_17 : decode cX8_single 17 = .ok (.iload_n 2, 1) := by decide +kernel
theorem dX8_single_18 : decode cX8_single 18 = .ok (.invokevirtual 123, 3) := by decide +kernel
theorem dX8_single_21 : decode cX8_single 21 = .ok (.goto 4, 3) := by decide +kernel
theorem dX8_single_24 : decode cX8_single 24 = .ok (.iconst (-1), 1) := by decide +kernel
theorem dX8_single_25 : decode cX8_single 25 = .ok (.ireturn, 1) := by decide +kernel
theorem dX8_table_0 : decode cX8_table 0 = .ok (.aload_n 0, 1) := by decide +kernel
theorem dX8_table_1 : decode cX8_table 1 = .ok (.getfield 26, 3) := by decide +kernel
theorem dX8_table_4 : decode cX8_table 4 = .ok (.iload_n 1, 1) := by decide +kernel
theorem dX8_table_5 : decode cX8_table 5 = .ok (.invokevirtual 127, 3) := by decide +kernel
theorem dX8_table_8 : decode cX8_table 8 = .ok (.ifCond .ne 5, 3) := by decide +kernel
theorem dX8_table_11 : decode cX8_table 11 = .ok (.iconst (-1), 1) := by decide +kernel
theorem dX8_table_12 : decode cX8_table 12 = .ok (.ireturn, 1) := by decide +kernel
theorem dX8_table_13 : decode cX8_table 13 = .ok (.iload_n 2, 1) := by decide +kernel
theorem dX8_table_14 : decode cX8_table 14 = .ok (.tableswitch 68 0 3 #[30, 40, 50, 59], 30) := by decide +kernel
theorem dX8_table_44 : decode cX8_table 44 = .ok (.aload_n 0, 1) := by decide +kernel
theorem dX8_table_45 : decode cX8_table 45 = .ok (.getfield 26, 3) := by decide +kernel
theorem dX8_table_48 : decode cX8_table 48 = .ok (.iload_n 1, 1) := by decide +kernel
theorem dX8_table_49 : decode cX8_table 49 = .ok (.iconst 0, 1) := by decide +kernel
theorem dX8_table_50 : decode cX8_table 50 = .ok (.invokevirtual 130, 3) := by decide +kernel
theorem dX8_table_53 : decode cX8_table 53 = .ok (.ireturn, 1) := by decide +kernel
theorem dX8_table_54 : decode cX8_table 54 = .ok (.aload_n 0, 1) := by decide +kernel
theorem dX8_table_55 : decode cX8_table 55 = .ok (.getfield 26, 3) := by decide +kernel
theorem dX8_table_58 : decode cX8_table 58 = .ok (.iload_n 1, 1) := by decide +kernel
theorem dX8_table_59 : decode cX8_table 59 = .ok (.iconst 1, 1) := by decide +kernel
theorem dX8_table_60 : decode cX8_table 60 = .ok (.invokevirtual 130, 3) := by decide +kernel
theorem dX8_table_63 : decode cX8_table 63 = .ok (.ireturn, 1) := by decide +kernel
theorem dX8_table_64 : decode cX8_table 64 = .ok (.aload_n 0, 1) := by decide +kernel
theorem dX8_table_65 : decode cX8_table 65 = .ok (.getfield 26, 3) := by decide +kernel
theorem dX8_table_68 : decode cX8_table 68 = .ok (.iload_n 1, 1) := by decide +kernel
theorem dX8_table_69 : decode cX8_table 69 = .ok (.invokevirtual 133, 3) := by decide +kernel
theorem dX8_table_72 : decode cX8_table 72 = .ok (.ireturn, 1) := by decide +kernel
theorem dX8_table_73 : decode cX8_table 73 = .ok (.aload_n 0, 1) := by decide +kernel
theorem dX8_table_74 : decode cX8_table 74 = .ok (.getfield 26, 3) := by decide +kernel
theorem dX8_table_77 : decode cX8_table 77 = .ok (.iload_n 1, 1) := by decide +kernel
theorem dX8_table_78 : decode cX8_table 78 = .ok (.invokevirtual 136, 3) := by decide +kernel
theorem dX8_table_81 : decode cX8_table 81 = .ok (.ireturn, 1) := by decide +kernel
theorem dX8_table_82 : decode cX8_table 82 = .ok (.iconst (-1), 1) := by decide +kernel
theorem dX8_table_83 : decode cX8_table 83 = .ok (.ireturn, 1) := by decide +kernel
theorem dX8_pair_0 : decode cX8_pair 0 = .ok (.aload_n 0, 1) := by decide +kernel
theorem dX8_pair_1 : decode cX8_pair 1 = .ok (.getfield 26, 3) := by decide +kernel
theorem dX8_pair_4 : decode cX8_pair 4 = .ok (.iload_n 1, 1) := by decide +kernel
theorem dX8_pair_5 : decode cX8_pair 5 = .ok (.iload_n 2, 1) := by decide +kernel
theorem dX8_pair_6 : decode cX8_pair 6 = .ok (.iload_n 3, 1) := by decide +kernel
theorem dX8_pair_7 : decode cX8_pair 7 = .ok (.invokevirtual 139, 3) := by decide +kernel
theorem dX8_pair_10 : decode cX8_pair 10 = .ok (.ifCond .eq 16, 3) := by decide +kernel
theorem dX8_pair_13 : decode cX8_pair 13 = .ok (.aload_n 0, 1) := by decide +kernel
theorem dX8_pair_14 : decode cX8_pair 14 = .ok (.getfield 26, 3) := by decide +kernel
theorem dX8_pair_17 : decode cX8_pair 17 = .ok (.iload_n 1, 1) := by decide +kernel
theorem dX8_pair_18 : decode cX8_pair 18 = .ok (.iload_n 2, 1) := by decide +kernel
theorem dX8_pair_19 : decode cX8_pair 19 = .ok (.iload_n 3, 1) := by decide +kernel
theorem dX8_pair_20 : decode cX8_pair 20 = .ok (.invokevirtual 143, 3) := by decide +kernel
theorem dX8_pair_23 : decode cX8_pair 23 = .ok (.goto 4, 3) := by decide +kernel
theorem dX8_pair_26 : decode cX8_pair 26 = .ok (.iconst (-1), 1) := by decide +kernel
theorem dX8_pair_27 : decode cX8_pair 27 = .ok (.ireturn, 1) := by decide +kernel
theorem dX8_grow_0 : decode cX8_grow 0 = .ok (.aload_n 0, 1) := by decide +kernel
theorem dX8_grow_1 : decode cX8_grow 1 = .ok (.getfield 26, 3) := by decide +kernel
theorem dX8_grow_4 : decode cX8_grow 4 = .ok (.iload_n 1, 1) := by decide +kernel
theorem dX8_grow_5 : decode cX8_grow 5 = .ok (.iload_n 2, 1) := by decide +kernel
theorem dX8_grow_6 : decode cX8_grow 6 = .ok (.invokevirtual 119, 3) := by decide +kernel
theorem dX8_grow_9 : decode cX8_grow 9 = .ok (.ifCond .eq 10, 3) := by decide +kernel
theorem dX8_grow_12 : decode cX8_grow 12 = .ok (.iload_n 3, 1) := by decide +kernel
theorem dX8_grow_13 : decode cX8_grow 13 = .ok (.invokestatic 147, 3) := by decide +kernel
theorem dX8_grow_16 : decode cX8_grow 16 = .ok (.ifCond .ne 5, 3) := by decide +kernel
theorem dX8_grow_19 : decode cX8_grow 19 = .ok (.iconst (-1), 1) := by decide +kernel
theorem dX8_grow_20 : decode cX8_grow 20 = .ok (.ireturn, 1) := by decide +kernel
theorem dX8_grow_21 : decode cX8_grow 21 = .ok (.aload_n 0, 1) := by decide +kernel
theorem dX8_grow_22 : decode cX8_grow 22 = .ok (.getfield 52, 3) := by decide +kernel
theorem dX8_grow_25 : decode cX8_grow 25 = .ok (.aload_n 0, 1) := by decide +kernel
theorem dX8_grow_26 : decode cX8_grow 26 = .ok (.getfield 26, 3) := by decide +kernel
theorem dX8_grow_29 : decode cX8_grow 29 = .ok (.invokevirtual 150, 3) := by decide +kernel
theorem dX8_grow_32 : decode cX8_grow 32 = .ok (.aload_n 0, 1) := by decide +kernel
theorem dX8_grow_33 : decode cX8_grow 33 = .ok (.getfield 26, 3) := by decide +kernel
theorem dX8_grow_36 : decode cX8_grow 36 = .ok (.iload_n 1, 1) := by decide +kernel
theorem dX8_grow_37 : decode cX8_grow 37 = .ok (.iload_n 2, 1) := by decide +kernel
theorem dX8_grow_38 : decode cX8_grow 38 = .ok (.iload_n 3, 1) := by decide +kernel
theorem dX8_grow_39 : decode cX8_grow 39 = .ok (.invokevirtual 153, 3) := by decide +kernel
theorem dX8_grow_42 : decode cX8_grow 42 = .ok (.aload_n 0, 1) := by decide +kernel
theorem dX8_grow_43 : decode cX8_grow 43 = .ok (.getfield 26, 3) := by decide +kernel
theorem dX8_grow_46 : decode cX8_grow 46 = .ok (.iload_n 1, 1) := by decide +kernel
theorem dX8_grow_47 : decode cX8_grow 47 = .ok (.iload_n 2, 1) := by decide +kernel
theorem dX8_grow_48 : decode cX8_grow 48 = .ok (.invokevirtual 123, 3) := by decide +kernel
theorem dX8_grow_51 : decode cX8_grow 51 = .ok (.ireturn, 1) := by decide +kernel
theorem dX8_choose_0 : decode cX8_choose 0 = .ok (.aload_n 0, 1) := by decide +kernel
theorem dX8_choose_1 : decode cX8_choose 1 = .ok (.getfield 26, 3) := by decide +kernel
theorem dX8_choose_4 : decode cX8_choose 4 = .ok (.iload_n 1, 1) := by decide +kernel
theorem dX8_choose_5 : decode cX8_choose 5 = .ok (.iload_n 2, 1) := by decide +kernel
theorem dX8_choose_6 : decode cX8_choose 6 = .ok (.invokevirtual 119, 3) := by decide +kernel
theorem dX8_choose_9 : decode cX8_choose 9 = .ok (.ifCond .ne 5, 3) := by decide +kernel
theorem dX8_choose_12 : decode cX8_choose 12 = .ok (.iconst (-1), 1) := by decide +kernel
theorem dX8_choose_13 : decode cX8_choose 13 = .ok (.ireturn, 1) := by decide +kernel
theorem dX8_choose_14 : decode cX8_choose 14 = .ok (.aload_n 0, 1) := by decide +kernel
theorem dX8_choose_15 : decode cX8_choose 15 = .ok (.getfield 38, 3) := by decide +kernel
theorem dX8_choose_18 : decode cX8_choose 18 = .ok (.iload_n 1, 1) := by decide +kernel
theorem dX8_choose_19 : decode cX8_choose 19 = .ok (.invokevirtual 157, 3) := by decide +kernel
theorem dX8_choose_22 : decode cX8_choose 22 = .ok (.istore_n 3, 1) := by decide +kernel
theorem dX8_choose_23 : decode cX8_choose 23 = .ok (.iload_n 3, 1) := by decide +kernel
theorem dX8_choose_24 : decode cX8_choose 24 = .ok (.iload_n 2, 1) := by decide +kernel
theorem dX8_choose_25 : decode cX8_choose 25 = .ok (.if_icmp .ne 6, 3) := by decide +kernel
theorem dX8_choose_28 : decode cX8_choose 28 = .ok (.bipush (-2), 2) := by decide +kernel
theorem dX8_choose_30 : decode cX8_choose 30 = .ok (.ireturn, 1) := by decide +kernel
theorem dX8_choose_31 : decode cX8_choose 31 = .ok (.aload_n 0, 1) := by decide +kernel
theorem dX8_choose_32 : decode cX8_choose 32 = .ok (.getfield 38, 3) := by decide +kernel
theorem dX8_choose_35 : decode cX8_choose 35 = .ok (.iload_n 1, 1) := by decide +kernel
theorem dX8_choose_36 : decode cX8_choose 36 = .ok (.iload_n 2, 1) := by decide +kernel
theorem dX8_choose_37 : decode cX8_choose 37 = .ok (.invokevirtual 160, 3) := by decide +kernel
theorem dX8_choose_40 : decode cX8_choose 40 = .ok (.iload_n 3, 1) := by decide +kernel
theorem dX8_choose_41 : decode cX8_choose 41 = .ok (.ireturn, 1) := by decide +kernel
theorem dX8_total_0 : decode cX8_total 0 = .ok (.aload_n 0, 1) := by decide +kernel
theorem dX8_total_1 : decode cX8_total 1 = .ok (.getfield 26, 3) := by decide +kernel
theorem dX8_total_4 : decode cX8_total 4 = .ok (.aload_n 0, 1) := by decide +kernel
theorem dX8_total_5 : decode cX8_total 5 = .ok (.getfield 38, 3) := by decide +kernel
theorem dX8_total_8 : decode cX8_total 8 = .ok (.invokevirtual 164, 3) := by decide +kernel
theorem dX8_total_11 : decode cX8_total 11 = .ok (.ireturn, 1) := by decide +kernel
theorem dX8_project_0 : decode cX8_project 0 = .ok (.aload_n 0, 1) := by decide +kernel
theorem dX8_project_1 : decode cX8_project 1 = .ok (.getfield 26, 3) := by decide +kernel
theorem dX8_project_4 : decode cX8_project 4 = .ok (.iload_n 1, 1) := by decide +kernel
theorem dX8_project_5 : decode cX8_project 5 = .ok (.iload_n 2, 1) := by decide +kernel
theorem dX8_project_6 : decode cX8_project 6 = .ok (.iload_n 3, 1) := by decide +kernel
theorem dX8_project_7 : decode cX8_project 7 = .ok (.invokevirtual 168, 3) := by decide +kernel
theorem dX8_project_10 : decode cX8_project 10 = .ok (.ifCond .eq 11, 3) := by decide +kernel
theorem dX8_project_13 : decode cX8_project 13 = .ok (.iload 4, 2) := by decide +kernel
theorem dX8_project_15 : decode cX8_project 15 = .ok (.invokestatic 147, 3) := by decide +kernel
theorem dX8_project_18 : decode cX8_project 18 = .ok (.ifCond .ne 5, 3) := by decide +kernel
theorem dX8_project_21 : decode cX8_project 21 = .ok (.iconst (-1), 1) := by decide +kernel
theorem dX8_project_22 : decode cX8_project 22 = .ok (.ireturn, 1) := by decide +kernel
theorem dX8_project_23 : decode cX8_project 23 = .ok (.aload_n 0, 1) := by decide +kernel
theorem dX8_project_24 : decode cX8_project 24 = .ok (.getfield 26, 3) := by decide +kernel
theorem dX8_project_27 : decode cX8_project 27 = .ok (.iload_n 1, 1) := by decide +kernel
theorem dX8_project_28 : decode cX8_project 28 = .ok (.iload_n 2, 1) := by decide +kernel
theorem dX8_project_29 : decode cX8_project 29 = .ok (.iload_n 3, 1) := by decide +kernel
theorem dX8_project_30 : decode cX8_project 30 = .ok (.invokevirtual 171, 3) := by decide +kernel
theorem dX8_project_33 : decode cX8_project 33 = .ok (.iload 4, 2) := by decide +kernel
theorem dX8_project_35 : decode cX8_project 35 = .ok (.if_icmp .ge 6, 3) := by decide +kernel
theorem dX8_project_38 : decode cX8_project 38 = .ok (.bipush (-2), 2) := by decide +kernel
theorem dX8_project_40 : decode cX8_project 40 = .ok (.ireturn, 1) := by decide +kernel
theorem dX8_project_41 : decode cX8_project 41 = .ok (.aload_n 0, 1) := by decide +kernel
theorem dX8_project_42 : decode cX8_project 42 = .ok (.getfield 52, 3) := by decide +kernel
theorem dX8_project_45 : decode cX8_project 45 = .ok (.aload_n 0, 1) := by decide +kernel
theorem dX8_project_46 : decode cX8_project 46 = .ok (.getfield 26, 3) := by decide +kernel
theorem dX8_project_49 : decode cX8_project 49 = .ok (.invokevirtual 150, 3) := by decide +kernel
theorem dX8_project_52 : decode cX8_project 52 = .ok (.aload_n 0, 1) := by decide +kernel
theorem dX8_project_53 : decode cX8_project 53 = .ok (.getfield 26, 3) := by decide +kernel
theorem dX8_project_56 : decode cX8_project 56 = .ok (.iload_n 1, 1) := by decide +kernel
theorem dX8_project_57 : decode cX8_project 57 = .ok (.iload_n 2, 1) := by decide +kernel
theorem dX8_project_58 : decode cX8_project 58 = .ok (.iload_n 3, 1) := by decide +kernel
theorem dX8_project_59 : decode cX8_project 59 = .ok (.iload 4, 2) := by decide +kernel
theorem dX8_project_61 : decode cX8_project 61 = .ok (.invokevirtual 174, 3) := by decide +kernel
theorem dX8_project_64 : decode cX8_project 64 = .ok (.aload_n 0, 1) := by decide +kernel
theorem dX8_project_65 : decode cX8_project 65 = .ok (.getfield 26, 3) := by decide +kernel
theorem dX8_project_68 : decode cX8_project 68 = .ok (.aload_n 0, 1) := by decide +kernel
theorem dX8_project_69 : decode cX8_project 69 = .ok (.getfield 26, 3) := by decide +kernel
theorem dX8_project_72 : decode cX8_project 72 = .ok (.iload_n 1, 1) := by decide +kernel
theorem dX8_project_73 : decode cX8_project 73 = .ok (.iload_n 2, 1) := by decide +kernel
theorem dX8_project_74 : decode cX8_project 74 = .ok (.invokevirtual 130, 3) := by decide +kernel
theorem dX8_project_77 : decode cX8_project 77 = .ok (.iload_n 3, 1) := by decide +kernel
theorem dX8_project_78 : decode cX8_project 78 = .ok (.invokevirtual 123, 3) := by decide +kernel
theorem dX8_project_81 : decode cX8_project 81 = .ok (.ireturn, 1) := by decide +kernel
theorem dX8_extend_0 : decode cX8_extend 0 = .ok (.aload_n 0, 1) := by decide +kernel
theorem dX8_extend_1 : decode cX8_extend 1 = .ok (.getfield 26, 3) := by decide +kernel
theorem dX8_extend_4 : decode cX8_extend 4 = .ok (.iload_n 1, 1) := by decide +kernel
theorem dX8_extend_5 : decode cX8_extend 5 = .ok (.iload_n 2, 1) := by decide +kernel
theorem dX8_extend_6 : decode cX8_extend 6 = .ok (.iload_n 3, 1) := by decide +kernel
theorem dX8_extend_7 : decode cX8_extend 7 = .ok (.invokevirtual 168, 3) := by decide +kernel
theorem dX8_extend_10 : decode cX8_extend 10 = .ok (.ifCond .eq 11, 3) := by decide +kernel
theorem dX8_extend_13 : decode cX8_extend 13 = .ok (.iload 4, 2) := by decide +kernel
theorem dX8_extend_15 : decode cX8_extend 15 = .ok (.invokestatic 147, 3) := by decide +kernel
theorem dX8_extend_18 : decode cX8_extend 18 = .ok (.ifCond .ne 5, 3) := by decide +kernel
theorem dX8_extend_21 : decode cX8_extend 21 = .ok (.iconst (-1), 1) := by decide +kernel
theorem dX8_extend_22 : decode cX8_extend 22 = .ok (.ireturn, 1) := by decide +kernel
theorem dX8_extend_23 : decode cX8_extend 23 = .ok (.aload_n 0, 1) := by decide +kernel
theorem dX8_extend_24 : decode cX8_extend 24 = .ok (.getfield 26, 3) := by decide +kernel
theorem dX8_extend_27 : decode cX8_extend 27 = .ok (.iload_n 1, 1) := by decide +kernel
theorem dX8_extend_28 : decode cX8_extend 28 = .ok (.iload_n 2, 1) := by decide +kernel
theorem dX8_extend_29 : decode cX8_extend 29 = .ok (.invokevirtual 130, 3) := by decide +kernel
theorem dX8_extend_32 : decode cX8_extend 32 = .ok (.istore 5, 2) := by decide +kernel
theorem dX8_extend_34 : decode cX8_extend 34 = .ok (.aload_n 0, 1) := by decide +kernel
theorem dX8_extend_35 : decode cX8_extend 35 = .ok (.getfield 26, 3) := by decide +kernel
theorem dX8_extend_38 : decode cX8_extend 38 = .ok (.iload 5, 2) := by decide +kernel
theorem dX8_extend_40 : decode cX8_extend 40 = .ok (.iload_n 3, 1) := by decide +kernel
theorem dX8_extend_41 : decode cX8_extend 41 = .ok (.invokevirtual 123, 3) := by decide +kernel
theorem dX8_extend_44 : decode cX8_extend 44 = .ok (.iload 4, 2) := by decide +kernel
theorem dX8_extend_46 : decode cX8_extend 46 = .ok (.if_icmp .ge 6, 3) := by decide +kernel
theorem dX8_extend_49 : decode cX8_extend 49 = .ok (.bipush (-2), 2) := by decide +kernel
theorem dX8_extend_51 : decode cX8_extend 51 = .ok (.ireturn, 1) := by decide +kernel
theorem dX8_extend_52 : decode cX8_extend 52 = .ok (.aload_n 0, 1) := by decide +kernel
theorem dX8_extend_53 : decode cX8_extend 53 = .ok (.getfield 52, 3) := by decide +kernel
theorem dX8_extend_56 : decode cX8_extend 56 = .ok (.aload_n 0, 1) := by decide +kernel
theorem dX8_extend_57 : decode cX8_extend 57 = .ok (.getfield 26, 3) := by decide +kernel
theorem dX8_extend_60 : decode cX8_extend 60 = .ok (.invokevirtual 150, 3) := by decide +kernel
theorem dX8_extend_63 : decode cX8_extend 63 = .ok (.aload_n 0, 1) := by decide +kernel
theorem dX8_extend_64 : decode cX8_extend 64 = .ok (.getfield 26, 3) := by decide +kernel
theorem dX8_extend_67 : decode cX8_extend 67 = .ok (.iload_n 1, 1) := by decide +kernel
theorem dX8_extend_68 : decode cX8_extend 68 = .ok (.iload_n 2, 1) := by decide +kernel
theorem dX8_extend_69 : decode cX8_extend 69 = .ok (.iload_n 3, 1) := by decide +kernel
theorem dX8_extend_70 : decode cX8_extend 70 = .ok (.iload 4, 2) := by decide +kernel
theorem dX8_extend_72 : decode cX8_extend 72 = .ok (.invokevirtual 178, 3) := by decide +kernel
theorem dX8_extend_75 : decode cX8_extend 75 = .ok (.aload_n 0, 1) := by decide +kernel
theorem dX8_extend_76 : decode cX8_extend 76 = .ok (.getfield 26, 3) := by decide +kernel
theorem dX8_extend_79 : decode cX8_extend 79 = .ok (.iload 5, 2) := by decide +kernel
theorem dX8_extend_81 : decode cX8_extend 81 = .ok (.iload_n 3, 1) := by decide +kernel
theorem dX8_extend_82 : decode cX8_extend 82 = .ok (.invokevirtual 123, 3) := by decide +kernel
theorem dX8_extend_85 : decode cX8_extend 85 = .ok (.ireturn, 1) := by decide +kernel
theorem dX8_raise_0 : decode cX8_raise 0 = .ok (.aload_n 0, 1) := by decide +kernel
theorem dX8_raise_1 : decode cX8_raise 1 = .ok (.getfield 26, 3) := by decide +kernel
theorem dX8_raise_4 : decode cX8_raise 4 = .ok (.iload_n 1, 1) := by decide +kernel
theorem dX8_raise_5 : decode cX8_raise 5 = .ok (.invokevirtual 103, 3) := by decide +kernel
theorem dX8_raise_8 : decode cX8_raise 8 = .ok (.ifCond .eq 10, 3) := by decide +kernel
theorem dX8_raise_11 : decode cX8_raise 11 = .ok (.iload_n 2, 1) := by decide +kernel
theorem dX8_raise_12 : decode cX8_raise 12 = .ok (.invokestatic 147, 3) := by decide +kernel
theorem dX8_raise_15 : decode cX8_raise 15 = .ok (.ifCond .ne 5, 3) := by decide +kernel
theorem dX8_raise_18 : decode cX8_raise 18 = .ok (.iconst (-1), 1) := by decide +kernel
theorem dX8_raise_19 : decode cX8_raise 19 = .ok (.ireturn, 1) := by decide +kernel
theorem dX8_raise_20 : decode cX8_raise 20 = .ok (.aload_n 0, 1) := by decide +kernel
theorem dX8_raise_21 : decode cX8_raise 21 = .ok (.getfield 26, 3) := by decide +kernel
theorem dX8_raise_24 : decode cX8_raise 24 = .ok (.iload_n 1, 1) := by decide +kernel
theorem dX8_raise_25 : decode cX8_raise 25 = .ok (.invokevirtual 116, 3) := by decide +kernel
theorem dX8_raise_28 : decode cX8_raise 28 = .ok (.iload_n 2, 1) := by decide +kernel
theorem dX8_raise_29 : decode cX8_raise 29 = .ok (.if_icmp .ge 6, 3) := by decide +kernel
theorem dX8_raise_32 : decode cX8_raise 32 = .ok (.bipush (-2), 2) := by decide +kernel
theorem dX8_raise_34 : decode cX8_raise 34 = .ok (.ireturn, 1) := by decide +kernel
theorem dX8_raise_35 : decode cX8_raise 35 = .ok (.aload_n 0, 1) := by decide +kernel
theorem dX8_raise_36 : decode cX8_raise 36 = .ok (.getfield 52, 3) := by decide +kernel
theorem dX8_raise_39 : decode cX8_raise 39 = .ok (.aload_n 0, 1) := by decide +kernel
theorem dX8_raise_40 : decode cX8_raise 40 = .ok (.getfield 26, 3) := by decide +kernel
theorem dX8_raise_43 : decode cX8_raise 43 = .ok (.invokevirtual 150, 3) := by decide +kernel
theorem dX8_raise_46 : decode cX8_raise 46 = .ok (.aload_n 0, 1) := by decide +kernel
theorem dX8_raise_47 : decode cX8_raise 47 = .ok (.getfield 26, 3) := by decide +kernel
theorem dX8_raise_50 : decode cX8_raise 50 = .ok (.iload_n 1, 1) := by decide +kernel
theorem dX8_raise_51 : decode cX8_raise 51 = .ok (.iload_n 2, 1) := by decide +kernel
theorem dX8_raise_52 : decode cX8_raise 52 = .ok (.invokevirtual 181, 3) := by decide +kernel
theorem dX8_raise_55 : decode cX8_raise 55 = .ok (.aload_n 0, 1) := by decide +kernel
theorem dX8_raise_56 : decode cX8_raise 56 = .ok (.getfield 26, 3) := by decide +kernel
theorem dX8_raise_59 : decode cX8_raise 59 = .ok (.invokevirtual 184, 3) := by decide +kernel
theorem dX8_raise_62 : decode cX8_raise 62 = .ok (.ireturn, 1) := by decide +kernel
theorem dX8_sweep_0 : decode cX8_sweep 0 = .ok (.iload_n 1, 1) := by decide +kernel
theorem dX8_sweep_1 : decode cX8_sweep 1 = .ok (.invokestatic 187, 3) := by decide +kernel
theorem dX8_sweep_4 : decode cX8_sweep 4 = .ok (.ifCond .eq 14, 3) := by decide +kernel
theorem dX8_sweep_7 : decode cX8_sweep 7 = .ok (.iload_n 2, 1) := by decide +kernel
theorem dX8_sweep_8 : decode cX8_sweep 8 = .ok (.iconst 1, 1) := by decide +kernel
theorem dX8_sweep_9 : decode cX8_sweep 9 = .ok (.if_icmp .lt 9, 3) := by decide +kernel
theorem dX8_sweep_12 : decode cX8_sweep 12 = .ok (.iload_n 2, 1) := by decide +kernel
theorem dX8_sweep_13 : decode cX8_sweep 13 = .ok (.bipush 9, 2) := by decide +kernel
theorem dX8_sweep_15 : decode cX8_sweep 15 = .ok (.if_icmp .le 5, 3) := by decide +kernel
theorem dX8_sweep_18 : decode cX8_sweep 18 = .ok (.iconst (-1), 1) := by decide +kernel
theorem dX8_sweep_19 : decode cX8_sweep 19 = .ok (.ireturn, 1) := by decide +kernel
theorem dX8_sweep_20 : decode cX8_sweep 20 = .ok (.aload_n 0, 1) := by decide +kernel
theorem dX8_sweep_21 : decode cX8_sweep 21 = .ok (.getfield 52, 3) := by decide +kernel
theorem dX8_sweep_24 : decode cX8_sweep 24 = .ok (.aload_n 0, 1) := by decide +kernel
theorem dX8_sweep_25 : decode cX8_sweep 25 = .ok (.getfield 26, 3) := by decide +kernel
theorem dX8_sweep_28 : decode cX8_sweep 28 = .ok (.invokevirtual 150, 3) := by decide +kernel
theorem dX8_sweep_31 : decode cX8_sweep 31 = .ok (.iconst 0, 1) := by decide +kernel
theorem dX8_sweep_32 : decode cX8_sweep 32 = .ok (.istore_n 3, 1) := by decide +kernel
theorem dX8_sweep_33 : decode cX8_sweep 33 = .ok (.iload_n 3, 1) := by decide +kernel
theorem dX8_sweep_34 : decode cX8_sweep 34 = .ok (.iload_n 2, 1) := by decide +kernel
theorem dX8_sweep_35 : decode cX8_sweep 35 = .ok (.if_icmp .ge 21, 3) := by decide +kernel
theorem dX8_sweep_38 : decode cX8_sweep 38 = .ok (.aload_n 0, 1) := by decide +kernel
theorem dX8_sweep_39 : decode cX8_sweep 39 = .ok (.getfield 45, 3) := by decide +kernel
theorem dX8_sweep_42 : decode cX8_sweep 42 = .ok (.aload_n 0, 1) := by decide +kernel
theorem dX8_sweep_43 : decode cX8_sweep 43 = .ok (.getfield 26, 3) := by decide +kernel
theorem dX8_sweep_46 : decode cX8_sweep 46 = .ok (.iload_n 1, 1) := by decide +kernel
theorem dX8_sweep_47 : decode cX8_sweep 47 = .ok (.invokevirtual 190, 3) := by decide +kernel
theorem dX8_sweep_50 : decode cX8_sweep 50 = .ok (.iinc 3 1, 3) := by decide +kernel
theorem dX8_sweep_53 : decode cX8_sweep 53 = .ok (.goto (-20), 3) := by decide +kernel
theorem dX8_sweep_56 : decode cX8_sweep 56 = .ok (.aload_n 0, 1) := by decide +kernel
theorem dX8_sweep_57 : decode cX8_sweep 57 = .ok (.getfield 26, 3) := by decide +kernel
theorem dX8_sweep_60 : decode cX8_sweep 60 = .ok (.invokevirtual 184, 3) := by decide +kernel
theorem dX8_sweep_63 : decode cX8_sweep 63 = .ok (.ireturn, 1) := by decide +kernel
theorem dX8_settle_0 : decode cX8_settle 0 = .ok (.iload_n 1, 1) := by decide +kernel
theorem dX8_settle_1 : decode cX8_settle 1 = .ok (.invokestatic 187, 3) := by decide +kernel
theorem dX8_settle_4 : decode cX8_settle 4 = .ok (.ifCond .ne 5, 3) := by decide +kernel
theorem dX8_settle_7 : decode cX8_settle 7 = .ok (.iconst (-1), 1) := by decide +kernel
theorem dX8_settle_8 : decode cX8_settle 8 = .ok (.ireturn, 1) := by decide +kernel
theorem dX8_settle_9 : decode cX8_settle 9 = .ok (.aload_n 0, 1) := by decide +kernel
theorem dX8_settle_10 : decode cX8_settle 10 = .ok (.getfield 52, 3) := by decide +kernel
theorem dX8_settle_13 : decode cX8_settle 13 = .ok (.aload_n 0, 1) := by decide +kernel
theorem dX8_settle_14 : decode cX8_settle 14 = .ok (.getfield 26, 3) := by decide +kernel
theorem dX8_settle_17 : decode cX8_settle 17 = .ok (.invokevirtual 150, 3) := by decide +kernel
theorem dX8_settle_20 : decode cX8_settle 20 = .ok (.aload_n 0, 1) := by decide +kernel
theorem dX8_settle_21 : decode cX8_settle 21 = .ok (.getfield 45, 3) := by decide +kernel
theorem dX8_settle_24 : decode cX8_settle 24 = .ok (.aload_n 0, 1) := by decide +kernel
theorem dX8_settle_25 : decode cX8_settle 25 = .ok (.getfield 26, 3) := by decide +kernel
theorem dX8_settle_28 : decode cX8_settle 28 = .ok (.iload_n 1, 1) := by decide +kernel
theorem dX8_settle_29 : decode cX8_settle 29 = .ok (.invokevirtual 194, 3) := by decide +kernel
theorem dX8_settle_32 : decode cX8_settle 32 = .ok (.ireturn, 1) := by decide +kernel
theorem dX8_bound_0 : decode cX8_bound 0 = .ok (.iload_n 1, 1) := by decide +kernel
theorem dX8_bound_1 : decode cX8_bound 1 = .ok (.invokestatic 187, 3) := by decide +kernel
theorem dX8_bound_4 : decode cX8_bound 4 = .ok (.ifCond .ne 5, 3) := by decide +kernel
theorem dX8_bound_7 : decode cX8_bound 7 = .ok (.iconst (-1), 1) := by decide +kernel
theorem dX8_bound_8 : decode cX8_bound 8 = .ok (.ireturn, 1) := by decide +kernel
theorem dX8_bound_9 : decode cX8_bound 9 = .ok (.aload_n 0, 1) := by decide +kernel
theorem dX8_bound_10 : decode cX8_bound 10 = .ok (.getfield 30, 3) := by decide +kernel
theorem dX8_bound_13 : decode cX8_bound 13 = .ok (.aload_n 0, 1) := by decide +kernel
theorem dX8_bound_14 : decode cX8_bound 14 = .ok (.getfield 26, 3) := by decide +kernel
theorem dX8_bound_17 : decode cX8_bound 17 = .ok (.invokevirtual 97, 3) := by decide +kernel
theorem dX8_bound_20 : decode cX8_bound 20 = .ok (.aload_n 0, 1) := by decide +kernel
theorem dX8_bound_21 : decode cX8_bound 21 = .ok (.getfield 45, 3) := by decide +kernel
theorem dX8_bound_24 : decode cX8_bound 24 = .ok (.aload_n 0, 1) := by decide +kernel
theorem dX8_bound_25 : decode cX8_bound 25 = .ok (.getfield 30, 3) := by decide +kernel
theorem dX8_bound_28 : decode cX8_bound 28 = .ok (.iload_n 1, 1) := by decide +kernel
theorem dX8_bound_29 : decode cX8_bound 29 = .ok (.invokevirtual 194, 3) := by decide +kernel
theorem dX8_bound_32 : decode cX8_bound 32 = .ok (.pop, 1) := by decide +kernel
theorem dX8_bound_33 : decode cX8_bound 33 = .ok (.aload_n 0, 1) := by decide +kernel
theorem dX8_bound_34 : decode cX8_bound 34 = .ok (.getfield 30, 3) := by decide +kernel
theorem dX8_bound_37 : decode cX8_bound 37 = .ok (.invokevirtual 184, 3) := by decide +kernel
theorem dX8_bound_40 : decode cX8_bound 40 = .ok (.ireturn, 1) := by decide +kernel
theorem dX8_undo_0 : decode cX8_undo 0 = .ok (.aload_n 0, 1) := by decide +kernel
theorem dX8_undo_1 : decode cX8_undo 1 = .ok (.getfield 52, 3) := by decide +kernel
theorem dX8_undo_4 : decode cX8_undo 4 = .ok (.aload_n 0, 1) := by decide +kernel
theorem dX8_undo_5 : decode cX8_undo 5 = .ok (.getfield 26, 3) := by decide +kernel
theorem dX8_undo_8 : decode cX8_undo 8 = .ok (.invokevirtual 198, 3) := by decide +kernel
theorem dX8_undo_11 : decode cX8_undo 11 = .ok (.ifCond .eq 13, 3) := by decide +kernel
theorem dX8_undo_14 : decode cX8_undo 14 = .ok (.aload_n 0, 1) := by decide +kernel
theorem dX8_undo_15 : decode cX8_undo 15 = .ok (.getfield 52, 3) := by decide +kernel
theorem dX8_undo_18 : decode cX8_undo 18 = .ok (.invokevirtual 202, 3) := by decide +kernel
theorem dX8_undo_21 : decode cX8_undo 21 = .ok (.goto 5, 3) := by decide +kernel
theorem dX8_undo_24 : decode cX8_undo 24 = .ok (.bipush (-2), 2) := by decide +kernel
theorem dX8_undo_26 : decode cX8_undo 26 = .ok (.ireturn, 1) := by decide +kernel
theorem dX8_best_0 : decode cX8_best 0 = .ok (.iload_n 1, 1) := by decide +kernel
theorem dX8_best_1 : decode cX8_best 1 = .ok (.iconst (-1), 1) := by decide +kernel
theorem dX8_best_2 : decode cX8_best 2 = .ok (.if_icmp .eq 22, 3) := by decide +kernel
theorem dX8_best_5 : decode cX8_best 5 = .ok (.iload_n 1, 1) := by decide +kernel
theorem dX8_best_6 : decode cX8_best 6 = .ok (.bipush (-2), 2) := by decide +kernel
theorem dX8_best_8 : decode cX8_best 8 = .ok (.if_icmp .eq 16, 3) := by decide +kernel
theorem dX8_best_11 : decode cX8_best 11 = .ok (.aload_n 0, 1) := by decide +kernel
theorem dX8_best_12 : decode cX8_best 12 = .ok (.getfield 26, 3) := by decide +kernel
theorem dX8_best_15 : decode cX8_best 15 = .ok (.iload_n 1, 1) := by decide +kernel
theorem dX8_best_16 : decode cX8_best 16 = .ok (.invokevirtual 103, 3) := by decide +kernel
theorem dX8_best_19 : decode cX8_best 19 = .ok (.ifCond .ne 5, 3) := by decide +kernel
theorem dX8_best_22 : decode cX8_best 22 = .ok (.iconst (-1), 1) := by decide +kernel
theorem dX8_best_23 : decode cX8_best 23 = .ok (.ireturn, 1) := by decide +kernel
theorem dX8_best_24 : decode cX8_best 24 = .ok (.aload_n 0, 1) := by decide +kernel
theorem dX8_best_25 : decode cX8_best 25 = .ok (.getfield 59, 3) := by decide +kernel
theorem dX8_best_28 : decode cX8_best 28 = .ok (.aload_n 0, 1) := by decide +kernel
theorem dX8_best_29 : decode cX8_best 29 = .ok (.getfield 26, 3) := by decide +kernel
theorem dX8_best_32 : decode cX8_best 32 = .ok (.iconst (-1), 1) := by decide +kernel
theorem dX8_best_33 : decode cX8_best 33 = .ok (.iconst 0, 1) := by decide +kernel
theorem dX8_best_34 : decode cX8_best 34 = .ok (.iconst (-1), 1) := by decide +kernel
theorem dX8_best_35 : decode cX8_best 35 = .ok (.invokevirtual 205, 3) := by decide +kernel
theorem dX8_best_38 : decode cX8_best 38 = .ok (.aload_n 0, 1) := by decide +kernel
theorem dX8_best_39 : decode cX8_best 39 = .ok (.getfield 59, 3) := by decide +kernel
theorem dX8_best_42 : decode cX8_best 42 = .ok (.invokevirtual 209, 3) := by decide +kernel
theorem dX8_best_45 : decode cX8_best 45 = .ok (.ifCond .ne 6, 3) := by decide +kernel
theorem dX8_best_48 : decode cX8_best 48 = .ok (.bipush (-4), 2) := by decide +kernel
theorem dX8_best_50 : decode cX8_best 50 = .ok (.ireturn, 1) := by decide +kernel
theorem dX8_best_51 : decode cX8_best 51 = .ok (.iload_n 1, 1) := by decide +kernel
theorem dX8_best_52 : decode cX8_best 52 = .ok (.lookupswitch 44 #[(-2, 36), (-1, 28)], 28) := by decide +kernel
theorem dX8_best_80 : decode cX8_best 80 = .ok (.aload_n 0, 1) := by decide +kernel
theorem dX8_best_81 : decode cX8_best 81 = .ok (.getfield 59, 3) := by decide +kernel
theorem dX8_best_84 : decode cX8_best 84 = .ok (.invokevirtual 213, 3) := by decide +kernel
theorem dX8_best_87 : decode cX8_best 87 = .ok (.ireturn, 1) := by decide +kernel
theorem dX8_best_88 : decode cX8_best 88 = .ok (.aload_n 0, 1) := by decide +kernel
theorem dX8_best_89 : decode cX8_best 89 = .ok (.getfield 59, 3) := by decide +kernel
theorem dX8_best_92 : decode cX8_best 92 = .ok (.invokevirtual 216, 3) := by decide +kernel
theorem dX8_best_95 : decode cX8_best 95 = .ok (.ireturn, 1) := by decide +kernel
theorem dX8_best_96 : decode cX8_best 96 = .ok (.aload_n 0, 1) := by decide +kernel
theorem dX8_best_97 : decode cX8_best 97 = .ok (.getfield 59, 3) := by decide +kernel
theorem dX8_best_100 : decode cX8_best 100 = .ok (.iload_n 1, 1) := by decide +kernel
theorem dX8_best_101 : decode cX8_best 101 = .ok (.invokevirtual 219, 3) := by decide +kernel
theorem dX8_best_104 : decode cX8_best 104 = .ok (.ireturn, 1) := by decide +kernel
theorem dX8_next_0 : decode cX8_next 0 = .ok (.iload_n 1, 1) := by decide +kernel
theorem dX8_next_1 : decode cX8_next 1 = .ok (.ifCond .eq 10, 3) := by decide +kernel
theorem dX8_next_4 : decode cX8_next 4 = .ok (.iload_n 1, 1) := by decide +kernel
theorem dX8_next_5 : decode cX8_next 5 = .ok (.iconst 1, 1) := by decide +kernel
theorem dX8_next_6 : decode cX8_next 6 = .ok (.if_icmp .eq 5, 3) := by decide +kernel
theorem dX8_next_9 : decode cX8_next 9 = .ok (.iconst (-1), 1) := by decide +kernel
theorem dX8_next_10 : decode cX8_next 10 = .ok (.ireturn, 1) := by decide +kernel
theorem dX8_next_11 : decode cX8_next 11 = .ok (.aload_n 0, 1) := by decide +kernel
theorem dX8_next_12 : decode cX8_next 12 = .ok (.getfield 59, 3) := by decide +kernel
theorem dX8_next_15 : decode cX8_next 15 = .ok (.aload_n 0, 1) := by decide +kernel
theorem dX8_next_16 : decode cX8_next 16 = .ok (.getfield 26, 3) := by decide +kernel
theorem dX8_next_19 : decode cX8_next 19 = .ok (.iconst (-1), 1) := by decide +kernel
theorem dX8_next_20 : decode cX8_next 20 = .ok (.iconst 0, 1) := by decide +kernel
theorem dX8_next_21 : decode cX8_next 21 = .ok (.iconst (-1), 1) := by decide +kernel
theorem dX8_next_22 : decode cX8_next 22 = .ok (.invokevirtual 205, 3) := by decide +kernel
theorem dX8_next_25 : decode cX8_next 25 = .ok (.iload_n 1, 1) := by decide +kernel
theorem dX8_next_26 : decode cX8_next 26 = .ok (.iconst 1, 1) := by decide +kernel
theorem dX8_next_27 : decode cX8_next 27 = .ok (.if_icmp .ne 11, 3) := by decide +kernel
theorem dX8_next_30 : decode cX8_next 30 = .ok (.aload_n 0, 1) := by decide +kernel
theorem dX8_next_31 : decode cX8_next 31 = .ok (.getfield 59, 3) := by decide +kernel
theorem dX8_next_34 : decode cX8_next 34 = .ok (.invokevirtual 222, 3) := by decide +kernel
theorem dX8_next_37 : decode cX8_next 37 = .ok (.ireturn, 1) := by decide +kernel
theorem dX8_next_38 : decode cX8_next 38 = .ok (.aload_n 0, 1) := by decide +kernel
theorem dX8_next_39 : decode cX8_next 39 = .ok (.getfield 59, 3) := by decide +kernel
theorem dX8_next_42 : decode cX8_next 42 = .ok (.invokevirtual 225, 3) := by decide +kernel
theorem dX8_next_45 : decode cX8_next 45 = .ok (.ifCond .eq 13, 3) := by decide +kernel
theorem dX8_next_48 : decode cX8_next 48 = .ok (.aload_n 0, 1) := by decide +kernel
theorem dX8_next_49 : decode cX8_next 49 = .ok (.getfield 59, 3) := by decide +kernel
theorem dX8_next_52 : decode cX8_next 52 = .ok (.invokevirtual 228, 3) := by decide +kernel
theorem dX8_next_55 : decode cX8_next 55 = .ok (.goto 5, 3) := by decide +kernel
theorem dX8_next_58 : decode cX8_next 58 = .ok (.bipush (-4), 2) := by decide +kernel
theorem dX8_next_60 : decode cX8_next 60 = .ok (.ireturn, 1) := by decide +kernel
theorem dX8_backbone_0 : decode cX8_backbone 0 = .ok (.aload_n 0, 1) := by decide +kernel
theorem dX8_backbone_1 : decode cX8_backbone 1 = .ok (.getfield 59, 3) := by decide +kernel
theorem dX8_backbone_4 : decode cX8_backbone 4 = .ok (.aload_n 0, 1) := by decide +kernel
theorem dX8_backbone_5 : decode cX8_backbone 5 = .ok (.getfield 26, 3) := by decide +kernel
theorem dX8_backbone_8 : decode cX8_backbone 8 = .ok (.iconst (-1), 1) := by decide +kernel
theorem dX8_backbone_9 : decode cX8_backbone 9 = .ok (.iconst 0, 1) := by decide +kernel
theorem dX8_backbone_10 : decode cX8_backbone 10 = .ok (.iconst (-1), 1) := by decide +kernel
theorem dX8_backbone_11 : decode cX8_backbone 11 = .ok (.invokevirtual 205, 3) := by decide +kernel
theorem dX8_backbone_14 : decode cX8_backbone 14 = .ok (.aload_n 0, 1) := by decide +kernel
theorem dX8_backbone_15 : decode cX8_backbone 15 = .ok (.getfield 59, 3) := by decide +kernel
theorem dX8_backbone_18 : decode cX8_backbone 18 = .ok (.invokevirtual 209, 3) := by decide +kernel
theorem dX8_backbone_21 : decode cX8_backbone 21 = .ok (.ifCond .eq 13, 3) := by decide +kernel
theorem dX8_backbone_24 : decode cX8_backbone 24 = .ok (.aload_n 0, 1) := by decide +kernel
theorem dX8_backbone_25 : decode cX8_backbone 25 = .ok (.getfield 59, 3) := by decide +kernel
theorem dX8_backbone_28 : decode cX8_backbone 28 = .ok (.invokevirtual 231, 3) := by decide +kernel
theorem dX8_backbone_31 : decode cX8_backbone 31 = .ok (.goto 5, 3) := by decide +kernel
theorem dX8_backbone_34 : decode cX8_backbone 34 = .ok (.bipush (-4), 2) := by decide +kernel
theorem dX8_backbone_36 : decode cX8_backbone 36 = .ok (.ireturn, 1) := by decide +kernel
theorem dX8_with_0 : decode cX8_with 0 = .ok (.aload_n 0, 1) := by decide +kernel
theorem dX8_with_1 : decode cX8_with 1 = .ok (.getfield 26, 3) := by decide +kernel
theorem dX8_with_4 : decode cX8_with 4 = .ok (.iload_n 1, 1) := by decide +kernel
theorem dX8_with_5 : decode cX8_with 5 = .ok (.iload_n 2, 1) := by decide +kernel
theorem dX8_with_6 : decode cX8_with 6 = .ok (.invokevirtual 119, 3) := by decide +kernel
theorem dX8_with_9 : decode cX8_with 9 = .ok (.ifCond .ne 5, 3) := by decide +kernel
theorem dX8_with_12 : decode cX8_with 12 = .ok (.iconst (-1), 1) := by decide +kernel
theorem dX8_with_13 : decode cX8_with 13 = .ok (.ireturn, 1) := by decide +kernel
theorem dX8_with_14 : decode cX8_with 14 = .ok (.aload_n 0, 1) := by decide +kernel
theorem dX8_with_15 : decode cX8_with 15 = .ok (.getfield 59, 3) := by decide +kernel
theorem dX8_with_18 : decode cX8_with 18 = .ok (.aload_n 0, 1) := by decide +kernel
theorem dX8_with_19 : decode cX8_with 19 = .ok (.getfield 26, 3) := by decide +kernel
theorem dX8_with_22 : decode cX8_with 22 = .ok (.iload_n 1, 1) := by decide +kernel
theorem dX8_with_23 : decode cX8_with 23 = .ok (.iload_n 2, 1) := by decide +kernel
theorem dX8_with_24 : decode cX8_with 24 = .ok (.iconst (-1), 1) := by decide +kernel
theorem dX8_with_25 : decode cX8_with 25 = .ok (.invokevirtual 205, 3) := by decide +kernel
theorem dX8_with_28 : decode cX8_with 28 = .ok (.aload_n 0, 1) := by decide +kernel
theorem dX8_with_29 : decode cX8_with 29 = .ok (.getfield 59, 3) := by decide +kernel
theorem dX8_with_32 : decode cX8_with 32 = .ok (.invokevirtual 209, 3) := by decide +kernel
theorem dX8_with_35 : decode cX8_with 35 = .ok (.ifCond .eq 13, 3) := by decide +kernel
theorem dX8_with_38 : decode cX8_with 38 = .ok (.aload_n 0, 1) := by decide +kernel
theorem dX8_with_39 : decode cX8_with 39 = .ok (.getfield 59, 3) := by decide +kernel
theorem dX8_with_42 : decode cX8_with 42 = .ok (.invokevirtual 213, 3) := by decide +kernel
theorem dX8_with_45 : decode cX8_with 45 = .ok (.goto 5, 3) := by decide +kernel
theorem dX8_with_48 : decode cX8_with 48 = .ok (.bipush (-4), 2) := by decide +kernel
theorem dX8_with_50 : decode cX8_with 50 = .ok (.ireturn, 1) := by decide +kernel
theorem dX8_without_0 : decode cX8_without 0 = .ok (.aload_n 0, 1) := by decide +kernel
theorem dX8_without_1 : decode cX8_without 1 = .ok (.getfield 26, 3) := by decide +kernel
theorem dX8_without_4 : decode cX8_without 4 = .ok (.iload_n 1, 1) := by decide +kernel
theorem dX8_without_5 : decode cX8_without 5 = .ok (.invokevirtual 127, 3) := by decide +kernel
theorem dX8_without_8 : decode cX8_without 8 = .ok (.ifCond .ne 5, 3) := by decide +kernel
theorem dX8_without_11 : decode cX8_without 11 = .ok (.iconst (-1), 1) := by decide +kernel
theorem dX8_without_12 : decode cX8_without 12 = .ok (.ireturn, 1) := by decide +kernel
theorem dX8_without_13 : decode cX8_without 13 = .ok (.aload_n 0, 1) := by decide +kernel
theorem dX8_without_14 : decode cX8_without 14 = .ok (.getfield 59, 3) := by decide +kernel
theorem dX8_without_17 : decode cX8_without 17 = .ok (.aload_n 0, 1) := by decide +kernel
theorem dX8_without_18 : decode cX8_without 18 = .ok (.getfield 26, 3) := by decide +kernel
theorem dX8_without_21 : decode cX8_without 21 = .ok (.iconst (-1), 1) := by decide +kernel
theorem dX8_without_22 : decode cX8_without 22 = .ok (.iconst 0, 1) := by decide +kernel
theorem dX8_without_23 : decode cX8_without 23 = .ok (.iload_n 1, 1) := by decide +kernel
theorem dX8_without_24 : decode cX8_without 24 = .ok (.invokevirtual 205, 3) := by decide +kernel
theorem dX8_without_27 : decode cX8_without 27 = .ok (.aload_n 0, 1) := by decide +kernel
theorem dX8_without_28 : decode cX8_without 28 = .ok (.getfield 59, 3) := by decide +kernel
theorem dX8_without_31 : decode cX8_without 31 = .ok (.invokevirtual 209, 3) := by decide +kernel
theorem dX8_without_34 : decode cX8_without 34 = .ok (.ifCond .eq 13, 3) := by decide +kernel
theorem dX8_without_37 : decode cX8_without 37 = .ok (.aload_n 0, 1) := by decide +kernel
theorem dX8_without_38 : decode cX8_without 38 = .ok (.getfield 59, 3) := by decide +kernel
theorem dX8_without_41 : decode cX8_without 41 = .ok (.invokevirtual 213, 3) := by decide +kernel
theorem dX8_without_44 : decode cX8_without 44 = .ok (.goto 5, 3) := by decide +kernel
theorem dX8_without_47 : decode cX8_without 47 = .ok (.bipush (-4), 2) := by decide +kernel
theorem dX8_without_49 : decode cX8_without 49 = .ok (.ireturn, 1) := by decide +kernel
theorem dX8_tries_0 : decode cX8_tries 0 = .ok (.aload_n 0, 1) := by decide +kernel
theorem dX8_tries_1 : decode cX8_tries 1 = .ok (.getfield 66, 3) := by decide +kernel
theorem dX8_tries_4 : decode cX8_tries 4 = .ok (.aload_n 0, 1) := by decide +kernel
theorem dX8_tries_5 : decode cX8_tries 5 = .ok (.getfield 26, 3) := by decide +kernel
theorem dX8_tries_8 : decode cX8_tries 8 = .ok (.invokevirtual 234, 3) := by decide +kernel
theorem dX8_tries_11 : decode cX8_tries 11 = .ok (.ireturn, 1) := by decide +kernel
theorem dX8_count_0 : decode cX8_count 0 = .ok (.iload_n 1, 1) := by decide +kernel
theorem dX8_count_1 : decode cX8_count 1 = .ok (.tableswitch 99 0 6 #[43, 51, 59, 67, 75, 83, 91], 43) := by decide +kernel
theorem dX8_count_44 : decode cX8_count 44 = .ok (.aload_n 0, 1) := by decide +kernel
theorem dX8_count_45 : decode cX8_count 45 = .ok (.getfield 26, 3) := by decide +kernel
theorem dX8_count_48 : decode cX8_count 48 = .ok (.invokevirtual 94, 3) := by decide +kernel
theorem dX8_count_51 : decode cX8_count 51 = .ok (.ireturn, 1) := by decide +kernel
theorem dX8_count_52 : decode cX8_count 52 = .ok (.aload_n 0, 1) := by decide +kernel
theorem dX8_count_53 : decode cX8_count 53 = .ok (.getfield 26, 3) := by decide +kernel
theorem dX8_count_56 : decode cX8_count 56 = .ok (.invokevirtual 238, 3) := by decide +kernel
theorem dX8_count_59 : decode cX8_count 59 = .ok (.ireturn, 1) := by decide +kernel
theorem dX8_count_60 : decode cX8_count 60 = .ok (.aload_n 0, 1) := by decide +kernel
theorem dX8_count_61 : decode cX8_count 61 = .ok (.getfield 26, 3) := by decide +kernel
theorem dX8_count_64 : decode cX8_count 64 = .ok (.invokevirtual 241, 3) := by decide +kernel
theorem dX8_count_67 : decode cX8_count 67 = .ok (.ireturn, 1) := by decide +kernel
theorem dX8_count_68 : decode cX8_count 68 = .ok (.aload_n 0, 1) := by decide +kernel
theorem dX8_count_69 : decode cX8_count 69 = .ok (.getfield 26, 3) := by decide +kernel
theorem dX8_count_72 : decode cX8_count 72 = .ok (.invokevirtual 184, 3) := by decide +kernel
theorem dX8_count_75 : decode cX8_count 75 = .ok (.ireturn, 1) := by decide +kernel
theorem dX8_count_76 : decode cX8_count 76 = .ok (.aload_n 0, 1) := by decide +kernel
theorem dX8_count_77 : decode cX8_count 77 = .ok (.getfield 26, 3) := by decide +kernel
theorem dX8_count_80 : decode cX8_count 80 = .ok (.invokevirtual 244, 3) := by decide +kernel
theorem dX8_count_83 : decode cX8_count 83 = .ok (.ireturn, 1) := by decide +kernel
theorem dX8_count_84 : decode cX8_count 84 = .ok (.aload_n 0, 1) := by decide +kernel
theorem dX8_count_85 : decode cX8_count 85 = .ok (.getfield 52, 3) := by decide +kernel
theorem dX8_count_88 : decode cX8_count 88 = .ok (.invokevirtual 202, 3) := by decide +kernel
theorem dX8_count_91 : decode cX8_count 91 = .ok (.ireturn, 1) := by decide +kernel
theorem dX8_count_92 : decode cX8_count 92 = .ok (.aload_n 0, 1) := by decide +kernel
theorem dX8_count_93 : decode cX8_count 93 = .ok (.getfield 12, 3) := by decide +kernel
theorem dX8_count_96 : decode cX8_count 96 = .ok (.invokevirtual 93, 3) := by decide +kernel
theorem dX8_count_99 : decode cX8_count 99 = .ok (.ireturn, 1) := by decide +kernel
theorem dX8_count_100 : decode cX8_count 100 = .ok (.iconst (-1), 1) := by decide +kernel
theorem dX8_count_101 : decode cX8_count 101 = .ok (.ireturn, 1) := by decide +kernel
theorem dX8_isStep_0 : decode cX8_isStep 0 = .ok (.iload_n 0, 1) := by decide +kernel
theorem dX8_isStep_1 : decode cX8_isStep 1 = .ok (.iconst 1, 1) := by decide +kernel
theorem dX8_isStep_2 : decode cX8_isStep 2 = .ok (.if_icmp .lt 13, 3) := by decide +kernel
theorem dX8_isStep_5 : decode cX8_isStep 5 = .ok (.iload_n 0, 1) := by decide +kernel
theorem dX8_isStep_6 : decode cX8_isStep 6 = .ok (.bipush 99, 2) := by decide +kernel
theorem dX8_isStep_8 : decode cX8_isStep 8 = .ok (.if_icmp .gt 7, 3) := by decide +kernel
theorem dX8_isStep_11 : decode cX8_isStep 11 = .ok (.iconst 1, 1) := by decide +kernel
theorem dX8_isStep_12 : decode cX8_isStep 12 = .ok (.goto 4, 3) := by decide +kernel
theorem dX8_isStep_15 : decode cX8_isStep 15 = .ok (.iconst 0, 1) := by decide +kernel
theorem dX8_isStep_16 : decode cX8_isStep 16 = .ok (.ireturn, 1) := by decide +kernel
theorem dX8_isSweep_0 : decode cX8_isSweep 0 = .ok (.iload_n 0, 1) := by decide +kernel
theorem dX8_isSweep_1 : decode cX8_isSweep 1 = .ok (.ifCond .lt 12, 3) := by decide +kernel
theorem dX8_isSweep_4 : decode cX8_isSweep 4 = .ok (.iload_n 0, 1) := by decide +kernel
theorem dX8_isSweep_5 : decode cX8_isSweep 5 = .ok (.iconst 2, 1) := by decide +kernel
theorem dX8_isSweep_6 : decode cX8_isSweep 6 = .ok (.if_icmp .gt 7, 3) := by decide +kernel
theorem dX8_isSweep_9 : decode cX8_isSweep 9 = .ok (.iconst 1, 1) := by decide +kernel
theorem dX8_isSweep_10 : decode cX8_isSweep 10 = .ok (.goto 4, 3) := by decide +kernel
theorem dX8_isSweep_13 : decode cX8_isSweep 13 = .ok (.iconst 0, 1) := by decide +kernel
theorem dX8_isSweep_14 : decode cX8_isSweep 14 = .ok (.ireturn, 1) := by decide +kernel
theorem dJ6_bitCount_0f7a4_0 : decode cJ6_bitCount_0f7a4 0 = .ok (.iload_n 0, 1) := by decide +kernel
theorem dJ6_bitCount_0f7a4_1 : decode cJ6_bitCount_0f7a4 1 = .ok (.iload_n 0, 1) := by decide +kernel
theorem dJ6_bitCount_0f7a4_2 : decode cJ6_bitCount_0f7a4 2 = .ok (.iconst 1, 1) := by decide +kernel
theorem dJ6_bitCount_0f7a4_3 : decode cJ6_bitCount_0f7a4 3 = .ok (.iushr, 1) := by decide +kernel
theorem dJ6_bitCount_0f7a4_4 : decode cJ6_bitCount_0f7a4 4 = .ok (.ldc_w 265, 3) := by decide +kernel
theorem dJ6_bitCount_0f7a4_7 : decode cJ6_bitCount_0f7a4 7 = .ok (.iand, 1) := by decide +kernel
theorem dJ6_bitCount_0f7a4_8 : decode cJ6_bitCount_0f7a4 8 = .ok (.isub, 1) := by decide +kernel
theorem dJ6_bitCount_0f7a4_9 : decode cJ6_bitCount_0f7a4 9 = .ok (.istore_n 0, 1) := by decide +kernel
theorem dJ6_bitCount_0f7a4_10 : decode cJ6_bitCount_0f7a4 10 = .ok (.iload_n 0, 1) := by decide +kernel
theorem dJ6_bitCount_0f7a4_11 : decode cJ6_bitCount_0f7a4 11 = .ok (.ldc_w 266, 3) := by decide +kernel
theorem dJ6_bitCount_0f7a4_14 : decode cJ6_bitCount_0f7a4 14 = .ok (.iand, 1) := by decide +kernel
theorem dJ6_bitCount_0f7a4_15 : decode cJ6_bitCount_0f7a4 15 = .ok (.iload_n 0, 1) := by decide +kernel
theorem dJ6_bitCount_0f7a4_16 : decode cJ6_bitCount_0f7a4 16 = .ok (.iconst 2, 1) := by decide +kernel
theorem dJ6_bitCount_0f7a4_17 : decode cJ6_bitCount_0f7a4 17 = .ok (.iushr, 1) := by decide +kernel
theorem dJ6_bitCount_0f7a4_18 : decode cJ6_bitCount_0f7a4 18 = .ok (.ldc_w 266, 3) := by decide +kernel
theorem dJ6_bitCount_0f7a4_21 : decode cJ6_bitCount_0f7a4 21 = .ok (.iand, 1) := by decide +kernel
theorem dJ6_bitCount_0f7a4_22 : decode cJ6_bitCount_0f7a4 22 = .ok (.iadd, 1) := by decide +kernel
theorem dJ6_bitCount_0f7a4_23 : decode cJ6_bitCount_0f7a4 23 = .ok (.istore_n 0, 1) := by decide +kernel
theorem dJ6_bitCount_0f7a4_24 : decode cJ6_bitCount_0f7a4 24 = .ok (.iload_n 0, 1) := by decide +kernel
theorem dJ6_bitCount_0f7a4_25 : decode cJ6_bitCount_0f7a4 25 = .ok (.iload_n 0, 1) := by decide +kernel
theorem dJ6_bitCount_0f7a4_26 : decode cJ6_bitCount_0f7a4 26 = .ok (.iconst 4, 1) := by decide +kernel
theorem dJ6_bitCount_0f7a4_27 : decode cJ6_bitCount_0f7a4 27 = .ok (.iushr, 1) := by decide +kernel
theorem dJ6_bitCount_0f7a4_28 : decode cJ6_bitCount_0f7a4 28 = .ok (.iadd, 1) := by decide +kernel
theorem dJ6_bitCount_0f7a4_29 : decode cJ6_bitCount_0f7a4 29 = .ok (.ldc_w 267, 3) := by decide +kernel
theorem dJ6_bitCount_0f7a4_32 : decode cJ6_bitCount_0f7a4 32 = .ok (.iand, 1) := by decide +kernel
theorem dJ6_bitCount_0f7a4_33 : decode cJ6_bitCount_0f7a4 33 = .ok (.istore_n 0, 1) := by decide +kernel
theorem dJ6_bitCount_0f7a4_34 : decode cJ6_bitCount_0f7a4 34 = .ok (.iload_n 0, 1) := by decide +kernel
theorem dJ6_bitCount_0f7a4_35 : decode cJ6_bitCount_0f7a4 35 = .ok (.iload_n 0, 1) := by decide +kernel
theorem dJ6_bitCount_0f7a4_36 : decode cJ6_bitCount_0f7a4 36 = .ok (.bipush 8, 2) := by decide +kernel
theorem dJ6_bitCount_0f7a4_38 : decode cJ6_bitCount_0f7a4 38 = .ok (.iushr, 1) := by decide +kernel
theorem dJ6_bitCount_0f7a4_39 : decode cJ6_bitCount_0f7a4 39 = .ok (.iadd, 1) := by decide +kernel
theorem dJ6_bitCount_0f7a4_40 : decode cJ6_bitCount_0f7a4 40 = .ok (.istore_n 0, 1) := by decide +kernel
theorem dJ6_bitCount_0f7a4_41 : decode cJ6_bitCount_0f7a4 41 = .ok (.iload_n 0, 1) := by decide +kernel
theorem dJ6_bitCount_0f7a4_42 : decode cJ6_bitCount_0f7a4 42 = .ok (.iload_n 0, 1) := by decide +kernel
theorem dJ6_bitCount_0f7a4_43 : decode cJ6_bitCount_0f7a4 43 = .ok (.bipush 16, 2) := by decide +kernel
theorem dJ6_bitCount_0f7a4_45 : decode cJ6_bitCount_0f7a4 45 = .ok (.iushr, 1) := by decide +kernel
theorem dJ6_bitCount_0f7a4_46 : decode cJ6_bitCount_0f7a4 46 = .ok (.iadd, 1) := by decide +kernel
theorem dJ6_bitCount_0f7a4_47 : decode cJ6_bitCount_0f7a4 47 = .ok (.istore_n 0, 1) := by decide +kernel
theorem dJ6_bitCount_0f7a4_48 : decode cJ6_bitCount_0f7a4 48 = .ok (.iload_n 0, 1) := by decide +kernel
theorem dJ6_bitCount_0f7a4_49 : decode cJ6_bitCount_0f7a4 49 = .ok (.bipush 63, 2) := by decide +kernel
theorem dJ6_bitCount_0f7a4_51 : decode cJ6_bitCount_0f7a4 51 = .ok (.iand, 1) := by decide +kernel
theorem dJ6_bitCount_0f7a4_52 : decode cJ6_bitCount_0f7a4 52 = .ok (.ireturn, 1) := by decide +kernel
end
section
theorem dX9_init_0 : decode cX9_init 0 = .ok (.aload_n 0, 1) := by decide +kernel
theorem dX9_init_1 : decode cX9_init 1 = .ok (.invokespecial 1, 3) := by decide +kernel
theorem dX9_init_4 : decode cX9_init 4 = .ok (.aload_n 0, 1) := by decide +kernel
theorem dX9_init_5 : decode cX9_init 5 = .ok (.sipush 200, 3) := by decide +kernel
theorem dX9_init_8 : decode cX9_init 8 = .ok (.newarray .int, 2) := by decide +kernel
theorem dX9_init_10 : decode cX9_init 10 = .ok (.putfield 7, 3) := by decide +kernel
theorem dX9_init_13 : decode cX9_init 13 = .ok (.aload_n 0, 1) := by decide +kernel
theorem dX9_init_14 : decode cX9_init 14 = .ok (.bipush 6, 2) := by decide +kernel
theorem dX9_init_16 : decode cX9_init 16 = .ok (.newarray .int, 2) := by decide +kernel
theorem dX9_init_18 : decode cX9_init 18 = .ok (.putfield 13, 3) := by decide +kernel
theorem dX9_init_21 : decode cX9_init 21 = .ok (.aload_n 0, 1) := by decide +kernel
theorem dX9_init_22 : decode cX9_init 22 = .ok (.bipush 9, 2) := by decide +kernel
theorem dX9_init_24 : decode cX9_init 24 = .ok (.newarray .int, 2) := by decide +kernel
theorem dX9_init_26 : decode cX9_init 26 = .ok (.putfield 16, 3) := by decide +kernel
theorem dX9_init_29 : decode cX9_init 29 = .ok (.aload_n 0, 1) := by decide +kernel
theorem dX9_init_30 : decode cX9_init 30 = .ok (.bipush 9, 2) := by decide +kernel
theorem dX9_init_32 : decode cX9_init 32 = .ok (.newarray .int, 2) := by decide +kernel
theorem dX9_init_34 : decode cX9_init 34 = .ok (.putfield 19, 3) := by decide +kernel
theorem dX9_init_37 : decode cX9_init 37 = .ok (.aload_n 0, 1) := by decide +kernel
theorem dX9_init_38 : decode cX9_init 38 = .ok (.bipush 6, 2) := by decide +kernel
theorem dX9_init_40 : decode cX9_init 40 = .ok (.newarray .int, 2) := by decide +kernel
theorem dX9_init_42 : decode cX9_init 42 = .ok (.putfield 22, 3) := by decide +kernel
theorem dX9_init_45 : decode cX9_init 45 = .ok (.aload_n 0, 1) := by decide +kernel
theorem dX9_init_46 : decode cX9_init 46 = .ok (.sipush 169, 3) := by decide +kernel
theorem dX9_init_49 : decode cX9_init 49 = .ok (.newarray .int, 2) := by decide +kernel
theorem dX9_init_51 : decode cX9_init 51 = .ok (.putfield 25, 3) := by decide +kernel
theorem dX9_init_54 : decode cX9_init 54 = .ok (.aload_n 0, 1) := by decide +kernel
theorem dX9_init_55 : decode cX9_init 55 = .ok (.sipush 1014, 3) := by decide +kernel
theorem dX9_init_58 : decode cX9_init 58 = .ok (.newarray .int, 2) := by decide +kernel
theorem dX9_init_60 : decode cX9_init 60 = .ok (.putfield 28, 3) := by decide +kernel
theorem dX9_init_63 : decode cX9_init 63 = .ok (.aload_n 0, 1) := by decide +kernel
theorem dX9_init_64 : decode cX9_init 64 = .ok (.sipush 169, 3) := by decide +kernel
theorem dX9_init_67 : decode cX9_init 67 = .ok (.newarray .int, 2) := by decide +kernel
theorem dX9_init_69 : decode cX9_init 69 = .ok (.putfield 31, 3) := by decide +kernel
theorem dX9_init_72 : decode cX9_init 72 = .ok (.aload_n 0, 1) := by decide +kernel
theorem dX9_init_73 : decode cX9_init 73 = .ok (.bipush 6, 2) := by decide +kernel
theorem dX9_init_75 : decode cX9_init 75 = .ok (.newarray .int, 2) := by decide +kernel
theorem dX9_init_77 : decode cX9_init 77 = .ok (.putfield 34, 3) := by decide +kernel
theorem dX9_init_80 : decode cX9_init 80 = .ok (.aload_n 0, 1) := by decide +kernel
theorem dX9_init_81 : decode cX9_init 81 = .ok (.bipush 9, 2) := by decide +kernel
theorem dX9_init_83 : decode cX9_init 83 = .ok (.newarray .int, 2) := by decide +kernel
theorem dX9_init_85 : decode cX9_init 85 = .ok (.putfield 37, 3) := by decide +kernel
theorem dX9_init_88 : decode cX9_init 88 = .ok (.aload_n 0, 1) := by decide +kernel
theorem dX9_init_89 : decode cX9_init 89 = .ok (.bipush 9, 2) := by decide +kernel
theorem dX9_init_91 : decode cX9_init 91 = .ok (.newarray .int, 2) := by decide +kernel
theorem dX9_init_93 : decode cX9_init 93 = .ok (.putfield 40, 3) := by decide +kernel
theorem dX9_init_96 : decode cX9_init 96 = .ok (.aload_n 0, 1) := by decide +kernel
theorem dX9_init_97 : decode cX9_init 97 = .ok (.sipush 169, 3) := by decide +kernel
theorem dX9_init_100 : decode cX9_init 100 = .ok (.newarray .int, 2) := by decide +kernel
theorem dX9_init_102 : decode cX9_init 102 = .ok (.putfield 43, 3) := by decide +kernel
theorem dX9_init_105 : decode cX9_init 105 = .ok (.aload_n 0, 1) := by decide +kernel
theorem dX9_init_106 : decode cX9_init 106 = .ok (.iconst 4, 1) := by decide +kernel
theorem dX9_init_107 : decode cX9_init 107 = .ok (.newarray .int, 2) := by decide +kernel
theorem dX9_init_109 : decode cX9_init 109 = .ok (.putfield 46, 3) := by decide +kernel
theorem dX9_init_112 : decode cX9_init 112 = .ok (.aload_n 0, 1) := by decide +kernel
theorem dX9_init_113 : decode cX9_init 113 = .ok (.sipush 169, 3) := by decide +kernel
theorem dX9_init_116 : decode cX9_init 116 = .ok (.newarray .int, 2) := by decide +kernel
theorem dX9_init_118 : decode cX9_init 118 = .ok (.putfield 49, 3) := by decide +kernel
theorem dX9_init_121 : decode cX9_init 121 = .ok (.aload_n 0, 1) := by decide +kernel
theorem dX9_init_122 : decode cX9_init 122 = .ok (.bipush 6, 2) := by decide +kernel
theorem dX9_init_124 : decode cX9_init 124 = .ok (.newarray .int, 2) := by decide +kernel
theorem dX9_init_126 : decode cX9_init 126 = .ok (.putfield 52, 3) := by decide +kernel
theorem dX9_init_129 : decode cX9_init 129 = .ok (.aload_n 0, 1) := by decide +kernel
theorem dX9_init_130 : decode cX9_init 130 = .ok (.bipush 6, 2) := by decide +kernel
theorem dX9_init_132 : decode cX9_init 132 = .ok (.newarray .int, 2) := by decide +kernel
theorem dX9_init_134 : decode cX9_init 134 = .ok (.putfield 55, 3) := by decide +kernel
theorem dX9_init_137 : decode cX9_init 137 = .ok (.aload_n 0, 1) := by decide +kernel
theorem dX9_init_138 : decode cX9_init 138 = .ok (.iconst 4, 1) := by decide +kernel
theorem dX9_init_139 : decode cX9_init 139 = .ok (.putfield 58, 3) := by decide +kernel
theorem dX9_init_142 : decode cX9_init 142 = .ok (.aload_n 0, 1) := by decide +kernel
theorem dX9_init_143 : decode cX9_init 143 = .ok (.getfield 13, 3) := by decide +kernel
theorem dX9_init_146 : decode cX9_init 146 = .ok (.iconst 0, 1) := by decide +kernel
theorem dX9_init_147 : decode cX9_init 147 = .ok (.iconst 3, 1) := by decide +kernel
theorem dX9_init_148 : decode cX9_init 148 = .ok (.iastore, 1) := by decide +kernel
theorem dX9_init_149 : decode cX9_init 149 = .ok (.aload_n 0, 1) := by decide +kernel
theorem dX9_init_150 : decode cX9_init 150 = .ok (.getfield 13, 3) := by decide +kernel
theorem dX9_init_153 : decode cX9_init 153 = .ok (.iconst 1, 1) := by decide +kernel
theorem dX9_init_154 : decode cX9_init 154 = .ok (.iconst 3, 1) := by decide +kernel
theorem dX9_init_155 : decode cX9_init 155 = .ok (.iastore, 1) := by decide +kernel
theorem dX9_init_156 : decode cX9_init 156 = .ok (.aload_n 0, 1) := by decide +kernel
theorem dX9_init_157 : decode cX9_init 157 = .ok (.getfield 13, 3) := by decide +kernel
theorem dX9_init_160 : decode cX9_init 160 = .ok (.iconst 2, 1) := by decide +kernel
theorem dX9_init_161 : decode cX9_init 161 = .ok (.iconst 2, 1) := by decide +kernel
theorem dX9_init_162 : decode cX9_init 162 = .ok (.iastore, 1) := by decide +kernel
theorem dX9_init_163 : decode cX9_init 163 = .ok (.aload_n 0, 1) := by decide +kernel
theorem dX9_init_164 : decode cX9_init 164 = .ok (.getfield 13, 3) := by decide +kernel
theorem dX9_init_167 : decode cX9_init 167 = .ok (.iconst 3, 1) := by decide +kernel
theorem dX9_init_168 : decode cX9_init 168 = .ok (.iconst 3, 1) := by decide +kernel
theorem dX9_init_169 : decode cX9_init 169 = .ok (.iastore, 1) := by decide +kernel
theorem dX9_init_170 : decode cX9_init 170 = .ok (.aload_n 0, 1) := by decide +kernel
theorem dX9_init_171 : decode cX9_init 171 = .ok (.bipush 20, 2) := by decide +kernel
theorem dX9_init_173 : decode cX9_init 173 = .ok (.putfield 62, 3) := by decide +kernel
theorem dX9_init_176 : decode cX9_init 176 = .ok (.aload_n 0, 1) := by decide +kernel
theorem dX9_init_177 : decode cX9_init 177 = .ok (.getfield 25, 3) := by decide +kernel
theorem dX9_init_180 : decode cX9_init 180 = .ok (.iconst 0, 1) := by decide +kernel
theorem dX9_init_181 : decode cX9_init 181 = .ok (.iconst 2, 1) := by decide +kernel
theorem dX9_init_182 : decode cX9_init 182 = .ok (.iastore, 1) := by decide +kernel
theorem dX9_init_183 : decode cX9_init 183 = .ok (.aload_n 0, 1) := by decide +kernel
theorem dX9_init_184 : decode cX9_init 184 = .ok (.getfield 25, 3) := by decide +kernel
theorem dX9_init_187 : decode cX9_init 187 = .ok (.bipush 6, 2) := by decide +kernel
theorem dX9_init_189 : decode cX9_init 189 = .ok (.iconst 1, 1) := by decide +kernel
theorem dX9_init_190 : decode cX9_init 190 = .ok (.iastore, 1) := by decide +kernel
theorem dX9_init_191 : decode cX9_init 191 = .ok (.aload_n 0, 1) := by decide +kernel
theorem dX9_init_192 : decode cX9_init 192 = .ok (.getfield 25, 3) := by decide +kernel
theorem dX9_init_195 : decode cX9_init 195 = .ok (.bipush 13, 2) := by decide +kernel
theorem dX9_init_197 : decode cX9_init 197 = .ok (.iconst 4, 1) := by decide +kernel
theorem dX9_init_198 : decode cX9_init 198 = .ok (.iastore, 1) := by decide +kernel
theorem dX9_init_199 : decode cX9_init 199 = .ok (.aload_n 0, 1) := by decide +kernel
theorem dX9_init_200 : decode cX9_init 200 = .ok (.iconst 4, 1) := by decide +kernel
theorem dX9_init_201 : decode cX9_init 201 = .ok (.putfield 65, 3) := by decide +kernel
theorem dX9_init_204 : decode cX9_init 204 = .ok (.aload_n 0, 1) := by decide +kernel
theorem dX9_init_205 : decode cX9_init 205 = .ok (.iconst 0, 1) := by decide +kernel
theorem dX9_init_206 : decode cX9_init 206 = .ok (.iconst 0, 1) := by decide +kernel
theorem dX9_init_207 : decode cX9_init 207 = .ok (.iconst 1, 1) := by decide +kernel
theorem dX9_init_208 : decode cX9_init 208 = .ok (.iconst 5, 1) := by decide +kernel
theorem dX9_init_209 : decode cX9_init 209 = .ok (.invokevirtual 68, 3) := by decide +kernel
theorem dX9_init_212 : decode cX9_init 212 = .ok (.aload_n 0, 1) := by decide +kernel
theorem dX9_init_213 : decode cX9_init 213 = .ok (.iconst 1, 1) := by decide +kernel
theorem dX9_init_214 : decode cX9_init 214 = .ok (.iconst 1, 1) := by decide +kernel
theorem dX9_init_215 : decode cX9_init 215 = .ok (.iconst 2, 1) := by decide +kernel
theorem dX9_init_216 : decode cX9_init 216 = .ok (.iconst 3, 1) := by decide +kernel
theorem dX9_init_217 : decode cX9_init 217 = .ok (.invokevirtual 68, 3) := by decide +kernel
theorem dX9_init_220 : decode cX9_init 220 = .ok (.aload_n 0, 1) := by decide +kernel
theorem dX9_init_221 : decode cX9_init 221 = .ok (.iconst 2, 1) := by decide +kernel
theorem dX9_init_222 : decode cX9_init 222 = .ok (.iconst 0, 1) := by decide +kernel
theorem dX9_init_223 : decode cX9_init 223 = .ok (.iconst 3, 1) := by decide +kernel
theorem dX9_init_224 : decode cX9_init 224 = .ok (.bipush 7, 2) := by decide +kernel
theorem dX9_init_226 : decode cX9_init 226 = .ok (.invokevirtual 68, 3) := by decide +kernel
theorem dX9_init_229 : decode cX9_init 229 = .ok (.aload_n 0, 1) := by decide +kernel
theorem dX9_init_230 : decode cX9_init 230 = .ok (.iconst 3, 1) := by decide +kernel
theorem dX9_init_231 : decode cX9_init 231 = .ok (.iconst 2, 1) := by decide +kernel
theorem dX9_init_232 : decode cX9_init 232 = .ok (.iconst 3, 1) := by decide +kernel
theorem dX9_init_233 : decode cX9_init 233 = .ok (.bipush 9, 2) := by decide +kernel
theorem dX9_init_235 : decode cX9_init 235 = .ok (.invokevirtual 68, 3) := by decide +kernel
theorem dX9_init_238 : decode cX9_init 238 = .ok (.aload_n 0, 1) := by decide +kernel
theorem dX9_init_239 : decode cX9_init 239 = .ok (.getfield 25, 3) := by decide +kernel
theorem dX9_init_242 : decode cX9_init 242 = .ok (.bipush 49, 2) := by decide +kernel
theorem dX9_init_244 : decode cX9_init 244 = .ok (.bipush 6, 2) := by decide +kernel
theorem dX9_init_246 : decode cX9_init 246 = .ok (.iastore, 1) := by decide +kernel
theorem dX9_init_247 : decode cX9_init 247 = .ok (.aload_n 0, 1) := by decide +kernel
theorem dX9_init_248 : decode cX9_init 248 = .ok (.getfield 25, 3) := by decide +kernel
theorem dX9_init_251 : decode cX9_init 251 = .ok (.bipush 74, 2) := by decide +kernel
theorem dX9_init_253 : decode cX9_init 253 = .ok (.iconst 4, 1) := by decide +kernel
theorem dX9_init_254 : decode cX9_init 254 = .ok (.iastore, 1) := by decide +kernel
theorem dX9_init_255 : decode cX9_init 255 = .ok (.return_, 1) := by decide +kernel
theorem dX9_begins_0 : decode cX9_begins 0 = .ok (.aload_n 0, 1) := by decide +kernel
theorem dX9_begins_1 : decode cX9_begins 1 = .ok (.getfield 16, 3) := by decide +kernel
theorem dX9_begins_4 : decode cX9_begins 4 = .ok (.iload_n 1, 1) := by decide +kernel
theorem dX9_begins_5 : decode cX9_begins 5 = .ok (.iload_n 2, 1) := by decide +kernel
theorem dX9_begins_6 : decode cX9_begins 6 = .ok (.iastore, 1) := by decide +kernel
theorem dX9_begins_7 : decode cX9_begins 7 = .ok (.aload_n 0, 1) := by decide +kernel
theorem dX9_begins_8 : decode cX9_begins 8 = .ok (.getfield 19, 3) := by decide +kernel
theorem dX9_begins_11 : decode cX9_begins 11 = .ok (.iload_n 1, 1) := by decide +kernel
theorem dX9_begins_12 : decode cX9_begins 12 = .ok (.iload_n 3, 1) := by decide +kernel
theorem dX9_begins_13 : decode cX9_begins 13 = .ok (.iastore, 1) := by decide +kernel
theorem dX9_begins_14 : decode cX9_begins 14 = .ok (.iconst 0, 1) := by decide +kernel
theorem dX9_begins_15 : decode cX9_begins 15 = .ok (.istore 5, 2) := by decide +kernel
theorem dX9_begins_17 : decode cX9_begins 17 = .ok (.iload 5, 2) := by decide +kernel
theorem dX9_begins_19 : decode cX9_begins 19 = .ok (.iconst 4, 1) := by decide +kernel
theorem dX9_begins_20 : decode cX9_begins 20 = .ok (.if_icmp .ge 54, 3) := by decide +kernel
theorem dX9_begins_23 : decode cX9_begins 23 = .ok (.aload_n 0, 1) := by decide +kernel
theorem dX9_begins_24 : decode cX9_begins 24 = .ok (.getfield 25, 3) := by decide +kernel
theorem dX9_begins_27 : decode cX9_begins 27 = .ok (.bipush 24, 2) := by decide +kernel
theorem dX9_begins_29 : decode cX9_begins 29 = .ok (.bipush 16, 2) := by decide +kernel
theorem dX9_begins_31 : decode cX9_begins 31 = .ok (.iload_n 1, 1) := by decide +kernel
theorem dX9_begins_32 : decode cX9_begins 32 = .ok (.imul, 1) := by decide +kernel
theorem dX9_begins_33 : decode cX9_begins 33 = .ok (.iadd, 1) := by decide +kernel
theorem dX9_begins_34 : decode cX9_begins 34 = .ok (.iconst 5, 1) := by decide +kernel
theorem dX9_begins_35 : decode cX9_begins 35 = .ok (.iload 5, 2) := by decide +kernel
theorem dX9_begins_37 : decode cX9_begins 37 = .ok (.imul, 1) := by decide +kernel
theorem dX9_begins_38 : decode cX9_begins 38 = .ok (.iadd, 1) := by decide +kernel
theorem dX9_begins_39 : decode cX9_begins 39 = .ok (.iload 5, 2) := by decide +kernel
theorem dX9_begins_41 : decode cX9_begins 41 = .ok (.aload_n 0, 1) := by decide +kernel
theorem dX9_begins_42 : decode cX9_begins 42 = .ok (.getfield 13, 3) := by decide +kernel
theorem dX9_begins_45 : decode cX9_begins 45 = .ok (.iload_n 2, 1) := by decide +kernel
theorem dX9_begins_46 : decode cX9_begins 46 = .ok (.iaload, 1) := by decide +kernel
theorem dX9_begins_47 : decode cX9_begins 47 = .ok (.if_icmp .ge 19, 3) := by decide +kernel
theorem dX9_begins_50 : decode cX9_begins 50 = .ok (.iload 5, 2) := by decide +kernel
theorem dX9_begins_52 : decode cX9_begins 52 = .ok (.aload_n 0, 1) := by decide +kernel
theorem dX9_begins_53 : decode cX9_begins 53 = .ok (.getfield 13, 3) := by decide +kernel
theorem dX9_begins_56 : decode cX9_begins 56 = .ok (.iload_n 3, 1) := by decide +kernel
theorem dX9_begins_57 : decode cX9_begins 57 = .ok (.iaload, 1) := by decide +kernel
theorem dX9_begins_58 : decode cX9_begins 58 = .ok (.if_icmp .ge 8, 3) := by decide +kernel
theorem dX9_begins_61 : decode cX9_begins 61 = .ok (.iload 4, 2) := by decide +kernel
theorem dX9_begins_63 : decode cX9_begins 63 = .ok (.goto 4, 3) := by decide +kernel
theorem dX9_begins_66 : decode cX9_begins 66 = .ok (.iconst 0, 1) := by decide +kernel
theorem dX9_begins_67 : decode cX9_begins 67 = .ok (.iastore, 1) := by decide +kernel
theorem dX9_begins_68 : decode cX9_begins 68 = .ok (.iinc 5 1, 3) := by decide +kernel
theorem dX9_begins_71 : decode cX9_begins 71 = .ok (.goto (-54), 3) := by decide +kernel
theorem dX9_begins_74 : decode cX9_begins 74 = .ok (.return_, 1) := by decide +kernel
theorem dX9_isIn_0 : decode cX9_isIn 0 = .ok (.iload_n 0, 1) := by decide +kernel
theorem dX9_isIn_1 : decode cX9_isIn 1 = .ok (.iload_n 1, 1) := by decide +kernel
theorem dX9_isIn_2 : decode cX9_isIn 2 = .ok (.if_icmp .lt 12, 3) := by decide +kernel
theorem dX9_isIn_5 : decode cX9_isIn 5 = .ok (.iload_n 0, 1) := by decide +kernel
theorem dX9_isIn_6 : decode cX9_isIn 6 = .ok (.iload_n 2, 1) := by decide +kernel
theorem dX9_isIn_7 : decode cX9_isIn 7 = .ok (.if_icmp .gt 7, 3) := by decide +kernel
theorem dX9_isIn_10 : decode cX9_isIn 10 = .ok (.iconst 1, 1) := by decide +kernel
theorem dX9_isIn_11 : decode cX9_isIn 11 = .ok (.goto 4, 3) := by decide +kernel
theorem dX9_isIn_14 : decode cX9_isIn 14 = .ok (.iconst 0, 1) := by decide +kernel
theorem dX9_isIn_15 : decode cX9_isIn 15 = .ok (.ireturn, 1) := by decide +kernel
theorem dX9_letterAt_0 : decode cX9_letterAt 0 = .ok (.iload_n 1, 1) := by decide +kernel
theorem dX9_letterAt_1 : decode cX9_letterAt 1 = .ok (.aload_n 0, 1) := by decide +kernel
theorem dX9_letterAt_2 : decode cX9_letterAt 2 = .ok (.getfield 72, 3) := by decide +kernel
theorem dX9_letterAt_5 : decode cX9_letterAt 5 = .ok (.if_icmp .ge 12, 3) := by decide +kernel
theorem dX9_letterAt_8 : decode cX9_letterAt 8 = .ok (.aload_n 0, 1) := by decide +kernel
theorem dX9_letterAt_9 : decode cX9_letterAt 9 = .ok (.getfield 7, 3) := by decide +kernel
theorem dX9_letterAt_12 : decode cX9_letterAt 12 = .ok (.iload_n 1, 1) := by decide +kernel
theorem dX9_letterAt_13 : decode cX9_letterAt 13 = .ok (.iaload, 1) := by decide +kernel
theorem dX9_letterAt_14 : decode cX9_letterAt 14 = .ok (.goto 4, 3) := by decide +kernel
theorem dX9_letterAt_17 : decode cX9_letterAt 17 = .ok (.iconst 0, 1) := by decide +kernel
theorem dX9_letterAt_18 : decode cX9_letterAt 18 = .ok (.ireturn, 1) := by decide +kernel
theorem dX9_number_0 : decode cX9_number 0 = .ok (.iload_n 1, 1) := by decide +kernel
theorem dX9_number_1 : decode cX9_number 1 = .ok (.istore 4, 2) := by decide +kernel
theorem dX9_number_3 : decode cX9_number 3 = .ok (.aload_n 0, 1) := by decide +kernel
theorem dX9_number_4 : decode cX9_number 4 = .ok (.iconst 0, 1) := by decide +kernel
theorem dX9_number_5 : decode cX9_number 5 = .ok (.putfield 75, 3) := by decide +kernel
theorem dX9_number_8 : decode cX9_number 8 = .ok (.aload_n 0, 1) := by decide +kernel
theorem dX9_number_9 : decode cX9_number 9 = .ok (.iload 4, 2) := by decide +kernel
theorem dX9_number_11 : decode cX9_number 11 = .ok (.invokevirtual 78, 3) := by decide +kernel
theorem dX9_number_14 : decode cX9_number 14 = .ok (.bipush 48, 2) := by decide +kernel
theorem dX9_number_16 : decode cX9_number 16 = .ok (.if_icmp .lt 49, 3) := by decide +kernel
theorem dX9_number_19 : decode cX9_number 19 = .ok (.aload_n 0, 1) := by decide +kernel
theorem dX9_number_20 : decode cX9_number 20 = .ok (.iload 4, 2) := by decide +kernel
theorem dX9_number_22 : decode cX9_number 22 = .ok (.invokevirtual 78, 3) := by decide +kernel
theorem dX9_number_25 : decode cX9_number 25 = .ok (.bipush 57, 2) := by decide +kernel
theorem dX9_number_27 : decode cX9_number 27 = .ok (.if_icmp .gt 38, 3) := by decide +kernel
theorem dX9_number_30 : decode cX9_number 30 = .ok (.iload 4, 2) := by decide +kernel
theorem dX9_number_32 : decode cX9_number 32 = .ok (.iload_n 1, 1) := by decide +kernel
theorem dX9_number_33 : decode cX9_number 33 = .ok (.iconst 2, 1) := by decide +kernel
theorem dX9_number_34 : decode cX9_number 34 = .ok (.iadd, 1) := by decide +kernel
theorem dX9_number_35 : decode cX9_number 35 = .ok (.if_icmp .ge 30, 3) := by decide +kernel
theorem dX9_number_38 : decode cX9_number 38 = .ok (.aload_n 0, 1) := by decide +kernel
theorem dX9_number_39 : decode cX9_number 39 = .ok (.bipush 10, 2) := by decide +kernel
theorem dX9_number_41 : decode cX9_number 41 = .ok (.aload_n 0, 1) := by decide +kernel
theorem dX9_number_42 : decode cX9_number 42 = .ok (.getfield 75, 3) := by decide +kernel
theorem dX9_number_45 : decode cX9_number 45 = .ok (.imul, 1) := by decide +kernel
theorem dX9_number_46 : decode cX9_number 46 = .ok (.aload_n 0, 1) := by decide +kernel
theorem dX9_number_47 : decode cX9_number 47 = .ok (.iload 4, 2) := by decide +kernel
theorem dX9_number_49 : decode cX9_number 49 = .ok (.invokevirtual 78, 3) := by decide +kernel
theorem dX9_number_52 : decode cX9_number 52 = .ok (.iadd, 1) := by decide +kernel
theorem dX9_number_53 : decode cX9_number 53 = .ok (.bipush 48, 2) := by decide +kernel
theorem dX9_number_55 : decode cX9_number 55 = .ok (.isub, 1) := by decide +kernel
theorem dX9_number_56 : decode cX9_number 56 = .ok (.putfield 75, 3) := by decide +kernel
theorem dX9_number_59 : decode cX9_number 59 = .ok (.iinc 4 1, 3) := by decide +kernel
theorem dX9_number_62 : decode cX9_number 62 = .ok (.goto (-54), 3) := by decide +kernel
theorem dX9_number_65 : decode cX9_number 65 = .ok (.aload_n 0, 1) := by decide +kernel
theorem dX9_number_66 : decode cX9_number 66 = .ok (.iload 4, 2) := by decide +kernel
theorem dX9_number_68 : decode cX9_number 68 = .ok (.putfield 82, 3) := by decide +kernel
theorem dX9_number_71 : decode cX9_number 71 = .ok (.iload 4, 2) := by decide +kernel
theorem dX9_number_73 : decode cX9_number 73 = .ok (.iload_n 1, 1) := by decide +kernel
theorem dX9_number_74 : decode cX9_number 74 = .ok (.if_icmp .le 19, 3) := by decide +kernel
theorem dX9_number_77 : decode cX9_number 77 = .ok (.aload_n 0, 1) := by decide +kernel
theorem dX9_number_78 : decode cX9_number 78 = .ok (.getfield 75, 3) := by decide +kernel
theorem dX9_number_81 : decode cX9_number 81 = .ok (.iload_n 2, 1) := by decide +kernel
theorem dX9_number_82 : decode cX9_number 82 = .ok (.iload_n 3, 1) := by decide +kernel
theorem dX9_number_83 : decode cX9_number 83 = .ok (.invokestatic 85, 3) := by decide +kernel
theorem dX9_number_86 : decode cX9_number 86 = .ok (.ifCond .eq 7, 3) := by decide +kernel
theorem dX9_number_89 : decode cX9_number 89 = .ok (.iconst 1, 1) := by decide +kernel
theorem dX9_number_90 : decode cX9_number 90 = .ok (.goto 4, 3) := by decide +kernel
theorem dX9_number_93 : decode cX9_number 93 = .ok (.iconst 0, 1) := by decide +kernel
theorem dX9_number_94 : decode cX9_number 94 = .ok (.ireturn, 1) := by decide +kernel
theorem dX9_more_0 : decode cX9_more 0 = .ok (.aload_n 0, 1) := by decide +kernel
theorem dX9_more_1 : decode cX9_more 1 = .ok (.aload_n 0, 1) := by decide +kernel
theorem dX9_more_2 : decode cX9_more 2 = .ok (.getfield 82, 3) := by decide +kernel
theorem dX9_more_5 : decode cX9_more 5 = .ok (.invokevirtual 78, 3) := by decide +kernel
theorem dX9_more_8 : decode cX9_more 8 = .ok (.bipush 44, 2) := by decide +kernel
theorem dX9_more_10 : decode cX9_more 10 = .ok (.if_icmp .ne 22, 3) := by decide +kernel
theorem dX9_more_13 : decode cX9_more 13 = .ok (.aload_n 0, 1) := by decide +kernel
theorem dX9_more_14 : decode cX9_more 14 = .ok (.aload_n 0, 1) := by decide +kernel
theorem dX9_more_15 : decode cX9_more 15 = .ok (.getfield 82, 3) := by decide +kernel
theorem dX9_more_18 : decode cX9_more 18 = .ok (.iconst 1, 1) := by decide +kernel
theorem dX9_more_19 : decode cX9_more 19 = .ok (.iadd, 1) := by decide +kernel
theorem dX9_more_20 : decode cX9_more 20 = .ok (.iload_n 1, 1) := by decide +kernel
theorem dX9_more_21 : decode cX9_more 21 = .ok (.iload_n 2, 1) := by decide +kernel
theorem dX9_more_22 : decode cX9_more 22 = .ok (.invokevirtual 89, 3) := by decide +kernel
theorem dX9_more_25 : decode cX9_more 25 = .ok (.ifCond .eq 7, 3) := by decide +kernel
theorem dX9_more_28 : decode cX9_more 28 = .ok (.iconst 1, 1) := by decide +kernel
theorem dX9_more_29 : decode cX9_more 29 = .ok (.goto 4, 3) := by decide +kernel
theorem dX9_more_32 : decode cX9_more 32 = .ok (.iconst 0, 1) := by decide +kernel
theorem dX9_more_33 : decode cX9_more 33 = .ok (.ireturn, 1) := by decide +kernel
theorem dX9_readsName_0 : decode cX9_readsName 0 = .ok (.aload_n 0, 1) := by decide +kernel
theorem dX9_readsName_1 : decode cX9_readsName 1 = .ok (.getfield 92, 3) := by decide +kernel
theorem dX9_readsName_4 : decode cX9_readsName 4 = .ok (.bipush 6, 2) := by decide +kernel
theorem dX9_readsName_6 : decode cX9_readsName 6 = .ok (.if_icmp .eq 13, 3) := by decide +kernel
theorem dX9_readsName_9 : decode cX9_readsName 9 = .ok (.aload_n 0, 1) := by decide +kernel
theorem dX9_readsName_10 : decode cX9_readsName 10 = .ok (.iload_n 1, 1) := by decide +kernel
theorem dX9_readsName_11 : decode cX9_readsName 11 = .ok (.iconst 2, 1) := by decide +kernel
theorem dX9_readsName_12 : decode cX9_readsName 12 = .ok (.iconst 4, 1) := by decide +kernel
theorem dX9_readsName_13 : decode cX9_readsName 13 = .ok (.invokevirtual 89, 3) := by decide +kernel
theorem dX9_readsName_16 : decode cX9_readsName 16 = .ok (.ifCond .ne 5, 3) := by decide +kernel
theorem dX9_readsName_19 : decode cX9_readsName 19 = .ok (.iconst 0, 1) := by decide +kernel
theorem dX9_readsName_20 : decode cX9_readsName 20 = .ok (.ireturn, 1) := by decide +kernel
theorem dX9_readsName_21 : decode cX9_readsName 21 = .ok (.aload_n 0, 1) := by decide +kernel
theorem dX9_readsName_22 : decode cX9_readsName 22 = .ok (.getfield 34, 3) := by decide +kernel
theorem dX9_readsName_25 : decode cX9_readsName 25 = .ok (.aload_n 0, 1) := by decide +kernel
theorem dX9_readsName_26 : decode cX9_readsName 26 = .ok (.getfield 92, 3) := by decide +kernel
theorem dX9_readsName_29 : decode cX9_readsName 29 = .ok (.aload_n 0, 1) := by decide +kernel
theorem dX9_readsName_30 : decode cX9_readsName 30 = .ok (.getfield 75, 3) := by decide +kernel
theorem dX9_readsName_33 : decode cX9_readsName 33 = .ok (.iastore, 1) := by decide +kernel
theorem dX9_readsName_34 : decode cX9_readsName 34 = .ok (.aload_n 0, 1) := by decide +kernel
theorem dX9_readsName_35 : decode cX9_readsName 35 = .ok (.dup, 1) := by decide +kernel
theorem dX9_readsName_36 : decode cX9_readsName 36 = .ok (.getfield 92, 3) := by decide +kernel
theorem dX9_readsName_39 : decode cX9_readsName 39 = .ok (.iconst 1, 1) := by decide +kernel
theorem dX9_readsName_40 : decode cX9_readsName 40 = .ok (.iadd, 1) := by decide +kernel
theorem dX9_readsName_41 : decode cX9_readsName 41 = .ok (.putfield 92, 3) := by decide +kernel
theorem dX9_readsName_44 : decode cX9_readsName 44 = .ok (.iconst 1, 1) := by decide +kernel
theorem dX9_readsName_45 : decode cX9_readsName 45 = .ok (.ireturn, 1) := by decide +kernel
theorem dX9_readsSingle_0 : decode cX9_readsSingle 0 = .ok (.aload_n 0, 1) := by decide +kernel
theorem dX9_readsSingle_1 : decode cX9_readsSingle 1 = .ok (.iload_n 1, 1) := by decide +kernel
theorem dX9_readsSingle_2 : decode cX9_readsSingle 2 = .ok (.iconst 0, 1) := by decide +kernel
theorem dX9_readsSingle_3 : decode cX9_readsSingle 3 = .ok (.aload_n 0, 1) := by decide +kernel
theorem dX9_readsSingle_4 : decode cX9_readsSingle 4 = .ok (.getfield 92, 3) := by decide +kernel
theorem dX9_readsSingle_7 : decode cX9_readsSingle 7 = .ok (.iconst 1, 1) := by decide +kernel
theorem dX9_readsSingle_8 : decode cX9_readsSingle 8 = .ok (.isub, 1) := by decide +kernel
theorem dX9_readsSingle_9 : decode cX9_readsSingle 9 = .ok (.invokevirtual 89, 3) := by decide +kernel
theorem dX9_readsSingle_12 : decode cX9_readsSingle 12 = .ok (.ifCond .ne 5, 3) := by decide +kernel
theorem dX9_readsSingle_15 : decode cX9_readsSingle 15 = .ok (.iconst 0, 1) := by decide +kernel
theorem dX9_readsSingle_16 : decode cX9_readsSingle 16 = .ok (.ireturn, 1) := by decide +kernel
theorem dX9_readsSingle_17 : decode cX9_readsSingle 17 = .ok (.aload_n 0, 1) := by decide +kernel
theorem dX9_readsSingle_18 : decode cX9_readsSingle 18 = .ok (.getfield 75, 3) := by decide +kernel
theorem dX9_readsSingle_21 : decode cX9_readsSingle 21 = .ok (.istore_n 2, 1) := by decide +kernel
theorem dX9_readsSingle_22 : decode cX9_readsSingle 22 = .ok (.aload_n 0, 1) := by decide +kernel
theorem dX9_readsSingle_23 : decode cX9_readsSingle 23 = .ok (.iconst 0, 1) := by decide +kernel
theorem dX9_readsSingle_24 : decode cX9_readsSingle 24 = .ok (.aload_n 0, 1) := by decide +kernel
theorem dX9_readsSingle_25 : decode cX9_readsSingle 25 = .ok (.getfield 34, 3) := by decide +kernel
theorem dX9_readsSingle_28 : decode cX9_readsSingle 28 = .ok (.iload_n 2, 1) := by decide +kernel
theorem dX9_readsSingle_29 : decode cX9_readsSingle 29 = .ok (.iaload, 1) := by decide +kernel
theorem dX9_readsSingle_30 : decode cX9_readsSingle 30 = .ok (.iconst 1, 1) := by decide +kernel
theorem dX9_readsSingle_31 : decode cX9_readsSingle 31 = .ok (.isub, 1) := by decide +kernel
theorem dX9_readsSingle_32 : decode cX9_readsSingle 32 = .ok (.invokevirtual 95, 3) := by decide +kernel
theorem dX9_readsSingle_35 : decode cX9_readsSingle 35 = .ok (.ifCond .ne 5, 3) := by decide +kernel
theorem dX9_readsSingle_38 : decode cX9_readsSingle 38 = .ok (.iconst 0, 1) := by decide +kernel
theorem dX9_readsSingle_39 : decode cX9_readsSingle 39 = .ok (.ireturn, 1) := by decide +kernel
theorem dX9_readsSingle_40 : decode cX9_readsSingle 40 = .ok (.iconst 4, 1) := by decide +kernel
theorem dX9_readsSingle_41 : decode cX9_readsSingle 41 = .ok (.iload_n 2, 1) := by decide +kernel
theorem dX9_readsSingle_42 : decode cX9_readsSingle 42 = .ok (.imul, 1) := by decide +kernel
theorem dX9_readsSingle_43 : decode cX9_readsSingle 43 = .ok (.aload_n 0, 1) := by decide +kernel
theorem dX9_readsSingle_44 : decode cX9_readsSingle 44 = .ok (.getfield 75, 3) := by decide +kernel
theorem dX9_readsSingle_47 : decode cX9_readsSingle 47 = .ok (.iadd, 1) := by decide +kernel
theorem dX9_readsSingle_48 : decode cX9_readsSingle 48 = .ok (.istore_n 3, 1) := by decide +kernel
theorem dX9_readsSingle_49 : decode cX9_readsSingle 49 = .ok (.aload_n 0, 1) := by decide +kernel
theorem dX9_readsSingle_50 : decode cX9_readsSingle 50 = .ok (.iconst 0, 1) := by decide +kernel
theorem dX9_readsSingle_51 : decode cX9_readsSingle 51 = .ok (.bipush 99, 2) := by decide +kernel
theorem dX9_readsSingle_53 : decode cX9_readsSingle 53 = .ok (.invokevirtual 95, 3) := by decide +kernel
theorem dX9_readsSingle_56 : decode cX9_readsSingle 56 = .ok (.istore 4, 2) := by decide +kernel
theorem dX9_readsSingle_58 : decode cX9_readsSingle 58 = .ok (.aload_n 0, 1) := by decide +kernel
theorem dX9_readsSingle_59 : decode cX9_readsSingle 59 = .ok (.getfield 43, 3) := by decide +kernel
theorem dX9_readsSingle_62 : decode cX9_readsSingle 62 = .ok (.iload_n 3, 1) := by decide +kernel
theorem dX9_readsSingle_63 : decode cX9_readsSingle 63 = .ok (.aload_n 0, 1) := by decide +kernel
theorem dX9_readsSingle_64 : decode cX9_readsSingle 64 = .ok (.getfield 75, 3) := by decide +kernel
theorem dX9_readsSingle_67 : decode cX9_readsSingle 67 = .ok (.iastore, 1) := by decide +kernel
theorem dX9_readsSingle_68 : decode cX9_readsSingle 68 = .ok (.iload 4, 2) := by decide +kernel
theorem dX9_readsSingle_70 : decode cX9_readsSingle 70 = .ok (.ireturn, 1) := by decide +kernel
theorem dX9_readsTable_0 : decode cX9_readsTable 0 = .ok (.aload_n 0, 1) := by decide +kernel
theorem dX9_readsTable_1 : decode cX9_readsTable 1 = .ok (.getfield 99, 3) := by decide +kernel
theorem dX9_readsTable_4 : decode cX9_readsTable 4 = .ok (.bipush 9, 2) := by decide +kernel
theorem dX9_readsTable_6 : decode cX9_readsTable 6 = .ok (.if_icmp .eq 18, 3) := by decide +kernel
theorem dX9_readsTable_9 : decode cX9_readsTable 9 = .ok (.aload_n 0, 1) := by decide +kernel
theorem dX9_readsTable_10 : decode cX9_readsTable 10 = .ok (.iload_n 1, 1) := by decide +kernel
theorem dX9_readsTable_11 : decode cX9_readsTable 11 = .ok (.iconst 0, 1) := by decide +kernel
theorem dX9_readsTable_12 : decode cX9_readsTable 12 = .ok (.aload_n 0, 1) := by decide +kernel
theorem dX9_readsTable_13 : decode cX9_readsTable 13 = .ok (.getfield 92, 3) := by decide +kernel
theorem dX9_readsTable_16 : decode cX9_readsTable 16 = .ok (.iconst 1, 1) := by decide +kernel
theorem dX9_readsTable_17 : decode cX9_readsTable 17 = .ok (.isub, 1) := by decide +kernel
theorem dX9_readsTable_18 : decode cX9_readsTable 18 = .ok (.invokevirtual 89, 3) := by decide +kernel
theorem dX9_readsTable_21 : decode cX9_readsTable 21 = .ok (.ifCond .ne 5, 3) := by decide +kernel
theorem dX9_readsTable_24 : decode cX9_readsTable 24 = .ok (.iconst 0, 1) := by decide +kernel
theorem dX9_readsTable_25 : decode cX9_readsTable 25 = .ok (.ireturn, 1) := by decide +kernel
theorem dX9_readsTable_26 : decode cX9_readsTable 26 = .ok (.aload_n 0, 1) := by decide +kernel
theorem dX9_readsTable_27 : decode cX9_readsTable 27 = .ok (.getfield 75, 3) := by decide +kernel
theorem dX9_readsTable_30 : decode cX9_readsTable 30 = .ok (.istore_n 2, 1) := by decide +kernel
theorem dX9_readsTable_31 : decode cX9_readsTable 31 = .ok (.aload_n 0, 1) := by decide +kernel
theorem dX9_readsTable_32 : decode cX9_readsTable 32 = .ok (.iload_n 2, 1) := by decide +kernel
theorem dX9_readsTable_33 : decode cX9_readsTable 33 = .ok (.iconst 1, 1) := by decide +kernel
theorem dX9_readsTable_34 : decode cX9_readsTable 34 = .ok (.iadd, 1) := by decide +kernel
theorem dX9_readsTable_35 : decode cX9_readsTable 35 = .ok (.aload_n 0, 1) := by decide +kernel
theorem dX9_readsTable_36 : decode cX9_readsTable 36 = .ok (.getfield 92, 3) := by decide +kernel
theorem dX9_readsTable_39 : decode cX9_readsTable 39 = .ok (.iconst 1, 1) := by decide +kernel
theorem dX9_readsTable_40 : decode cX9_readsTable 40 = .ok (.isub, 1) := by decide +kernel
theorem dX9_readsTable_41 : decode cX9_readsTable 41 = .ok (.invokevirtual 95, 3) := by decide +kernel
theorem dX9_readsTable_44 : decode cX9_readsTable 44 = .ok (.ifCond .ne 5, 3) := by decide +kernel
theorem dX9_readsTable_47 : decode cX9_readsTable 47 = .ok (.iconst 0, 1) := by decide +kernel
theorem dX9_readsTable_48 : decode cX9_readsTable 48 = .ok (.ireturn, 1) := by decide +kernel
theorem dX9_readsTable_49 : decode cX9_readsTable 49 = .ok (.aload_n 0, 1) := by decide +kernel
theorem dX9_readsTable_50 : decode cX9_readsTable 50 = .ok (.getfield 75, 3) := by decide +kernel
theorem dX9_readsTable_53 : decode cX9_readsTable 53 = .ok (.istore_n 3, 1) := by decide +kernel
theorem dX9_readsTable_54 : decode cX9_readsTable 54 = .ok (.iconst 0, 1) := by decide +kernel
theorem dX9_readsTable_55 : decode cX9_readsTable 55 = .ok (.istore 4, 2) := by decide +kernel
theorem dX9_readsTable_57 : decode cX9_readsTable 57 = .ok (.iload 4, 2) := by decide +kernel
theorem dX9_readsTable_59 : decode cX9_readsTable 59 = .ok (.aload_n 0, 1) := by decide +kernel
theorem dX9_readsTable_60 : decode cX9_readsTable 60 = .ok (.getfield 99, 3) := by decide +kernel
theorem dX9_readsTable_63 : decode cX9_readsTable 63 = .ok (.if_icmp .ge 33, 3) := by decide +kernel
theorem dX9_readsTable_66 : decode cX9_readsTable 66 = .ok (.aload_n 0, 1) := by decide +kernel
theorem dX9_readsTable_67 : decode cX9_readsTable 67 = .ok (.getfield 37, 3) := by decide +kernel
theorem dX9_readsTable_70 : decode cX9_readsTable 70 = .ok (.iload 4, 2) := by decide +kernel
theorem dX9_readsTable_72 : decode cX9_readsTable 72 = .ok (.iaload, 1) := by decide +kernel
theorem dX9_readsTable_73 : decode cX9_readsTable 73 = .ok (.iload_n 2, 1) := by decide +kernel
theorem dX9_readsTable_74 : decode cX9_readsTable 74 = .ok (.if_icmp .ne 16, 3) := by decide +kernel
theorem dX9_readsTable_77 : decode cX9_readsTable 77 = .ok (.aload_n 0, 1) := by decide +kernel
theorem dX9_readsTable_78 : decode cX9_readsTable 78 = .ok (.getfield 40, 3) := by decide +kernel
theorem dX9_readsTable_81 : decode cX9_readsTable 81 = .ok (.iload 4, 2) := by decide +kernel
theorem dX9_readsTable_83 : decode cX9_readsTable 83 = .ok (.iaload, 1) := by decide +kernel
theorem dX9_readsTable_84 : decode cX9_readsTable 84 = .ok (.iload_n 3, 1) := by decide +kernel
theorem dX9_readsTable_85 : decode cX9_readsTable 85 = .ok (.if_icmp .ne 5, 3) := by decide +kernel
theorem dX9_readsTable_88 : decode cX9_readsTable 88 = .ok (.iconst 0, 1) := by decide +kernel
theorem dX9_readsTable_89 : decode cX9_readsTable 89 = .ok (.ireturn, 1) := by decide +kernel
theorem dX9_readsTable_90 : decode cX9_readsTable 90 = .ok (.iinc 4 1, 3) := by decide +kernel
theorem dX9_readsTable_93 : decode cX9_readsTable 93 = .ok (.goto (-36), 3) := by decide +kernel
theorem dX9_readsTable_96 : decode cX9_readsTable 96 = .ok (.aload_n 0, 1) := by decide +kernel
theorem dX9_readsTable_97 : decode cX9_readsTable 97 = .ok (.iconst 0, 1) := by decide +kernel
theorem dX9_readsTable_98 : decode cX9_readsTable 98 = .ok (.bipush 99, 2) := by decide +kernel
theorem dX9_readsTable_100 : decode cX9_readsTable 100 = .ok (.invokevirtual 95, 3) := by decide +kernel
theorem dX9_readsTable_103 : decode cX9_readsTable 103 = .ok (.istore 4, 2) := by decide +kernel
theorem dX9_readsTable_105 : decode cX9_readsTable 105 = .ok (.iconst 0, 1) := by decide +kernel
theorem dX9_readsTable_106 : decode cX9_readsTable 106 = .ok (.istore 5, 2) := by decide +kernel
theorem dX9_readsTable_108 : decode cX9_readsTable 108 = .ok (.iload 5, 2) := by decide +kernel
theorem dX9_readsTable_110 : decode cX9_readsTable 110 = .ok (.bipush 16, 2) := by decide +kernel
theorem dX9_readsTable_112 : decode cX9_readsTable 112 = .ok (.if_icmp .ge 42, 3) := by decide +kernel
theorem dX9_readsTable_115 : decode cX9_readsTable 115 = .ok (.aload_n 0, 1) := by decide +kernel
theorem dX9_readsTable_116 : decode cX9_readsTable 116 = .ok (.getfield 43, 3) := by decide +kernel
theorem dX9_readsTable_119 : decode cX9_readsTable 119 = .ok (.bipush 24, 2) := by decide +kernel
theorem dX9_readsTable_121 : decode cX9_readsTable 121 = .ok (.bipush 16, 2) := by decide +kernel
theorem dX9_readsTable_123 : decode cX9_readsTable 123 = .ok (.aload_n 0, 1) := by decide +kernel
theorem dX9_readsTable_124 : decode cX9_readsTable 124 = .ok (.getfield 99, 3) := by decide +kernel
theorem dX9_readsTable_127 : decode cX9_readsTable 127 = .ok (.imul, 1) := by decide +kernel
theorem dX9_readsTable_128 : decode cX9_readsTable 128 = .ok (.iadd, 1) := by decide +kernel
theorem dX9_readsTable_129 : decode cX9_readsTable 129 = .ok (.iload 5, 2) := by decide +kernel
theorem dX9_readsTable_131 : decode cX9_readsTable 131 = .ok (.iadd, 1) := by decide +kernel
theorem dX9_readsTable_132 : decode cX9_readsTable 132 = .ok (.iload 5, 2) := by decide +kernel
theorem dX9_readsTable_134 : decode cX9_readsTable 134 = .ok (.iconst 5, 1) := by decide +kernel
theorem dX9_readsTable_135 : decode cX9_readsTable 135 = .ok (.irem, 1) := by decide +kernel
theorem dX9_readsTable_136 : decode cX9_readsTable 136 = .ok (.ifCond .ne 10, 3) := by decide +kernel
theorem dX9_readsTable_139 : decode cX9_readsTable 139 = .ok (.aload_n 0, 1) := by decide +kernel
theorem dX9_readsTable_140 : decode cX9_readsTable 140 = .ok (.getfield 75, 3) := by decide +kernel
theorem dX9_readsTable_143 : decode cX9_readsTable 143 = .ok (.goto 4, 3) := by decide +kernel
theorem dX9_readsTable_146 : decode cX9_readsTable 146 = .ok (.iconst 0, 1) := by decide +kernel
theorem dX9_readsTable_147 : decode cX9_readsTable 147 = .ok (.iastore, 1) := by decide +kernel
theorem dX9_readsTable_148 : decode cX9_readsTable 148 = .ok (.iinc 5 1, 3) := by decide +kernel
theorem dX9_readsTable_151 : decode cX9_readsTable 151 = .ok (.goto (-43), 3) := by decide +kernel
theorem dX9_readsTable_154 : decode cX9_readsTable 154 = .ok (.aload_n 0, 1) := by decide +kernel
theorem dX9_readsTable_155 : decode cX9_readsTable 155 = .ok (.getfield 37, 3) := by decide +kernel
theorem dX9_readsTable_158 : decode cX9_readsTable 158 = .ok (.aload_n 0, 1) := by decide +kernel
theorem dX9_readsTable_159 : decode cX9_readsTable 159 = .ok (.getfield 99, 3) := by decide +kernel
theorem dX9_readsTable_162 : decode cX9_readsTable 162 = .ok (.iload_n 2, 1) := by decide +kernel
theorem dX9_readsTable_163 : decode cX9_readsTable 163 = .ok (.iastore, 1) := by decide +kernel
theorem dX9_readsTable_164 : decode cX9_readsTable 164 = .ok (.aload_n 0, 1) := by decide +kernel
theorem dX9_readsTable_165 : decode cX9_readsTable 165 = .ok (.getfield 40, 3) := by decide +kernel
theorem dX9_readsTable_168 : decode cX9_readsTable 168 = .ok (.aload_n 0, 1) := by decide +kernel
theorem dX9_readsTable_169 : decode cX9_readsTable 169 = .ok (.getfield 99, 3) := by decide +kernel
theorem dX9_readsTable_172 : decode cX9_readsTable 172 = .ok (.iload_n 3, 1) := by decide +kernel
theorem dX9_readsTable_173 : decode cX9_readsTable 173 = .ok (.iastore, 1) := by decide +kernel
theorem dX9_readsTable_174 : decode cX9_readsTable 174 = .ok (.aload_n 0, 1) := by decide +kernel
theorem dX9_readsTable_175 : decode cX9_readsTable 175 = .ok (.dup, 1) := by decide +kernel
theorem dX9_readsTable_176 : decode cX9_readsTable 176 = .ok (.getfield 99, 3) := by decide +kernel
theorem dX9_readsTable_179 : decode cX9_readsTable 179 = .ok (.iconst 1, 1) := by decide +kernel
theorem dX9_readsTable_180 : decode cX9_readsTable 180 = .ok (.iadd, 1) := by decide +kernel
theorem dX9_readsTable_181 : decode cX9_readsTable 181 = .ok (.putfield 99, 3) := by decide +kernel
theorem dX9_readsTable_184 : decode cX9_readsTable 184 = .ok (.iload 4, 2) := by decide +kernel
theorem dX9_readsTable_186 : decode cX9_readsTable 186 = .ok (.ireturn, 1) := by decide +kernel
theorem dX9_readsPair_0 : decode cX9_readsPair 0 = .ok (.aload_n 0, 1) := by decide +kernel
theorem dX9_readsPair_1 : decode cX9_readsPair 1 = .ok (.iload_n 1, 1) := by decide +kernel
theorem dX9_readsPair_2 : decode cX9_readsPair 2 = .ok (.iconst 0, 1) := by decide +kernel
theorem dX9_readsPair_3 : decode cX9_readsPair 3 = .ok (.aload_n 0, 1) := by decide +kernel
theorem dX9_readsPair_4 : decode cX9_readsPair 4 = .ok (.getfield 99, 3) := by decide +kernel
theorem dX9_readsPair_7 : decode cX9_readsPair 7 = .ok (.iconst 1, 1) := by decide +kernel
theorem dX9_readsPair_8 : decode cX9_readsPair 8 = .ok (.isub, 1) := by decide +kernel
theorem dX9_readsPair_9 : decode cX9_readsPair 9 = .ok (.invokevirtual 89, 3) := by decide +kernel
theorem dX9_readsPair_12 : decode cX9_readsPair 12 = .ok (.ifCond .ne 5, 3) := by decide +kernel
theorem dX9_readsPair_15 : decode cX9_readsPair 15 = .ok (.iconst 0, 1) := by decide +kernel
theorem dX9_readsPair_16 : decode cX9_readsPair 16 = .ok (.ireturn, 1) := by decide +kernel
theorem dX9_readsPair_17 : decode cX9_readsPair 17 = .ok (.aload_n 0, 1) := by decide +kernel
theorem dX9_readsPair_18 : decode cX9_readsPair 18 = .ok (.getfield 75, 3) := by decide +kernel
theorem dX9_readsPair_21 : decode cX9_readsPair 21 = .ok (.istore_n 2, 1) := by decide +kernel
theorem dX9_readsPair_22 : decode cX9_readsPair 22 = .ok (.aload_n 0, 1) := by decide +kernel
theorem dX9_readsPair_23 : decode cX9_readsPair 23 = .ok (.iconst 0, 1) := by decide +kernel
theorem dX9_readsPair_24 : decode cX9_readsPair 24 = .ok (.aload_n 0, 1) := by decide +kernel
theorem dX9_readsPair_25 : decode cX9_readsPair 25 = .ok (.getfield 34, 3) := by decide +kernel
theorem dX9_readsPair_28 : decode cX9_readsPair 28 = .ok (.aload_n 0, 1) := by decide +kernel
theorem dX9_readsPair_29 : decode cX9_readsPair 29 = .ok (.getfield 37, 3) := by decide +kernel
theorem dX9_readsPair_32 : decode cX9_readsPair 32 = .ok (.iload_n 2, 1) := by decide +kernel
theorem dX9_readsPair_33 : decode cX9_readsPair 33 = .ok (.iaload, 1) := by decide +kernel
theorem dX9_readsPair_34 : decode cX9_readsPair 34 = .ok (.iaload, 1) := by decide +kernel
theorem dX9_readsPair_35 : decode cX9_readsPair 35 = .ok (.iconst 1, 1) := by decide +kernel
theorem dX9_readsPair_36 : decode cX9_readsPair 36 = .ok (.isub, 1) := by decide +kernel
theorem dX9_readsPair_37 : decode cX9_readsPair 37 = .ok (.invokevirtual 95, 3) := by decide +kernel
theorem dX9_readsPair_40 : decode cX9_readsPair 40 = .ok (.ifCond .ne 5, 3) := by decide +kernel
theorem dX9_readsPair_43 : decode cX9_readsPair 43 = .ok (.iconst 0, 1) := by decide +kernel
theorem dX9_readsPair_44 : decode cX9_readsPair 44 = .ok (.ireturn, 1) := by decide +kernel
theorem dX9_readsPair_45 : decode cX9_readsPair 45 = .ok (.aload_n 0, 1) := by decide +kernel
theorem dX9_readsPair_46 : decode cX9_readsPair 46 = .ok (.getfield 75, 3) := by decide +kernel
theorem dX9_readsPair_49 : decode cX9_readsPair 49 = .ok (.istore_n 3, 1) := by decide +kernel
theorem dX9_readsPair_50 : decode cX9_readsPair 50 = .ok (.aload_n 0, 1) := by decide +kernel
theorem dX9_readsPair_51 : decode cX9_readsPair 51 = .ok (.iconst 0, 1) := by decide +kernel
theorem dX9_readsPair_52 : decode cX9_readsPair 52 = .ok (.aload_n 0, 1) := by decide +kernel
theorem dX9_readsPair_53 : decode cX9_readsPair 53 = .ok (.getfield 34, 3) := by decide +kernel
theorem dX9_readsPair_56 : decode cX9_readsPair 56 = .ok (.aload_n 0, 1) := by decide +kernel
theorem dX9_readsPair_57 : decode cX9_readsPair 57 = .ok (.getfield 40, 3) := by decide +kernel
theorem dX9_readsPair_60 : decode cX9_readsPair 60 = .ok (.iload_n 2, 1) := by decide +kernel
theorem dX9_readsPair_61 : decode cX9_readsPair 61 = .ok (.iaload, 1) := by decide +kernel
theorem dX9_readsPair_62 : decode cX9_readsPair 62 = .ok (.iaload, 1) := by decide +kernel
theorem dX9_readsPair_63 : decode cX9_readsPair 63 = .ok (.iconst 1, 1) := by decide +kernel
theorem dX9_readsPair_64 : decode cX9_readsPair 64 = .ok (.isub, 1) := by decide +kernel
theorem dX9_readsPair_65 : decode cX9_readsPair 65 = .ok (.invokevirtual 95, 3) := by decide +kernel
theorem dX9_readsPair_68 : decode cX9_readsPair 68 = .ok (.ifCond .ne 5, 3) := by decide +kernel
theorem dX9_readsPair_71 : decode cX9_readsPair 71 = .ok (.iconst 0, 1) := by decide +kernel
theorem dX9_readsPair_72 : decode cX9_readsPair 72 = .ok (.ireturn, 1) := by decide +kernel
theorem dX9_readsPair_73 : decode cX9_readsPair 73 = .ok (.bipush 24, 2) := by decide +kernel
theorem dX9_readsPair_75 : decode cX9_readsPair 75 = .ok (.bipush 16, 2) := by decide +kernel
theorem dX9_readsPair_77 : decode cX9_readsPair 77 = .ok (.iload_n 2, 1) := by decide +kernel
theorem dX9_readsPair_78 : decode cX9_readsPair 78 = .ok (.imul, 1) := by decide +kernel
theorem dX9_readsPair_79 : decode cX9_readsPair 79 = .ok (.iadd, 1) := by decide +kernel
theorem dX9_readsPair_80 : decode cX9_readsPair 80 = .ok (.iconst 4, 1) := by decide +kernel
theorem dX9_readsPair_81 : decode cX9_readsPair 81 = .ok (.iload_n 3, 1) := by decide +kernel
theorem dX9_readsPair_82 : decode cX9_readsPair 82 = .ok (.imul, 1) := by decide +kernel
theorem dX9_readsPair_83 : decode cX9_readsPair 83 = .ok (.iadd, 1) := by decide +kernel
theorem dX9_readsPair_84 : decode cX9_readsPair 84 = .ok (.aload_n 0, 1) := by decide +kernel
theorem dX9_readsPair_85 : decode cX9_readsPair 85 = .ok (.getfield 75, 3) := by decide +kernel
theorem dX9_readsPair_88 : decode cX9_readsPair 88 = .ok (.iadd, 1) := by decide +kernel
theorem dX9_readsPair_89 : decode cX9_readsPair 89 = .ok (.istore 4, 2) := by decide +kernel
theorem dX9_readsPair_91 : decode cX9_readsPair 91 = .ok (.aload_n 0, 1) := by decide +kernel
theorem dX9_readsPair_92 : decode cX9_readsPair 92 = .ok (.iconst 0, 1) := by decide +kernel
theorem dX9_readsPair_93 : decode cX9_readsPair 93 = .ok (.bipush 99, 2) := by decide +kernel
theorem dX9_readsPair_95 : decode cX9_readsPair 95 = .ok (.invokevirtual 95, 3) := by decide +kernel
theorem dX9_readsPair_98 : decode cX9_readsPair 98 = .ok (.istore 5, 2) := by decide +kernel
theorem dX9_readsPair_100 : decode cX9_readsPair 100 = .ok (.aload_n 0, 1) := by decide +kernel
theorem dX9_readsPair_101 : decode cX9_readsPair 101 = .ok (.getfield 43, 3) := by decide +kernel
theorem dX9_readsPair_104 : decode cX9_readsPair 104 = .ok (.iload 4, 2) := by decide +kernel
theorem dX9_readsPair_106 : decode cX9_readsPair 106 = .ok (.aload_n 0, 1) := by decide +kernel
theorem dX9_readsPair_107 : decode cX9_readsPair 107 = .ok (.getfield 75, 3) := by decide +kernel
theorem dX9_readsPair_110 : decode cX9_readsPair 110 = .ok (.iastore, 1) := by decide +kernel
theorem dX9_readsPair_111 : decode cX9_readsPair 111 = .ok (.iload 5, 2) := by decide +kernel
theorem dX9_readsPair_113 : decode cX9_readsPair 113 = .ok (.ireturn, 1) := by decide +kernel
theorem dX9_readsItem_0 : decode cX9_readsItem 0 = .ok (.iload_n 1, 1) := by decide +kernel
theorem dX9_readsItem_1 : decode cX9_readsItem 1 = .ok (.lookupswitch 94 #[(98, 82), (99, 88), (116, 51), (117, 76), (118, 70)], 51) := by decide +kernel
theorem dX9_readsItem_52 : decode cX9_readsItem 52 = .ok (.aload_n 0, 1) := by decide +kernel
theorem dX9_readsItem_53 : decode cX9_readsItem 53 = .ok (.iload_n 2, 1) := by decide +kernel
theorem dX9_readsItem_54 : decode cX9_readsItem 54 = .ok (.iconst 1, 1) := by decide +kernel
theorem dX9_readsItem_55 : decode cX9_readsItem 55 = .ok (.bipush 99, 2) := by decide +kernel
theorem dX9_readsItem_57 : decode cX9_readsItem 57 = .ok (.invokevirtual 89, 3) := by decide +kernel
theorem dX9_readsItem_60 : decode cX9_readsItem 60 = .ok (.istore_n 3, 1) := by decide +kernel
theorem dX9_readsItem_61 : decode cX9_readsItem 61 = .ok (.aload_n 0, 1) := by decide +kernel
theorem dX9_readsItem_62 : decode cX9_readsItem 62 = .ok (.aload_n 0, 1) := by decide +kernel
theorem dX9_readsItem_63 : decode cX9_readsItem 63 = .ok (.getfield 75, 3) := by decide +kernel
theorem dX9_readsItem_66 : decode cX9_readsItem 66 = .ok (.putfield 102, 3) := by decide +kernel
theorem dX9_readsItem_69 : decode cX9_readsItem 69 = .ok (.iload_n 3, 1) := by decide +kernel
theorem dX9_readsItem_70 : decode cX9_readsItem 70 = .ok (.ireturn, 1) := by decide +kernel
theorem dX9_readsItem_71 : decode cX9_readsItem 71 = .ok (.aload_n 0, 1) := by decide +kernel
theorem dX9_readsItem_72 : decode cX9_readsItem 72 = .ok (.iload_n 2, 1) := by decide +kernel
theorem dX9_readsItem_73 : decode cX9_readsItem 73 = .ok (.invokevirtual 105, 3) := by decide +kernel
theorem dX9_readsItem_76 : decode cX9_readsItem 76 = .ok (.ireturn, 1) := by decide +kernel
theorem dX9_readsItem_77 : decode cX9_readsItem 77 = .ok (.aload_n 0, 1) := by decide +kernel
theorem dX9_readsItem_78 : decode cX9_readsItem 78 = .ok (.iload_n 2, 1) := by decide +kernel
theorem dX9_readsItem_79 : decode cX9_readsItem 79 = .ok (.invokevirtual 109, 3) := by decide +kernel
theorem dX9_readsItem_82 : decode cX9_readsItem 82 = .ok (.ireturn, 1) := by decide +kernel
theorem dX9_readsItem_83 : decode cX9_readsItem 83 = .ok (.aload_n 0, 1) := by decide +kernel
theorem dX9_readsItem_84 : decode cX9_readsItem 84 = .ok (.iload_n 2, 1) := by decide +kernel
theorem dX9_readsItem_85 : decode cX9_readsItem 85 = .ok (.invokevirtual 112, 3) := by decide +kernel
theorem dX9_readsItem_88 : decode cX9_readsItem 88 = .ok (.ireturn, 1) := by decide +kernel
theorem dX9_readsItem_89 : decode cX9_readsItem 89 = .ok (.aload_n 0, 1) := by decide +kernel
theorem dX9_readsItem_90 : decode cX9_readsItem 90 = .ok (.iload_n 2, 1) := by decide +kernel
theorem dX9_readsItem_91 : decode cX9_readsItem 91 = .ok (.invokevirtual 115, 3) := by decide +kernel
theorem dX9_readsItem_94 : decode cX9_readsItem 94 = .ok (.ireturn, 1) := by decide +kernel
theorem dX9_readsItem_95 : decode cX9_readsItem 95 = .ok (.iconst 0, 1) := by decide +kernel
theorem dX9_readsItem_96 : decode cX9_readsItem 96 = .ok (.ireturn, 1) := by decide +kernel
theorem dX9_reads_0 : decode cX9_reads 0 = .ok (.aload_n 0, 1) := by decide +kernel
theorem dX9_reads_1 : decode cX9_reads 1 = .ok (.iconst 0, 1) := by decide +kernel
theorem dX9_reads_2 : decode cX9_reads 2 = .ok (.putfield 92, 3) := by decide +kernel
theorem dX9_reads_5 : decode cX9_reads 5 = .ok (.aload_n 0, 1) := by decide +kernel
theorem dX9_reads_6 : decode cX9_reads 6 = .ok (.iconst 0, 1) := by decide +kernel
theorem dX9_reads_7 : decode cX9_reads 7 = .ok (.putfield 99, 3) := by decide +kernel
theorem dX9_reads_10 : decode cX9_reads 10 = .ok (.aload_n 0, 1) := by decide +kernel
theorem dX9_reads_11 : decode cX9_reads 11 = .ok (.bipush 20, 2) := by decide +kernel
theorem dX9_reads_13 : decode cX9_reads 13 = .ok (.putfield 102, 3) := by decide +kernel
theorem dX9_reads_16 : decode cX9_reads 16 = .ok (.iconst 0, 1) := by decide +kernel
theorem dX9_reads_17 : decode cX9_reads 17 = .ok (.istore_n 1, 1) := by decide +kernel
theorem dX9_reads_18 : decode cX9_reads 18 = .ok (.iload_n 1, 1) := by decide +kernel
theorem dX9_reads_19 : decode cX9_reads 19 = .ok (.sipush 169, 3) := by decide +kernel
theorem dX9_reads_22 : decode cX9_reads 22 = .ok (.if_icmp .ge 16, 3) := by decide +kernel
theorem dX9_reads_25 : decode cX9_reads 25 = .ok (.aload_n 0, 1) := by decide +kernel
theorem dX9_reads_26 : decode cX9_reads 26 = .ok (.getfield 43, 3) := by decide +kernel
theorem dX9_reads_29 : decode cX9_reads 29 = .ok (.iload_n 1, 1) := by decide +kernel
theorem dX9_reads_30 : decode cX9_reads 30 = .ok (.iconst 0, 1) := by decide +kernel
theorem dX9_reads_31 : decode cX9_reads 31 = .ok (.iastore, 1) := by decide +kernel
theorem dX9_reads_32 : decode cX9_reads 32 = .ok (.iinc 1 1, 3) := by decide +kernel
theorem dX9_reads_35 : decode cX9_reads 35 = .ok (.goto (-17), 3) := by decide +kernel
theorem dX9_reads_38 : decode cX9_reads 38 = .ok (.iconst 0, 1) := by decide +kernel
theorem dX9_reads_39 : decode cX9_reads 39 = .ok (.istore_n 1, 1) := by decide +kernel
theorem dX9_reads_40 : decode cX9_reads 40 = .ok (.iload_n 1, 1) := by decide +kernel
theorem dX9_reads_41 : decode cX9_reads 41 = .ok (.aload_n 0, 1) := by decide +kernel
theorem dX9_reads_42 : decode cX9_reads 42 = .ok (.getfield 72, 3) := by decide +kernel
theorem dX9_reads_45 : decode cX9_reads 45 = .ok (.if_icmp .ge 44, 3) := by decide +kernel
theorem dX9_reads_48 : decode cX9_reads 48 = .ok (.aload_n 0, 1) := by decide +kernel
theorem dX9_reads_49 : decode cX9_reads 49 = .ok (.aload_n 0, 1) := by decide +kernel
theorem dX9_reads_50 : decode cX9_reads 50 = .ok (.getfield 7, 3) := by decide +kernel
theorem dX9_reads_53 : decode cX9_reads 53 = .ok (.iload_n 1, 1) := by decide +kernel
theorem dX9_reads_54 : decode cX9_reads 54 = .ok (.iaload, 1) := by decide +kernel
theorem dX9_reads_55 : decode cX9_reads 55 = .ok (.iload_n 1, 1) := by decide +kernel
theorem dX9_reads_56 : decode cX9_reads 56 = .ok (.iconst 1, 1) := by decide +kernel
theorem dX9_reads_57 : decode cX9_reads 57 = .ok (.iadd, 1) := by decide +kernel
theorem dX9_reads_58 : decode cX9_reads 58 = .ok (.invokevirtual 118, 3) := by decide +kernel
theorem dX9_reads_61 : decode cX9_reads 61 = .ok (.ifCond .eq 16, 3) := by decide +kernel
theorem dX9_reads_64 : decode cX9_reads 64 = .ok (.aload_n 0, 1) := by decide +kernel
theorem dX9_reads_65 : decode cX9_reads 65 = .ok (.aload_n 0, 1) := by decide +kernel
theorem dX9_reads_66 : decode cX9_reads 66 = .ok (.getfield 82, 3) := by decide +kernel
theorem dX9_reads_69 : decode cX9_reads 69 = .ok (.invokevirtual 78, 3) := by decide +kernel
theorem dX9_reads_72 : decode cX9_reads 72 = .ok (.bipush 59, 2) := by decide +kernel
theorem dX9_reads_74 : decode cX9_reads 74 = .ok (.if_icmp .eq 5, 3) := by decide +kernel
theorem dX9_reads_77 : decode cX9_reads 77 = .ok (.iload_n 1, 1) := by decide +kernel
theorem dX9_reads_78 : decode cX9_reads 78 = .ok (.ireturn, 1) := by decide +kernel
theorem dX9_reads_79 : decode cX9_reads 79 = .ok (.aload_n 0, 1) := by decide +kernel
theorem dX9_reads_80 : decode cX9_reads 80 = .ok (.getfield 82, 3) := by decide +kernel
theorem dX9_reads_83 : decode cX9_reads 83 = .ok (.iconst 1, 1) := by decide +kernel
theorem dX9_reads_84 : decode cX9_reads 84 = .ok (.iadd, 1) := by decide +kernel
theorem dX9_reads_85 : decode cX9_reads 85 = .ok (.istore_n 1, 1) := by decide +kernel
theorem dX9_reads_86 : decode cX9_reads 86 = .ok (.goto (-46), 3) := by decide +kernel
theorem dX9_reads_89 : decode cX9_reads 89 = .ok (.bipush (-4), 2) := by decide +kernel
theorem dX9_reads_91 : decode cX9_reads 91 = .ok (.ireturn, 1) := by decide +kernel
theorem dX9_write_0 : decode cX9_write 0 = .ok (.iload_n 1, 1) := by decide +kernel
theorem dX9_write_1 : decode cX9_write 1 = .ok (.bipush 32, 2) := by decide +kernel
theorem dX9_write_3 : decode cX9_write 3 = .ok (.if_icmp .lt 9, 3) := by decide +kernel
theorem dX9_write_6 : decode cX9_write 6 = .ok (.iload_n 1, 1) := by decide +kernel
theorem dX9_write_7 : decode cX9_write 7 = .ok (.bipush 126, 2) := by decide +kernel
theorem dX9_write_9 : decode cX9_write 9 = .ok (.if_icmp .le 5, 3) := by decide +kernel
theorem dX9_write_12 : decode cX9_write 12 = .ok (.iconst (-1), 1) := by decide +kernel
theorem dX9_write_13 : decode cX9_write 13 = .ok (.ireturn, 1) := by decide +kernel
theorem dX9_write_14 : decode cX9_write 14 = .ok (.aload_n 0, 1) := by decide +kernel
theorem dX9_write_15 : decode cX9_write 15 = .ok (.getfield 72, 3) := by decide +kernel
theorem dX9_write_18 : decode cX9_write 18 = .ok (.sipush 200, 3) := by decide +kernel
theorem dX9_write_21 : decode cX9_write 21 = .ok (.if_icmp .ne 6, 3) := by decide +kernel
theorem dX9_write_24 : decode cX9_write 24 = .ok (.bipush (-3), 2) := by decide +kernel
theorem dX9_write_26 : decode cX9_write 26 = .ok (.ireturn, 1) := by decide +kernel
theorem dX9_write_27 : decode cX9_write 27 = .ok (.aload_n 0, 1) := by decide +kernel
theorem dX9_write_28 : decode cX9_write 28 = .ok (.getfield 7, 3) := by decide +kernel
theorem dX9_write_31 : decode cX9_write 31 = .ok (.aload_n 0, 1) := by decide +kernel
theorem dX9_write_32 : decode cX9_write 32 = .ok (.getfield 72, 3) := by decide +kernel
theorem dX9_write_35 : decode cX9_write 35 = .ok (.iload_n 1, 1) := by decide +kernel
theorem dX9_write_36 : decode cX9_write 36 = .ok (.iastore, 1) := by decide +kernel
theorem dX9_write_37 : decode cX9_write 37 = .ok (.aload_n 0, 1) := by decide +kernel
theorem dX9_write_38 : decode cX9_write 38 = .ok (.dup, 1) := by decide +kernel
theorem dX9_write_39 : decode cX9_write 39 = .ok (.getfield 72, 3) := by decide +kernel
theorem dX9_write_42 : decode cX9_write 42 = .ok (.iconst 1, 1) := by decide +kernel
theorem dX9_write_43 : decode cX9_write 43 = .ok (.iadd, 1) := by decide +kernel
theorem dX9_write_44 : decode cX9_write 44 = .ok (.putfield 72, 3) := by decide +kernel
theorem dX9_write_47 : decode cX9_write 47 = .ok (.aload_n 0, 1) := by decide +kernel
theorem dX9_write_48 : decode cX9_write 48 = .ok (.getfield 72, 3) := by decide +kernel
theorem dX9_write_51 : decode cX9_write 51 = .ok (.ireturn, 1) := by decide +kernel
theorem dX9_wipe_0 : decode cX9_wipe 0 = .ok (.aload_n 0, 1) := by decide +kernel
theorem dX9_wipe_1 : decode cX9_wipe 1 = .ok (.getfield 72, 3) := by decide +kernel
theorem dX9_wipe_4 : decode cX9_wipe 4 = .ok (.istore_n 1, 1) := by decide +kernel
theorem dX9_wipe_5 : decode cX9_wipe 5 = .ok (.aload_n 0, 1) := by decide +kernel
theorem dX9_wipe_6 : decode cX9_wipe 6 = .ok (.iconst 0, 1) := by decide +kernel
theorem dX9_wipe_7 : decode cX9_wipe 7 = .ok (.putfield 72, 3) := by decide +kernel
theorem dX9_wipe_10 : decode cX9_wipe 10 = .ok (.iload_n 1, 1) := by decide +kernel
theorem dX9_wipe_11 : decode cX9_wipe 11 = .ok (.ireturn, 1) := by decide +kernel
theorem dX9_fault_0 : decode cX9_fault 0 = .ok (.aload_n 0, 1) := by decide +kernel
theorem dX9_fault_1 : decode cX9_fault 1 = .ok (.invokevirtual 121, 3) := by decide +kernel
theorem dX9_fault_4 : decode cX9_fault 4 = .ok (.ireturn, 1) := by decide +kernel
theorem dX9_lay_0 : decode cX9_lay 0 = .ok (.aload_n 0, 1) := by decide +kernel
theorem dX9_lay_1 : decode cX9_lay 1 = .ok (.invokevirtual 121, 3) := by decide +kernel
theorem dX9_lay_4 : decode cX9_lay 4 = .ok (.bipush (-4), 2) := by decide +kernel
theorem dX9_lay_6 : decode cX9_lay 6 = .ok (.if_icmp .ne 10, 3) := by decide +kernel
theorem dX9_lay_9 : decode cX9_lay 9 = .ok (.aload_n 0, 1) := by decide +kernel
theorem dX9_lay_10 : decode cX9_lay 10 = .ok (.getfield 92, 3) := by decide +kernel
theorem dX9_lay_13 : decode cX9_lay 13 = .ok (.ifCond .ne 6, 3) := by decide +kernel
theorem dX9_lay_16 : decode cX9_lay 16 = .ok (.bipush (-2), 2) := by decide +kernel
theorem dX9_lay_18 : decode cX9_lay 18 = .ok (.ireturn, 1) := by decide +kernel
theorem dX9_lay_19 : decode cX9_lay 19 = .ok (.aload_n 0, 1) := by decide +kernel
theorem dX9_lay_20 : decode cX9_lay 20 = .ok (.aload_n 0, 1) := by decide +kernel
theorem dX9_lay_21 : decode cX9_lay 21 = .ok (.getfield 92, 3) := by decide +kernel
theorem dX9_lay_24 : decode cX9_lay 24 = .ok (.putfield 58, 3) := by decide +kernel
theorem dX9_lay_27 : decode cX9_lay 27 = .ok (.aload_n 0, 1) := by decide +kernel
theorem dX9_lay_28 : decode cX9_lay 28 = .ok (.aload_n 0, 1) := by decide +kernel
theorem dX9_lay_29 : decode cX9_lay 29 = .ok (.getfield 99, 3) := by decide +kernel
theorem dX9_lay_32 : decode cX9_lay 32 = .ok (.putfield 65, 3) := by decide +kernel
theorem dX9_lay_35 : decode cX9_lay 35 = .ok (.aload_n 0, 1) := by decide +kernel
theorem dX9_lay_36 : decode cX9_lay 36 = .ok (.aload_n 0, 1) := by decide +kernel
theorem dX9_lay_37 : decode cX9_lay 37 = .ok (.getfield 102, 3) := by decide +kernel
theorem dX9_lay_40 : decode cX9_lay 40 = .ok (.putfield 62, 3) := by decide +kernel
theorem dX9_lay_43 : decode cX9_lay 43 = .ok (.iconst 0, 1) := by decide +kernel
theorem dX9_lay_44 : decode cX9_lay 44 = .ok (.istore_n 1, 1) := by decide +kernel
theorem dX9_lay_45 : decode cX9_lay 45 = .ok (.iload_n 1, 1) := by decide +kernel
theorem dX9_lay_46 : decode cX9_lay 46 = .ok (.bipush 6, 2) := by decide +kernel
theorem dX9_lay_48 : decode cX9_lay 48 = .ok (.if_icmp .ge 28, 3) := by decide +kernel
theorem dX9_lay_51 : decode cX9_lay 51 = .ok (.aload_n 0, 1) := by decide +kernel
theorem dX9_lay_52 : decode cX9_lay 52 = .ok (.getfield 13, 3) := by decide +kernel
theorem dX9_lay_55 : decode cX9_lay 55 = .ok (.iload_n 1, 1) := by decide +kernel
theorem dX9_lay_56 : decode cX9_lay 56 = .ok (.aload_n 0, 1) := by decide +kernel
theorem dX9_lay_57 : decode cX9_lay 57 = .ok (.getfield 34, 3) := by decide +kernel
theorem dX9_lay_60 : decode cX9_lay 60 = .ok (.iload_n 1, 1) := by decide +kernel
theorem dX9_lay_61 : decode cX9_lay 61 = .ok (.iaload, 1) := by decide +kernel
theorem dX9_lay_62 : decode cX9_lay 62 = .ok (.iastore, 1) := by decide +kernel
theorem dX9_lay_63 : decode cX9_lay 63 = .ok (.aload_n 0, 1) := by decide +kernel
theorem dX9_lay_64 : decode cX9_lay 64 = .ok (.getfield 22, 3) := by decide +kernel
theorem dX9_lay_67 : decode cX9_lay 67 = .ok (.iload_n 1, 1) := by decide +kernel
theorem dX9_lay_68 : decode cX9_lay 68 = .ok (.iconst 0, 1) := by decide +kernel
theorem dX9_lay_69 : decode cX9_lay 69 = .ok (.iastore, 1) := by decide +kernel
theorem dX9_lay_70 : decode cX9_lay 70 = .ok (.iinc 1 1, 3) := by decide +kernel
theorem dX9_lay_73 : decode cX9_lay 73 = .ok (.goto (-28), 3) := by decide +kernel
theorem dX9_lay_76 : decode cX9_lay 76 = .ok (.iconst 0, 1) := by decide +kernel
theorem dX9_lay_77 : decode cX9_lay 77 = .ok (.istore_n 1, 1) := by decide +kernel
theorem dX9_lay_78 : decode cX9_lay 78 = .ok (.iload_n 1, 1) := by decide +kernel
theorem dX9_lay_79 : decode cX9_lay 79 = .ok (.bipush 9, 2) := by decide +kernel
theorem dX9_lay_81 : decode cX9_lay 81 = .ok (.if_icmp .ge 33, 3) := by decide +kernel
theorem dX9_lay_84 : decode cX9_lay 84 = .ok (.aload_n 0, 1) := by decide +kernel
theorem dX9_lay_85 : decode cX9_lay 85 = .ok (.getfield 16, 3) := by decide +kernel
theorem dX9_lay_88 : decode cX9_lay 88 = .ok (.iload_n 1, 1) := by decide +kernel
theorem dX9_lay_89 : decode cX9_lay 89 = .ok (.aload_n 0, 1) := by decide +kernel
theorem dX9_lay_90 : decode cX9_lay 90 = .ok (.getfield 37, 3) := by decide +kernel
theorem dX9_lay_93 : decode cX9_lay 93 = .ok (.iload_n 1, 1) := by decide +kernel
theorem dX9_lay_94 : decode cX9_lay 94 = .ok (.iaload, 1) := by decide +kernel
theorem dX9_lay_95 : decode cX9_lay 95 = .ok (.iastore, 1) := by decide +kernel
theorem dX9_lay_96 : decode cX9_lay 96 = .ok (.aload_n 0, 1) := by decide +kernel
theorem dX9_lay_97 : decode cX9_lay 97 = .ok (.getfield 19, 3) := by decide +kernel
theorem dX9_lay_100 : decode cX9_lay 100 = .ok (.iload_n 1, 1) := by decide +kernel
theorem dX9_lay_101 : decode cX9_lay 101 = .ok (.aload_n 0, 1) := by decide +kernel
theorem dX9_lay_102 : decode cX9_lay 102 = .ok (.getfield 40, 3) := by decide +kernel
theorem dX9_lay_105 : decode cX9_lay 105 = .ok (.iload_n 1, 1) := by decide +kernel
theorem dX9_lay_106 : decode cX9_lay 106 = .ok (.iaload, 1) := by decide +kernel
theorem dX9_lay_107 : decode cX9_lay 107 = .ok (.iastore, 1) := by decide +kernel
theorem dX9_lay_108 : decode cX9_lay 108 = .ok (.iinc 1 1, 3) := by decide +kernel
theorem dX9_lay_111 : decode cX9_lay 111 = .ok (.goto (-33), 3) := by decide +kernel
theorem dX9_lay_114 : decode cX9_lay 114 = .ok (.iconst 0, 1) := by decide +kernel
theorem dX9_lay_115 : decode cX9_lay 115 = .ok (.istore_n 1, 1) := by decide +kernel
theorem dX9_lay_116 : decode cX9_lay 116 = .ok (.iload_n 1, 1) := by decide +kernel
theorem dX9_lay_117 : decode cX9_lay 117 = .ok (.sipush 169, 3) := by decide +kernel
theorem dX9_lay_120 : decode cX9_lay 120 = .ok (.if_icmp .ge 26, 3) := by decide +kernel
theorem dX9_lay_123 : decode cX9_lay 123 = .ok (.aload_n 0, 1) := by decide +kernel
theorem dX9_lay_124 : decode cX9_lay 124 = .ok (.getfield 25, 3) := by decide +kernel
theorem dX9_lay_127 : decode cX9_lay 127 = .ok (.iload_n 1, 1) := by decide +kernel
theorem dX9_lay_128 : decode cX9_lay 128 = .ok (.aload_n 0, 1) := by decide +kernel
theorem dX9_lay_129 : decode cX9_lay 129 = .ok (.aload_n 0, 1) := by decide +kernel
theorem dX9_lay_130 : decode cX9_lay 130 = .ok (.getfield 43, 3) := by decide +kernel
theorem dX9_lay_133 : decode cX9_lay 133 = .ok (.iload_n 1, 1) := by decide +kernel
theorem dX9_lay_134 : decode cX9_lay 134 = .ok (.iaload, 1) := by decide +kernel
theorem dX9_lay_135 : decode cX9_lay 135 = .ok (.iconst 0, 1) := by decide +kernel
theorem dX9_lay_136 : decode cX9_lay 136 = .ok (.invokevirtual 125, 3) := by decide +kernel
theorem dX9_lay_139 : decode cX9_lay 139 = .ok (.iastore, 1) := by decide +kernel
theorem dX9_lay_140 : decode cX9_lay 140 = .ok (.iinc 1 1, 3) := by decide +kernel
theorem dX9_lay_143 : decode cX9_lay 143 = .ok (.goto (-27), 3) := by decide +kernel
theorem dX9_lay_146 : decode cX9_lay 146 = .ok (.aload_n 0, 1) := by decide +kernel
theorem dX9_lay_147 : decode cX9_lay 147 = .ok (.iconst 0, 1) := by decide +kernel
theorem dX9_lay_148 : decode cX9_lay 148 = .ok (.putfield 129, 3) := by decide +kernel
theorem dX9_lay_151 : decode cX9_lay 151 = .ok (.aload_n 0, 1) := by decide +kernel
theorem dX9_lay_152 : decode cX9_lay 152 = .ok (.getfield 58, 3) := by decide +kernel
theorem dX9_lay_155 : decode cX9_lay 155 = .ok (.ireturn, 1) := by decide +kernel
theorem dX9_sum_0 : decode cX9_sum 0 = .ok (.iload_n 1, 1) := by decide +kernel
theorem dX9_sum_1 : decode cX9_sum 1 = .ok (.iload_n 2, 1) := by decide +kernel
theorem dX9_sum_2 : decode cX9_sum 2 = .ok (.iadd, 1) := by decide +kernel
theorem dX9_sum_3 : decode cX9_sum 3 = .ok (.aload_n 0, 1) := by decide +kernel
theorem dX9_sum_4 : decode cX9_sum 4 = .ok (.getfield 62, 3) := by decide +kernel
theorem dX9_sum_7 : decode cX9_sum 7 = .ok (.if_icmp .ge 9, 3) := by decide +kernel
theorem dX9_sum_10 : decode cX9_sum 10 = .ok (.iload_n 1, 1) := by decide +kernel
theorem dX9_sum_11 : decode cX9_sum 11 = .ok (.iload_n 2, 1) := by decide +kernel
theorem dX9_sum_12 : decode cX9_sum 12 = .ok (.iadd, 1) := by decide +kernel
theorem dX9_sum_13 : decode cX9_sum 13 = .ok (.goto 7, 3) := by decide +kernel
theorem dX9_sum_16 : decode cX9_sum 16 = .ok (.aload_n 0, 1) := by decide +kernel
theorem dX9_sum_17 : decode cX9_sum 17 = .ok (.getfield 62, 3) := by decide +kernel
theorem dX9_sum_20 : decode cX9_sum 20 = .ok (.ireturn, 1) := by decide +kernel
theorem dX9_less_0 : decode cX9_less 0 = .ok (.iload_n 1, 1) := by decide +kernel
theorem dX9_less_1 : decode cX9_less 1 = .ok (.aload_n 0, 1) := by decide +kernel
theorem dX9_less_2 : decode cX9_less 2 = .ok (.getfield 62, 3) := by decide +kernel
theorem dX9_less_5 : decode cX9_less 5 = .ok (.if_icmp .ne 10, 3) := by decide +kernel
theorem dX9_less_8 : decode cX9_less 8 = .ok (.aload_n 0, 1) := by decide +kernel
theorem dX9_less_9 : decode cX9_less 9 = .ok (.getfield 62, 3) := by decide +kernel
theorem dX9_less_12 : decode cX9_less 12 = .ok (.goto 6, 3) := by decide +kernel
theorem dX9_less_15 : decode cX9_less 15 = .ok (.iload_n 1, 1) := by decide +kernel
theorem dX9_less_16 : decode cX9_less 16 = .ok (.iload_n 2, 1) := by decide +kernel
theorem dX9_less_17 : decode cX9_less 17 = .ok (.isub, 1) := by decide +kernel
theorem dX9_less_18 : decode cX9_less 18 = .ok (.ireturn, 1) := by decide +kernel
theorem dX9_isName_0 : decode cX9_isName 0 = .ok (.iload_n 1, 1) := by decide +kernel
theorem dX9_isName_1 : decode cX9_isName 1 = .ok (.iconst 0, 1) := by decide +kernel
theorem dX9_isName_2 : decode cX9_isName 2 = .ok (.aload_n 0, 1) := by decide +kernel
theorem dX9_isName_3 : decode cX9_isName 3 = .ok (.getfield 58, 3) := by decide +kernel
theorem dX9_isName_6 : decode cX9_isName 6 = .ok (.iconst 1, 1) := by decide +kernel
theorem dX9_isName_7 : decode cX9_isName 7 = .ok (.isub, 1) := by decide +kernel
theorem dX9_isName_8 : decode cX9_isName 8 = .ok (.invokestatic 85, 3) := by decide +kernel
theorem dX9_isName_11 : decode cX9_isName 11 = .ok (.ireturn, 1) := by decide +kernel
theorem dX9_isValue_0 : decode cX9_isValue 0 = .ok (.aload_n 0, 1) := by decide +kernel
theorem dX9_isValue_1 : decode cX9_isValue 1 = .ok (.iload_n 1, 1) := by decide +kernel
theorem dX9_isValue_2 : decode cX9_isValue 2 = .ok (.invokevirtual 132, 3) := by decide +kernel
theorem dX9_isValue_5 : decode cX9_isValue 5 = .ok (.ifCond .eq 23, 3) := by decide +kernel
theorem dX9_isValue_8 : decode cX9_isValue 8 = .ok (.iload_n 2, 1) := by decide +kernel
theorem dX9_isValue_9 : decode cX9_isValue 9 = .ok (.iconst 0, 1) := by decide +kernel
theorem dX9_isValue_10 : decode cX9_isValue 10 = .ok (.aload_n 0, 1) := by decide +kernel
theorem dX9_isValue_11 : decode cX9_isValue 11 = .ok (.getfield 13, 3) := by decide +kernel
theorem dX9_isValue_14 : decode cX9_isValue 14 = .ok (.iload_n 1, 1) := by decide +kernel
theorem dX9_isValue_15 : decode cX9_isValue 15 = .ok (.iaload, 1) := by decide +kernel
theorem dX9_isValue_16 : decode cX9_isValue 16 = .ok (.iconst 1, 1) := by decide +kernel
theorem dX9_isValue_17 : decode cX9_isValue 17 = .ok (.isub, 1) := by decide +kernel
theorem dX9_isValue_18 : decode cX9_isValue 18 = .ok (.invokestatic 85, 3) := by decide +kernel
theorem dX9_isValue_21 : decode cX9_isValue 21 = .ok (.ifCond .eq 7, 3) := by decide +kernel
theorem dX9_isValue_24 : decode cX9_isValue 24 = .ok (.iconst 1, 1) := by decide +kernel
theorem dX9_isValue_25 : decode cX9_isValue 25 = .ok (.goto 4, 3) := by decide +kernel
theorem dX9_isValue_28 : decode cX9_isValue 28 = .ok (.iconst 0, 1) := by decide +kernel
theorem dX9_isValue_29 : decode cX9_isValue 29 = .ok (.ireturn, 1) := by decide +kernel
theorem dX9_isTable_0 : decode cX9_isTable 0 = .ok (.iload_n 1, 1) := by decide +kernel
theorem dX9_isTable_1 : decode cX9_isTable 1 = .ok (.iconst 0, 1) := by decide +kernel
theorem dX9_isTable_2 : decode cX9_isTable 2 = .ok (.aload_n 0, 1) := by decide +kernel
theorem dX9_isTable_3 : decode cX9_isTable 3 = .ok (.getfield 65, 3) := by decide +kernel
theorem dX9_isTable_6 : decode cX9_isTable 6 = .ok (.iconst 1, 1) := by decide +kernel
theorem dX9_isTable_7 : decode cX9_isTable 7 = .ok (.isub, 1) := by decide +kernel
theorem dX9_isTable_8 : decode cX9_isTable 8 = .ok (.invokestatic 85, 3) := by decide +kernel
theorem dX9_isTable_11 : decode cX9_isTable 11 = .ok (.ireturn, 1) := by decide +kernel
theorem dX9_nameOf_0 : decode cX9_nameOf 0 = .ok (.iload_n 2, 1) := by decide +kernel
theorem dX9_nameOf_1 : decode cX9_nameOf 1 = .ok (.ifCond .ne 12, 3) := by decide +kernel
theorem dX9_nameOf_4 : decode cX9_nameOf 4 = .ok (.aload_n 0, 1) := by decide +kernel
theorem dX9_nameOf_5 : decode cX9_nameOf 5 = .ok (.getfield 16, 3) := by decide +kernel
theorem dX9_nameOf_8 : decode cX9_nameOf 8 = .ok (.iload_n 1, 1) := by decide +kernel
theorem dX9_nameOf_9 : decode cX9_nameOf 9 = .ok (.iaload, 1) := by decide +kernel
theorem dX9_nameOf_10 : decode cX9_nameOf 10 = .ok (.goto 9, 3) := by decide +kernel
theorem dX9_nameOf_13 : decode cX9_nameOf 13 = .ok (.aload_n 0, 1) := by decide +kernel
theorem dX9_nameOf_14 : decode cX9_nameOf 14 = .ok (.getfield 19, 3) := by decide +kernel
theorem dX9_nameOf_17 : decode cX9_nameOf 17 = .ok (.iload_n 1, 1) := by decide +kernel
theorem dX9_nameOf_18 : decode cX9_nameOf 18 = .ok (.iaload, 1) := by decide +kernel
theorem dX9_nameOf_19 : decode cX9_nameOf 19 = .ok (.ireturn, 1) := by decide +kernel
theorem dX9_pairAt_0 : decode cX9_pairAt 0 = .ok (.bipush 24, 2) := by decide +kernel
theorem dX9_pairAt_2 : decode cX9_pairAt 2 = .ok (.bipush 16, 2) := by decide +kernel
theorem dX9_pairAt_4 : decode cX9_pairAt 4 = .ok (.iload_n 0, 1) := by decide +kernel
theorem dX9_pairAt_5 : decode cX9_pairAt 5 = .ok (.imul, 1) := by decide +kernel
theorem dX9_pairAt_6 : decode cX9_pairAt 6 = .ok (.iadd, 1) := by decide +kernel
theorem dX9_pairAt_7 : decode cX9_pairAt 7 = .ok (.iload_n 1, 1) := by decide +kernel
theorem dX9_pairAt_8 : decode cX9_pairAt 8 = .ok (.ifCond .ne 11, 3) := by decide +kernel
theorem dX9_pairAt_11 : decode cX9_pairAt 11 = .ok (.iconst 4, 1) := by decide +kernel
theorem dX9_pairAt_12 : decode cX9_pairAt 12 = .ok (.iload_n 2, 1) := by decide +kernel
theorem dX9_pairAt_13 : decode cX9_pairAt 13 = .ok (.imul, 1) := by decide +kernel
theorem dX9_pairAt_14 : decode cX9_pairAt 14 = .ok (.iload_n 3, 1) := by decide +kernel
theorem dX9_pairAt_15 : decode cX9_pairAt 15 = .ok (.iadd, 1) := by decide +kernel
theorem dX9_pairAt_16 : decode cX9_pairAt 16 = .ok (.goto 8, 3) := by decide +kernel
theorem dX9_pairAt_19 : decode cX9_pairAt 19 = .ok (.iconst 4, 1) := by decide +kernel
theorem dX9_pairAt_20 : decode cX9_pairAt 20 = .ok (.iload_n 3, 1) := by decide +kernel
theorem dX9_pairAt_21 : decode cX9_pairAt 21 = .ok (.imul, 1) := by decide +kernel
theorem dX9_pairAt_22 : decode cX9_pairAt 22 = .ok (.iload_n 2, 1) := by decide +kernel
theorem dX9_pairAt_23 : decode cX9_pairAt 23 = .ok (.iadd, 1) := by decide +kernel
theorem dX9_pairAt_24 : decode cX9_pairAt 24 = .ok (.iadd, 1) := by decide +kernel
theorem dX9_pairAt_25 : decode cX9_pairAt 25 = .ok (.ireturn, 1) := by decide +kernel
theorem dX9_leastSingle_0 : decode cX9_leastSingle 0 = .ok (.aload_n 0, 1) := by decide +kernel
theorem dX9_leastSingle_1 : decode cX9_leastSingle 1 = .ok (.getfield 25, 3) := by decide +kernel
theorem dX9_leastSingle_4 : decode cX9_leastSingle 4 = .ok (.iconst 4, 1) := by decide +kernel
theorem dX9_leastSingle_5 : decode cX9_leastSingle 5 = .ok (.iload_n 1, 1) := by decide +kernel
theorem dX9_leastSingle_6 : decode cX9_leastSingle 6 = .ok (.imul, 1) := by decide +kernel
theorem dX9_leastSingle_7 : decode cX9_leastSingle 7 = .ok (.iaload, 1) := by decide +kernel
theorem dX9_leastSingle_8 : decode cX9_leastSingle 8 = .ok (.istore_n 2, 1) := by decide +kernel
theorem dX9_leastSingle_9 : decode cX9_leastSingle 9 = .ok (.iconst 1, 1) := by decide +kernel
theorem dX9_leastSingle_10 : decode cX9_leastSingle 10 = .ok (.istore_n 3, 1) := by decide +kernel
theorem dX9_leastSingle_11 : decode cX9_leastSingle 11 = .ok (.iload_n 3, 1) := by decide +kernel
theorem dX9_leastSingle_12 : decode cX9_leastSingle 12 = .ok (.aload_n 0, 1) := by decide +kernel
theorem dX9_leastSingle_13 : decode cX9_leastSingle 13 = .ok (.getfield 13, 3) := by decide +kernel
theorem dX9_leastSingle_16 : decode cX9_leastSingle 16 = .ok (.iload_n 1, 1) := by decide +kernel
theorem dX9_leastSingle_17 : decode cX9_leastSingle 17 = .ok (.iaload, 1) := by decide +kernel
theorem dX9_leastSingle_18 : decode cX9_leastSingle 18 = .ok (.if_icmp .ge 38, 3) := by decide +kernel
theorem dX9_leastSingle_21 : decode cX9_leastSingle 21 = .ok (.aload_n 0, 1) := by decide +kernel
theorem dX9_leastSingle_22 : decode cX9_leastSingle 22 = .ok (.getfield 25, 3) := by decide +kernel
theorem dX9_leastSingle_25 : decode cX9_leastSingle 25 = .ok (.iconst 4, 1) := by decide +kernel
theorem dX9_leastSingle_26 : decode cX9_leastSingle 26 = .ok (.iload_n 1, 1) := by decide +kernel
theorem dX9_leastSingle_27 : decode cX9_leastSingle 27 = .ok (.imul, 1) := by decide +kernel
theorem dX9_leastSingle_28 : decode cX9_leastSingle 28 = .ok (.iload_n 3, 1) := by decide +kernel
theorem dX9_leastSingle_29 : decode cX9_leastSingle 29 = .ok (.iadd, 1) := by decide +kernel
theorem dX9_leastSingle_30 : decode cX9_leastSingle 30 = .ok (.iaload, 1) := by decide +kernel
theorem dX9_leastSingle_31 : decode cX9_leastSingle 31 = .ok (.iload_n 2, 1) := by decide +kernel
theorem dX9_leastSingle_32 : decode cX9_leastSingle 32 = .ok (.if_icmp .ge 16, 3) := by decide +kernel
theorem dX9_leastSingle_35 : decode cX9_leastSingle 35 = .ok (.aload_n 0, 1) := by decide +kernel
theorem dX9_leastSingle_36 : decode cX9_leastSingle 36 = .ok (.getfield 25, 3) := by decide +kernel
theorem dX9_leastSingle_39 : decode cX9_leastSingle 39 = .ok (.iconst 4, 1) := by decide +kernel
theorem dX9_leastSingle_40 : decode cX9_leastSingle 40 = .ok (.iload_n 1, 1) := by decide +kernel
theorem dX9_leastSingle_41 : decode cX9_leastSingle 41 = .ok (.imul, 1) := by decide +kernel
theorem dX9_leastSingle_42 : decode cX9_leastSingle 42 = .ok (.iload_n 3, 1) := by decide +kernel
theorem dX9_leastSingle_43 : decode cX9_leastSingle 43 = .ok (.iadd, 1) := by decide +kernel
theorem dX9_leastSingle_44 : decode cX9_leastSingle 44 = .ok (.iaload, 1) := by decide +kernel
theorem dX9_leastSingle_45 : decode cX9_leastSingle 45 = .ok (.goto 4, 3) := by decide +kernel
theorem dX9_leastSingle_48 : decode cX9_leastSingle 48 = .ok (.iload_n 2, 1) := by decide +kernel
theorem dX9_leastSingle_49 : decode cX9_leastSingle 49 = .ok (.istore_n 2, 1) := by decide +kernel
theorem dX9_leastSingle_50 : decode cX9_leastSingle 50 = .ok (.iinc 3 1, 3) := by decide +kernel
theorem dX9_leastSingle_53 : decode cX9_leastSingle 53 = .ok (.goto (-42), 3) := by decide +kernel
theorem dX9_leastSingle_56 : decode cX9_leastSingle 56 = .ok (.iload_n 2, 1) := by decide +kernel
theorem dX9_leastSingle_57 : decode cX9_leastSingle 57 = .ok (.ireturn, 1) := by decide +kernel
theorem dX9_isShut_0 : decode cX9_isShut 0 = .ok (.aload_n 0, 1) := by decide +kernel
theorem dX9_isShut_1 : decode cX9_isShut 1 = .ok (.aload_n 0, 1) := by decide +kernel
theorem dX9_isShut_2 : decode cX9_isShut 2 = .ok (.getfield 25, 3) := by decide +kernel
theorem dX9_isShut_5 : decode cX9_isShut 5 = .ok (.sipush 168, 3) := by decide +kernel
theorem dX9_isShut_8 : decode cX9_isShut 8 = .ok (.iaload, 1) := by decide +kernel
theorem dX9_isShut_9 : decode cX9_isShut 9 = .ok (.aload_n 0, 1) := by decide +kernel
theorem dX9_isShut_10 : decode cX9_isShut 10 = .ok (.getfield 25, 3) := by decide +kernel
theorem dX9_isShut_13 : decode cX9_isShut 13 = .ok (.iconst 4, 1) := by decide +kernel
theorem dX9_isShut_14 : decode cX9_isShut 14 = .ok (.iload_n 1, 1) := by decide +kernel
theorem dX9_isShut_15 : decode cX9_isShut 15 = .ok (.imul, 1) := by decide +kernel
theorem dX9_isShut_16 : decode cX9_isShut 16 = .ok (.iload_n 2, 1) := by decide +kernel
theorem dX9_isShut_17 : decode cX9_isShut 17 = .ok (.iadd, 1) := by decide +kernel
theorem dX9_isShut_18 : decode cX9_isShut 18 = .ok (.iaload, 1) := by decide +kernel
theorem dX9_isShut_19 : decode cX9_isShut 19 = .ok (.invokevirtual 125, 3) := by decide +kernel
theorem dX9_isShut_22 : decode cX9_isShut 22 = .ok (.aload_n 0, 1) := by decide +kernel
theorem dX9_isShut_23 : decode cX9_isShut 23 = .ok (.getfield 62, 3) := by decide +kernel
theorem dX9_isShut_26 : decode cX9_isShut 26 = .ok (.if_icmp .ne 7, 3) := by decide +kernel
theorem dX9_isShut_29 : decode cX9_isShut 29 = .ok (.iconst 1, 1) := by decide +kernel
theorem dX9_isShut_30 : decode cX9_isShut 30 = .ok (.goto 4, 3) := by decide +kernel
theorem dX9_isShut_33 : decode cX9_isShut 33 = .ok (.iconst 0, 1) := by decide +kernel
theorem dX9_isShut_34 : decode cX9_isShut 34 = .ok (.ireturn, 1) := by decide +kernel
theorem dX9_name_0 : decode cX9_name 0 = .ok (.aload_n 0, 1) := by decide +kernel
theorem dX9_name_1 : decode cX9_name 1 = .ok (.iload_n 1, 1) := by decide +kernel
theorem dX9_name_2 : decode cX9_name 2 = .ok (.invokevirtual 132, 3) := by decide +kernel
theorem dX9_name_5 : decode cX9_name 5 = .ok (.ifCond .eq 12, 3) := by decide +kernel
theorem dX9_name_8 : decode cX9_name 8 = .ok (.iload_n 2, 1) := by decide +kernel
theorem dX9_name_9 : decode cX9_name 9 = .ok (.iconst 0, 1) := by decide +kernel
theorem dX9_name_10 : decode cX9_name 10 = .ok (.iconst 3, 1) := by decide +kernel
theorem dX9_name_11 : decode cX9_name 11 = .ok (.invokestatic 85, 3) := by decide +kernel
theorem dX9_name_14 : decode cX9_name 14 = .ok (.ifCond .ne 5, 3) := by decide +kernel
theorem dX9_name_17 : decode cX9_name 17 = .ok (.iconst (-1), 1) := by decide +kernel
theorem dX9_name_18 : decode cX9_name 18 = .ok (.ireturn, 1) := by decide +kernel
theorem dX9_name_19 : decode cX9_name 19 = .ok (.iload_n 2, 1) := by decide +kernel
theorem dX9_name_20 : decode cX9_name 20 = .ok (.ifCond .eq 8, 3) := by decide +kernel
theorem dX9_name_23 : decode cX9_name 23 = .ok (.iload_n 2, 1) := by decide +kernel
theorem dX9_name_24 : decode cX9_name 24 = .ok (.iconst 3, 1) := by decide +kernel
theorem dX9_name_25 : decode cX9_name 25 = .ok (.if_icmp .ne 22, 3) := by decide +kernel
theorem dX9_name_28 : decode cX9_name 28 = .ok (.iload_n 2, 1) := by decide +kernel
theorem dX9_name_29 : decode cX9_name 29 = .ok (.ifCond .ne 12, 3) := by decide +kernel
theorem dX9_name_32 : decode cX9_name 32 = .ok (.aload_n 0, 1) := by decide +kernel
theorem dX9_name_33 : decode cX9_name 33 = .ok (.getfield 13, 3) := by decide +kernel
theorem dX9_name_36 : decode cX9_name 36 = .ok (.iload_n 1, 1) := by decide +kernel
theorem dX9_name_37 : decode cX9_name 37 = .ok (.iaload, 1) := by decide +kernel
theorem dX9_name_38 : decode cX9_name 38 = .ok (.goto 8, 3) := by decide +kernel
theorem dX9_name_41 : decode cX9_name 41 = .ok (.aload_n 0, 1) := by decide +kernel
theorem dX9_name_42 : decode cX9_name 42 = .ok (.iload_n 1, 1) := by decide +kernel
theorem dX9_name_43 : decode cX9_name 43 = .ok (.invokevirtual 135, 3) := by decide +kernel
theorem dX9_name_46 : decode cX9_name 46 = .ok (.ireturn, 1) := by decide +kernel
theorem dX9_name_47 : decode cX9_name 47 = .ok (.iconst 0, 1) := by decide +kernel
theorem dX9_name_48 : decode cX9_name 48 = .ok (.istore_n 3, 1) := by decide +kernel
theorem dX9_name_49 : decode cX9_name 49 = .ok (.iload_n 2, 1) := by decide +kernel
theorem dX9_name_50 : decode cX9_name 50 = .ok (.iconst 1, 1) := by decide +kernel
theorem dX9_name_51 : decode cX9_name 51 = .ok (.if_icmp .ne 57, 3) := by decide +kernel
theorem dX9_name_54 : decode cX9_name 54 = .ok (.iconst 0, 1) := by decide +kernel
theorem dX9_name_55 : decode cX9_name 55 = .ok (.istore 4, 2) := by decide +kernel
theorem dX9_name_57 : decode cX9_name 57 = .ok (.iload 4, 2) := by decide +kernel
theorem dX9_name_59 : decode cX9_name 59 = .ok (.aload_n 0, 1) := by decide +kernel
theorem dX9_name_60 : decode cX9_name 60 = .ok (.getfield 65, 3) := by decide +kernel
theorem dX9_name_63 : decode cX9_name 63 = .ok (.if_icmp .ge 42, 3) := by decide +kernel
theorem dX9_name_66 : decode cX9_name 66 = .ok (.iload_n 3, 1) := by decide +kernel
theorem dX9_name_67 : decode cX9_name 67 = .ok (.aload_n 0, 1) := by decide +kernel
theorem dX9_name_68 : decode cX9_name 68 = .ok (.getfield 16, 3) := by decide +kernel
theorem dX9_name_71 : decode cX9_name 71 = .ok (.iload 4, 2) := by decide +kernel
theorem dX9_name_73 : decode cX9_name 73 = .ok (.iaload, 1) := by decide +kernel
theorem dX9_name_74 : decode cX9_name 74 = .ok (.iload_n 1, 1) := by decide +kernel
theorem dX9_name_75 : decode cX9_name 75 = .ok (.if_icmp .eq 14, 3) := by decide +kernel
theorem dX9_name_78 : decode cX9_name 78 = .ok (.aload_n 0, 1) := by decide +kernel
theorem dX9_name_79 : decode cX9_name 79 = .ok (.getfield 19, 3) := by decide +kernel
theorem dX9_name_82 : decode cX9_name 82 = .ok (.iload 4, 2) := by decide +kernel
theorem dX9_name_84 : decode cX9_name 84 = .ok (.iaload, 1) := by decide +kernel
theorem dX9_name_85 : decode cX9_name 85 = .ok (.iload_n 1, 1) := by decide +kernel
theorem dX9_name_86 : decode cX9_name 86 = .ok (.if_icmp .ne 10, 3) := by decide +kernel
theorem dX9_name_89 : decode cX9_name 89 = .ok (.iconst 1, 1) := by decide +kernel
theorem dX9_name_90 : decode cX9_name 90 = .ok (.iload 4, 2) := by decide +kernel
theorem dX9_name_92 : decode cX9_name 92 = .ok (.ishl, 1) := by decide +kernel
theorem dX9_name_93 : decode cX9_name 93 = .ok (.goto 4, 3) := by decide +kernel
theorem dX9_name_96 : decode cX9_name 96 = .ok (.iconst 0, 1) := by decide +kernel
theorem dX9_name_97 : decode cX9_name 97 = .ok (.ior, 1) := by decide +kernel
theorem dX9_name_98 : decode cX9_name 98 = .ok (.istore_n 3, 1) := by decide +kernel
theorem dX9_name_99 : decode cX9_name 99 = .ok (.iinc 4 1, 3) := by decide +kernel
theorem dX9_name_102 : decode cX9_name 102 = .ok (.goto (-45), 3) := by decide +kernel
theorem dX9_name_105 : decode cX9_name 105 = .ok (.goto 44, 3) := by decide +kernel
theorem dX9_name_108 : decode cX9_name 108 = .ok (.iconst 0, 1) := by decide +kernel
theorem dX9_name_109 : decode cX9_name 109 = .ok (.istore 4, 2) := by decide +kernel
theorem dX9_name_111 : decode cX9_name 111 = .ok (.iload 4, 2) := by decide +kernel
theorem dX9_name_113 : decode cX9_name 113 = .ok (.aload_n 0, 1) := by decide +kernel
theorem dX9_name_114 : decode cX9_name 114 = .ok (.getfield 13, 3) := by decide +kernel
theorem dX9_name_117 : decode cX9_name 117 = .ok (.iload_n 1, 1) := by decide +kernel
theorem dX9_name_118 : decode cX9_name 118 = .ok (.iaload, 1) := by decide +kernel
theorem dX9_name_119 : decode cX9_name 119 = .ok (.if_icmp .ge 30, 3) := by decide +kernel
theorem dX9_name_122 : decode cX9_name 122 = .ok (.iload_n 3, 1) := by decide +kernel
theorem dX9_name_123 : decode cX9_name 123 = .ok (.aload_n 0, 1) := by decide +kernel
theorem dX9_name_124 : decode cX9_name 124 = .ok (.iload_n 1, 1) := by decide +kernel
theorem dX9_name_125 : decode cX9_name 125 = .ok (.iload 4, 2) := by decide +kernel
theorem dX9_name_127 : decode cX9_name 127 = .ok (.invokevirtual 138, 3) := by decide +kernel
theorem dX9_name_130 : decode cX9_name 130 = .ok (.ifCond .eq 10, 3) := by decide +kernel
theorem dX9_name_133 : decode cX9_name 133 = .ok (.iconst 1, 1) := by decide +kernel
theorem dX9_name_134 : decode cX9_name 134 = .ok (.iload 4, 2) := by decide +kernel
theorem dX9_name_136 : decode cX9_name 136 = .ok (.ishl, 1) := by decide +kernel
theorem dX9_name_137 : decode cX9_name 137 = .ok (.goto 4, 3) := by decide +kernel
theorem dX9_name_140 : decode cX9_name 140 = .ok (.iconst 0, 1) := by decide +kernel
theorem dX9_name_141 : decode cX9_name 141 = .ok (.ior, 1) := by decide +kernel
theorem dX9_name_142 : decode cX9_name 142 = .ok (.istore_n 3, 1) := by decide +kernel
theorem dX9_name_143 : decode cX9_name 143 = .ok (.iinc 4 1, 3) := by decide +kernel
theorem dX9_name_146 : decode cX9_name 146 = .ok (.goto (-35), 3) := by decide +kernel
theorem dX9_name_149 : decode cX9_name 149 = .ok (.iload_n 3, 1) := by decide +kernel
theorem dX9_name_150 : decode cX9_name 150 = .ok (.ireturn, 1) := by decide +kernel
theorem dX9_single_0 : decode cX9_single 0 = .ok (.aload_n 0, 1) := by decide +kernel
theorem dX9_single_1 : decode cX9_single 1 = .ok (.iload_n 1, 1) := by decide +kernel
theorem dX9_single_2 : decode cX9_single 2 = .ok (.iload_n 2, 1) := by decide +kernel
theorem dX9_single_3 : decode cX9_single 3 = .ok (.invokevirtual 141, 3) := by decide +kernel
theorem dX9_single_6 : decode cX9_single 6 = .ok (.ifCond .eq 16, 3) := by decide +kernel
theorem dX9_single_9 : decode cX9_single 9 = .ok (.aload_n 0, 1) := by decide +kernel
theorem dX9_single_10 : decode cX9_single 10 = .ok (.getfield 25, 3) := by decide +kernel
theorem dX9_single_13 : decode cX9_single 13 = .ok (.iconst 4, 1) := by decide +kernel
theorem dX9_single_14 : decode cX9_single 14 = .ok (.iload_n 1, 1) := by decide +kernel
theorem dX9_single_15 : decode cX9_single 15 = .ok (.imul, 1) := by decide +kernel
theorem dX9_single_16 : decode cX9_single 16 = .ok (.iload_n 2, 1) := by decide +kernel
theorem dX9_single_17 : decode cX9_single 17 = .ok (.iadd, 1) := by decide +kernel
theorem dX9_single_18 : decode cX9_single 18 = .ok (.iaload, 1) := by decide +kernel
theorem dX9_single_19 : decode cX9_single 19 = .ok (.goto 4, 3) := by decide +kernel
theorem dX9_single_22 : decode cX9_single 22 = .ok (.iconst (-1), 1) := by decide +kernel
theorem dX9_single_23 : decode cX9_single 23 = .ok (.ireturn, 1) := by decide +kernel
theorem dX9_table_0 : decode cX9_table 0 = .ok (.aload_n 0, 1) := by decide +kernel
theorem dX9_table_1 : decode cX9_table 1 = .ok (.iload_n 1, 1) := by decide +kernel
theorem dX9_table_2 : decode cX9_table 2 = .ok (.invokevirtual 144, 3) := by decide +kernel
theorem dX9_table_5 : decode cX9_table 5 = .ok (.ifCond .eq 12, 3) := by decide +kernel
theorem dX9_table_8 : decode cX9_table 8 = .ok (.iload_n 2, 1) := by decide +kernel
theorem dX9_table_9 : decode cX9_table 9 = .ok (.iconst 0, 1) := by decide +kernel
theorem dX9_table_10 : decode cX9_table 10 = .ok (.iconst 3, 1) := by decide +kernel
theorem dX9_table_11 : decode cX9_table 11 = .ok (.invokestatic 85, 3) := by decide +kernel
theorem dX9_table_14 : decode cX9_table 14 = .ok (.ifCond .ne 5, 3) := by decide +kernel
theorem dX9_table_17 : decode cX9_table 17 = .ok (.iconst (-1), 1) := by decide +kernel
theorem dX9_table_18 : decode cX9_table 18 = .ok (.ireturn, 1) := by decide +kernel
theorem dX9_table_19 : decode cX9_table 19 = .ok (.iload_n 2, 1) := by decide +kernel
theorem dX9_table_20 : decode cX9_table 20 = .ok (.iconst 2, 1) := by decide +kernel
theorem dX9_table_21 : decode cX9_table 21 = .ok (.if_icmp .ge 10, 3) := by decide +kernel
theorem dX9_table_24 : decode cX9_table 24 = .ok (.aload_n 0, 1) := by decide +kernel
theorem dX9_table_25 : decode cX9_table 25 = .ok (.iload_n 1, 1) := by decide +kernel
theorem dX9_table_26 : decode cX9_table 26 = .ok (.iload_n 2, 1) := by decide +kernel
theorem dX9_table_27 : decode cX9_table 27 = .ok (.invokevirtual 147, 3) := by decide +kernel
theorem dX9_table_30 : decode cX9_table 30 = .ok (.ireturn, 1) := by decide +kernel
theorem dX9_table_31 : decode cX9_table 31 = .ok (.aload_n 0, 1) := by decide +kernel
theorem dX9_table_32 : decode cX9_table 32 = .ok (.getfield 62, 3) := by decide +kernel
theorem dX9_table_35 : decode cX9_table 35 = .ok (.istore_n 3, 1) := by decide +kernel
theorem dX9_table_36 : decode cX9_table 36 = .ok (.iconst 0, 1) := by decide +kernel
theorem dX9_table_37 : decode cX9_table 37 = .ok (.istore 4, 2) := by decide +kernel
theorem dX9_table_39 : decode cX9_table 39 = .ok (.iconst 0, 1) := by decide +kernel
theorem dX9_table_40 : decode cX9_table 40 = .ok (.istore 5, 2) := by decide +kernel
theorem dX9_table_42 : decode cX9_table 42 = .ok (.iload 5, 2) := by decide +kernel
theorem dX9_table_44 : decode cX9_table 44 = .ok (.aload_n 0, 1) := by decide +kernel
theorem dX9_table_45 : decode cX9_table 45 = .ok (.getfield 13, 3) := by decide +kernel
theorem dX9_table_48 : decode cX9_table 48 = .ok (.aload_n 0, 1) := by decide +kernel
theorem dX9_table_49 : decode cX9_table 49 = .ok (.getfield 16, 3) := by decide +kernel
theorem dX9_table_52 : decode cX9_table 52 = .ok (.iload_n 1, 1) := by decide +kernel
theorem dX9_table_53 : decode cX9_table 53 = .ok (.iaload, 1) := by decide +kernel
theorem dX9_table_54 : decode cX9_table 54 = .ok (.iaload, 1) := by decide +kernel
theorem dX9_table_55 : decode cX9_table 55 = .ok (.if_icmp .ge 79, 3) := by decide +kernel
theorem dX9_table_58 : decode cX9_table 58 = .ok (.iconst 0, 1) := by decide +kernel
theorem dX9_table_59 : decode cX9_table 59 = .ok (.istore 6, 2) := by decide +kernel
theorem dX9_table_61 : decode cX9_table 61 = .ok (.iload 6, 2) := by decide +kernel
theorem dX9_table_63 : decode cX9_table 63 = .ok (.aload_n 0, 1) := by decide +kernel
theorem dX9_table_64 : decode cX9_table 64 = .ok (.getfield 13, 3) := by decide +kernel
theorem dX9_table_67 : decode cX9_table 67 = .ok (.aload_n 0, 1) := by decide +kernel
theorem dX9_table_68 : decode cX9_table 68 = .ok (.getfield 19, 3) := by decide +kernel
theorem dX9_table_71 : decode cX9_table 71 = .ok (.iload_n 1, 1) := by decide +kernel
theorem dX9_table_72 : decode cX9_table 72 = .ok (.iaload, 1) := by decide +kernel
theorem dX9_table_73 : decode cX9_table 73 = .ok (.iaload, 1) := by decide +kernel
theorem dX9_table_74 : decode cX9_table 74 = .ok (.if_icmp .ge 54, 3) := by decide +kernel
theorem dX9_table_77 : decode cX9_table 77 = .ok (.aload_n 0, 1) := by decide +kernel
theorem dX9_table_78 : decode cX9_table 78 = .ok (.getfield 25, 3) := by decide +kernel
theorem dX9_table_81 : decode cX9_table 81 = .ok (.iload_n 1, 1) := by decide +kernel
theorem dX9_table_82 : decode cX9_table 82 = .ok (.iconst 0, 1) := by decide +kernel
theorem dX9_table_83 : decode cX9_table 83 = .ok (.iload 5, 2) := by decide +kernel
theorem dX9_table_85 : decode cX9_table 85 = .ok (.iload 6, 2) := by decide +kernel
theorem dX9_table_87 : decode cX9_table 87 = .ok (.invokestatic 150, 3) := by decide +kernel
theorem dX9_table_90 : decode cX9_table 90 = .ok (.iaload, 1) := by decide +kernel
theorem dX9_table_91 : decode cX9_table 91 = .ok (.istore 7, 2) := by decide +kernel
theorem dX9_table_93 : decode cX9_table 93 = .ok (.iload 7, 2) := by decide +kernel
theorem dX9_table_95 : decode cX9_table 95 = .ok (.iload_n 3, 1) := by decide +kernel
theorem dX9_table_96 : decode cX9_table 96 = .ok (.if_icmp .ge 8, 3) := by decide +kernel
theorem dX9_table_99 : decode cX9_table 99 = .ok (.iload 7, 2) := by decide +kernel
theorem dX9_table_101 : decode cX9_table 101 = .ok (.goto 4, 3) := by decide +kernel
theorem dX9_table_104 : decode cX9_table 104 = .ok (.iload_n 3, 1) := by decide +kernel
theorem dX9_table_105 : decode cX9_table 105 = .ok (.istore_n 3, 1) := by decide +kernel
theorem dX9_table_106 : decode cX9_table 106 = .ok (.iload 7, 2) := by decide +kernel
theorem dX9_table_108 : decode cX9_table 108 = .ok (.iload 4, 2) := by decide +kernel
theorem dX9_table_110 : decode cX9_table 110 = .ok (.if_icmp .le 8, 3) := by decide +kernel
theorem dX9_table_113 : decode cX9_table 113 = .ok (.iload 7, 2) := by decide +kernel
theorem dX9_table_115 : decode cX9_table 115 = .ok (.goto 5, 3) := by decide +kernel
theorem dX9_table_118 : decode cX9_table 118 = .ok (.iload 4, 2) := by decide +kernel
theorem dX9_table_120 : decode cX9_table 120 = .ok (.istore 4, 2) := by decide +kernel
theorem dX9_table_122 : decode cX9_table 122 = .ok (.iinc 6 1, 3) := by decide +kernel
theorem dX9_table_125 : decode cX9_table 125 = .ok (.goto (-64), 3) := by decide +kernel
theorem dX9_table_128 : decode cX9_table 128 = .ok (.iinc 5 1, 3) := by decide +kernel
theorem dX9_table_131 : decode cX9_table 131 = .ok (.goto (-89), 3) := by decide +kernel
theorem dX9_table_134 : decode cX9_table 134 = .ok (.iload_n 2, 1) := by decide +kernel
theorem dX9_table_135 : decode cX9_table 135 = .ok (.iconst 2, 1) := by decide +kernel
theorem dX9_table_136 : decode cX9_table 136 = .ok (.if_icmp .ne 7, 3) := by decide +kernel
theorem dX9_table_139 : decode cX9_table 139 = .ok (.iload_n 3, 1) := by decide +kernel
theorem dX9_table_140 : decode cX9_table 140 = .ok (.goto 5, 3) := by decide +kernel
theorem dX9_table_143 : decode cX9_table 143 = .ok (.iload 4, 2) := by decide +kernel
theorem dX9_table_145 : decode cX9_table 145 = .ok (.ireturn, 1) := by decide +kernel
theorem dX9_pair_0 : decode cX9_pair 0 = .ok (.aload_n 0, 1) := by decide +kernel
theorem dX9_pair_1 : decode cX9_pair 1 = .ok (.iload_n 1, 1) := by decide +kernel
theorem dX9_pair_2 : decode cX9_pair 2 = .ok (.invokevirtual 144, 3) := by decide +kernel
theorem dX9_pair_5 : decode cX9_pair 5 = .ok (.ifCond .eq 46, 3) := by decide +kernel
theorem dX9_pair_8 : decode cX9_pair 8 = .ok (.aload_n 0, 1) := by decide +kernel
theorem dX9_pair_9 : decode cX9_pair 9 = .ok (.aload_n 0, 1) := by decide +kernel
theorem dX9_pair_10 : decode cX9_pair 10 = .ok (.getfield 16, 3) := by decide +kernel
theorem dX9_pair_13 : decode cX9_pair 13 = .ok (.iload_n 1, 1) := by decide +kernel
theorem dX9_pair_14 : decode cX9_pair 14 = .ok (.iaload, 1) := by decide +kernel
theorem dX9_pair_15 : decode cX9_pair 15 = .ok (.iload_n 2, 1) := by decide +kernel
theorem dX9_pair_16 : decode cX9_pair 16 = .ok (.invokevirtual 141, 3) := by decide +kernel
theorem dX9_pair_19 : decode cX9_pair 19 = .ok (.ifCond .eq 32, 3) := by decide +kernel
theorem dX9_pair_22 : decode cX9_pair 22 = .ok (.aload_n 0, 1) := by decide +kernel
theorem dX9_pair_23 : decode cX9_pair 23 = .ok (.aload_n 0, 1) := by decide +kernel
theorem dX9_pair_24 : decode cX9_pair 24 = .ok (.getfield 19, 3) := by decide +kernel
theorem dX9_pair_27 : decode cX9_pair 27 = .ok (.iload_n 1, 1) := by decide +kernel
theorem dX9_pair_28 : decode cX9_pair 28 = .ok (.iaload, 1) := by decide +kernel
theorem dX9_pair_29 : decode cX9_pair 29 = .ok (.iload_n 3, 1) := by decide +kernel
theorem dX9_pair_30 : decode cX9_pair 30 = .ok (.invokevirtual 141, 3) := by decide +kernel
theorem dX9_pair_33 : decode cX9_pair 33 = .ok (.ifCond .eq 18, 3) := by decide +kernel
theorem dX9_pair_36 : decode cX9_pair 36 = .ok (.aload_n 0, 1) := by decide +kernel
theorem dX9_pair_37 : decode cX9_pair 37 = .ok (.getfield 25, 3) := by decide +kernel
theorem dX9_pair_40 : decode cX9_pair 40 = .ok (.iload_n 1, 1) := by decide +kernel
theorem dX9_pair_41 : decode cX9_pair 41 = .ok (.iconst 0, 1) := by decide +kernel
theorem dX9_pair_42 : decode cX9_pair 42 = .ok (.iload_n 2, 1) := by decide +kernel
theorem dX9_pair_43 : decode cX9_pair 43 = .ok (.iload_n 3, 1) := by decide +kernel
theorem dX9_pair_44 : decode cX9_pair 44 = .ok (.invokestatic 150, 3) := by decide +kernel
theorem dX9_pair_47 : decode cX9_pair 47 = .ok (.iaload, 1) := by decide +kernel
theorem dX9_pair_48 : decode cX9_pair 48 = .ok (.goto 4, 3) := by decide +kernel
theorem dX9_pair_51 : decode cX9_pair 51 = .ok (.iconst (-1), 1) := by decide +kernel
theorem dX9_pair_52 : decode cX9_pair 52 = .ok (.ireturn, 1) := by decide +kernel
theorem dX9_keeps_0 : decode cX9_keeps 0 = .ok (.aload_n 0, 1) := by decide +kernel
theorem dX9_keeps_1 : decode cX9_keeps 1 = .ok (.getfield 129, 3) := by decide +kernel
theorem dX9_keeps_4 : decode cX9_keeps 4 = .ok (.bipush 6, 2) := by decide +kernel
theorem dX9_keeps_6 : decode cX9_keeps 6 = .ok (.if_icmp .ne 44, 3) := by decide +kernel
theorem dX9_keeps_9 : decode cX9_keeps 9 = .ok (.iconst 0, 1) := by decide +kernel
theorem dX9_keeps_10 : decode cX9_keeps 10 = .ok (.istore_n 1, 1) := by decide +kernel
theorem dX9_keeps_11 : decode cX9_keeps 11 = .ok (.iload_n 1, 1) := by decide +kernel
theorem dX9_keeps_12 : decode cX9_keeps 12 = .ok (.sipush 845, 3) := by decide +kernel
theorem dX9_keeps_15 : decode cX9_keeps 15 = .ok (.if_icmp .ge 25, 3) := by decide +kernel
theorem dX9_keeps_18 : decode cX9_keeps 18 = .ok (.aload_n 0, 1) := by decide +kernel
theorem dX9_keeps_19 : decode cX9_keeps 19 = .ok (.getfield 28, 3) := by decide +kernel
theorem dX9_keeps_22 : decode cX9_keeps 22 = .ok (.iload_n 1, 1) := by decide +kernel
theorem dX9_keeps_23 : decode cX9_keeps 23 = .ok (.aload_n 0, 1) := by decide +kernel
theorem dX9_keeps_24 : decode cX9_keeps 24 = .ok (.getfield 28, 3) := by decide +kernel
theorem dX9_keeps_27 : decode cX9_keeps 27 = .ok (.iload_n 1, 1) := by decide +kernel
theorem dX9_keeps_28 : decode cX9_keeps 28 = .ok (.sipush 169, 3) := by decide +kernel
theorem dX9_keeps_31 : decode cX9_keeps 31 = .ok (.iadd, 1) := by decide +kernel
theorem dX9_keeps_32 : decode cX9_keeps 32 = .ok (.iaload, 1) := by decide +kernel
theorem dX9_keeps_33 : decode cX9_keeps 33 = .ok (.iastore, 1) := by decide +kernel
theorem dX9_keeps_34 : decode cX9_keeps 34 = .ok (.iinc 1 1, 3) := by decide +kernel
theorem dX9_keeps_37 : decode cX9_keeps 37 = .ok (.goto (-26), 3) := by decide +kernel
theorem dX9_keeps_40 : decode cX9_keeps 40 = .ok (.aload_n 0, 1) := by decide +kernel
theorem dX9_keeps_41 : decode cX9_keeps 41 = .ok (.dup, 1) := by decide +kernel
theorem dX9_keeps_42 : decode cX9_keeps 42 = .ok (.getfield 129, 3) := by decide +kernel
theorem dX9_keeps_45 : decode cX9_keeps 45 = .ok (.iconst 1, 1) := by decide +kernel
theorem dX9_keeps_46 : decode cX9_keeps 46 = .ok (.isub, 1) := by decide +kernel
theorem dX9_keeps_47 : decode cX9_keeps 47 = .ok (.putfield 129, 3) := by decide +kernel
theorem dX9_keeps_50 : decode cX9_keeps 50 = .ok (.iconst 0, 1) := by decide +kernel
theorem dX9_keeps_51 : decode cX9_keeps 51 = .ok (.istore_n 1, 1) := by decide +kernel
theorem dX9_keeps_52 : decode cX9_keeps 52 = .ok (.iload_n 1, 1) := by decide +kernel
theorem dX9_keeps_53 : decode cX9_keeps 53 = .ok (.sipush 169, 3) := by decide +kernel
theorem dX9_keeps_56 : decode cX9_keeps 56 = .ok (.if_icmp .ge 30, 3) := by decide +kernel
theorem dX9_keeps_59 : decode cX9_keeps 59 = .ok (.aload_n 0, 1) := by decide +kernel
theorem dX9_keeps_60 : decode cX9_keeps 60 = .ok (.getfield 28, 3) := by decide +kernel
theorem dX9_keeps_63 : decode cX9_keeps 63 = .ok (.sipush 169, 3) := by decide +kernel
theorem dX9_keeps_66 : decode cX9_keeps 66 = .ok (.aload_n 0, 1) := by decide +kernel
theorem dX9_keeps_67 : decode cX9_keeps 67 = .ok (.getfield 129, 3) := by decide +kernel
theorem dX9_keeps_70 : decode cX9_keeps 70 = .ok (.imul, 1) := by decide +kernel
theorem dX9_keeps_71 : decode cX9_keeps 71 = .ok (.iload_n 1, 1) := by decide +kernel
theorem dX9_keeps_72 : decode cX9_keeps 72 = .ok (.iadd, 1) := by decide +kernel
theorem dX9_keeps_73 : decode cX9_keeps 73 = .ok (.aload_n 0, 1) := by decide +kernel
theorem dX9_keeps_74 : decode cX9_keeps 74 = .ok (.getfield 25, 3) := by decide +kernel
theorem dX9_keeps_77 : decode cX9_keeps 77 = .ok (.iload_n 1, 1) := by decide +kernel
theorem dX9_keeps_78 : decode cX9_keeps 78 = .ok (.iaload, 1) := by decide +kernel
theorem dX9_keeps_79 : decode cX9_keeps 79 = .ok (.iastore, 1) := by decide +kernel
theorem dX9_keeps_80 : decode cX9_keeps 80 = .ok (.iinc 1 1, 3) := by decide +kernel
theorem dX9_keeps_83 : decode cX9_keeps 83 = .ok (.goto (-31), 3) := by decide +kernel
theorem dX9_keeps_86 : decode cX9_keeps 86 = .ok (.aload_n 0, 1) := by decide +kernel
theorem dX9_keeps_87 : decode cX9_keeps 87 = .ok (.dup, 1) := by decide +kernel
theorem dX9_keeps_88 : decode cX9_keeps 88 = .ok (.getfield 129, 3) := by decide +kernel
theorem dX9_keeps_91 : decode cX9_keeps 91 = .ok (.iconst 1, 1) := by decide +kernel
theorem dX9_keeps_92 : decode cX9_keeps 92 = .ok (.iadd, 1) := by decide +kernel
theorem dX9_keeps_93 : decode cX9_keeps 93 = .ok (.putfield 129, 3) := by decide +kernel
theorem dX9_keeps_96 : decode cX9_keeps 96 = .ok (.return_, 1) := by decide +kernel
theorem dX9_undo_0 : decode cX9_undo 0 = .ok (.aload_n 0, 1) := by decide +kernel
theorem dX9_undo_1 : decode cX9_undo 1 = .ok (.getfield 129, 3) := by decide +kernel
theorem dX9_undo_4 : decode cX9_undo 4 = .ok (.ifCond .ne 6, 3) := by decide +kernel
theorem dX9_undo_7 : decode cX9_undo 7 = .ok (.bipush (-2), 2) := by decide +kernel
theorem dX9_undo_9 : decode cX9_undo 9 = .ok (.ireturn, 1) := by decide +kernel
theorem dX9_undo_10 : decode cX9_undo 10 = .ok (.aload_n 0, 1) := by decide +kernel
theorem dX9_undo_11 : decode cX9_undo 11 = .ok (.dup, 1) := by decide +kernel
theorem dX9_undo_12 : decode cX9_undo 12 = .ok (.getfield 129, 3) := by decide +kernel
theorem dX9_undo_15 : decode cX9_undo 15 = .ok (.iconst 1, 1) := by decide +kernel
theorem dX9_undo_16 : decode cX9_undo 16 = .ok (.isub, 1) := by decide +kernel
theorem dX9_undo_17 : decode cX9_undo 17 = .ok (.putfield 129, 3) := by decide +kernel
theorem dX9_undo_20 : decode cX9_undo 20 = .ok (.iconst 0, 1) := by decide +kernel
theorem dX9_undo_21 : decode cX9_undo 21 = .ok (.istore_n 1, 1) := by decide +kernel
theorem dX9_undo_22 : decode cX9_undo 22 = .ok (.iload_n 1, 1) := by decide +kernel
theorem dX9_undo_23 : decode cX9_undo 23 = .ok (.sipush 169, 3) := by decide +kernel
theorem dX9_undo_26 : decode cX9_undo 26 = .ok (.if_icmp .ge 30, 3) := by decide +kernel
theorem dX9_undo_29 : decode cX9_undo 29 = .ok (.aload_n 0, 1) := by decide +kernel
theorem dX9_undo_30 : decode cX9_undo 30 = .ok (.getfield 25, 3) := by decide +kernel
theorem dX9_undo_33 : decode cX9_undo 33 = .ok (.iload_n 1, 1) := by decide +kernel
theorem dX9_undo_34 : decode cX9_undo 34 = .ok (.aload_n 0, 1) := by decide +kernel
theorem dX9_undo_35 : decode cX9_undo 35 = .ok (.getfield 28, 3) := by decide +kernel
theorem dX9_undo_38 : decode cX9_undo 38 = .ok (.sipush 169, 3) := by decide +kernel
theorem dX9_undo_41 : decode cX9_undo 41 = .ok (.aload_n 0, 1) := by decide +kernel
theorem dX9_undo_42 : decode cX9_undo 42 = .ok (.getfield 129, 3) := by decide +kernel
theorem dX9_undo_45 : decode cX9_undo 45 = .ok (.imul, 1) := by decide +kernel
theorem dX9_undo_46 : decode cX9_undo 46 = .ok (.iload_n 1, 1) := by decide +kernel
theorem dX9_undo_47 : decode cX9_undo 47 = .ok (.iadd, 1) := by decide +kernel
theorem dX9_undo_48 : decode cX9_undo 48 = .ok (.iaload, 1) := by decide +kernel
theorem dX9_undo_49 : decode cX9_undo 49 = .ok (.iastore, 1) := by decide +kernel
theorem dX9_undo_50 : decode cX9_undo 50 = .ok (.iinc 1 1, 3) := by decide +kernel
theorem dX9_undo_53 : decode cX9_undo 53 = .ok (.goto (-31), 3) := by decide +kernel
theorem dX9_undo_56 : decode cX9_undo 56 = .ok (.aload_n 0, 1) := by decide +kernel
theorem dX9_undo_57 : decode cX9_undo 57 = .ok (.getfield 129, 3) := by decide +kernel
theorem dX9_undo_60 : decode cX9_undo 60 = .ok (.ireturn, 1) := by decide +kernel
theorem dX9_grow_0 : decode cX9_grow 0 = .ok (.aload_n 0, 1) := by decide +kernel
theorem dX9_grow_1 : decode cX9_grow 1 = .ok (.iload_n 1, 1) := by decide +kernel
theorem dX9_grow_2 : decode cX9_grow 2 = .ok (.iload_n 2, 1) := by decide +kernel
theorem dX9_grow_3 : decode cX9_grow 3 = .ok (.invokevirtual 141, 3) := by decide +kernel
theorem dX9_grow_6 : decode cX9_grow 6 = .ok (.ifCond .eq 13, 3) := by decide +kernel
theorem dX9_grow_9 : decode cX9_grow 9 = .ok (.iload_n 3, 1) := by decide +kernel
theorem dX9_grow_10 : decode cX9_grow 10 = .ok (.iconst 1, 1) := by decide +kernel
theorem dX9_grow_11 : decode cX9_grow 11 = .ok (.bipush 99, 2) := by decide +kernel
theorem dX9_grow_13 : decode cX9_grow 13 = .ok (.invokestatic 85, 3) := by decide +kernel
theorem dX9_grow_16 : decode cX9_grow 16 = .ok (.ifCond .ne 5, 3) := by decide +kernel
theorem dX9_grow_19 : decode cX9_grow 19 = .ok (.iconst (-1), 1) := by decide +kernel
theorem dX9_grow_20 : decode cX9_grow 20 = .ok (.ireturn, 1) := by decide +kernel
theorem dX9_grow_21 : decode cX9_grow 21 = .ok (.aload_n 0, 1) := by decide +kernel
theorem dX9_grow_22 : decode cX9_grow 22 = .ok (.invokevirtual 154, 3) := by decide +kernel
theorem dX9_grow_25 : decode cX9_grow 25 = .ok (.aload_n 0, 1) := by decide +kernel
theorem dX9_grow_26 : decode cX9_grow 26 = .ok (.getfield 25, 3) := by decide +kernel
theorem dX9_grow_29 : decode cX9_grow 29 = .ok (.iconst 4, 1) := by decide +kernel
theorem dX9_grow_30 : decode cX9_grow 30 = .ok (.iload_n 1, 1) := by decide +kernel
theorem dX9_grow_31 : decode cX9_grow 31 = .ok (.imul, 1) := by decide +kernel
theorem dX9_grow_32 : decode cX9_grow 32 = .ok (.iload_n 2, 1) := by decide +kernel
theorem dX9_grow_33 : decode cX9_grow 33 = .ok (.iadd, 1) := by decide +kernel
theorem dX9_grow_34 : decode cX9_grow 34 = .ok (.aload_n 0, 1) := by decide +kernel
theorem dX9_grow_35 : decode cX9_grow 35 = .ok (.aload_n 0, 1) := by decide +kernel
theorem dX9_grow_36 : decode cX9_grow 36 = .ok (.getfield 25, 3) := by decide +kernel
theorem dX9_grow_39 : decode cX9_grow 39 = .ok (.iconst 4, 1) := by decide +kernel
theorem dX9_grow_40 : decode cX9_grow 40 = .ok (.iload_n 1, 1) := by decide +kernel
theorem dX9_grow_41 : decode cX9_grow 41 = .ok (.imul, 1) := by decide +kernel
theorem dX9_grow_42 : decode cX9_grow 42 = .ok (.iload_n 2, 1) := by decide +kernel
theorem dX9_grow_43 : decode cX9_grow 43 = .ok (.iadd, 1) := by decide +kernel
theorem dX9_grow_44 : decode cX9_grow 44 = .ok (.iaload, 1) := by decide +kernel
theorem dX9_grow_45 : decode cX9_grow 45 = .ok (.iload_n 3, 1) := by decide +kernel
theorem dX9_grow_46 : decode cX9_grow 46 = .ok (.invokevirtual 125, 3) := by decide +kernel
theorem dX9_grow_49 : decode cX9_grow 49 = .ok (.iastore, 1) := by decide +kernel
theorem dX9_grow_50 : decode cX9_grow 50 = .ok (.aload_n 0, 1) := by decide +kernel
theorem dX9_grow_51 : decode cX9_grow 51 = .ok (.getfield 25, 3) := by decide +kernel
theorem dX9_grow_54 : decode cX9_grow 54 = .ok (.iconst 4, 1) := by decide +kernel
theorem dX9_grow_55 : decode cX9_grow 55 = .ok (.iload_n 1, 1) := by decide +kernel
theorem dX9_grow_56 : decode cX9_grow 56 = .ok (.imul, 1) := by decide +kernel
theorem dX9_grow_57 : decode cX9_grow 57 = .ok (.iload_n 2, 1) := by decide +kernel
theorem dX9_grow_58 : decode cX9_grow 58 = .ok (.iadd, 1) := by decide +kernel
theorem dX9_grow_59 : decode cX9_grow 59 = .ok (.iaload, 1) := by decide +kernel
theorem dX9_grow_60 : decode cX9_grow 60 = .ok (.ireturn, 1) := by decide +kernel
theorem dX9_choose_0 : decode cX9_choose 0 = .ok (.aload_n 0, 1) := by decide +kernel
theorem dX9_choose_1 : decode cX9_choose 1 = .ok (.iload_n 1, 1) := by decide +kernel
theorem dX9_choose_2 : decode cX9_choose 2 = .ok (.iload_n 2, 1) := by decide +kernel
theorem dX9_choose_3 : decode cX9_choose 3 = .ok (.invokevirtual 141, 3) := by decide +kernel
theorem dX9_choose_6 : decode cX9_choose 6 = .ok (.ifCond .ne 5, 3) := by decide +kernel
theorem dX9_choose_9 : decode cX9_choose 9 = .ok (.iconst (-1), 1) := by decide +kernel
theorem dX9_choose_10 : decode cX9_choose 10 = .ok (.ireturn, 1) := by decide +kernel
theorem dX9_choose_11 : decode cX9_choose 11 = .ok (.aload_n 0, 1) := by decide +kernel
theorem dX9_choose_12 : decode cX9_choose 12 = .ok (.getfield 22, 3) := by decide +kernel
theorem dX9_choose_15 : decode cX9_choose 15 = .ok (.iload_n 1, 1) := by decide +kernel
theorem dX9_choose_16 : decode cX9_choose 16 = .ok (.iaload, 1) := by decide +kernel
theorem dX9_choose_17 : decode cX9_choose 17 = .ok (.istore_n 3, 1) := by decide +kernel
theorem dX9_choose_18 : decode cX9_choose 18 = .ok (.iload_n 3, 1) := by decide +kernel
theorem dX9_choose_19 : decode cX9_choose 19 = .ok (.iload_n 2, 1) := by decide +kernel
theorem dX9_choose_20 : decode cX9_choose 20 = .ok (.if_icmp .ne 6, 3) := by decide +kernel
theorem dX9_choose_23 : decode cX9_choose 23 = .ok (.bipush (-2), 2) := by decide +kernel
theorem dX9_choose_25 : decode cX9_choose 25 = .ok (.ireturn, 1) := by decide +kernel
theorem dX9_choose_26 : decode cX9_choose 26 = .ok (.aload_n 0, 1) := by decide +kernel
theorem dX9_choose_27 : decode cX9_choose 27 = .ok (.getfield 22, 3) := by decide +kernel
theorem dX9_choose_30 : decode cX9_choose 30 = .ok (.iload_n 1, 1) := by decide +kernel
theorem dX9_choose_31 : decode cX9_choose 31 = .ok (.iload_n 2, 1) := by decide +kernel
theorem dX9_choose_32 : decode cX9_choose 32 = .ok (.iastore, 1) := by decide +kernel
theorem dX9_choose_33 : decode cX9_choose 33 = .ok (.iload_n 3, 1) := by decide +kernel
theorem dX9_choose_34 : decode cX9_choose 34 = .ok (.ireturn, 1) := by decide +kernel
theorem dX9_leastPair_0 : decode cX9_leastPair 0 = .ok (.aload_n 0, 1) := by decide +kernel
theorem dX9_leastPair_1 : decode cX9_leastPair 1 = .ok (.getfield 62, 3) := by decide +kernel
theorem dX9_leastPair_4 : decode cX9_leastPair 4 = .ok (.istore 4, 2) := by decide +kernel
theorem dX9_leastPair_6 : decode cX9_leastPair 6 = .ok (.iconst 0, 1) := by decide +kernel
theorem dX9_leastPair_7 : decode cX9_leastPair 7 = .ok (.istore 5, 2) := by decide +kernel
theorem dX9_leastPair_9 : decode cX9_leastPair 9 = .ok (.iload 5, 2) := by decide +kernel
theorem dX9_leastPair_11 : decode cX9_leastPair 11 = .ok (.aload_n 0, 1) := by decide +kernel
theorem dX9_leastPair_12 : decode cX9_leastPair 12 = .ok (.getfield 13, 3) := by decide +kernel
theorem dX9_leastPair_15 : decode cX9_leastPair 15 = .ok (.aload_n 0, 1) := by decide +kernel
theorem dX9_leastPair_16 : decode cX9_leastPair 16 = .ok (.iload_n 1, 1) := by decide +kernel
theorem dX9_leastPair_17 : decode cX9_leastPair 17 = .ok (.iconst 1, 1) := by decide +kernel
theorem dX9_leastPair_18 : decode cX9_leastPair 18 = .ok (.iload_n 2, 1) := by decide +kernel
theorem dX9_leastPair_19 : decode cX9_leastPair 19 = .ok (.isub, 1) := by decide +kernel
theorem dX9_leastPair_20 : decode cX9_leastPair 20 = .ok (.invokevirtual 147, 3) := by decide +kernel
theorem dX9_leastPair_23 : decode cX9_leastPair 23 = .ok (.iaload, 1) := by decide +kernel
theorem dX9_leastPair_24 : decode cX9_leastPair 24 = .ok (.if_icmp .ge 40, 3) := by decide +kernel
theorem dX9_leastPair_27 : decode cX9_leastPair 27 = .ok (.aload_n 0, 1) := by decide +kernel
theorem dX9_leastPair_28 : decode cX9_leastPair 28 = .ok (.getfield 25, 3) := by decide +kernel
theorem dX9_leastPair_31 : decode cX9_leastPair 31 = .ok (.iload_n 1, 1) := by decide +kernel
theorem dX9_leastPair_32 : decode cX9_leastPair 32 = .ok (.iload_n 2, 1) := by decide +kernel
theorem dX9_leastPair_33 : decode cX9_leastPair 33 = .ok (.iload_n 3, 1) := by decide +kernel
theorem dX9_leastPair_34 : decode cX9_leastPair 34 = .ok (.iload 5, 2) := by decide +kernel
theorem dX9_leastPair_36 : decode cX9_leastPair 36 = .ok (.invokestatic 150, 3) := by decide +kernel
theorem dX9_leastPair_39 : decode cX9_leastPair 39 = .ok (.iaload, 1) := by decide +kernel
theorem dX9_leastPair_40 : decode cX9_leastPair 40 = .ok (.istore 6, 2) := by decide +kernel
theorem dX9_leastPair_42 : decode cX9_leastPair 42 = .ok (.iload 6, 2) := by decide +kernel
theorem dX9_leastPair_44 : decode cX9_leastPair 44 = .ok (.iload 4, 2) := by decide +kernel
theorem dX9_leastPair_46 : decode cX9_leastPair 46 = .ok (.if_icmp .ge 8, 3) := by decide +kernel
theorem dX9_leastPair_49 : decode cX9_leastPair 49 = .ok (.iload 6, 2) := by decide +kernel
theorem dX9_leastPair_51 : decode cX9_leastPair 51 = .ok (.goto 5, 3) := by decide +kernel
theorem dX9_leastPair_54 : decode cX9_leastPair 54 = .ok (.iload 4, 2) := by decide +kernel
theorem dX9_leastPair_56 : decode cX9_leastPair 56 = .ok (.istore 4, 2) := by decide +kernel
theorem dX9_leastPair_58 : decode cX9_leastPair 58 = .ok (.iinc 5 1, 3) := by decide +kernel
theorem dX9_leastPair_61 : decode cX9_leastPair 61 = .ok (.goto (-52), 3) := by decide +kernel
theorem dX9_leastPair_64 : decode cX9_leastPair 64 = .ok (.iload 4, 2) := by decide +kernel
theorem dX9_leastPair_66 : decode cX9_leastPair 66 = .ok (.ireturn, 1) := by decide +kernel
theorem dX9_projects_0 : decode cX9_projects 0 = .ok (.iconst 0, 1) := by decide +kernel
theorem dX9_projects_1 : decode cX9_projects 1 = .ok (.istore 5, 2) := by decide +kernel
theorem dX9_projects_3 : decode cX9_projects 3 = .ok (.iload 5, 2) := by decide +kernel
theorem dX9_projects_5 : decode cX9_projects 5 = .ok (.aload_n 0, 1) := by decide +kernel
theorem dX9_projects_6 : decode cX9_projects 6 = .ok (.getfield 13, 3) := by decide +kernel
theorem dX9_projects_9 : decode cX9_projects 9 = .ok (.aload_n 0, 1) := by decide +kernel
theorem dX9_projects_10 : decode cX9_projects 10 = .ok (.iload_n 1, 1) := by decide +kernel
theorem dX9_projects_11 : decode cX9_projects 11 = .ok (.iconst 1, 1) := by decide +kernel
theorem dX9_projects_12 : decode cX9_projects 12 = .ok (.iload_n 2, 1) := by decide +kernel
theorem dX9_projects_13 : decode cX9_projects 13 = .ok (.isub, 1) := by decide +kernel
theorem dX9_projects_14 : decode cX9_projects 14 = .ok (.invokevirtual 147, 3) := by decide +kernel
theorem dX9_projects_17 : decode cX9_projects 17 = .ok (.iaload, 1) := by decide +kernel
theorem dX9_projects_18 : decode cX9_projects 18 = .ok (.if_icmp .ge 39, 3) := by decide +kernel
theorem dX9_projects_21 : decode cX9_projects 21 = .ok (.iload_n 1, 1) := by decide +kernel
theorem dX9_projects_22 : decode cX9_projects 22 = .ok (.iload_n 2, 1) := by decide +kernel
theorem dX9_projects_23 : decode cX9_projects 23 = .ok (.iload_n 3, 1) := by decide +kernel
theorem dX9_projects_24 : decode cX9_projects 24 = .ok (.iload 5, 2) := by decide +kernel
theorem dX9_projects_26 : decode cX9_projects 26 = .ok (.invokestatic 150, 3) := by decide +kernel
theorem dX9_projects_29 : decode cX9_projects 29 = .ok (.istore 6, 2) := by decide +kernel
theorem dX9_projects_31 : decode cX9_projects 31 = .ok (.aload_n 0, 1) := by decide +kernel
theorem dX9_projects_32 : decode cX9_projects 32 = .ok (.getfield 25, 3) := by decide +kernel
theorem dX9_projects_35 : decode cX9_projects 35 = .ok (.iload 6, 2) := by decide +kernel
theorem dX9_projects_37 : decode cX9_projects 37 = .ok (.aload_n 0, 1) := by decide +kernel
theorem dX9_projects_38 : decode cX9_projects 38 = .ok (.aload_n 0, 1) := by decide +kernel
theorem dX9_projects_39 : decode cX9_projects 39 = .ok (.getfield 25, 3) := by decide +kernel
theorem dX9_projects_42 : decode cX9_projects 42 = .ok (.iload 6, 2) := by decide +kernel
theorem dX9_projects_44 : decode cX9_projects 44 = .ok (.iaload, 1) := by decide +kernel
theorem dX9_projects_45 : decode cX9_projects 45 = .ok (.iload 4, 2) := by decide +kernel
theorem dX9_projects_47 : decode cX9_projects 47 = .ok (.invokevirtual 157, 3) := by decide +kernel
theorem dX9_projects_50 : decode cX9_projects 50 = .ok (.iastore, 1) := by decide +kernel
theorem dX9_projects_51 : decode cX9_projects 51 = .ok (.iinc 5 1, 3) := by decide +kernel
theorem dX9_projects_54 : decode cX9_projects 54 = .ok (.goto (-51), 3) := by decide +kernel
theorem dX9_projects_57 : decode cX9_projects 57 = .ok (.iconst 4, 1) := by decide +kernel
theorem dX9_projects_58 : decode cX9_projects 58 = .ok (.aload_n 0, 1) := by decide +kernel
theorem dX9_projects_59 : decode cX9_projects 59 = .ok (.iload_n 1, 1) := by decide +kernel
theorem dX9_projects_60 : decode cX9_projects 60 = .ok (.iload_n 2, 1) := by decide +kernel
theorem dX9_projects_61 : decode cX9_projects 61 = .ok (.invokevirtual 147, 3) := by decide +kernel
theorem dX9_projects_64 : decode cX9_projects 64 = .ok (.imul, 1) := by decide +kernel
theorem dX9_projects_65 : decode cX9_projects 65 = .ok (.iload_n 3, 1) := by decide +kernel
theorem dX9_projects_66 : decode cX9_projects 66 = .ok (.iadd, 1) := by decide +kernel
theorem dX9_projects_67 : decode cX9_projects 67 = .ok (.istore 5, 2) := by decide +kernel
theorem dX9_projects_69 : decode cX9_projects 69 = .ok (.aload_n 0, 1) := by decide +kernel
theorem dX9_projects_70 : decode cX9_projects 70 = .ok (.getfield 25, 3) := by decide +kernel
theorem dX9_projects_73 : decode cX9_projects 73 = .ok (.iload 5, 2) := by decide +kernel
theorem dX9_projects_75 : decode cX9_projects 75 = .ok (.aload_n 0, 1) := by decide +kernel
theorem dX9_projects_76 : decode cX9_projects 76 = .ok (.aload_n 0, 1) := by decide +kernel
theorem dX9_projects_77 : decode cX9_projects 77 = .ok (.getfield 25, 3) := by decide +kernel
theorem dX9_projects_80 : decode cX9_projects 80 = .ok (.iload 5, 2) := by decide +kernel
theorem dX9_projects_82 : decode cX9_projects 82 = .ok (.iaload, 1) := by decide +kernel
theorem dX9_projects_83 : decode cX9_projects 83 = .ok (.iload 4, 2) := by decide +kernel
theorem dX9_projects_85 : decode cX9_projects 85 = .ok (.invokevirtual 125, 3) := by decide +kernel
theorem dX9_projects_88 : decode cX9_projects 88 = .ok (.iastore, 1) := by decide +kernel
theorem dX9_projects_89 : decode cX9_projects 89 = .ok (.return_, 1) := by decide +kernel
theorem dX9_extendsBy_0 : decode cX9_extendsBy 0 = .ok (.iconst 4, 1) := by decide +kernel
theorem dX9_extendsBy_1 : decode cX9_extendsBy 1 = .ok (.aload_n 0, 1) := by decide +kernel
theorem dX9_extendsBy_2 : decode cX9_extendsBy 2 = .ok (.iload_n 1, 1) := by decide +kernel
theorem dX9_extendsBy_3 : decode cX9_extendsBy 3 = .ok (.iload_n 2, 1) := by decide +kernel
theorem dX9_extendsBy_4 : decode cX9_extendsBy 4 = .ok (.invokevirtual 147, 3) := by decide +kernel
theorem dX9_extendsBy_7 : decode cX9_extendsBy 7 = .ok (.imul, 1) := by decide +kernel
theorem dX9_extendsBy_8 : decode cX9_extendsBy 8 = .ok (.iload_n 3, 1) := by decide +kernel
theorem dX9_extendsBy_9 : decode cX9_extendsBy 9 = .ok (.iadd, 1) := by decide +kernel
theorem dX9_extendsBy_10 : decode cX9_extendsBy 10 = .ok (.istore 5, 2) := by decide +kernel
theorem dX9_extendsBy_12 : decode cX9_extendsBy 12 = .ok (.aload_n 0, 1) := by decide +kernel
theorem dX9_extendsBy_13 : decode cX9_extendsBy 13 = .ok (.getfield 25, 3) := by decide +kernel
theorem dX9_extendsBy_16 : decode cX9_extendsBy 16 = .ok (.iload 5, 2) := by decide +kernel
theorem dX9_extendsBy_18 : decode cX9_extendsBy 18 = .ok (.aload_n 0, 1) := by decide +kernel
theorem dX9_extendsBy_19 : decode cX9_extendsBy 19 = .ok (.aload_n 0, 1) := by decide +kernel
theorem dX9_extendsBy_20 : decode cX9_extendsBy 20 = .ok (.getfield 25, 3) := by decide +kernel
theorem dX9_extendsBy_23 : decode cX9_extendsBy 23 = .ok (.iload 5, 2) := by decide +kernel
theorem dX9_extendsBy_25 : decode cX9_extendsBy 25 = .ok (.iaload, 1) := by decide +kernel
theorem dX9_extendsBy_26 : decode cX9_extendsBy 26 = .ok (.iload 4, 2) := by decide +kernel
theorem dX9_extendsBy_28 : decode cX9_extendsBy 28 = .ok (.invokevirtual 157, 3) := by decide +kernel
theorem dX9_extendsBy_31 : decode cX9_extendsBy 31 = .ok (.iastore, 1) := by decide +kernel
theorem dX9_extendsBy_32 : decode cX9_extendsBy 32 = .ok (.iconst 0, 1) := by decide +kernel
theorem dX9_extendsBy_33 : decode cX9_extendsBy 33 = .ok (.istore 6, 2) := by decide +kernel
theorem dX9_extendsBy_35 : decode cX9_extendsBy 35 = .ok (.iload 6, 2) := by decide +kernel
theorem dX9_extendsBy_37 : decode cX9_extendsBy 37 = .ok (.aload_n 0, 1) := by decide +kernel
theorem dX9_extendsBy_38 : decode cX9_extendsBy 38 = .ok (.getfield 13, 3) := by decide +kernel
theorem dX9_extendsBy_41 : decode cX9_extendsBy 41 = .ok (.aload_n 0, 1) := by decide +kernel
theorem dX9_extendsBy_42 : decode cX9_extendsBy 42 = .ok (.iload_n 1, 1) := by decide +kernel
theorem dX9_extendsBy_43 : decode cX9_extendsBy 43 = .ok (.iconst 1, 1) := by decide +kernel
theorem dX9_extendsBy_44 : decode cX9_extendsBy 44 = .ok (.iload_n 2, 1) := by decide +kernel
theorem dX9_extendsBy_45 : decode cX9_extendsBy 45 = .ok (.isub, 1) := by decide +kernel
theorem dX9_extendsBy_46 : decode cX9_extendsBy 46 = .ok (.invokevirtual 147, 3) := by decide +kernel
theorem dX9_extendsBy_49 : decode cX9_extendsBy 49 = .ok (.iaload, 1) := by decide +kernel
theorem dX9_extendsBy_50 : decode cX9_extendsBy 50 = .ok (.if_icmp .ge 39, 3) := by decide +kernel
theorem dX9_extendsBy_53 : decode cX9_extendsBy 53 = .ok (.iload_n 1, 1) := by decide +kernel
end
section
theorem dX9_extendsBy_54 : decode cX9_extendsBy 54 = .ok (.iload_n 2, 1) := by decide +kernel
theorem dX9_extendsBy_55 : decode cX9_extendsBy 55 = .ok (.iload_n 3, 1) := by decide +kernel
theorem dX9_extendsBy_56 : decode cX9_extendsBy 56 = .ok (.iload 6, 2) := by decide +kernel
theorem dX9_extendsBy_58 : decode cX9_extendsBy 58 = .ok (.invokestatic 150, 3) := by decide +kernel
theorem dX9_extendsBy_61 : decode cX9_extendsBy 61 = .ok (.istore 7, 2) := by decide +kernel
theorem dX9_extendsBy_63 : decode cX9_extendsBy 63 = .ok (.aload_n 0, 1) := by decide +kernel
theorem dX9_extendsBy_64 : decode cX9_extendsBy 64 = .ok (.getfield 25, 3) := by decide +kernel
theorem dX9_extendsBy_67 : decode cX9_extendsBy 67 = .ok (.iload 7, 2) := by decide +kernel
theorem dX9_extendsBy_69 : decode cX9_extendsBy 69 = .ok (.aload_n 0, 1) := by decide +kernel
theorem dX9_extendsBy_70 : decode cX9_extendsBy 70 = .ok (.aload_n 0, 1) := by decide +kernel
theorem dX9_extendsBy_71 : decode cX9_extendsBy 71 = .ok (.getfield 25, 3) := by decide +kernel
theorem dX9_extendsBy_74 : decode cX9_extendsBy 74 = .ok (.iload 7, 2) := by decide +kernel
theorem dX9_extendsBy_76 : decode cX9_extendsBy 76 = .ok (.iaload, 1) := by decide +kernel
theorem dX9_extendsBy_77 : decode cX9_extendsBy 77 = .ok (.iload 4, 2) := by decide +kernel
theorem dX9_extendsBy_79 : decode cX9_extendsBy 79 = .ok (.invokevirtual 125, 3) := by decide +kernel
theorem dX9_extendsBy_82 : decode cX9_extendsBy 82 = .ok (.iastore, 1) := by decide +kernel
theorem dX9_extendsBy_83 : decode cX9_extendsBy 83 = .ok (.iinc 6 1, 3) := by decide +kernel
theorem dX9_extendsBy_86 : decode cX9_extendsBy 86 = .ok (.goto (-51), 3) := by decide +kernel
theorem dX9_extendsBy_89 : decode cX9_extendsBy 89 = .ok (.return_, 1) := by decide +kernel
theorem dX9_raises_0 : decode cX9_raises 0 = .ok (.iconst 0, 1) := by decide +kernel
theorem dX9_raises_1 : decode cX9_raises 1 = .ok (.istore_n 3, 1) := by decide +kernel
theorem dX9_raises_2 : decode cX9_raises 2 = .ok (.iload_n 3, 1) := by decide +kernel
theorem dX9_raises_3 : decode cX9_raises 3 = .ok (.aload_n 0, 1) := by decide +kernel
theorem dX9_raises_4 : decode cX9_raises 4 = .ok (.getfield 13, 3) := by decide +kernel
theorem dX9_raises_7 : decode cX9_raises 7 = .ok (.iload_n 1, 1) := by decide +kernel
theorem dX9_raises_8 : decode cX9_raises 8 = .ok (.iaload, 1) := by decide +kernel
theorem dX9_raises_9 : decode cX9_raises 9 = .ok (.if_icmp .ge 34, 3) := by decide +kernel
theorem dX9_raises_12 : decode cX9_raises 12 = .ok (.aload_n 0, 1) := by decide +kernel
theorem dX9_raises_13 : decode cX9_raises 13 = .ok (.getfield 25, 3) := by decide +kernel
theorem dX9_raises_16 : decode cX9_raises 16 = .ok (.iconst 4, 1) := by decide +kernel
theorem dX9_raises_17 : decode cX9_raises 17 = .ok (.iload_n 1, 1) := by decide +kernel
theorem dX9_raises_18 : decode cX9_raises 18 = .ok (.imul, 1) := by decide +kernel
theorem dX9_raises_19 : decode cX9_raises 19 = .ok (.iload_n 3, 1) := by decide +kernel
theorem dX9_raises_20 : decode cX9_raises 20 = .ok (.iadd, 1) := by decide +kernel
theorem dX9_raises_21 : decode cX9_raises 21 = .ok (.aload_n 0, 1) := by decide +kernel
theorem dX9_raises_22 : decode cX9_raises 22 = .ok (.aload_n 0, 1) := by decide +kernel
theorem dX9_raises_23 : decode cX9_raises 23 = .ok (.getfield 25, 3) := by decide +kernel
theorem dX9_raises_26 : decode cX9_raises 26 = .ok (.iconst 4, 1) := by decide +kernel
theorem dX9_raises_27 : decode cX9_raises 27 = .ok (.iload_n 1, 1) := by decide +kernel
theorem dX9_raises_28 : decode cX9_raises 28 = .ok (.imul, 1) := by decide +kernel
theorem dX9_raises_29 : decode cX9_raises 29 = .ok (.iload_n 3, 1) := by decide +kernel
theorem dX9_raises_30 : decode cX9_raises 30 = .ok (.iadd, 1) := by decide +kernel
theorem dX9_raises_31 : decode cX9_raises 31 = .ok (.iaload, 1) := by decide +kernel
theorem dX9_raises_32 : decode cX9_raises 32 = .ok (.iload_n 2, 1) := by decide +kernel
theorem dX9_raises_33 : decode cX9_raises 33 = .ok (.invokevirtual 157, 3) := by decide +kernel
theorem dX9_raises_36 : decode cX9_raises 36 = .ok (.iastore, 1) := by decide +kernel
theorem dX9_raises_37 : decode cX9_raises 37 = .ok (.iinc 3 1, 3) := by decide +kernel
theorem dX9_raises_40 : decode cX9_raises 40 = .ok (.goto (-38), 3) := by decide +kernel
theorem dX9_raises_43 : decode cX9_raises 43 = .ok (.aload_n 0, 1) := by decide +kernel
theorem dX9_raises_44 : decode cX9_raises 44 = .ok (.getfield 25, 3) := by decide +kernel
theorem dX9_raises_47 : decode cX9_raises 47 = .ok (.sipush 168, 3) := by decide +kernel
theorem dX9_raises_50 : decode cX9_raises 50 = .ok (.aload_n 0, 1) := by decide +kernel
theorem dX9_raises_51 : decode cX9_raises 51 = .ok (.aload_n 0, 1) := by decide +kernel
theorem dX9_raises_52 : decode cX9_raises 52 = .ok (.getfield 25, 3) := by decide +kernel
theorem dX9_raises_55 : decode cX9_raises 55 = .ok (.sipush 168, 3) := by decide +kernel
theorem dX9_raises_58 : decode cX9_raises 58 = .ok (.iaload, 1) := by decide +kernel
theorem dX9_raises_59 : decode cX9_raises 59 = .ok (.iload_n 2, 1) := by decide +kernel
theorem dX9_raises_60 : decode cX9_raises 60 = .ok (.invokevirtual 125, 3) := by decide +kernel
theorem dX9_raises_63 : decode cX9_raises 63 = .ok (.iastore, 1) := by decide +kernel
theorem dX9_raises_64 : decode cX9_raises 64 = .ok (.return_, 1) := by decide +kernel
theorem dX9_isMoved_0 : decode cX9_isMoved 0 = .ok (.aload_n 0, 1) := by decide +kernel
theorem dX9_isMoved_1 : decode cX9_isMoved 1 = .ok (.iload_n 1, 1) := by decide +kernel
theorem dX9_isMoved_2 : decode cX9_isMoved 2 = .ok (.invokevirtual 144, 3) := by decide +kernel
theorem dX9_isMoved_5 : decode cX9_isMoved 5 = .ok (.ifCond .eq 41, 3) := by decide +kernel
theorem dX9_isMoved_8 : decode cX9_isMoved 8 = .ok (.iload_n 2, 1) := by decide +kernel
theorem dX9_isMoved_9 : decode cX9_isMoved 9 = .ok (.iconst 0, 1) := by decide +kernel
theorem dX9_isMoved_10 : decode cX9_isMoved 10 = .ok (.iconst 1, 1) := by decide +kernel
theorem dX9_isMoved_11 : decode cX9_isMoved 11 = .ok (.invokestatic 85, 3) := by decide +kernel
theorem dX9_isMoved_14 : decode cX9_isMoved 14 = .ok (.ifCond .eq 32, 3) := by decide +kernel
theorem dX9_isMoved_17 : decode cX9_isMoved 17 = .ok (.aload_n 0, 1) := by decide +kernel
theorem dX9_isMoved_18 : decode cX9_isMoved 18 = .ok (.aload_n 0, 1) := by decide +kernel
theorem dX9_isMoved_19 : decode cX9_isMoved 19 = .ok (.iload_n 1, 1) := by decide +kernel
theorem dX9_isMoved_20 : decode cX9_isMoved 20 = .ok (.iload_n 2, 1) := by decide +kernel
theorem dX9_isMoved_21 : decode cX9_isMoved 21 = .ok (.invokevirtual 147, 3) := by decide +kernel
theorem dX9_isMoved_24 : decode cX9_isMoved 24 = .ok (.iload_n 3, 1) := by decide +kernel
theorem dX9_isMoved_25 : decode cX9_isMoved 25 = .ok (.invokevirtual 141, 3) := by decide +kernel
theorem dX9_isMoved_28 : decode cX9_isMoved 28 = .ok (.ifCond .eq 18, 3) := by decide +kernel
theorem dX9_isMoved_31 : decode cX9_isMoved 31 = .ok (.iload 4, 2) := by decide +kernel
theorem dX9_isMoved_33 : decode cX9_isMoved 33 = .ok (.iconst 1, 1) := by decide +kernel
theorem dX9_isMoved_34 : decode cX9_isMoved 34 = .ok (.bipush 99, 2) := by decide +kernel
theorem dX9_isMoved_36 : decode cX9_isMoved 36 = .ok (.invokestatic 85, 3) := by decide +kernel
theorem dX9_isMoved_39 : decode cX9_isMoved 39 = .ok (.ifCond .eq 7, 3) := by decide +kernel
theorem dX9_isMoved_42 : decode cX9_isMoved 42 = .ok (.iconst 1, 1) := by decide +kernel
theorem dX9_isMoved_43 : decode cX9_isMoved 43 = .ok (.goto 4, 3) := by decide +kernel
theorem dX9_isMoved_46 : decode cX9_isMoved 46 = .ok (.iconst 0, 1) := by decide +kernel
theorem dX9_isMoved_47 : decode cX9_isMoved 47 = .ok (.ireturn, 1) := by decide +kernel
theorem dX9_project_0 : decode cX9_project 0 = .ok (.aload_n 0, 1) := by decide +kernel
theorem dX9_project_1 : decode cX9_project 1 = .ok (.iload_n 1, 1) := by decide +kernel
theorem dX9_project_2 : decode cX9_project 2 = .ok (.iload_n 2, 1) := by decide +kernel
theorem dX9_project_3 : decode cX9_project 3 = .ok (.iload_n 3, 1) := by decide +kernel
theorem dX9_project_4 : decode cX9_project 4 = .ok (.iload 4, 2) := by decide +kernel
theorem dX9_project_6 : decode cX9_project 6 = .ok (.invokevirtual 160, 3) := by decide +kernel
theorem dX9_project_9 : decode cX9_project 9 = .ok (.ifCond .ne 5, 3) := by decide +kernel
theorem dX9_project_12 : decode cX9_project 12 = .ok (.iconst (-1), 1) := by decide +kernel
theorem dX9_project_13 : decode cX9_project 13 = .ok (.ireturn, 1) := by decide +kernel
theorem dX9_project_14 : decode cX9_project 14 = .ok (.aload_n 0, 1) := by decide +kernel
theorem dX9_project_15 : decode cX9_project 15 = .ok (.iload_n 1, 1) := by decide +kernel
theorem dX9_project_16 : decode cX9_project 16 = .ok (.iload_n 2, 1) := by decide +kernel
theorem dX9_project_17 : decode cX9_project 17 = .ok (.iload_n 3, 1) := by decide +kernel
theorem dX9_project_18 : decode cX9_project 18 = .ok (.invokevirtual 164, 3) := by decide +kernel
theorem dX9_project_21 : decode cX9_project 21 = .ok (.iload 4, 2) := by decide +kernel
theorem dX9_project_23 : decode cX9_project 23 = .ok (.if_icmp .ge 6, 3) := by decide +kernel
theorem dX9_project_26 : decode cX9_project 26 = .ok (.bipush (-2), 2) := by decide +kernel
theorem dX9_project_28 : decode cX9_project 28 = .ok (.ireturn, 1) := by decide +kernel
theorem dX9_project_29 : decode cX9_project 29 = .ok (.aload_n 0, 1) := by decide +kernel
theorem dX9_project_30 : decode cX9_project 30 = .ok (.invokevirtual 154, 3) := by decide +kernel
theorem dX9_project_33 : decode cX9_project 33 = .ok (.aload_n 0, 1) := by decide +kernel
theorem dX9_project_34 : decode cX9_project 34 = .ok (.iload_n 1, 1) := by decide +kernel
theorem dX9_project_35 : decode cX9_project 35 = .ok (.iload_n 2, 1) := by decide +kernel
theorem dX9_project_36 : decode cX9_project 36 = .ok (.iload_n 3, 1) := by decide +kernel
theorem dX9_project_37 : decode cX9_project 37 = .ok (.iload 4, 2) := by decide +kernel
theorem dX9_project_39 : decode cX9_project 39 = .ok (.invokevirtual 168, 3) := by decide +kernel
theorem dX9_project_42 : decode cX9_project 42 = .ok (.aload_n 0, 1) := by decide +kernel
theorem dX9_project_43 : decode cX9_project 43 = .ok (.getfield 25, 3) := by decide +kernel
theorem dX9_project_46 : decode cX9_project 46 = .ok (.iconst 4, 1) := by decide +kernel
theorem dX9_project_47 : decode cX9_project 47 = .ok (.aload_n 0, 1) := by decide +kernel
theorem dX9_project_48 : decode cX9_project 48 = .ok (.iload_n 1, 1) := by decide +kernel
theorem dX9_project_49 : decode cX9_project 49 = .ok (.iload_n 2, 1) := by decide +kernel
theorem dX9_project_50 : decode cX9_project 50 = .ok (.invokevirtual 147, 3) := by decide +kernel
theorem dX9_project_53 : decode cX9_project 53 = .ok (.imul, 1) := by decide +kernel
theorem dX9_project_54 : decode cX9_project 54 = .ok (.iload_n 3, 1) := by decide +kernel
theorem dX9_project_55 : decode cX9_project 55 = .ok (.iadd, 1) := by decide +kernel
theorem dX9_project_56 : decode cX9_project 56 = .ok (.iaload, 1) := by decide +kernel
theorem dX9_project_57 : decode cX9_project 57 = .ok (.ireturn, 1) := by decide +kernel
theorem dX9_extend_0 : decode cX9_extend 0 = .ok (.aload_n 0, 1) := by decide +kernel
theorem dX9_extend_1 : decode cX9_extend 1 = .ok (.iload_n 1, 1) := by decide +kernel
theorem dX9_extend_2 : decode cX9_extend 2 = .ok (.iload_n 2, 1) := by decide +kernel
theorem dX9_extend_3 : decode cX9_extend 3 = .ok (.iload_n 3, 1) := by decide +kernel
theorem dX9_extend_4 : decode cX9_extend 4 = .ok (.iload 4, 2) := by decide +kernel
theorem dX9_extend_6 : decode cX9_extend 6 = .ok (.invokevirtual 160, 3) := by decide +kernel
theorem dX9_extend_9 : decode cX9_extend 9 = .ok (.ifCond .ne 5, 3) := by decide +kernel
theorem dX9_extend_12 : decode cX9_extend 12 = .ok (.iconst (-1), 1) := by decide +kernel
theorem dX9_extend_13 : decode cX9_extend 13 = .ok (.ireturn, 1) := by decide +kernel
theorem dX9_extend_14 : decode cX9_extend 14 = .ok (.aload_n 0, 1) := by decide +kernel
theorem dX9_extend_15 : decode cX9_extend 15 = .ok (.getfield 25, 3) := by decide +kernel
theorem dX9_extend_18 : decode cX9_extend 18 = .ok (.iconst 4, 1) := by decide +kernel
theorem dX9_extend_19 : decode cX9_extend 19 = .ok (.aload_n 0, 1) := by decide +kernel
theorem dX9_extend_20 : decode cX9_extend 20 = .ok (.iload_n 1, 1) := by decide +kernel
theorem dX9_extend_21 : decode cX9_extend 21 = .ok (.iload_n 2, 1) := by decide +kernel
theorem dX9_extend_22 : decode cX9_extend 22 = .ok (.invokevirtual 147, 3) := by decide +kernel
theorem dX9_extend_25 : decode cX9_extend 25 = .ok (.imul, 1) := by decide +kernel
theorem dX9_extend_26 : decode cX9_extend 26 = .ok (.iload_n 3, 1) := by decide +kernel
theorem dX9_extend_27 : decode cX9_extend 27 = .ok (.iadd, 1) := by decide +kernel
theorem dX9_extend_28 : decode cX9_extend 28 = .ok (.iaload, 1) := by decide +kernel
theorem dX9_extend_29 : decode cX9_extend 29 = .ok (.iload 4, 2) := by decide +kernel
theorem dX9_extend_31 : decode cX9_extend 31 = .ok (.if_icmp .ge 6, 3) := by decide +kernel
theorem dX9_extend_34 : decode cX9_extend 34 = .ok (.bipush (-2), 2) := by decide +kernel
theorem dX9_extend_36 : decode cX9_extend 36 = .ok (.ireturn, 1) := by decide +kernel
theorem dX9_extend_37 : decode cX9_extend 37 = .ok (.aload_n 0, 1) := by decide +kernel
theorem dX9_extend_38 : decode cX9_extend 38 = .ok (.invokevirtual 154, 3) := by decide +kernel
theorem dX9_extend_41 : decode cX9_extend 41 = .ok (.aload_n 0, 1) := by decide +kernel
theorem dX9_extend_42 : decode cX9_extend 42 = .ok (.iload_n 1, 1) := by decide +kernel
theorem dX9_extend_43 : decode cX9_extend 43 = .ok (.iload_n 2, 1) := by decide +kernel
theorem dX9_extend_44 : decode cX9_extend 44 = .ok (.iload_n 3, 1) := by decide +kernel
theorem dX9_extend_45 : decode cX9_extend 45 = .ok (.iload 4, 2) := by decide +kernel
theorem dX9_extend_47 : decode cX9_extend 47 = .ok (.invokevirtual 171, 3) := by decide +kernel
theorem dX9_extend_50 : decode cX9_extend 50 = .ok (.aload_n 0, 1) := by decide +kernel
theorem dX9_extend_51 : decode cX9_extend 51 = .ok (.getfield 25, 3) := by decide +kernel
theorem dX9_extend_54 : decode cX9_extend 54 = .ok (.iconst 4, 1) := by decide +kernel
theorem dX9_extend_55 : decode cX9_extend 55 = .ok (.aload_n 0, 1) := by decide +kernel
theorem dX9_extend_56 : decode cX9_extend 56 = .ok (.iload_n 1, 1) := by decide +kernel
theorem dX9_extend_57 : decode cX9_extend 57 = .ok (.iload_n 2, 1) := by decide +kernel
theorem dX9_extend_58 : decode cX9_extend 58 = .ok (.invokevirtual 147, 3) := by decide +kernel
theorem dX9_extend_61 : decode cX9_extend 61 = .ok (.imul, 1) := by decide +kernel
theorem dX9_extend_62 : decode cX9_extend 62 = .ok (.iload_n 3, 1) := by decide +kernel
theorem dX9_extend_63 : decode cX9_extend 63 = .ok (.iadd, 1) := by decide +kernel
theorem dX9_extend_64 : decode cX9_extend 64 = .ok (.iaload, 1) := by decide +kernel
theorem dX9_extend_65 : decode cX9_extend 65 = .ok (.ireturn, 1) := by decide +kernel
theorem dX9_raise_0 : decode cX9_raise 0 = .ok (.aload_n 0, 1) := by decide +kernel
theorem dX9_raise_1 : decode cX9_raise 1 = .ok (.iload_n 1, 1) := by decide +kernel
theorem dX9_raise_2 : decode cX9_raise 2 = .ok (.invokevirtual 132, 3) := by decide +kernel
theorem dX9_raise_5 : decode cX9_raise 5 = .ok (.ifCond .eq 13, 3) := by decide +kernel
theorem dX9_raise_8 : decode cX9_raise 8 = .ok (.iload_n 2, 1) := by decide +kernel
theorem dX9_raise_9 : decode cX9_raise 9 = .ok (.iconst 1, 1) := by decide +kernel
theorem dX9_raise_10 : decode cX9_raise 10 = .ok (.bipush 99, 2) := by decide +kernel
theorem dX9_raise_12 : decode cX9_raise 12 = .ok (.invokestatic 85, 3) := by decide +kernel
theorem dX9_raise_15 : decode cX9_raise 15 = .ok (.ifCond .ne 5, 3) := by decide +kernel
theorem dX9_raise_18 : decode cX9_raise 18 = .ok (.iconst (-1), 1) := by decide +kernel
theorem dX9_raise_19 : decode cX9_raise 19 = .ok (.ireturn, 1) := by decide +kernel
theorem dX9_raise_20 : decode cX9_raise 20 = .ok (.aload_n 0, 1) := by decide +kernel
theorem dX9_raise_21 : decode cX9_raise 21 = .ok (.iload_n 1, 1) := by decide +kernel
theorem dX9_raise_22 : decode cX9_raise 22 = .ok (.invokevirtual 135, 3) := by decide +kernel
theorem dX9_raise_25 : decode cX9_raise 25 = .ok (.iload_n 2, 1) := by decide +kernel
theorem dX9_raise_26 : decode cX9_raise 26 = .ok (.if_icmp .ge 6, 3) := by decide +kernel
theorem dX9_raise_29 : decode cX9_raise 29 = .ok (.bipush (-2), 2) := by decide +kernel
theorem dX9_raise_31 : decode cX9_raise 31 = .ok (.ireturn, 1) := by decide +kernel
theorem dX9_raise_32 : decode cX9_raise 32 = .ok (.aload_n 0, 1) := by decide +kernel
theorem dX9_raise_33 : decode cX9_raise 33 = .ok (.invokevirtual 154, 3) := by decide +kernel
theorem dX9_raise_36 : decode cX9_raise 36 = .ok (.aload_n 0, 1) := by decide +kernel
theorem dX9_raise_37 : decode cX9_raise 37 = .ok (.iload_n 1, 1) := by decide +kernel
theorem dX9_raise_38 : decode cX9_raise 38 = .ok (.iload_n 2, 1) := by decide +kernel
theorem dX9_raise_39 : decode cX9_raise 39 = .ok (.invokevirtual 174, 3) := by decide +kernel
theorem dX9_raise_42 : decode cX9_raise 42 = .ok (.aload_n 0, 1) := by decide +kernel
theorem dX9_raise_43 : decode cX9_raise 43 = .ok (.getfield 25, 3) := by decide +kernel
theorem dX9_raise_46 : decode cX9_raise 46 = .ok (.sipush 168, 3) := by decide +kernel
theorem dX9_raise_49 : decode cX9_raise 49 = .ok (.iaload, 1) := by decide +kernel
theorem dX9_raise_50 : decode cX9_raise 50 = .ok (.ireturn, 1) := by decide +kernel
theorem dX9_nodes_0 : decode cX9_nodes 0 = .ok (.iconst 0, 1) := by decide +kernel
theorem dX9_nodes_1 : decode cX9_nodes 1 = .ok (.istore_n 1, 1) := by decide +kernel
theorem dX9_nodes_2 : decode cX9_nodes 2 = .ok (.iload_n 1, 1) := by decide +kernel
theorem dX9_nodes_3 : decode cX9_nodes 3 = .ok (.aload_n 0, 1) := by decide +kernel
theorem dX9_nodes_4 : decode cX9_nodes 4 = .ok (.getfield 58, 3) := by decide +kernel
theorem dX9_nodes_7 : decode cX9_nodes 7 = .ok (.if_icmp .ge 79, 3) := by decide +kernel
theorem dX9_nodes_10 : decode cX9_nodes 10 = .ok (.aload_n 0, 1) := by decide +kernel
theorem dX9_nodes_11 : decode cX9_nodes 11 = .ok (.iload_n 1, 1) := by decide +kernel
theorem dX9_nodes_12 : decode cX9_nodes 12 = .ok (.invokevirtual 135, 3) := by decide +kernel
theorem dX9_nodes_15 : decode cX9_nodes 15 = .ok (.istore_n 2, 1) := by decide +kernel
theorem dX9_nodes_16 : decode cX9_nodes 16 = .ok (.iload_n 2, 1) := by decide +kernel
theorem dX9_nodes_17 : decode cX9_nodes 17 = .ok (.ifCond .le 9, 3) := by decide +kernel
theorem dX9_nodes_20 : decode cX9_nodes 20 = .ok (.aload_n 0, 1) := by decide +kernel
theorem dX9_nodes_21 : decode cX9_nodes 21 = .ok (.iload_n 1, 1) := by decide +kernel
theorem dX9_nodes_22 : decode cX9_nodes 22 = .ok (.iload_n 2, 1) := by decide +kernel
theorem dX9_nodes_23 : decode cX9_nodes 23 = .ok (.invokevirtual 174, 3) := by decide +kernel
theorem dX9_nodes_26 : decode cX9_nodes 26 = .ok (.iconst 0, 1) := by decide +kernel
theorem dX9_nodes_27 : decode cX9_nodes 27 = .ok (.istore_n 3, 1) := by decide +kernel
theorem dX9_nodes_28 : decode cX9_nodes 28 = .ok (.iload_n 3, 1) := by decide +kernel
theorem dX9_nodes_29 : decode cX9_nodes 29 = .ok (.aload_n 0, 1) := by decide +kernel
theorem dX9_nodes_30 : decode cX9_nodes 30 = .ok (.getfield 13, 3) := by decide +kernel
theorem dX9_nodes_33 : decode cX9_nodes 33 = .ok (.iload_n 1, 1) := by decide +kernel
theorem dX9_nodes_34 : decode cX9_nodes 34 = .ok (.iaload, 1) := by decide +kernel
theorem dX9_nodes_35 : decode cX9_nodes 35 = .ok (.if_icmp .ge 45, 3) := by decide +kernel
theorem dX9_nodes_38 : decode cX9_nodes 38 = .ok (.aload_n 0, 1) := by decide +kernel
theorem dX9_nodes_39 : decode cX9_nodes 39 = .ok (.getfield 25, 3) := by decide +kernel
theorem dX9_nodes_42 : decode cX9_nodes 42 = .ok (.iconst 4, 1) := by decide +kernel
theorem dX9_nodes_43 : decode cX9_nodes 43 = .ok (.iload_n 1, 1) := by decide +kernel
theorem dX9_nodes_44 : decode cX9_nodes 44 = .ok (.imul, 1) := by decide +kernel
theorem dX9_nodes_45 : decode cX9_nodes 45 = .ok (.iload_n 3, 1) := by decide +kernel
theorem dX9_nodes_46 : decode cX9_nodes 46 = .ok (.iadd, 1) := by decide +kernel
theorem dX9_nodes_47 : decode cX9_nodes 47 = .ok (.aload_n 0, 1) := by decide +kernel
theorem dX9_nodes_48 : decode cX9_nodes 48 = .ok (.iload_n 1, 1) := by decide +kernel
theorem dX9_nodes_49 : decode cX9_nodes 49 = .ok (.iload_n 3, 1) := by decide +kernel
theorem dX9_nodes_50 : decode cX9_nodes 50 = .ok (.invokevirtual 138, 3) := by decide +kernel
theorem dX9_nodes_53 : decode cX9_nodes 53 = .ok (.ifCond .eq 10, 3) := by decide +kernel
theorem dX9_nodes_56 : decode cX9_nodes 56 = .ok (.aload_n 0, 1) := by decide +kernel
theorem dX9_nodes_57 : decode cX9_nodes 57 = .ok (.getfield 62, 3) := by decide +kernel
theorem dX9_nodes_60 : decode cX9_nodes 60 = .ok (.goto 13, 3) := by decide +kernel
theorem dX9_nodes_63 : decode cX9_nodes 63 = .ok (.aload_n 0, 1) := by decide +kernel
theorem dX9_nodes_64 : decode cX9_nodes 64 = .ok (.getfield 25, 3) := by decide +kernel
theorem dX9_nodes_67 : decode cX9_nodes 67 = .ok (.iconst 4, 1) := by decide +kernel
theorem dX9_nodes_68 : decode cX9_nodes 68 = .ok (.iload_n 1, 1) := by decide +kernel
theorem dX9_nodes_69 : decode cX9_nodes 69 = .ok (.imul, 1) := by decide +kernel
theorem dX9_nodes_70 : decode cX9_nodes 70 = .ok (.iload_n 3, 1) := by decide +kernel
theorem dX9_nodes_71 : decode cX9_nodes 71 = .ok (.iadd, 1) := by decide +kernel
theorem dX9_nodes_72 : decode cX9_nodes 72 = .ok (.iaload, 1) := by decide +kernel
theorem dX9_nodes_73 : decode cX9_nodes 73 = .ok (.iastore, 1) := by decide +kernel
theorem dX9_nodes_74 : decode cX9_nodes 74 = .ok (.iinc 3 1, 3) := by decide +kernel
theorem dX9_nodes_77 : decode cX9_nodes 77 = .ok (.goto (-49), 3) := by decide +kernel
theorem dX9_nodes_80 : decode cX9_nodes 80 = .ok (.iinc 1 1, 3) := by decide +kernel
theorem dX9_nodes_83 : decode cX9_nodes 83 = .ok (.goto (-81), 3) := by decide +kernel
theorem dX9_nodes_86 : decode cX9_nodes 86 = .ok (.return_, 1) := by decide +kernel
theorem dX9_shuts_0 : decode cX9_shuts 0 = .ok (.iconst 0, 1) := by decide +kernel
theorem dX9_shuts_1 : decode cX9_shuts 1 = .ok (.istore_n 2, 1) := by decide +kernel
theorem dX9_shuts_2 : decode cX9_shuts 2 = .ok (.iload_n 2, 1) := by decide +kernel
theorem dX9_shuts_3 : decode cX9_shuts 3 = .ok (.aload_n 0, 1) := by decide +kernel
theorem dX9_shuts_4 : decode cX9_shuts 4 = .ok (.getfield 13, 3) := by decide +kernel
theorem dX9_shuts_7 : decode cX9_shuts 7 = .ok (.aload_n 0, 1) := by decide +kernel
theorem dX9_shuts_8 : decode cX9_shuts 8 = .ok (.getfield 16, 3) := by decide +kernel
theorem dX9_shuts_11 : decode cX9_shuts 11 = .ok (.iload_n 1, 1) := by decide +kernel
theorem dX9_shuts_12 : decode cX9_shuts 12 = .ok (.iaload, 1) := by decide +kernel
theorem dX9_shuts_13 : decode cX9_shuts 13 = .ok (.iaload, 1) := by decide +kernel
theorem dX9_shuts_14 : decode cX9_shuts 14 = .ok (.if_icmp .ge 92, 3) := by decide +kernel
theorem dX9_shuts_17 : decode cX9_shuts 17 = .ok (.iconst 0, 1) := by decide +kernel
theorem dX9_shuts_18 : decode cX9_shuts 18 = .ok (.istore_n 3, 1) := by decide +kernel
theorem dX9_shuts_19 : decode cX9_shuts 19 = .ok (.iload_n 3, 1) := by decide +kernel
theorem dX9_shuts_20 : decode cX9_shuts 20 = .ok (.aload_n 0, 1) := by decide +kernel
theorem dX9_shuts_21 : decode cX9_shuts 21 = .ok (.getfield 13, 3) := by decide +kernel
theorem dX9_shuts_24 : decode cX9_shuts 24 = .ok (.aload_n 0, 1) := by decide +kernel
theorem dX9_shuts_25 : decode cX9_shuts 25 = .ok (.getfield 19, 3) := by decide +kernel
theorem dX9_shuts_28 : decode cX9_shuts 28 = .ok (.iload_n 1, 1) := by decide +kernel
theorem dX9_shuts_29 : decode cX9_shuts 29 = .ok (.iaload, 1) := by decide +kernel
theorem dX9_shuts_30 : decode cX9_shuts 30 = .ok (.iaload, 1) := by decide +kernel
theorem dX9_shuts_31 : decode cX9_shuts 31 = .ok (.if_icmp .ge 69, 3) := by decide +kernel
theorem dX9_shuts_34 : decode cX9_shuts 34 = .ok (.aload_n 0, 1) := by decide +kernel
theorem dX9_shuts_35 : decode cX9_shuts 35 = .ok (.getfield 25, 3) := by decide +kernel
theorem dX9_shuts_38 : decode cX9_shuts 38 = .ok (.iconst 4, 1) := by decide +kernel
theorem dX9_shuts_39 : decode cX9_shuts 39 = .ok (.aload_n 0, 1) := by decide +kernel
theorem dX9_shuts_40 : decode cX9_shuts 40 = .ok (.getfield 16, 3) := by decide +kernel
theorem dX9_shuts_43 : decode cX9_shuts 43 = .ok (.iload_n 1, 1) := by decide +kernel
theorem dX9_shuts_44 : decode cX9_shuts 44 = .ok (.iaload, 1) := by decide +kernel
theorem dX9_shuts_45 : decode cX9_shuts 45 = .ok (.imul, 1) := by decide +kernel
theorem dX9_shuts_46 : decode cX9_shuts 46 = .ok (.iload_n 2, 1) := by decide +kernel
theorem dX9_shuts_47 : decode cX9_shuts 47 = .ok (.iadd, 1) := by decide +kernel
theorem dX9_shuts_48 : decode cX9_shuts 48 = .ok (.iaload, 1) := by decide +kernel
theorem dX9_shuts_49 : decode cX9_shuts 49 = .ok (.aload_n 0, 1) := by decide +kernel
theorem dX9_shuts_50 : decode cX9_shuts 50 = .ok (.getfield 62, 3) := by decide +kernel
theorem dX9_shuts_53 : decode cX9_shuts 53 = .ok (.if_icmp .eq 25, 3) := by decide +kernel
theorem dX9_shuts_56 : decode cX9_shuts 56 = .ok (.aload_n 0, 1) := by decide +kernel
theorem dX9_shuts_57 : decode cX9_shuts 57 = .ok (.getfield 25, 3) := by decide +kernel
theorem dX9_shuts_60 : decode cX9_shuts 60 = .ok (.iconst 4, 1) := by decide +kernel
theorem dX9_shuts_61 : decode cX9_shuts 61 = .ok (.aload_n 0, 1) := by decide +kernel
theorem dX9_shuts_62 : decode cX9_shuts 62 = .ok (.getfield 19, 3) := by decide +kernel
theorem dX9_shuts_65 : decode cX9_shuts 65 = .ok (.iload_n 1, 1) := by decide +kernel
theorem dX9_shuts_66 : decode cX9_shuts 66 = .ok (.iaload, 1) := by decide +kernel
theorem dX9_shuts_67 : decode cX9_shuts 67 = .ok (.imul, 1) := by decide +kernel
theorem dX9_shuts_68 : decode cX9_shuts 68 = .ok (.iload_n 3, 1) := by decide +kernel
theorem dX9_shuts_69 : decode cX9_shuts 69 = .ok (.iadd, 1) := by decide +kernel
theorem dX9_shuts_70 : decode cX9_shuts 70 = .ok (.iaload, 1) := by decide +kernel
theorem dX9_shuts_71 : decode cX9_shuts 71 = .ok (.aload_n 0, 1) := by decide +kernel
theorem dX9_shuts_72 : decode cX9_shuts 72 = .ok (.getfield 62, 3) := by decide +kernel
theorem dX9_shuts_75 : decode cX9_shuts 75 = .ok (.if_icmp .ne 19, 3) := by decide +kernel
theorem dX9_shuts_78 : decode cX9_shuts 78 = .ok (.aload_n 0, 1) := by decide +kernel
theorem dX9_shuts_79 : decode cX9_shuts 79 = .ok (.getfield 25, 3) := by decide +kernel
theorem dX9_shuts_82 : decode cX9_shuts 82 = .ok (.iload_n 1, 1) := by decide +kernel
theorem dX9_shuts_83 : decode cX9_shuts 83 = .ok (.iconst 0, 1) := by decide +kernel
theorem dX9_shuts_84 : decode cX9_shuts 84 = .ok (.iload_n 2, 1) := by decide +kernel
theorem dX9_shuts_85 : decode cX9_shuts 85 = .ok (.iload_n 3, 1) := by decide +kernel
theorem dX9_shuts_86 : decode cX9_shuts 86 = .ok (.invokestatic 150, 3) := by decide +kernel
theorem dX9_shuts_89 : decode cX9_shuts 89 = .ok (.aload_n 0, 1) := by decide +kernel
theorem dX9_shuts_90 : decode cX9_shuts 90 = .ok (.getfield 62, 3) := by decide +kernel
theorem dX9_shuts_93 : decode cX9_shuts 93 = .ok (.iastore, 1) := by decide +kernel
theorem dX9_shuts_94 : decode cX9_shuts 94 = .ok (.iinc 3 1, 3) := by decide +kernel
theorem dX9_shuts_97 : decode cX9_shuts 97 = .ok (.goto (-78), 3) := by decide +kernel
theorem dX9_shuts_100 : decode cX9_shuts 100 = .ok (.iinc 2 1, 3) := by decide +kernel
theorem dX9_shuts_103 : decode cX9_shuts 103 = .ok (.goto (-101), 3) := by decide +kernel
theorem dX9_shuts_106 : decode cX9_shuts 106 = .ok (.return_, 1) := by decide +kernel
theorem dX9_arcs_0 : decode cX9_arcs 0 = .ok (.aload_n 0, 1) := by decide +kernel
theorem dX9_arcs_1 : decode cX9_arcs 1 = .ok (.iload_n 1, 1) := by decide +kernel
theorem dX9_arcs_2 : decode cX9_arcs 2 = .ok (.invokevirtual 178, 3) := by decide +kernel
theorem dX9_arcs_5 : decode cX9_arcs 5 = .ok (.iconst 0, 1) := by decide +kernel
theorem dX9_arcs_6 : decode cX9_arcs 6 = .ok (.istore_n 2, 1) := by decide +kernel
theorem dX9_arcs_7 : decode cX9_arcs 7 = .ok (.iload_n 2, 1) := by decide +kernel
theorem dX9_arcs_8 : decode cX9_arcs 8 = .ok (.iconst 2, 1) := by decide +kernel
theorem dX9_arcs_9 : decode cX9_arcs 9 = .ok (.if_icmp .ge 55, 3) := by decide +kernel
theorem dX9_arcs_12 : decode cX9_arcs 12 = .ok (.iconst 0, 1) := by decide +kernel
theorem dX9_arcs_13 : decode cX9_arcs 13 = .ok (.istore_n 3, 1) := by decide +kernel
theorem dX9_arcs_14 : decode cX9_arcs 14 = .ok (.iload_n 3, 1) := by decide +kernel
theorem dX9_arcs_15 : decode cX9_arcs 15 = .ok (.aload_n 0, 1) := by decide +kernel
theorem dX9_arcs_16 : decode cX9_arcs 16 = .ok (.getfield 13, 3) := by decide +kernel
theorem dX9_arcs_19 : decode cX9_arcs 19 = .ok (.aload_n 0, 1) := by decide +kernel
theorem dX9_arcs_20 : decode cX9_arcs 20 = .ok (.iload_n 1, 1) := by decide +kernel
theorem dX9_arcs_21 : decode cX9_arcs 21 = .ok (.iload_n 2, 1) := by decide +kernel
theorem dX9_arcs_22 : decode cX9_arcs 22 = .ok (.invokevirtual 147, 3) := by decide +kernel
theorem dX9_arcs_25 : decode cX9_arcs 25 = .ok (.iaload, 1) := by decide +kernel
theorem dX9_arcs_26 : decode cX9_arcs 26 = .ok (.if_icmp .ge 32, 3) := by decide +kernel
theorem dX9_arcs_29 : decode cX9_arcs 29 = .ok (.aload_n 0, 1) := by decide +kernel
theorem dX9_arcs_30 : decode cX9_arcs 30 = .ok (.iload_n 1, 1) := by decide +kernel
theorem dX9_arcs_31 : decode cX9_arcs 31 = .ok (.iload_n 2, 1) := by decide +kernel
theorem dX9_arcs_32 : decode cX9_arcs 32 = .ok (.iload_n 3, 1) := by decide +kernel
theorem dX9_arcs_33 : decode cX9_arcs 33 = .ok (.invokevirtual 164, 3) := by decide +kernel
theorem dX9_arcs_36 : decode cX9_arcs 36 = .ok (.istore 4, 2) := by decide +kernel
theorem dX9_arcs_38 : decode cX9_arcs 38 = .ok (.iload 4, 2) := by decide +kernel
theorem dX9_arcs_40 : decode cX9_arcs 40 = .ok (.ifCond .le 12, 3) := by decide +kernel
theorem dX9_arcs_43 : decode cX9_arcs 43 = .ok (.aload_n 0, 1) := by decide +kernel
theorem dX9_arcs_44 : decode cX9_arcs 44 = .ok (.iload_n 1, 1) := by decide +kernel
theorem dX9_arcs_45 : decode cX9_arcs 45 = .ok (.iload_n 2, 1) := by decide +kernel
theorem dX9_arcs_46 : decode cX9_arcs 46 = .ok (.iload_n 3, 1) := by decide +kernel
theorem dX9_arcs_47 : decode cX9_arcs 47 = .ok (.iload 4, 2) := by decide +kernel
theorem dX9_arcs_49 : decode cX9_arcs 49 = .ok (.invokevirtual 168, 3) := by decide +kernel
theorem dX9_arcs_52 : decode cX9_arcs 52 = .ok (.iinc 3 1, 3) := by decide +kernel
theorem dX9_arcs_55 : decode cX9_arcs 55 = .ok (.goto (-41), 3) := by decide +kernel
theorem dX9_arcs_58 : decode cX9_arcs 58 = .ok (.iinc 2 1, 3) := by decide +kernel
theorem dX9_arcs_61 : decode cX9_arcs 61 = .ok (.goto (-54), 3) := by decide +kernel
theorem dX9_arcs_64 : decode cX9_arcs 64 = .ok (.return_, 1) := by decide +kernel
theorem dX9_directs_0 : decode cX9_directs 0 = .ok (.aload_n 0, 1) := by decide +kernel
theorem dX9_directs_1 : decode cX9_directs 1 = .ok (.iload_n 1, 1) := by decide +kernel
theorem dX9_directs_2 : decode cX9_directs 2 = .ok (.invokevirtual 178, 3) := by decide +kernel
theorem dX9_directs_5 : decode cX9_directs 5 = .ok (.aload_n 0, 1) := by decide +kernel
theorem dX9_directs_6 : decode cX9_directs 6 = .ok (.getfield 16, 3) := by decide +kernel
theorem dX9_directs_9 : decode cX9_directs 9 = .ok (.iload_n 1, 1) := by decide +kernel
theorem dX9_directs_10 : decode cX9_directs 10 = .ok (.iaload, 1) := by decide +kernel
theorem dX9_directs_11 : decode cX9_directs 11 = .ok (.istore_n 2, 1) := by decide +kernel
theorem dX9_directs_12 : decode cX9_directs 12 = .ok (.aload_n 0, 1) := by decide +kernel
theorem dX9_directs_13 : decode cX9_directs 13 = .ok (.getfield 19, 3) := by decide +kernel
theorem dX9_directs_16 : decode cX9_directs 16 = .ok (.iload_n 1, 1) := by decide +kernel
theorem dX9_directs_17 : decode cX9_directs 17 = .ok (.iaload, 1) := by decide +kernel
theorem dX9_directs_18 : decode cX9_directs 18 = .ok (.istore_n 3, 1) := by decide +kernel
theorem dX9_directs_19 : decode cX9_directs 19 = .ok (.iconst 0, 1) := by decide +kernel
theorem dX9_directs_20 : decode cX9_directs 20 = .ok (.istore 4, 2) := by decide +kernel
theorem dX9_directs_22 : decode cX9_directs 22 = .ok (.iload 4, 2) := by decide +kernel
theorem dX9_directs_24 : decode cX9_directs 24 = .ok (.aload_n 0, 1) := by decide +kernel
theorem dX9_directs_25 : decode cX9_directs 25 = .ok (.getfield 13, 3) := by decide +kernel
theorem dX9_directs_28 : decode cX9_directs 28 = .ok (.iload_n 2, 1) := by decide +kernel
theorem dX9_directs_29 : decode cX9_directs 29 = .ok (.iaload, 1) := by decide +kernel
theorem dX9_directs_30 : decode cX9_directs 30 = .ok (.if_icmp .ge 102, 3) := by decide +kernel
theorem dX9_directs_33 : decode cX9_directs 33 = .ok (.aload_n 0, 1) := by decide +kernel
theorem dX9_directs_34 : decode cX9_directs 34 = .ok (.getfield 46, 3) := by decide +kernel
theorem dX9_directs_37 : decode cX9_directs 37 = .ok (.iload 4, 2) := by decide +kernel
theorem dX9_directs_39 : decode cX9_directs 39 = .ok (.aload_n 0, 1) := by decide +kernel
theorem dX9_directs_40 : decode cX9_directs 40 = .ok (.getfield 62, 3) := by decide +kernel
theorem dX9_directs_43 : decode cX9_directs 43 = .ok (.iastore, 1) := by decide +kernel
theorem dX9_directs_44 : decode cX9_directs 44 = .ok (.iconst 0, 1) := by decide +kernel
theorem dX9_directs_45 : decode cX9_directs 45 = .ok (.istore 5, 2) := by decide +kernel
theorem dX9_directs_47 : decode cX9_directs 47 = .ok (.iload 5, 2) := by decide +kernel
theorem dX9_directs_49 : decode cX9_directs 49 = .ok (.aload_n 0, 1) := by decide +kernel
theorem dX9_directs_50 : decode cX9_directs 50 = .ok (.getfield 13, 3) := by decide +kernel
theorem dX9_directs_53 : decode cX9_directs 53 = .ok (.iload_n 3, 1) := by decide +kernel
theorem dX9_directs_54 : decode cX9_directs 54 = .ok (.iaload, 1) := by decide +kernel
theorem dX9_directs_55 : decode cX9_directs 55 = .ok (.if_icmp .ge 71, 3) := by decide +kernel
theorem dX9_directs_58 : decode cX9_directs 58 = .ok (.aload_n 0, 1) := by decide +kernel
theorem dX9_directs_59 : decode cX9_directs 59 = .ok (.aload_n 0, 1) := by decide +kernel
theorem dX9_directs_60 : decode cX9_directs 60 = .ok (.getfield 25, 3) := by decide +kernel
theorem dX9_directs_63 : decode cX9_directs 63 = .ok (.iload_n 1, 1) := by decide +kernel
theorem dX9_directs_64 : decode cX9_directs 64 = .ok (.iconst 0, 1) := by decide +kernel
theorem dX9_directs_65 : decode cX9_directs 65 = .ok (.iload 4, 2) := by decide +kernel
theorem dX9_directs_67 : decode cX9_directs 67 = .ok (.iload 5, 2) := by decide +kernel
theorem dX9_directs_69 : decode cX9_directs 69 = .ok (.invokestatic 150, 3) := by decide +kernel
theorem dX9_directs_72 : decode cX9_directs 72 = .ok (.iaload, 1) := by decide +kernel
theorem dX9_directs_73 : decode cX9_directs 73 = .ok (.aload_n 0, 1) := by decide +kernel
theorem dX9_directs_74 : decode cX9_directs 74 = .ok (.getfield 25, 3) := by decide +kernel
theorem dX9_directs_77 : decode cX9_directs 77 = .ok (.iconst 4, 1) := by decide +kernel
theorem dX9_directs_78 : decode cX9_directs 78 = .ok (.iload_n 3, 1) := by decide +kernel
theorem dX9_directs_79 : decode cX9_directs 79 = .ok (.imul, 1) := by decide +kernel
theorem dX9_directs_80 : decode cX9_directs 80 = .ok (.iload 5, 2) := by decide +kernel
theorem dX9_directs_82 : decode cX9_directs 82 = .ok (.iadd, 1) := by decide +kernel
theorem dX9_directs_83 : decode cX9_directs 83 = .ok (.iaload, 1) := by decide +kernel
theorem dX9_directs_84 : decode cX9_directs 84 = .ok (.invokevirtual 125, 3) := by decide +kernel
theorem dX9_directs_87 : decode cX9_directs 87 = .ok (.istore 6, 2) := by decide +kernel
theorem dX9_directs_89 : decode cX9_directs 89 = .ok (.aload_n 0, 1) := by decide +kernel
theorem dX9_directs_90 : decode cX9_directs 90 = .ok (.getfield 46, 3) := by decide +kernel
theorem dX9_directs_93 : decode cX9_directs 93 = .ok (.iload 4, 2) := by decide +kernel
theorem dX9_directs_95 : decode cX9_directs 95 = .ok (.iload 6, 2) := by decide +kernel
theorem dX9_directs_97 : decode cX9_directs 97 = .ok (.aload_n 0, 1) := by decide +kernel
theorem dX9_directs_98 : decode cX9_directs 98 = .ok (.getfield 46, 3) := by decide +kernel
theorem dX9_directs_101 : decode cX9_directs 101 = .ok (.iload 4, 2) := by decide +kernel
theorem dX9_directs_103 : decode cX9_directs 103 = .ok (.iaload, 1) := by decide +kernel
theorem dX9_directs_104 : decode cX9_directs 104 = .ok (.if_icmp .ge 8, 3) := by decide +kernel
theorem dX9_directs_107 : decode cX9_directs 107 = .ok (.iload 6, 2) := by decide +kernel
theorem dX9_directs_109 : decode cX9_directs 109 = .ok (.goto 10, 3) := by decide +kernel
theorem dX9_directs_112 : decode cX9_directs 112 = .ok (.aload_n 0, 1) := by decide +kernel
theorem dX9_directs_113 : decode cX9_directs 113 = .ok (.getfield 46, 3) := by decide +kernel
theorem dX9_directs_116 : decode cX9_directs 116 = .ok (.iload 4, 2) := by decide +kernel
theorem dX9_directs_118 : decode cX9_directs 118 = .ok (.iaload, 1) := by decide +kernel
theorem dX9_directs_119 : decode cX9_directs 119 = .ok (.iastore, 1) := by decide +kernel
theorem dX9_directs_120 : decode cX9_directs 120 = .ok (.iinc 5 1, 3) := by decide +kernel
theorem dX9_directs_123 : decode cX9_directs 123 = .ok (.goto (-76), 3) := by decide +kernel
theorem dX9_directs_126 : decode cX9_directs 126 = .ok (.iinc 4 1, 3) := by decide +kernel
theorem dX9_directs_129 : decode cX9_directs 129 = .ok (.goto (-107), 3) := by decide +kernel
theorem dX9_directs_132 : decode cX9_directs 132 = .ok (.iconst 0, 1) := by decide +kernel
theorem dX9_directs_133 : decode cX9_directs 133 = .ok (.istore 4, 2) := by decide +kernel
theorem dX9_directs_135 : decode cX9_directs 135 = .ok (.iload 4, 2) := by decide +kernel
theorem dX9_directs_137 : decode cX9_directs 137 = .ok (.aload_n 0, 1) := by decide +kernel
theorem dX9_directs_138 : decode cX9_directs 138 = .ok (.getfield 13, 3) := by decide +kernel
theorem dX9_directs_141 : decode cX9_directs 141 = .ok (.iload_n 3, 1) := by decide +kernel
theorem dX9_directs_142 : decode cX9_directs 142 = .ok (.iaload, 1) := by decide +kernel
theorem dX9_directs_143 : decode cX9_directs 143 = .ok (.if_icmp .ge 87, 3) := by decide +kernel
theorem dX9_directs_146 : decode cX9_directs 146 = .ok (.iconst 0, 1) := by decide +kernel
theorem dX9_directs_147 : decode cX9_directs 147 = .ok (.istore 5, 2) := by decide +kernel
theorem dX9_directs_149 : decode cX9_directs 149 = .ok (.iconst 0, 1) := by decide +kernel
theorem dX9_directs_150 : decode cX9_directs 150 = .ok (.istore 6, 2) := by decide +kernel
theorem dX9_directs_152 : decode cX9_directs 152 = .ok (.iload 6, 2) := by decide +kernel
theorem dX9_directs_154 : decode cX9_directs 154 = .ok (.aload_n 0, 1) := by decide +kernel
theorem dX9_directs_155 : decode cX9_directs 155 = .ok (.getfield 13, 3) := by decide +kernel
theorem dX9_directs_158 : decode cX9_directs 158 = .ok (.iload_n 2, 1) := by decide +kernel
theorem dX9_directs_159 : decode cX9_directs 159 = .ok (.iaload, 1) := by decide +kernel
theorem dX9_directs_160 : decode cX9_directs 160 = .ok (.if_icmp .ge 49, 3) := by decide +kernel
theorem dX9_directs_163 : decode cX9_directs 163 = .ok (.aload_n 0, 1) := by decide +kernel
theorem dX9_directs_164 : decode cX9_directs 164 = .ok (.getfield 46, 3) := by decide +kernel
theorem dX9_directs_167 : decode cX9_directs 167 = .ok (.iload 6, 2) := by decide +kernel
theorem dX9_directs_169 : decode cX9_directs 169 = .ok (.iaload, 1) := by decide +kernel
theorem dX9_directs_170 : decode cX9_directs 170 = .ok (.aload_n 0, 1) := by decide +kernel
theorem dX9_directs_171 : decode cX9_directs 171 = .ok (.getfield 25, 3) := by decide +kernel
theorem dX9_directs_174 : decode cX9_directs 174 = .ok (.iload_n 1, 1) := by decide +kernel
theorem dX9_directs_175 : decode cX9_directs 175 = .ok (.iconst 0, 1) := by decide +kernel
theorem dX9_directs_176 : decode cX9_directs 176 = .ok (.iload 6, 2) := by decide +kernel
theorem dX9_directs_178 : decode cX9_directs 178 = .ok (.iload 4, 2) := by decide +kernel
theorem dX9_directs_180 : decode cX9_directs 180 = .ok (.invokestatic 150, 3) := by decide +kernel
theorem dX9_directs_183 : decode cX9_directs 183 = .ok (.iaload, 1) := by decide +kernel
theorem dX9_directs_184 : decode cX9_directs 184 = .ok (.isub, 1) := by decide +kernel
theorem dX9_directs_185 : decode cX9_directs 185 = .ok (.istore 7, 2) := by decide +kernel
theorem dX9_directs_187 : decode cX9_directs 187 = .ok (.iload 7, 2) := by decide +kernel
theorem dX9_directs_189 : decode cX9_directs 189 = .ok (.iload 5, 2) := by decide +kernel
theorem dX9_directs_191 : decode cX9_directs 191 = .ok (.if_icmp .le 8, 3) := by decide +kernel
theorem dX9_directs_194 : decode cX9_directs 194 = .ok (.iload 7, 2) := by decide +kernel
theorem dX9_directs_196 : decode cX9_directs 196 = .ok (.goto 5, 3) := by decide +kernel
theorem dX9_directs_199 : decode cX9_directs 199 = .ok (.iload 5, 2) := by decide +kernel
theorem dX9_directs_201 : decode cX9_directs 201 = .ok (.istore 5, 2) := by decide +kernel
theorem dX9_directs_203 : decode cX9_directs 203 = .ok (.iinc 6 1, 3) := by decide +kernel
theorem dX9_directs_206 : decode cX9_directs 206 = .ok (.goto (-54), 3) := by decide +kernel
theorem dX9_directs_209 : decode cX9_directs 209 = .ok (.iload 5, 2) := by decide +kernel
theorem dX9_directs_211 : decode cX9_directs 211 = .ok (.ifCond .le 13, 3) := by decide +kernel
theorem dX9_directs_214 : decode cX9_directs 214 = .ok (.aload_n 0, 1) := by decide +kernel
theorem dX9_directs_215 : decode cX9_directs 215 = .ok (.iload_n 1, 1) := by decide +kernel
theorem dX9_directs_216 : decode cX9_directs 216 = .ok (.iconst 1, 1) := by decide +kernel
theorem dX9_directs_217 : decode cX9_directs 217 = .ok (.iload 4, 2) := by decide +kernel
theorem dX9_directs_219 : decode cX9_directs 219 = .ok (.iload 5, 2) := by decide +kernel
theorem dX9_directs_221 : decode cX9_directs 221 = .ok (.invokevirtual 171, 3) := by decide +kernel
theorem dX9_directs_224 : decode cX9_directs 224 = .ok (.iinc 4 1, 3) := by decide +kernel
theorem dX9_directs_227 : decode cX9_directs 227 = .ok (.goto (-92), 3) := by decide +kernel
theorem dX9_directs_230 : decode cX9_directs 230 = .ok (.iconst 0, 1) := by decide +kernel
theorem dX9_directs_231 : decode cX9_directs 231 = .ok (.istore 4, 2) := by decide +kernel
theorem dX9_directs_233 : decode cX9_directs 233 = .ok (.iload 4, 2) := by decide +kernel
theorem dX9_directs_235 : decode cX9_directs 235 = .ok (.aload_n 0, 1) := by decide +kernel
theorem dX9_directs_236 : decode cX9_directs 236 = .ok (.getfield 13, 3) := by decide +kernel
theorem dX9_directs_239 : decode cX9_directs 239 = .ok (.iload_n 2, 1) := by decide +kernel
theorem dX9_directs_240 : decode cX9_directs 240 = .ok (.iaload, 1) := by decide +kernel
theorem dX9_directs_241 : decode cX9_directs 241 = .ok (.if_icmp .ge 34, 3) := by decide +kernel
theorem dX9_directs_244 : decode cX9_directs 244 = .ok (.aload_n 0, 1) := by decide +kernel
theorem dX9_directs_245 : decode cX9_directs 245 = .ok (.getfield 46, 3) := by decide +kernel
theorem dX9_directs_248 : decode cX9_directs 248 = .ok (.iload 4, 2) := by decide +kernel
theorem dX9_directs_250 : decode cX9_directs 250 = .ok (.iaload, 1) := by decide +kernel
theorem dX9_directs_251 : decode cX9_directs 251 = .ok (.ifCond .le 18, 3) := by decide +kernel
theorem dX9_directs_254 : decode cX9_directs 254 = .ok (.aload_n 0, 1) := by decide +kernel
theorem dX9_directs_255 : decode cX9_directs 255 = .ok (.iload_n 1, 1) := by decide +kernel
theorem dX9_directs_256 : decode cX9_directs 256 = .ok (.iconst 0, 1) := by decide +kernel
theorem dX9_directs_257 : decode cX9_directs 257 = .ok (.iload 4, 2) := by decide +kernel
theorem dX9_directs_259 : decode cX9_directs 259 = .ok (.aload_n 0, 1) := by decide +kernel
theorem dX9_directs_260 : decode cX9_directs 260 = .ok (.getfield 46, 3) := by decide +kernel
theorem dX9_directs_263 : decode cX9_directs 263 = .ok (.iload 4, 2) := by decide +kernel
theorem dX9_directs_265 : decode cX9_directs 265 = .ok (.iaload, 1) := by decide +kernel
theorem dX9_directs_266 : decode cX9_directs 266 = .ok (.invokevirtual 168, 3) := by decide +kernel
theorem dX9_directs_269 : decode cX9_directs 269 = .ok (.iinc 4 1, 3) := by decide +kernel
theorem dX9_directs_272 : decode cX9_directs 272 = .ok (.goto (-39), 3) := by decide +kernel
theorem dX9_directs_275 : decode cX9_directs 275 = .ok (.return_, 1) := by decide +kernel
theorem dX9_sweeps_0 : decode cX9_sweeps 0 = .ok (.iconst 0, 1) := by decide +kernel
theorem dX9_sweeps_1 : decode cX9_sweeps 1 = .ok (.istore_n 2, 1) := by decide +kernel
theorem dX9_sweeps_2 : decode cX9_sweeps 2 = .ok (.iload_n 2, 1) := by decide +kernel
theorem dX9_sweeps_3 : decode cX9_sweeps 3 = .ok (.aload_n 0, 1) := by decide +kernel
theorem dX9_sweeps_4 : decode cX9_sweeps 4 = .ok (.getfield 65, 3) := by decide +kernel
theorem dX9_sweeps_7 : decode cX9_sweeps 7 = .ok (.if_icmp .ge 19, 3) := by decide +kernel
theorem dX9_sweeps_10 : decode cX9_sweeps 10 = .ok (.iload_n 1, 1) := by decide +kernel
theorem dX9_sweeps_11 : decode cX9_sweeps 11 = .ok (.iconst 1, 1) := by decide +kernel
theorem dX9_sweeps_12 : decode cX9_sweeps 12 = .ok (.if_icmp .ne 14, 3) := by decide +kernel
theorem dX9_sweeps_15 : decode cX9_sweeps 15 = .ok (.aload_n 0, 1) := by decide +kernel
theorem dX9_sweeps_16 : decode cX9_sweeps 16 = .ok (.iload_n 2, 1) := by decide +kernel
theorem dX9_sweeps_17 : decode cX9_sweeps 17 = .ok (.invokevirtual 182, 3) := by decide +kernel
theorem dX9_sweeps_20 : decode cX9_sweeps 20 = .ok (.iinc 2 1, 3) := by decide +kernel
theorem dX9_sweeps_23 : decode cX9_sweeps 23 = .ok (.goto (-21), 3) := by decide +kernel
theorem dX9_sweeps_26 : decode cX9_sweeps 26 = .ok (.aload_n 0, 1) := by decide +kernel
theorem dX9_sweeps_27 : decode cX9_sweeps 27 = .ok (.getfield 58, 3) := by decide +kernel
theorem dX9_sweeps_30 : decode cX9_sweeps 30 = .ok (.iconst 1, 1) := by decide +kernel
theorem dX9_sweeps_31 : decode cX9_sweeps 31 = .ok (.isub, 1) := by decide +kernel
theorem dX9_sweeps_32 : decode cX9_sweeps 32 = .ok (.istore_n 2, 1) := by decide +kernel
theorem dX9_sweeps_33 : decode cX9_sweeps 33 = .ok (.iload_n 2, 1) := by decide +kernel
theorem dX9_sweeps_34 : decode cX9_sweeps 34 = .ok (.ifCond .lt 45, 3) := by decide +kernel
theorem dX9_sweeps_37 : decode cX9_sweeps 37 = .ok (.iload_n 1, 1) := by decide +kernel
theorem dX9_sweeps_38 : decode cX9_sweeps 38 = .ok (.iconst 2, 1) := by decide +kernel
theorem dX9_sweeps_39 : decode cX9_sweeps 39 = .ok (.if_icmp .ne 40, 3) := by decide +kernel
theorem dX9_sweeps_42 : decode cX9_sweeps 42 = .ok (.iconst 0, 1) := by decide +kernel
theorem dX9_sweeps_43 : decode cX9_sweeps 43 = .ok (.istore_n 3, 1) := by decide +kernel
theorem dX9_sweeps_44 : decode cX9_sweeps 44 = .ok (.iload_n 3, 1) := by decide +kernel
theorem dX9_sweeps_45 : decode cX9_sweeps 45 = .ok (.aload_n 0, 1) := by decide +kernel
theorem dX9_sweeps_46 : decode cX9_sweeps 46 = .ok (.getfield 65, 3) := by decide +kernel
theorem dX9_sweeps_49 : decode cX9_sweeps 49 = .ok (.if_icmp .ge 24, 3) := by decide +kernel
theorem dX9_sweeps_52 : decode cX9_sweeps 52 = .ok (.aload_n 0, 1) := by decide +kernel
theorem dX9_sweeps_53 : decode cX9_sweeps 53 = .ok (.getfield 19, 3) := by decide +kernel
theorem dX9_sweeps_56 : decode cX9_sweeps 56 = .ok (.iload_n 3, 1) := by decide +kernel
theorem dX9_sweeps_57 : decode cX9_sweeps 57 = .ok (.iaload, 1) := by decide +kernel
theorem dX9_sweeps_58 : decode cX9_sweeps 58 = .ok (.iload_n 2, 1) := by decide +kernel
theorem dX9_sweeps_59 : decode cX9_sweeps 59 = .ok (.if_icmp .ne 8, 3) := by decide +kernel
theorem dX9_sweeps_62 : decode cX9_sweeps 62 = .ok (.aload_n 0, 1) := by decide +kernel
theorem dX9_sweeps_63 : decode cX9_sweeps 63 = .ok (.iload_n 3, 1) := by decide +kernel
theorem dX9_sweeps_64 : decode cX9_sweeps 64 = .ok (.invokevirtual 185, 3) := by decide +kernel
theorem dX9_sweeps_67 : decode cX9_sweeps 67 = .ok (.iinc 3 1, 3) := by decide +kernel
theorem dX9_sweeps_70 : decode cX9_sweeps 70 = .ok (.goto (-26), 3) := by decide +kernel
theorem dX9_sweeps_73 : decode cX9_sweeps 73 = .ok (.iinc 2 (-1), 3) := by decide +kernel
theorem dX9_sweeps_76 : decode cX9_sweeps 76 = .ok (.goto (-43), 3) := by decide +kernel
theorem dX9_sweeps_79 : decode cX9_sweeps 79 = .ok (.aload_n 0, 1) := by decide +kernel
theorem dX9_sweeps_80 : decode cX9_sweeps 80 = .ok (.invokevirtual 188, 3) := by decide +kernel
theorem dX9_sweeps_83 : decode cX9_sweeps 83 = .ok (.return_, 1) := by decide +kernel
theorem dX9_sweep_0 : decode cX9_sweep 0 = .ok (.iload_n 1, 1) := by decide +kernel
theorem dX9_sweep_1 : decode cX9_sweep 1 = .ok (.iconst 0, 1) := by decide +kernel
theorem dX9_sweep_2 : decode cX9_sweep 2 = .ok (.iconst 2, 1) := by decide +kernel
theorem dX9_sweep_3 : decode cX9_sweep 3 = .ok (.invokestatic 85, 3) := by decide +kernel
theorem dX9_sweep_6 : decode cX9_sweep 6 = .ok (.ifCond .eq 13, 3) := by decide +kernel
theorem dX9_sweep_9 : decode cX9_sweep 9 = .ok (.iload_n 2, 1) := by decide +kernel
theorem dX9_sweep_10 : decode cX9_sweep 10 = .ok (.iconst 1, 1) := by decide +kernel
theorem dX9_sweep_11 : decode cX9_sweep 11 = .ok (.bipush 9, 2) := by decide +kernel
theorem dX9_sweep_13 : decode cX9_sweep 13 = .ok (.invokestatic 85, 3) := by decide +kernel
theorem dX9_sweep_16 : decode cX9_sweep 16 = .ok (.ifCond .ne 5, 3) := by decide +kernel
theorem dX9_sweep_19 : decode cX9_sweep 19 = .ok (.iconst (-1), 1) := by decide +kernel
theorem dX9_sweep_20 : decode cX9_sweep 20 = .ok (.ireturn, 1) := by decide +kernel
theorem dX9_sweep_21 : decode cX9_sweep 21 = .ok (.aload_n 0, 1) := by decide +kernel
theorem dX9_sweep_22 : decode cX9_sweep 22 = .ok (.invokevirtual 154, 3) := by decide +kernel
theorem dX9_sweep_25 : decode cX9_sweep 25 = .ok (.iconst 0, 1) := by decide +kernel
theorem dX9_sweep_26 : decode cX9_sweep 26 = .ok (.istore_n 3, 1) := by decide +kernel
theorem dX9_sweep_27 : decode cX9_sweep 27 = .ok (.iload_n 3, 1) := by decide +kernel
theorem dX9_sweep_28 : decode cX9_sweep 28 = .ok (.iload_n 2, 1) := by decide +kernel
theorem dX9_sweep_29 : decode cX9_sweep 29 = .ok (.if_icmp .ge 14, 3) := by decide +kernel
theorem dX9_sweep_32 : decode cX9_sweep 32 = .ok (.aload_n 0, 1) := by decide +kernel
theorem dX9_sweep_33 : decode cX9_sweep 33 = .ok (.iload_n 1, 1) := by decide +kernel
theorem dX9_sweep_34 : decode cX9_sweep 34 = .ok (.invokevirtual 191, 3) := by decide +kernel
theorem dX9_sweep_37 : decode cX9_sweep 37 = .ok (.iinc 3 1, 3) := by decide +kernel
theorem dX9_sweep_40 : decode cX9_sweep 40 = .ok (.goto (-13), 3) := by decide +kernel
theorem dX9_sweep_43 : decode cX9_sweep 43 = .ok (.aload_n 0, 1) := by decide +kernel
theorem dX9_sweep_44 : decode cX9_sweep 44 = .ok (.getfield 25, 3) := by decide +kernel
theorem dX9_sweep_47 : decode cX9_sweep 47 = .ok (.sipush 168, 3) := by decide +kernel
theorem dX9_sweep_50 : decode cX9_sweep 50 = .ok (.iaload, 1) := by decide +kernel
theorem dX9_sweep_51 : decode cX9_sweep 51 = .ok (.ireturn, 1) := by decide +kernel
theorem dX9_settles_0 : decode cX9_settles 0 = .ok (.iconst 0, 1) := by decide +kernel
theorem dX9_settles_1 : decode cX9_settles 1 = .ok (.istore_n 2, 1) := by decide +kernel
theorem dX9_settles_2 : decode cX9_settles 2 = .ok (.iconst 1, 1) := by decide +kernel
theorem dX9_settles_3 : decode cX9_settles 3 = .ok (.istore_n 3, 1) := by decide +kernel
theorem dX9_settles_4 : decode cX9_settles 4 = .ok (.iconst 0, 1) := by decide +kernel
theorem dX9_settles_5 : decode cX9_settles 5 = .ok (.istore 4, 2) := by decide +kernel
theorem dX9_settles_7 : decode cX9_settles 7 = .ok (.iload 4, 2) := by decide +kernel
theorem dX9_settles_9 : decode cX9_settles 9 = .ok (.bipush 20, 2) := by decide +kernel
theorem dX9_settles_11 : decode cX9_settles 11 = .ok (.if_icmp .ge 107, 3) := by decide +kernel
theorem dX9_settles_14 : decode cX9_settles 14 = .ok (.iload_n 3, 1) := by decide +kernel
theorem dX9_settles_15 : decode cX9_settles 15 = .ok (.ifCond .eq 103, 3) := by decide +kernel
theorem dX9_settles_18 : decode cX9_settles 18 = .ok (.iconst 0, 1) := by decide +kernel
theorem dX9_settles_19 : decode cX9_settles 19 = .ok (.istore 5, 2) := by decide +kernel
theorem dX9_settles_21 : decode cX9_settles 21 = .ok (.iload 5, 2) := by decide +kernel
theorem dX9_settles_23 : decode cX9_settles 23 = .ok (.sipush 169, 3) := by decide +kernel
theorem dX9_settles_26 : decode cX9_settles 26 = .ok (.if_icmp .ge 23, 3) := by decide +kernel
theorem dX9_settles_29 : decode cX9_settles 29 = .ok (.aload_n 0, 1) := by decide +kernel
theorem dX9_settles_30 : decode cX9_settles 30 = .ok (.getfield 49, 3) := by decide +kernel
theorem dX9_settles_33 : decode cX9_settles 33 = .ok (.iload 5, 2) := by decide +kernel
theorem dX9_settles_35 : decode cX9_settles 35 = .ok (.aload_n 0, 1) := by decide +kernel
theorem dX9_settles_36 : decode cX9_settles 36 = .ok (.getfield 25, 3) := by decide +kernel
theorem dX9_settles_39 : decode cX9_settles 39 = .ok (.iload 5, 2) := by decide +kernel
theorem dX9_settles_41 : decode cX9_settles 41 = .ok (.iaload, 1) := by decide +kernel
theorem dX9_settles_42 : decode cX9_settles 42 = .ok (.iastore, 1) := by decide +kernel
theorem dX9_settles_43 : decode cX9_settles 43 = .ok (.iinc 5 1, 3) := by decide +kernel
theorem dX9_settles_46 : decode cX9_settles 46 = .ok (.goto (-25), 3) := by decide +kernel
theorem dX9_settles_49 : decode cX9_settles 49 = .ok (.aload_n 0, 1) := by decide +kernel
theorem dX9_settles_50 : decode cX9_settles 50 = .ok (.iload_n 1, 1) := by decide +kernel
theorem dX9_settles_51 : decode cX9_settles 51 = .ok (.invokevirtual 191, 3) := by decide +kernel
theorem dX9_settles_54 : decode cX9_settles 54 = .ok (.iconst 0, 1) := by decide +kernel
theorem dX9_settles_55 : decode cX9_settles 55 = .ok (.istore_n 3, 1) := by decide +kernel
theorem dX9_settles_56 : decode cX9_settles 56 = .ok (.iconst 0, 1) := by decide +kernel
theorem dX9_settles_57 : decode cX9_settles 57 = .ok (.istore 5, 2) := by decide +kernel
theorem dX9_settles_59 : decode cX9_settles 59 = .ok (.iload 5, 2) := by decide +kernel
theorem dX9_settles_61 : decode cX9_settles 61 = .ok (.sipush 169, 3) := by decide +kernel
theorem dX9_settles_64 : decode cX9_settles 64 = .ok (.if_icmp .ge 36, 3) := by decide +kernel
theorem dX9_settles_67 : decode cX9_settles 67 = .ok (.iload_n 3, 1) := by decide +kernel
theorem dX9_settles_68 : decode cX9_settles 68 = .ok (.ifCond .ne 20, 3) := by decide +kernel
theorem dX9_settles_71 : decode cX9_settles 71 = .ok (.aload_n 0, 1) := by decide +kernel
theorem dX9_settles_72 : decode cX9_settles 72 = .ok (.getfield 49, 3) := by decide +kernel
theorem dX9_settles_75 : decode cX9_settles 75 = .ok (.iload 5, 2) := by decide +kernel
theorem dX9_settles_77 : decode cX9_settles 77 = .ok (.iaload, 1) := by decide +kernel
theorem dX9_settles_78 : decode cX9_settles 78 = .ok (.aload_n 0, 1) := by decide +kernel
theorem dX9_settles_79 : decode cX9_settles 79 = .ok (.getfield 25, 3) := by decide +kernel
theorem dX9_settles_82 : decode cX9_settles 82 = .ok (.iload 5, 2) := by decide +kernel
theorem dX9_settles_84 : decode cX9_settles 84 = .ok (.iaload, 1) := by decide +kernel
theorem dX9_settles_85 : decode cX9_settles 85 = .ok (.if_icmp .eq 7, 3) := by decide +kernel
theorem dX9_settles_88 : decode cX9_settles 88 = .ok (.iconst 1, 1) := by decide +kernel
theorem dX9_settles_89 : decode cX9_settles 89 = .ok (.goto 4, 3) := by decide +kernel
theorem dX9_settles_92 : decode cX9_settles 92 = .ok (.iconst 0, 1) := by decide +kernel
theorem dX9_settles_93 : decode cX9_settles 93 = .ok (.istore_n 3, 1) := by decide +kernel
theorem dX9_settles_94 : decode cX9_settles 94 = .ok (.iinc 5 1, 3) := by decide +kernel
theorem dX9_settles_97 : decode cX9_settles 97 = .ok (.goto (-38), 3) := by decide +kernel
theorem dX9_settles_100 : decode cX9_settles 100 = .ok (.iload_n 2, 1) := by decide +kernel
theorem dX9_settles_101 : decode cX9_settles 101 = .ok (.iload_n 3, 1) := by decide +kernel
theorem dX9_settles_102 : decode cX9_settles 102 = .ok (.ifCond .eq 7, 3) := by decide +kernel
theorem dX9_settles_105 : decode cX9_settles 105 = .ok (.iconst 1, 1) := by decide +kernel
theorem dX9_settles_106 : decode cX9_settles 106 = .ok (.goto 4, 3) := by decide +kernel
theorem dX9_settles_109 : decode cX9_settles 109 = .ok (.iconst 0, 1) := by decide +kernel
theorem dX9_settles_110 : decode cX9_settles 110 = .ok (.iadd, 1) := by decide +kernel
theorem dX9_settles_111 : decode cX9_settles 111 = .ok (.istore_n 2, 1) := by decide +kernel
theorem dX9_settles_112 : decode cX9_settles 112 = .ok (.iinc 4 1, 3) := by decide +kernel
theorem dX9_settles_115 : decode cX9_settles 115 = .ok (.goto (-108), 3) := by decide +kernel
theorem dX9_settles_118 : decode cX9_settles 118 = .ok (.iload_n 2, 1) := by decide +kernel
theorem dX9_settles_119 : decode cX9_settles 119 = .ok (.ireturn, 1) := by decide +kernel
theorem dX9_settle_0 : decode cX9_settle 0 = .ok (.iload_n 1, 1) := by decide +kernel
theorem dX9_settle_1 : decode cX9_settle 1 = .ok (.iconst 0, 1) := by decide +kernel
theorem dX9_settle_2 : decode cX9_settle 2 = .ok (.iconst 2, 1) := by decide +kernel
theorem dX9_settle_3 : decode cX9_settle 3 = .ok (.invokestatic 85, 3) := by decide +kernel
theorem dX9_settle_6 : decode cX9_settle 6 = .ok (.ifCond .ne 5, 3) := by decide +kernel
theorem dX9_settle_9 : decode cX9_settle 9 = .ok (.iconst (-1), 1) := by decide +kernel
theorem dX9_settle_10 : decode cX9_settle 10 = .ok (.ireturn, 1) := by decide +kernel
theorem dX9_settle_11 : decode cX9_settle 11 = .ok (.aload_n 0, 1) := by decide +kernel
theorem dX9_settle_12 : decode cX9_settle 12 = .ok (.invokevirtual 154, 3) := by decide +kernel
theorem dX9_settle_15 : decode cX9_settle 15 = .ok (.aload_n 0, 1) := by decide +kernel
theorem dX9_settle_16 : decode cX9_settle 16 = .ok (.iload_n 1, 1) := by decide +kernel
theorem dX9_settle_17 : decode cX9_settle 17 = .ok (.invokevirtual 194, 3) := by decide +kernel
theorem dX9_settle_20 : decode cX9_settle 20 = .ok (.ireturn, 1) := by decide +kernel
theorem dX9_bound_0 : decode cX9_bound 0 = .ok (.iload_n 1, 1) := by decide +kernel
theorem dX9_bound_1 : decode cX9_bound 1 = .ok (.iconst 0, 1) := by decide +kernel
theorem dX9_bound_2 : decode cX9_bound 2 = .ok (.iconst 2, 1) := by decide +kernel
theorem dX9_bound_3 : decode cX9_bound 3 = .ok (.invokestatic 85, 3) := by decide +kernel
theorem dX9_bound_6 : decode cX9_bound 6 = .ok (.ifCond .ne 5, 3) := by decide +kernel
theorem dX9_bound_9 : decode cX9_bound 9 = .ok (.iconst (-1), 1) := by decide +kernel
theorem dX9_bound_10 : decode cX9_bound 10 = .ok (.ireturn, 1) := by decide +kernel
theorem dX9_bound_11 : decode cX9_bound 11 = .ok (.iconst 0, 1) := by decide +kernel
theorem dX9_bound_12 : decode cX9_bound 12 = .ok (.istore_n 2, 1) := by decide +kernel
theorem dX9_bound_13 : decode cX9_bound 13 = .ok (.iload_n 2, 1) := by decide +kernel
theorem dX9_bound_14 : decode cX9_bound 14 = .ok (.sipush 169, 3) := by decide +kernel
theorem dX9_bound_17 : decode cX9_bound 17 = .ok (.if_icmp .ge 21, 3) := by decide +kernel
theorem dX9_bound_20 : decode cX9_bound 20 = .ok (.aload_n 0, 1) := by decide +kernel
theorem dX9_bound_21 : decode cX9_bound 21 = .ok (.getfield 31, 3) := by decide +kernel
theorem dX9_bound_24 : decode cX9_bound 24 = .ok (.iload_n 2, 1) := by decide +kernel
theorem dX9_bound_25 : decode cX9_bound 25 = .ok (.aload_n 0, 1) := by decide +kernel
theorem dX9_bound_26 : decode cX9_bound 26 = .ok (.getfield 25, 3) := by decide +kernel
theorem dX9_bound_29 : decode cX9_bound 29 = .ok (.iload_n 2, 1) := by decide +kernel
theorem dX9_bound_30 : decode cX9_bound 30 = .ok (.iaload, 1) := by decide +kernel
theorem dX9_bound_31 : decode cX9_bound 31 = .ok (.iastore, 1) := by decide +kernel
theorem dX9_bound_32 : decode cX9_bound 32 = .ok (.iinc 2 1, 3) := by decide +kernel
theorem dX9_bound_35 : decode cX9_bound 35 = .ok (.goto (-22), 3) := by decide +kernel
theorem dX9_bound_38 : decode cX9_bound 38 = .ok (.aload_n 0, 1) := by decide +kernel
theorem dX9_bound_39 : decode cX9_bound 39 = .ok (.iload_n 1, 1) := by decide +kernel
theorem dX9_bound_40 : decode cX9_bound 40 = .ok (.invokevirtual 194, 3) := by decide +kernel
theorem dX9_bound_43 : decode cX9_bound 43 = .ok (.pop, 1) := by decide +kernel
theorem dX9_bound_44 : decode cX9_bound 44 = .ok (.aload_n 0, 1) := by decide +kernel
theorem dX9_bound_45 : decode cX9_bound 45 = .ok (.getfield 25, 3) := by decide +kernel
theorem dX9_bound_48 : decode cX9_bound 48 = .ok (.sipush 168, 3) := by decide +kernel
theorem dX9_bound_51 : decode cX9_bound 51 = .ok (.iaload, 1) := by decide +kernel
theorem dX9_bound_52 : decode cX9_bound 52 = .ok (.istore_n 2, 1) := by decide +kernel
theorem dX9_bound_53 : decode cX9_bound 53 = .ok (.iconst 0, 1) := by decide +kernel
theorem dX9_bound_54 : decode cX9_bound 54 = .ok (.istore_n 3, 1) := by decide +kernel
theorem dX9_bound_55 : decode cX9_bound 55 = .ok (.iload_n 3, 1) := by decide +kernel
theorem dX9_bound_56 : decode cX9_bound 56 = .ok (.sipush 169, 3) := by decide +kernel
theorem dX9_bound_59 : decode cX9_bound 59 = .ok (.if_icmp .ge 21, 3) := by decide +kernel
theorem dX9_bound_62 : decode cX9_bound 62 = .ok (.aload_n 0, 1) := by decide +kernel
theorem dX9_bound_63 : decode cX9_bound 63 = .ok (.getfield 25, 3) := by decide +kernel
theorem dX9_bound_66 : decode cX9_bound 66 = .ok (.iload_n 3, 1) := by decide +kernel
theorem dX9_bound_67 : decode cX9_bound 67 = .ok (.aload_n 0, 1) := by decide +kernel
theorem dX9_bound_68 : decode cX9_bound 68 = .ok (.getfield 31, 3) := by decide +kernel
theorem dX9_bound_71 : decode cX9_bound 71 = .ok (.iload_n 3, 1) := by decide +kernel
theorem dX9_bound_72 : decode cX9_bound 72 = .ok (.iaload, 1) := by decide +kernel
theorem dX9_bound_73 : decode cX9_bound 73 = .ok (.iastore, 1) := by decide +kernel
theorem dX9_bound_74 : decode cX9_bound 74 = .ok (.iinc 3 1, 3) := by decide +kernel
theorem dX9_bound_77 : decode cX9_bound 77 = .ok (.goto (-22), 3) := by decide +kernel
theorem dX9_bound_80 : decode cX9_bound 80 = .ok (.iload_n 2, 1) := by decide +kernel
theorem dX9_bound_81 : decode cX9_bound 81 = .ok (.ireturn, 1) := by decide +kernel
theorem dX9_totalOf_0 : decode cX9_totalOf 0 = .ok (.aload_n 0, 1) := by decide +kernel
theorem dX9_totalOf_1 : decode cX9_totalOf 1 = .ok (.getfield 25, 3) := by decide +kernel
theorem dX9_totalOf_4 : decode cX9_totalOf 4 = .ok (.sipush 168, 3) := by decide +kernel
theorem dX9_totalOf_7 : decode cX9_totalOf 7 = .ok (.iaload, 1) := by decide +kernel
theorem dX9_totalOf_8 : decode cX9_totalOf 8 = .ok (.istore_n 2, 1) := by decide +kernel
theorem dX9_totalOf_9 : decode cX9_totalOf 9 = .ok (.iconst 0, 1) := by decide +kernel
theorem dX9_totalOf_10 : decode cX9_totalOf 10 = .ok (.istore_n 3, 1) := by decide +kernel
theorem dX9_totalOf_11 : decode cX9_totalOf 11 = .ok (.iload_n 3, 1) := by decide +kernel
theorem dX9_totalOf_12 : decode cX9_totalOf 12 = .ok (.aload_n 0, 1) := by decide +kernel
theorem dX9_totalOf_13 : decode cX9_totalOf 13 = .ok (.getfield 58, 3) := by decide +kernel
theorem dX9_totalOf_16 : decode cX9_totalOf 16 = .ok (.if_icmp .ge 30, 3) := by decide +kernel
theorem dX9_totalOf_19 : decode cX9_totalOf 19 = .ok (.aload_n 0, 1) := by decide +kernel
theorem dX9_totalOf_20 : decode cX9_totalOf 20 = .ok (.iload_n 2, 1) := by decide +kernel
theorem dX9_totalOf_21 : decode cX9_totalOf 21 = .ok (.aload_n 0, 1) := by decide +kernel
theorem dX9_totalOf_22 : decode cX9_totalOf 22 = .ok (.getfield 25, 3) := by decide +kernel
theorem dX9_totalOf_25 : decode cX9_totalOf 25 = .ok (.iconst 4, 1) := by decide +kernel
theorem dX9_totalOf_26 : decode cX9_totalOf 26 = .ok (.iload_n 3, 1) := by decide +kernel
theorem dX9_totalOf_27 : decode cX9_totalOf 27 = .ok (.imul, 1) := by decide +kernel
theorem dX9_totalOf_28 : decode cX9_totalOf 28 = .ok (.aload_n 0, 1) := by decide +kernel
theorem dX9_totalOf_29 : decode cX9_totalOf 29 = .ok (.getfield 52, 3) := by decide +kernel
theorem dX9_totalOf_32 : decode cX9_totalOf 32 = .ok (.iload_n 3, 1) := by decide +kernel
theorem dX9_totalOf_33 : decode cX9_totalOf 33 = .ok (.iaload, 1) := by decide +kernel
theorem dX9_totalOf_34 : decode cX9_totalOf 34 = .ok (.iadd, 1) := by decide +kernel
theorem dX9_totalOf_35 : decode cX9_totalOf 35 = .ok (.iaload, 1) := by decide +kernel
theorem dX9_totalOf_36 : decode cX9_totalOf 36 = .ok (.invokevirtual 125, 3) := by decide +kernel
theorem dX9_totalOf_39 : decode cX9_totalOf 39 = .ok (.istore_n 2, 1) := by decide +kernel
theorem dX9_totalOf_40 : decode cX9_totalOf 40 = .ok (.iinc 3 1, 3) := by decide +kernel
theorem dX9_totalOf_43 : decode cX9_totalOf 43 = .ok (.goto (-32), 3) := by decide +kernel
theorem dX9_totalOf_46 : decode cX9_totalOf 46 = .ok (.iconst 0, 1) := by decide +kernel
theorem dX9_totalOf_47 : decode cX9_totalOf 47 = .ok (.istore_n 3, 1) := by decide +kernel
theorem dX9_totalOf_48 : decode cX9_totalOf 48 = .ok (.iload_n 3, 1) := by decide +kernel
theorem dX9_totalOf_49 : decode cX9_totalOf 49 = .ok (.aload_n 0, 1) := by decide +kernel
theorem dX9_totalOf_50 : decode cX9_totalOf 50 = .ok (.getfield 65, 3) := by decide +kernel
theorem dX9_totalOf_53 : decode cX9_totalOf 53 = .ok (.if_icmp .ge 56, 3) := by decide +kernel
theorem dX9_totalOf_56 : decode cX9_totalOf 56 = .ok (.aload_n 0, 1) := by decide +kernel
theorem dX9_totalOf_57 : decode cX9_totalOf 57 = .ok (.iload_n 2, 1) := by decide +kernel
theorem dX9_totalOf_58 : decode cX9_totalOf 58 = .ok (.iload_n 3, 1) := by decide +kernel
theorem dX9_totalOf_59 : decode cX9_totalOf 59 = .ok (.iload_n 1, 1) := by decide +kernel
theorem dX9_totalOf_60 : decode cX9_totalOf 60 = .ok (.if_icmp .ne 7, 3) := by decide +kernel
theorem dX9_totalOf_63 : decode cX9_totalOf 63 = .ok (.iconst 0, 1) := by decide +kernel
theorem dX9_totalOf_64 : decode cX9_totalOf 64 = .ok (.goto 35, 3) := by decide +kernel
theorem dX9_totalOf_67 : decode cX9_totalOf 67 = .ok (.aload_n 0, 1) := by decide +kernel
theorem dX9_totalOf_68 : decode cX9_totalOf 68 = .ok (.getfield 25, 3) := by decide +kernel
theorem dX9_totalOf_71 : decode cX9_totalOf 71 = .ok (.iload_n 3, 1) := by decide +kernel
theorem dX9_totalOf_72 : decode cX9_totalOf 72 = .ok (.iconst 0, 1) := by decide +kernel
theorem dX9_totalOf_73 : decode cX9_totalOf 73 = .ok (.aload_n 0, 1) := by decide +kernel
theorem dX9_totalOf_74 : decode cX9_totalOf 74 = .ok (.getfield 52, 3) := by decide +kernel
theorem dX9_totalOf_77 : decode cX9_totalOf 77 = .ok (.aload_n 0, 1) := by decide +kernel
theorem dX9_totalOf_78 : decode cX9_totalOf 78 = .ok (.getfield 16, 3) := by decide +kernel
theorem dX9_totalOf_81 : decode cX9_totalOf 81 = .ok (.iload_n 3, 1) := by decide +kernel
theorem dX9_totalOf_82 : decode cX9_totalOf 82 = .ok (.iaload, 1) := by decide +kernel
theorem dX9_totalOf_83 : decode cX9_totalOf 83 = .ok (.iaload, 1) := by decide +kernel
theorem dX9_totalOf_84 : decode cX9_totalOf 84 = .ok (.aload_n 0, 1) := by decide +kernel
theorem dX9_totalOf_85 : decode cX9_totalOf 85 = .ok (.getfield 52, 3) := by decide +kernel
theorem dX9_totalOf_88 : decode cX9_totalOf 88 = .ok (.aload_n 0, 1) := by decide +kernel
theorem dX9_totalOf_89 : decode cX9_totalOf 89 = .ok (.getfield 19, 3) := by decide +kernel
theorem dX9_totalOf_92 : decode cX9_totalOf 92 = .ok (.iload_n 3, 1) := by decide +kernel
theorem dX9_totalOf_93 : decode cX9_totalOf 93 = .ok (.iaload, 1) := by decide +kernel
theorem dX9_totalOf_94 : decode cX9_totalOf 94 = .ok (.iaload, 1) := by decide +kernel
theorem dX9_totalOf_95 : decode cX9_totalOf 95 = .ok (.invokestatic 150, 3) := by decide +kernel
theorem dX9_totalOf_98 : decode cX9_totalOf 98 = .ok (.iaload, 1) := by decide +kernel
theorem dX9_totalOf_99 : decode cX9_totalOf 99 = .ok (.invokevirtual 125, 3) := by decide +kernel
theorem dX9_totalOf_102 : decode cX9_totalOf 102 = .ok (.istore_n 2, 1) := by decide +kernel
theorem dX9_totalOf_103 : decode cX9_totalOf 103 = .ok (.iinc 3 1, 3) := by decide +kernel
theorem dX9_totalOf_106 : decode cX9_totalOf 106 = .ok (.goto (-58), 3) := by decide +kernel
theorem dX9_totalOf_109 : decode cX9_totalOf 109 = .ok (.iload_n 2, 1) := by decide +kernel
theorem dX9_totalOf_110 : decode cX9_totalOf 110 = .ok (.ireturn, 1) := by decide +kernel
theorem dX9_total_0 : decode cX9_total 0 = .ok (.iconst 0, 1) := by decide +kernel
theorem dX9_total_1 : decode cX9_total 1 = .ok (.istore_n 1, 1) := by decide +kernel
theorem dX9_total_2 : decode cX9_total 2 = .ok (.iload_n 1, 1) := by decide +kernel
theorem dX9_total_3 : decode cX9_total 3 = .ok (.aload_n 0, 1) := by decide +kernel
theorem dX9_total_4 : decode cX9_total 4 = .ok (.getfield 58, 3) := by decide +kernel
theorem dX9_total_7 : decode cX9_total 7 = .ok (.if_icmp .ge 21, 3) := by decide +kernel
theorem dX9_total_10 : decode cX9_total 10 = .ok (.aload_n 0, 1) := by decide +kernel
theorem dX9_total_11 : decode cX9_total 11 = .ok (.getfield 52, 3) := by decide +kernel
theorem dX9_total_14 : decode cX9_total 14 = .ok (.iload_n 1, 1) := by decide +kernel
theorem dX9_total_15 : decode cX9_total 15 = .ok (.aload_n 0, 1) := by decide +kernel
theorem dX9_total_16 : decode cX9_total 16 = .ok (.getfield 22, 3) := by decide +kernel
theorem dX9_total_19 : decode cX9_total 19 = .ok (.iload_n 1, 1) := by decide +kernel
theorem dX9_total_20 : decode cX9_total 20 = .ok (.iaload, 1) := by decide +kernel
theorem dX9_total_21 : decode cX9_total 21 = .ok (.iastore, 1) := by decide +kernel
theorem dX9_total_22 : decode cX9_total 22 = .ok (.iinc 1 1, 3) := by decide +kernel
theorem dX9_total_25 : decode cX9_total 25 = .ok (.goto (-23), 3) := by decide +kernel
theorem dX9_total_28 : decode cX9_total 28 = .ok (.aload_n 0, 1) := by decide +kernel
theorem dX9_total_29 : decode cX9_total 29 = .ok (.bipush (-4), 2) := by decide +kernel
theorem dX9_total_31 : decode cX9_total 31 = .ok (.invokevirtual 197, 3) := by decide +kernel
theorem dX9_total_34 : decode cX9_total 34 = .ok (.ireturn, 1) := by decide +kernel
theorem dX9_choices_0 : decode cX9_choices 0 = .ok (.iconst 1, 1) := by decide +kernel
theorem dX9_choices_1 : decode cX9_choices 1 = .ok (.istore_n 1, 1) := by decide +kernel
theorem dX9_choices_2 : decode cX9_choices 2 = .ok (.iconst 0, 1) := by decide +kernel
theorem dX9_choices_3 : decode cX9_choices 3 = .ok (.istore_n 2, 1) := by decide +kernel
theorem dX9_choices_4 : decode cX9_choices 4 = .ok (.iload_n 2, 1) := by decide +kernel
theorem dX9_choices_5 : decode cX9_choices 5 = .ok (.aload_n 0, 1) := by decide +kernel
theorem dX9_choices_6 : decode cX9_choices 6 = .ok (.getfield 58, 3) := by decide +kernel
theorem dX9_choices_9 : decode cX9_choices 9 = .ok (.if_icmp .ge 18, 3) := by decide +kernel
theorem dX9_choices_12 : decode cX9_choices 12 = .ok (.iload_n 1, 1) := by decide +kernel
theorem dX9_choices_13 : decode cX9_choices 13 = .ok (.aload_n 0, 1) := by decide +kernel
theorem dX9_choices_14 : decode cX9_choices 14 = .ok (.getfield 13, 3) := by decide +kernel
theorem dX9_choices_17 : decode cX9_choices 17 = .ok (.iload_n 2, 1) := by decide +kernel
theorem dX9_choices_18 : decode cX9_choices 18 = .ok (.iaload, 1) := by decide +kernel
theorem dX9_choices_19 : decode cX9_choices 19 = .ok (.imul, 1) := by decide +kernel
theorem dX9_choices_20 : decode cX9_choices 20 = .ok (.istore_n 1, 1) := by decide +kernel
theorem dX9_choices_21 : decode cX9_choices 21 = .ok (.iinc 2 1, 3) := by decide +kernel
theorem dX9_choices_24 : decode cX9_choices 24 = .ok (.goto (-20), 3) := by decide +kernel
theorem dX9_choices_27 : decode cX9_choices 27 = .ok (.iload_n 1, 1) := by decide +kernel
theorem dX9_choices_28 : decode cX9_choices 28 = .ok (.ireturn, 1) := by decide +kernel
theorem dX9_takes_0 : decode cX9_takes 0 = .ok (.iload_n 1, 1) := by decide +kernel
theorem dX9_takes_1 : decode cX9_takes 1 = .ok (.istore_n 2, 1) := by decide +kernel
theorem dX9_takes_2 : decode cX9_takes 2 = .ok (.aload_n 0, 1) := by decide +kernel
theorem dX9_takes_3 : decode cX9_takes 3 = .ok (.getfield 58, 3) := by decide +kernel
theorem dX9_takes_6 : decode cX9_takes 6 = .ok (.iconst 1, 1) := by decide +kernel
theorem dX9_takes_7 : decode cX9_takes 7 = .ok (.isub, 1) := by decide +kernel
theorem dX9_takes_8 : decode cX9_takes 8 = .ok (.istore_n 3, 1) := by decide +kernel
theorem dX9_takes_9 : decode cX9_takes 9 = .ok (.iload_n 3, 1) := by decide +kernel
theorem dX9_takes_10 : decode cX9_takes 10 = .ok (.ifCond .lt 32, 3) := by decide +kernel
theorem dX9_takes_13 : decode cX9_takes 13 = .ok (.aload_n 0, 1) := by decide +kernel
theorem dX9_takes_14 : decode cX9_takes 14 = .ok (.getfield 52, 3) := by decide +kernel
theorem dX9_takes_17 : decode cX9_takes 17 = .ok (.iload_n 3, 1) := by decide +kernel
theorem dX9_takes_18 : decode cX9_takes 18 = .ok (.iload_n 2, 1) := by decide +kernel
theorem dX9_takes_19 : decode cX9_takes 19 = .ok (.aload_n 0, 1) := by decide +kernel
theorem dX9_takes_20 : decode cX9_takes 20 = .ok (.getfield 13, 3) := by decide +kernel
theorem dX9_takes_23 : decode cX9_takes 23 = .ok (.iload_n 3, 1) := by decide +kernel
theorem dX9_takes_24 : decode cX9_takes 24 = .ok (.iaload, 1) := by decide +kernel
theorem dX9_takes_25 : decode cX9_takes 25 = .ok (.irem, 1) := by decide +kernel
theorem dX9_takes_26 : decode cX9_takes 26 = .ok (.iastore, 1) := by decide +kernel
theorem dX9_takes_27 : decode cX9_takes 27 = .ok (.iload_n 2, 1) := by decide +kernel
theorem dX9_takes_28 : decode cX9_takes 28 = .ok (.aload_n 0, 1) := by decide +kernel
theorem dX9_takes_29 : decode cX9_takes 29 = .ok (.getfield 13, 3) := by decide +kernel
theorem dX9_takes_32 : decode cX9_takes 32 = .ok (.iload_n 3, 1) := by decide +kernel
theorem dX9_takes_33 : decode cX9_takes 33 = .ok (.iaload, 1) := by decide +kernel
theorem dX9_takes_34 : decode cX9_takes 34 = .ok (.idiv, 1) := by decide +kernel
theorem dX9_takes_35 : decode cX9_takes 35 = .ok (.istore_n 2, 1) := by decide +kernel
theorem dX9_takes_36 : decode cX9_takes 36 = .ok (.iinc 3 (-1), 3) := by decide +kernel
theorem dX9_takes_39 : decode cX9_takes 39 = .ok (.goto (-30), 3) := by decide +kernel
theorem dX9_takes_42 : decode cX9_takes 42 = .ok (.return_, 1) := by decide +kernel
theorem dX9_meets_0 : decode cX9_meets 0 = .ok (.iconst 0, 1) := by decide +kernel
theorem dX9_meets_1 : decode cX9_meets 1 = .ok (.istore_n 2, 1) := by decide +kernel
theorem dX9_meets_2 : decode cX9_meets 2 = .ok (.iconst 0, 1) := by decide +kernel
theorem dX9_meets_3 : decode cX9_meets 3 = .ok (.istore_n 3, 1) := by decide +kernel
theorem dX9_meets_4 : decode cX9_meets 4 = .ok (.iload_n 3, 1) := by decide +kernel
theorem dX9_meets_5 : decode cX9_meets 5 = .ok (.aload_n 0, 1) := by decide +kernel
theorem dX9_meets_6 : decode cX9_meets 6 = .ok (.getfield 58, 3) := by decide +kernel
theorem dX9_meets_9 : decode cX9_meets 9 = .ok (.if_icmp .ge 24, 3) := by decide +kernel
theorem dX9_meets_12 : decode cX9_meets 12 = .ok (.iload_n 2, 1) := by decide +kernel
theorem dX9_meets_13 : decode cX9_meets 13 = .ok (.iconst 1, 1) := by decide +kernel
theorem dX9_meets_14 : decode cX9_meets 14 = .ok (.iconst 4, 1) := by decide +kernel
theorem dX9_meets_15 : decode cX9_meets 15 = .ok (.iload_n 3, 1) := by decide +kernel
theorem dX9_meets_16 : decode cX9_meets 16 = .ok (.imul, 1) := by decide +kernel
theorem dX9_meets_17 : decode cX9_meets 17 = .ok (.aload_n 0, 1) := by decide +kernel
theorem dX9_meets_18 : decode cX9_meets 18 = .ok (.getfield 52, 3) := by decide +kernel
theorem dX9_meets_21 : decode cX9_meets 21 = .ok (.iload_n 3, 1) := by decide +kernel
theorem dX9_meets_22 : decode cX9_meets 22 = .ok (.iaload, 1) := by decide +kernel
theorem dX9_meets_23 : decode cX9_meets 23 = .ok (.iadd, 1) := by decide +kernel
theorem dX9_meets_24 : decode cX9_meets 24 = .ok (.ishl, 1) := by decide +kernel
theorem dX9_meets_25 : decode cX9_meets 25 = .ok (.ior, 1) := by decide +kernel
theorem dX9_meets_26 : decode cX9_meets 26 = .ok (.istore_n 2, 1) := by decide +kernel
theorem dX9_meets_27 : decode cX9_meets 27 = .ok (.iinc 3 1, 3) := by decide +kernel
theorem dX9_meets_30 : decode cX9_meets 30 = .ok (.goto (-26), 3) := by decide +kernel
theorem dX9_meets_33 : decode cX9_meets 33 = .ok (.iload_n 1, 1) := by decide +kernel
theorem dX9_meets_34 : decode cX9_meets 34 = .ok (.aload_n 0, 1) := by decide +kernel
theorem dX9_meets_35 : decode cX9_meets 35 = .ok (.getfield 200, 3) := by decide +kernel
theorem dX9_meets_38 : decode cX9_meets 38 = .ok (.if_icmp .ge 54, 3) := by decide +kernel
theorem dX9_meets_41 : decode cX9_meets 41 = .ok (.aload_n 0, 1) := by decide +kernel
theorem dX9_meets_42 : decode cX9_meets 42 = .ok (.aload_n 0, 1) := by decide +kernel
theorem dX9_meets_43 : decode cX9_meets 43 = .ok (.getfield 200, 3) := by decide +kernel
theorem dX9_meets_46 : decode cX9_meets 46 = .ok (.putfield 203, 3) := by decide +kernel
theorem dX9_meets_49 : decode cX9_meets 49 = .ok (.aload_n 0, 1) := by decide +kernel
theorem dX9_meets_50 : decode cX9_meets 50 = .ok (.iload_n 1, 1) := by decide +kernel
theorem dX9_meets_51 : decode cX9_meets 51 = .ok (.putfield 200, 3) := by decide +kernel
theorem dX9_meets_54 : decode cX9_meets 54 = .ok (.aload_n 0, 1) := by decide +kernel
theorem dX9_meets_55 : decode cX9_meets 55 = .ok (.iconst 0, 1) := by decide +kernel
theorem dX9_meets_56 : decode cX9_meets 56 = .ok (.putfield 206, 3) := by decide +kernel
theorem dX9_meets_59 : decode cX9_meets 59 = .ok (.aload_n 0, 1) := by decide +kernel
theorem dX9_meets_60 : decode cX9_meets 60 = .ok (.iload_n 2, 1) := by decide +kernel
theorem dX9_meets_61 : decode cX9_meets 61 = .ok (.putfield 209, 3) := by decide +kernel
theorem dX9_meets_64 : decode cX9_meets 64 = .ok (.iconst 0, 1) := by decide +kernel
theorem dX9_meets_65 : decode cX9_meets 65 = .ok (.istore_n 3, 1) := by decide +kernel
theorem dX9_meets_66 : decode cX9_meets 66 = .ok (.iload_n 3, 1) := by decide +kernel
theorem dX9_meets_67 : decode cX9_meets 67 = .ok (.aload_n 0, 1) := by decide +kernel
theorem dX9_meets_68 : decode cX9_meets 68 = .ok (.getfield 58, 3) := by decide +kernel
theorem dX9_meets_71 : decode cX9_meets 71 = .ok (.if_icmp .ge 21, 3) := by decide +kernel
theorem dX9_meets_74 : decode cX9_meets 74 = .ok (.aload_n 0, 1) := by decide +kernel
theorem dX9_meets_75 : decode cX9_meets 75 = .ok (.getfield 55, 3) := by decide +kernel
theorem dX9_meets_78 : decode cX9_meets 78 = .ok (.iload_n 3, 1) := by decide +kernel
theorem dX9_meets_79 : decode cX9_meets 79 = .ok (.aload_n 0, 1) := by decide +kernel
theorem dX9_meets_80 : decode cX9_meets 80 = .ok (.getfield 52, 3) := by decide +kernel
theorem dX9_meets_83 : decode cX9_meets 83 = .ok (.iload_n 3, 1) := by decide +kernel
theorem dX9_meets_84 : decode cX9_meets 84 = .ok (.iaload, 1) := by decide +kernel
theorem dX9_meets_85 : decode cX9_meets 85 = .ok (.iastore, 1) := by decide +kernel
theorem dX9_meets_86 : decode cX9_meets 86 = .ok (.iinc 3 1, 3) := by decide +kernel
theorem dX9_meets_89 : decode cX9_meets 89 = .ok (.goto (-23), 3) := by decide +kernel
theorem dX9_meets_92 : decode cX9_meets 92 = .ok (.aload_n 0, 1) := by decide +kernel
theorem dX9_meets_93 : decode cX9_meets 93 = .ok (.iload_n 1, 1) := by decide +kernel
theorem dX9_meets_94 : decode cX9_meets 94 = .ok (.aload_n 0, 1) := by decide +kernel
theorem dX9_meets_95 : decode cX9_meets 95 = .ok (.getfield 200, 3) := by decide +kernel
theorem dX9_meets_98 : decode cX9_meets 98 = .ok (.if_icmp .le 15, 3) := by decide +kernel
theorem dX9_meets_101 : decode cX9_meets 101 = .ok (.iload_n 1, 1) := by decide +kernel
theorem dX9_meets_102 : decode cX9_meets 102 = .ok (.aload_n 0, 1) := by decide +kernel
theorem dX9_meets_103 : decode cX9_meets 103 = .ok (.getfield 203, 3) := by decide +kernel
theorem dX9_meets_106 : decode cX9_meets 106 = .ok (.if_icmp .ge 7, 3) := by decide +kernel
theorem dX9_meets_109 : decode cX9_meets 109 = .ok (.iload_n 1, 1) := by decide +kernel
theorem dX9_meets_110 : decode cX9_meets 110 = .ok (.goto 7, 3) := by decide +kernel
theorem dX9_meets_113 : decode cX9_meets 113 = .ok (.aload_n 0, 1) := by decide +kernel
theorem dX9_meets_114 : decode cX9_meets 114 = .ok (.getfield 203, 3) := by decide +kernel
theorem dX9_meets_117 : decode cX9_meets 117 = .ok (.putfield 203, 3) := by decide +kernel
theorem dX9_meets_120 : decode cX9_meets 120 = .ok (.aload_n 0, 1) := by decide +kernel
theorem dX9_meets_121 : decode cX9_meets 121 = .ok (.dup, 1) := by decide +kernel
theorem dX9_meets_122 : decode cX9_meets 122 = .ok (.getfield 206, 3) := by decide +kernel
theorem dX9_meets_125 : decode cX9_meets 125 = .ok (.iload_n 1, 1) := by decide +kernel
theorem dX9_meets_126 : decode cX9_meets 126 = .ok (.aload_n 0, 1) := by decide +kernel
theorem dX9_meets_127 : decode cX9_meets 127 = .ok (.getfield 200, 3) := by decide +kernel
theorem dX9_meets_130 : decode cX9_meets 130 = .ok (.if_icmp .ne 7, 3) := by decide +kernel
theorem dX9_meets_133 : decode cX9_meets 133 = .ok (.iconst 1, 1) := by decide +kernel
theorem dX9_meets_134 : decode cX9_meets 134 = .ok (.goto 4, 3) := by decide +kernel
theorem dX9_meets_137 : decode cX9_meets 137 = .ok (.iconst 0, 1) := by decide +kernel
theorem dX9_meets_138 : decode cX9_meets 138 = .ok (.iadd, 1) := by decide +kernel
theorem dX9_meets_139 : decode cX9_meets 139 = .ok (.putfield 206, 3) := by decide +kernel
theorem dX9_meets_142 : decode cX9_meets 142 = .ok (.aload_n 0, 1) := by decide +kernel
theorem dX9_meets_143 : decode cX9_meets 143 = .ok (.iload_n 1, 1) := by decide +kernel
theorem dX9_meets_144 : decode cX9_meets 144 = .ok (.aload_n 0, 1) := by decide +kernel
theorem dX9_meets_145 : decode cX9_meets 145 = .ok (.getfield 200, 3) := by decide +kernel
theorem dX9_meets_148 : decode cX9_meets 148 = .ok (.if_icmp .ne 12, 3) := by decide +kernel
theorem dX9_meets_151 : decode cX9_meets 151 = .ok (.aload_n 0, 1) := by decide +kernel
theorem dX9_meets_152 : decode cX9_meets 152 = .ok (.getfield 209, 3) := by decide +kernel
theorem dX9_meets_155 : decode cX9_meets 155 = .ok (.iload_n 2, 1) := by decide +kernel
theorem dX9_meets_156 : decode cX9_meets 156 = .ok (.iand, 1) := by decide +kernel
theorem dX9_meets_157 : decode cX9_meets 157 = .ok (.goto 7, 3) := by decide +kernel
theorem dX9_meets_160 : decode cX9_meets 160 = .ok (.aload_n 0, 1) := by decide +kernel
theorem dX9_meets_161 : decode cX9_meets 161 = .ok (.getfield 209, 3) := by decide +kernel
theorem dX9_meets_164 : decode cX9_meets 164 = .ok (.putfield 209, 3) := by decide +kernel
theorem dX9_meets_167 : decode cX9_meets 167 = .ok (.return_, 1) := by decide +kernel
theorem dX9_looks_0 : decode cX9_looks 0 = .ok (.aload_n 0, 1) := by decide +kernel
theorem dX9_looks_1 : decode cX9_looks 1 = .ok (.aload_n 0, 1) := by decide +kernel
theorem dX9_looks_2 : decode cX9_looks 2 = .ok (.getfield 62, 3) := by decide +kernel
theorem dX9_looks_5 : decode cX9_looks 5 = .ok (.putfield 200, 3) := by decide +kernel
theorem dX9_looks_8 : decode cX9_looks 8 = .ok (.aload_n 0, 1) := by decide +kernel
theorem dX9_looks_9 : decode cX9_looks 9 = .ok (.aload_n 0, 1) := by decide +kernel
theorem dX9_looks_10 : decode cX9_looks 10 = .ok (.getfield 62, 3) := by decide +kernel
theorem dX9_looks_13 : decode cX9_looks 13 = .ok (.putfield 203, 3) := by decide +kernel
theorem dX9_looks_16 : decode cX9_looks 16 = .ok (.aload_n 0, 1) := by decide +kernel
theorem dX9_looks_17 : decode cX9_looks 17 = .ok (.iconst 0, 1) := by decide +kernel
theorem dX9_looks_18 : decode cX9_looks 18 = .ok (.putfield 212, 3) := by decide +kernel
theorem dX9_looks_21 : decode cX9_looks 21 = .ok (.aload_n 0, 1) := by decide +kernel
theorem dX9_looks_22 : decode cX9_looks 22 = .ok (.iconst 0, 1) := by decide +kernel
theorem dX9_looks_23 : decode cX9_looks 23 = .ok (.putfield 206, 3) := by decide +kernel
theorem dX9_looks_26 : decode cX9_looks 26 = .ok (.aload_n 0, 1) := by decide +kernel
theorem dX9_looks_27 : decode cX9_looks 27 = .ok (.invokevirtual 215, 3) := by decide +kernel
theorem dX9_looks_30 : decode cX9_looks 30 = .ok (.istore_n 1, 1) := by decide +kernel
theorem dX9_looks_31 : decode cX9_looks 31 = .ok (.iconst 0, 1) := by decide +kernel
theorem dX9_looks_32 : decode cX9_looks 32 = .ok (.istore_n 2, 1) := by decide +kernel
theorem dX9_looks_33 : decode cX9_looks 33 = .ok (.iload_n 2, 1) := by decide +kernel
theorem dX9_looks_34 : decode cX9_looks 34 = .ok (.iload_n 1, 1) := by decide +kernel
theorem dX9_looks_35 : decode cX9_looks 35 = .ok (.if_icmp .ge 44, 3) := by decide +kernel
theorem dX9_looks_38 : decode cX9_looks 38 = .ok (.aload_n 0, 1) := by decide +kernel
theorem dX9_looks_39 : decode cX9_looks 39 = .ok (.iload_n 2, 1) := by decide +kernel
theorem dX9_looks_40 : decode cX9_looks 40 = .ok (.invokevirtual 218, 3) := by decide +kernel
theorem dX9_looks_43 : decode cX9_looks 43 = .ok (.aload_n 0, 1) := by decide +kernel
theorem dX9_looks_44 : decode cX9_looks 44 = .ok (.bipush (-4), 2) := by decide +kernel
theorem dX9_looks_46 : decode cX9_looks 46 = .ok (.invokevirtual 197, 3) := by decide +kernel
theorem dX9_looks_49 : decode cX9_looks 49 = .ok (.istore_n 3, 1) := by decide +kernel
theorem dX9_looks_50 : decode cX9_looks 50 = .ok (.iload_n 3, 1) := by decide +kernel
theorem dX9_looks_51 : decode cX9_looks 51 = .ok (.aload_n 0, 1) := by decide +kernel
theorem dX9_looks_52 : decode cX9_looks 52 = .ok (.getfield 62, 3) := by decide +kernel
theorem dX9_looks_55 : decode cX9_looks 55 = .ok (.if_icmp .ge 18, 3) := by decide +kernel
theorem dX9_looks_58 : decode cX9_looks 58 = .ok (.aload_n 0, 1) := by decide +kernel
theorem dX9_looks_59 : decode cX9_looks 59 = .ok (.dup, 1) := by decide +kernel
theorem dX9_looks_60 : decode cX9_looks 60 = .ok (.getfield 212, 3) := by decide +kernel
theorem dX9_looks_63 : decode cX9_looks 63 = .ok (.iconst 1, 1) := by decide +kernel
theorem dX9_looks_64 : decode cX9_looks 64 = .ok (.iadd, 1) := by decide +kernel
theorem dX9_looks_65 : decode cX9_looks 65 = .ok (.putfield 212, 3) := by decide +kernel
theorem dX9_looks_68 : decode cX9_looks 68 = .ok (.aload_n 0, 1) := by decide +kernel
theorem dX9_looks_69 : decode cX9_looks 69 = .ok (.iload_n 3, 1) := by decide +kernel
theorem dX9_looks_70 : decode cX9_looks 70 = .ok (.invokevirtual 221, 3) := by decide +kernel
theorem dX9_looks_73 : decode cX9_looks 73 = .ok (.iinc 2 1, 3) := by decide +kernel
theorem dX9_looks_76 : decode cX9_looks 76 = .ok (.goto (-43), 3) := by decide +kernel
theorem dX9_looks_79 : decode cX9_looks 79 = .ok (.return_, 1) := by decide +kernel
theorem dX9_best_0 : decode cX9_best 0 = .ok (.iload_n 1, 1) := by decide +kernel
theorem dX9_best_1 : decode cX9_best 1 = .ok (.bipush (-2), 2) := by decide +kernel
theorem dX9_best_3 : decode cX9_best 3 = .ok (.aload_n 0, 1) := by decide +kernel
theorem dX9_best_4 : decode cX9_best 4 = .ok (.getfield 58, 3) := by decide +kernel
theorem dX9_best_7 : decode cX9_best 7 = .ok (.iconst 1, 1) := by decide +kernel
theorem dX9_best_8 : decode cX9_best 8 = .ok (.isub, 1) := by decide +kernel
theorem dX9_best_9 : decode cX9_best 9 = .ok (.invokestatic 85, 3) := by decide +kernel
theorem dX9_best_12 : decode cX9_best 12 = .ok (.ifCond .ne 5, 3) := by decide +kernel
theorem dX9_best_15 : decode cX9_best 15 = .ok (.iconst (-1), 1) := by decide +kernel
theorem dX9_best_16 : decode cX9_best 16 = .ok (.ireturn, 1) := by decide +kernel
theorem dX9_best_17 : decode cX9_best 17 = .ok (.aload_n 0, 1) := by decide +kernel
theorem dX9_best_18 : decode cX9_best 18 = .ok (.invokevirtual 224, 3) := by decide +kernel
theorem dX9_best_21 : decode cX9_best 21 = .ok (.aload_n 0, 1) := by decide +kernel
theorem dX9_best_22 : decode cX9_best 22 = .ok (.getfield 212, 3) := by decide +kernel
theorem dX9_best_25 : decode cX9_best 25 = .ok (.ifCond .ne 6, 3) := by decide +kernel
theorem dX9_best_28 : decode cX9_best 28 = .ok (.bipush (-4), 2) := by decide +kernel
theorem dX9_best_30 : decode cX9_best 30 = .ok (.ireturn, 1) := by decide +kernel
theorem dX9_best_31 : decode cX9_best 31 = .ok (.iload_n 1, 1) := by decide +kernel
theorem dX9_best_32 : decode cX9_best 32 = .ok (.iconst (-1), 1) := by decide +kernel
theorem dX9_best_33 : decode cX9_best 33 = .ok (.if_icmp .ne 10, 3) := by decide +kernel
theorem dX9_best_36 : decode cX9_best 36 = .ok (.aload_n 0, 1) := by decide +kernel
theorem dX9_best_37 : decode cX9_best 37 = .ok (.getfield 200, 3) := by decide +kernel
theorem dX9_best_40 : decode cX9_best 40 = .ok (.goto 22, 3) := by decide +kernel
theorem dX9_best_43 : decode cX9_best 43 = .ok (.iload_n 1, 1) := by decide +kernel
theorem dX9_best_44 : decode cX9_best 44 = .ok (.bipush (-2), 2) := by decide +kernel
theorem dX9_best_46 : decode cX9_best 46 = .ok (.if_icmp .ne 10, 3) := by decide +kernel
theorem dX9_best_49 : decode cX9_best 49 = .ok (.aload_n 0, 1) := by decide +kernel
theorem dX9_best_50 : decode cX9_best 50 = .ok (.getfield 206, 3) := by decide +kernel
theorem dX9_best_53 : decode cX9_best 53 = .ok (.goto 9, 3) := by decide +kernel
theorem dX9_best_56 : decode cX9_best 56 = .ok (.aload_n 0, 1) := by decide +kernel
theorem dX9_best_57 : decode cX9_best 57 = .ok (.getfield 55, 3) := by decide +kernel
theorem dX9_best_60 : decode cX9_best 60 = .ok (.iload_n 1, 1) := by decide +kernel
theorem dX9_best_61 : decode cX9_best 61 = .ok (.iaload, 1) := by decide +kernel
theorem dX9_best_62 : decode cX9_best 62 = .ok (.ireturn, 1) := by decide +kernel
theorem dX9_next_0 : decode cX9_next 0 = .ok (.iload_n 1, 1) := by decide +kernel
theorem dX9_next_1 : decode cX9_next 1 = .ok (.iconst 0, 1) := by decide +kernel
theorem dX9_next_2 : decode cX9_next 2 = .ok (.iconst 1, 1) := by decide +kernel
theorem dX9_next_3 : decode cX9_next 3 = .ok (.invokestatic 85, 3) := by decide +kernel
theorem dX9_next_6 : decode cX9_next 6 = .ok (.ifCond .ne 5, 3) := by decide +kernel
theorem dX9_next_9 : decode cX9_next 9 = .ok (.iconst (-1), 1) := by decide +kernel
theorem dX9_next_10 : decode cX9_next 10 = .ok (.ireturn, 1) := by decide +kernel
theorem dX9_next_11 : decode cX9_next 11 = .ok (.aload_n 0, 1) := by decide +kernel
theorem dX9_next_12 : decode cX9_next 12 = .ok (.invokevirtual 224, 3) := by decide +kernel
theorem dX9_next_15 : decode cX9_next 15 = .ok (.iload_n 1, 1) := by decide +kernel
theorem dX9_next_16 : decode cX9_next 16 = .ok (.iconst 1, 1) := by decide +kernel
theorem dX9_next_17 : decode cX9_next 17 = .ok (.if_icmp .ne 10, 3) := by decide +kernel
theorem dX9_next_20 : decode cX9_next 20 = .ok (.aload_n 0, 1) := by decide +kernel
theorem dX9_next_21 : decode cX9_next 21 = .ok (.getfield 212, 3) := by decide +kernel
theorem dX9_next_24 : decode cX9_next 24 = .ok (.goto 23, 3) := by decide +kernel
theorem dX9_next_27 : decode cX9_next 27 = .ok (.aload_n 0, 1) := by decide +kernel
theorem dX9_next_28 : decode cX9_next 28 = .ok (.getfield 203, 3) := by decide +kernel
theorem dX9_next_31 : decode cX9_next 31 = .ok (.aload_n 0, 1) := by decide +kernel
theorem dX9_next_32 : decode cX9_next 32 = .ok (.getfield 62, 3) := by decide +kernel
theorem dX9_next_35 : decode cX9_next 35 = .ok (.if_icmp .ge 10, 3) := by decide +kernel
theorem dX9_next_38 : decode cX9_next 38 = .ok (.aload_n 0, 1) := by decide +kernel
theorem dX9_next_39 : decode cX9_next 39 = .ok (.getfield 203, 3) := by decide +kernel
theorem dX9_next_42 : decode cX9_next 42 = .ok (.goto 5, 3) := by decide +kernel
theorem dX9_next_45 : decode cX9_next 45 = .ok (.bipush (-4), 2) := by decide +kernel
theorem dX9_next_47 : decode cX9_next 47 = .ok (.ireturn, 1) := by decide +kernel
theorem dX9_backbone_0 : decode cX9_backbone 0 = .ok (.aload_n 0, 1) := by decide +kernel
theorem dX9_backbone_1 : decode cX9_backbone 1 = .ok (.invokevirtual 224, 3) := by decide +kernel
theorem dX9_backbone_4 : decode cX9_backbone 4 = .ok (.aload_n 0, 1) := by decide +kernel
theorem dX9_backbone_5 : decode cX9_backbone 5 = .ok (.getfield 212, 3) := by decide +kernel
theorem dX9_backbone_8 : decode cX9_backbone 8 = .ok (.ifCond .ne 8, 3) := by decide +kernel
theorem dX9_backbone_11 : decode cX9_backbone 11 = .ok (.bipush (-4), 2) := by decide +kernel
theorem dX9_backbone_13 : decode cX9_backbone 13 = .ok (.goto 7, 3) := by decide +kernel
theorem dX9_backbone_16 : decode cX9_backbone 16 = .ok (.aload_n 0, 1) := by decide +kernel
theorem dX9_backbone_17 : decode cX9_backbone 17 = .ok (.getfield 209, 3) := by decide +kernel
theorem dX9_backbone_20 : decode cX9_backbone 20 = .ok (.ireturn, 1) := by decide +kernel
theorem dX9_least_0 : decode cX9_least 0 = .ok (.aload_n 0, 1) := by decide +kernel
theorem dX9_least_1 : decode cX9_least 1 = .ok (.getfield 62, 3) := by decide +kernel
theorem dX9_least_4 : decode cX9_least 4 = .ok (.istore 4, 2) := by decide +kernel
theorem dX9_least_6 : decode cX9_least 6 = .ok (.aload_n 0, 1) := by decide +kernel
theorem dX9_least_7 : decode cX9_least 7 = .ok (.invokevirtual 215, 3) := by decide +kernel
theorem dX9_least_10 : decode cX9_least 10 = .ok (.istore 5, 2) := by decide +kernel
theorem dX9_least_12 : decode cX9_least 12 = .ok (.iconst 0, 1) := by decide +kernel
theorem dX9_least_13 : decode cX9_least 13 = .ok (.istore 6, 2) := by decide +kernel
theorem dX9_least_15 : decode cX9_least 15 = .ok (.iload 6, 2) := by decide +kernel
theorem dX9_least_17 : decode cX9_least 17 = .ok (.iload 5, 2) := by decide +kernel
theorem dX9_least_19 : decode cX9_least 19 = .ok (.if_icmp .ge 52, 3) := by decide +kernel
theorem dX9_least_22 : decode cX9_least 22 = .ok (.aload_n 0, 1) := by decide +kernel
theorem dX9_least_23 : decode cX9_least 23 = .ok (.iload 6, 2) := by decide +kernel
theorem dX9_least_25 : decode cX9_least 25 = .ok (.invokevirtual 218, 3) := by decide +kernel
theorem dX9_least_28 : decode cX9_least 28 = .ok (.iload_n 1, 1) := by decide +kernel
theorem dX9_least_29 : decode cX9_least 29 = .ok (.ifCond .lt 13, 3) := by decide +kernel
theorem dX9_least_32 : decode cX9_least 32 = .ok (.aload_n 0, 1) := by decide +kernel
theorem dX9_least_33 : decode cX9_least 33 = .ok (.getfield 52, 3) := by decide +kernel
theorem dX9_least_36 : decode cX9_least 36 = .ok (.iload_n 1, 1) := by decide +kernel
theorem dX9_least_37 : decode cX9_least 37 = .ok (.iaload, 1) := by decide +kernel
theorem dX9_least_38 : decode cX9_least 38 = .ok (.iload_n 2, 1) := by decide +kernel
theorem dX9_least_39 : decode cX9_least 39 = .ok (.if_icmp .ne 26, 3) := by decide +kernel
theorem dX9_least_42 : decode cX9_least 42 = .ok (.aload_n 0, 1) := by decide +kernel
theorem dX9_least_43 : decode cX9_least 43 = .ok (.iload_n 3, 1) := by decide +kernel
theorem dX9_least_44 : decode cX9_least 44 = .ok (.invokevirtual 197, 3) := by decide +kernel
theorem dX9_least_47 : decode cX9_least 47 = .ok (.istore 7, 2) := by decide +kernel
theorem dX9_least_49 : decode cX9_least 49 = .ok (.iload 7, 2) := by decide +kernel
theorem dX9_least_51 : decode cX9_least 51 = .ok (.iload 4, 2) := by decide +kernel
theorem dX9_least_53 : decode cX9_least 53 = .ok (.if_icmp .ge 8, 3) := by decide +kernel
theorem dX9_least_56 : decode cX9_least 56 = .ok (.iload 7, 2) := by decide +kernel
theorem dX9_least_58 : decode cX9_least 58 = .ok (.goto 5, 3) := by decide +kernel
theorem dX9_least_61 : decode cX9_least 61 = .ok (.iload 4, 2) := by decide +kernel
theorem dX9_least_63 : decode cX9_least 63 = .ok (.istore 4, 2) := by decide +kernel
theorem dX9_least_65 : decode cX9_least 65 = .ok (.iinc 6 1, 3) := by decide +kernel
theorem dX9_least_68 : decode cX9_least 68 = .ok (.goto (-53), 3) := by decide +kernel
theorem dX9_least_71 : decode cX9_least 71 = .ok (.iload 4, 2) := by decide +kernel
theorem dX9_least_73 : decode cX9_least 73 = .ok (.aload_n 0, 1) := by decide +kernel
theorem dX9_least_74 : decode cX9_least 74 = .ok (.getfield 62, 3) := by decide +kernel
theorem dX9_least_77 : decode cX9_least 77 = .ok (.if_icmp .ge 8, 3) := by decide +kernel
theorem dX9_least_80 : decode cX9_least 80 = .ok (.iload 4, 2) := by decide +kernel
theorem dX9_least_82 : decode cX9_least 82 = .ok (.goto 5, 3) := by decide +kernel
theorem dX9_least_85 : decode cX9_least 85 = .ok (.bipush (-4), 2) := by decide +kernel
theorem dX9_least_87 : decode cX9_least 87 = .ok (.ireturn, 1) := by decide +kernel
theorem dX9_with_0 : decode cX9_with 0 = .ok (.aload_n 0, 1) := by decide +kernel
theorem dX9_with_1 : decode cX9_with 1 = .ok (.iload_n 1, 1) := by decide +kernel
theorem dX9_with_2 : decode cX9_with 2 = .ok (.iload_n 2, 1) := by decide +kernel
theorem dX9_with_3 : decode cX9_with 3 = .ok (.invokevirtual 141, 3) := by decide +kernel
theorem dX9_with_6 : decode cX9_with 6 = .ok (.ifCond .eq 14, 3) := by decide +kernel
theorem dX9_with_9 : decode cX9_with 9 = .ok (.aload_n 0, 1) := by decide +kernel
theorem dX9_with_10 : decode cX9_with 10 = .ok (.iload_n 1, 1) := by decide +kernel
theorem dX9_with_11 : decode cX9_with 11 = .ok (.iload_n 2, 1) := by decide +kernel
theorem dX9_with_12 : decode cX9_with 12 = .ok (.bipush (-4), 2) := by decide +kernel
theorem dX9_with_14 : decode cX9_with 14 = .ok (.invokevirtual 227, 3) := by decide +kernel
theorem dX9_with_17 : decode cX9_with 17 = .ok (.goto 4, 3) := by decide +kernel
theorem dX9_with_20 : decode cX9_with 20 = .ok (.iconst (-1), 1) := by decide +kernel
theorem dX9_with_21 : decode cX9_with 21 = .ok (.ireturn, 1) := by decide +kernel
theorem dX9_without_0 : decode cX9_without 0 = .ok (.aload_n 0, 1) := by decide +kernel
theorem dX9_without_1 : decode cX9_without 1 = .ok (.iload_n 1, 1) := by decide +kernel
theorem dX9_without_2 : decode cX9_without 2 = .ok (.invokevirtual 144, 3) := by decide +kernel
theorem dX9_without_5 : decode cX9_without 5 = .ok (.ifCond .eq 14, 3) := by decide +kernel
theorem dX9_without_8 : decode cX9_without 8 = .ok (.aload_n 0, 1) := by decide +kernel
theorem dX9_without_9 : decode cX9_without 9 = .ok (.bipush (-4), 2) := by decide +kernel
theorem dX9_without_11 : decode cX9_without 11 = .ok (.iconst 0, 1) := by decide +kernel
theorem dX9_without_12 : decode cX9_without 12 = .ok (.iload_n 1, 1) := by decide +kernel
theorem dX9_without_13 : decode cX9_without 13 = .ok (.invokevirtual 227, 3) := by decide +kernel
theorem dX9_without_16 : decode cX9_without 16 = .ok (.goto 4, 3) := by decide +kernel
theorem dX9_without_19 : decode cX9_without 19 = .ok (.iconst (-1), 1) := by decide +kernel
theorem dX9_without_20 : decode cX9_without 20 = .ok (.ireturn, 1) := by decide +kernel
theorem dX9_pairsWith_0 : decode cX9_pairsWith 0 = .ok (.iconst 0, 1) := by decide +kernel
theorem dX9_pairsWith_1 : decode cX9_pairsWith 1 = .ok (.istore 4, 2) := by decide +kernel
theorem dX9_pairsWith_3 : decode cX9_pairsWith 3 = .ok (.iconst 0, 1) := by decide +kernel
theorem dX9_pairsWith_4 : decode cX9_pairsWith 4 = .ok (.istore 5, 2) := by decide +kernel
theorem dX9_pairsWith_6 : decode cX9_pairsWith 6 = .ok (.iload 5, 2) := by decide +kernel
theorem dX9_pairsWith_8 : decode cX9_pairsWith 8 = .ok (.aload_n 0, 1) := by decide +kernel
theorem dX9_pairsWith_9 : decode cX9_pairsWith 9 = .ok (.getfield 65, 3) := by decide +kernel
theorem dX9_pairsWith_12 : decode cX9_pairsWith 12 = .ok (.if_icmp .ge 108, 3) := by decide +kernel
theorem dX9_pairsWith_15 : decode cX9_pairsWith 15 = .ok (.aload_n 0, 1) := by decide +kernel
theorem dX9_pairsWith_16 : decode cX9_pairsWith 16 = .ok (.getfield 16, 3) := by decide +kernel
theorem dX9_pairsWith_19 : decode cX9_pairsWith 19 = .ok (.iload 5, 2) := by decide +kernel
theorem dX9_pairsWith_21 : decode cX9_pairsWith 21 = .ok (.iaload, 1) := by decide +kernel
theorem dX9_pairsWith_22 : decode cX9_pairsWith 22 = .ok (.iload_n 1, 1) := by decide +kernel
theorem dX9_pairsWith_23 : decode cX9_pairsWith 23 = .ok (.if_icmp .ne 13, 3) := by decide +kernel
theorem dX9_pairsWith_26 : decode cX9_pairsWith 26 = .ok (.aload_n 0, 1) := by decide +kernel
theorem dX9_pairsWith_27 : decode cX9_pairsWith 27 = .ok (.getfield 19, 3) := by decide +kernel
theorem dX9_pairsWith_30 : decode cX9_pairsWith 30 = .ok (.iload 5, 2) := by decide +kernel
theorem dX9_pairsWith_32 : decode cX9_pairsWith 32 = .ok (.iaload, 1) := by decide +kernel
theorem dX9_pairsWith_33 : decode cX9_pairsWith 33 = .ok (.goto 26, 3) := by decide +kernel
theorem dX9_pairsWith_36 : decode cX9_pairsWith 36 = .ok (.aload_n 0, 1) := by decide +kernel
theorem dX9_pairsWith_37 : decode cX9_pairsWith 37 = .ok (.getfield 19, 3) := by decide +kernel
theorem dX9_pairsWith_40 : decode cX9_pairsWith 40 = .ok (.iload 5, 2) := by decide +kernel
theorem dX9_pairsWith_42 : decode cX9_pairsWith 42 = .ok (.iaload, 1) := by decide +kernel
theorem dX9_pairsWith_43 : decode cX9_pairsWith 43 = .ok (.iload_n 1, 1) := by decide +kernel
theorem dX9_pairsWith_44 : decode cX9_pairsWith 44 = .ok (.if_icmp .ne 13, 3) := by decide +kernel
theorem dX9_pairsWith_47 : decode cX9_pairsWith 47 = .ok (.aload_n 0, 1) := by decide +kernel
theorem dX9_pairsWith_48 : decode cX9_pairsWith 48 = .ok (.getfield 16, 3) := by decide +kernel
theorem dX9_pairsWith_51 : decode cX9_pairsWith 51 = .ok (.iload 5, 2) := by decide +kernel
theorem dX9_pairsWith_53 : decode cX9_pairsWith 53 = .ok (.iaload, 1) := by decide +kernel
theorem dX9_pairsWith_54 : decode cX9_pairsWith 54 = .ok (.goto 5, 3) := by decide +kernel
theorem dX9_pairsWith_57 : decode cX9_pairsWith 57 = .ok (.bipush (-4), 2) := by decide +kernel
theorem dX9_pairsWith_59 : decode cX9_pairsWith 59 = .ok (.istore 6, 2) := by decide +kernel
theorem dX9_pairsWith_61 : decode cX9_pairsWith 61 = .ok (.iload 6, 2) := by decide +kernel
theorem dX9_pairsWith_63 : decode cX9_pairsWith 63 = .ok (.ifCond .lt 51, 3) := by decide +kernel
theorem dX9_pairsWith_66 : decode cX9_pairsWith 66 = .ok (.iload 6, 2) := by decide +kernel
theorem dX9_pairsWith_68 : decode cX9_pairsWith 68 = .ok (.iload_n 3, 1) := by decide +kernel
theorem dX9_pairsWith_69 : decode cX9_pairsWith 69 = .ok (.if_icmp .gt 45, 3) := by decide +kernel
theorem dX9_pairsWith_72 : decode cX9_pairsWith 72 = .ok (.aload_n 0, 1) := by decide +kernel
theorem dX9_pairsWith_73 : decode cX9_pairsWith 73 = .ok (.iload 4, 2) := by decide +kernel
theorem dX9_pairsWith_75 : decode cX9_pairsWith 75 = .ok (.aload_n 0, 1) := by decide +kernel
theorem dX9_pairsWith_76 : decode cX9_pairsWith 76 = .ok (.getfield 25, 3) := by decide +kernel
theorem dX9_pairsWith_79 : decode cX9_pairsWith 79 = .ok (.iload 5, 2) := by decide +kernel
theorem dX9_pairsWith_81 : decode cX9_pairsWith 81 = .ok (.aload_n 0, 1) := by decide +kernel
theorem dX9_pairsWith_82 : decode cX9_pairsWith 82 = .ok (.getfield 16, 3) := by decide +kernel
theorem dX9_pairsWith_85 : decode cX9_pairsWith 85 = .ok (.iload 5, 2) := by decide +kernel
theorem dX9_pairsWith_87 : decode cX9_pairsWith 87 = .ok (.iaload, 1) := by decide +kernel
theorem dX9_pairsWith_88 : decode cX9_pairsWith 88 = .ok (.iload_n 1, 1) := by decide +kernel
theorem dX9_pairsWith_89 : decode cX9_pairsWith 89 = .ok (.if_icmp .ne 7, 3) := by decide +kernel
theorem dX9_pairsWith_92 : decode cX9_pairsWith 92 = .ok (.iconst 0, 1) := by decide +kernel
theorem dX9_pairsWith_93 : decode cX9_pairsWith 93 = .ok (.goto 4, 3) := by decide +kernel
theorem dX9_pairsWith_96 : decode cX9_pairsWith 96 = .ok (.iconst 1, 1) := by decide +kernel
theorem dX9_pairsWith_97 : decode cX9_pairsWith 97 = .ok (.iload_n 2, 1) := by decide +kernel
theorem dX9_pairsWith_98 : decode cX9_pairsWith 98 = .ok (.aload_n 0, 1) := by decide +kernel
theorem dX9_pairsWith_99 : decode cX9_pairsWith 99 = .ok (.getfield 52, 3) := by decide +kernel
theorem dX9_pairsWith_102 : decode cX9_pairsWith 102 = .ok (.iload 6, 2) := by decide +kernel
theorem dX9_pairsWith_104 : decode cX9_pairsWith 104 = .ok (.iaload, 1) := by decide +kernel
theorem dX9_pairsWith_105 : decode cX9_pairsWith 105 = .ok (.invokestatic 150, 3) := by decide +kernel
theorem dX9_pairsWith_108 : decode cX9_pairsWith 108 = .ok (.iaload, 1) := by decide +kernel
theorem dX9_pairsWith_109 : decode cX9_pairsWith 109 = .ok (.invokevirtual 125, 3) := by decide +kernel
theorem dX9_pairsWith_112 : decode cX9_pairsWith 112 = .ok (.istore 4, 2) := by decide +kernel
theorem dX9_pairsWith_114 : decode cX9_pairsWith 114 = .ok (.iinc 5 1, 3) := by decide +kernel
theorem dX9_pairsWith_117 : decode cX9_pairsWith 117 = .ok (.goto (-111), 3) := by decide +kernel
theorem dX9_pairsWith_120 : decode cX9_pairsWith 120 = .ok (.iload 4, 2) := by decide +kernel
theorem dX9_pairsWith_122 : decode cX9_pairsWith 122 = .ok (.ireturn, 1) := by decide +kernel
theorem dX9_lowOf_0 : decode cX9_lowOf 0 = .ok (.aload_n 0, 1) := by decide +kernel
theorem dX9_lowOf_1 : decode cX9_lowOf 1 = .ok (.getfield 25, 3) := by decide +kernel
theorem dX9_lowOf_4 : decode cX9_lowOf 4 = .ok (.sipush 168, 3) := by decide +kernel
theorem dX9_lowOf_7 : decode cX9_lowOf 7 = .ok (.iaload, 1) := by decide +kernel
theorem dX9_lowOf_8 : decode cX9_lowOf 8 = .ok (.istore_n 2, 1) := by decide +kernel
theorem dX9_lowOf_9 : decode cX9_lowOf 9 = .ok (.iconst 0, 1) := by decide +kernel
theorem dX9_lowOf_10 : decode cX9_lowOf 10 = .ok (.istore_n 3, 1) := by decide +kernel
theorem dX9_lowOf_11 : decode cX9_lowOf 11 = .ok (.iload_n 3, 1) := by decide +kernel
theorem dX9_lowOf_12 : decode cX9_lowOf 12 = .ok (.aload_n 0, 1) := by decide +kernel
theorem dX9_lowOf_13 : decode cX9_lowOf 13 = .ok (.getfield 58, 3) := by decide +kernel
theorem dX9_lowOf_16 : decode cX9_lowOf 16 = .ok (.if_icmp .ge 131, 3) := by decide +kernel
theorem dX9_lowOf_19 : decode cX9_lowOf 19 = .ok (.iload_n 3, 1) := by decide +kernel
theorem dX9_lowOf_20 : decode cX9_lowOf 20 = .ok (.iload_n 1, 1) := by decide +kernel
theorem dX9_lowOf_21 : decode cX9_lowOf 21 = .ok (.if_icmp .gt 45, 3) := by decide +kernel
theorem dX9_lowOf_24 : decode cX9_lowOf 24 = .ok (.aload_n 0, 1) := by decide +kernel
theorem dX9_lowOf_25 : decode cX9_lowOf 25 = .ok (.iload_n 2, 1) := by decide +kernel
theorem dX9_lowOf_26 : decode cX9_lowOf 26 = .ok (.aload_n 0, 1) := by decide +kernel
theorem dX9_lowOf_27 : decode cX9_lowOf 27 = .ok (.aload_n 0, 1) := by decide +kernel
theorem dX9_lowOf_28 : decode cX9_lowOf 28 = .ok (.getfield 25, 3) := by decide +kernel
theorem dX9_lowOf_31 : decode cX9_lowOf 31 = .ok (.iconst 4, 1) := by decide +kernel
theorem dX9_lowOf_32 : decode cX9_lowOf 32 = .ok (.iload_n 3, 1) := by decide +kernel
theorem dX9_lowOf_33 : decode cX9_lowOf 33 = .ok (.imul, 1) := by decide +kernel
theorem dX9_lowOf_34 : decode cX9_lowOf 34 = .ok (.aload_n 0, 1) := by decide +kernel
theorem dX9_lowOf_35 : decode cX9_lowOf 35 = .ok (.getfield 52, 3) := by decide +kernel
theorem dX9_lowOf_38 : decode cX9_lowOf 38 = .ok (.iload_n 3, 1) := by decide +kernel
theorem dX9_lowOf_39 : decode cX9_lowOf 39 = .ok (.iaload, 1) := by decide +kernel
theorem dX9_lowOf_40 : decode cX9_lowOf 40 = .ok (.iadd, 1) := by decide +kernel
theorem dX9_lowOf_41 : decode cX9_lowOf 41 = .ok (.iaload, 1) := by decide +kernel
theorem dX9_lowOf_42 : decode cX9_lowOf 42 = .ok (.aload_n 0, 1) := by decide +kernel
theorem dX9_lowOf_43 : decode cX9_lowOf 43 = .ok (.iload_n 3, 1) := by decide +kernel
theorem dX9_lowOf_44 : decode cX9_lowOf 44 = .ok (.aload_n 0, 1) := by decide +kernel
theorem dX9_lowOf_45 : decode cX9_lowOf 45 = .ok (.getfield 52, 3) := by decide +kernel
theorem dX9_lowOf_48 : decode cX9_lowOf 48 = .ok (.iload_n 3, 1) := by decide +kernel
theorem dX9_lowOf_49 : decode cX9_lowOf 49 = .ok (.iaload, 1) := by decide +kernel
theorem dX9_lowOf_50 : decode cX9_lowOf 50 = .ok (.iload_n 3, 1) := by decide +kernel
theorem dX9_lowOf_51 : decode cX9_lowOf 51 = .ok (.iconst 1, 1) := by decide +kernel
theorem dX9_lowOf_52 : decode cX9_lowOf 52 = .ok (.isub, 1) := by decide +kernel
theorem dX9_lowOf_53 : decode cX9_lowOf 53 = .ok (.invokevirtual 230, 3) := by decide +kernel
theorem dX9_lowOf_56 : decode cX9_lowOf 56 = .ok (.invokevirtual 125, 3) := by decide +kernel
theorem dX9_lowOf_59 : decode cX9_lowOf 59 = .ok (.invokevirtual 125, 3) := by decide +kernel
theorem dX9_lowOf_62 : decode cX9_lowOf 62 = .ok (.istore_n 2, 1) := by decide +kernel
theorem dX9_lowOf_63 : decode cX9_lowOf 63 = .ok (.goto 78, 3) := by decide +kernel
theorem dX9_lowOf_66 : decode cX9_lowOf 66 = .ok (.aload_n 0, 1) := by decide +kernel
theorem dX9_lowOf_67 : decode cX9_lowOf 67 = .ok (.getfield 62, 3) := by decide +kernel
theorem dX9_lowOf_70 : decode cX9_lowOf 70 = .ok (.istore 4, 2) := by decide +kernel
theorem dX9_lowOf_72 : decode cX9_lowOf 72 = .ok (.iconst 0, 1) := by decide +kernel
theorem dX9_lowOf_73 : decode cX9_lowOf 73 = .ok (.istore 5, 2) := by decide +kernel
theorem dX9_lowOf_75 : decode cX9_lowOf 75 = .ok (.iload 5, 2) := by decide +kernel
theorem dX9_lowOf_77 : decode cX9_lowOf 77 = .ok (.aload_n 0, 1) := by decide +kernel
theorem dX9_lowOf_78 : decode cX9_lowOf 78 = .ok (.getfield 13, 3) := by decide +kernel
theorem dX9_lowOf_81 : decode cX9_lowOf 81 = .ok (.iload_n 3, 1) := by decide +kernel
theorem dX9_lowOf_82 : decode cX9_lowOf 82 = .ok (.iaload, 1) := by decide +kernel
theorem dX9_lowOf_83 : decode cX9_lowOf 83 = .ok (.if_icmp .ge 50, 3) := by decide +kernel
theorem dX9_lowOf_86 : decode cX9_lowOf 86 = .ok (.aload_n 0, 1) := by decide +kernel
theorem dX9_lowOf_87 : decode cX9_lowOf 87 = .ok (.aload_n 0, 1) := by decide +kernel
theorem dX9_lowOf_88 : decode cX9_lowOf 88 = .ok (.getfield 25, 3) := by decide +kernel
theorem dX9_lowOf_91 : decode cX9_lowOf 91 = .ok (.iconst 4, 1) := by decide +kernel
theorem dX9_lowOf_92 : decode cX9_lowOf 92 = .ok (.iload_n 3, 1) := by decide +kernel
theorem dX9_lowOf_93 : decode cX9_lowOf 93 = .ok (.imul, 1) := by decide +kernel
theorem dX9_lowOf_94 : decode cX9_lowOf 94 = .ok (.iload 5, 2) := by decide +kernel
theorem dX9_lowOf_96 : decode cX9_lowOf 96 = .ok (.iadd, 1) := by decide +kernel
theorem dX9_lowOf_97 : decode cX9_lowOf 97 = .ok (.iaload, 1) := by decide +kernel
theorem dX9_lowOf_98 : decode cX9_lowOf 98 = .ok (.aload_n 0, 1) := by decide +kernel
theorem dX9_lowOf_99 : decode cX9_lowOf 99 = .ok (.iload_n 3, 1) := by decide +kernel
theorem dX9_lowOf_100 : decode cX9_lowOf 100 = .ok (.iload 5, 2) := by decide +kernel
theorem dX9_lowOf_102 : decode cX9_lowOf 102 = .ok (.iload_n 1, 1) := by decide +kernel
theorem dX9_lowOf_103 : decode cX9_lowOf 103 = .ok (.invokevirtual 230, 3) := by decide +kernel
theorem dX9_lowOf_106 : decode cX9_lowOf 106 = .ok (.invokevirtual 125, 3) := by decide +kernel
theorem dX9_lowOf_109 : decode cX9_lowOf 109 = .ok (.istore 6, 2) := by decide +kernel
theorem dX9_lowOf_111 : decode cX9_lowOf 111 = .ok (.iload 6, 2) := by decide +kernel
theorem dX9_lowOf_113 : decode cX9_lowOf 113 = .ok (.iload 4, 2) := by decide +kernel
theorem dX9_lowOf_115 : decode cX9_lowOf 115 = .ok (.if_icmp .ge 8, 3) := by decide +kernel
theorem dX9_lowOf_118 : decode cX9_lowOf 118 = .ok (.iload 6, 2) := by decide +kernel
theorem dX9_lowOf_120 : decode cX9_lowOf 120 = .ok (.goto 5, 3) := by decide +kernel
theorem dX9_lowOf_123 : decode cX9_lowOf 123 = .ok (.iload 4, 2) := by decide +kernel
theorem dX9_lowOf_125 : decode cX9_lowOf 125 = .ok (.istore 4, 2) := by decide +kernel
theorem dX9_lowOf_127 : decode cX9_lowOf 127 = .ok (.iinc 5 1, 3) := by decide +kernel
theorem dX9_lowOf_130 : decode cX9_lowOf 130 = .ok (.goto (-55), 3) := by decide +kernel
theorem dX9_lowOf_133 : decode cX9_lowOf 133 = .ok (.aload_n 0, 1) := by decide +kernel
theorem dX9_lowOf_134 : decode cX9_lowOf 134 = .ok (.iload_n 2, 1) := by decide +kernel
theorem dX9_lowOf_135 : decode cX9_lowOf 135 = .ok (.iload 4, 2) := by decide +kernel
theorem dX9_lowOf_137 : decode cX9_lowOf 137 = .ok (.invokevirtual 125, 3) := by decide +kernel
theorem dX9_lowOf_140 : decode cX9_lowOf 140 = .ok (.istore_n 2, 1) := by decide +kernel
theorem dX9_lowOf_141 : decode cX9_lowOf 141 = .ok (.iinc 3 1, 3) := by decide +kernel
theorem dX9_lowOf_144 : decode cX9_lowOf 144 = .ok (.goto (-133), 3) := by decide +kernel
theorem dX9_lowOf_147 : decode cX9_lowOf 147 = .ok (.iload_n 2, 1) := by decide +kernel
theorem dX9_lowOf_148 : decode cX9_lowOf 148 = .ok (.ireturn, 1) := by decide +kernel
theorem dX9_tries_0 : decode cX9_tries 0 = .ok (.iconst 0, 1) := by decide +kernel
theorem dX9_tries_1 : decode cX9_tries 1 = .ok (.istore_n 1, 1) := by decide +kernel
theorem dX9_tries_2 : decode cX9_tries 2 = .ok (.aload_n 0, 1) := by decide +kernel
theorem dX9_tries_3 : decode cX9_tries 3 = .ok (.getfield 62, 3) := by decide +kernel
theorem dX9_tries_6 : decode cX9_tries 6 = .ok (.istore_n 2, 1) := by decide +kernel
theorem dX9_tries_7 : decode cX9_tries 7 = .ok (.iconst 0, 1) := by decide +kernel
theorem dX9_tries_8 : decode cX9_tries 8 = .ok (.istore_n 3, 1) := by decide +kernel
theorem dX9_tries_9 : decode cX9_tries 9 = .ok (.aload_n 0, 1) := by decide +kernel
theorem dX9_tries_10 : decode cX9_tries 10 = .ok (.getfield 52, 3) := by decide +kernel
theorem dX9_tries_13 : decode cX9_tries 13 = .ok (.iconst 0, 1) := by decide +kernel
theorem dX9_tries_14 : decode cX9_tries 14 = .ok (.iconst (-1), 1) := by decide +kernel
theorem dX9_tries_15 : decode cX9_tries 15 = .ok (.iastore, 1) := by decide +kernel
theorem dX9_tries_16 : decode cX9_tries 16 = .ok (.iload_n 3, 1) := by decide +kernel
theorem dX9_tries_17 : decode cX9_tries 17 = .ok (.ifCond .lt 85, 3) := by decide +kernel
theorem dX9_tries_20 : decode cX9_tries 20 = .ok (.aload_n 0, 1) := by decide +kernel
theorem dX9_tries_21 : decode cX9_tries 21 = .ok (.getfield 52, 3) := by decide +kernel
theorem dX9_tries_24 : decode cX9_tries 24 = .ok (.iload_n 3, 1) := by decide +kernel
theorem dX9_tries_25 : decode cX9_tries 25 = .ok (.dup2, 1) := by decide +kernel
theorem dX9_tries_26 : decode cX9_tries 26 = .ok (.iaload, 1) := by decide +kernel
theorem dX9_tries_27 : decode cX9_tries 27 = .ok (.iconst 1, 1) := by decide +kernel
theorem dX9_tries_28 : decode cX9_tries 28 = .ok (.iadd, 1) := by decide +kernel
theorem dX9_tries_29 : decode cX9_tries 29 = .ok (.iastore, 1) := by decide +kernel
theorem dX9_tries_30 : decode cX9_tries 30 = .ok (.aload_n 0, 1) := by decide +kernel
theorem dX9_tries_31 : decode cX9_tries 31 = .ok (.getfield 52, 3) := by decide +kernel
theorem dX9_tries_34 : decode cX9_tries 34 = .ok (.iload_n 3, 1) := by decide +kernel
theorem dX9_tries_35 : decode cX9_tries 35 = .ok (.iaload, 1) := by decide +kernel
theorem dX9_tries_36 : decode cX9_tries 36 = .ok (.aload_n 0, 1) := by decide +kernel
theorem dX9_tries_37 : decode cX9_tries 37 = .ok (.getfield 13, 3) := by decide +kernel
theorem dX9_tries_40 : decode cX9_tries 40 = .ok (.iload_n 3, 1) := by decide +kernel
theorem dX9_tries_41 : decode cX9_tries 41 = .ok (.iaload, 1) := by decide +kernel
theorem dX9_tries_42 : decode cX9_tries 42 = .ok (.if_icmp .ne 9, 3) := by decide +kernel
theorem dX9_tries_45 : decode cX9_tries 45 = .ok (.iinc 3 (-1), 3) := by decide +kernel
theorem dX9_tries_48 : decode cX9_tries 48 = .ok (.goto (-32), 3) := by decide +kernel
theorem dX9_tries_51 : decode cX9_tries 51 = .ok (.iinc 1 1, 3) := by decide +kernel
theorem dX9_tries_54 : decode cX9_tries 54 = .ok (.aload_n 0, 1) := by decide +kernel
theorem dX9_tries_55 : decode cX9_tries 55 = .ok (.iload_n 3, 1) := by decide +kernel
theorem dX9_tries_56 : decode cX9_tries 56 = .ok (.invokevirtual 233, 3) := by decide +kernel
theorem dX9_tries_59 : decode cX9_tries 59 = .ok (.istore 4, 2) := by decide +kernel
theorem dX9_tries_61 : decode cX9_tries 61 = .ok (.iload 4, 2) := by decide +kernel
theorem dX9_tries_63 : decode cX9_tries 63 = .ok (.iload_n 2, 1) := by decide +kernel
theorem dX9_tries_64 : decode cX9_tries 64 = .ok (.if_icmp .ge 19, 3) := by decide +kernel
theorem dX9_tries_67 : decode cX9_tries 67 = .ok (.iload_n 3, 1) := by decide +kernel
theorem dX9_tries_68 : decode cX9_tries 68 = .ok (.iconst 1, 1) := by decide +kernel
theorem dX9_tries_69 : decode cX9_tries 69 = .ok (.iadd, 1) := by decide +kernel
theorem dX9_tries_70 : decode cX9_tries 70 = .ok (.aload_n 0, 1) := by decide +kernel
theorem dX9_tries_71 : decode cX9_tries 71 = .ok (.getfield 58, 3) := by decide +kernel
theorem dX9_tries_74 : decode cX9_tries 74 = .ok (.if_icmp .ne 9, 3) := by decide +kernel
theorem dX9_tries_77 : decode cX9_tries 77 = .ok (.iload 4, 2) := by decide +kernel
theorem dX9_tries_79 : decode cX9_tries 79 = .ok (.istore_n 2, 1) := by decide +kernel
theorem dX9_tries_80 : decode cX9_tries 80 = .ok (.goto 19, 3) := by decide +kernel
theorem dX9_tries_83 : decode cX9_tries 83 = .ok (.iload 4, 2) := by decide +kernel
theorem dX9_tries_85 : decode cX9_tries 85 = .ok (.iload_n 2, 1) := by decide +kernel
theorem dX9_tries_86 : decode cX9_tries 86 = .ok (.if_icmp .ge 13, 3) := by decide +kernel
theorem dX9_tries_89 : decode cX9_tries 89 = .ok (.iinc 3 1, 3) := by decide +kernel
theorem dX9_tries_92 : decode cX9_tries 92 = .ok (.aload_n 0, 1) := by decide +kernel
theorem dX9_tries_93 : decode cX9_tries 93 = .ok (.getfield 52, 3) := by decide +kernel
theorem dX9_tries_96 : decode cX9_tries 96 = .ok (.iload_n 3, 1) := by decide +kernel
theorem dX9_tries_97 : decode cX9_tries 97 = .ok (.iconst (-1), 1) := by decide +kernel
theorem dX9_tries_98 : decode cX9_tries 98 = .ok (.iastore, 1) := by decide +kernel
theorem dX9_tries_99 : decode cX9_tries 99 = .ok (.goto (-83), 3) := by decide +kernel
theorem dX9_tries_102 : decode cX9_tries 102 = .ok (.iload_n 1, 1) := by decide +kernel
theorem dX9_tries_103 : decode cX9_tries 103 = .ok (.ireturn, 1) := by decide +kernel
theorem dX9_count_0 : decode cX9_count 0 = .ok (.iload_n 1, 1) := by decide +kernel
theorem dX9_count_1 : decode cX9_count 1 = .ok (.tableswitch 135 0 6 #[43, 48, 53, 58, 67, 125, 130], 43) := by decide +kernel
theorem dX9_count_44 : decode cX9_count 44 = .ok (.aload_n 0, 1) := by decide +kernel
theorem dX9_count_45 : decode cX9_count 45 = .ok (.getfield 58, 3) := by decide +kernel
theorem dX9_count_48 : decode cX9_count 48 = .ok (.ireturn, 1) := by decide +kernel
theorem dX9_count_49 : decode cX9_count 49 = .ok (.aload_n 0, 1) := by decide +kernel
theorem dX9_count_50 : decode cX9_count 50 = .ok (.getfield 65, 3) := by decide +kernel
theorem dX9_count_53 : decode cX9_count 53 = .ok (.ireturn, 1) := by decide +kernel
theorem dX9_count_54 : decode cX9_count 54 = .ok (.aload_n 0, 1) := by decide +kernel
theorem dX9_count_55 : decode cX9_count 55 = .ok (.getfield 62, 3) := by decide +kernel
theorem dX9_count_58 : decode cX9_count 58 = .ok (.ireturn, 1) := by decide +kernel
theorem dX9_count_59 : decode cX9_count 59 = .ok (.aload_n 0, 1) := by decide +kernel
theorem dX9_count_60 : decode cX9_count 60 = .ok (.getfield 25, 3) := by decide +kernel
theorem dX9_count_63 : decode cX9_count 63 = .ok (.sipush 168, 3) := by decide +kernel
theorem dX9_count_66 : decode cX9_count 66 = .ok (.iaload, 1) := by decide +kernel
theorem dX9_count_67 : decode cX9_count 67 = .ok (.ireturn, 1) := by decide +kernel
theorem dX9_count_68 : decode cX9_count 68 = .ok (.iconst 0, 1) := by decide +kernel
theorem dX9_count_69 : decode cX9_count 69 = .ok (.istore_n 2, 1) := by decide +kernel
theorem dX9_count_70 : decode cX9_count 70 = .ok (.iconst 0, 1) := by decide +kernel
theorem dX9_count_71 : decode cX9_count 71 = .ok (.istore_n 3, 1) := by decide +kernel
theorem dX9_count_72 : decode cX9_count 72 = .ok (.iload_n 3, 1) := by decide +kernel
theorem dX9_count_73 : decode cX9_count 73 = .ok (.aload_n 0, 1) := by decide +kernel
theorem dX9_count_74 : decode cX9_count 74 = .ok (.getfield 58, 3) := by decide +kernel
theorem dX9_count_77 : decode cX9_count 77 = .ok (.if_icmp .ge 47, 3) := by decide +kernel
theorem dX9_count_80 : decode cX9_count 80 = .ok (.iconst 0, 1) := by decide +kernel
theorem dX9_count_81 : decode cX9_count 81 = .ok (.istore 4, 2) := by decide +kernel
theorem dX9_count_83 : decode cX9_count 83 = .ok (.iload 4, 2) := by decide +kernel
theorem dX9_count_85 : decode cX9_count 85 = .ok (.aload_n 0, 1) := by decide +kernel
theorem dX9_count_86 : decode cX9_count 86 = .ok (.getfield 13, 3) := by decide +kernel
theorem dX9_count_89 : decode cX9_count 89 = .ok (.iload_n 3, 1) := by decide +kernel
theorem dX9_count_90 : decode cX9_count 90 = .ok (.iaload, 1) := by decide +kernel
theorem dX9_count_91 : decode cX9_count 91 = .ok (.if_icmp .ge 27, 3) := by decide +kernel
theorem dX9_count_94 : decode cX9_count 94 = .ok (.iload_n 2, 1) := by decide +kernel
theorem dX9_count_95 : decode cX9_count 95 = .ok (.aload_n 0, 1) := by decide +kernel
theorem dX9_count_96 : decode cX9_count 96 = .ok (.iload_n 3, 1) := by decide +kernel
theorem dX9_count_97 : decode cX9_count 97 = .ok (.iload 4, 2) := by decide +kernel
theorem dX9_count_99 : decode cX9_count 99 = .ok (.invokevirtual 138, 3) := by decide +kernel
theorem dX9_count_102 : decode cX9_count 102 = .ok (.ifCond .eq 7, 3) := by decide +kernel
theorem dX9_count_105 : decode cX9_count 105 = .ok (.iconst 1, 1) := by decide +kernel
theorem dX9_count_106 : decode cX9_count 106 = .ok (.goto 4, 3) := by decide +kernel
theorem dX9_count_109 : decode cX9_count 109 = .ok (.iconst 0, 1) := by decide +kernel
theorem dX9_count_110 : decode cX9_count 110 = .ok (.iadd, 1) := by decide +kernel
theorem dX9_count_111 : decode cX9_count 111 = .ok (.istore_n 2, 1) := by decide +kernel
theorem dX9_count_112 : decode cX9_count 112 = .ok (.iinc 4 1, 3) := by decide +kernel
theorem dX9_count_115 : decode cX9_count 115 = .ok (.goto (-32), 3) := by decide +kernel
theorem dX9_count_118 : decode cX9_count 118 = .ok (.iinc 3 1, 3) := by decide +kernel
theorem dX9_count_121 : decode cX9_count 121 = .ok (.goto (-49), 3) := by decide +kernel
theorem dX9_count_124 : decode cX9_count 124 = .ok (.iload_n 2, 1) := by decide +kernel
theorem dX9_count_125 : decode cX9_count 125 = .ok (.ireturn, 1) := by decide +kernel
theorem dX9_count_126 : decode cX9_count 126 = .ok (.aload_n 0, 1) := by decide +kernel
theorem dX9_count_127 : decode cX9_count 127 = .ok (.getfield 129, 3) := by decide +kernel
theorem dX9_count_130 : decode cX9_count 130 = .ok (.ireturn, 1) := by decide +kernel
theorem dX9_count_131 : decode cX9_count 131 = .ok (.aload_n 0, 1) := by decide +kernel
theorem dX9_count_132 : decode cX9_count 132 = .ok (.getfield 72, 3) := by decide +kernel
theorem dX9_count_135 : decode cX9_count 135 = .ok (.ireturn, 1) := by decide +kernel
theorem dX9_count_136 : decode cX9_count 136 = .ok (.iconst (-1), 1) := by decide +kernel
theorem dX9_count_137 : decode cX9_count 137 = .ok (.ireturn, 1) := by decide +kernel
end
section
theorem dL_law_0 : decode cL_law 0 = .ok (.new 7, 3) := by decide +kernel
theorem dL_law_3 : decode cL_law 3 = .ok (.dup, 1) := by decide +kernel
theorem dL_law_4 : decode cL_law 4 = .ok (.invokespecial 9, 3) := by decide +kernel
theorem dL_law_7 : decode cL_law 7 = .ok (.astore_n 1, 1) := by decide +kernel
theorem dL_law_8 : decode cL_law 8 = .ok (.new 10, 3) := by decide +kernel
theorem dL_law_11 : decode cL_law 11 = .ok (.dup, 1) := by decide +kernel
theorem dL_law_12 : decode cL_law 12 = .ok (.invokespecial 12, 3) := by decide +kernel
theorem dL_law_15 : decode cL_law 15 = .ok (.astore_n 2, 1) := by decide +kernel
theorem dL_law_16 : decode cL_law 16 = .ok (.iconst 0, 1) := by decide +kernel
theorem dL_law_17 : decode cL_law 17 = .ok (.istore_n 3, 1) := by decide +kernel
theorem dL_law_18 : decode cL_law 18 = .ok (.iload_n 3, 1) := by decide +kernel
theorem dL_law_19 : decode cL_law 19 = .ok (.aload_n 0, 1) := by decide +kernel
theorem dL_law_20 : decode cL_law 20 = .ok (.arraylength, 1) := by decide +kernel
theorem dL_law_21 : decode cL_law 21 = .ok (.iconst 5, 1) := by decide +kernel
theorem dL_law_22 : decode cL_law 22 = .ok (.isub, 1) := by decide +kernel
theorem dL_law_23 : decode cL_law 23 = .ok (.if_icmp .gt 806, 3) := by decide +kernel
theorem dL_law_26 : decode cL_law 26 = .ok (.aload_n 0, 1) := by decide +kernel
theorem dL_law_27 : decode cL_law 27 = .ok (.iload_n 3, 1) := by decide +kernel
theorem dL_law_28 : decode cL_law 28 = .ok (.iaload, 1) := by decide +kernel
theorem dL_law_29 : decode cL_law 29 = .ok (.bipush 31, 2) := by decide +kernel
theorem dL_law_31 : decode cL_law 31 = .ok (.iand, 1) := by decide +kernel
theorem dL_law_32 : decode cL_law 32 = .ok (.tableswitch 791 0 24 #[116, 139, 152, 165, 178, 211, 244, 277, 320, 363, 396, 409, 462, 515, 548, 581, 604, 627, 640, 663, 686, 699, 732, 755, 768], 116) := by decide +kernel
theorem dL_law_148 : decode cL_law 148 = .ok (.aload_n 1, 1) := by decide +kernel
theorem dL_law_149 : decode cL_law 149 = .ok (.aload_n 0, 1) := by decide +kernel
theorem dL_law_150 : decode cL_law 150 = .ok (.iload_n 3, 1) := by decide +kernel
theorem dL_law_151 : decode cL_law 151 = .ok (.iconst 1, 1) := by decide +kernel
theorem dL_law_152 : decode cL_law 152 = .ok (.iadd, 1) := by decide +kernel
theorem dL_law_153 : decode cL_law 153 = .ok (.iaload, 1) := by decide +kernel
theorem dL_law_154 : decode cL_law 154 = .ok (.invokevirtual 13, 3) := by decide +kernel
theorem dL_law_157 : decode cL_law 157 = .ok (.aload_n 2, 1) := by decide +kernel
theorem dL_law_158 : decode cL_law 158 = .ok (.aload_n 0, 1) := by decide +kernel
theorem dL_law_159 : decode cL_law 159 = .ok (.iload_n 3, 1) := by decide +kernel
theorem dL_law_160 : decode cL_law 160 = .ok (.iconst 1, 1) := by decide +kernel
theorem dL_law_161 : decode cL_law 161 = .ok (.iadd, 1) := by decide +kernel
theorem dL_law_162 : decode cL_law 162 = .ok (.iaload, 1) := by decide +kernel
theorem dL_law_163 : decode cL_law 163 = .ok (.invokevirtual 17, 3) := by decide +kernel
theorem dL_law_166 : decode cL_law 166 = .ok (.if_icmp .eq 657, 3) := by decide +kernel
theorem dL_law_169 : decode cL_law 169 = .ok (.iconst 0, 1) := by decide +kernel
theorem dL_law_170 : decode cL_law 170 = .ok (.ireturn, 1) := by decide +kernel
theorem dL_law_171 : decode cL_law 171 = .ok (.aload_n 1, 1) := by decide +kernel
theorem dL_law_172 : decode cL_law 172 = .ok (.invokevirtual 18, 3) := by decide +kernel
theorem dL_law_175 : decode cL_law 175 = .ok (.aload_n 2, 1) := by decide +kernel
theorem dL_law_176 : decode cL_law 176 = .ok (.invokevirtual 22, 3) := by decide +kernel
theorem dL_law_179 : decode cL_law 179 = .ok (.if_icmp .eq 644, 3) := by decide +kernel
theorem dL_law_182 : decode cL_law 182 = .ok (.iconst 0, 1) := by decide +kernel
theorem dL_law_183 : decode cL_law 183 = .ok (.ireturn, 1) := by decide +kernel
theorem dL_law_184 : decode cL_law 184 = .ok (.aload_n 1, 1) := by decide +kernel
theorem dL_law_185 : decode cL_law 185 = .ok (.invokevirtual 23, 3) := by decide +kernel
theorem dL_law_188 : decode cL_law 188 = .ok (.aload_n 2, 1) := by decide +kernel
theorem dL_law_189 : decode cL_law 189 = .ok (.invokevirtual 26, 3) := by decide +kernel
theorem dL_law_192 : decode cL_law 192 = .ok (.if_icmp .eq 631, 3) := by decide +kernel
theorem dL_law_195 : decode cL_law 195 = .ok (.iconst 0, 1) := by decide +kernel
theorem dL_law_196 : decode cL_law 196 = .ok (.ireturn, 1) := by decide +kernel
theorem dL_law_197 : decode cL_law 197 = .ok (.aload_n 1, 1) := by decide +kernel
theorem dL_law_198 : decode cL_law 198 = .ok (.invokevirtual 27, 3) := by decide +kernel
theorem dL_law_201 : decode cL_law 201 = .ok (.aload_n 2, 1) := by decide +kernel
theorem dL_law_202 : decode cL_law 202 = .ok (.invokevirtual 30, 3) := by decide +kernel
theorem dL_law_205 : decode cL_law 205 = .ok (.if_icmp .eq 618, 3) := by decide +kernel
theorem dL_law_208 : decode cL_law 208 = .ok (.iconst 0, 1) := by decide +kernel
theorem dL_law_209 : decode cL_law 209 = .ok (.ireturn, 1) := by decide +kernel
theorem dL_law_210 : decode cL_law 210 = .ok (.aload_n 1, 1) := by decide +kernel
theorem dL_law_211 : decode cL_law 211 = .ok (.aload_n 0, 1) := by decide +kernel
theorem dL_law_212 : decode cL_law 212 = .ok (.iload_n 3, 1) := by decide +kernel
theorem dL_law_213 : decode cL_law 213 = .ok (.iconst 1, 1) := by decide +kernel
theorem dL_law_214 : decode cL_law 214 = .ok (.iadd, 1) := by decide +kernel
theorem dL_law_215 : decode cL_law 215 = .ok (.iaload, 1) := by decide +kernel
theorem dL_law_216 : decode cL_law 216 = .ok (.aload_n 0, 1) := by decide +kernel
theorem dL_law_217 : decode cL_law 217 = .ok (.iload_n 3, 1) := by decide +kernel
theorem dL_law_218 : decode cL_law 218 = .ok (.iconst 2, 1) := by decide +kernel
theorem dL_law_219 : decode cL_law 219 = .ok (.iadd, 1) := by decide +kernel
theorem dL_law_220 : decode cL_law 220 = .ok (.iaload, 1) := by decide +kernel
theorem dL_law_221 : decode cL_law 221 = .ok (.invokevirtual 31, 3) := by decide +kernel
theorem dL_law_224 : decode cL_law 224 = .ok (.aload_n 2, 1) := by decide +kernel
theorem dL_law_225 : decode cL_law 225 = .ok (.aload_n 0, 1) := by decide +kernel
theorem dL_law_226 : decode cL_law 226 = .ok (.iload_n 3, 1) := by decide +kernel
theorem dL_law_227 : decode cL_law 227 = .ok (.iconst 1, 1) := by decide +kernel
theorem dL_law_228 : decode cL_law 228 = .ok (.iadd, 1) := by decide +kernel
theorem dL_law_229 : decode cL_law 229 = .ok (.iaload, 1) := by decide +kernel
theorem dL_law_230 : decode cL_law 230 = .ok (.aload_n 0, 1) := by decide +kernel
theorem dL_law_231 : decode cL_law 231 = .ok (.iload_n 3, 1) := by decide +kernel
theorem dL_law_232 : decode cL_law 232 = .ok (.iconst 2, 1) := by decide +kernel
theorem dL_law_233 : decode cL_law 233 = .ok (.iadd, 1) := by decide +kernel
theorem dL_law_234 : decode cL_law 234 = .ok (.iaload, 1) := by decide +kernel
theorem dL_law_235 : decode cL_law 235 = .ok (.invokevirtual 35, 3) := by decide +kernel
theorem dL_law_238 : decode cL_law 238 = .ok (.if_icmp .eq 585, 3) := by decide +kernel
theorem dL_law_241 : decode cL_law 241 = .ok (.iconst 0, 1) := by decide +kernel
theorem dL_law_242 : decode cL_law 242 = .ok (.ireturn, 1) := by decide +kernel
theorem dL_law_243 : decode cL_law 243 = .ok (.aload_n 1, 1) := by decide +kernel
theorem dL_law_244 : decode cL_law 244 = .ok (.aload_n 0, 1) := by decide +kernel
theorem dL_law_245 : decode cL_law 245 = .ok (.iload_n 3, 1) := by decide +kernel
theorem dL_law_246 : decode cL_law 246 = .ok (.iconst 1, 1) := by decide +kernel
theorem dL_law_247 : decode cL_law 247 = .ok (.iadd, 1) := by decide +kernel
theorem dL_law_248 : decode cL_law 248 = .ok (.iaload, 1) := by decide +kernel
theorem dL_law_249 : decode cL_law 249 = .ok (.aload_n 0, 1) := by decide +kernel
theorem dL_law_250 : decode cL_law 250 = .ok (.iload_n 3, 1) := by decide +kernel
theorem dL_law_251 : decode cL_law 251 = .ok (.iconst 2, 1) := by decide +kernel
theorem dL_law_252 : decode cL_law 252 = .ok (.iadd, 1) := by decide +kernel
theorem dL_law_253 : decode cL_law 253 = .ok (.iaload, 1) := by decide +kernel
theorem dL_law_254 : decode cL_law 254 = .ok (.invokevirtual 36, 3) := by decide +kernel
theorem dL_law_257 : decode cL_law 257 = .ok (.aload_n 2, 1) := by decide +kernel
theorem dL_law_258 : decode cL_law 258 = .ok (.aload_n 0, 1) := by decide +kernel
theorem dL_law_259 : decode cL_law 259 = .ok (.iload_n 3, 1) := by decide +kernel
theorem dL_law_260 : decode cL_law 260 = .ok (.iconst 1, 1) := by decide +kernel
theorem dL_law_261 : decode cL_law 261 = .ok (.iadd, 1) := by decide +kernel
theorem dL_law_262 : decode cL_law 262 = .ok (.iaload, 1) := by decide +kernel
theorem dL_law_263 : decode cL_law 263 = .ok (.aload_n 0, 1) := by decide +kernel
theorem dL_law_264 : decode cL_law 264 = .ok (.iload_n 3, 1) := by decide +kernel
theorem dL_law_265 : decode cL_law 265 = .ok (.iconst 2, 1) := by decide +kernel
theorem dL_law_266 : decode cL_law 266 = .ok (.iadd, 1) := by decide +kernel
theorem dL_law_267 : decode cL_law 267 = .ok (.iaload, 1) := by decide +kernel
theorem dL_law_268 : decode cL_law 268 = .ok (.invokevirtual 39, 3) := by decide +kernel
theorem dL_law_271 : decode cL_law 271 = .ok (.if_icmp .eq 552, 3) := by decide +kernel
theorem dL_law_274 : decode cL_law 274 = .ok (.iconst 0, 1) := by decide +kernel
theorem dL_law_275 : decode cL_law 275 = .ok (.ireturn, 1) := by decide +kernel
theorem dL_law_276 : decode cL_law 276 = .ok (.aload_n 1, 1) := by decide +kernel
theorem dL_law_277 : decode cL_law 277 = .ok (.aload_n 0, 1) := by decide +kernel
theorem dL_law_278 : decode cL_law 278 = .ok (.iload_n 3, 1) := by decide +kernel
theorem dL_law_279 : decode cL_law 279 = .ok (.iconst 1, 1) := by decide +kernel
theorem dL_law_280 : decode cL_law 280 = .ok (.iadd, 1) := by decide +kernel
theorem dL_law_281 : decode cL_law 281 = .ok (.iaload, 1) := by decide +kernel
theorem dL_law_282 : decode cL_law 282 = .ok (.aload_n 0, 1) := by decide +kernel
theorem dL_law_283 : decode cL_law 283 = .ok (.iload_n 3, 1) := by decide +kernel
theorem dL_law_284 : decode cL_law 284 = .ok (.iconst 2, 1) := by decide +kernel
theorem dL_law_285 : decode cL_law 285 = .ok (.iadd, 1) := by decide +kernel
theorem dL_law_286 : decode cL_law 286 = .ok (.iaload, 1) := by decide +kernel
theorem dL_law_287 : decode cL_law 287 = .ok (.invokevirtual 40, 3) := by decide +kernel
theorem dL_law_290 : decode cL_law 290 = .ok (.aload_n 2, 1) := by decide +kernel
theorem dL_law_291 : decode cL_law 291 = .ok (.aload_n 0, 1) := by decide +kernel
theorem dL_law_292 : decode cL_law 292 = .ok (.iload_n 3, 1) := by decide +kernel
theorem dL_law_293 : decode cL_law 293 = .ok (.iconst 1, 1) := by decide +kernel
theorem dL_law_294 : decode cL_law 294 = .ok (.iadd, 1) := by decide +kernel
theorem dL_law_295 : decode cL_law 295 = .ok (.iaload, 1) := by decide +kernel
theorem dL_law_296 : decode cL_law 296 = .ok (.aload_n 0, 1) := by decide +kernel
theorem dL_law_297 : decode cL_law 297 = .ok (.iload_n 3, 1) := by decide +kernel
theorem dL_law_298 : decode cL_law 298 = .ok (.iconst 2, 1) := by decide +kernel
theorem dL_law_299 : decode cL_law 299 = .ok (.iadd, 1) := by decide +kernel
theorem dL_law_300 : decode cL_law 300 = .ok (.iaload, 1) := by decide +kernel
theorem dL_law_301 : decode cL_law 301 = .ok (.invokevirtual 43, 3) := by decide +kernel
theorem dL_law_304 : decode cL_law 304 = .ok (.if_icmp .eq 519, 3) := by decide +kernel
theorem dL_law_307 : decode cL_law 307 = .ok (.iconst 0, 1) := by decide +kernel
theorem dL_law_308 : decode cL_law 308 = .ok (.ireturn, 1) := by decide +kernel
theorem dL_law_309 : decode cL_law 309 = .ok (.aload_n 1, 1) := by decide +kernel
theorem dL_law_310 : decode cL_law 310 = .ok (.aload_n 0, 1) := by decide +kernel
theorem dL_law_311 : decode cL_law 311 = .ok (.iload_n 3, 1) := by decide +kernel
theorem dL_law_312 : decode cL_law 312 = .ok (.iconst 1, 1) := by decide +kernel
theorem dL_law_313 : decode cL_law 313 = .ok (.iadd, 1) := by decide +kernel
theorem dL_law_314 : decode cL_law 314 = .ok (.iaload, 1) := by decide +kernel
theorem dL_law_315 : decode cL_law 315 = .ok (.aload_n 0, 1) := by decide +kernel
theorem dL_law_316 : decode cL_law 316 = .ok (.iload_n 3, 1) := by decide +kernel
theorem dL_law_317 : decode cL_law 317 = .ok (.iconst 2, 1) := by decide +kernel
theorem dL_law_318 : decode cL_law 318 = .ok (.iadd, 1) := by decide +kernel
theorem dL_law_319 : decode cL_law 319 = .ok (.iaload, 1) := by decide +kernel
theorem dL_law_320 : decode cL_law 320 = .ok (.aload_n 0, 1) := by decide +kernel
theorem dL_law_321 : decode cL_law 321 = .ok (.iload_n 3, 1) := by decide +kernel
theorem dL_law_322 : decode cL_law 322 = .ok (.iconst 3, 1) := by decide +kernel
theorem dL_law_323 : decode cL_law 323 = .ok (.iadd, 1) := by decide +kernel
theorem dL_law_324 : decode cL_law 324 = .ok (.iaload, 1) := by decide +kernel
theorem dL_law_325 : decode cL_law 325 = .ok (.invokevirtual 44, 3) := by decide +kernel
theorem dL_law_328 : decode cL_law 328 = .ok (.aload_n 2, 1) := by decide +kernel
theorem dL_law_329 : decode cL_law 329 = .ok (.aload_n 0, 1) := by decide +kernel
theorem dL_law_330 : decode cL_law 330 = .ok (.iload_n 3, 1) := by decide +kernel
theorem dL_law_331 : decode cL_law 331 = .ok (.iconst 1, 1) := by decide +kernel
theorem dL_law_332 : decode cL_law 332 = .ok (.iadd, 1) := by decide +kernel
theorem dL_law_333 : decode cL_law 333 = .ok (.iaload, 1) := by decide +kernel
theorem dL_law_334 : decode cL_law 334 = .ok (.aload_n 0, 1) := by decide +kernel
theorem dL_law_335 : decode cL_law 335 = .ok (.iload_n 3, 1) := by decide +kernel
theorem dL_law_336 : decode cL_law 336 = .ok (.iconst 2, 1) := by decide +kernel
theorem dL_law_337 : decode cL_law 337 = .ok (.iadd, 1) := by decide +kernel
theorem dL_law_338 : decode cL_law 338 = .ok (.iaload, 1) := by decide +kernel
theorem dL_law_339 : decode cL_law 339 = .ok (.aload_n 0, 1) := by decide +kernel
theorem dL_law_340 : decode cL_law 340 = .ok (.iload_n 3, 1) := by decide +kernel
theorem dL_law_341 : decode cL_law 341 = .ok (.iconst 3, 1) := by decide +kernel
theorem dL_law_342 : decode cL_law 342 = .ok (.iadd, 1) := by decide +kernel
theorem dL_law_343 : decode cL_law 343 = .ok (.iaload, 1) := by decide +kernel
theorem dL_law_344 : decode cL_law 344 = .ok (.invokevirtual 48, 3) := by decide +kernel
theorem dL_law_347 : decode cL_law 347 = .ok (.if_icmp .eq 476, 3) := by decide +kernel
theorem dL_law_350 : decode cL_law 350 = .ok (.iconst 0, 1) := by decide +kernel
theorem dL_law_351 : decode cL_law 351 = .ok (.ireturn, 1) := by decide +kernel
theorem dL_law_352 : decode cL_law 352 = .ok (.aload_n 1, 1) := by decide +kernel
theorem dL_law_353 : decode cL_law 353 = .ok (.aload_n 0, 1) := by decide +kernel
theorem dL_law_354 : decode cL_law 354 = .ok (.iload_n 3, 1) := by decide +kernel
theorem dL_law_355 : decode cL_law 355 = .ok (.iconst 1, 1) := by decide +kernel
theorem dL_law_356 : decode cL_law 356 = .ok (.iadd, 1) := by decide +kernel
theorem dL_law_357 : decode cL_law 357 = .ok (.iaload, 1) := by decide +kernel
theorem dL_law_358 : decode cL_law 358 = .ok (.aload_n 0, 1) := by decide +kernel
theorem dL_law_359 : decode cL_law 359 = .ok (.iload_n 3, 1) := by decide +kernel
theorem dL_law_360 : decode cL_law 360 = .ok (.iconst 2, 1) := by decide +kernel
theorem dL_law_361 : decode cL_law 361 = .ok (.iadd, 1) := by decide +kernel
theorem dL_law_362 : decode cL_law 362 = .ok (.iaload, 1) := by decide +kernel
theorem dL_law_363 : decode cL_law 363 = .ok (.aload_n 0, 1) := by decide +kernel
theorem dL_law_364 : decode cL_law 364 = .ok (.iload_n 3, 1) := by decide +kernel
theorem dL_law_365 : decode cL_law 365 = .ok (.iconst 3, 1) := by decide +kernel
theorem dL_law_366 : decode cL_law 366 = .ok (.iadd, 1) := by decide +kernel
theorem dL_law_367 : decode cL_law 367 = .ok (.iaload, 1) := by decide +kernel
theorem dL_law_368 : decode cL_law 368 = .ok (.invokevirtual 49, 3) := by decide +kernel
theorem dL_law_371 : decode cL_law 371 = .ok (.aload_n 2, 1) := by decide +kernel
theorem dL_law_372 : decode cL_law 372 = .ok (.aload_n 0, 1) := by decide +kernel
theorem dL_law_373 : decode cL_law 373 = .ok (.iload_n 3, 1) := by decide +kernel
theorem dL_law_374 : decode cL_law 374 = .ok (.iconst 1, 1) := by decide +kernel
theorem dL_law_375 : decode cL_law 375 = .ok (.iadd, 1) := by decide +kernel
theorem dL_law_376 : decode cL_law 376 = .ok (.iaload, 1) := by decide +kernel
theorem dL_law_377 : decode cL_law 377 = .ok (.aload_n 0, 1) := by decide +kernel
theorem dL_law_378 : decode cL_law 378 = .ok (.iload_n 3, 1) := by decide +kernel
theorem dL_law_379 : decode cL_law 379 = .ok (.iconst 2, 1) := by decide +kernel
theorem dL_law_380 : decode cL_law 380 = .ok (.iadd, 1) := by decide +kernel
theorem dL_law_381 : decode cL_law 381 = .ok (.iaload, 1) := by decide +kernel
theorem dL_law_382 : decode cL_law 382 = .ok (.aload_n 0, 1) := by decide +kernel
theorem dL_law_383 : decode cL_law 383 = .ok (.iload_n 3, 1) := by decide +kernel
theorem dL_law_384 : decode cL_law 384 = .ok (.iconst 3, 1) := by decide +kernel
theorem dL_law_385 : decode cL_law 385 = .ok (.iadd, 1) := by decide +kernel
theorem dL_law_386 : decode cL_law 386 = .ok (.iaload, 1) := by decide +kernel
theorem dL_law_387 : decode cL_law 387 = .ok (.invokevirtual 52, 3) := by decide +kernel
theorem dL_law_390 : decode cL_law 390 = .ok (.if_icmp .eq 433, 3) := by decide +kernel
theorem dL_law_393 : decode cL_law 393 = .ok (.iconst 0, 1) := by decide +kernel
theorem dL_law_394 : decode cL_law 394 = .ok (.ireturn, 1) := by decide +kernel
theorem dL_law_395 : decode cL_law 395 = .ok (.aload_n 1, 1) := by decide +kernel
theorem dL_law_396 : decode cL_law 396 = .ok (.aload_n 0, 1) := by decide +kernel
theorem dL_law_397 : decode cL_law 397 = .ok (.iload_n 3, 1) := by decide +kernel
theorem dL_law_398 : decode cL_law 398 = .ok (.iconst 1, 1) := by decide +kernel
theorem dL_law_399 : decode cL_law 399 = .ok (.iadd, 1) := by decide +kernel
theorem dL_law_400 : decode cL_law 400 = .ok (.iaload, 1) := by decide +kernel
theorem dL_law_401 : decode cL_law 401 = .ok (.aload_n 0, 1) := by decide +kernel
theorem dL_law_402 : decode cL_law 402 = .ok (.iload_n 3, 1) := by decide +kernel
theorem dL_law_403 : decode cL_law 403 = .ok (.iconst 2, 1) := by decide +kernel
theorem dL_law_404 : decode cL_law 404 = .ok (.iadd, 1) := by decide +kernel
theorem dL_law_405 : decode cL_law 405 = .ok (.iaload, 1) := by decide +kernel
theorem dL_law_406 : decode cL_law 406 = .ok (.invokevirtual 53, 3) := by decide +kernel
theorem dL_law_409 : decode cL_law 409 = .ok (.aload_n 2, 1) := by decide +kernel
theorem dL_law_410 : decode cL_law 410 = .ok (.aload_n 0, 1) := by decide +kernel
theorem dL_law_411 : decode cL_law 411 = .ok (.iload_n 3, 1) := by decide +kernel
theorem dL_law_412 : decode cL_law 412 = .ok (.iconst 1, 1) := by decide +kernel
theorem dL_law_413 : decode cL_law 413 = .ok (.iadd, 1) := by decide +kernel
theorem dL_law_414 : decode cL_law 414 = .ok (.iaload, 1) := by decide +kernel
theorem dL_law_415 : decode cL_law 415 = .ok (.aload_n 0, 1) := by decide +kernel
theorem dL_law_416 : decode cL_law 416 = .ok (.iload_n 3, 1) := by decide +kernel
theorem dL_law_417 : decode cL_law 417 = .ok (.iconst 2, 1) := by decide +kernel
theorem dL_law_418 : decode cL_law 418 = .ok (.iadd, 1) := by decide +kernel
theorem dL_law_419 : decode cL_law 419 = .ok (.iaload, 1) := by decide +kernel
theorem dL_law_420 : decode cL_law 420 = .ok (.invokevirtual 56, 3) := by decide +kernel
theorem dL_law_423 : decode cL_law 423 = .ok (.if_icmp .eq 400, 3) := by decide +kernel
theorem dL_law_426 : decode cL_law 426 = .ok (.iconst 0, 1) := by decide +kernel
theorem dL_law_427 : decode cL_law 427 = .ok (.ireturn, 1) := by decide +kernel
theorem dL_law_428 : decode cL_law 428 = .ok (.aload_n 1, 1) := by decide +kernel
theorem dL_law_429 : decode cL_law 429 = .ok (.invokevirtual 57, 3) := by decide +kernel
theorem dL_law_432 : decode cL_law 432 = .ok (.aload_n 2, 1) := by decide +kernel
theorem dL_law_433 : decode cL_law 433 = .ok (.invokevirtual 60, 3) := by decide +kernel
theorem dL_law_436 : decode cL_law 436 = .ok (.if_icmp .eq 387, 3) := by decide +kernel
theorem dL_law_439 : decode cL_law 439 = .ok (.iconst 0, 1) := by decide +kernel
theorem dL_law_440 : decode cL_law 440 = .ok (.ireturn, 1) := by decide +kernel
theorem dL_law_441 : decode cL_law 441 = .ok (.aload_n 1, 1) := by decide +kernel
theorem dL_law_442 : decode cL_law 442 = .ok (.aload_n 0, 1) := by decide +kernel
theorem dL_law_443 : decode cL_law 443 = .ok (.iload_n 3, 1) := by decide +kernel
theorem dL_law_444 : decode cL_law 444 = .ok (.iconst 1, 1) := by decide +kernel
theorem dL_law_445 : decode cL_law 445 = .ok (.iadd, 1) := by decide +kernel
theorem dL_law_446 : decode cL_law 446 = .ok (.iaload, 1) := by decide +kernel
theorem dL_law_447 : decode cL_law 447 = .ok (.aload_n 0, 1) := by decide +kernel
theorem dL_law_448 : decode cL_law 448 = .ok (.iload_n 3, 1) := by decide +kernel
theorem dL_law_449 : decode cL_law 449 = .ok (.iconst 2, 1) := by decide +kernel
theorem dL_law_450 : decode cL_law 450 = .ok (.iadd, 1) := by decide +kernel
theorem dL_law_451 : decode cL_law 451 = .ok (.iaload, 1) := by decide +kernel
theorem dL_law_452 : decode cL_law 452 = .ok (.aload_n 0, 1) := by decide +kernel
theorem dL_law_453 : decode cL_law 453 = .ok (.iload_n 3, 1) := by decide +kernel
theorem dL_law_454 : decode cL_law 454 = .ok (.iconst 3, 1) := by decide +kernel
theorem dL_law_455 : decode cL_law 455 = .ok (.iadd, 1) := by decide +kernel
theorem dL_law_456 : decode cL_law 456 = .ok (.iaload, 1) := by decide +kernel
theorem dL_law_457 : decode cL_law 457 = .ok (.aload_n 0, 1) := by decide +kernel
theorem dL_law_458 : decode cL_law 458 = .ok (.iload_n 3, 1) := by decide +kernel
theorem dL_law_459 : decode cL_law 459 = .ok (.iconst 4, 1) := by decide +kernel
theorem dL_law_460 : decode cL_law 460 = .ok (.iadd, 1) := by decide +kernel
theorem dL_law_461 : decode cL_law 461 = .ok (.iaload, 1) := by decide +kernel
theorem dL_law_462 : decode cL_law 462 = .ok (.invokevirtual 61, 3) := by decide +kernel
theorem dL_law_465 : decode cL_law 465 = .ok (.aload_n 2, 1) := by decide +kernel
theorem dL_law_466 : decode cL_law 466 = .ok (.aload_n 0, 1) := by decide +kernel
theorem dL_law_467 : decode cL_law 467 = .ok (.iload_n 3, 1) := by decide +kernel
theorem dL_law_468 : decode cL_law 468 = .ok (.iconst 1, 1) := by decide +kernel
theorem dL_law_469 : decode cL_law 469 = .ok (.iadd, 1) := by decide +kernel
theorem dL_law_470 : decode cL_law 470 = .ok (.iaload, 1) := by decide +kernel
theorem dL_law_471 : decode cL_law 471 = .ok (.aload_n 0, 1) := by decide +kernel
theorem dL_law_472 : decode cL_law 472 = .ok (.iload_n 3, 1) := by decide +kernel
theorem dL_law_473 : decode cL_law 473 = .ok (.iconst 2, 1) := by decide +kernel
theorem dL_law_474 : decode cL_law 474 = .ok (.iadd, 1) := by decide +kernel
theorem dL_law_475 : decode cL_law 475 = .ok (.iaload, 1) := by decide +kernel
theorem dL_law_476 : decode cL_law 476 = .ok (.aload_n 0, 1) := by decide +kernel
theorem dL_law_477 : decode cL_law 477 = .ok (.iload_n 3, 1) := by decide +kernel
theorem dL_law_478 : decode cL_law 478 = .ok (.iconst 3, 1) := by decide +kernel
theorem dL_law_479 : decode cL_law 479 = .ok (.iadd, 1) := by decide +kernel
theorem dL_law_480 : decode cL_law 480 = .ok (.iaload, 1) := by decide +kernel
theorem dL_law_481 : decode cL_law 481 = .ok (.aload_n 0, 1) := by decide +kernel
theorem dL_law_482 : decode cL_law 482 = .ok (.iload_n 3, 1) := by decide +kernel
theorem dL_law_483 : decode cL_law 483 = .ok (.iconst 4, 1) := by decide +kernel
theorem dL_law_484 : decode cL_law 484 = .ok (.iadd, 1) := by decide +kernel
theorem dL_law_485 : decode cL_law 485 = .ok (.iaload, 1) := by decide +kernel
theorem dL_law_486 : decode cL_law 486 = .ok (.invokevirtual 65, 3) := by decide +kernel
theorem dL_law_489 : decode cL_law 489 = .ok (.if_icmp .eq 334, 3) := by decide +kernel
theorem dL_law_492 : decode cL_law 492 = .ok (.iconst 0, 1) := by decide +kernel
theorem dL_law_493 : decode cL_law 493 = .ok (.ireturn, 1) := by decide +kernel
theorem dL_law_494 : decode cL_law 494 = .ok (.aload_n 1, 1) := by decide +kernel
theorem dL_law_495 : decode cL_law 495 = .ok (.aload_n 0, 1) := by decide +kernel
theorem dL_law_496 : decode cL_law 496 = .ok (.iload_n 3, 1) := by decide +kernel
theorem dL_law_497 : decode cL_law 497 = .ok (.iconst 1, 1) := by decide +kernel
theorem dL_law_498 : decode cL_law 498 = .ok (.iadd, 1) := by decide +kernel
theorem dL_law_499 : decode cL_law 499 = .ok (.iaload, 1) := by decide +kernel
theorem dL_law_500 : decode cL_law 500 = .ok (.aload_n 0, 1) := by decide +kernel
theorem dL_law_501 : decode cL_law 501 = .ok (.iload_n 3, 1) := by decide +kernel
theorem dL_law_502 : decode cL_law 502 = .ok (.iconst 2, 1) := by decide +kernel
theorem dL_law_503 : decode cL_law 503 = .ok (.iadd, 1) := by decide +kernel
theorem dL_law_504 : decode cL_law 504 = .ok (.iaload, 1) := by decide +kernel
theorem dL_law_505 : decode cL_law 505 = .ok (.aload_n 0, 1) := by decide +kernel
theorem dL_law_506 : decode cL_law 506 = .ok (.iload_n 3, 1) := by decide +kernel
theorem dL_law_507 : decode cL_law 507 = .ok (.iconst 3, 1) := by decide +kernel
theorem dL_law_508 : decode cL_law 508 = .ok (.iadd, 1) := by decide +kernel
theorem dL_law_509 : decode cL_law 509 = .ok (.iaload, 1) := by decide +kernel
theorem dL_law_510 : decode cL_law 510 = .ok (.aload_n 0, 1) := by decide +kernel
theorem dL_law_511 : decode cL_law 511 = .ok (.iload_n 3, 1) := by decide +kernel
theorem dL_law_512 : decode cL_law 512 = .ok (.iconst 4, 1) := by decide +kernel
theorem dL_law_513 : decode cL_law 513 = .ok (.iadd, 1) := by decide +kernel
theorem dL_law_514 : decode cL_law 514 = .ok (.iaload, 1) := by decide +kernel
theorem dL_law_515 : decode cL_law 515 = .ok (.invokevirtual 66, 3) := by decide +kernel
theorem dL_law_518 : decode cL_law 518 = .ok (.aload_n 2, 1) := by decide +kernel
theorem dL_law_519 : decode cL_law 519 = .ok (.aload_n 0, 1) := by decide +kernel
theorem dL_law_520 : decode cL_law 520 = .ok (.iload_n 3, 1) := by decide +kernel
theorem dL_law_521 : decode cL_law 521 = .ok (.iconst 1, 1) := by decide +kernel
theorem dL_law_522 : decode cL_law 522 = .ok (.iadd, 1) := by decide +kernel
theorem dL_law_523 : decode cL_law 523 = .ok (.iaload, 1) := by decide +kernel
theorem dL_law_524 : decode cL_law 524 = .ok (.aload_n 0, 1) := by decide +kernel
theorem dL_law_525 : decode cL_law 525 = .ok (.iload_n 3, 1) := by decide +kernel
theorem dL_law_526 : decode cL_law 526 = .ok (.iconst 2, 1) := by decide +kernel
theorem dL_law_527 : decode cL_law 527 = .ok (.iadd, 1) := by decide +kernel
theorem dL_law_528 : decode cL_law 528 = .ok (.iaload, 1) := by decide +kernel
theorem dL_law_529 : decode cL_law 529 = .ok (.aload_n 0, 1) := by decide +kernel
theorem dL_law_530 : decode cL_law 530 = .ok (.iload_n 3, 1) := by decide +kernel
theorem dL_law_531 : decode cL_law 531 = .ok (.iconst 3, 1) := by decide +kernel
theorem dL_law_532 : decode cL_law 532 = .ok (.iadd, 1) := by decide +kernel
theorem dL_law_533 : decode cL_law 533 = .ok (.iaload, 1) := by decide +kernel
theorem dL_law_534 : decode cL_law 534 = .ok (.aload_n 0, 1) := by decide +kernel
theorem dL_law_535 : decode cL_law 535 = .ok (.iload_n 3, 1) := by decide +kernel
theorem dL_law_536 : decode cL_law 536 = .ok (.iconst 4, 1) := by decide +kernel
theorem dL_law_537 : decode cL_law 537 = .ok (.iadd, 1) := by decide +kernel
theorem dL_law_538 : decode cL_law 538 = .ok (.iaload, 1) := by decide +kernel
theorem dL_law_539 : decode cL_law 539 = .ok (.invokevirtual 69, 3) := by decide +kernel
theorem dL_law_542 : decode cL_law 542 = .ok (.if_icmp .eq 281, 3) := by decide +kernel
theorem dL_law_545 : decode cL_law 545 = .ok (.iconst 0, 1) := by decide +kernel
theorem dL_law_546 : decode cL_law 546 = .ok (.ireturn, 1) := by decide +kernel
theorem dL_law_547 : decode cL_law 547 = .ok (.aload_n 1, 1) := by decide +kernel
theorem dL_law_548 : decode cL_law 548 = .ok (.aload_n 0, 1) := by decide +kernel
theorem dL_law_549 : decode cL_law 549 = .ok (.iload_n 3, 1) := by decide +kernel
theorem dL_law_550 : decode cL_law 550 = .ok (.iconst 1, 1) := by decide +kernel
theorem dL_law_551 : decode cL_law 551 = .ok (.iadd, 1) := by decide +kernel
theorem dL_law_552 : decode cL_law 552 = .ok (.iaload, 1) := by decide +kernel
theorem dL_law_553 : decode cL_law 553 = .ok (.aload_n 0, 1) := by decide +kernel
theorem dL_law_554 : decode cL_law 554 = .ok (.iload_n 3, 1) := by decide +kernel
theorem dL_law_555 : decode cL_law 555 = .ok (.iconst 2, 1) := by decide +kernel
theorem dL_law_556 : decode cL_law 556 = .ok (.iadd, 1) := by decide +kernel
theorem dL_law_557 : decode cL_law 557 = .ok (.iaload, 1) := by decide +kernel
theorem dL_law_558 : decode cL_law 558 = .ok (.invokevirtual 70, 3) := by decide +kernel
theorem dL_law_561 : decode cL_law 561 = .ok (.aload_n 2, 1) := by decide +kernel
theorem dL_law_562 : decode cL_law 562 = .ok (.aload_n 0, 1) := by decide +kernel
theorem dL_law_563 : decode cL_law 563 = .ok (.iload_n 3, 1) := by decide +kernel
theorem dL_law_564 : decode cL_law 564 = .ok (.iconst 1, 1) := by decide +kernel
theorem dL_law_565 : decode cL_law 565 = .ok (.iadd, 1) := by decide +kernel
theorem dL_law_566 : decode cL_law 566 = .ok (.iaload, 1) := by decide +kernel
theorem dL_law_567 : decode cL_law 567 = .ok (.aload_n 0, 1) := by decide +kernel
theorem dL_law_568 : decode cL_law 568 = .ok (.iload_n 3, 1) := by decide +kernel
theorem dL_law_569 : decode cL_law 569 = .ok (.iconst 2, 1) := by decide +kernel
theorem dL_law_570 : decode cL_law 570 = .ok (.iadd, 1) := by decide +kernel
theorem dL_law_571 : decode cL_law 571 = .ok (.iaload, 1) := by decide +kernel
theorem dL_law_572 : decode cL_law 572 = .ok (.invokevirtual 73, 3) := by decide +kernel
theorem dL_law_575 : decode cL_law 575 = .ok (.if_icmp .eq 248, 3) := by decide +kernel
theorem dL_law_578 : decode cL_law 578 = .ok (.iconst 0, 1) := by decide +kernel
theorem dL_law_579 : decode cL_law 579 = .ok (.ireturn, 1) := by decide +kernel
theorem dL_law_580 : decode cL_law 580 = .ok (.aload_n 1, 1) := by decide +kernel
theorem dL_law_581 : decode cL_law 581 = .ok (.aload_n 0, 1) := by decide +kernel
theorem dL_law_582 : decode cL_law 582 = .ok (.iload_n 3, 1) := by decide +kernel
theorem dL_law_583 : decode cL_law 583 = .ok (.iconst 1, 1) := by decide +kernel
theorem dL_law_584 : decode cL_law 584 = .ok (.iadd, 1) := by decide +kernel
theorem dL_law_585 : decode cL_law 585 = .ok (.iaload, 1) := by decide +kernel
theorem dL_law_586 : decode cL_law 586 = .ok (.aload_n 0, 1) := by decide +kernel
theorem dL_law_587 : decode cL_law 587 = .ok (.iload_n 3, 1) := by decide +kernel
theorem dL_law_588 : decode cL_law 588 = .ok (.iconst 2, 1) := by decide +kernel
theorem dL_law_589 : decode cL_law 589 = .ok (.iadd, 1) := by decide +kernel
theorem dL_law_590 : decode cL_law 590 = .ok (.iaload, 1) := by decide +kernel
theorem dL_law_591 : decode cL_law 591 = .ok (.invokevirtual 74, 3) := by decide +kernel
theorem dL_law_594 : decode cL_law 594 = .ok (.aload_n 2, 1) := by decide +kernel
theorem dL_law_595 : decode cL_law 595 = .ok (.aload_n 0, 1) := by decide +kernel
theorem dL_law_596 : decode cL_law 596 = .ok (.iload_n 3, 1) := by decide +kernel
theorem dL_law_597 : decode cL_law 597 = .ok (.iconst 1, 1) := by decide +kernel
theorem dL_law_598 : decode cL_law 598 = .ok (.iadd, 1) := by decide +kernel
theorem dL_law_599 : decode cL_law 599 = .ok (.iaload, 1) := by decide +kernel
theorem dL_law_600 : decode cL_law 600 = .ok (.aload_n 0, 1) := by decide +kernel
theorem dL_law_601 : decode cL_law 601 = .ok (.iload_n 3, 1) := by decide +kernel
theorem dL_law_602 : decode cL_law 602 = .ok (.iconst 2, 1) := by decide +kernel
theorem dL_law_603 : decode cL_law 603 = .ok (.iadd, 1) := by decide +kernel
theorem dL_law_604 : decode cL_law 604 = .ok (.iaload, 1) := by decide +kernel
theorem dL_law_605 : decode cL_law 605 = .ok (.invokevirtual 77, 3) := by decide +kernel
theorem dL_law_608 : decode cL_law 608 = .ok (.if_icmp .eq 215, 3) := by decide +kernel
theorem dL_law_611 : decode cL_law 611 = .ok (.iconst 0, 1) := by decide +kernel
theorem dL_law_612 : decode cL_law 612 = .ok (.ireturn, 1) := by decide +kernel
theorem dL_law_613 : decode cL_law 613 = .ok (.aload_n 1, 1) := by decide +kernel
theorem dL_law_614 : decode cL_law 614 = .ok (.aload_n 0, 1) := by decide +kernel
theorem dL_law_615 : decode cL_law 615 = .ok (.iload_n 3, 1) := by decide +kernel
theorem dL_law_616 : decode cL_law 616 = .ok (.iconst 1, 1) := by decide +kernel
theorem dL_law_617 : decode cL_law 617 = .ok (.iadd, 1) := by decide +kernel
theorem dL_law_618 : decode cL_law 618 = .ok (.iaload, 1) := by decide +kernel
theorem dL_law_619 : decode cL_law 619 = .ok (.invokevirtual 78, 3) := by decide +kernel
theorem dL_law_622 : decode cL_law 622 = .ok (.aload_n 2, 1) := by decide +kernel
theorem dL_law_623 : decode cL_law 623 = .ok (.aload_n 0, 1) := by decide +kernel
theorem dL_law_624 : decode cL_law 624 = .ok (.iload_n 3, 1) := by decide +kernel
theorem dL_law_625 : decode cL_law 625 = .ok (.iconst 1, 1) := by decide +kernel
theorem dL_law_626 : decode cL_law 626 = .ok (.iadd, 1) := by decide +kernel
theorem dL_law_627 : decode cL_law 627 = .ok (.iaload, 1) := by decide +kernel
theorem dL_law_628 : decode cL_law 628 = .ok (.invokevirtual 81, 3) := by decide +kernel
theorem dL_law_631 : decode cL_law 631 = .ok (.if_icmp .eq 192, 3) := by decide +kernel
theorem dL_law_634 : decode cL_law 634 = .ok (.iconst 0, 1) := by decide +kernel
theorem dL_law_635 : decode cL_law 635 = .ok (.ireturn, 1) := by decide +kernel
theorem dL_law_636 : decode cL_law 636 = .ok (.aload_n 1, 1) := by decide +kernel
theorem dL_law_637 : decode cL_law 637 = .ok (.aload_n 0, 1) := by decide +kernel
theorem dL_law_638 : decode cL_law 638 = .ok (.iload_n 3, 1) := by decide +kernel
theorem dL_law_639 : decode cL_law 639 = .ok (.iconst 1, 1) := by decide +kernel
theorem dL_law_640 : decode cL_law 640 = .ok (.iadd, 1) := by decide +kernel
theorem dL_law_641 : decode cL_law 641 = .ok (.iaload, 1) := by decide +kernel
theorem dL_law_642 : decode cL_law 642 = .ok (.invokevirtual 82, 3) := by decide +kernel
theorem dL_law_645 : decode cL_law 645 = .ok (.aload_n 2, 1) := by decide +kernel
theorem dL_law_646 : decode cL_law 646 = .ok (.aload_n 0, 1) := by decide +kernel
theorem dL_law_647 : decode cL_law 647 = .ok (.iload_n 3, 1) := by decide +kernel
theorem dL_law_648 : decode cL_law 648 = .ok (.iconst 1, 1) := by decide +kernel
theorem dL_law_649 : decode cL_law 649 = .ok (.iadd, 1) := by decide +kernel
theorem dL_law_650 : decode cL_law 650 = .ok (.iaload, 1) := by decide +kernel
theorem dL_law_651 : decode cL_law 651 = .ok (.invokevirtual 85, 3) := by decide +kernel
theorem dL_law_654 : decode cL_law 654 = .ok (.if_icmp .eq 169, 3) := by decide +kernel
theorem dL_law_657 : decode cL_law 657 = .ok (.iconst 0, 1) := by decide +kernel
theorem dL_law_658 : decode cL_law 658 = .ok (.ireturn, 1) := by decide +kernel
theorem dL_law_659 : decode cL_law 659 = .ok (.aload_n 1, 1) := by decide +kernel
theorem dL_law_660 : decode cL_law 660 = .ok (.invokevirtual 86, 3) := by decide +kernel
theorem dL_law_663 : decode cL_law 663 = .ok (.aload_n 2, 1) := by decide +kernel
theorem dL_law_664 : decode cL_law 664 = .ok (.invokevirtual 89, 3) := by decide +kernel
theorem dL_law_667 : decode cL_law 667 = .ok (.if_icmp .eq 156, 3) := by decide +kernel
theorem dL_law_670 : decode cL_law 670 = .ok (.iconst 0, 1) := by decide +kernel
theorem dL_law_671 : decode cL_law 671 = .ok (.ireturn, 1) := by decide +kernel
theorem dL_law_672 : decode cL_law 672 = .ok (.aload_n 1, 1) := by decide +kernel
theorem dL_law_673 : decode cL_law 673 = .ok (.aload_n 0, 1) := by decide +kernel
theorem dL_law_674 : decode cL_law 674 = .ok (.iload_n 3, 1) := by decide +kernel
theorem dL_law_675 : decode cL_law 675 = .ok (.iconst 1, 1) := by decide +kernel
theorem dL_law_676 : decode cL_law 676 = .ok (.iadd, 1) := by decide +kernel
theorem dL_law_677 : decode cL_law 677 = .ok (.iaload, 1) := by decide +kernel
theorem dL_law_678 : decode cL_law 678 = .ok (.invokevirtual 90, 3) := by decide +kernel
theorem dL_law_681 : decode cL_law 681 = .ok (.aload_n 2, 1) := by decide +kernel
theorem dL_law_682 : decode cL_law 682 = .ok (.aload_n 0, 1) := by decide +kernel
theorem dL_law_683 : decode cL_law 683 = .ok (.iload_n 3, 1) := by decide +kernel
theorem dL_law_684 : decode cL_law 684 = .ok (.iconst 1, 1) := by decide +kernel
theorem dL_law_685 : decode cL_law 685 = .ok (.iadd, 1) := by decide +kernel
theorem dL_law_686 : decode cL_law 686 = .ok (.iaload, 1) := by decide +kernel
theorem dL_law_687 : decode cL_law 687 = .ok (.invokevirtual 93, 3) := by decide +kernel
theorem dL_law_690 : decode cL_law 690 = .ok (.if_icmp .eq 133, 3) := by decide +kernel
theorem dL_law_693 : decode cL_law 693 = .ok (.iconst 0, 1) := by decide +kernel
theorem dL_law_694 : decode cL_law 694 = .ok (.ireturn, 1) := by decide +kernel
theorem dL_law_695 : decode cL_law 695 = .ok (.aload_n 1, 1) := by decide +kernel
theorem dL_law_696 : decode cL_law 696 = .ok (.aload_n 0, 1) := by decide +kernel
theorem dL_law_697 : decode cL_law 697 = .ok (.iload_n 3, 1) := by decide +kernel
theorem dL_law_698 : decode cL_law 698 = .ok (.iconst 1, 1) := by decide +kernel
theorem dL_law_699 : decode cL_law 699 = .ok (.iadd, 1) := by decide +kernel
theorem dL_law_700 : decode cL_law 700 = .ok (.iaload, 1) := by decide +kernel
theorem dL_law_701 : decode cL_law 701 = .ok (.invokevirtual 94, 3) := by decide +kernel
theorem dL_law_704 : decode cL_law 704 = .ok (.aload_n 2, 1) := by decide +kernel
theorem dL_law_705 : decode cL_law 705 = .ok (.aload_n 0, 1) := by decide +kernel
theorem dL_law_706 : decode cL_law 706 = .ok (.iload_n 3, 1) := by decide +kernel
theorem dL_law_707 : decode cL_law 707 = .ok (.iconst 1, 1) := by decide +kernel
theorem dL_law_708 : decode cL_law 708 = .ok (.iadd, 1) := by decide +kernel
theorem dL_law_709 : decode cL_law 709 = .ok (.iaload, 1) := by decide +kernel
theorem dL_law_710 : decode cL_law 710 = .ok (.invokevirtual 97, 3) := by decide +kernel
theorem dL_law_713 : decode cL_law 713 = .ok (.if_icmp .eq 110, 3) := by decide +kernel
theorem dL_law_716 : decode cL_law 716 = .ok (.iconst 0, 1) := by decide +kernel
theorem dL_law_717 : decode cL_law 717 = .ok (.ireturn, 1) := by decide +kernel
theorem dL_law_718 : decode cL_law 718 = .ok (.aload_n 1, 1) := by decide +kernel
theorem dL_law_719 : decode cL_law 719 = .ok (.invokevirtual 98, 3) := by decide +kernel
theorem dL_law_722 : decode cL_law 722 = .ok (.aload_n 2, 1) := by decide +kernel
theorem dL_law_723 : decode cL_law 723 = .ok (.invokevirtual 101, 3) := by decide +kernel
theorem dL_law_726 : decode cL_law 726 = .ok (.if_icmp .eq 97, 3) := by decide +kernel
theorem dL_law_729 : decode cL_law 729 = .ok (.iconst 0, 1) := by decide +kernel
theorem dL_law_730 : decode cL_law 730 = .ok (.ireturn, 1) := by decide +kernel
theorem dL_law_731 : decode cL_law 731 = .ok (.aload_n 1, 1) := by decide +kernel
theorem dL_law_732 : decode cL_law 732 = .ok (.aload_n 0, 1) := by decide +kernel
theorem dL_law_733 : decode cL_law 733 = .ok (.iload_n 3, 1) := by decide +kernel
theorem dL_law_734 : decode cL_law 734 = .ok (.iconst 1, 1) := by decide +kernel
theorem dL_law_735 : decode cL_law 735 = .ok (.iadd, 1) := by decide +kernel
theorem dL_law_736 : decode cL_law 736 = .ok (.iaload, 1) := by decide +kernel
theorem dL_law_737 : decode cL_law 737 = .ok (.aload_n 0, 1) := by decide +kernel
theorem dL_law_738 : decode cL_law 738 = .ok (.iload_n 3, 1) := by decide +kernel
theorem dL_law_739 : decode cL_law 739 = .ok (.iconst 2, 1) := by decide +kernel
theorem dL_law_740 : decode cL_law 740 = .ok (.iadd, 1) := by decide +kernel
theorem dL_law_741 : decode cL_law 741 = .ok (.iaload, 1) := by decide +kernel
theorem dL_law_742 : decode cL_law 742 = .ok (.invokevirtual 102, 3) := by decide +kernel
theorem dL_law_745 : decode cL_law 745 = .ok (.aload_n 2, 1) := by decide +kernel
theorem dL_law_746 : decode cL_law 746 = .ok (.aload_n 0, 1) := by decide +kernel
theorem dL_law_747 : decode cL_law 747 = .ok (.iload_n 3, 1) := by decide +kernel
theorem dL_law_748 : decode cL_law 748 = .ok (.iconst 1, 1) := by decide +kernel
theorem dL_law_749 : decode cL_law 749 = .ok (.iadd, 1) := by decide +kernel
theorem dL_law_750 : decode cL_law 750 = .ok (.iaload, 1) := by decide +kernel
theorem dL_law_751 : decode cL_law 751 = .ok (.aload_n 0, 1) := by decide +kernel
theorem dL_law_752 : decode cL_law 752 = .ok (.iload_n 3, 1) := by decide +kernel
theorem dL_law_753 : decode cL_law 753 = .ok (.iconst 2, 1) := by decide +kernel
theorem dL_law_754 : decode cL_law 754 = .ok (.iadd, 1) := by decide +kernel
theorem dL_law_755 : decode cL_law 755 = .ok (.iaload, 1) := by decide +kernel
theorem dL_law_756 : decode cL_law 756 = .ok (.invokevirtual 105, 3) := by decide +kernel
theorem dL_law_759 : decode cL_law 759 = .ok (.if_icmp .eq 64, 3) := by decide +kernel
theorem dL_law_762 : decode cL_law 762 = .ok (.iconst 0, 1) := by decide +kernel
theorem dL_law_763 : decode cL_law 763 = .ok (.ireturn, 1) := by decide +kernel
theorem dL_law_764 : decode cL_law 764 = .ok (.aload_n 1, 1) := by decide +kernel
theorem dL_law_765 : decode cL_law 765 = .ok (.aload_n 0, 1) := by decide +kernel
theorem dL_law_766 : decode cL_law 766 = .ok (.iload_n 3, 1) := by decide +kernel
theorem dL_law_767 : decode cL_law 767 = .ok (.iconst 1, 1) := by decide +kernel
theorem dL_law_768 : decode cL_law 768 = .ok (.iadd, 1) := by decide +kernel
theorem dL_law_769 : decode cL_law 769 = .ok (.iaload, 1) := by decide +kernel
theorem dL_law_770 : decode cL_law 770 = .ok (.invokevirtual 106, 3) := by decide +kernel
theorem dL_law_773 : decode cL_law 773 = .ok (.aload_n 2, 1) := by decide +kernel
theorem dL_law_774 : decode cL_law 774 = .ok (.aload_n 0, 1) := by decide +kernel
theorem dL_law_775 : decode cL_law 775 = .ok (.iload_n 3, 1) := by decide +kernel
theorem dL_law_776 : decode cL_law 776 = .ok (.iconst 1, 1) := by decide +kernel
theorem dL_law_777 : decode cL_law 777 = .ok (.iadd, 1) := by decide +kernel
theorem dL_law_778 : decode cL_law 778 = .ok (.iaload, 1) := by decide +kernel
theorem dL_law_779 : decode cL_law 779 = .ok (.invokevirtual 109, 3) := by decide +kernel
theorem dL_law_782 : decode cL_law 782 = .ok (.if_icmp .eq 41, 3) := by decide +kernel
theorem dL_law_785 : decode cL_law 785 = .ok (.iconst 0, 1) := by decide +kernel
theorem dL_law_786 : decode cL_law 786 = .ok (.ireturn, 1) := by decide +kernel
theorem dL_law_787 : decode cL_law 787 = .ok (.aload_n 1, 1) := by decide +kernel
theorem dL_law_788 : decode cL_law 788 = .ok (.invokevirtual 110, 3) := by decide +kernel
theorem dL_law_791 : decode cL_law 791 = .ok (.aload_n 2, 1) := by decide +kernel
theorem dL_law_792 : decode cL_law 792 = .ok (.invokevirtual 113, 3) := by decide +kernel
theorem dL_law_795 : decode cL_law 795 = .ok (.if_icmp .eq 28, 3) := by decide +kernel
theorem dL_law_798 : decode cL_law 798 = .ok (.iconst 0, 1) := by decide +kernel
theorem dL_law_799 : decode cL_law 799 = .ok (.ireturn, 1) := by decide +kernel
theorem dL_law_800 : decode cL_law 800 = .ok (.aload_n 1, 1) := by decide +kernel
theorem dL_law_801 : decode cL_law 801 = .ok (.aload_n 0, 1) := by decide +kernel
theorem dL_law_802 : decode cL_law 802 = .ok (.iload_n 3, 1) := by decide +kernel
theorem dL_law_803 : decode cL_law 803 = .ok (.iconst 1, 1) := by decide +kernel
theorem dL_law_804 : decode cL_law 804 = .ok (.iadd, 1) := by decide +kernel
theorem dL_law_805 : decode cL_law 805 = .ok (.iaload, 1) := by decide +kernel
theorem dL_law_806 : decode cL_law 806 = .ok (.invokevirtual 114, 3) := by decide +kernel
theorem dL_law_809 : decode cL_law 809 = .ok (.aload_n 2, 1) := by decide +kernel
theorem dL_law_810 : decode cL_law 810 = .ok (.aload_n 0, 1) := by decide +kernel
theorem dL_law_811 : decode cL_law 811 = .ok (.iload_n 3, 1) := by decide +kernel
theorem dL_law_812 : decode cL_law 812 = .ok (.iconst 1, 1) := by decide +kernel
theorem dL_law_813 : decode cL_law 813 = .ok (.iadd, 1) := by decide +kernel
theorem dL_law_814 : decode cL_law 814 = .ok (.iaload, 1) := by decide +kernel
theorem dL_law_815 : decode cL_law 815 = .ok (.invokevirtual 117, 3) := by decide +kernel
theorem dL_law_818 : decode cL_law 818 = .ok (.if_icmp .eq 5, 3) := by decide +kernel
theorem dL_law_821 : decode cL_law 821 = .ok (.iconst 0, 1) := by decide +kernel
theorem dL_law_822 : decode cL_law 822 = .ok (.ireturn, 1) := by decide +kernel
theorem dL_law_823 : decode cL_law 823 = .ok (.iinc 3 5, 3) := by decide +kernel
theorem dL_law_826 : decode cL_law 826 = .ok (.goto (-808), 3) := by decide +kernel
theorem dL_law_829 : decode cL_law 829 = .ok (.iconst 1, 1) := by decide +kernel
theorem dL_law_830 : decode cL_law 830 = .ok (.ireturn, 1) := by decide +kernel
end
section
/-! the words that may be handed to a callee: the good ones of the tables -/
def TB : List Cond := lw_tbl.filter goodWord
theorem tb_of {w : Cond} (h : w ∈ lw_tbl) (hg : goodWord w = true) : w ∈ TB := List.mem_filter.mpr ⟨h, hg⟩
theorem tb_in {w : Cond} (h : w ∈ TB) : w ∈ lw_tbl := (List.mem_filter.mp h).1
theorem tb_good {w : Cond} (h : w ∈ TB) : goodWord w = true := (List.mem_filter.mp h).2
theorem tb0 {w : Cond} (i : Nat) (h : (k2_sels lw_privs)[i]? = some w) (hg : goodWord w = true) : w ∈ TB := tb_of (List.mem_append_left _ (List.mem_of_getElem? h)) hg
theorem tb1 {w : Cond} (i : Nat) (h : tables_1_1[i]? = some w) (hg : goodWord w = true) : w ∈ TB := tb_of (List.mem_append_right _ (List.mem_append_left _ (List.mem_of_getElem? h))) hg
theorem tb2 {w : Cond} (i : Nat) (h : tables_1_2[i]? = some w) (hg : goodWord w = true) : w ∈ TB := tb_of (List.mem_append_right _ (List.mem_append_right _ (List.mem_append_left _ (List.mem_of_getElem? h)))) hg
theorem tb3 {w : Cond} (i : Nat) (h : tables_1_3[i]? = some w) (hg : goodWord w = true) : w ∈ TB := tb_of (List.mem_append_right _ (List.mem_append_right _ (List.mem_append_right _ (List.mem_append_left _ (List.mem_of_getElem? h))))) hg
theorem tb4 {w : Cond} (i : Nat) (h : tables_1_4[i]? = some w) (hg : goodWord w = true) : w ∈ TB := tb_of (List.mem_append_right _ (List.mem_append_right _ (List.mem_append_right _ (List.mem_append_right _ (List.mem_append_left _ (List.mem_of_getElem? h)))))) hg
theorem tb5 {w : Cond} (i : Nat) (h : tables_1_5[i]? = some w) (hg : goodWord w = true) : w ∈ TB := tb_of (List.mem_append_right _ (List.mem_append_right _ (List.mem_append_right _ (List.mem_append_right _ (List.mem_append_right _ (List.mem_of_getElem? h)))))) hg
theorem good_tb (X : Cond) {ws : List Cond} (h : ∀ w ∈ ws, w ∈ TB) : GoodIn (X :: TB) ws := fun w hw => ⟨List.mem_cons_of_mem _ (h w hw), good_of_word (tb_good (h w hw))⟩
theorem good_tb0 {ws : List Cond} (h : ∀ w ∈ ws, w ∈ TB) : GoodIn TB ws := fun w hw => ⟨h w hw, good_of_word (tb_good (h w hw))⟩

/-! the memory of ints: what each cell holds at each place -/
abbrev Mem : Type := Nat → Nat → Int32
def up (μ : Mem) (c j : Nat) (v : Int32) : Mem := fun a => if a = c then upd (μ c) j v else μ a
theorem up_at (μ : Mem) (c j : Nat) (v : Int32) : up μ c j v c = upd (μ c) j v := if_pos rfl
theorem up_ne {μ : Mem} {c j a : Nat} {v : Int32} (h : a ≠ c) : up μ c j v a = μ a := if_neg h
def inb (i : Int32) (n : Nat) : Bool := !(decide (i < 0) || decide (n ≤ i.toNatClampNeg))
theorem inb_in {i : Int32} {n : Nat} (h : inb i n = true) : vp_in i n := by
  unfold vp_in
  intro hh
  simp only [inb, Bool.not_eq_true', Bool.or_eq_false_iff, decide_eq_false_iff_not] at h
  exact hh.elim h.1 h.2

/-! the shape: n cells, cell k of kind K k (a class's number in vwCl, 10 an array of ints, 11 an array of rows), L k long, at the address ad k -/
def fv (ad : Nat → Nat) (f : Nat → Int32) (kd k : Nat) : List Value := match kd with
  | 0 => [.ref (ad (k + 1)), .ref (ad (k + 3)), .ref (ad (k + 5)), .ref (ad (k + 7)), .int (f 4), .int (f 5), .int (f 6)]
  | 1 => [.ref (ad (k + 1)), .int (f 1), .int (f 2)]
  | 2 => [.ref (ad (k + 1)), .int (f 1)]
  | 3 => [.ref (ad (k + 1))]
  | 4 => [.ref (ad (k + 1)), .ref (ad (k + 3)), .int (f 2), .int (f 3), .int (f 4), .int (f 5), .int (f 6), .int (f 7), .int (f 8), .int (f 9), .int (f 10)]
  | 5 => [.ref (ad (k + 1)), .ref (ad (k + 3)), .ref (ad (k + 5))]
  | 6 => [.ref (ad (k + 1)), .int (f 1)]
  | 7 => [.ref (ad (k + 1)), .int (f 1), .int (f 2)]
  | 8 => [.ref (ad (k + 1)), .ref (ad (k + 4)), .ref (ad (k + 7)), .ref (ad (k + 16)), .ref (ad (k + 25)), .ref (ad (k + 27)), .ref (ad (k + 34)), .ref (ad (k + 48)), .ref (ad (k + 53))]
  | _ => [.int (f 0), .ref (ad (k + 1)), .int (f 2), .ref (ad (k + 2)), .int (f 4), .ref (ad (k + 3)), .ref (ad (k + 4)), .int (f 7), .ref (ad (k + 5)), .ref (ad (k + 6)), .ref (ad (k + 7)), .int (f 11), .ref (ad (k + 8)), .int (f 13), .ref (ad (k + 9)), .int (f 15), .ref (ad (k + 10)), .ref (ad (k + 11)), .int (f 18), .ref (ad (k + 12)), .int (f 20), .int (f 21), .ref (ad (k + 13)), .ref (ad (k + 14)), .ref (ad (k + 15)), .ref (ad (k + 16)), .int (f 26), .int (f 27), .int (f 28), .int (f 29), .int (f 30)]
def ce (cI cR : ClassId) (K L ad : Nat → Nat) (f : Nat → Int32) (k : Nat) : va_E :=
  if K k = 10 then .inl (cI, L k, .inl f)
  else if K k = 11 then .inl (cR, L k, .inr (.inr (.inr (.inr (fun j => some (ad (k + 1 + 2 * j)))))))
  else .inr (K k, fv ad f (K k) k)
def cw (cI cR : ClassId) (n : Nat) (K L ad : Nat → Nat) (μ : Mem) : va_W := (List.range n).map (fun k => (ad k, ce cI cR K L ad (μ k) k))
def isk (n : Nat) (K : Nat → Nat) (o k : Nat) : Prop := o < n ∧ K o = k
/-- the cells that a cell of a kind points to are of their kinds -/
def gs (n : Nat) (K L : Nat → Nat) : Prop :=
  (∀ o, isk n K o 0 → isk n K (o + 1) 3 ∧ isk n K (o + 3) 3 ∧ isk n K (o + 5) 3 ∧ isk n K (o + 7) 3) ∧
  (∀ o, isk n K o 1 → isk n K (o + 1) 11) ∧
  (∀ o, isk n K o 2 → isk n K (o + 1) 3) ∧
  (∀ o, isk n K o 3 → isk n K (o + 1) 10) ∧
  (∀ o, isk n K o 4 → isk n K (o + 1) 3 ∧ isk n K (o + 3) 3) ∧
  (∀ o, isk n K o 5 → isk n K (o + 1) 3 ∧ isk n K (o + 3) 3 ∧ isk n K (o + 5) 3) ∧
  (∀ o, isk n K o 6 → isk n K (o + 1) 3) ∧
  (∀ o, isk n K o 7 → isk n K (o + 1) 3) ∧
  (∀ o, isk n K o 8 → isk n K (o + 1) 6 ∧ isk n K (o + 4) 2 ∧ isk n K (o + 7) 0 ∧ isk n K (o + 16) 0 ∧ isk n K (o + 25) 3 ∧ isk n K (o + 27) 5 ∧ isk n K (o + 34) 1 ∧ isk n K (o + 48) 4 ∧ isk n K (o + 53) 7) ∧
  (∀ o, isk n K o 9 → ∀ j, j < 16 → isk n K (o + (j + 1)) 10) ∧
  (∀ o, isk n K o 11 → ∀ j, j < L o → isk n K (o + 1 + 2 * j) 3)
def Ag (n : Nat) (ad : Nat → Nat) : Nat → Prop := fun q => ∃ k, k < n ∧ q = ad k
abbrev tyG (cI cR : ClassId) : List (ClassId × FieldType) := [(cI, .int), (cR, .object RX3)]
def wo (D : va_G) (cI cR : ClassId) (n : Nat) (K L ad : Nat → Nat) (μ : Mem) (H : Heap) : Prop := va_P D vwCl (cw cI cR n K L ad μ) H
def gok (D : va_G) (cI cR : ClassId) (n : Nat) (K L ad : Nat → Nat) (U : State) : Prop := va_K D vwCl (tyG cI cR) U ∧ (∀ i j, i < n → j < n → ad i = ad j → i = j) ∧ gs n K L
theorem gok.moved {D : va_G} {cI cR : ClassId} {n : Nat} {K L ad : Nat → Nat} {u U : State} (hvm : u.vm.Alike U.vm) (h : gok D cI cR n K L ad u) : gok D cI cR n K L ad U := ⟨va_K.moved hvm h.1, h.2⟩

section BASE1
variable {D : va_G} {cI cR : ClassId} {n : Nat} {K L ad : Nat → Nat} {μ : Mem} {H : Heap} {s : State}
theorem cw_at {o : Nat} (h : o < n) : (cw cI cR n K L ad μ)[o]? = some (ad o, ce cI cR K L ad (μ o) o) := by
  simp [cw, h]
theorem cw_len : (cw cI cR n K L ad μ).length = n := by simp [cw]
theorem cw_atO {o kd : Nat} (h : isk n K o kd) (hk : kd < 10) : (cw cI cR n K L ad μ)[o]? = some (ad o, .inr (kd, fv ad (μ o) kd o)) := by
  rw [cw_at h.1]
  have h1 : K o ≠ 10 := by rw [h.2]; omega
  have h2 : K o ≠ 11 := by rw [h.2]; omega
  rw [ce, if_neg h1, if_neg h2, h.2]
theorem cw_atI {o : Nat} (h : isk n K o 10) : (cw cI cR n K L ad μ)[o]? = some (ad o, .inl (cI, L o, .inl (μ o))) := by
  rw [cw_at h.1, ce, if_pos h.2]
theorem cw_atR {o : Nat} (h : isk n K o 11) : (cw cI cR n K L ad μ)[o]? = some (ad o, .inl (cR, L o, .inr (.inr (.inr (.inr (fun j => some (ad (o + 1 + 2 * j)))))))) := by
  have h1 : K o ≠ 10 := by rw [h.2]; decide
  rw [cw_at h.1, ce, if_neg h1, if_pos h.2]
theorem cw_D (h : gok D cI cR n K L ad s) : va_D (Ag n ad) (cw cI cR n K L ad μ) := by
  have key : ∀ (k : Nat) (q : Nat × va_E), (cw cI cR n K L ad μ)[k]? = some q → k < n ∧ q.1 = ad k := by
    intro k q hk
    have hl : k < n := by
      have := (List.getElem?_eq_some_iff.mp hk).1
      rwa [cw_len] at this
    rw [cw_at hl] at hk
    cases hk
    exact ⟨hl, rfl⟩
  refine ⟨fun i j x y hi hj hxy => ?_, fun k q hk => ?_⟩
  · obtain ⟨a1, a2⟩ := key i x hi
    obtain ⟨b1, b2⟩ := key j y hj
    exact h.2.1 i j a1 b1 (by rw [← a2, ← b2]; exact hxy)
  · obtain ⟨a1, a2⟩ := key k q hk
    exact ⟨k, a1, a2⟩
theorem cw_set {o : Nat} (h : o < n) (f : Nat → Int32) (ν : Mem) (h1 : ν o = f) (h2 : ∀ a, a ≠ o → ν a = μ a) : (cw cI cR n K L ad μ).set o (ad o, ce cI cR K L ad f o) = cw cI cR n K L ad ν := by
  apply List.ext_getElem?
  intro k
  by_cases hk : k = o
  · subst hk
    rw [List.getElem?_set_self (by rw [cw_len]; exact h), cw_at h, h1]
  · rw [List.getElem?_set_ne (Ne.symm hk)]
    by_cases hl : k < n
    · rw [cw_at hl, cw_at hl, h2 k hk]
    · rw [List.getElem?_eq_none (by rw [cw_len]; omega), List.getElem?_eq_none (by rw [cw_len]; omega)]
theorem cw_upI {o : Nat} (h : isk n K o 10) (j : Nat) (v : Int32) : (cw cI cR n K L ad μ).set o (ad o, .inl (cI, L o, .inl (upd (μ o) j v))) = cw cI cR n K L ad (up μ o j v) := by
  rw [← cw_set h.1 (upd (μ o) j v) (up μ o j v) (up_at μ o j v) (fun a ha => up_ne ha), ce, if_pos h.2]
theorem cw_upO {o kd : Nat} (h : isk n K o kd) (hk : kd < 10) (j : Nat) (v : Int32) (hf : fv ad (upd (μ o) j v) kd o = (fv ad (μ o) kd o).set j (.int v)) : (cw cI cR n K L ad μ).set o (ad o, .inr (kd, (fv ad (μ o) kd o).set j (.int v))) = cw cI cR n K L ad (up μ o j v) := by
  have h1 : K o ≠ 10 := by rw [h.2]; omega
  have h2 : K o ≠ 11 := by rw [h.2]; omega
  rw [← cw_set h.1 (upd (μ o) j v) (up μ o j v) (up_at μ o j v) (fun a ha => up_ne ha), ce, if_neg h1, if_neg h2, h.2, hf]
end BASE1
end
section
def cls (kd : Nat) (C : String) (T : u_T) (N : Nat) (ty : Nat → FieldType) : Prop := kd < 10 ∧ vwCl[kd]? = some (C, T, N) ∧ (∀ w ∈ u_ws C T N, w ∈ TB) ∧ (∀ k, k < N → parseFieldDescriptor (T k).2.2.1 = some (ty k)) ∧ (∀ a, a < N → ∀ b, b < N → a ≠ b → (T a).2.1 ≠ (T b).2.1)
def fldI (kd j N : Nat) (T : u_T) (ty : Nat → FieldType) : Prop := j < N ∧ (T j).2.2.2 = false ∧ ty j = .int ∧ (∀ ad f o v, fv ad (upd f j v) kd o = (fv ad f kd o).set j (.int v)) ∧ (∀ ad f o, (fv ad f kd o)[j]? = some (.int (f j)))
def fldR (kd j d N : Nat) : Prop := j < N ∧ (∀ ad f o, (fv ad f kd o)[j]? = some (.ref (ad (o + d))))
def mth (y : MethodName) (cy : ByteArray) (my : Nat) (ry : Option FieldType) (C : String) (np : Nat) : Prop := Cond.instanceMethod y ∈ TB ∧ Cond.selects C y y ∈ TB ∧ Cond.initialized C ∈ TB ∧ Cond.code y cy my ry ∈ TB ∧ (y.cls = C ∧ y.cls ≠ "java/lang/invoke/MethodHandle" ∧ y.cls ≠ "java/lang/invoke/VarHandle" ∧ (parseMethodDescriptor y.desc).map (fun d => d.parameters.length) = some np)
def sth (y : MethodName) (cy : ByteArray) (my : Nat) (ry : Option FieldType) (C : String) (np : Nat) : Prop := Cond.static y ∈ TB ∧ Cond.initialized C ∈ TB ∧ Cond.code y cy my ry ∈ TB ∧ (y.cls = C ∧ y.cls ≠ "java/lang/invoke/MethodHandle" ∧ y.cls ≠ "java/lang/invoke/VarHandle" ∧ (parseMethodDescriptor y.desc).map (fun d => d.parameters.length) = some np)
/-- a method's room, by how high it stands above the leaves -/
def rmL (h : Nat) : Room := { frames := h, cells := 0, slots := 0, locals := 40 * h }
theorem rm_ok {h h' my : Nat} (hh : h' < h) (hm : my ≤ 20) : (rmL h').frames + 1 ≤ (rmL h).frames ∧ 8 + (my + 11) + (rmL h').locals ≤ (rmL h).locals := ⟨hh, by show 8 + (my + 11) + 40 * h' ≤ 40 * h; omega⟩
/-- THE CONTRACTS: where the model answers x, the method answers x.1 and leaves x.2 -/
def QcI (D : va_G) (cI cR : ClassId) (n : Nat) (K L ad : Nat → Nat) (x : Int32 × Mem) : Array Value → State → Outcome → State → Prop := va_Qi (fun r (_ : Unit) => r = x.1) (fun _ t => wo D cI cR n K L ad x.2 t.heap ∧ gok D cI cR n K L ad t) (Ag n ad)
def QcV (D : va_G) (cI cR : ClassId) (n : Nat) (K L ad : Nat → Nat) (x : Mem) : Array Value → State → Outcome → State → Prop := va_Qv (fun (_ : Unit) => True) (fun _ t => wo D cI cR n K L ad x t.heap ∧ gok D cI cR n K L ad t) (Ag n ad)
def PcM (D : va_G) (cI cR : ClassId) (n : Nat) (K L ad : Nat → Nat) (μ : Mem) (av : List Value) : Array Value → State → Prop := va_Pc av (fun U => wo D cI cR n K L ad μ U.heap ∧ gok D cI cR n K L ad U)
def Ci (l : Launch) (y : MethodName) (cy : ByteArray) (my : Nat) (ry : Option FieldType) (rm : Room) (D : va_G) (cI cR : ClassId) (n : Nat) (K L ad : Nat → Nat) (av : List Value) (f : Mem → Option (Int32 × Mem)) : Prop :=
  ∀ (μ : Mem) (x : Int32 × Mem), f μ = some x → Met l y (Cond.code y cy my ry :: TB) rm (PcM D cI cR n K L ad μ av) (QcI D cI cR n K L ad x) 0 0 (Ag n ad)
def Cv (l : Launch) (y : MethodName) (cy : ByteArray) (my : Nat) (ry : Option FieldType) (rm : Room) (D : va_G) (cI cR : ClassId) (n : Nat) (K L ad : Nat → Nat) (av : List Value) (f : Mem → Option Mem) : Prop :=
  ∀ (μ x : Mem), f μ = some x → Met l y (Cond.code y cy my ry :: TB) rm (PcM D cI cR n K L ad μ av) (QcV D cI cR n K L ad x) 0 0 (Ag n ad)
def isb (v : Int32) : Bool := decide (v = 0) || decide (v = 1)
def ald {X : Type} (L : Nat → Nat) (μ : Mem) (c : Nat) (i : Int32) (A : Int32 → Option X) : Option X := if inb i (L c) = true then A (μ c i.toNatClampNeg) else none
def ast {X : Type} (L : Nat → Nat) (μ : Mem) (c : Nat) (i v : Int32) (A : Mem → Option X) : Option X := if inb i (L c) = true then A (up μ c i.toNatClampNeg v) else none
def aaq {X : Type} (L : Nat → Nat) (c : Nat) (i : Int32) (A : Option X) : Option X := if inb i (L c) = true then A else none
def pu {X : Type} (μ : Mem) (c j : Nat) (v : Int32) (A : Mem → Option X) : Option X := A (up μ c j v)
def lt' {X : Type} (v : Int32) (A : Int32 → Option X) : Option X := A v
def bd {X : Type} (z : Option (Int32 × Mem)) (A : Int32 → Mem → Option X) : Option X := match z with
  | none => none
  | some q => A q.1 q.2
def bv {X : Type} (z : Option Mem) (A : Mem → Option X) : Option X := match z with
  | none => none
  | some q => A q
def nz {X : Type} (b : Int32) (A : Option X) : Option X := if b = 0 then none else A
def zr (v : Int32) (μ : Mem) : Option (Int32 × Mem) := if isb v = true then some (v, μ) else none
/-- how many rounds a loop's model may take -/
def FU : Nat := 100000
theorem isb_n {v : Int32} (h : isb v = true) : narrow .boolean (.int v) = .int v := by
  simp only [isb, Bool.or_eq_true, decide_eq_true_eq] at h
  rcases h with rfl | rfl <;> rfl
section BASE2
variable {p : Program} {l : Launch} {e : Env} {R : Room} {s : State} {m : MethodId} {args : Array Value} {below : List Frame} {meth : Method} {c : Code} {H : Heap} {locs : List Loc} {cells slots : Nat} {Q : State → Prop}
variable {cc : ByteArray} {pc : Nat} {ls : Array Slot} {rest st : List Value}
variable {D : va_G} {cI cR : ClassId} {n : Nat} {K L ad : Nat → Nat} {μ : Mem} {own C : String} {T : u_T} {ty : Nat → FieldType} {N kd idx nL o j d : Nat}
variable {X : Type} {x : X}
theorem r_geti (S : CallFix p m c cc nL s args TB own) (hG : gok D cI cR n K L ad s) (hP : wo D cI cR n K L ad μ H) (ho : isk n K o kd) (hc : cls kd C T N ty) (hf : fldI kd j N T ty) (hlk : Cond.fieldLink own idx (T j).1 (T j).2.1 (T j).2.2.1 ∈ TB) (hdg : decode cc pc = .ok (.getfield idx, 3))
    (kk : W p l e R s m args below meth c H locs cells slots Q (F0 m (pc + 3) ls (.int (μ o j) :: rest))) : W p l e R s m args below meth c H locs cells slots Q (F0 m pc ls (.ref (ad o) :: rest)) :=
  va_get S.1 S.2.1 S.2.2.2.2 hc.2.2.1 S.2.2.2.1 hG.1 hP o (cw_atO ho hc.1) hc.2.1 j hf.1 (S.2.2.2.2 _ hlk) (fun _ h => h) (hf.2.2.2.2 _ _ _) hdg kk
theorem r_getr (S : CallFix p m c cc nL s args TB own) (hG : gok D cI cR n K L ad s) (hP : wo D cI cR n K L ad μ H) (ho : isk n K o kd) (hc : cls kd C T N ty) (hf : fldR kd j d N) (hlk : Cond.fieldLink own idx (T j).1 (T j).2.1 (T j).2.2.1 ∈ TB) (hdg : decode cc pc = .ok (.getfield idx, 3))
    (kk : W p l e R s m args below meth c H locs cells slots Q (F0 m (pc + 3) ls (.ref (ad (o + d)) :: rest))) : W p l e R s m args below meth c H locs cells slots Q (F0 m pc ls (.ref (ad o) :: rest)) :=
  va_get S.1 S.2.1 S.2.2.2.2 hc.2.2.1 S.2.2.2.1 hG.1 hP o (cw_atO ho hc.1) hc.2.1 j hf.1 (S.2.2.2.2 _ hlk) (fun _ h => h) (hf.2 _ _ _) hdg kk
theorem r_puti (S : CallFix p m c cc nL s args TB own) (hG : gok D cI cR n K L ad s) (hP : wo D cI cR n K L ad μ H) (hS : va_S (Ag n ad) s.heap H locs) (ho : isk n K o kd) (hc : cls kd C T N ty) (hf : fldI kd j N T ty) (hlk : Cond.fieldLink own idx (T j).1 (T j).2.1 (T j).2.2.1 ∈ TB) {v : Int32} {A : Mem → Option X} (hm : pu μ o j v A = some x) (hdg : decode cc pc = .ok (.putfield idx, 3))
    (kk : ∀ (μ1 : Mem) (H1 : Heap) (locs1 : List Loc), A μ1 = some x → wo D cI cR n K L ad μ1 H1 → va_S (Ag n ad) s.heap H1 locs1 → W p l e R s m args below meth c H1 locs1 cells slots Q (F0 m (pc + 3) ls rest)) : W p l e R s m args below meth c H locs cells slots Q (F0 m pc ls (.int v :: .ref (ad o) :: rest)) := by
  have hl : j < (fv ad (μ o) kd o).length := (List.getElem?_eq_some_iff.mp (hf.2.2.2.2 ad (μ o) o)).1
  refine va_put (ty := .int) (v := .int v) S.1 S.2.1 S.2.2.2.2 hc.2.2.1 ty hc.2.2.2.1 hc.2.2.2.2 S.2.2.2.1 hG.1 hP (cw_D hG) hS o (cw_atO ho hc.1) hc.2.1 j hf.1 (S.2.2.2.2 _ hlk) (fun _ h => h) hf.2.1 (by rw [hc.2.2.2.1 j hf.1, hf.2.2.1]) rfl rfl hl hdg (fun H1 locs1 hP1 _ hS1 => ?_)
  rw [cw_upO ho hc.1 j v (hf.2.2.2.1 _ _ _ _)] at hP1
  exact kk _ H1 locs1 hm hP1 hS1
theorem r_iald (S : CallFix p m c cc nL s args TB own) (hG : gok D cI cR n K L ad s) (hP : wo D cI cR n K L ad μ H) (ho : isk n K o 10) {i : Int32} {A : Int32 → Option X} (hm : ald L μ o i A = some x) (hdg : decode cc pc = .ok (.iaload, 1))
    (kk : ∀ v : Int32, A v = some x → W p l e R s m args below meth c H locs cells slots Q (F0 m (pc + 1) ls (.int v :: rest))) : W p l e R s m args below meth c H locs cells slots Q (F0 m pc ls (.int i :: .ref (ad o) :: rest)) := by
  simp only [ald, ast, aaq] at hm
  by_cases hi : inb i (L o) = true
  · rw [if_pos hi] at hm
    exact va_iald S.1 S.2.1 hG.1 hP o 0 (cw_atI ho) rfl (inb_in hi) hdg (kk _ hm)
  · rw [if_neg hi] at hm
    cases hm
theorem r_iast (S : CallFix p m c cc nL s args TB own) (hG : gok D cI cR n K L ad s) (hP : wo D cI cR n K L ad μ H) (hS : va_S (Ag n ad) s.heap H locs) (ho : isk n K o 10) {i v : Int32} {A : Mem → Option X} (hm : ast L μ o i v A = some x) (hdg : decode cc pc = .ok (.iastore, 1))
    (kk : ∀ (μ1 : Mem) (H1 : Heap) (locs1 : List Loc), A μ1 = some x → wo D cI cR n K L ad μ1 H1 → va_S (Ag n ad) s.heap H1 locs1 → W p l e R s m args below meth c H1 locs1 cells slots Q (F0 m (pc + 1) ls rest)) : W p l e R s m args below meth c H locs cells slots Q (F0 m pc ls (.int v :: .int i :: .ref (ad o) :: rest)) := by
  simp only [ald, ast, aaq] at hm
  by_cases hi : inb i (L o) = true
  · rw [if_pos hi] at hm
    refine va_iast S.1 S.2.1 hG.1 hP (cw_D hG) hS o 0 (cw_atI ho) rfl (inb_in hi) hdg (fun H1 locs1 hP1 _ hS1 => ?_)
    rw [cw_upI ho] at hP1
    exact kk _ H1 locs1 hm hP1 hS1
  · rw [if_neg hi] at hm
    cases hm
theorem r_alen (S : CallFix p m c cc nL s args TB own) (hG : gok D cI cR n K L ad s) (hP : wo D cI cR n K L ad μ H) (ho : isk n K o 10) (hdg : decode cc pc = .ok (.arraylength, 1))
    (kk : W p l e R s m args below meth c H locs cells slots Q (F0 m (pc + 1) ls (.int (nI (L o)) :: rest))) : W p l e R s m args below meth c H locs cells slots Q (F0 m pc ls (.ref (ad o) :: rest)) :=
  va_alen S.1 S.2.1 hG.1 hP o 0 (cw_atI ho) rfl rfl hdg kk
theorem r_alenR (S : CallFix p m c cc nL s args TB own) (hG : gok D cI cR n K L ad s) (hP : wo D cI cR n K L ad μ H) (ho : isk n K o 11) (hdg : decode cc pc = .ok (.arraylength, 1))
    (kk : W p l e R s m args below meth c H locs cells slots Q (F0 m (pc + 1) ls (.int (nI (L o)) :: rest))) : W p l e R s m args below meth c H locs cells slots Q (F0 m pc ls (.ref (ad o) :: rest)) :=
  va_alen S.1 S.2.1 hG.1 hP o 1 (cw_atR ho) rfl rfl hdg kk
theorem r_aald (S : CallFix p m c cc nL s args TB own) (hG : gok D cI cR n K L ad s) (hP : wo D cI cR n K L ad μ H) (ho : isk n K o 11) {i : Int32} {A : Option X} (hm : aaq L o i A = some x) (hdg : decode cc pc = .ok (.aaload, 1))
    (kk : isk n K (o + 1 + 2 * i.toNatClampNeg) 3 → A = some x → W p l e R s m args below meth c H locs cells slots Q (F0 m (pc + 1) ls (.ref (ad (o + 1 + 2 * i.toNatClampNeg)) :: rest))) : W p l e R s m args below meth c H locs cells slots Q (F0 m pc ls (.int i :: .ref (ad o) :: rest)) := by
  simp only [ald, ast, aaq] at hm
  by_cases hi : inb i (L o) = true
  · rw [if_pos hi] at hm
    have hlt : i.toNatClampNeg < L o := Nat.not_le.mp fun q => inb_in hi (Or.inr q)
    exact va_aldq S.1 S.2.1 hG.1 hP o 1 (cw_atR ho) rfl (inb_in hi) hdg (kk (hG.2.2.2.2.2.2.2.2.2.2.2.2 o ho _ hlt) hm)
  · rw [if_neg hi] at hm
    cases hm
theorem r_idiv (S : CallFix p m c cc nL s args TB own) {a b : Int32} {A : Option X} (hm : nz b A = some x) (hdg : decode cc pc = .ok (.idiv, 1))
    (kk : A = some x → W p l e R s m args below meth c H locs cells slots Q (F0 m (pc + 1) ls (.int (a / b) :: rest))) : W p l e R s m args below meth c H locs cells slots Q (F0 m pc ls (.int b :: .int a :: rest)) := by
  simp only [nz] at hm
  by_cases hi : b = 0
  · rw [if_pos hi] at hm
    cases hm
  · rw [if_neg hi] at hm
    exact lv_idiv S.1 S.2.1 hdg hi (kk hm)
theorem r_irem (S : CallFix p m c cc nL s args TB own) {a b : Int32} {A : Option X} (hm : nz b A = some x) (hdg : decode cc pc = .ok (.irem, 1))
    (kk : A = some x → W p l e R s m args below meth c H locs cells slots Q (F0 m (pc + 1) ls (.int (a - a / b * b) :: rest))) : W p l e R s m args below meth c H locs cells slots Q (F0 m pc ls (.int b :: .int a :: rest)) := by
  simp only [nz] at hm
  by_cases hi : b = 0
  · rw [if_pos hi] at hm
    cases hm
  · rw [if_neg hi] at hm
    exact lv_irem S.1 S.2.1 hdg hi (kk hm)
theorem PcM.blind {av : List Value} : FrameBlind (PcM D cI cR n K L ad μ av) := fun a U g mk q => ⟨q.1, q.2.1, va_K.moved (u := U) (U := U.calling g mk a) (Vm.Alike.refl U.vm) q.2.2.1, q.2.2.2⟩
theorem good_V {X1 y : MethodName} {cy : ByteArray} {my : Nat} {ry : Option FieldType} {np : Nat} (hM : mth y cy my ry C np) (hlk : Cond.methodLink own idx y ∈ TB) : GoodIn TB (wsV own idx C y (Cond.code y cy my ry :: TB)) := by
  apply good_tb0
  intro w hw
  unfold wsV at hw
  rcases List.mem_append.mp hw with h | h
  · simp only [List.mem_cons, List.not_mem_nil, or_false] at h
    rcases h with rfl | rfl | rfl | rfl
    · exact hlk
    · exact hM.1
    · exact hM.2.1
    · exact hM.2.2.1
  · rcases List.mem_cons.mp h with rfl | h
    · exact hM.2.2.2.1
    · exact h
theorem good_S0 {y : MethodName} {cy : ByteArray} {my : Nat} {ry : Option FieldType} {np : Nat} (hM : sth y cy my ry C np) : GoodIn TB (Cond.code y cy my ry :: TB) := by
  apply good_tb0
  intro w hw
  rcases List.mem_cons.mp hw with rfl | h
  · exact hM.2.2.1
  · exact h

theorem r_vcalli {y : MethodName} {cy : ByteArray} {my : Nat} {ry : Option FieldType} {rm : Room} {As : List Value} {f : Mem → Option (Int32 × Mem)} {A : Int32 → Mem → Option X} (S : CallFix p m c cc nL s args TB own) (hG : gok D cI cR n K L ad s) (hP : wo D cI cR n K L ad μ H) (hS : va_S (Ag n ad) s.heap H locs) (hM : mth y cy my ry C As.length) (hlk : Cond.methodLink own idx y ∈ TB) (hc : cls kd C T N ty) (ho : isk n K o kd)
    (hC : Ci l y cy my ry rm D cI cR n K L ad (.ref (ad o) :: As) f) (hrm : rm.cells = 0 ∧ rm.slots = 0) (hR : rm.frames + 1 ≤ R.frames ∧ 8 + (my + 11) + rm.locals ≤ R.locals) (hm : bd (f μ) A = some x) (hls : ls.size = nL) (hst : As.reverse ++ .ref (ad o) :: rest = st) (hro : (rest.map fun v => v.category).sum ≤ 8) (hcs : cells ≤ R.cells ∧ slots ≤ R.slots) (hdg : decode cc pc = .ok (.invokevirtual idx, 3))
    (kk : ∀ (r : Int32) (μ1 : Mem) (H1 : Heap) (locs1 : List Loc), A r μ1 = some x → wo D cI cR n K L ad μ1 H1 → va_S (Ag n ad) s.heap H1 locs1 → W p l e R s m args below meth c H1 locs1 cells slots Q (F0 m (pc + 3) ls (.int r :: rest))) : W p l e R s m args below meth c H locs cells slots Q (F0 m pc ls st) := by
  subst hst
  cases hq : f μ with
  | none => rw [hq] at hm; cases hm
  | some q =>
    rw [hq] at hm
    refine va_calli (va_runV (As := As) (rest := rest) S (hC μ q hq) (cwV As.length S.2.2.2.2 (good_V (X1 := y) hM hlk) rfl hrm.1 hrm.2 hM.2.2.2.2 hR) ⟨PcM.blind, va_recv hG.1 hP hc.2.1 (cw_atO ho hc.1), fun U hU hW => ⟨rfl, by rw [hU]; exact hP, hG.moved hW.alike⟩⟩ rfl rfl hls rfl (lv_room hro) hdg hcs) hS (fun q _ h => h) (fun q h => h) (fun r u t H1 locs1 ht hvm hw hB hz1 hk1 hS1 => ?_)
    subst ht
    cases hw
    exact kk q.1 q.2 t.heap locs1 hm hB.1 hS1
theorem r_scalli {y : MethodName} {cy : ByteArray} {my : Nat} {ry : Option FieldType} {rm : Room} {As : List Value} {f : Mem → Option (Int32 × Mem)} {A : Int32 → Mem → Option X} (S : CallFix p m c cc nL s args TB own) (hG : gok D cI cR n K L ad s) (hP : wo D cI cR n K L ad μ H) (hS : va_S (Ag n ad) s.heap H locs) (hM : sth y cy my ry C As.length) (hlk : Cond.methodLink own idx y ∈ TB)
    (hC : Ci l y cy my ry rm D cI cR n K L ad As f) (hrm : rm.cells = 0 ∧ rm.slots = 0) (hR : rm.frames + 1 ≤ R.frames ∧ 8 + (my + 11) + rm.locals ≤ R.locals) (hm : bd (f μ) A = some x) (hls : ls.size = nL) (hst : As.reverse ++ rest = st) (hro : (rest.map fun v => v.category).sum ≤ 8) (hcs : cells ≤ R.cells ∧ slots ≤ R.slots) (hdg : decode cc pc = .ok (.invokestatic idx, 3))
    (kk : ∀ (r : Int32) (μ1 : Mem) (H1 : Heap) (locs1 : List Loc), A r μ1 = some x → wo D cI cR n K L ad μ1 H1 → va_S (Ag n ad) s.heap H1 locs1 → W p l e R s m args below meth c H1 locs1 cells slots Q (F0 m (pc + 3) ls (.int r :: rest))) : W p l e R s m args below meth c H locs cells slots Q (F0 m pc ls st) := by
  subst hst
  cases hq : f μ with
  | none => rw [hq] at hm; cases hm
  | some q =>
    rw [hq] at hm
    refine va_calli (va_runS (As := As) (rest := rest) S (hC μ q hq) ⟨callB_of As.length S.2.2.2.2 (good_S0 hM) rfl hrm.1 hrm.2 (by rw [hM.2.2.2.1]; exact S.2.2.2.2 _ hM.2.1) (S.2.2.2.2 _ hlk) hM.2.2.2.2 hR, S.2.2.2.2 _ hM.1⟩ ⟨PcM.blind, fun U hU hW => ⟨rfl, by rw [hU]; exact hP, hG.moved hW.alike⟩⟩ rfl rfl hls rfl (lv_room hro) hdg hcs) hS (fun q _ h => h) (fun q h => h) (fun r u t H1 locs1 ht hvm hw hB hz1 hk1 hS1 => ?_)
    subst ht
    cases hw
    exact kk q.1 q.2 t.heap locs1 hm hB.1 hS1

theorem r_vcallv {y : MethodName} {cy : ByteArray} {my : Nat} {ry : Option FieldType} {rm : Room} {As : List Value} {f : Mem → Option (Mem)} {A : Mem → Option X} (S : CallFix p m c cc nL s args TB own) (hG : gok D cI cR n K L ad s) (hP : wo D cI cR n K L ad μ H) (hS : va_S (Ag n ad) s.heap H locs) (hM : mth y cy my ry C As.length) (hlk : Cond.methodLink own idx y ∈ TB) (hc : cls kd C T N ty) (ho : isk n K o kd)
    (hC : Cv l y cy my ry rm D cI cR n K L ad (.ref (ad o) :: As) f) (hrm : rm.cells = 0 ∧ rm.slots = 0) (hR : rm.frames + 1 ≤ R.frames ∧ 8 + (my + 11) + rm.locals ≤ R.locals) (hm : bv (f μ) A = some x) (hls : ls.size = nL) (hst : As.reverse ++ .ref (ad o) :: rest = st) (hro : (rest.map fun v => v.category).sum ≤ 8) (hcs : cells ≤ R.cells ∧ slots ≤ R.slots) (hdg : decode cc pc = .ok (.invokevirtual idx, 3))
    (kk : ∀ (μ1 : Mem) (H1 : Heap) (locs1 : List Loc), A μ1 = some x → wo D cI cR n K L ad μ1 H1 → va_S (Ag n ad) s.heap H1 locs1 → W p l e R s m args below meth c H1 locs1 cells slots Q (F0 m (pc + 3) ls (rest))) : W p l e R s m args below meth c H locs cells slots Q (F0 m pc ls st) := by
  subst hst
  cases hq : f μ with
  | none => rw [hq] at hm; cases hm
  | some q =>
    rw [hq] at hm
    refine va_callv (va_runV (As := As) (rest := rest) S (hC μ q hq) (cwV As.length S.2.2.2.2 (good_V (X1 := y) hM hlk) rfl hrm.1 hrm.2 hM.2.2.2.2 hR) ⟨PcM.blind, va_recv hG.1 hP hc.2.1 (cw_atO ho hc.1), fun U hU hW => ⟨rfl, by rw [hU]; exact hP, hG.moved hW.alike⟩⟩ rfl rfl hls rfl (lv_room hro) hdg hcs) hS (fun q _ h => h) (fun q h => h) (fun u t H1 locs1 ht hvm hw hB hz1 hk1 hS1 => ?_)
    subst ht
    exact kk q t.heap locs1 hm hB.1 hS1
theorem r_scallv {y : MethodName} {cy : ByteArray} {my : Nat} {ry : Option FieldType} {rm : Room} {As : List Value} {f : Mem → Option (Mem)} {A : Mem → Option X} (S : CallFix p m c cc nL s args TB own) (hG : gok D cI cR n K L ad s) (hP : wo D cI cR n K L ad μ H) (hS : va_S (Ag n ad) s.heap H locs) (hM : sth y cy my ry C As.length) (hlk : Cond.methodLink own idx y ∈ TB)
    (hC : Cv l y cy my ry rm D cI cR n K L ad As f) (hrm : rm.cells = 0 ∧ rm.slots = 0) (hR : rm.frames + 1 ≤ R.frames ∧ 8 + (my + 11) + rm.locals ≤ R.locals) (hm : bv (f μ) A = some x) (hls : ls.size = nL) (hst : As.reverse ++ rest = st) (hro : (rest.map fun v => v.category).sum ≤ 8) (hcs : cells ≤ R.cells ∧ slots ≤ R.slots) (hdg : decode cc pc = .ok (.invokestatic idx, 3))
    (kk : ∀ (μ1 : Mem) (H1 : Heap) (locs1 : List Loc), A μ1 = some x → wo D cI cR n K L ad μ1 H1 → va_S (Ag n ad) s.heap H1 locs1 → W p l e R s m args below meth c H1 locs1 cells slots Q (F0 m (pc + 3) ls (rest))) : W p l e R s m args below meth c H locs cells slots Q (F0 m pc ls st) := by
  subst hst
  cases hq : f μ with
  | none => rw [hq] at hm; cases hm
  | some q =>
    rw [hq] at hm
    refine va_callv (va_runS (As := As) (rest := rest) S (hC μ q hq) ⟨callB_of As.length S.2.2.2.2 (good_S0 hM) rfl hrm.1 hrm.2 (by rw [hM.2.2.2.1]; exact S.2.2.2.2 _ hM.2.1) (S.2.2.2.2 _ hlk) hM.2.2.2.2 hR, S.2.2.2.2 _ hM.1⟩ ⟨PcM.blind, fun U hU hW => ⟨rfl, by rw [hU]; exact hP, hG.moved hW.alike⟩⟩ rfl rfl hls rfl (lv_room hro) hdg hcs) hS (fun q _ h => h) (fun q h => h) (fun u t H1 locs1 ht hvm hw hB hz1 hk1 hS1 => ?_)
    subst ht
    exact kk q t.heap locs1 hm hB.1 hS1

def QI (D : va_G) (cI cR : ClassId) (n : Nat) (K L ad : Nat → Nat) (below : List Frame) (args : Array Value) (s : State) (x : Int32 × Mem) : State → Prop := MQ below (QcI D cI cR n K L ad x) args s 0 0 (Ag n ad)
def QV (D : va_G) (cI cR : ClassId) (n : Nat) (K L ad : Nat → Nat) (below : List Frame) (args : Array Value) (s : State) (x : Mem) : State → Prop := MQ below (QcV D cI cR n K L ad x) args s 0 0 (Ag n ad)
theorem r_iret {x : Int32 × Mem} {v : Int32} (S : CallFix p m c cc nL s args TB own) (hr : meth.sig.returnType = some .int ∧ meth.locks = false) (hG : gok D cI cR n K L ad s) (hP : wo D cI cR n K L ad μ H) (hS : va_S (Ag n ad) s.heap H locs) (hm : some (v, μ) = some x) (hdg : decode cc pc = .ok (.ireturn, 1)) : W p l e R s m args below meth c H locs 0 0 (QI D cI cR n K L ad below args s x) (F0 m pc ls [.int v]) := by
  cases hm
  exact W.iret (v := v) (hlocks := hr.2) S.1 S.2.1 hr.1 (fun t ht hW => ⟨⟨v, (), rfl, rfl, by rw [ht]; exact hP, hG.moved hW.alike⟩, hS.F ht⟩) hS.2.2 hdg
theorem r_zretC {x : Int32 × Mem} {v : Int32} (S : CallFix p m c cc nL s args TB own) (hr : meth.sig.returnType = some .boolean ∧ meth.locks = false) (hG : gok D cI cR n K L ad s) (hP : wo D cI cR n K L ad μ H) (hS : va_S (Ag n ad) s.heap H locs) (hn : narrow .boolean (.int v) = .int v) (hm : some (v, μ) = some x) (hdg : decode cc pc = .ok (.ireturn, 1)) : W p l e R s m args below meth c H locs 0 0 (QI D cI cR n K L ad below args s x) (F0 m pc ls [.int v]) := by
  cases hm
  exact W.zret (v := v) (hlocks := hr.2) S.1 S.2.1 hr.1 hn (fun t ht hW => ⟨⟨v, (), rfl, rfl, by rw [ht]; exact hP, hG.moved hW.alike⟩, hS.F ht⟩) hS.2.2 hdg
theorem r_zret {x : Int32 × Mem} {v : Int32} (S : CallFix p m c cc nL s args TB own) (hr : meth.sig.returnType = some .boolean ∧ meth.locks = false) (hG : gok D cI cR n K L ad s) (hP : wo D cI cR n K L ad μ H) (hS : va_S (Ag n ad) s.heap H locs) (hm : zr v μ = some x) (hdg : decode cc pc = .ok (.ireturn, 1)) : W p l e R s m args below meth c H locs 0 0 (QI D cI cR n K L ad below args s x) (F0 m pc ls [.int v]) := by
  simp only [zr] at hm
  by_cases hi : isb v = true
  · rw [if_pos hi] at hm
    exact r_zretC S hr hG hP hS (isb_n hi) hm hdg
  · rw [if_neg hi] at hm
    cases hm
theorem r_vret {x : Mem} (S : CallFix p m c cc nL s args TB own) (hr : meth.sig.returnType = none ∧ meth.locks = false) (hG : gok D cI cR n K L ad s) (hP : wo D cI cR n K L ad μ H) (hS : va_S (Ag n ad) s.heap H locs) (hm : some μ = some x) (hdg : decode cc pc = .ok (.return_, 1)) : W p l e R s m args below meth c H locs 0 0 (QV D cI cR n K L ad below args s x) (F0 m pc ls []) := by
  cases hm
  exact W.vret (hlocks := hr.2) S.1 S.2.1 hr.1 (fun t ht hW => ⟨⟨(), rfl, trivial, by rw [ht]; exact hP, hG.moved hW.alike⟩, hS.F ht⟩) hS.2.2 hdg

theorem b_icmp_eq (S : CallFix p m c cc nL s args TB own) {a b : Int32} {off : Int} {tgt : Nat} {A B : Option X} (hdg : decode cc pc = .ok (.if_icmp .eq off, 3)) (ht : (pc : Int) + off = (tgt : Int)) (hm : (if a = b then A else B) = some x) (kt : A = some x → W p l e R s m args below meth c H locs cells slots Q (F0 m tgt ls rest)) (kf : B = some x → W p l e R s m args below meth c H locs cells slots Q (F0 m (pc + 3) ls rest)) : W p l e R s m args below meth c H locs cells slots Q (F0 m pc ls (.int b :: .int a :: rest)) :=
  lv_icmp_eq S.1 S.2.1 hdg ht (fun c => kt (by rw [if_pos c] at hm; exact hm)) (fun c => kf (by rw [if_neg c] at hm; exact hm))

theorem b_if_eq (S : CallFix p m c cc nL s args TB own) {a : Int32} {off : Int} {tgt : Nat} {A B : Option X} (hdg : decode cc pc = .ok (.ifCond .eq off, 3)) (ht : (pc : Int) + off = (tgt : Int)) (hm : (if a = 0 then A else B) = some x) (kt : A = some x → W p l e R s m args below meth c H locs cells slots Q (F0 m tgt ls rest)) (kf : B = some x → W p l e R s m args below meth c H locs cells slots Q (F0 m (pc + 3) ls rest)) : W p l e R s m args below meth c H locs cells slots Q (F0 m pc ls (.int a :: rest)) :=
  lv_if_eq S.1 S.2.1 hdg ht (fun c => kt (by rw [if_pos c] at hm; exact hm)) (fun c => kf (by rw [if_neg c] at hm; exact hm))

theorem b_icmp_ne (S : CallFix p m c cc nL s args TB own) {a b : Int32} {off : Int} {tgt : Nat} {A B : Option X} (hdg : decode cc pc = .ok (.if_icmp .ne off, 3)) (ht : (pc : Int) + off = (tgt : Int)) (hm : (if a = b then A else B) = some x) (kt : B = some x → W p l e R s m args below meth c H locs cells slots Q (F0 m tgt ls rest)) (kf : A = some x → W p l e R s m args below meth c H locs cells slots Q (F0 m (pc + 3) ls rest)) : W p l e R s m args below meth c H locs cells slots Q (F0 m pc ls (.int b :: .int a :: rest)) :=
  lv_icmp_ne S.1 S.2.1 hdg ht (fun c => kt (by rw [if_neg c] at hm; exact hm)) (fun c => kf (by rw [if_pos c] at hm; exact hm))

theorem b_if_ne (S : CallFix p m c cc nL s args TB own) {a : Int32} {off : Int} {tgt : Nat} {A B : Option X} (hdg : decode cc pc = .ok (.ifCond .ne off, 3)) (ht : (pc : Int) + off = (tgt : Int)) (hm : (if a = 0 then A else B) = some x) (kt : B = some x → W p l e R s m args below meth c H locs cells slots Q (F0 m tgt ls rest)) (kf : A = some x → W p l e R s m args below meth c H locs cells slots Q (F0 m (pc + 3) ls rest)) : W p l e R s m args below meth c H locs cells slots Q (F0 m pc ls (.int a :: rest)) :=
  lv_if_ne S.1 S.2.1 hdg ht (fun c => kt (by rw [if_neg c] at hm; exact hm)) (fun c => kf (by rw [if_pos c] at hm; exact hm))

theorem b_icmp_lt (S : CallFix p m c cc nL s args TB own) {a b : Int32} {off : Int} {tgt : Nat} {A B : Option X} (hdg : decode cc pc = .ok (.if_icmp .lt off, 3)) (ht : (pc : Int) + off = (tgt : Int)) (hm : (if a < b then A else B) = some x) (kt : A = some x → W p l e R s m args below meth c H locs cells slots Q (F0 m tgt ls rest)) (kf : B = some x → W p l e R s m args below meth c H locs cells slots Q (F0 m (pc + 3) ls rest)) : W p l e R s m args below meth c H locs cells slots Q (F0 m pc ls (.int b :: .int a :: rest)) :=
  lv_icmp_lt S.1 S.2.1 hdg ht (fun c => kt (by rw [if_pos c] at hm; exact hm)) (fun c => kf (by rw [if_neg c] at hm; exact hm))

theorem b_if_lt (S : CallFix p m c cc nL s args TB own) {a : Int32} {off : Int} {tgt : Nat} {A B : Option X} (hdg : decode cc pc = .ok (.ifCond .lt off, 3)) (ht : (pc : Int) + off = (tgt : Int)) (hm : (if a < 0 then A else B) = some x) (kt : A = some x → W p l e R s m args below meth c H locs cells slots Q (F0 m tgt ls rest)) (kf : B = some x → W p l e R s m args below meth c H locs cells slots Q (F0 m (pc + 3) ls rest)) : W p l e R s m args below meth c H locs cells slots Q (F0 m pc ls (.int a :: rest)) :=
  lv_if_lt S.1 S.2.1 hdg ht (fun c => kt (by rw [if_pos c] at hm; exact hm)) (fun c => kf (by rw [if_neg c] at hm; exact hm))

theorem b_icmp_ge (S : CallFix p m c cc nL s args TB own) {a b : Int32} {off : Int} {tgt : Nat} {A B : Option X} (hdg : decode cc pc = .ok (.if_icmp .ge off, 3)) (ht : (pc : Int) + off = (tgt : Int)) (hm : (if b ≤ a then A else B) = some x) (kt : A = some x → W p l e R s m args below meth c H locs cells slots Q (F0 m tgt ls rest)) (kf : B = some x → W p l e R s m args below meth c H locs cells slots Q (F0 m (pc + 3) ls rest)) : W p l e R s m args below meth c H locs cells slots Q (F0 m pc ls (.int b :: .int a :: rest)) :=
  lv_icmp_ge S.1 S.2.1 hdg ht (fun c => kt (by rw [if_pos c] at hm; exact hm)) (fun c => kf (by rw [if_neg c] at hm; exact hm))

theorem b_if_ge (S : CallFix p m c cc nL s args TB own) {a : Int32} {off : Int} {tgt : Nat} {A B : Option X} (hdg : decode cc pc = .ok (.ifCond .ge off, 3)) (ht : (pc : Int) + off = (tgt : Int)) (hm : (if 0 ≤ a then A else B) = some x) (kt : A = some x → W p l e R s m args below meth c H locs cells slots Q (F0 m tgt ls rest)) (kf : B = some x → W p l e R s m args below meth c H locs cells slots Q (F0 m (pc + 3) ls rest)) : W p l e R s m args below meth c H locs cells slots Q (F0 m pc ls (.int a :: rest)) :=
  lv_if_ge S.1 S.2.1 hdg ht (fun c => kt (by rw [if_pos c] at hm; exact hm)) (fun c => kf (by rw [if_neg c] at hm; exact hm))

theorem b_icmp_gt (S : CallFix p m c cc nL s args TB own) {a b : Int32} {off : Int} {tgt : Nat} {A B : Option X} (hdg : decode cc pc = .ok (.if_icmp .gt off, 3)) (ht : (pc : Int) + off = (tgt : Int)) (hm : (if b < a then A else B) = some x) (kt : A = some x → W p l e R s m args below meth c H locs cells slots Q (F0 m tgt ls rest)) (kf : B = some x → W p l e R s m args below meth c H locs cells slots Q (F0 m (pc + 3) ls rest)) : W p l e R s m args below meth c H locs cells slots Q (F0 m pc ls (.int b :: .int a :: rest)) :=
  lv_icmp_gt S.1 S.2.1 hdg ht (fun c => kt (by rw [if_pos c] at hm; exact hm)) (fun c => kf (by rw [if_neg c] at hm; exact hm))

theorem b_if_gt (S : CallFix p m c cc nL s args TB own) {a : Int32} {off : Int} {tgt : Nat} {A B : Option X} (hdg : decode cc pc = .ok (.ifCond .gt off, 3)) (ht : (pc : Int) + off = (tgt : Int)) (hm : (if 0 < a then A else B) = some x) (kt : A = some x → W p l e R s m args below meth c H locs cells slots Q (F0 m tgt ls rest)) (kf : B = some x → W p l e R s m args below meth c H locs cells slots Q (F0 m (pc + 3) ls rest)) : W p l e R s m args below meth c H locs cells slots Q (F0 m pc ls (.int a :: rest)) :=
  lv_if_gt S.1 S.2.1 hdg ht (fun c => kt (by rw [if_pos c] at hm; exact hm)) (fun c => kf (by rw [if_neg c] at hm; exact hm))

theorem b_icmp_le (S : CallFix p m c cc nL s args TB own) {a b : Int32} {off : Int} {tgt : Nat} {A B : Option X} (hdg : decode cc pc = .ok (.if_icmp .le off, 3)) (ht : (pc : Int) + off = (tgt : Int)) (hm : (if a ≤ b then A else B) = some x) (kt : A = some x → W p l e R s m args below meth c H locs cells slots Q (F0 m tgt ls rest)) (kf : B = some x → W p l e R s m args below meth c H locs cells slots Q (F0 m (pc + 3) ls rest)) : W p l e R s m args below meth c H locs cells slots Q (F0 m pc ls (.int b :: .int a :: rest)) :=
  lv_icmp_le S.1 S.2.1 hdg ht (fun c => kt (by rw [if_pos c] at hm; exact hm)) (fun c => kf (by rw [if_neg c] at hm; exact hm))

theorem b_if_le (S : CallFix p m c cc nL s args TB own) {a : Int32} {off : Int} {tgt : Nat} {A B : Option X} (hdg : decode cc pc = .ok (.ifCond .le off, 3)) (ht : (pc : Int) + off = (tgt : Int)) (hm : (if a ≤ 0 then A else B) = some x) (kt : A = some x → W p l e R s m args below meth c H locs cells slots Q (F0 m tgt ls rest)) (kf : B = some x → W p l e R s m args below meth c H locs cells slots Q (F0 m (pc + 3) ls rest)) : W p l e R s m args below meth c H locs cells slots Q (F0 m pc ls (.int a :: rest)) :=
  lv_if_le S.1 S.2.1 hdg ht (fun c => kt (by rw [if_pos c] at hm; exact hm)) (fun c => kf (by rw [if_neg c] at hm; exact hm))

theorem r_min (S : CallFix p m c cc nL s args TB own) (hls : ls.size = nL) (hlk : Cond.methodLink own idx Lib.Math.min.name ∈ TB ∧ Cond.static Lib.Math.min.name ∈ TB ∧ Cond.initialized "java/lang/Math" ∈ TB ∧ Cond.code Lib.Math.min.name Lib.Math.min.code 2 (some .int) ∈ TB) (hR : 1 ≤ R.frames ∧ (rest.map fun v => v.category).sum + 13 ≤ R.locals) (hcs : cells ≤ R.cells ∧ slots ≤ R.slots) {a b : Int32} (hdg : decode cc pc = .ok (.invokestatic idx, 3))
    (kk : W p l e R s m args below meth c H locs cells slots Q (F0 m (pc + 3) ls (.int (if b < a then b else a) :: rest))) : W p l e R s m args below meth c H locs cells slots Q (F0 m pc ls (.int b :: .int a :: rest)) :=
  va_mmin S.1 S.2.1 (S.2.2.1.trans hls.symm) S.2.2.2.1 (S.2.2.2.2 _ hlk.1) (S.2.2.2.2 _ hlk.2.1) (S.2.2.2.2 _ hlk.2.2.1) (S.2.2.2.2 _ hlk.2.2.2) hR.1 hR.2 hcs.1 hcs.2 hdg kk
theorem r_max (S : CallFix p m c cc nL s args TB own) (hls : ls.size = nL) (hlk : Cond.methodLink own idx Lib.Math.max.name ∈ TB ∧ Cond.static Lib.Math.max.name ∈ TB ∧ Cond.initialized "java/lang/Math" ∈ TB ∧ Cond.code Lib.Math.max.name Lib.Math.max.code 2 (some .int) ∈ TB) (hR : 1 ≤ R.frames ∧ (rest.map fun v => v.category).sum + 13 ≤ R.locals) (hcs : cells ≤ R.cells ∧ slots ≤ R.slots) {a b : Int32} (hdg : decode cc pc = .ok (.invokestatic idx, 3))
    (kk : W p l e R s m args below meth c H locs cells slots Q (F0 m (pc + 3) ls (.int (if a < b then b else a) :: rest))) : W p l e R s m args below meth c H locs cells slots Q (F0 m pc ls (.int b :: .int a :: rest)) :=
  va_mmax S.1 S.2.1 (S.2.2.1.trans hls.symm) S.2.2.2.1 (S.2.2.2.2 _ hlk.1) (S.2.2.2.2 _ hlk.2.1) (S.2.2.2.2 _ hlk.2.2.1) (S.2.2.2.2 _ hlk.2.2.2) hR.1 hR.2 hcs.1 hcs.2 hdg kk
theorem b_sw {P : Prop} {v k : Int32} {A B : Option X} (hm : (if v = k then A else B) = some x) (kt : v = k → A = some x → P) (kf : ¬ v = k → B = some x → P) : P := by
  by_cases h : v = k
  · rw [if_pos h] at hm
    exact kt h hm
  · rw [if_neg h] at hm
    exact kf h hm
theorem r_top {v : Int32} {A : Int32 → Option X} (hm : lt' v A = some x) (kk : ∀ y : Int32, A y = some x → W p l e R s m args below meth c H locs cells slots Q (F0 m pc ls (.int y :: rest))) : W p l e R s m args below meth c H locs cells slots Q (F0 m pc ls (.int v :: rest)) := kk v hm
theorem r_iinc (S : CallFix p m c cc nL s args TB own) {i k : Nat} {z : Int} {a b : Int32} {lv : List (Nat × Value)} {A : Int32 → Option X} (hm : lt' (a + b) A = some x) (hdg : decode cc pc = .ok (.iinc i z, 3)) (h : lv_has ls nL lv) (hk : lv[k]? = some (i, .int a)) (hb : Int32.ofInt z = b) (hn : i < nL)
    (kk : ∀ (v : Int32) (ls' : Array Slot), A v = some x → lv_has ls' nL ((i, Value.int v) :: lv.filter (fun q => !(q.1 == i) && !(q.1 + 1 == i && q.2.category == 2))) → W p l e R s m args below meth c H locs cells slots Q (F0 m (pc + 3) ls' rest)) : W p l e R s m args below meth c H locs cells slots Q (F0 m pc ls rest) :=
  lv_iinc S.1 S.2.1 hdg h hk (v := a + b) (by rw [hb]) hn rfl (fun ls' hl => kk _ ls' hm hl)
end BASE2
/-- a walk from a place of a method that answers an int, or nothing -/
def WI (p : Program) (l : Launch) (e : Env) (R : Room) (s : State) (m : MethodId) (args : Array Value) (below : List Frame) (meth : Method) (c : Code) (D : va_G) (cI cR : ClassId) (n : Nat) (K L ad : Nat → Nat) (nL : Nat) (x : Int32 × Mem) (μ : Mem) (pc : Nat) (lv : List (Nat × Value)) (st : List Value) : Prop :=
  ∀ (H : Heap) (locs : List Loc) (ls : Array Slot), wo D cI cR n K L ad μ H → va_S (Ag n ad) s.heap H locs → lv_has ls nL lv → W p l e R s m args below meth c H locs 0 0 (QI D cI cR n K L ad below args s x) (F0 m pc ls st)
def WV (p : Program) (l : Launch) (e : Env) (R : Room) (s : State) (m : MethodId) (args : Array Value) (below : List Frame) (meth : Method) (c : Code) (D : va_G) (cI cR : ClassId) (n : Nat) (K L ad : Nat → Nat) (nL : Nat) (x : Mem) (μ : Mem) (pc : Nat) (lv : List (Nat × Value)) (st : List Value) : Prop :=
  ∀ (H : Heap) (locs : List Loc) (ls : Array Slot), wo D cI cR n K L ad μ H → va_S (Ag n ad) s.heap H locs → lv_has ls nL lv → W p l e R s m args below meth c H locs 0 0 (QV D cI cR n K L ad below args s x) (F0 m pc ls st)

theorem Ci.ofW {l : Launch} {y : MethodName} {cy : ByteArray} {my : Nat} {ry : Option FieldType} {rm : Room} {D : va_G} {cI cR : ClassId} {n : Nat} {K L ad : Nat → Nat} {av : List Value} {f : Mem → Option (Int32 × Mem)} (hy : plainName y.cls = true) (hn : (lg_sl av).length ≤ my)
    (body : ∀ (μ : Mem) (x : Int32 × Mem), f μ = some x → ∀ (p : Program) (e : Env) (s : State) (m : MethodId) (args : Array Value) (below : List Frame) (meth : Method) (c : Code) (ls : Array Slot), CallFix p m c cy my s args TB y.cls → meth.sig.returnType = ry ∧ meth.locks = false → gok D cI cR n K L ad s → wo D cI cR n K L ad μ s.heap → va_S (Ag n ad) s.heap s.heap [] → lv_has ls my (lv_args 0 av) → W p l e rm s m args below meth c s.heap [] 0 0 (QI D cI cR n K L ad below args s x) (F0 m 0 ls [])) : Ci l y cy my ry rm D cI cR n K L ad av f := by
  intro μ x hm
  refine Met.ofW (cc := cy) (maxL := my) (ret := ry) hy rfl ?_
  intro p e s m args below meth c s₁ B hml hv
  obtain ⟨rfl, hP, hG⟩ := hv
  have hts := atoms_spec (ws := Cond.code y cy my ry :: TB) B.pre
  rw [lg_entry_eq]
  exact body μ x hm p e s m av.toArray below meth c _ ⟨B.exec, B.bytes, hml, findClass_of_methodNamed B.named, fun w hw => hts w (List.mem_cons_of_mem _ hw)⟩ ⟨B.returns, B.notSynchronized⟩ hG hP va_S.rf (lv_entry av hn)

theorem Cv.ofW {l : Launch} {y : MethodName} {cy : ByteArray} {my : Nat} {ry : Option FieldType} {rm : Room} {D : va_G} {cI cR : ClassId} {n : Nat} {K L ad : Nat → Nat} {av : List Value} {f : Mem → Option (Mem)} (hy : plainName y.cls = true) (hn : (lg_sl av).length ≤ my)
    (body : ∀ (μ x : Mem), f μ = some x → ∀ (p : Program) (e : Env) (s : State) (m : MethodId) (args : Array Value) (below : List Frame) (meth : Method) (c : Code) (ls : Array Slot), CallFix p m c cy my s args TB y.cls → meth.sig.returnType = ry ∧ meth.locks = false → gok D cI cR n K L ad s → wo D cI cR n K L ad μ s.heap → va_S (Ag n ad) s.heap s.heap [] → lv_has ls my (lv_args 0 av) → W p l e rm s m args below meth c s.heap [] 0 0 (QV D cI cR n K L ad below args s x) (F0 m 0 ls [])) : Cv l y cy my ry rm D cI cR n K L ad av f := by
  intro μ x hm
  refine Met.ofW (cc := cy) (maxL := my) (ret := ry) hy rfl ?_
  intro p e s m args below meth c s₁ B hml hv
  obtain ⟨rfl, hP, hG⟩ := hv
  have hts := atoms_spec (ws := Cond.code y cy my ry :: TB) B.pre
  rw [lg_entry_eq]
  exact body μ x hm p e s m av.toArray below meth c _ ⟨B.exec, B.bytes, hml, findClass_of_methodNamed B.named, fun w hw => hts w (List.mem_cons_of_mem _ hw)⟩ ⟨B.returns, B.notSynchronized⟩ hG hP va_S.rf (lv_entry av hn)
end
section
theorem clw {ws : List Cond} (ps : List Nat) (hp : ws = ps.filterMap (fun i => lw_tbl[i]?)) (h : ws.all goodWord = true) : ∀ w ∈ ws, w ∈ TB := by
  intro w hw
  have h1 := List.all_eq_true.mp h w hw
  rw [hp] at hw
  obtain ⟨i, -, hi⟩ := List.mem_filterMap.mp hw
  exact tb_of (List.mem_of_getElem? hi) h1
set_option maxRecDepth 100000 in
theorem iwX0 : ∀ w ∈ u_ws RX0 TX0 7, w ∈ TB := clw [140, 142, 144, 146, 148, 150, 152] (by decide +kernel) (by decide +kernel)
theorem clX0 : cls 0 RX0 TX0 7 tyX0 := ⟨by decide, rfl, iwX0, tyX0_ok, nmX0⟩
set_option maxRecDepth 100000 in
theorem iwX1 : ∀ w ∈ u_ws RX1 TX1 3, w ∈ TB := clw [187, 189, 191] (by decide +kernel) (by decide +kernel)
theorem clX1 : cls 1 RX1 TX1 3 tyX1 := ⟨by decide, rfl, iwX1, tyX1_ok, nmX1⟩
set_option maxRecDepth 100000 in
theorem iwX2 : ∀ w ∈ u_ws RX2 TX2 2, w ∈ TB := clw [120, 122] (by decide +kernel) (by decide +kernel)
theorem clX2 : cls 2 RX2 TX2 2 tyX2 := ⟨by decide, rfl, iwX2, tyX2_ok, nmX2⟩
set_option maxRecDepth 100000 in
theorem iwX3 : ∀ w ∈ u_ws RX3 TX3 1, w ∈ TB := clw [99] (by decide +kernel) (by decide +kernel)
theorem clX3 : cls 3 RX3 TX3 1 tyX3 := ⟨by decide, rfl, iwX3, tyX3_ok, nmX3⟩
set_option maxRecDepth 100000 in
theorem iwX4 : ∀ w ∈ u_ws RX4 TX4 11, w ∈ TB := clw [213, 215, 217, 219, 221, 223, 225, 227, 229, 231, 233] (by decide +kernel) (by decide +kernel)
theorem clX4 : cls 4 RX4 TX4 11 tyX4 := ⟨by decide, rfl, iwX4, tyX4_ok, nmX4⟩
set_option maxRecDepth 100000 in
theorem iwX5 : ∀ w ∈ u_ws RX5 TX5 3, w ∈ TB := clw [168, 170, 172] (by decide +kernel) (by decide +kernel)
theorem clX5 : cls 5 RX5 TX5 3 tyX5 := ⟨by decide, rfl, iwX5, tyX5_ok, nmX5⟩
set_option maxRecDepth 100000 in
theorem iwX6 : ∀ w ∈ u_ws RX6 TX6 2, w ∈ TB := clw [105, 107] (by decide +kernel) (by decide +kernel)
theorem clX6 : cls 6 RX6 TX6 2 tyX6 := ⟨by decide, rfl, iwX6, tyX6_ok, nmX6⟩
set_option maxRecDepth 100000 in
theorem iwX7 : ∀ w ∈ u_ws RX7 TX7 3, w ∈ TB := clw [247, 249, 251] (by decide +kernel) (by decide +kernel)
theorem clX7 : cls 7 RX7 TX7 3 tyX7 := ⟨by decide, rfl, iwX7, tyX7_ok, nmX7⟩
set_option maxRecDepth 100000 in
theorem iwX8 : ∀ w ∈ u_ws RX8 TX8 9, w ∈ TB := clw [447, 449, 451, 453, 455, 457, 459, 461, 463] (by decide +kernel) (by decide +kernel)
theorem clX8 : cls 8 RX8 TX8 9 tyX8 := ⟨by decide, rfl, iwX8, tyX8_ok, nmX8⟩
set_option maxRecDepth 100000 in
theorem iwX9 : ∀ w ∈ u_ws RX9 TX9 31, w ∈ TB := clw [930, 932, 934, 936, 938, 940, 942, 944, 946, 948, 950, 952, 954, 956, 958, 960, 962, 964, 966, 968, 970, 972, 974, 976, 978, 980, 982, 984, 986, 988, 990] (by decide +kernel) (by decide +kernel)
theorem clX9 : cls 9 RX9 TX9 31 tyX9 := ⟨by decide, rfl, iwX9, tyX9_ok, nmX9⟩
theorem fX0_0 : fldR 0 0 1 7 := ⟨by decide, fun _ _ _ => rfl⟩
theorem fX0_1 : fldR 0 1 3 7 := ⟨by decide, fun _ _ _ => rfl⟩
theorem fX0_2 : fldR 0 2 5 7 := ⟨by decide, fun _ _ _ => rfl⟩
theorem fX0_3 : fldR 0 3 7 7 := ⟨by decide, fun _ _ _ => rfl⟩
theorem fX0_4 : fldI 0 4 7 TX0 tyX0 := ⟨by decide, rfl, rfl, fun _ _ _ _ => rfl, fun _ _ _ => rfl⟩
theorem fX0_5 : fldI 0 5 7 TX0 tyX0 := ⟨by decide, rfl, rfl, fun _ _ _ _ => rfl, fun _ _ _ => rfl⟩
theorem fX0_6 : fldI 0 6 7 TX0 tyX0 := ⟨by decide, rfl, rfl, fun _ _ _ _ => rfl, fun _ _ _ => rfl⟩
theorem fX1_0 : fldR 1 0 1 3 := ⟨by decide, fun _ _ _ => rfl⟩
theorem fX1_1 : fldI 1 1 3 TX1 tyX1 := ⟨by decide, rfl, rfl, fun _ _ _ _ => rfl, fun _ _ _ => rfl⟩
theorem fX1_2 : fldI 1 2 3 TX1 tyX1 := ⟨by decide, rfl, rfl, fun _ _ _ _ => rfl, fun _ _ _ => rfl⟩
theorem fX2_0 : fldR 2 0 1 2 := ⟨by decide, fun _ _ _ => rfl⟩
theorem fX2_1 : fldI 2 1 2 TX2 tyX2 := ⟨by decide, rfl, rfl, fun _ _ _ _ => rfl, fun _ _ _ => rfl⟩
theorem fX3_0 : fldR 3 0 1 1 := ⟨by decide, fun _ _ _ => rfl⟩
theorem fX4_0 : fldR 4 0 1 11 := ⟨by decide, fun _ _ _ => rfl⟩
theorem fX4_1 : fldR 4 1 3 11 := ⟨by decide, fun _ _ _ => rfl⟩
theorem fX4_2 : fldI 4 2 11 TX4 tyX4 := ⟨by decide, rfl, rfl, fun _ _ _ _ => rfl, fun _ _ _ => rfl⟩
theorem fX4_3 : fldI 4 3 11 TX4 tyX4 := ⟨by decide, rfl, rfl, fun _ _ _ _ => rfl, fun _ _ _ => rfl⟩
theorem fX4_4 : fldI 4 4 11 TX4 tyX4 := ⟨by decide, rfl, rfl, fun _ _ _ _ => rfl, fun _ _ _ => rfl⟩
theorem fX4_5 : fldI 4 5 11 TX4 tyX4 := ⟨by decide, rfl, rfl, fun _ _ _ _ => rfl, fun _ _ _ => rfl⟩
theorem fX4_6 : fldI 4 6 11 TX4 tyX4 := ⟨by decide, rfl, rfl, fun _ _ _ _ => rfl, fun _ _ _ => rfl⟩
theorem fX4_7 : fldI 4 7 11 TX4 tyX4 := ⟨by decide, rfl, rfl, fun _ _ _ _ => rfl, fun _ _ _ => rfl⟩
theorem fX4_8 : fldI 4 8 11 TX4 tyX4 := ⟨by decide, rfl, rfl, fun _ _ _ _ => rfl, fun _ _ _ => rfl⟩
theorem fX4_9 : fldI 4 9 11 TX4 tyX4 := ⟨by decide, rfl, rfl, fun _ _ _ _ => rfl, fun _ _ _ => rfl⟩
theorem fX4_10 : fldI 4 10 11 TX4 tyX4 := ⟨by decide, rfl, rfl, fun _ _ _ _ => rfl, fun _ _ _ => rfl⟩
theorem fX5_0 : fldR 5 0 1 3 := ⟨by decide, fun _ _ _ => rfl⟩
theorem fX5_1 : fldR 5 1 3 3 := ⟨by decide, fun _ _ _ => rfl⟩
theorem fX5_2 : fldR 5 2 5 3 := ⟨by decide, fun _ _ _ => rfl⟩
theorem fX6_0 : fldR 6 0 1 2 := ⟨by decide, fun _ _ _ => rfl⟩
theorem fX6_1 : fldI 6 1 2 TX6 tyX6 := ⟨by decide, rfl, rfl, fun _ _ _ _ => rfl, fun _ _ _ => rfl⟩
theorem fX7_0 : fldR 7 0 1 3 := ⟨by decide, fun _ _ _ => rfl⟩
theorem fX7_1 : fldI 7 1 3 TX7 tyX7 := ⟨by decide, rfl, rfl, fun _ _ _ _ => rfl, fun _ _ _ => rfl⟩
theorem fX7_2 : fldI 7 2 3 TX7 tyX7 := ⟨by decide, rfl, rfl, fun _ _ _ _ => rfl, fun _ _ _ => rfl⟩
theorem fX8_0 : fldR 8 0 1 9 := ⟨by decide, fun _ _ _ => rfl⟩
theorem fX8_1 : fldR 8 1 4 9 := ⟨by decide, fun _ _ _ => rfl⟩
theorem fX8_2 : fldR 8 2 7 9 := ⟨by decide, fun _ _ _ => rfl⟩
theorem fX8_3 : fldR 8 3 16 9 := ⟨by decide, fun _ _ _ => rfl⟩
theorem fX8_4 : fldR 8 4 25 9 := ⟨by decide, fun _ _ _ => rfl⟩
theorem fX8_5 : fldR 8 5 27 9 := ⟨by decide, fun _ _ _ => rfl⟩
theorem fX8_6 : fldR 8 6 34 9 := ⟨by decide, fun _ _ _ => rfl⟩
theorem fX8_7 : fldR 8 7 48 9 := ⟨by decide, fun _ _ _ => rfl⟩
theorem fX8_8 : fldR 8 8 53 9 := ⟨by decide, fun _ _ _ => rfl⟩
theorem fX9_0 : fldI 9 0 31 TX9 tyX9 := ⟨by decide, rfl, rfl, fun _ _ _ _ => rfl, fun _ _ _ => rfl⟩
theorem fX9_1 : fldR 9 1 1 31 := ⟨by decide, fun _ _ _ => rfl⟩
theorem fX9_2 : fldI 9 2 31 TX9 tyX9 := ⟨by decide, rfl, rfl, fun _ _ _ _ => rfl, fun _ _ _ => rfl⟩
theorem fX9_3 : fldR 9 3 2 31 := ⟨by decide, fun _ _ _ => rfl⟩
theorem fX9_4 : fldI 9 4 31 TX9 tyX9 := ⟨by decide, rfl, rfl, fun _ _ _ _ => rfl, fun _ _ _ => rfl⟩
theorem fX9_5 : fldR 9 5 3 31 := ⟨by decide, fun _ _ _ => rfl⟩
theorem fX9_6 : fldR 9 6 4 31 := ⟨by decide, fun _ _ _ => rfl⟩
theorem fX9_7 : fldI 9 7 31 TX9 tyX9 := ⟨by decide, rfl, rfl, fun _ _ _ _ => rfl, fun _ _ _ => rfl⟩
theorem fX9_8 : fldR 9 8 5 31 := ⟨by decide, fun _ _ _ => rfl⟩
theorem fX9_9 : fldR 9 9 6 31 := ⟨by decide, fun _ _ _ => rfl⟩
theorem fX9_10 : fldR 9 10 7 31 := ⟨by decide, fun _ _ _ => rfl⟩
theorem fX9_11 : fldI 9 11 31 TX9 tyX9 := ⟨by decide, rfl, rfl, fun _ _ _ _ => rfl, fun _ _ _ => rfl⟩
theorem fX9_12 : fldR 9 12 8 31 := ⟨by decide, fun _ _ _ => rfl⟩
theorem fX9_13 : fldI 9 13 31 TX9 tyX9 := ⟨by decide, rfl, rfl, fun _ _ _ _ => rfl, fun _ _ _ => rfl⟩
theorem fX9_14 : fldR 9 14 9 31 := ⟨by decide, fun _ _ _ => rfl⟩
theorem fX9_15 : fldI 9 15 31 TX9 tyX9 := ⟨by decide, rfl, rfl, fun _ _ _ _ => rfl, fun _ _ _ => rfl⟩
theorem fX9_16 : fldR 9 16 10 31 := ⟨by decide, fun _ _ _ => rfl⟩
theorem fX9_17 : fldR 9 17 11 31 := ⟨by decide, fun _ _ _ => rfl⟩
theorem fX9_18 : fldI 9 18 31 TX9 tyX9 := ⟨by decide, rfl, rfl, fun _ _ _ _ => rfl, fun _ _ _ => rfl⟩
theorem fX9_19 : fldR 9 19 12 31 := ⟨by decide, fun _ _ _ => rfl⟩
theorem fX9_20 : fldI 9 20 31 TX9 tyX9 := ⟨by decide, rfl, rfl, fun _ _ _ _ => rfl, fun _ _ _ => rfl⟩
theorem fX9_21 : fldI 9 21 31 TX9 tyX9 := ⟨by decide, rfl, rfl, fun _ _ _ _ => rfl, fun _ _ _ => rfl⟩
theorem fX9_22 : fldR 9 22 13 31 := ⟨by decide, fun _ _ _ => rfl⟩
theorem fX9_23 : fldR 9 23 14 31 := ⟨by decide, fun _ _ _ => rfl⟩
theorem fX9_24 : fldR 9 24 15 31 := ⟨by decide, fun _ _ _ => rfl⟩
theorem fX9_25 : fldR 9 25 16 31 := ⟨by decide, fun _ _ _ => rfl⟩
theorem fX9_26 : fldI 9 26 31 TX9 tyX9 := ⟨by decide, rfl, rfl, fun _ _ _ _ => rfl, fun _ _ _ => rfl⟩
theorem fX9_27 : fldI 9 27 31 TX9 tyX9 := ⟨by decide, rfl, rfl, fun _ _ _ _ => rfl, fun _ _ _ => rfl⟩
theorem fX9_28 : fldI 9 28 31 TX9 tyX9 := ⟨by decide, rfl, rfl, fun _ _ _ _ => rfl, fun _ _ _ => rfl⟩
theorem fX9_29 : fldI 9 29 31 TX9 tyX9 := ⟨by decide, rfl, rfl, fun _ _ _ _ => rfl, fun _ _ _ => rfl⟩
theorem fX9_30 : fldI 9 30 31 TX9 tyX9 := ⟨by decide, rfl, rfl, fun _ _ _ _ => rfl, fun _ _ _ => rfl⟩
theorem chX0_0 {D : va_G} {cI cR : ClassId} {n : Nat} {K L ad : Nat → Nat} {s : State} {o : Nat} (hG : gok D cI cR n K L ad s) (ho : isk n K o 0) : isk n K (o + 1) 3 := (hG.2.2.1 o ho).1
theorem chX0_1 {D : va_G} {cI cR : ClassId} {n : Nat} {K L ad : Nat → Nat} {s : State} {o : Nat} (hG : gok D cI cR n K L ad s) (ho : isk n K o 0) : isk n K (o + 3) 3 := (hG.2.2.1 o ho).2.1
theorem chX0_2 {D : va_G} {cI cR : ClassId} {n : Nat} {K L ad : Nat → Nat} {s : State} {o : Nat} (hG : gok D cI cR n K L ad s) (ho : isk n K o 0) : isk n K (o + 5) 3 := (hG.2.2.1 o ho).2.2.1
theorem chX0_3 {D : va_G} {cI cR : ClassId} {n : Nat} {K L ad : Nat → Nat} {s : State} {o : Nat} (hG : gok D cI cR n K L ad s) (ho : isk n K o 0) : isk n K (o + 7) 3 := (hG.2.2.1 o ho).2.2.2
theorem chX1_0 {D : va_G} {cI cR : ClassId} {n : Nat} {K L ad : Nat → Nat} {s : State} {o : Nat} (hG : gok D cI cR n K L ad s) (ho : isk n K o 1) : isk n K (o + 1) 11 := hG.2.2.2.1 o ho
theorem chX2_0 {D : va_G} {cI cR : ClassId} {n : Nat} {K L ad : Nat → Nat} {s : State} {o : Nat} (hG : gok D cI cR n K L ad s) (ho : isk n K o 2) : isk n K (o + 1) 3 := hG.2.2.2.2.1 o ho
theorem chX3_0 {D : va_G} {cI cR : ClassId} {n : Nat} {K L ad : Nat → Nat} {s : State} {o : Nat} (hG : gok D cI cR n K L ad s) (ho : isk n K o 3) : isk n K (o + 1) 10 := hG.2.2.2.2.2.1 o ho
theorem chX4_0 {D : va_G} {cI cR : ClassId} {n : Nat} {K L ad : Nat → Nat} {s : State} {o : Nat} (hG : gok D cI cR n K L ad s) (ho : isk n K o 4) : isk n K (o + 1) 3 := (hG.2.2.2.2.2.2.1 o ho).1
theorem chX4_1 {D : va_G} {cI cR : ClassId} {n : Nat} {K L ad : Nat → Nat} {s : State} {o : Nat} (hG : gok D cI cR n K L ad s) (ho : isk n K o 4) : isk n K (o + 3) 3 := (hG.2.2.2.2.2.2.1 o ho).2
theorem chX5_0 {D : va_G} {cI cR : ClassId} {n : Nat} {K L ad : Nat → Nat} {s : State} {o : Nat} (hG : gok D cI cR n K L ad s) (ho : isk n K o 5) : isk n K (o + 1) 3 := (hG.2.2.2.2.2.2.2.1 o ho).1
theorem chX5_1 {D : va_G} {cI cR : ClassId} {n : Nat} {K L ad : Nat → Nat} {s : State} {o : Nat} (hG : gok D cI cR n K L ad s) (ho : isk n K o 5) : isk n K (o + 3) 3 := (hG.2.2.2.2.2.2.2.1 o ho).2.1
theorem chX5_2 {D : va_G} {cI cR : ClassId} {n : Nat} {K L ad : Nat → Nat} {s : State} {o : Nat} (hG : gok D cI cR n K L ad s) (ho : isk n K o 5) : isk n K (o + 5) 3 := (hG.2.2.2.2.2.2.2.1 o ho).2.2
theorem chX6_0 {D : va_G} {cI cR : ClassId} {n : Nat} {K L ad : Nat → Nat} {s : State} {o : Nat} (hG : gok D cI cR n K L ad s) (ho : isk n K o 6) : isk n K (o + 1) 3 := hG.2.2.2.2.2.2.2.2.1 o ho
theorem chX7_0 {D : va_G} {cI cR : ClassId} {n : Nat} {K L ad : Nat → Nat} {s : State} {o : Nat} (hG : gok D cI cR n K L ad s) (ho : isk n K o 7) : isk n K (o + 1) 3 := hG.2.2.2.2.2.2.2.2.2.1 o ho
theorem chX8_0 {D : va_G} {cI cR : ClassId} {n : Nat} {K L ad : Nat → Nat} {s : State} {o : Nat} (hG : gok D cI cR n K L ad s) (ho : isk n K o 8) : isk n K (o + 1) 6 := (hG.2.2.2.2.2.2.2.2.2.2.1 o ho).1
theorem chX8_1 {D : va_G} {cI cR : ClassId} {n : Nat} {K L ad : Nat → Nat} {s : State} {o : Nat} (hG : gok D cI cR n K L ad s) (ho : isk n K o 8) : isk n K (o + 4) 2 := (hG.2.2.2.2.2.2.2.2.2.2.1 o ho).2.1
theorem chX8_2 {D : va_G} {cI cR : ClassId} {n : Nat} {K L ad : Nat → Nat} {s : State} {o : Nat} (hG : gok D cI cR n K L ad s) (ho : isk n K o 8) : isk n K (o + 7) 0 := (hG.2.2.2.2.2.2.2.2.2.2.1 o ho).2.2.1
theorem chX8_3 {D : va_G} {cI cR : ClassId} {n : Nat} {K L ad : Nat → Nat} {s : State} {o : Nat} (hG : gok D cI cR n K L ad s) (ho : isk n K o 8) : isk n K (o + 16) 0 := (hG.2.2.2.2.2.2.2.2.2.2.1 o ho).2.2.2.1
theorem chX8_4 {D : va_G} {cI cR : ClassId} {n : Nat} {K L ad : Nat → Nat} {s : State} {o : Nat} (hG : gok D cI cR n K L ad s) (ho : isk n K o 8) : isk n K (o + 25) 3 := (hG.2.2.2.2.2.2.2.2.2.2.1 o ho).2.2.2.2.1
theorem chX8_5 {D : va_G} {cI cR : ClassId} {n : Nat} {K L ad : Nat → Nat} {s : State} {o : Nat} (hG : gok D cI cR n K L ad s) (ho : isk n K o 8) : isk n K (o + 27) 5 := (hG.2.2.2.2.2.2.2.2.2.2.1 o ho).2.2.2.2.2.1
theorem chX8_6 {D : va_G} {cI cR : ClassId} {n : Nat} {K L ad : Nat → Nat} {s : State} {o : Nat} (hG : gok D cI cR n K L ad s) (ho : isk n K o 8) : isk n K (o + 34) 1 := (hG.2.2.2.2.2.2.2.2.2.2.1 o ho).2.2.2.2.2.2.1
theorem chX8_7 {D : va_G} {cI cR : ClassId} {n : Nat} {K L ad : Nat → Nat} {s : State} {o : Nat} (hG : gok D cI cR n K L ad s) (ho : isk n K o 8) : isk n K (o + 48) 4 := (hG.2.2.2.2.2.2.2.2.2.2.1 o ho).2.2.2.2.2.2.2.1
theorem chX8_8 {D : va_G} {cI cR : ClassId} {n : Nat} {K L ad : Nat → Nat} {s : State} {o : Nat} (hG : gok D cI cR n K L ad s) (ho : isk n K o 8) : isk n K (o + 53) 7 := (hG.2.2.2.2.2.2.2.2.2.2.1 o ho).2.2.2.2.2.2.2.2
theorem chX9_1 {D : va_G} {cI cR : ClassId} {n : Nat} {K L ad : Nat → Nat} {s : State} {o : Nat} (hG : gok D cI cR n K L ad s) (ho : isk n K o 9) : isk n K (o + 1) 10 := hG.2.2.2.2.2.2.2.2.2.2.2.1 o ho 0 (by decide)
theorem chX9_3 {D : va_G} {cI cR : ClassId} {n : Nat} {K L ad : Nat → Nat} {s : State} {o : Nat} (hG : gok D cI cR n K L ad s) (ho : isk n K o 9) : isk n K (o + 2) 10 := hG.2.2.2.2.2.2.2.2.2.2.2.1 o ho 1 (by decide)
theorem chX9_5 {D : va_G} {cI cR : ClassId} {n : Nat} {K L ad : Nat → Nat} {s : State} {o : Nat} (hG : gok D cI cR n K L ad s) (ho : isk n K o 9) : isk n K (o + 3) 10 := hG.2.2.2.2.2.2.2.2.2.2.2.1 o ho 2 (by decide)
theorem chX9_6 {D : va_G} {cI cR : ClassId} {n : Nat} {K L ad : Nat → Nat} {s : State} {o : Nat} (hG : gok D cI cR n K L ad s) (ho : isk n K o 9) : isk n K (o + 4) 10 := hG.2.2.2.2.2.2.2.2.2.2.2.1 o ho 3 (by decide)
theorem chX9_8 {D : va_G} {cI cR : ClassId} {n : Nat} {K L ad : Nat → Nat} {s : State} {o : Nat} (hG : gok D cI cR n K L ad s) (ho : isk n K o 9) : isk n K (o + 5) 10 := hG.2.2.2.2.2.2.2.2.2.2.2.1 o ho 4 (by decide)
theorem chX9_9 {D : va_G} {cI cR : ClassId} {n : Nat} {K L ad : Nat → Nat} {s : State} {o : Nat} (hG : gok D cI cR n K L ad s) (ho : isk n K o 9) : isk n K (o + 6) 10 := hG.2.2.2.2.2.2.2.2.2.2.2.1 o ho 5 (by decide)
theorem chX9_10 {D : va_G} {cI cR : ClassId} {n : Nat} {K L ad : Nat → Nat} {s : State} {o : Nat} (hG : gok D cI cR n K L ad s) (ho : isk n K o 9) : isk n K (o + 7) 10 := hG.2.2.2.2.2.2.2.2.2.2.2.1 o ho 6 (by decide)
theorem chX9_12 {D : va_G} {cI cR : ClassId} {n : Nat} {K L ad : Nat → Nat} {s : State} {o : Nat} (hG : gok D cI cR n K L ad s) (ho : isk n K o 9) : isk n K (o + 8) 10 := hG.2.2.2.2.2.2.2.2.2.2.2.1 o ho 7 (by decide)
theorem chX9_14 {D : va_G} {cI cR : ClassId} {n : Nat} {K L ad : Nat → Nat} {s : State} {o : Nat} (hG : gok D cI cR n K L ad s) (ho : isk n K o 9) : isk n K (o + 9) 10 := hG.2.2.2.2.2.2.2.2.2.2.2.1 o ho 8 (by decide)
theorem chX9_16 {D : va_G} {cI cR : ClassId} {n : Nat} {K L ad : Nat → Nat} {s : State} {o : Nat} (hG : gok D cI cR n K L ad s) (ho : isk n K o 9) : isk n K (o + 10) 10 := hG.2.2.2.2.2.2.2.2.2.2.2.1 o ho 9 (by decide)
theorem chX9_17 {D : va_G} {cI cR : ClassId} {n : Nat} {K L ad : Nat → Nat} {s : State} {o : Nat} (hG : gok D cI cR n K L ad s) (ho : isk n K o 9) : isk n K (o + 11) 10 := hG.2.2.2.2.2.2.2.2.2.2.2.1 o ho 10 (by decide)
theorem chX9_19 {D : va_G} {cI cR : ClassId} {n : Nat} {K L ad : Nat → Nat} {s : State} {o : Nat} (hG : gok D cI cR n K L ad s) (ho : isk n K o 9) : isk n K (o + 12) 10 := hG.2.2.2.2.2.2.2.2.2.2.2.1 o ho 11 (by decide)
theorem chX9_22 {D : va_G} {cI cR : ClassId} {n : Nat} {K L ad : Nat → Nat} {s : State} {o : Nat} (hG : gok D cI cR n K L ad s) (ho : isk n K o 9) : isk n K (o + 13) 10 := hG.2.2.2.2.2.2.2.2.2.2.2.1 o ho 12 (by decide)
theorem chX9_23 {D : va_G} {cI cR : ClassId} {n : Nat} {K L ad : Nat → Nat} {s : State} {o : Nat} (hG : gok D cI cR n K L ad s) (ho : isk n K o 9) : isk n K (o + 14) 10 := hG.2.2.2.2.2.2.2.2.2.2.2.1 o ho 13 (by decide)
theorem chX9_24 {D : va_G} {cI cR : ClassId} {n : Nat} {K L ad : Nat → Nat} {s : State} {o : Nat} (hG : gok D cI cR n K L ad s) (ho : isk n K o 9) : isk n K (o + 15) 10 := hG.2.2.2.2.2.2.2.2.2.2.2.1 o ho 14 (by decide)
theorem chX9_25 {D : va_G} {cI cR : ClassId} {n : Nat} {K L ad : Nat → Nat} {s : State} {o : Nat} (hG : gok D cI cR n K L ad s) (ho : isk n K o 9) : isk n K (o + 16) 10 := hG.2.2.2.2.2.2.2.2.2.2.2.1 o ho 15 (by decide)
theorem mX0_clear : mth yX0_clear cX0_clear 1 none RX0 0 := ⟨tb2 18 (by decide +kernel) rfl, tb2 19 (by decide +kernel) rfl, tb1 6 (by decide +kernel) rfl, tb2 20 rfl rfl, ⟨rfl, by decide +kernel, by decide +kernel, by decide +kernel⟩⟩
theorem mX0_takeAll : mth yX0_takeAll cX0_takeAll 2 none RX0 1 := ⟨tb2 191 (by decide +kernel) rfl, tb2 192 (by decide +kernel) rfl, tb1 6 (by decide +kernel) rfl, tb2 193 rfl rfl, ⟨rfl, by decide +kernel, by decide +kernel, by decide +kernel⟩⟩
theorem mX0_tellTop : mth yX0_tellTop cX0_tellTop 2 (some .boolean) RX0 1 := ⟨tb2 62 (by decide +kernel) rfl, tb2 63 (by decide +kernel) rfl, tb1 6 (by decide +kernel) rfl, tb2 64 rfl rfl, ⟨rfl, by decide +kernel, by decide +kernel, by decide +kernel⟩⟩
theorem mX0_addName : mth yX0_addName cX0_addName 2 (some .boolean) RX0 1 := ⟨tb2 66 (by decide +kernel) rfl, tb2 67 (by decide +kernel) rfl, tb1 6 (by decide +kernel) rfl, tb2 68 rfl rfl, ⟨rfl, by decide +kernel, by decide +kernel, by decide +kernel⟩⟩
theorem mX0_tellSingle : mth yX0_tellSingle cX0_tellSingle 4 (some .boolean) RX0 3 := ⟨tb2 71 (by decide +kernel) rfl, tb2 72 (by decide +kernel) rfl, tb1 6 (by decide +kernel) rfl, tb2 73 rfl rfl, ⟨rfl, by decide +kernel, by decide +kernel, by decide +kernel⟩⟩
theorem mX0_addTable : mth yX0_addTable cX0_addTable 6 (some .boolean) RX0 3 := ⟨tb2 87 (by decide +kernel) rfl, tb2 88 (by decide +kernel) rfl, tb1 6 (by decide +kernel) rfl, tb2 89 rfl rfl, ⟨rfl, by decide +kernel, by decide +kernel, by decide +kernel⟩⟩
theorem mX0_isJoined : mth yX0_isJoined cX0_isJoined 4 (some .boolean) RX0 2 := ⟨tb2 96 (by decide +kernel) rfl, tb0 5 (by decide +kernel) rfl, tb1 6 (by decide +kernel) rfl, tb2 97 rfl rfl, ⟨rfl, by decide +kernel, by decide +kernel, by decide +kernel⟩⟩
theorem mX0_tellPair : mth yX0_tellPair cX0_tellPair 5 (some .boolean) RX0 4 := ⟨tb2 117 (by decide +kernel) rfl, tb2 118 (by decide +kernel) rfl, tb1 6 (by decide +kernel) rfl, tb2 119 rfl rfl, ⟨rfl, by decide +kernel, by decide +kernel, by decide +kernel⟩⟩
theorem mX0_keepToTop : mth yX0_keepToTop cX0_keepToTop 2 none RX0 0 := ⟨tb2 133 (by decide +kernel) rfl, tb2 134 (by decide +kernel) rfl, tb1 6 (by decide +kernel) rfl, tb2 135 rfl rfl, ⟨rfl, by decide +kernel, by decide +kernel, by decide +kernel⟩⟩
theorem mX0_names : mth yX0_names cX0_names 1 (some .int) RX0 0 := ⟨tb2 187 (by decide +kernel) rfl, tb2 188 (by decide +kernel) rfl, tb1 6 (by decide +kernel) rfl, tb2 189 rfl rfl, ⟨rfl, by decide +kernel, by decide +kernel, by decide +kernel⟩⟩
theorem mX0_tables : mth yX0_tables cX0_tables 1 (some .int) RX0 0 := ⟨tb3 130 (by decide +kernel) rfl, tb3 131 (by decide +kernel) rfl, tb1 6 (by decide +kernel) rfl, tb3 132 rfl rfl, ⟨rfl, by decide +kernel, by decide +kernel, by decide +kernel⟩⟩
theorem mX0_top : mth yX0_top cX0_top 1 (some .int) RX0 0 := ⟨tb3 157 (by decide +kernel) rfl, tb3 158 (by decide +kernel) rfl, tb1 6 (by decide +kernel) rfl, tb3 159 rfl rfl, ⟨rfl, by decide +kernel, by decide +kernel, by decide +kernel⟩⟩
theorem mX0_hasName : mth yX0_hasName cX0_hasName 2 (some .boolean) RX0 1 := ⟨tb2 91 (by decide +kernel) rfl, tb2 92 (by decide +kernel) rfl, tb1 6 (by decide +kernel) rfl, tb2 93 rfl rfl, ⟨rfl, by decide +kernel, by decide +kernel, by decide +kernel⟩⟩
theorem mX0_hasValue : mth yX0_hasValue cX0_hasValue 3 (some .boolean) RX0 2 := ⟨tb2 75 (by decide +kernel) rfl, tb2 76 (by decide +kernel) rfl, tb1 6 (by decide +kernel) rfl, tb2 77 rfl rfl, ⟨rfl, by decide +kernel, by decide +kernel, by decide +kernel⟩⟩
theorem mX0_hasTable : mth yX0_hasTable cX0_hasTable 2 (some .boolean) RX0 1 := ⟨tb2 125 (by decide +kernel) rfl, tb2 126 (by decide +kernel) rfl, tb1 6 (by decide +kernel) rfl, tb2 127 rfl rfl, ⟨rfl, by decide +kernel, by decide +kernel, by decide +kernel⟩⟩
theorem mX0_hasValueOn : mth yX0_hasValueOn cX0_hasValueOn 4 (some .boolean) RX0 3 := ⟨tb3 86 (by decide +kernel) rfl, tb3 87 (by decide +kernel) rfl, tb1 6 (by decide +kernel) rfl, tb3 88 rfl rfl, ⟨rfl, by decide +kernel, by decide +kernel, by decide +kernel⟩⟩
theorem mX0_hasPair : mth yX0_hasPair cX0_hasPair 4 (some .boolean) RX0 3 := ⟨tb2 121 (by decide +kernel) rfl, tb2 122 (by decide +kernel) rfl, tb1 6 (by decide +kernel) rfl, tb2 123 rfl rfl, ⟨rfl, by decide +kernel, by decide +kernel, by decide +kernel⟩⟩
theorem mX0_valuesOf : mth yX0_valuesOf cX0_valuesOf 2 (some .int) RX0 1 := ⟨tb2 103 (by decide +kernel) rfl, tb2 104 (by decide +kernel) rfl, tb1 6 (by decide +kernel) rfl, tb2 105 rfl rfl, ⟨rfl, by decide +kernel, by decide +kernel, by decide +kernel⟩⟩
theorem mX0_nameOn : mth yX0_nameOn cX0_nameOn 3 (some .int) RX0 2 := ⟨tb2 99 (by decide +kernel) rfl, tb2 100 (by decide +kernel) rfl, tb1 6 (by decide +kernel) rfl, tb2 101 rfl rfl, ⟨rfl, by decide +kernel, by decide +kernel, by decide +kernel⟩⟩
theorem mX0_valuesOn : mth yX0_valuesOn cX0_valuesOn 3 (some .int) RX0 2 := ⟨tb2 129 (by decide +kernel) rfl, tb2 130 (by decide +kernel) rfl, tb1 6 (by decide +kernel) rfl, tb2 131 rfl rfl, ⟨rfl, by decide +kernel, by decide +kernel, by decide +kernel⟩⟩
theorem mX0_tablesOf : mth yX0_tablesOf cX0_tablesOf 4 (some .int) RX0 1 := ⟨tb2 211 (by decide +kernel) rfl, tb2 212 (by decide +kernel) rfl, tb1 6 (by decide +kernel) rfl, tb2 213 rfl rfl, ⟨rfl, by decide +kernel, by decide +kernel, by decide +kernel⟩⟩
theorem mX0_constant : mth yX0_constant cX0_constant 1 (some .int) RX0 0 := ⟨tb2 223 (by decide +kernel) rfl, tb2 224 (by decide +kernel) rfl, tb1 6 (by decide +kernel) rfl, tb2 225 rfl rfl, ⟨rfl, by decide +kernel, by decide +kernel, by decide +kernel⟩⟩
theorem mX0_singleCost : mth yX0_singleCost cX0_singleCost 3 (some .int) RX0 2 := ⟨tb2 227 (by decide +kernel) rfl, tb2 228 (by decide +kernel) rfl, tb1 6 (by decide +kernel) rfl, tb2 229 rfl rfl, ⟨rfl, by decide +kernel, by decide +kernel, by decide +kernel⟩⟩
theorem mX0_pairCost : mth yX0_pairCost cX0_pairCost 4 (some .int) RX0 3 := ⟨tb3 29 (by decide +kernel) rfl, tb3 30 (by decide +kernel) rfl, tb1 6 (by decide +kernel) rfl, tb3 31 rfl rfl, ⟨rfl, by decide +kernel, by decide +kernel, by decide +kernel⟩⟩
theorem mX0_singleAt : sth yX0_singleAt cX0_singleAt 2 (some .int) RX0 2 := ⟨tb2 84 (by decide +kernel) rfl, tb1 6 (by decide +kernel) rfl, tb2 85 rfl rfl, ⟨rfl, by decide +kernel, by decide +kernel, by decide +kernel⟩⟩
theorem mX0_pairAt : sth yX0_pairAt cX0_pairAt 3 (some .int) RX0 3 := ⟨tb2 114 (by decide +kernel) rfl, tb1 6 (by decide +kernel) rfl, tb2 115 rfl rfl, ⟨rfl, by decide +kernel, by decide +kernel, by decide +kernel⟩⟩
theorem mX0_pairFrom : sth yX0_pairFrom cX0_pairFrom 4 (some .int) RX0 4 := ⟨tb3 22 (by decide +kernel) rfl, tb1 6 (by decide +kernel) rfl, tb3 23 rfl rfl, ⟨rfl, by decide +kernel, by decide +kernel, by decide +kernel⟩⟩
theorem mX0_acrossFrom : sth yX0_acrossFrom cX0_acrossFrom 1 (some .int) RX0 1 := ⟨tb3 19 (by decide +kernel) rfl, tb1 6 (by decide +kernel) rfl, tb3 20 rfl rfl, ⟨rfl, by decide +kernel, by decide +kernel, by decide +kernel⟩⟩
theorem mX0_leastSingle : mth yX0_leastSingle cX0_leastSingle 4 (some .int) RX0 1 := ⟨tb2 235 (by decide +kernel) rfl, tb2 236 (by decide +kernel) rfl, tb1 6 (by decide +kernel) rfl, tb2 237 rfl rfl, ⟨rfl, by decide +kernel, by decide +kernel, by decide +kernel⟩⟩
theorem mX0_leastPairOf : mth yX0_leastPairOf cX0_leastPairOf 7 (some .int) RX0 3 := ⟨tb3 15 (by decide +kernel) rfl, tb3 16 (by decide +kernel) rfl, tb1 6 (by decide +kernel) rfl, tb3 17 rfl rfl, ⟨rfl, by decide +kernel, by decide +kernel, by decide +kernel⟩⟩
theorem mX0_leastOfTable : mth yX0_leastOfTable cX0_leastOfTable 4 (some .int) RX0 1 := ⟨tb3 11 (by decide +kernel) rfl, tb3 12 (by decide +kernel) rfl, tb1 6 (by decide +kernel) rfl, tb3 13 rfl rfl, ⟨rfl, by decide +kernel, by decide +kernel, by decide +kernel⟩⟩
theorem mX0_greatestOfTable : mth yX0_greatestOfTable cX0_greatestOfTable 5 (some .int) RX0 1 := ⟨tb3 25 (by decide +kernel) rfl, tb3 26 (by decide +kernel) rfl, tb1 6 (by decide +kernel) rfl, tb3 27 rfl rfl, ⟨rfl, by decide +kernel, by decide +kernel, by decide +kernel⟩⟩
theorem mX0_isShut : mth yX0_isShut cX0_isShut 3 (some .boolean) RX0 2 := ⟨tb2 219 (by decide +kernel) rfl, tb2 220 (by decide +kernel) rfl, tb1 6 (by decide +kernel) rfl, tb2 221 rfl rfl, ⟨rfl, by decide +kernel, by decide +kernel, by decide +kernel⟩⟩
theorem mX0_shutOf : mth yX0_shutOf cX0_shutOf 4 (some .int) RX0 1 := ⟨tb2 215 (by decide +kernel) rfl, tb2 216 (by decide +kernel) rfl, tb1 6 (by decide +kernel) rfl, tb2 217 rfl rfl, ⟨rfl, by decide +kernel, by decide +kernel, by decide +kernel⟩⟩
theorem mX0_shutInAll : mth yX0_shutInAll cX0_shutInAll 3 (some .int) RX0 0 := ⟨tb4 101 (by decide +kernel) rfl, tb4 102 (by decide +kernel) rfl, tb1 6 (by decide +kernel) rfl, tb4 103 rfl rfl, ⟨rfl, by decide +kernel, by decide +kernel, by decide +kernel⟩⟩
theorem mX0_sum : mth yX0_sum cX0_sum 4 (some .int) RX0 2 := ⟨tb2 231 (by decide +kernel) rfl, tb2 232 (by decide +kernel) rfl, tb1 6 (by decide +kernel) rfl, tb2 233 rfl rfl, ⟨rfl, by decide +kernel, by decide +kernel, by decide +kernel⟩⟩
theorem mX0_costBeside : mth yX0_costBeside cX0_costBeside 9 (some .int) RX0 5 := ⟨tb3 78 (by decide +kernel) rfl, tb3 79 (by decide +kernel) rfl, tb1 6 (by decide +kernel) rfl, tb3 80 rfl rfl, ⟨rfl, by decide +kernel, by decide +kernel, by decide +kernel⟩⟩
theorem mX0_totalOf : mth yX0_totalOf cX0_totalOf 4 (some .int) RX0 1 := ⟨tb3 74 (by decide +kernel) rfl, tb3 75 (by decide +kernel) rfl, tb1 6 (by decide +kernel) rfl, tb3 76 rfl rfl, ⟨rfl, by decide +kernel, by decide +kernel, by decide +kernel⟩⟩
theorem mX0_copyTo : mth yX0_copyTo cX0_copyTo 2 none RX0 1 := ⟨tb3 51 (by decide +kernel) rfl, tb3 52 (by decide +kernel) rfl, tb1 6 (by decide +kernel) rfl, tb3 53 rfl rfl, ⟨rfl, by decide +kernel, by decide +kernel, by decide +kernel⟩⟩
theorem mX0_copyFrom : mth yX0_copyFrom cX0_copyFrom 2 none RX0 1 := ⟨tb3 213 (by decide +kernel) rfl, tb3 214 (by decide +kernel) rfl, tb1 6 (by decide +kernel) rfl, tb3 215 rfl rfl, ⟨rfl, by decide +kernel, by decide +kernel, by decide +kernel⟩⟩
theorem mX0_areAs : mth yX0_areAs cX0_areAs 2 (some .boolean) RX0 1 := ⟨tb3 193 (by decide +kernel) rfl, tb3 194 (by decide +kernel) rfl, tb1 6 (by decide +kernel) rfl, tb3 195 rfl rfl, ⟨rfl, by decide +kernel, by decide +kernel, by decide +kernel⟩⟩
theorem mX0_setSingle : mth yX0_setSingle cX0_setSingle 4 none RX0 3 := ⟨tb2 81 (by decide +kernel) rfl, tb0 4 (by decide +kernel) rfl, tb1 6 (by decide +kernel) rfl, tb2 82 rfl rfl, ⟨rfl, by decide +kernel, by decide +kernel, by decide +kernel⟩⟩
theorem mX0_setPair : mth yX0_setPair cX0_setPair 5 none RX0 4 := ⟨tb2 111 (by decide +kernel) rfl, tb0 6 (by decide +kernel) rfl, tb1 6 (by decide +kernel) rfl, tb2 112 rfl rfl, ⟨rfl, by decide +kernel, by decide +kernel, by decide +kernel⟩⟩
theorem mX0_lessen : mth yX0_lessen cX0_lessen 4 none RX0 2 := ⟨tb3 96 (by decide +kernel) rfl, tb0 8 (by decide +kernel) rfl, tb1 6 (by decide +kernel) rfl, tb3 97 rfl rfl, ⟨rfl, by decide +kernel, by decide +kernel, by decide +kernel⟩⟩
theorem mX0_enlarge : mth yX0_enlarge cX0_enlarge 3 none RX0 2 := ⟨tb3 61 (by decide +kernel) rfl, tb0 7 (by decide +kernel) rfl, tb1 6 (by decide +kernel) rfl, tb3 62 rfl rfl, ⟨rfl, by decide +kernel, by decide +kernel, by decide +kernel⟩⟩
theorem mX0_growSingle : mth yX0_growSingle cX0_growSingle 4 none RX0 3 := ⟨tb3 56 (by decide +kernel) rfl, tb3 57 (by decide +kernel) rfl, tb1 6 (by decide +kernel) rfl, tb3 58 rfl rfl, ⟨rfl, by decide +kernel, by decide +kernel, by decide +kernel⟩⟩
theorem mX0_moveToValue : mth yX0_moveToValue cX0_moveToValue 7 none RX0 4 := ⟨tb3 91 (by decide +kernel) rfl, tb3 92 (by decide +kernel) rfl, tb1 6 (by decide +kernel) rfl, tb3 93 rfl rfl, ⟨rfl, by decide +kernel, by decide +kernel, by decide +kernel⟩⟩
theorem mX0_moveToTable : mth yX0_moveToTable cX0_moveToTable 7 none RX0 4 := ⟨tb3 103 (by decide +kernel) rfl, tb3 104 (by decide +kernel) rfl, tb1 6 (by decide +kernel) rfl, tb3 105 rfl rfl, ⟨rfl, by decide +kernel, by decide +kernel, by decide +kernel⟩⟩
theorem mX0_moveToConstant : mth yX0_moveToConstant cX0_moveToConstant 4 none RX0 2 := ⟨tb3 111 (by decide +kernel) rfl, tb3 112 (by decide +kernel) rfl, tb1 6 (by decide +kernel) rfl, tb3 113 rfl rfl, ⟨rfl, by decide +kernel, by decide +kernel, by decide +kernel⟩⟩
theorem mX0_topShutSingles : mth yX0_topShutSingles cX0_topShutSingles 3 none RX0 1 := ⟨tb3 179 (by decide +kernel) rfl, tb3 180 (by decide +kernel) rfl, tb1 6 (by decide +kernel) rfl, tb3 181 rfl rfl, ⟨rfl, by decide +kernel, by decide +kernel, by decide +kernel⟩⟩
theorem mX0_topPairsOfTopSingles : mth yX0_topPairsOfTopSingles cX0_topPairsOfTopSingles 6 none RX0 1 := ⟨tb3 134 (by decide +kernel) rfl, tb3 135 (by decide +kernel) rfl, tb1 6 (by decide +kernel) rfl, tb3 136 rfl rfl, ⟨rfl, by decide +kernel, by decide +kernel, by decide +kernel⟩⟩
theorem mX1_size : mth yX1_size cX1_size 1 (some .int) RX1 0 := ⟨tb3 217 (by decide +kernel) rfl, tb3 218 (by decide +kernel) rfl, tb1 8 (by decide +kernel) rfl, tb3 219 rfl rfl, ⟨rfl, by decide +kernel, by decide +kernel, by decide +kernel⟩⟩
theorem mX1_clear : mth yX1_clear cX1_clear 1 none RX1 0 := ⟨tb2 201 (by decide +kernel) rfl, tb2 202 (by decide +kernel) rfl, tb1 8 (by decide +kernel) rfl, tb2 203 rfl rfl, ⟨rfl, by decide +kernel, by decide +kernel, by decide +kernel⟩⟩
theorem mX1_keep : mth yX1_keep cX1_keep 2 none RX1 1 := ⟨tb3 47 (by decide +kernel) rfl, tb3 48 (by decide +kernel) rfl, tb1 8 (by decide +kernel) rfl, tb3 49 rfl rfl, ⟨rfl, by decide +kernel, by decide +kernel, by decide +kernel⟩⟩
theorem mX1_giveBack : mth yX1_giveBack cX1_giveBack 3 (some .boolean) RX1 1 := ⟨tb3 209 (by decide +kernel) rfl, tb3 210 (by decide +kernel) rfl, tb1 8 (by decide +kernel) rfl, tb3 211 rfl rfl, ⟨rfl, by decide +kernel, by decide +kernel, by decide +kernel⟩⟩
theorem mX2_readAll : mth yX2_readAll cX2_readAll 5 (some .int) RX2 2 := ⟨tb2 14 (by decide +kernel) rfl, tb2 15 (by decide +kernel) rfl, tb1 5 (by decide +kernel) rfl, tb2 16 rfl rfl, ⟨rfl, by decide +kernel, by decide +kernel, by decide +kernel⟩⟩
theorem mX2_readItem : mth yX2_readItem cX2_readItem 5 (some .boolean) RX2 2 := ⟨tb2 31 (by decide +kernel) rfl, tb0 0 (by decide +kernel) rfl, tb1 5 (by decide +kernel) rfl, tb2 32 rfl rfl, ⟨rfl, by decide +kernel, by decide +kernel, by decide +kernel⟩⟩
theorem mX2_numbersOf : sth yX2_numbersOf cX2_numbersOf 1 (some .int) RX2 1 := ⟨tb2 42 (by decide +kernel) rfl, tb1 5 (by decide +kernel) rfl, tb2 43 rfl rfl, ⟨rfl, by decide +kernel, by decide +kernel, by decide +kernel⟩⟩
theorem mX2_readNumbers : mth yX2_readNumbers cX2_readNumbers 5 (some .boolean) RX2 2 := ⟨tb2 46 (by decide +kernel) rfl, tb0 1 (by decide +kernel) rfl, tb1 5 (by decide +kernel) rfl, tb2 47 rfl rfl, ⟨rfl, by decide +kernel, by decide +kernel, by decide +kernel⟩⟩
theorem mX2_readNumber : mth yX2_readNumber cX2_readNumber 4 (some .boolean) RX2 2 := ⟨tb2 50 (by decide +kernel) rfl, tb0 2 (by decide +kernel) rfl, tb1 5 (by decide +kernel) rfl, tb2 51 rfl rfl, ⟨rfl, by decide +kernel, by decide +kernel, by decide +kernel⟩⟩
theorem mX2_isFigure : sth yX2_isFigure cX2_isFigure 1 (some .boolean) RX2 1 := ⟨tb2 53 (by decide +kernel) rfl, tb1 5 (by decide +kernel) rfl, tb2 54 rfl rfl, ⟨rfl, by decide +kernel, by decide +kernel, by decide +kernel⟩⟩
theorem mX2_tell : mth yX2_tell cX2_tell 6 (some .boolean) RX2 2 := ⟨tb2 58 (by decide +kernel) rfl, tb0 3 (by decide +kernel) rfl, tb1 5 (by decide +kernel) rfl, tb2 59 rfl rfl, ⟨rfl, by decide +kernel, by decide +kernel, by decide +kernel⟩⟩
theorem mX3_get : mth yX3_get cX3_get 2 (some .int) RX3 1 := ⟨tb2 38 (by decide +kernel) rfl, tb2 39 (by decide +kernel) rfl, tb1 3 (by decide +kernel) rfl, tb2 40 rfl rfl, ⟨rfl, by decide +kernel, by decide +kernel, by decide +kernel⟩⟩
theorem mX3_set : mth yX3_set cX3_set 3 none RX3 2 := ⟨tb2 10 (by decide +kernel) rfl, tb2 11 (by decide +kernel) rfl, tb1 3 (by decide +kernel) rfl, tb2 12 rfl rfl, ⟨rfl, by decide +kernel, by decide +kernel, by decide +kernel⟩⟩
theorem mX3_clear : mth yX3_clear cX3_clear 2 none RX3 0 := ⟨tb2 22 (by decide +kernel) rfl, tb2 23 (by decide +kernel) rfl, tb1 3 (by decide +kernel) rfl, tb2 24 rfl rfl, ⟨rfl, by decide +kernel, by decide +kernel, by decide +kernel⟩⟩
theorem mX3_takeFrom : mth yX3_takeFrom cX3_takeFrom 3 none RX3 1 := ⟨tb2 195 (by decide +kernel) rfl, tb2 196 (by decide +kernel) rfl, tb1 3 (by decide +kernel) rfl, tb2 197 rfl rfl, ⟨rfl, by decide +kernel, by decide +kernel, by decide +kernel⟩⟩
theorem mX3_isLike : mth yX3_isLike cX3_isLike 3 (some .boolean) RX3 1 := ⟨tb3 197 (by decide +kernel) rfl, tb3 198 (by decide +kernel) rfl, tb1 3 (by decide +kernel) rfl, tb3 199 rfl rfl, ⟨rfl, by decide +kernel, by decide +kernel, by decide +kernel⟩⟩
theorem mX4_goThrough : mth yX4_goThrough cX4_goThrough 5 none RX4 4 := ⟨tb3 225 (by decide +kernel) rfl, tb3 226 (by decide +kernel) rfl, tb1 9 (by decide +kernel) rfl, tb3 227 rfl rfl, ⟨rfl, by decide +kernel, by decide +kernel, by decide +kernel⟩⟩
theorem mX4_goOn : mth yX4_goOn cX4_goOn 5 none RX4 3 := ⟨tb3 232 (by decide +kernel) rfl, tb0 12 (by decide +kernel) rfl, tb1 9 (by decide +kernel) rfl, tb3 233 rfl rfl, ⟨rfl, by decide +kernel, by decide +kernel, by decide +kernel⟩⟩
theorem mX4_take : mth yX4_take cX4_take 5 none RX4 4 := ⟨tb4 9 (by decide +kernel) rfl, tb0 15 (by decide +kernel) rfl, tb1 9 (by decide +kernel) rfl, tb4 10 rfl rfl, ⟨rfl, by decide +kernel, by decide +kernel, by decide +kernel⟩⟩
theorem mX4_note : mth yX4_note cX4_note 4 none RX4 2 := ⟨tb3 237 (by decide +kernel) rfl, tb0 13 (by decide +kernel) rfl, tb1 9 (by decide +kernel) rfl, tb3 238 rfl rfl, ⟨rfl, by decide +kernel, by decide +kernel, by decide +kernel⟩⟩
theorem mX4_chosenBits : mth yX4_chosenBits cX4_chosenBits 4 (some .int) RX4 1 := ⟨tb4 1 (by decide +kernel) rfl, tb0 14 (by decide +kernel) rfl, tb1 9 (by decide +kernel) rfl, tb4 2 rfl rfl, ⟨rfl, by decide +kernel, by decide +kernel, by decide +kernel⟩⟩
theorem mX4_hasFound : mth yX4_hasFound cX4_hasFound 1 (some .boolean) RX4 0 := ⟨tb4 15 (by decide +kernel) rfl, tb4 16 (by decide +kernel) rfl, tb1 9 (by decide +kernel) rfl, tb4 17 rfl rfl, ⟨rfl, by decide +kernel, by decide +kernel, by decide +kernel⟩⟩
theorem mX4_hasSecond : mth yX4_hasSecond cX4_hasSecond 1 (some .boolean) RX4 0 := ⟨tb4 39 (by decide +kernel) rfl, tb4 40 (by decide +kernel) rfl, tb1 9 (by decide +kernel) rfl, tb4 41 rfl rfl, ⟨rfl, by decide +kernel, by decide +kernel, by decide +kernel⟩⟩
theorem mX4_leastTotal : mth yX4_leastTotal cX4_leastTotal 1 (some .int) RX4 0 := ⟨tb4 19 (by decide +kernel) rfl, tb4 20 (by decide +kernel) rfl, tb1 9 (by decide +kernel) rfl, tb4 21 rfl rfl, ⟨rfl, by decide +kernel, by decide +kernel, by decide +kernel⟩⟩
theorem mX4_waysOfLeast : mth yX4_waysOfLeast cX4_waysOfLeast 1 (some .int) RX4 0 := ⟨tb4 23 (by decide +kernel) rfl, tb4 24 (by decide +kernel) rfl, tb1 9 (by decide +kernel) rfl, tb4 25 rfl rfl, ⟨rfl, by decide +kernel, by decide +kernel, by decide +kernel⟩⟩
theorem mX4_secondTotal : mth yX4_secondTotal cX4_secondTotal 1 (some .int) RX4 0 := ⟨tb4 43 (by decide +kernel) rfl, tb4 44 (by decide +kernel) rfl, tb1 9 (by decide +kernel) rfl, tb4 45 rfl rfl, ⟨rfl, by decide +kernel, by decide +kernel, by decide +kernel⟩⟩
theorem mX4_choicesBelowTop : mth yX4_choicesBelowTop cX4_choicesBelowTop 1 (some .int) RX4 0 := ⟨tb4 35 (by decide +kernel) rfl, tb4 36 (by decide +kernel) rfl, tb1 9 (by decide +kernel) rfl, tb4 37 rfl rfl, ⟨rfl, by decide +kernel, by decide +kernel, by decide +kernel⟩⟩
theorem mX4_commonValues : mth yX4_commonValues cX4_commonValues 1 (some .int) RX4 0 := ⟨tb4 51 (by decide +kernel) rfl, tb4 52 (by decide +kernel) rfl, tb1 9 (by decide +kernel) rfl, tb4 53 rfl rfl, ⟨rfl, by decide +kernel, by decide +kernel, by decide +kernel⟩⟩
theorem mX4_firstValueOf : mth yX4_firstValueOf cX4_firstValueOf 2 (some .int) RX4 1 := ⟨tb4 27 (by decide +kernel) rfl, tb4 28 (by decide +kernel) rfl, tb1 9 (by decide +kernel) rfl, tb4 29 rfl rfl, ⟨rfl, by decide +kernel, by decide +kernel, by decide +kernel⟩⟩
theorem mX5_doTillSettled : mth yX5_doTillSettled cX5_doTillSettled 4 (some .int) RX5 2 := ⟨tb3 187 (by decide +kernel) rfl, tb3 188 (by decide +kernel) rfl, tb1 7 (by decide +kernel) rfl, tb3 189 rfl rfl, ⟨rfl, by decide +kernel, by decide +kernel, by decide +kernel⟩⟩
theorem mX5_doOne : mth yX5_doOne cX5_doOne 3 none RX5 2 := ⟨tb3 123 (by decide +kernel) rfl, tb3 124 (by decide +kernel) rfl, tb1 7 (by decide +kernel) rfl, tb3 125 rfl rfl, ⟨rfl, by decide +kernel, by decide +kernel, by decide +kernel⟩⟩
theorem mX5_doNodes : sth yX5_doNodes cX5_doNodes 3 none RX5 1 := ⟨tb3 174 (by decide +kernel) rfl, tb1 7 (by decide +kernel) rfl, tb3 175 rfl rfl, ⟨rfl, by decide +kernel, by decide +kernel, by decide +kernel⟩⟩
theorem mX5_doArcs : sth yX5_doArcs cX5_doArcs 2 none RX5 1 := ⟨tb3 127 (by decide +kernel) rfl, tb1 7 (by decide +kernel) rfl, tb3 128 rfl rfl, ⟨rfl, by decide +kernel, by decide +kernel, by decide +kernel⟩⟩
theorem mX5_projectLeasts : sth yX5_projectLeasts cX5_projectLeasts 5 none RX5 3 := ⟨tb3 138 (by decide +kernel) rfl, tb1 7 (by decide +kernel) rfl, tb3 139 rfl rfl, ⟨rfl, by decide +kernel, by decide +kernel, by decide +kernel⟩⟩
theorem mX5_doDirected : mth yX5_doDirected cX5_doDirected 4 none RX5 1 := ⟨tb3 145 (by decide +kernel) rfl, tb0 9 (by decide +kernel) rfl, tb1 7 (by decide +kernel) rfl, tb3 146 rfl rfl, ⟨rfl, by decide +kernel, by decide +kernel, by decide +kernel⟩⟩
theorem mX5_direct : mth yX5_direct cX5_direct 6 none RX5 2 := ⟨tb3 151 (by decide +kernel) rfl, tb0 10 (by decide +kernel) rfl, tb1 7 (by decide +kernel) rfl, tb3 152 rfl rfl, ⟨rfl, by decide +kernel, by decide +kernel, by decide +kernel⟩⟩
theorem mX5_reachOf : sth yX5_reachOf cX5_reachOf 6 (some .int) RX5 3 := ⟨tb3 154 (by decide +kernel) rfl, tb1 7 (by decide +kernel) rfl, tb3 155 rfl rfl, ⟨rfl, by decide +kernel, by decide +kernel, by decide +kernel⟩⟩
theorem mX5_needOf : mth yX5_needOf cX5_needOf 6 (some .int) RX5 3 := ⟨tb3 168 (by decide +kernel) rfl, tb0 11 (by decide +kernel) rfl, tb1 7 (by decide +kernel) rfl, tb3 169 rfl rfl, ⟨rfl, by decide +kernel, by decide +kernel, by decide +kernel⟩⟩
theorem mX6_length : mth yX6_length cX6_length 1 (some .int) RX6 0 := ⟨tb2 26 (by decide +kernel) rfl, tb2 27 (by decide +kernel) rfl, tb1 2 (by decide +kernel) rfl, tb2 28 rfl rfl, ⟨rfl, by decide +kernel, by decide +kernel, by decide +kernel⟩⟩
theorem mX6_clear : mth yX6_clear cX6_clear 1 none RX6 0 := ⟨tb2 137 (by decide +kernel) rfl, tb2 138 (by decide +kernel) rfl, tb1 2 (by decide +kernel) rfl, tb2 139 rfl rfl, ⟨rfl, by decide +kernel, by decide +kernel, by decide +kernel⟩⟩
theorem mX6_add : mth yX6_add cX6_add 2 (some .boolean) RX6 1 := ⟨tb2 6 (by decide +kernel) rfl, tb2 7 (by decide +kernel) rfl, tb1 2 (by decide +kernel) rfl, tb2 8 rfl rfl, ⟨rfl, by decide +kernel, by decide +kernel, by decide +kernel⟩⟩
theorem mX6_letterAt : mth yX6_letterAt cX6_letterAt 2 (some .int) RX6 1 := ⟨tb2 34 (by decide +kernel) rfl, tb2 35 (by decide +kernel) rfl, tb1 2 (by decide +kernel) rfl, tb2 36 rfl rfl, ⟨rfl, by decide +kernel, by decide +kernel, by decide +kernel⟩⟩
theorem mX7_countTries : mth yX7_countTries cX7_countTries 2 (some .int) RX7 1 := ⟨tb4 67 (by decide +kernel) rfl, tb4 68 (by decide +kernel) rfl, tb1 10 (by decide +kernel) rfl, tb4 69 rfl rfl, ⟨rfl, by decide +kernel, by decide +kernel, by decide +kernel⟩⟩
theorem mX7_goOn : mth yX7_goOn cX7_goOn 5 none RX7 3 := ⟨tb4 74 (by decide +kernel) rfl, tb0 16 (by decide +kernel) rfl, tb1 10 (by decide +kernel) rfl, tb4 75 rfl rfl, ⟨rfl, by decide +kernel, by decide +kernel, by decide +kernel⟩⟩
theorem mX7_tryValue : mth yX7_tryValue cX7_tryValue 7 none RX7 4 := ⟨tb4 80 (by decide +kernel) rfl, tb0 17 (by decide +kernel) rfl, tb1 10 (by decide +kernel) rfl, tb4 81 rfl rfl, ⟨rfl, by decide +kernel, by decide +kernel, by decide +kernel⟩⟩
theorem mX7_lowOf : mth yX7_lowOf cX7_lowOf 6 (some .int) RX7 3 := ⟨tb4 87 (by decide +kernel) rfl, tb0 18 (by decide +kernel) rfl, tb1 10 (by decide +kernel) rfl, tb4 88 rfl rfl, ⟨rfl, by decide +kernel, by decide +kernel, by decide +kernel⟩⟩
theorem mX7_leastBeside : mth yX7_leastBeside cX7_leastBeside 6 (some .int) RX7 3 := ⟨tb4 91 (by decide +kernel) rfl, tb0 19 (by decide +kernel) rfl, tb1 10 (by decide +kernel) rfl, tb4 92 rfl rfl, ⟨rfl, by decide +kernel, by decide +kernel, by decide +kernel⟩⟩
theorem mX8_write : mth yX8_write cX8_write 2 (some .int) RX8 1 := ⟨tb2 170 (by decide +kernel) rfl, tb2 171 (by decide +kernel) rfl, tb1 1 (by decide +kernel) rfl, tb2 172 rfl rfl, ⟨rfl, by decide +kernel, by decide +kernel, by decide +kernel⟩⟩
theorem mX8_wipe : mth yX8_wipe cX8_wipe 2 (some .int) RX8 0 := ⟨tb2 175 (by decide +kernel) rfl, tb2 176 (by decide +kernel) rfl, tb1 1 (by decide +kernel) rfl, tb2 177 rfl rfl, ⟨rfl, by decide +kernel, by decide +kernel, by decide +kernel⟩⟩
theorem mX8_fault : mth yX8_fault cX8_fault 1 (some .int) RX8 0 := ⟨tb2 179 (by decide +kernel) rfl, tb2 180 (by decide +kernel) rfl, tb1 1 (by decide +kernel) rfl, tb2 181 rfl rfl, ⟨rfl, by decide +kernel, by decide +kernel, by decide +kernel⟩⟩
theorem mX8_lay : mth yX8_lay cX8_lay 1 (some .int) RX8 0 := ⟨tb2 183 (by decide +kernel) rfl, tb2 184 (by decide +kernel) rfl, tb1 1 (by decide +kernel) rfl, tb2 185 rfl rfl, ⟨rfl, by decide +kernel, by decide +kernel, by decide +kernel⟩⟩
theorem mX8_name : mth yX8_name cX8_name 3 (some .int) RX8 2 := ⟨tb2 205 (by decide +kernel) rfl, tb2 206 (by decide +kernel) rfl, tb1 1 (by decide +kernel) rfl, tb2 207 rfl rfl, ⟨rfl, by decide +kernel, by decide +kernel, by decide +kernel⟩⟩
theorem mX8_single : mth yX8_single cX8_single 3 (some .int) RX8 2 := ⟨tb2 239 (by decide +kernel) rfl, tb3 0 (by decide +kernel) rfl, tb1 1 (by decide +kernel) rfl, tb3 1 rfl rfl, ⟨rfl, by decide +kernel, by decide +kernel, by decide +kernel⟩⟩
theorem mX8_table : mth yX8_table cX8_table 3 (some .int) RX8 2 := ⟨tb3 5 (by decide +kernel) rfl, tb3 6 (by decide +kernel) rfl, tb1 1 (by decide +kernel) rfl, tb3 7 rfl rfl, ⟨rfl, by decide +kernel, by decide +kernel, by decide +kernel⟩⟩
theorem mX8_pair : mth yX8_pair cX8_pair 4 (some .int) RX8 3 := ⟨tb3 34 (by decide +kernel) rfl, tb3 35 (by decide +kernel) rfl, tb1 1 (by decide +kernel) rfl, tb3 36 rfl rfl, ⟨rfl, by decide +kernel, by decide +kernel, by decide +kernel⟩⟩
theorem mX8_grow : mth yX8_grow cX8_grow 4 (some .int) RX8 3 := ⟨tb3 40 (by decide +kernel) rfl, tb3 41 (by decide +kernel) rfl, tb1 1 (by decide +kernel) rfl, tb3 42 rfl rfl, ⟨rfl, by decide +kernel, by decide +kernel, by decide +kernel⟩⟩
theorem mX8_choose : mth yX8_choose cX8_choose 4 (some .int) RX8 2 := ⟨tb3 64 (by decide +kernel) rfl, tb3 65 (by decide +kernel) rfl, tb1 1 (by decide +kernel) rfl, tb3 66 rfl rfl, ⟨rfl, by decide +kernel, by decide +kernel, by decide +kernel⟩⟩
theorem mX8_total : mth yX8_total cX8_total 1 (some .int) RX8 0 := ⟨tb3 70 (by decide +kernel) rfl, tb3 71 (by decide +kernel) rfl, tb1 1 (by decide +kernel) rfl, tb3 72 rfl rfl, ⟨rfl, by decide +kernel, by decide +kernel, by decide +kernel⟩⟩
theorem mX8_project : mth yX8_project cX8_project 5 (some .int) RX8 4 := ⟨tb3 82 (by decide +kernel) rfl, tb3 83 (by decide +kernel) rfl, tb1 1 (by decide +kernel) rfl, tb3 84 rfl rfl, ⟨rfl, by decide +kernel, by decide +kernel, by decide +kernel⟩⟩
theorem mX8_extend : mth yX8_extend cX8_extend 6 (some .int) RX8 4 := ⟨tb3 99 (by decide +kernel) rfl, tb3 100 (by decide +kernel) rfl, tb1 1 (by decide +kernel) rfl, tb3 101 rfl rfl, ⟨rfl, by decide +kernel, by decide +kernel, by decide +kernel⟩⟩
theorem mX8_raise : mth yX8_raise cX8_raise 3 (some .int) RX8 2 := ⟨tb3 107 (by decide +kernel) rfl, tb3 108 (by decide +kernel) rfl, tb1 1 (by decide +kernel) rfl, tb3 109 rfl rfl, ⟨rfl, by decide +kernel, by decide +kernel, by decide +kernel⟩⟩
theorem mX8_sweep : mth yX8_sweep cX8_sweep 4 (some .int) RX8 2 := ⟨tb3 116 (by decide +kernel) rfl, tb3 117 (by decide +kernel) rfl, tb1 1 (by decide +kernel) rfl, tb3 118 rfl rfl, ⟨rfl, by decide +kernel, by decide +kernel, by decide +kernel⟩⟩
theorem mX8_settle : mth yX8_settle cX8_settle 2 (some .int) RX8 1 := ⟨tb3 183 (by decide +kernel) rfl, tb3 184 (by decide +kernel) rfl, tb1 1 (by decide +kernel) rfl, tb3 185 rfl rfl, ⟨rfl, by decide +kernel, by decide +kernel, by decide +kernel⟩⟩
theorem mX8_bound : mth yX8_bound cX8_bound 2 (some .int) RX8 1 := ⟨tb3 201 (by decide +kernel) rfl, tb3 202 (by decide +kernel) rfl, tb1 1 (by decide +kernel) rfl, tb3 203 rfl rfl, ⟨rfl, by decide +kernel, by decide +kernel, by decide +kernel⟩⟩
theorem mX8_undo : mth yX8_undo cX8_undo 1 (some .int) RX8 0 := ⟨tb3 205 (by decide +kernel) rfl, tb3 206 (by decide +kernel) rfl, tb1 1 (by decide +kernel) rfl, tb3 207 rfl rfl, ⟨rfl, by decide +kernel, by decide +kernel, by decide +kernel⟩⟩
theorem mX8_best : mth yX8_best cX8_best 2 (some .int) RX8 1 := ⟨tb3 221 (by decide +kernel) rfl, tb3 222 (by decide +kernel) rfl, tb1 1 (by decide +kernel) rfl, tb3 223 rfl rfl, ⟨rfl, by decide +kernel, by decide +kernel, by decide +kernel⟩⟩
theorem mX8_next : mth yX8_next cX8_next 2 (some .int) RX8 1 := ⟨tb4 31 (by decide +kernel) rfl, tb4 32 (by decide +kernel) rfl, tb1 1 (by decide +kernel) rfl, tb4 33 rfl rfl, ⟨rfl, by decide +kernel, by decide +kernel, by decide +kernel⟩⟩
theorem mX8_backbone : mth yX8_backbone cX8_backbone 1 (some .int) RX8 0 := ⟨tb4 47 (by decide +kernel) rfl, tb4 48 (by decide +kernel) rfl, tb1 1 (by decide +kernel) rfl, tb4 49 rfl rfl, ⟨rfl, by decide +kernel, by decide +kernel, by decide +kernel⟩⟩
theorem mX8_with : mth yX8_with cX8_with 3 (some .int) RX8 2 := ⟨tb4 55 (by decide +kernel) rfl, tb4 56 (by decide +kernel) rfl, tb1 1 (by decide +kernel) rfl, tb4 57 rfl rfl, ⟨rfl, by decide +kernel, by decide +kernel, by decide +kernel⟩⟩
theorem mX8_without : mth yX8_without cX8_without 2 (some .int) RX8 1 := ⟨tb4 59 (by decide +kernel) rfl, tb4 60 (by decide +kernel) rfl, tb1 1 (by decide +kernel) rfl, tb4 61 rfl rfl, ⟨rfl, by decide +kernel, by decide +kernel, by decide +kernel⟩⟩
theorem mX8_tries : mth yX8_tries cX8_tries 1 (some .int) RX8 0 := ⟨tb4 63 (by decide +kernel) rfl, tb4 64 (by decide +kernel) rfl, tb1 1 (by decide +kernel) rfl, tb4 65 rfl rfl, ⟨rfl, by decide +kernel, by decide +kernel, by decide +kernel⟩⟩
theorem mX8_count : mth yX8_count cX8_count 2 (some .int) RX8 1 := ⟨tb4 95 (by decide +kernel) rfl, tb4 96 (by decide +kernel) rfl, tb1 1 (by decide +kernel) rfl, tb4 97 rfl rfl, ⟨rfl, by decide +kernel, by decide +kernel, by decide +kernel⟩⟩
theorem mX8_isStep : sth yX8_isStep cX8_isStep 1 (some .boolean) RX8 1 := ⟨tb3 44 (by decide +kernel) rfl, tb1 1 (by decide +kernel) rfl, tb3 45 rfl rfl, ⟨rfl, by decide +kernel, by decide +kernel, by decide +kernel⟩⟩
theorem mX8_isSweep : sth yX8_isSweep cX8_isSweep 1 (some .boolean) RX8 1 := ⟨tb3 120 (by decide +kernel) rfl, tb1 1 (by decide +kernel) rfl, tb3 121 rfl rfl, ⟨rfl, by decide +kernel, by decide +kernel, by decide +kernel⟩⟩
theorem mX9_begins : mth yX9_begins cX9_begins 6 none RX9 4 := ⟨tb4 119 (by decide +kernel) rfl, tb0 20 (by decide +kernel) rfl, tb1 15 (by decide +kernel) rfl, tb4 120 rfl rfl, ⟨rfl, by decide +kernel, by decide +kernel, by decide +kernel⟩⟩
theorem mX9_isIn : sth yX9_isIn cX9_isIn 3 (some .boolean) RX9 3 := ⟨tb5 4 (by decide +kernel) rfl, tb1 15 (by decide +kernel) rfl, tb5 5 rfl rfl, ⟨rfl, by decide +kernel, by decide +kernel, by decide +kernel⟩⟩
theorem mX9_letterAt : mth yX9_letterAt cX9_letterAt 2 (some .int) RX9 1 := ⟨tb5 1 (by decide +kernel) rfl, tb0 24 (by decide +kernel) rfl, tb1 15 (by decide +kernel) rfl, tb5 2 rfl rfl, ⟨rfl, by decide +kernel, by decide +kernel, by decide +kernel⟩⟩
theorem mX9_number : mth yX9_number cX9_number 5 (some .boolean) RX9 3 := ⟨tb4 237 (by decide +kernel) rfl, tb0 23 (by decide +kernel) rfl, tb1 15 (by decide +kernel) rfl, tb4 238 rfl rfl, ⟨rfl, by decide +kernel, by decide +kernel, by decide +kernel⟩⟩
theorem mX9_more : mth yX9_more cX9_more 3 (some .boolean) RX9 2 := ⟨tb5 16 (by decide +kernel) rfl, tb0 27 (by decide +kernel) rfl, tb1 15 (by decide +kernel) rfl, tb5 17 rfl rfl, ⟨rfl, by decide +kernel, by decide +kernel, by decide +kernel⟩⟩
theorem mX9_readsName : mth yX9_readsName cX9_readsName 2 (some .boolean) RX9 1 := ⟨tb5 8 (by decide +kernel) rfl, tb0 25 (by decide +kernel) rfl, tb1 15 (by decide +kernel) rfl, tb5 9 rfl rfl, ⟨rfl, by decide +kernel, by decide +kernel, by decide +kernel⟩⟩
theorem mX9_readsSingle : mth yX9_readsSingle cX9_readsSingle 5 (some .boolean) RX9 1 := ⟨tb5 12 (by decide +kernel) rfl, tb0 26 (by decide +kernel) rfl, tb1 15 (by decide +kernel) rfl, tb5 13 rfl rfl, ⟨rfl, by decide +kernel, by decide +kernel, by decide +kernel⟩⟩
theorem mX9_readsTable : mth yX9_readsTable cX9_readsTable 6 (some .boolean) RX9 1 := ⟨tb5 20 (by decide +kernel) rfl, tb0 28 (by decide +kernel) rfl, tb1 15 (by decide +kernel) rfl, tb5 21 rfl rfl, ⟨rfl, by decide +kernel, by decide +kernel, by decide +kernel⟩⟩
theorem mX9_readsPair : mth yX9_readsPair cX9_readsPair 6 (some .boolean) RX9 1 := ⟨tb5 24 (by decide +kernel) rfl, tb0 29 (by decide +kernel) rfl, tb1 15 (by decide +kernel) rfl, tb5 25 rfl rfl, ⟨rfl, by decide +kernel, by decide +kernel, by decide +kernel⟩⟩
theorem mX9_readsItem : mth yX9_readsItem cX9_readsItem 4 (some .boolean) RX9 2 := ⟨tb4 233 (by decide +kernel) rfl, tb0 22 (by decide +kernel) rfl, tb1 15 (by decide +kernel) rfl, tb4 234 rfl rfl, ⟨rfl, by decide +kernel, by decide +kernel, by decide +kernel⟩⟩
theorem mX9_reads : mth yX9_reads cX9_reads 2 (some .int) RX9 0 := ⟨tb4 229 (by decide +kernel) rfl, tb0 21 (by decide +kernel) rfl, tb1 15 (by decide +kernel) rfl, tb4 230 rfl rfl, ⟨rfl, by decide +kernel, by decide +kernel, by decide +kernel⟩⟩
theorem mX9_write : mth yX9_write cX9_write 2 (some .int) RX9 1 := ⟨tb4 216 (by decide +kernel) rfl, tb4 217 (by decide +kernel) rfl, tb1 15 (by decide +kernel) rfl, tb4 218 rfl rfl, ⟨rfl, by decide +kernel, by decide +kernel, by decide +kernel⟩⟩
theorem mX9_wipe : mth yX9_wipe cX9_wipe 2 (some .int) RX9 0 := ⟨tb4 220 (by decide +kernel) rfl, tb4 221 (by decide +kernel) rfl, tb1 15 (by decide +kernel) rfl, tb4 222 rfl rfl, ⟨rfl, by decide +kernel, by decide +kernel, by decide +kernel⟩⟩
theorem mX9_fault : mth yX9_fault cX9_fault 1 (some .int) RX9 0 := ⟨tb4 224 (by decide +kernel) rfl, tb4 225 (by decide +kernel) rfl, tb1 15 (by decide +kernel) rfl, tb4 226 rfl rfl, ⟨rfl, by decide +kernel, by decide +kernel, by decide +kernel⟩⟩
theorem mX9_lay : mth yX9_lay cX9_lay 2 (some .int) RX9 0 := ⟨tb5 27 (by decide +kernel) rfl, tb5 28 (by decide +kernel) rfl, tb1 15 (by decide +kernel) rfl, tb5 29 rfl rfl, ⟨rfl, by decide +kernel, by decide +kernel, by decide +kernel⟩⟩
theorem mX9_sum : mth yX9_sum cX9_sum 3 (some .int) RX9 2 := ⟨tb5 32 (by decide +kernel) rfl, tb0 30 (by decide +kernel) rfl, tb1 15 (by decide +kernel) rfl, tb5 33 rfl rfl, ⟨rfl, by decide +kernel, by decide +kernel, by decide +kernel⟩⟩
theorem mX9_less : mth yX9_less cX9_less 3 (some .int) RX9 2 := ⟨tb5 111 (by decide +kernel) rfl, tb0 41 (by decide +kernel) rfl, tb1 15 (by decide +kernel) rfl, tb5 112 rfl rfl, ⟨rfl, by decide +kernel, by decide +kernel, by decide +kernel⟩⟩
theorem mX9_isName : mth yX9_isName cX9_isName 2 (some .boolean) RX9 1 := ⟨tb5 40 (by decide +kernel) rfl, tb0 31 (by decide +kernel) rfl, tb1 15 (by decide +kernel) rfl, tb5 41 rfl rfl, ⟨rfl, by decide +kernel, by decide +kernel, by decide +kernel⟩⟩
theorem mX9_isValue : mth yX9_isValue cX9_isValue 3 (some .boolean) RX9 2 := ⟨tb5 56 (by decide +kernel) rfl, tb0 34 (by decide +kernel) rfl, tb1 15 (by decide +kernel) rfl, tb5 57 rfl rfl, ⟨rfl, by decide +kernel, by decide +kernel, by decide +kernel⟩⟩
theorem mX9_isTable : mth yX9_isTable cX9_isTable 2 (some .boolean) RX9 1 := ⟨tb5 64 (by decide +kernel) rfl, tb0 35 (by decide +kernel) rfl, tb1 15 (by decide +kernel) rfl, tb5 65 rfl rfl, ⟨rfl, by decide +kernel, by decide +kernel, by decide +kernel⟩⟩
theorem mX9_nameOf : mth yX9_nameOf cX9_nameOf 3 (some .int) RX9 2 := ⟨tb5 68 (by decide +kernel) rfl, tb0 36 (by decide +kernel) rfl, tb1 15 (by decide +kernel) rfl, tb5 69 rfl rfl, ⟨rfl, by decide +kernel, by decide +kernel, by decide +kernel⟩⟩
theorem mX9_pairAt : sth yX9_pairAt cX9_pairAt 4 (some .int) RX9 4 := ⟨tb5 71 (by decide +kernel) rfl, tb1 15 (by decide +kernel) rfl, tb5 72 rfl rfl, ⟨rfl, by decide +kernel, by decide +kernel, by decide +kernel⟩⟩
theorem mX9_leastSingle : mth yX9_leastSingle cX9_leastSingle 4 (some .int) RX9 1 := ⟨tb5 44 (by decide +kernel) rfl, tb0 32 (by decide +kernel) rfl, tb1 15 (by decide +kernel) rfl, tb5 45 rfl rfl, ⟨rfl, by decide +kernel, by decide +kernel, by decide +kernel⟩⟩
theorem mX9_isShut : mth yX9_isShut cX9_isShut 3 (some .boolean) RX9 2 := ⟨tb5 48 (by decide +kernel) rfl, tb0 33 (by decide +kernel) rfl, tb1 15 (by decide +kernel) rfl, tb5 49 rfl rfl, ⟨rfl, by decide +kernel, by decide +kernel, by decide +kernel⟩⟩
theorem mX9_name : mth yX9_name cX9_name 5 (some .int) RX9 2 := ⟨tb5 35 (by decide +kernel) rfl, tb5 36 (by decide +kernel) rfl, tb1 15 (by decide +kernel) rfl, tb5 37 rfl rfl, ⟨rfl, by decide +kernel, by decide +kernel, by decide +kernel⟩⟩
theorem mX9_single : mth yX9_single cX9_single 3 (some .int) RX9 2 := ⟨tb5 51 (by decide +kernel) rfl, tb5 52 (by decide +kernel) rfl, tb1 15 (by decide +kernel) rfl, tb5 53 rfl rfl, ⟨rfl, by decide +kernel, by decide +kernel, by decide +kernel⟩⟩
theorem mX9_table : mth yX9_table cX9_table 8 (some .int) RX9 2 := ⟨tb5 59 (by decide +kernel) rfl, tb5 60 (by decide +kernel) rfl, tb1 15 (by decide +kernel) rfl, tb5 61 rfl rfl, ⟨rfl, by decide +kernel, by decide +kernel, by decide +kernel⟩⟩
theorem mX9_pair : mth yX9_pair cX9_pair 4 (some .int) RX9 3 := ⟨tb5 74 (by decide +kernel) rfl, tb5 75 (by decide +kernel) rfl, tb1 15 (by decide +kernel) rfl, tb5 76 rfl rfl, ⟨rfl, by decide +kernel, by decide +kernel, by decide +kernel⟩⟩
theorem mX9_keeps : mth yX9_keeps cX9_keeps 2 none RX9 0 := ⟨tb5 87 (by decide +kernel) rfl, tb0 37 (by decide +kernel) rfl, tb1 15 (by decide +kernel) rfl, tb5 88 rfl rfl, ⟨rfl, by decide +kernel, by decide +kernel, by decide +kernel⟩⟩
theorem mX9_undo : mth yX9_undo cX9_undo 2 (some .int) RX9 0 := ⟨tb5 78 (by decide +kernel) rfl, tb5 79 (by decide +kernel) rfl, tb1 15 (by decide +kernel) rfl, tb5 80 rfl rfl, ⟨rfl, by decide +kernel, by decide +kernel, by decide +kernel⟩⟩
theorem mX9_grow : mth yX9_grow cX9_grow 4 (some .int) RX9 3 := ⟨tb5 82 (by decide +kernel) rfl, tb5 83 (by decide +kernel) rfl, tb1 15 (by decide +kernel) rfl, tb5 84 rfl rfl, ⟨rfl, by decide +kernel, by decide +kernel, by decide +kernel⟩⟩
theorem mX9_choose : mth yX9_choose cX9_choose 4 (some .int) RX9 2 := ⟨tb5 90 (by decide +kernel) rfl, tb5 91 (by decide +kernel) rfl, tb1 15 (by decide +kernel) rfl, tb5 92 rfl rfl, ⟨rfl, by decide +kernel, by decide +kernel, by decide +kernel⟩⟩
theorem mX9_leastPair : mth yX9_leastPair cX9_leastPair 7 (some .int) RX9 3 := ⟨tb5 103 (by decide +kernel) rfl, tb0 39 (by decide +kernel) rfl, tb1 15 (by decide +kernel) rfl, tb5 104 rfl rfl, ⟨rfl, by decide +kernel, by decide +kernel, by decide +kernel⟩⟩
theorem mX9_projects : mth yX9_projects cX9_projects 7 none RX9 4 := ⟨tb5 107 (by decide +kernel) rfl, tb0 40 (by decide +kernel) rfl, tb1 15 (by decide +kernel) rfl, tb5 108 rfl rfl, ⟨rfl, by decide +kernel, by decide +kernel, by decide +kernel⟩⟩
theorem mX9_extendsBy : mth yX9_extendsBy cX9_extendsBy 8 none RX9 4 := ⟨tb5 119 (by decide +kernel) rfl, tb0 42 (by decide +kernel) rfl, tb1 15 (by decide +kernel) rfl, tb5 120 rfl rfl, ⟨rfl, by decide +kernel, by decide +kernel, by decide +kernel⟩⟩
theorem mX9_raises : mth yX9_raises cX9_raises 4 none RX9 2 := ⟨tb5 127 (by decide +kernel) rfl, tb0 43 (by decide +kernel) rfl, tb1 15 (by decide +kernel) rfl, tb5 128 rfl rfl, ⟨rfl, by decide +kernel, by decide +kernel, by decide +kernel⟩⟩
theorem mX9_isMoved : mth yX9_isMoved cX9_isMoved 5 (some .boolean) RX9 4 := ⟨tb5 99 (by decide +kernel) rfl, tb0 38 (by decide +kernel) rfl, tb1 15 (by decide +kernel) rfl, tb5 100 rfl rfl, ⟨rfl, by decide +kernel, by decide +kernel, by decide +kernel⟩⟩
theorem mX9_project : mth yX9_project cX9_project 5 (some .int) RX9 4 := ⟨tb5 94 (by decide +kernel) rfl, tb5 95 (by decide +kernel) rfl, tb1 15 (by decide +kernel) rfl, tb5 96 rfl rfl, ⟨rfl, by decide +kernel, by decide +kernel, by decide +kernel⟩⟩
theorem mX9_extend : mth yX9_extend cX9_extend 5 (some .int) RX9 4 := ⟨tb5 114 (by decide +kernel) rfl, tb5 115 (by decide +kernel) rfl, tb1 15 (by decide +kernel) rfl, tb5 116 rfl rfl, ⟨rfl, by decide +kernel, by decide +kernel, by decide +kernel⟩⟩
theorem mX9_raise : mth yX9_raise cX9_raise 3 (some .int) RX9 2 := ⟨tb5 122 (by decide +kernel) rfl, tb5 123 (by decide +kernel) rfl, tb1 15 (by decide +kernel) rfl, tb5 124 rfl rfl, ⟨rfl, by decide +kernel, by decide +kernel, by decide +kernel⟩⟩
theorem mX9_nodes : mth yX9_nodes cX9_nodes 4 none RX9 0 := ⟨tb5 151 (by decide +kernel) rfl, tb0 48 (by decide +kernel) rfl, tb1 15 (by decide +kernel) rfl, tb5 152 rfl rfl, ⟨rfl, by decide +kernel, by decide +kernel, by decide +kernel⟩⟩
theorem mX9_shuts : mth yX9_shuts cX9_shuts 4 none RX9 1 := ⟨tb5 143 (by decide +kernel) rfl, tb0 46 (by decide +kernel) rfl, tb1 15 (by decide +kernel) rfl, tb5 144 rfl rfl, ⟨rfl, by decide +kernel, by decide +kernel, by decide +kernel⟩⟩
theorem mX9_arcs : mth yX9_arcs cX9_arcs 5 none RX9 1 := ⟨tb5 139 (by decide +kernel) rfl, tb0 45 (by decide +kernel) rfl, tb1 15 (by decide +kernel) rfl, tb5 140 rfl rfl, ⟨rfl, by decide +kernel, by decide +kernel, by decide +kernel⟩⟩
theorem mX9_directs : mth yX9_directs cX9_directs 8 none RX9 1 := ⟨tb5 147 (by decide +kernel) rfl, tb0 47 (by decide +kernel) rfl, tb1 15 (by decide +kernel) rfl, tb5 148 rfl rfl, ⟨rfl, by decide +kernel, by decide +kernel, by decide +kernel⟩⟩
theorem mX9_sweeps : mth yX9_sweeps cX9_sweeps 4 none RX9 1 := ⟨tb5 135 (by decide +kernel) rfl, tb0 44 (by decide +kernel) rfl, tb1 15 (by decide +kernel) rfl, tb5 136 rfl rfl, ⟨rfl, by decide +kernel, by decide +kernel, by decide +kernel⟩⟩
theorem mX9_sweep : mth yX9_sweep cX9_sweep 4 (some .int) RX9 2 := ⟨tb5 130 (by decide +kernel) rfl, tb5 131 (by decide +kernel) rfl, tb1 15 (by decide +kernel) rfl, tb5 132 rfl rfl, ⟨rfl, by decide +kernel, by decide +kernel, by decide +kernel⟩⟩
theorem mX9_settles : mth yX9_settles cX9_settles 6 (some .int) RX9 1 := ⟨tb5 159 (by decide +kernel) rfl, tb0 49 (by decide +kernel) rfl, tb1 15 (by decide +kernel) rfl, tb5 160 rfl rfl, ⟨rfl, by decide +kernel, by decide +kernel, by decide +kernel⟩⟩
theorem mX9_settle : mth yX9_settle cX9_settle 2 (some .int) RX9 1 := ⟨tb5 154 (by decide +kernel) rfl, tb5 155 (by decide +kernel) rfl, tb1 15 (by decide +kernel) rfl, tb5 156 rfl rfl, ⟨rfl, by decide +kernel, by decide +kernel, by decide +kernel⟩⟩
theorem mX9_bound : mth yX9_bound cX9_bound 4 (some .int) RX9 1 := ⟨tb5 162 (by decide +kernel) rfl, tb5 163 (by decide +kernel) rfl, tb1 15 (by decide +kernel) rfl, tb5 164 rfl rfl, ⟨rfl, by decide +kernel, by decide +kernel, by decide +kernel⟩⟩
theorem mX9_totalOf : mth yX9_totalOf cX9_totalOf 4 (some .int) RX9 1 := ⟨tb5 171 (by decide +kernel) rfl, tb0 50 (by decide +kernel) rfl, tb1 15 (by decide +kernel) rfl, tb5 172 rfl rfl, ⟨rfl, by decide +kernel, by decide +kernel, by decide +kernel⟩⟩
theorem mX9_total : mth yX9_total cX9_total 2 (some .int) RX9 0 := ⟨tb5 166 (by decide +kernel) rfl, tb5 167 (by decide +kernel) rfl, tb1 15 (by decide +kernel) rfl, tb5 168 rfl rfl, ⟨rfl, by decide +kernel, by decide +kernel, by decide +kernel⟩⟩
theorem mX9_choices : mth yX9_choices cX9_choices 3 (some .int) RX9 0 := ⟨tb5 183 (by decide +kernel) rfl, tb0 52 (by decide +kernel) rfl, tb1 15 (by decide +kernel) rfl, tb5 184 rfl rfl, ⟨rfl, by decide +kernel, by decide +kernel, by decide +kernel⟩⟩
theorem mX9_takes : mth yX9_takes cX9_takes 4 none RX9 1 := ⟨tb5 187 (by decide +kernel) rfl, tb0 53 (by decide +kernel) rfl, tb1 15 (by decide +kernel) rfl, tb5 188 rfl rfl, ⟨rfl, by decide +kernel, by decide +kernel, by decide +kernel⟩⟩
theorem mX9_meets : mth yX9_meets cX9_meets 4 none RX9 1 := ⟨tb5 191 (by decide +kernel) rfl, tb0 54 (by decide +kernel) rfl, tb1 15 (by decide +kernel) rfl, tb5 192 rfl rfl, ⟨rfl, by decide +kernel, by decide +kernel, by decide +kernel⟩⟩
theorem mX9_looks : mth yX9_looks cX9_looks 4 none RX9 0 := ⟨tb5 179 (by decide +kernel) rfl, tb0 51 (by decide +kernel) rfl, tb1 15 (by decide +kernel) rfl, tb5 180 rfl rfl, ⟨rfl, by decide +kernel, by decide +kernel, by decide +kernel⟩⟩
theorem mX9_best : mth yX9_best cX9_best 2 (some .int) RX9 1 := ⟨tb5 174 (by decide +kernel) rfl, tb5 175 (by decide +kernel) rfl, tb1 15 (by decide +kernel) rfl, tb5 176 rfl rfl, ⟨rfl, by decide +kernel, by decide +kernel, by decide +kernel⟩⟩
theorem mX9_next : mth yX9_next cX9_next 2 (some .int) RX9 1 := ⟨tb5 194 (by decide +kernel) rfl, tb5 195 (by decide +kernel) rfl, tb1 15 (by decide +kernel) rfl, tb5 196 rfl rfl, ⟨rfl, by decide +kernel, by decide +kernel, by decide +kernel⟩⟩
theorem mX9_backbone : mth yX9_backbone cX9_backbone 1 (some .int) RX9 0 := ⟨tb5 198 (by decide +kernel) rfl, tb5 199 (by decide +kernel) rfl, tb1 15 (by decide +kernel) rfl, tb5 200 rfl rfl, ⟨rfl, by decide +kernel, by decide +kernel, by decide +kernel⟩⟩
theorem mX9_least : mth yX9_least cX9_least 8 (some .int) RX9 3 := ⟨tb5 207 (by decide +kernel) rfl, tb0 55 (by decide +kernel) rfl, tb1 15 (by decide +kernel) rfl, tb5 208 rfl rfl, ⟨rfl, by decide +kernel, by decide +kernel, by decide +kernel⟩⟩
theorem mX9_with : mth yX9_with cX9_with 3 (some .int) RX9 2 := ⟨tb5 202 (by decide +kernel) rfl, tb5 203 (by decide +kernel) rfl, tb1 15 (by decide +kernel) rfl, tb5 204 rfl rfl, ⟨rfl, by decide +kernel, by decide +kernel, by decide +kernel⟩⟩
theorem mX9_without : mth yX9_without cX9_without 2 (some .int) RX9 1 := ⟨tb5 210 (by decide +kernel) rfl, tb5 211 (by decide +kernel) rfl, tb1 15 (by decide +kernel) rfl, tb5 212 rfl rfl, ⟨rfl, by decide +kernel, by decide +kernel, by decide +kernel⟩⟩
theorem mX9_pairsWith : mth yX9_pairsWith cX9_pairsWith 7 (some .int) RX9 3 := ⟨tb5 223 (by decide +kernel) rfl, tb0 57 (by decide +kernel) rfl, tb1 15 (by decide +kernel) rfl, tb5 224 rfl rfl, ⟨rfl, by decide +kernel, by decide +kernel, by decide +kernel⟩⟩
theorem mX9_lowOf : mth yX9_lowOf cX9_lowOf 7 (some .int) RX9 1 := ⟨tb5 219 (by decide +kernel) rfl, tb0 56 (by decide +kernel) rfl, tb1 15 (by decide +kernel) rfl, tb5 220 rfl rfl, ⟨rfl, by decide +kernel, by decide +kernel, by decide +kernel⟩⟩
theorem mX9_tries : mth yX9_tries cX9_tries 5 (some .int) RX9 0 := ⟨tb5 214 (by decide +kernel) rfl, tb5 215 (by decide +kernel) rfl, tb1 15 (by decide +kernel) rfl, tb5 216 rfl rfl, ⟨rfl, by decide +kernel, by decide +kernel, by decide +kernel⟩⟩
theorem mX9_count : mth yX9_count cX9_count 5 (some .int) RX9 1 := ⟨tb5 226 (by decide +kernel) rfl, tb5 227 (by decide +kernel) rfl, tb1 15 (by decide +kernel) rfl, tb5 228 rfl rfl, ⟨rfl, by decide +kernel, by decide +kernel, by decide +kernel⟩⟩
theorem mJ6_bitCount_0f7a4 : sth yJ6_bitCount_0f7a4 cJ6_bitCount_0f7a4 1 (some .int) RJ6 1 := ⟨tb4 106 (by decide +kernel) rfl, tb1 16 (by decide +kernel) rfl, tb4 107 rfl rfl, ⟨rfl, by decide +kernel, by decide +kernel, by decide +kernel⟩⟩
theorem kX0_11 : Cond.methodLink RX0 11 yX3_init ∈ TB := tb1 74 (by decide +kernel) rfl
theorem kX0_14 : Cond.fieldLink RX0 14 (TX0 0).1 (TX0 0).2.1 (TX0 0).2.2.1 ∈ TB := tb1 75 (by decide +kernel) rfl
theorem kX0_20 : Cond.fieldLink RX0 20 (TX0 1).1 (TX0 1).2.1 (TX0 1).2.2.1 ∈ TB := tb1 76 (by decide +kernel) rfl
theorem kX0_23 : Cond.fieldLink RX0 23 (TX0 2).1 (TX0 2).2.1 (TX0 2).2.2.1 ∈ TB := tb1 77 (by decide +kernel) rfl
theorem kX0_26 : Cond.fieldLink RX0 26 (TX0 3).1 (TX0 3).2.1 (TX0 3).2.2.1 ∈ TB := tb1 78 (by decide +kernel) rfl
theorem kX0_29 : Cond.fieldLink RX0 29 (TX0 6).1 (TX0 6).2.1 (TX0 6).2.2.1 ∈ TB := tb1 81 (by decide +kernel) rfl
theorem kX0_33 : Cond.fieldLink RX0 33 (TX0 4).1 (TX0 4).2.1 (TX0 4).2.2.1 ∈ TB := tb1 79 (by decide +kernel) rfl
theorem kX0_36 : Cond.fieldLink RX0 36 (TX0 5).1 (TX0 5).2.1 (TX0 5).2.2.1 ∈ TB := tb1 80 (by decide +kernel) rfl
theorem kX0_39 : Cond.methodLink RX0 39 yX3_clear ∈ TB := tb2 21 (by decide +kernel) rfl
theorem kX0_42 : Cond.methodLink RX0 42 yX3_takeFrom ∈ TB := tb2 194 (by decide +kernel) rfl
theorem kX0_46 : Cond.methodLink RX0 46 yX3_set ∈ TB := tb2 69 (by decide +kernel) rfl
theorem kX0_50 : Cond.methodLink RX0 50 yX0_hasValue ∈ TB := tb2 74 (by decide +kernel) rfl
theorem kX0_54 : Cond.methodLink RX0 54 yX0_setSingle ∈ TB := tb2 79 (by decide +kernel) rfl
theorem kX0_58 : Cond.methodLink RX0 58 yX0_hasName ∈ TB := tb2 90 (by decide +kernel) rfl
theorem kX0_62 : Cond.methodLink RX0 62 yX0_isJoined ∈ TB := tb2 94 (by decide +kernel) rfl
theorem kX0_65 : Cond.methodLink RX0 65 yX0_valuesOf ∈ TB := tb2 102 (by decide +kernel) rfl
theorem kX0_69 : Cond.methodLink RX0 69 Lib.Math.min.name ∈ TB ∧ Cond.static Lib.Math.min.name ∈ TB ∧ Cond.initialized "java/lang/Math" ∈ TB ∧ Cond.code Lib.Math.min.name Lib.Math.min.code 2 (some .int) ∈ TB := ⟨tb2 106 (by decide +kernel) rfl, tb2 107 (by decide +kernel) rfl, tb1 4 (by decide +kernel) rfl, tb2 108 rfl rfl⟩
theorem kX0_75 : Cond.methodLink RX0 75 yX0_setPair ∈ TB := tb2 109 (by decide +kernel) rfl
theorem kX0_79 : Cond.methodLink RX0 79 yX0_nameOn ∈ TB := tb2 98 (by decide +kernel) rfl
theorem kX0_82 : Cond.methodLink RX0 82 yX0_hasPair ∈ TB := tb2 120 (by decide +kernel) rfl
theorem kX0_86 : Cond.methodLink RX0 86 yX3_get ∈ TB := tb2 78 (by decide +kernel) rfl
theorem kX0_89 : Cond.methodLink RX0 89 yX0_hasTable ∈ TB := tb2 124 (by decide +kernel) rfl
theorem kX0_92 : Cond.methodLink RX0 92 yX0_valuesOn ∈ TB := tb2 128 (by decide +kernel) rfl
theorem kX0_95 : Cond.methodLink RX0 95 yX0_singleAt ∈ TB := tb2 83 (by decide +kernel) rfl
theorem kX0_98 : Cond.methodLink RX0 98 yX0_pairAt ∈ TB := tb2 113 (by decide +kernel) rfl
theorem kX0_102 : Cond.methodLink RX0 102 yX0_singleCost ∈ TB := tb2 226 (by decide +kernel) rfl
theorem kX0_105 : Cond.methodLink RX0 105 yX0_acrossFrom ∈ TB := tb3 18 (by decide +kernel) rfl
theorem kX0_108 : Cond.methodLink RX0 108 yX0_pairFrom ∈ TB := tb3 21 (by decide +kernel) rfl
theorem kX0_112 : Cond.methodLink RX0 112 yX0_leastPairOf ∈ TB := tb3 14 (by decide +kernel) rfl
theorem kX0_115 : Cond.methodLink RX0 115 yX0_pairCost ∈ TB := tb3 28 (by decide +kernel) rfl
theorem kX0_118 : Cond.methodLink RX0 118 Lib.Math.max.name ∈ TB ∧ Cond.static Lib.Math.max.name ∈ TB ∧ Cond.initialized "java/lang/Math" ∈ TB ∧ Cond.code Lib.Math.max.name Lib.Math.max.code 2 (some .int) ∈ TB := ⟨tb3 32 (by decide +kernel) rfl, tb1 38 (by decide +kernel) rfl, tb1 4 (by decide +kernel) rfl, tb1 39 rfl rfl⟩
theorem kX0_121 : Cond.methodLink RX0 121 yX0_constant ∈ TB := tb2 222 (by decide +kernel) rfl
theorem kX0_125 : Cond.methodLink RX0 125 yX0_sum ∈ TB := tb2 230 (by decide +kernel) rfl
theorem kX0_128 : Cond.methodLink RX0 128 yX0_isShut ∈ TB := tb2 218 (by decide +kernel) rfl
theorem kX0_131 : Cond.methodLink RX0 131 yX0_shutOf ∈ TB := tb4 104 (by decide +kernel) rfl
theorem kX0_134 : Cond.methodLink RX0 134 yJ6_bitCount_0f7a4 ∈ TB := tb4 105 (by decide +kernel) rfl
theorem kX0_139 : Cond.methodLink RX0 139 yX0_costBeside ∈ TB := tb3 77 (by decide +kernel) rfl
theorem kX0_143 : Cond.methodLink RX0 143 yX3_isLike ∈ TB := tb3 196 (by decide +kernel) rfl
theorem kX0_147 : Cond.methodLink RX0 147 yX0_enlarge ∈ TB := tb3 59 (by decide +kernel) rfl
theorem kX0_150 : Cond.methodLink RX0 150 yX0_lessen ∈ TB := tb3 94 (by decide +kernel) rfl
theorem kX1_11 : Cond.fieldLink RX1 11 (TX1 0).1 (TX1 0).2.1 (TX1 0).2.2.1 ∈ TB := tb1 126 (by decide +kernel) rfl
theorem kX1_17 : Cond.methodLink RX1 17 yX3_init ∈ TB := tb1 125 (by decide +kernel) rfl
theorem kX1_20 : Cond.fieldLink RX1 20 (TX1 2).1 (TX1 2).2.1 (TX1 2).2.2.1 ∈ TB := tb1 128 (by decide +kernel) rfl
theorem kX1_24 : Cond.fieldLink RX1 24 (TX1 1).1 (TX1 1).2.1 (TX1 1).2.2.1 ∈ TB := tb1 127 (by decide +kernel) rfl
theorem kX1_27 : Cond.methodLink RX1 27 yX0_copyTo ∈ TB := tb3 50 (by decide +kernel) rfl
theorem kX1_33 : Cond.methodLink RX1 33 Lib.Math.min.name ∈ TB ∧ Cond.static Lib.Math.min.name ∈ TB ∧ Cond.initialized "java/lang/Math" ∈ TB ∧ Cond.code Lib.Math.min.name Lib.Math.min.code 2 (some .int) ∈ TB := ⟨tb3 54 (by decide +kernel) rfl, tb2 107 (by decide +kernel) rfl, tb1 4 (by decide +kernel) rfl, tb2 108 rfl rfl⟩
theorem kX1_39 : Cond.methodLink RX1 39 yX0_copyFrom ∈ TB := tb3 212 (by decide +kernel) rfl
theorem kX2_13 : Cond.methodLink RX2 13 yX3_init ∈ TB := tb1 59 (by decide +kernel) rfl
theorem kX2_16 : Cond.fieldLink RX2 16 (TX2 0).1 (TX2 0).2.1 (TX2 0).2.2.1 ∈ TB := tb1 60 (by decide +kernel) rfl
theorem kX2_20 : Cond.methodLink RX2 20 yX0_clear ∈ TB := tb2 17 (by decide +kernel) rfl
theorem kX2_25 : Cond.fieldLink RX2 25 (TX2 1).1 (TX2 1).2.1 (TX2 1).2.2.1 ∈ TB := tb1 61 (by decide +kernel) rfl
theorem kX2_29 : Cond.methodLink RX2 29 yX6_length ∈ TB := tb2 25 (by decide +kernel) rfl
theorem kX2_35 : Cond.methodLink RX2 35 yX2_readItem ∈ TB := tb2 29 (by decide +kernel) rfl
theorem kX2_39 : Cond.methodLink RX2 39 yX0_keepToTop ∈ TB := tb2 132 (by decide +kernel) rfl
theorem kX2_42 : Cond.methodLink RX2 42 yX6_letterAt ∈ TB := tb2 33 (by decide +kernel) rfl
theorem kX2_46 : Cond.methodLink RX2 46 yX2_numbersOf ∈ TB := tb2 41 (by decide +kernel) rfl
theorem kX2_49 : Cond.methodLink RX2 49 yX2_readNumbers ∈ TB := tb2 44 (by decide +kernel) rfl
theorem kX2_53 : Cond.methodLink RX2 53 yX2_tell ∈ TB := tb2 56 (by decide +kernel) rfl
theorem kX2_57 : Cond.methodLink RX2 57 yX2_readNumber ∈ TB := tb2 48 (by decide +kernel) rfl
theorem kX2_60 : Cond.methodLink RX2 60 yX2_isFigure ∈ TB := tb2 52 (by decide +kernel) rfl
theorem kX2_64 : Cond.methodLink RX2 64 yX3_set ∈ TB := tb2 55 (by decide +kernel) rfl
theorem kX2_68 : Cond.methodLink RX2 68 yX3_get ∈ TB := tb2 60 (by decide +kernel) rfl
theorem kX2_71 : Cond.methodLink RX2 71 yX0_tellTop ∈ TB := tb2 61 (by decide +kernel) rfl
theorem kX2_74 : Cond.methodLink RX2 74 yX0_addName ∈ TB := tb2 65 (by decide +kernel) rfl
theorem kX2_77 : Cond.methodLink RX2 77 yX0_tellSingle ∈ TB := tb2 70 (by decide +kernel) rfl
theorem kX2_81 : Cond.methodLink RX2 81 yX0_addTable ∈ TB := tb2 86 (by decide +kernel) rfl
theorem kX2_84 : Cond.methodLink RX2 84 yX0_tellPair ∈ TB := tb2 116 (by decide +kernel) rfl
theorem kX3_7 : Cond.methodLink RX3 7 Lib.Math.max.name ∈ TB ∧ Cond.static Lib.Math.max.name ∈ TB ∧ Cond.initialized "java/lang/Math" ∈ TB ∧ Cond.code Lib.Math.max.name Lib.Math.max.code 2 (some .int) ∈ TB := ⟨tb1 37 (by decide +kernel) rfl, tb1 38 (by decide +kernel) rfl, tb1 4 (by decide +kernel) rfl, tb1 39 rfl rfl⟩
theorem kX3_13 : Cond.fieldLink RX3 13 (TX3 0).1 (TX3 0).2.1 (TX3 0).2.2.1 ∈ TB := tb1 40 (by decide +kernel) rfl
theorem kX3_19 : Cond.methodLink RX3 19 yX3_get ∈ TB := tb2 198 (by decide +kernel) rfl
theorem kX4_11 : Cond.methodLink RX4 11 yX3_init ∈ TB := tb1 143 (by decide +kernel) rfl
theorem kX4_14 : Cond.fieldLink RX4 14 (TX4 0).1 (TX4 0).2.1 (TX4 0).2.2.1 ∈ TB := tb1 144 (by decide +kernel) rfl
theorem kX4_20 : Cond.fieldLink RX4 20 (TX4 1).1 (TX4 1).2.1 (TX4 1).2.2.1 ∈ TB := tb1 145 (by decide +kernel) rfl
theorem kX4_23 : Cond.fieldLink RX4 23 (TX4 2).1 (TX4 2).2.1 (TX4 2).2.2.1 ∈ TB := tb1 146 (by decide +kernel) rfl
theorem kX4_27 : Cond.fieldLink RX4 27 (TX4 3).1 (TX4 3).2.1 (TX4 3).2.2.1 ∈ TB := tb1 147 (by decide +kernel) rfl
theorem kX4_30 : Cond.fieldLink RX4 30 (TX4 4).1 (TX4 4).2.1 (TX4 4).2.2.1 ∈ TB := tb1 148 (by decide +kernel) rfl
theorem kX4_33 : Cond.methodLink RX4 33 yX0_top ∈ TB := tb3 228 (by decide +kernel) rfl
theorem kX4_39 : Cond.fieldLink RX4 39 (TX4 5).1 (TX4 5).2.1 (TX4 5).2.2.1 ∈ TB := tb1 149 (by decide +kernel) rfl
theorem kX4_42 : Cond.fieldLink RX4 42 (TX4 6).1 (TX4 6).2.1 (TX4 6).2.2.1 ∈ TB := tb1 150 (by decide +kernel) rfl
theorem kX4_45 : Cond.fieldLink RX4 45 (TX4 7).1 (TX4 7).2.1 (TX4 7).2.2.1 ∈ TB := tb1 151 (by decide +kernel) rfl
theorem kX4_48 : Cond.fieldLink RX4 48 (TX4 8).1 (TX4 8).2.1 (TX4 8).2.2.1 ∈ TB := tb1 152 (by decide +kernel) rfl
theorem kX4_51 : Cond.fieldLink RX4 51 (TX4 9).1 (TX4 9).2.1 (TX4 9).2.2.1 ∈ TB := tb1 153 (by decide +kernel) rfl
theorem kX4_54 : Cond.fieldLink RX4 54 (TX4 10).1 (TX4 10).2.1 (TX4 10).2.2.1 ∈ TB := tb1 154 (by decide +kernel) rfl
theorem kX4_57 : Cond.methodLink RX4 57 yX0_constant ∈ TB := tb3 229 (by decide +kernel) rfl
theorem kX4_60 : Cond.methodLink RX4 60 yX4_goOn ∈ TB := tb3 230 (by decide +kernel) rfl
theorem kX4_64 : Cond.methodLink RX4 64 yX0_names ∈ TB := tb3 234 (by decide +kernel) rfl
theorem kX4_67 : Cond.methodLink RX4 67 yX4_note ∈ TB := tb3 235 (by decide +kernel) rfl
theorem kX4_71 : Cond.methodLink RX4 71 yX0_valuesOf ∈ TB := tb4 6 (by decide +kernel) rfl
theorem kX4_75 : Cond.methodLink RX4 75 yX4_take ∈ TB := tb4 7 (by decide +kernel) rfl
theorem kX4_79 : Cond.methodLink RX4 79 yX3_set ∈ TB := tb4 11 (by decide +kernel) rfl
theorem kX4_83 : Cond.methodLink RX4 83 yX0_costBeside ∈ TB := tb4 12 (by decide +kernel) rfl
theorem kX4_87 : Cond.methodLink RX4 87 yX0_sum ∈ TB := tb4 13 (by decide +kernel) rfl
theorem kX4_91 : Cond.methodLink RX4 91 yX4_chosenBits ∈ TB := tb3 239 (by decide +kernel) rfl
theorem kX4_94 : Cond.methodLink RX4 94 yX3_takeFrom ∈ TB := tb4 4 (by decide +kernel) rfl
theorem kX4_98 : Cond.methodLink RX4 98 Lib.Math.min.name ∈ TB ∧ Cond.static Lib.Math.min.name ∈ TB ∧ Cond.initialized "java/lang/Math" ∈ TB ∧ Cond.code Lib.Math.min.name Lib.Math.min.code 2 (some .int) ∈ TB := ⟨tb4 5 (by decide +kernel) rfl, tb2 107 (by decide +kernel) rfl, tb1 4 (by decide +kernel) rfl, tb2 108 rfl rfl⟩
theorem kX4_103 : Cond.methodLink RX4 103 yX3_get ∈ TB := tb4 3 (by decide +kernel) rfl
theorem kX5_11 : Cond.methodLink RX5 11 yX3_init ∈ TB := tb1 106 (by decide +kernel) rfl
theorem kX5_14 : Cond.fieldLink RX5 14 (TX5 0).1 (TX5 0).2.1 (TX5 0).2.2.1 ∈ TB := tb1 107 (by decide +kernel) rfl
theorem kX5_20 : Cond.fieldLink RX5 20 (TX5 1).1 (TX5 1).2.1 (TX5 1).2.2.1 ∈ TB := tb1 108 (by decide +kernel) rfl
theorem kX5_23 : Cond.fieldLink RX5 23 (TX5 2).1 (TX5 2).2.1 (TX5 2).2.2.1 ∈ TB := tb1 109 (by decide +kernel) rfl
theorem kX5_26 : Cond.methodLink RX5 26 yX0_copyTo ∈ TB := tb3 190 (by decide +kernel) rfl
theorem kX5_32 : Cond.methodLink RX5 32 yX5_doOne ∈ TB := tb3 191 (by decide +kernel) rfl
theorem kX5_36 : Cond.methodLink RX5 36 yX0_areAs ∈ TB := tb3 192 (by decide +kernel) rfl
theorem kX5_40 : Cond.methodLink RX5 40 yX5_doArcs ∈ TB := tb3 126 (by decide +kernel) rfl
theorem kX5_44 : Cond.methodLink RX5 44 yX5_doDirected ∈ TB := tb3 143 (by decide +kernel) rfl
theorem kX5_47 : Cond.methodLink RX5 47 yX5_doNodes ∈ TB := tb3 173 (by decide +kernel) rfl
theorem kX5_50 : Cond.methodLink RX5 50 yX0_names ∈ TB := tb3 147 (by decide +kernel) rfl
theorem kX5_54 : Cond.methodLink RX5 54 yX0_leastSingle ∈ TB := tb3 176 (by decide +kernel) rfl
theorem kX5_58 : Cond.methodLink RX5 58 yX0_moveToConstant ∈ TB := tb3 177 (by decide +kernel) rfl
theorem kX5_62 : Cond.methodLink RX5 62 yX0_topShutSingles ∈ TB := tb3 178 (by decide +kernel) rfl
theorem kX5_65 : Cond.methodLink RX5 65 yX0_tables ∈ TB := tb3 129 (by decide +kernel) rfl
theorem kX5_68 : Cond.methodLink RX5 68 yX0_topPairsOfTopSingles ∈ TB := tb3 133 (by decide +kernel) rfl
theorem kX5_71 : Cond.methodLink RX5 71 yX5_projectLeasts ∈ TB := tb3 137 (by decide +kernel) rfl
theorem kX5_75 : Cond.methodLink RX5 75 yX0_valuesOn ∈ TB := tb3 140 (by decide +kernel) rfl
theorem kX5_79 : Cond.methodLink RX5 79 yX0_leastPairOf ∈ TB := tb3 141 (by decide +kernel) rfl
theorem kX5_83 : Cond.methodLink RX5 83 yX0_moveToValue ∈ TB := tb3 142 (by decide +kernel) rfl
theorem kX5_87 : Cond.methodLink RX5 87 yX0_nameOn ∈ TB := tb3 148 (by decide +kernel) rfl
theorem kX5_90 : Cond.methodLink RX5 90 yX5_direct ∈ TB := tb3 149 (by decide +kernel) rfl
theorem kX5_93 : Cond.methodLink RX5 93 yX5_reachOf ∈ TB := tb3 153 (by decide +kernel) rfl
theorem kX5_97 : Cond.methodLink RX5 97 yX3_set ∈ TB := tb3 165 (by decide +kernel) rfl
theorem kX5_100 : Cond.methodLink RX5 100 yX5_needOf ∈ TB := tb3 166 (by decide +kernel) rfl
theorem kX5_103 : Cond.methodLink RX5 103 yX3_get ∈ TB := tb3 170 (by decide +kernel) rfl
theorem kX5_106 : Cond.methodLink RX5 106 yX0_moveToTable ∈ TB := tb3 172 (by decide +kernel) rfl
theorem kX5_109 : Cond.methodLink RX5 109 yX0_top ∈ TB := tb3 156 (by decide +kernel) rfl
theorem kX5_112 : Cond.methodLink RX5 112 yX0_valuesOf ∈ TB := tb3 160 (by decide +kernel) rfl
theorem kX5_115 : Cond.methodLink RX5 115 yX0_pairCost ∈ TB := tb3 161 (by decide +kernel) rfl
theorem kX5_118 : Cond.methodLink RX5 118 yX0_singleCost ∈ TB := tb3 162 (by decide +kernel) rfl
theorem kX5_121 : Cond.methodLink RX5 121 yX0_sum ∈ TB := tb3 163 (by decide +kernel) rfl
theorem kX5_124 : Cond.methodLink RX5 124 Lib.Math.min.name ∈ TB ∧ Cond.static Lib.Math.min.name ∈ TB ∧ Cond.initialized "java/lang/Math" ∈ TB ∧ Cond.code Lib.Math.min.name Lib.Math.min.code 2 (some .int) ∈ TB := ⟨tb3 164 (by decide +kernel) rfl, tb2 107 (by decide +kernel) rfl, tb1 4 (by decide +kernel) rfl, tb2 108 rfl rfl⟩
theorem kX5_129 : Cond.methodLink RX5 129 Lib.Math.max.name ∈ TB ∧ Cond.static Lib.Math.max.name ∈ TB ∧ Cond.initialized "java/lang/Math" ∈ TB ∧ Cond.code Lib.Math.max.name Lib.Math.max.code 2 (some .int) ∈ TB := ⟨tb3 171 (by decide +kernel) rfl, tb1 38 (by decide +kernel) rfl, tb1 4 (by decide +kernel) rfl, tb1 39 rfl rfl⟩
theorem kX6_11 : Cond.methodLink RX6 11 yX3_init ∈ TB := tb1 33 (by decide +kernel) rfl
theorem kX6_14 : Cond.fieldLink RX6 14 (TX6 0).1 (TX6 0).2.1 (TX6 0).2.2.1 ∈ TB := tb1 45 (by decide +kernel) rfl
theorem kX6_20 : Cond.fieldLink RX6 20 (TX6 1).1 (TX6 1).2.1 (TX6 1).2.2.1 ∈ TB := tb1 46 (by decide +kernel) rfl
theorem kX6_24 : Cond.methodLink RX6 24 yX3_set ∈ TB := tb2 9 (by decide +kernel) rfl
theorem kX6_28 : Cond.methodLink RX6 28 yX3_get ∈ TB := tb2 37 (by decide +kernel) rfl
theorem kX7_11 : Cond.methodLink RX7 11 yX3_init ∈ TB := tb1 185 (by decide +kernel) rfl
theorem kX7_14 : Cond.fieldLink RX7 14 (TX7 0).1 (TX7 0).2.1 (TX7 0).2.2.1 ∈ TB := tb1 186 (by decide +kernel) rfl
theorem kX7_20 : Cond.methodLink RX7 20 yX0_top ∈ TB := tb4 70 (by decide +kernel) rfl
theorem kX7_26 : Cond.fieldLink RX7 26 (TX7 1).1 (TX7 1).2.1 (TX7 1).2.2.1 ∈ TB := tb1 187 (by decide +kernel) rfl
theorem kX7_30 : Cond.fieldLink RX7 30 (TX7 2).1 (TX7 2).2.1 (TX7 2).2.2.1 ∈ TB := tb1 188 (by decide +kernel) rfl
theorem kX7_33 : Cond.methodLink RX7 33 yX0_constant ∈ TB := tb4 71 (by decide +kernel) rfl
theorem kX7_36 : Cond.methodLink RX7 36 yX7_goOn ∈ TB := tb4 72 (by decide +kernel) rfl
theorem kX7_40 : Cond.methodLink RX7 40 yX0_names ∈ TB := tb4 76 (by decide +kernel) rfl
theorem kX7_43 : Cond.methodLink RX7 43 yX0_valuesOf ∈ TB := tb4 77 (by decide +kernel) rfl
theorem kX7_47 : Cond.methodLink RX7 47 yX7_tryValue ∈ TB := tb4 78 (by decide +kernel) rfl
theorem kX7_51 : Cond.methodLink RX7 51 yX3_set ∈ TB := tb4 82 (by decide +kernel) rfl
theorem kX7_55 : Cond.methodLink RX7 55 yX0_costBeside ∈ TB := tb4 83 (by decide +kernel) rfl
theorem kX7_59 : Cond.methodLink RX7 59 yX0_sum ∈ TB := tb4 84 (by decide +kernel) rfl
theorem kX7_63 : Cond.methodLink RX7 63 yX7_lowOf ∈ TB := tb4 85 (by decide +kernel) rfl
theorem kX7_67 : Cond.methodLink RX7 67 yX7_leastBeside ∈ TB := tb4 89 (by decide +kernel) rfl
theorem kX7_70 : Cond.methodLink RX7 70 Lib.Math.min.name ∈ TB ∧ Cond.static Lib.Math.min.name ∈ TB ∧ Cond.initialized "java/lang/Math" ∈ TB ∧ Cond.code Lib.Math.min.name Lib.Math.min.code 2 (some .int) ∈ TB := ⟨tb4 93 (by decide +kernel) rfl, tb2 107 (by decide +kernel) rfl, tb1 4 (by decide +kernel) rfl, tb2 108 rfl rfl⟩
theorem kX8_12 : Cond.fieldLink RX8 12 (TX8 0).1 (TX8 0).2.1 (TX8 0).2.2.1 ∈ TB := tb2 140 (by decide +kernel) rfl
theorem kX8_19 : Cond.fieldLink RX8 19 (TX8 1).1 (TX8 1).2.1 (TX8 1).2.2.1 ∈ TB := tb2 141 (by decide +kernel) rfl
theorem kX8_26 : Cond.fieldLink RX8 26 (TX8 2).1 (TX8 2).2.1 (TX8 2).2.2.1 ∈ TB := tb2 142 (by decide +kernel) rfl
theorem kX8_30 : Cond.fieldLink RX8 30 (TX8 3).1 (TX8 3).2.1 (TX8 3).2.2.1 ∈ TB := tb2 143 (by decide +kernel) rfl
theorem kX8_35 : Cond.methodLink RX8 35 yX3_init ∈ TB := tb1 98 (by decide +kernel) rfl
theorem kX8_38 : Cond.fieldLink RX8 38 (TX8 4).1 (TX8 4).2.1 (TX8 4).2.2.1 ∈ TB := tb2 144 (by decide +kernel) rfl
theorem kX8_45 : Cond.fieldLink RX8 45 (TX8 5).1 (TX8 5).2.1 (TX8 5).2.2.1 ∈ TB := tb2 145 (by decide +kernel) rfl
theorem kX8_51 : Cond.methodLink RX8 51 yX1_init ∈ TB := tb1 119 (by decide +kernel) rfl
theorem kX8_52 : Cond.fieldLink RX8 52 (TX8 6).1 (TX8 6).2.1 (TX8 6).2.2.1 ∈ TB := tb2 146 (by decide +kernel) rfl
theorem kX8_59 : Cond.fieldLink RX8 59 (TX8 7).1 (TX8 7).2.1 (TX8 7).2.2.1 ∈ TB := tb2 147 (by decide +kernel) rfl
theorem kX8_66 : Cond.fieldLink RX8 66 (TX8 8).1 (TX8 8).2.1 (TX8 8).2.2.1 ∈ TB := tb2 148 (by decide +kernel) rfl
theorem kX8_82 : Cond.methodLink RX8 82 yX6_add ∈ TB := tb2 5 (by decide +kernel) rfl
theorem kX8_86 : Cond.methodLink RX8 86 yX2_readAll ∈ TB := tb2 13 (by decide +kernel) rfl
theorem kX8_90 : Cond.methodLink RX8 90 yX6_clear ∈ TB := tb2 136 (by decide +kernel) rfl
theorem kX8_93 : Cond.methodLink RX8 93 yX6_length ∈ TB := tb2 173 (by decide +kernel) rfl
theorem kX8_94 : Cond.methodLink RX8 94 yX0_names ∈ TB := tb2 186 (by decide +kernel) rfl
theorem kX8_97 : Cond.methodLink RX8 97 yX0_takeAll ∈ TB := tb2 190 (by decide +kernel) rfl
theorem kX8_101 : Cond.methodLink RX8 101 yX3_clear ∈ TB := tb2 199 (by decide +kernel) rfl
theorem kX8_102 : Cond.methodLink RX8 102 yX1_clear ∈ TB := tb2 200 (by decide +kernel) rfl
theorem kX8_103 : Cond.methodLink RX8 103 yX0_hasName ∈ TB := tb2 208 (by decide +kernel) rfl
theorem kX8_106 : Cond.methodLink RX8 106 yX0_valuesOf ∈ TB := tb2 209 (by decide +kernel) rfl
theorem kX8_110 : Cond.methodLink RX8 110 yX0_tablesOf ∈ TB := tb2 210 (by decide +kernel) rfl
theorem kX8_113 : Cond.methodLink RX8 113 yX0_shutOf ∈ TB := tb2 214 (by decide +kernel) rfl
theorem kX8_116 : Cond.methodLink RX8 116 yX0_leastSingle ∈ TB := tb2 234 (by decide +kernel) rfl
theorem kX8_119 : Cond.methodLink RX8 119 yX0_hasValue ∈ TB := tb3 2 (by decide +kernel) rfl
theorem kX8_123 : Cond.methodLink RX8 123 yX0_singleCost ∈ TB := tb3 3 (by decide +kernel) rfl
theorem kX8_127 : Cond.methodLink RX8 127 yX0_hasTable ∈ TB := tb3 8 (by decide +kernel) rfl
theorem kX8_130 : Cond.methodLink RX8 130 yX0_nameOn ∈ TB := tb3 9 (by decide +kernel) rfl
theorem kX8_133 : Cond.methodLink RX8 133 yX0_leastOfTable ∈ TB := tb3 10 (by decide +kernel) rfl
theorem kX8_136 : Cond.methodLink RX8 136 yX0_greatestOfTable ∈ TB := tb3 24 (by decide +kernel) rfl
theorem kX8_139 : Cond.methodLink RX8 139 yX0_hasPair ∈ TB := tb3 37 (by decide +kernel) rfl
theorem kX8_143 : Cond.methodLink RX8 143 yX0_pairCost ∈ TB := tb3 38 (by decide +kernel) rfl
theorem kX8_147 : Cond.methodLink RX8 147 yX8_isStep ∈ TB := tb3 43 (by decide +kernel) rfl
theorem kX8_150 : Cond.methodLink RX8 150 yX1_keep ∈ TB := tb3 46 (by decide +kernel) rfl
theorem kX8_153 : Cond.methodLink RX8 153 yX0_growSingle ∈ TB := tb3 55 (by decide +kernel) rfl
theorem kX8_157 : Cond.methodLink RX8 157 yX3_get ∈ TB := tb3 67 (by decide +kernel) rfl
theorem kX8_160 : Cond.methodLink RX8 160 yX3_set ∈ TB := tb3 68 (by decide +kernel) rfl
theorem kX8_164 : Cond.methodLink RX8 164 yX0_totalOf ∈ TB := tb3 73 (by decide +kernel) rfl
theorem kX8_168 : Cond.methodLink RX8 168 yX0_hasValueOn ∈ TB := tb3 85 (by decide +kernel) rfl
theorem kX8_171 : Cond.methodLink RX8 171 yX0_leastPairOf ∈ TB := tb3 89 (by decide +kernel) rfl
theorem kX8_174 : Cond.methodLink RX8 174 yX0_moveToValue ∈ TB := tb3 90 (by decide +kernel) rfl
theorem kX8_178 : Cond.methodLink RX8 178 yX0_moveToTable ∈ TB := tb3 102 (by decide +kernel) rfl
theorem kX8_181 : Cond.methodLink RX8 181 yX0_moveToConstant ∈ TB := tb3 110 (by decide +kernel) rfl
theorem kX8_184 : Cond.methodLink RX8 184 yX0_constant ∈ TB := tb3 114 (by decide +kernel) rfl
theorem kX8_187 : Cond.methodLink RX8 187 yX8_isSweep ∈ TB := tb3 119 (by decide +kernel) rfl
theorem kX8_190 : Cond.methodLink RX8 190 yX5_doOne ∈ TB := tb3 122 (by decide +kernel) rfl
theorem kX8_194 : Cond.methodLink RX8 194 yX5_doTillSettled ∈ TB := tb3 186 (by decide +kernel) rfl
theorem kX8_198 : Cond.methodLink RX8 198 yX1_giveBack ∈ TB := tb3 208 (by decide +kernel) rfl
theorem kX8_202 : Cond.methodLink RX8 202 yX1_size ∈ TB := tb3 216 (by decide +kernel) rfl
theorem kX8_205 : Cond.methodLink RX8 205 yX4_goThrough ∈ TB := tb3 224 (by decide +kernel) rfl
theorem kX8_209 : Cond.methodLink RX8 209 yX4_hasFound ∈ TB := tb4 14 (by decide +kernel) rfl
theorem kX8_213 : Cond.methodLink RX8 213 yX4_leastTotal ∈ TB := tb4 18 (by decide +kernel) rfl
theorem kX8_216 : Cond.methodLink RX8 216 yX4_waysOfLeast ∈ TB := tb4 22 (by decide +kernel) rfl
theorem kX8_219 : Cond.methodLink RX8 219 yX4_firstValueOf ∈ TB := tb4 26 (by decide +kernel) rfl
theorem kX8_222 : Cond.methodLink RX8 222 yX4_choicesBelowTop ∈ TB := tb4 34 (by decide +kernel) rfl
theorem kX8_225 : Cond.methodLink RX8 225 yX4_hasSecond ∈ TB := tb4 38 (by decide +kernel) rfl
theorem kX8_228 : Cond.methodLink RX8 228 yX4_secondTotal ∈ TB := tb4 42 (by decide +kernel) rfl
theorem kX8_231 : Cond.methodLink RX8 231 yX4_commonValues ∈ TB := tb4 50 (by decide +kernel) rfl
theorem kX8_234 : Cond.methodLink RX8 234 yX7_countTries ∈ TB := tb4 66 (by decide +kernel) rfl
theorem kX8_238 : Cond.methodLink RX8 238 yX0_tables ∈ TB := tb4 98 (by decide +kernel) rfl
theorem kX8_241 : Cond.methodLink RX8 241 yX0_top ∈ TB := tb4 99 (by decide +kernel) rfl
theorem kX8_244 : Cond.methodLink RX8 244 yX0_shutInAll ∈ TB := tb4 100 (by decide +kernel) rfl
theorem kX9_7 : Cond.fieldLink RX9 7 (TX9 1).1 (TX9 1).2.1 (TX9 1).2.2.1 ∈ TB := tb4 122 (by decide +kernel) rfl
theorem kX9_13 : Cond.fieldLink RX9 13 (TX9 3).1 (TX9 3).2.1 (TX9 3).2.2.1 ∈ TB := tb4 124 (by decide +kernel) rfl
theorem kX9_16 : Cond.fieldLink RX9 16 (TX9 5).1 (TX9 5).2.1 (TX9 5).2.2.1 ∈ TB := tb4 126 (by decide +kernel) rfl
theorem kX9_19 : Cond.fieldLink RX9 19 (TX9 6).1 (TX9 6).2.1 (TX9 6).2.2.1 ∈ TB := tb4 127 (by decide +kernel) rfl
theorem kX9_22 : Cond.fieldLink RX9 22 (TX9 8).1 (TX9 8).2.1 (TX9 8).2.2.1 ∈ TB := tb4 129 (by decide +kernel) rfl
theorem kX9_25 : Cond.fieldLink RX9 25 (TX9 9).1 (TX9 9).2.1 (TX9 9).2.2.1 ∈ TB := tb4 130 (by decide +kernel) rfl
theorem kX9_28 : Cond.fieldLink RX9 28 (TX9 10).1 (TX9 10).2.1 (TX9 10).2.2.1 ∈ TB := tb4 131 (by decide +kernel) rfl
theorem kX9_31 : Cond.fieldLink RX9 31 (TX9 12).1 (TX9 12).2.1 (TX9 12).2.2.1 ∈ TB := tb4 133 (by decide +kernel) rfl
theorem kX9_34 : Cond.fieldLink RX9 34 (TX9 14).1 (TX9 14).2.1 (TX9 14).2.2.1 ∈ TB := tb4 135 (by decide +kernel) rfl
theorem kX9_37 : Cond.fieldLink RX9 37 (TX9 16).1 (TX9 16).2.1 (TX9 16).2.2.1 ∈ TB := tb4 137 (by decide +kernel) rfl
theorem kX9_40 : Cond.fieldLink RX9 40 (TX9 17).1 (TX9 17).2.1 (TX9 17).2.2.1 ∈ TB := tb4 138 (by decide +kernel) rfl
theorem kX9_43 : Cond.fieldLink RX9 43 (TX9 19).1 (TX9 19).2.1 (TX9 19).2.2.1 ∈ TB := tb4 140 (by decide +kernel) rfl
theorem kX9_46 : Cond.fieldLink RX9 46 (TX9 22).1 (TX9 22).2.1 (TX9 22).2.2.1 ∈ TB := tb4 143 (by decide +kernel) rfl
theorem kX9_49 : Cond.fieldLink RX9 49 (TX9 23).1 (TX9 23).2.1 (TX9 23).2.2.1 ∈ TB := tb4 144 (by decide +kernel) rfl
theorem kX9_52 : Cond.fieldLink RX9 52 (TX9 24).1 (TX9 24).2.1 (TX9 24).2.2.1 ∈ TB := tb4 145 (by decide +kernel) rfl
theorem kX9_55 : Cond.fieldLink RX9 55 (TX9 25).1 (TX9 25).2.1 (TX9 25).2.2.1 ∈ TB := tb4 146 (by decide +kernel) rfl
theorem kX9_58 : Cond.fieldLink RX9 58 (TX9 2).1 (TX9 2).2.1 (TX9 2).2.2.1 ∈ TB := tb4 123 (by decide +kernel) rfl
theorem kX9_62 : Cond.fieldLink RX9 62 (TX9 7).1 (TX9 7).2.1 (TX9 7).2.2.1 ∈ TB := tb4 128 (by decide +kernel) rfl
theorem kX9_65 : Cond.fieldLink RX9 65 (TX9 4).1 (TX9 4).2.1 (TX9 4).2.2.1 ∈ TB := tb4 125 (by decide +kernel) rfl
theorem kX9_68 : Cond.methodLink RX9 68 yX9_begins ∈ TB := tb4 117 (by decide +kernel) rfl
theorem kX9_72 : Cond.fieldLink RX9 72 (TX9 0).1 (TX9 0).2.1 (TX9 0).2.2.1 ∈ TB := tb4 121 (by decide +kernel) rfl
theorem kX9_75 : Cond.fieldLink RX9 75 (TX9 20).1 (TX9 20).2.1 (TX9 20).2.2.1 ∈ TB := tb4 141 (by decide +kernel) rfl
theorem kX9_78 : Cond.methodLink RX9 78 yX9_letterAt ∈ TB := tb4 239 (by decide +kernel) rfl
theorem kX9_82 : Cond.fieldLink RX9 82 (TX9 21).1 (TX9 21).2.1 (TX9 21).2.2.1 ∈ TB := tb4 142 (by decide +kernel) rfl
theorem kX9_85 : Cond.methodLink RX9 85 yX9_isIn ∈ TB := tb5 3 (by decide +kernel) rfl
theorem kX9_89 : Cond.methodLink RX9 89 yX9_number ∈ TB := tb4 235 (by decide +kernel) rfl
theorem kX9_92 : Cond.fieldLink RX9 92 (TX9 13).1 (TX9 13).2.1 (TX9 13).2.2.1 ∈ TB := tb4 134 (by decide +kernel) rfl
theorem kX9_95 : Cond.methodLink RX9 95 yX9_more ∈ TB := tb5 14 (by decide +kernel) rfl
theorem kX9_99 : Cond.fieldLink RX9 99 (TX9 15).1 (TX9 15).2.1 (TX9 15).2.2.1 ∈ TB := tb4 136 (by decide +kernel) rfl
theorem kX9_102 : Cond.fieldLink RX9 102 (TX9 18).1 (TX9 18).2.1 (TX9 18).2.2.1 ∈ TB := tb4 139 (by decide +kernel) rfl
theorem kX9_105 : Cond.methodLink RX9 105 yX9_readsName ∈ TB := tb5 6 (by decide +kernel) rfl
theorem kX9_109 : Cond.methodLink RX9 109 yX9_readsSingle ∈ TB := tb5 10 (by decide +kernel) rfl
theorem kX9_112 : Cond.methodLink RX9 112 yX9_readsTable ∈ TB := tb5 18 (by decide +kernel) rfl
theorem kX9_115 : Cond.methodLink RX9 115 yX9_readsPair ∈ TB := tb5 22 (by decide +kernel) rfl
theorem kX9_118 : Cond.methodLink RX9 118 yX9_readsItem ∈ TB := tb4 231 (by decide +kernel) rfl
theorem kX9_121 : Cond.methodLink RX9 121 yX9_reads ∈ TB := tb4 227 (by decide +kernel) rfl
theorem kX9_125 : Cond.methodLink RX9 125 yX9_sum ∈ TB := tb5 30 (by decide +kernel) rfl
theorem kX9_129 : Cond.fieldLink RX9 129 (TX9 11).1 (TX9 11).2.1 (TX9 11).2.2.1 ∈ TB := tb4 132 (by decide +kernel) rfl
theorem kX9_132 : Cond.methodLink RX9 132 yX9_isName ∈ TB := tb5 38 (by decide +kernel) rfl
theorem kX9_135 : Cond.methodLink RX9 135 yX9_leastSingle ∈ TB := tb5 42 (by decide +kernel) rfl
theorem kX9_138 : Cond.methodLink RX9 138 yX9_isShut ∈ TB := tb5 46 (by decide +kernel) rfl
theorem kX9_141 : Cond.methodLink RX9 141 yX9_isValue ∈ TB := tb5 54 (by decide +kernel) rfl
theorem kX9_144 : Cond.methodLink RX9 144 yX9_isTable ∈ TB := tb5 62 (by decide +kernel) rfl
theorem kX9_147 : Cond.methodLink RX9 147 yX9_nameOf ∈ TB := tb5 66 (by decide +kernel) rfl
theorem kX9_150 : Cond.methodLink RX9 150 yX9_pairAt ∈ TB := tb5 70 (by decide +kernel) rfl
theorem kX9_154 : Cond.methodLink RX9 154 yX9_keeps ∈ TB := tb5 85 (by decide +kernel) rfl
theorem kX9_157 : Cond.methodLink RX9 157 yX9_less ∈ TB := tb5 109 (by decide +kernel) rfl
theorem kX9_160 : Cond.methodLink RX9 160 yX9_isMoved ∈ TB := tb5 97 (by decide +kernel) rfl
theorem kX9_164 : Cond.methodLink RX9 164 yX9_leastPair ∈ TB := tb5 101 (by decide +kernel) rfl
theorem kX9_168 : Cond.methodLink RX9 168 yX9_projects ∈ TB := tb5 105 (by decide +kernel) rfl
theorem kX9_171 : Cond.methodLink RX9 171 yX9_extendsBy ∈ TB := tb5 117 (by decide +kernel) rfl
theorem kX9_174 : Cond.methodLink RX9 174 yX9_raises ∈ TB := tb5 125 (by decide +kernel) rfl
theorem kX9_178 : Cond.methodLink RX9 178 yX9_shuts ∈ TB := tb5 141 (by decide +kernel) rfl
theorem kX9_182 : Cond.methodLink RX9 182 yX9_arcs ∈ TB := tb5 137 (by decide +kernel) rfl
theorem kX9_185 : Cond.methodLink RX9 185 yX9_directs ∈ TB := tb5 145 (by decide +kernel) rfl
theorem kX9_188 : Cond.methodLink RX9 188 yX9_nodes ∈ TB := tb5 149 (by decide +kernel) rfl
theorem kX9_191 : Cond.methodLink RX9 191 yX9_sweeps ∈ TB := tb5 133 (by decide +kernel) rfl
theorem kX9_194 : Cond.methodLink RX9 194 yX9_settles ∈ TB := tb5 157 (by decide +kernel) rfl
theorem kX9_197 : Cond.methodLink RX9 197 yX9_totalOf ∈ TB := tb5 169 (by decide +kernel) rfl
theorem kX9_200 : Cond.fieldLink RX9 200 (TX9 26).1 (TX9 26).2.1 (TX9 26).2.2.1 ∈ TB := tb4 147 (by decide +kernel) rfl
theorem kX9_203 : Cond.fieldLink RX9 203 (TX9 28).1 (TX9 28).2.1 (TX9 28).2.2.1 ∈ TB := tb4 149 (by decide +kernel) rfl
theorem kX9_206 : Cond.fieldLink RX9 206 (TX9 27).1 (TX9 27).2.1 (TX9 27).2.2.1 ∈ TB := tb4 148 (by decide +kernel) rfl
theorem kX9_209 : Cond.fieldLink RX9 209 (TX9 30).1 (TX9 30).2.1 (TX9 30).2.2.1 ∈ TB := tb4 151 (by decide +kernel) rfl
theorem kX9_212 : Cond.fieldLink RX9 212 (TX9 29).1 (TX9 29).2.1 (TX9 29).2.2.1 ∈ TB := tb4 150 (by decide +kernel) rfl
theorem kX9_215 : Cond.methodLink RX9 215 yX9_choices ∈ TB := tb5 181 (by decide +kernel) rfl
theorem kX9_218 : Cond.methodLink RX9 218 yX9_takes ∈ TB := tb5 185 (by decide +kernel) rfl
theorem kX9_221 : Cond.methodLink RX9 221 yX9_meets ∈ TB := tb5 189 (by decide +kernel) rfl
theorem kX9_224 : Cond.methodLink RX9 224 yX9_looks ∈ TB := tb5 177 (by decide +kernel) rfl
theorem kX9_227 : Cond.methodLink RX9 227 yX9_least ∈ TB := tb5 205 (by decide +kernel) rfl
theorem kX9_230 : Cond.methodLink RX9 230 yX9_pairsWith ∈ TB := tb5 221 (by decide +kernel) rfl
theorem kX9_233 : Cond.methodLink RX9 233 yX9_lowOf ∈ TB := tb5 217 (by decide +kernel) rfl
theorem kL_9 : Cond.methodLink RL 9 yX8_init ∈ TB := tb1 19 (by decide +kernel) rfl
theorem kL_12 : Cond.methodLink RL 12 yX9_init ∈ TB := tb4 113 (by decide +kernel) rfl
theorem kL_13 : Cond.methodLink RL 13 yX8_write ∈ TB := tb2 169 (by decide +kernel) rfl
theorem kL_17 : Cond.methodLink RL 17 yX9_write ∈ TB := tb4 215 (by decide +kernel) rfl
theorem kL_18 : Cond.methodLink RL 18 yX8_wipe ∈ TB := tb2 174 (by decide +kernel) rfl
theorem kL_22 : Cond.methodLink RL 22 yX9_wipe ∈ TB := tb4 219 (by decide +kernel) rfl
theorem kL_23 : Cond.methodLink RL 23 yX8_fault ∈ TB := tb2 178 (by decide +kernel) rfl
theorem kL_26 : Cond.methodLink RL 26 yX9_fault ∈ TB := tb4 223 (by decide +kernel) rfl
theorem kL_27 : Cond.methodLink RL 27 yX8_lay ∈ TB := tb2 182 (by decide +kernel) rfl
theorem kL_30 : Cond.methodLink RL 30 yX9_lay ∈ TB := tb5 26 (by decide +kernel) rfl
theorem kL_31 : Cond.methodLink RL 31 yX8_name ∈ TB := tb2 204 (by decide +kernel) rfl
theorem kL_35 : Cond.methodLink RL 35 yX9_name ∈ TB := tb5 34 (by decide +kernel) rfl
theorem kL_36 : Cond.methodLink RL 36 yX8_single ∈ TB := tb2 238 (by decide +kernel) rfl
theorem kL_39 : Cond.methodLink RL 39 yX9_single ∈ TB := tb5 50 (by decide +kernel) rfl
theorem kL_40 : Cond.methodLink RL 40 yX8_table ∈ TB := tb3 4 (by decide +kernel) rfl
theorem kL_43 : Cond.methodLink RL 43 yX9_table ∈ TB := tb5 58 (by decide +kernel) rfl
theorem kL_44 : Cond.methodLink RL 44 yX8_pair ∈ TB := tb3 33 (by decide +kernel) rfl
theorem kL_48 : Cond.methodLink RL 48 yX9_pair ∈ TB := tb5 73 (by decide +kernel) rfl
theorem kL_49 : Cond.methodLink RL 49 yX8_grow ∈ TB := tb3 39 (by decide +kernel) rfl
theorem kL_52 : Cond.methodLink RL 52 yX9_grow ∈ TB := tb5 81 (by decide +kernel) rfl
theorem kL_53 : Cond.methodLink RL 53 yX8_choose ∈ TB := tb3 63 (by decide +kernel) rfl
theorem kL_56 : Cond.methodLink RL 56 yX9_choose ∈ TB := tb5 89 (by decide +kernel) rfl
theorem kL_57 : Cond.methodLink RL 57 yX8_total ∈ TB := tb3 69 (by decide +kernel) rfl
theorem kL_60 : Cond.methodLink RL 60 yX9_total ∈ TB := tb5 165 (by decide +kernel) rfl
theorem kL_61 : Cond.methodLink RL 61 yX8_project ∈ TB := tb3 81 (by decide +kernel) rfl
theorem kL_65 : Cond.methodLink RL 65 yX9_project ∈ TB := tb5 93 (by decide +kernel) rfl
theorem kL_66 : Cond.methodLink RL 66 yX8_extend ∈ TB := tb3 98 (by decide +kernel) rfl
theorem kL_69 : Cond.methodLink RL 69 yX9_extend ∈ TB := tb5 113 (by decide +kernel) rfl
theorem kL_70 : Cond.methodLink RL 70 yX8_raise ∈ TB := tb3 106 (by decide +kernel) rfl
theorem kL_73 : Cond.methodLink RL 73 yX9_raise ∈ TB := tb5 121 (by decide +kernel) rfl
theorem kL_74 : Cond.methodLink RL 74 yX8_sweep ∈ TB := tb3 115 (by decide +kernel) rfl
theorem kL_77 : Cond.methodLink RL 77 yX9_sweep ∈ TB := tb5 129 (by decide +kernel) rfl
theorem kL_78 : Cond.methodLink RL 78 yX8_settle ∈ TB := tb3 182 (by decide +kernel) rfl
theorem kL_81 : Cond.methodLink RL 81 yX9_settle ∈ TB := tb5 153 (by decide +kernel) rfl
theorem kL_82 : Cond.methodLink RL 82 yX8_bound ∈ TB := tb3 200 (by decide +kernel) rfl
theorem kL_85 : Cond.methodLink RL 85 yX9_bound ∈ TB := tb5 161 (by decide +kernel) rfl
theorem kL_86 : Cond.methodLink RL 86 yX8_undo ∈ TB := tb3 204 (by decide +kernel) rfl
theorem kL_89 : Cond.methodLink RL 89 yX9_undo ∈ TB := tb5 77 (by decide +kernel) rfl
theorem kL_90 : Cond.methodLink RL 90 yX8_best ∈ TB := tb3 220 (by decide +kernel) rfl
theorem kL_93 : Cond.methodLink RL 93 yX9_best ∈ TB := tb5 173 (by decide +kernel) rfl
theorem kL_94 : Cond.methodLink RL 94 yX8_next ∈ TB := tb4 30 (by decide +kernel) rfl
theorem kL_97 : Cond.methodLink RL 97 yX9_next ∈ TB := tb5 193 (by decide +kernel) rfl
theorem kL_98 : Cond.methodLink RL 98 yX8_backbone ∈ TB := tb4 46 (by decide +kernel) rfl
theorem kL_101 : Cond.methodLink RL 101 yX9_backbone ∈ TB := tb5 197 (by decide +kernel) rfl
theorem kL_102 : Cond.methodLink RL 102 yX8_with ∈ TB := tb4 54 (by decide +kernel) rfl
theorem kL_105 : Cond.methodLink RL 105 yX9_with ∈ TB := tb5 201 (by decide +kernel) rfl
theorem kL_106 : Cond.methodLink RL 106 yX8_without ∈ TB := tb4 58 (by decide +kernel) rfl
theorem kL_109 : Cond.methodLink RL 109 yX9_without ∈ TB := tb5 209 (by decide +kernel) rfl
theorem kL_110 : Cond.methodLink RL 110 yX8_tries ∈ TB := tb4 62 (by decide +kernel) rfl
theorem kL_113 : Cond.methodLink RL 113 yX9_tries ∈ TB := tb5 213 (by decide +kernel) rfl
theorem kL_114 : Cond.methodLink RL 114 yX8_count ∈ TB := tb4 94 (by decide +kernel) rfl
theorem kL_117 : Cond.methodLink RL 117 yX9_count ∈ TB := tb5 225 (by decide +kernel) rfl
theorem kJ6_265 : Cond.constant RJ6 265 (1431655765 : Int32) ∈ TB := tb4 108 (by decide +kernel) rfl
theorem kJ6_266 : Cond.constant RJ6 266 (858993459 : Int32) ∈ TB := tb4 109 (by decide +kernel) rfl
theorem kJ6_267 : Cond.constant RJ6 267 (252645135 : Int32) ∈ TB := tb4 110 (by decide +kernel) rfl
end
section
-- X3_clear
def fX3_clear_2_b (L : Nat → Nat) (o : Nat) (self2 : Int32 → Mem → Option Mem) (v1 : Int32) (μ : Mem) : Option Mem :=
  (if (nI (L (o + 1))) ≤ v1 then some μ else ast L μ (o + 1) v1 (0 : Int32) (fun μ1 => lt' (v1 + 1) (fun a2 => self2 a2 μ1)))
def fX3_clear_2 (L : Nat → Nat) (o : Nat) : Nat → Int32 → Mem → Option Mem
  | 0, _, _ => none
  | k + 1, v1, μ => fX3_clear_2_b L o (fX3_clear_2 L o k) v1 μ
def fX3_clear (L : Nat → Nat) (o : Nat) (μ : Mem) : Option Mem :=
  fX3_clear_2 L o FU (0 : Int32) μ
-- X0_clear
def fX0_clear (L : Nat → Nat) (o : Nat) (μ : Mem) : Option Mem :=
  pu μ o 4 (0 : Int32) (fun μ1 => pu μ1 o 5 (0 : Int32) (fun μ2 => pu μ2 o 6 (20 : Int32) (fun μ3 => bv (fX3_clear L (o + 7) μ3) (fun μ4 => some μ4))))
-- X3_get
def fX3_get (L : Nat → Nat) (o : Nat) (v1 : Int32) (μ : Mem) : Option (Int32 × Mem) :=
  (if v1 < 0 then some ((0 : Int32), μ) else (if (nI (L (o + 1))) ≤ v1 then some ((0 : Int32), μ) else ald L μ (o + 1) v1 (fun a1 => some (a1, μ))))
-- X3_takeFrom
def fX3_takeFrom_2_b (L : Nat → Nat) (o : Nat) (r1 : Nat) (self2 : Int32 → Mem → Option Mem) (v2 : Int32) (μ : Mem) : Option Mem :=
  (if (nI (L (o + 1))) ≤ v2 then some μ else bd (fX3_get L r1 v2 μ) (fun b2 μ1 => ast L μ1 (o + 1) v2 b2 (fun μ3 => lt' (v2 + 1) (fun a4 => self2 a4 μ3))))
def fX3_takeFrom_2 (L : Nat → Nat) (o : Nat) (r1 : Nat) : Nat → Int32 → Mem → Option Mem
  | 0, _, _ => none
  | k + 1, v2, μ => fX3_takeFrom_2_b L o r1 (fX3_takeFrom_2 L o r1 k) v2 μ
def fX3_takeFrom (L : Nat → Nat) (o : Nat) (r1 : Nat) (μ : Mem) : Option Mem :=
  fX3_takeFrom_2 L o r1 FU (0 : Int32) μ
-- X0_takeAll
def fX0_takeAll (L : Nat → Nat) (o : Nat) (r1 : Nat) (μ : Mem) : Option Mem :=
  pu μ o 4 (μ r1 4) (fun μ1 => pu μ1 o 5 (μ1 r1 5) (fun μ2 => pu μ2 o 6 (μ2 r1 6) (fun μ3 => bv (fX3_takeFrom L (o + 1) (r1 + 1) μ3) (fun μ4 => bv (fX3_takeFrom L (o + 3) (r1 + 3) μ4) (fun μ5 => bv (fX3_takeFrom L (o + 5) (r1 + 5) μ5) (fun μ6 => bv (fX3_takeFrom L (o + 7) (r1 + 7) μ6) (fun μ7 => some μ7)))))))
-- X0_tellTop
def fX0_tellTop (L : Nat → Nat) (o : Nat) (v1 : Int32) (μ : Mem) : Option (Int32 × Mem) :=
  (if v1 < (1 : Int32) then some ((0 : Int32), μ) else (if v1 ≤ (99 : Int32) then pu μ o 6 v1 (fun μ1 => some ((1 : Int32), μ1)) else some ((0 : Int32), μ)))
-- X3_set
def fX3_set (L : Nat → Nat) (o : Nat) (v1 v2 : Int32) (μ : Mem) : Option Mem :=
  (if v1 < 0 then some μ else (if (nI (L (o + 1))) ≤ v1 then some μ else ast L μ (o + 1) v1 v2 (fun μ1 => some μ1)))
-- X0_addName
def fX0_addName (L : Nat → Nat) (o : Nat) (v1 : Int32) (μ : Mem) : Option (Int32 × Mem) :=
  (if (6 : Int32) ≤ (μ o 4) then some ((0 : Int32), μ) else (if v1 < (2 : Int32) then some ((0 : Int32), μ) else (if v1 ≤ (4 : Int32) then bv (fX3_set L (o + 1) (μ o 4) v1 μ) (fun μ1 => pu μ1 o 4 ((μ1 o 4) + (1 : Int32)) (fun μ2 => some ((1 : Int32), μ2))) else some ((0 : Int32), μ))))
-- X0_hasValue
def fX0_hasValue (L : Nat → Nat) (o : Nat) (v1 v2 : Int32) (μ : Mem) : Option (Int32 × Mem) :=
  (if v1 < 0 then some ((0 : Int32), μ) else (if (μ o 4) ≤ v1 then some ((0 : Int32), μ) else (if v2 < 0 then some ((0 : Int32), μ) else bd (fX3_get L (o + 1) v1 μ) (fun b2 μ1 => (if b2 ≤ v2 then some ((0 : Int32), μ1) else some ((1 : Int32), μ1))))))
-- X0_singleAt
def fX0_singleAt (L : Nat → Nat) (v0 v1 : Int32) (μ : Mem) : Option (Int32 × Mem) :=
  some ((((1 : Int32) + ((4 : Int32) * v0)) + v1), μ)
-- X0_setSingle
def fX0_setSingle (L : Nat → Nat) (o : Nat) (v1 v2 v3 : Int32) (μ : Mem) : Option Mem :=
  bd (fX0_singleAt L v1 v2 μ) (fun b2 μ1 => bv (fX3_set L (o + 7) b2 v3 μ1) (fun μ3 => some μ3))
-- X0_tellSingle
def fX0_tellSingle (L : Nat → Nat) (o : Nat) (v1 v2 v3 : Int32) (μ : Mem) : Option (Int32 × Mem) :=
  bd (fX0_hasValue L o v1 v2 μ) (fun b2 μ1 => (if b2 = 0 then some ((0 : Int32), μ1) else bv (fX0_setSingle L o v1 v2 v3 μ1) (fun μ3 => some ((1 : Int32), μ3))))
-- X0_hasName
def fX0_hasName (L : Nat → Nat) (o : Nat) (v1 : Int32) (μ : Mem) : Option (Int32 × Mem) :=
  (if v1 < 0 then some ((0 : Int32), μ) else (if (μ o 4) ≤ v1 then some ((0 : Int32), μ) else some ((1 : Int32), μ)))
-- X0_nameOn
def fX0_nameOn (L : Nat → Nat) (o : Nat) (v1 v2 : Int32) (μ : Mem) : Option (Int32 × Mem) :=
  (if v2 = 0 then bd (fX3_get L (o + 3) v1 μ) (fun b4 μ3 => some (b4, μ3)) else bd (fX3_get L (o + 5) v1 μ) (fun b2 μ1 => some (b2, μ1)))
-- X0_isJoined
def fX0_isJoined_32 (L : Nat → Nat) (o : Nat) (self2 : Int32 → Int32 → Int32 → Mem → Option (Int32 × Mem)) (v1 v2 v3 : Int32) (μ : Mem) : Option (Int32 × Mem) :=
  lt' (v3 + 1) (fun a1 => self2 v1 v2 a1 μ)
def fX0_isJoined_2_b (L : Nat → Nat) (o : Nat) (self2 : Int32 → Int32 → Int32 → Mem → Option (Int32 × Mem)) (v1 v2 v3 : Int32) (μ : Mem) : Option (Int32 × Mem) :=
  (if (μ o 5) ≤ v3 then some ((0 : Int32), μ) else bd (fX0_nameOn L o v3 (0 : Int32) μ) (fun b3 μ2 => (if b3 = v1 then bd (fX0_nameOn L o v3 (1 : Int32) μ2) (fun b5 μ4 => (if b5 = v2 then some ((1 : Int32), μ4) else fX0_isJoined_32 L o self2 v1 v2 v3 μ4)) else fX0_isJoined_32 L o self2 v1 v2 v3 μ2)))
def fX0_isJoined_2 (L : Nat → Nat) (o : Nat) : Nat → Int32 → Int32 → Int32 → Mem → Option (Int32 × Mem)
  | 0, _, _, _, _ => none
  | k + 1, v1, v2, v3, μ => fX0_isJoined_2_b L o (fX0_isJoined_2 L o k) v1 v2 v3 μ
def fX0_isJoined (L : Nat → Nat) (o : Nat) (v1 v2 : Int32) (μ : Mem) : Option (Int32 × Mem) :=
  fX0_isJoined_2 L o FU v1 v2 (0 : Int32) μ
-- X0_valuesOf
def fX0_valuesOf (L : Nat → Nat) (o : Nat) (v1 : Int32) (μ : Mem) : Option (Int32 × Mem) :=
  bd (fX3_get L (o + 1) v1 μ) (fun b2 μ1 => some (b2, μ1))
-- X0_pairAt
def fX0_pairAt (L : Nat → Nat) (v0 v1 v2 : Int32) (μ : Mem) : Option (Int32 × Mem) :=
  some (((((25 : Int32) + ((16 : Int32) * v0)) + ((4 : Int32) * v1)) + v2), μ)
-- X0_setPair
def fX0_setPair (L : Nat → Nat) (o : Nat) (v1 v2 v3 v4 : Int32) (μ : Mem) : Option Mem :=
  bd (fX0_pairAt L v1 v2 v3 μ) (fun b2 μ1 => bv (fX3_set L (o + 7) b2 v4 μ1) (fun μ3 => some μ3))
-- X0_addTable
def fX0_addTable_80_b (L : Nat → Nat) (o : Nat) (self80 : Int32 → Int32 → Int32 → Int32 → Int32 → Mem → Option (Int32 × Mem)) (v1 v2 v3 v4 v5 : Int32) (μ : Mem) : Option (Int32 × Mem) :=
  bd (fX0_valuesOf L o v1 μ) (fun b2 μ1 => bd (fX0_valuesOf L o v2 μ1) (fun b4 μ3 => lt' (if b4 < b2 then b4 else b2) (fun a5 => (if a5 ≤ v5 then some ((1 : Int32), μ3) else bv (fX0_setPair L o v4 v5 v5 v3 μ3) (fun μ6 => lt' (v5 + 1) (fun a7 => self80 v1 v2 v3 v4 a7 μ6))))))
def fX0_addTable_80 (L : Nat → Nat) (o : Nat) : Nat → Int32 → Int32 → Int32 → Int32 → Int32 → Mem → Option (Int32 × Mem)
  | 0, _, _, _, _, _, _ => none
  | k + 1, v1, v2, v3, v4, v5, μ => fX0_addTable_80_b L o (fX0_addTable_80 L o k) v1 v2 v3 v4 v5 μ
def fX0_addTable (L : Nat → Nat) (o : Nat) (v1 v2 v3 : Int32) (μ : Mem) : Option (Int32 × Mem) :=
  (if (9 : Int32) ≤ (μ o 5) then some ((0 : Int32), μ) else bd (fX0_hasName L o v1 μ) (fun b9 μ8 => (if b9 = 0 then some ((0 : Int32), μ8) else bd (fX0_hasName L o v2 μ8) (fun b11 μ10 => (if b11 = 0 then some ((0 : Int32), μ10) else (if v2 ≤ v1 then some ((0 : Int32), μ10) else bd (fX0_isJoined L o v1 v2 μ10) (fun b13 μ12 => (if b13 = 0 then lt' (μ12 o 5) (fun a14 => bv (fX3_set L (o + 3) a14 v1 μ12) (fun μ15 => bv (fX3_set L (o + 5) a14 v2 μ15) (fun μ16 => pu μ16 o 5 ((μ16 o 5) + (1 : Int32)) (fun μ17 => fX0_addTable_80 L o FU v1 v2 v3 a14 (0 : Int32) μ17)))) else some ((0 : Int32), μ12)))))))))
-- X0_hasTable
def fX0_hasTable (L : Nat → Nat) (o : Nat) (v1 : Int32) (μ : Mem) : Option (Int32 × Mem) :=
  (if v1 < 0 then some ((0 : Int32), μ) else (if (μ o 5) ≤ v1 then some ((0 : Int32), μ) else some ((1 : Int32), μ)))
-- X0_valuesOn
def fX0_valuesOn_27 (L : Nat → Nat) (o : Nat) (s0 : Int32) (μ : Mem) : Option (Int32 × Mem) :=
  bd (fX3_get L (o + 1) s0 μ) (fun b2 μ1 => some (b2, μ1))
def fX0_valuesOn (L : Nat → Nat) (o : Nat) (v1 v2 : Int32) (μ : Mem) : Option (Int32 × Mem) :=
  (if v2 = 0 then bd (fX3_get L (o + 3) v1 μ) (fun b6 μ5 => fX0_valuesOn_27 L o b6 μ5) else bd (fX3_get L (o + 5) v1 μ) (fun b4 μ3 => fX0_valuesOn_27 L o b4 μ3))
-- X0_hasPair
def fX0_hasPair (L : Nat → Nat) (o : Nat) (v1 v2 v3 : Int32) (μ : Mem) : Option (Int32 × Mem) :=
  bd (fX0_hasTable L o v1 μ) (fun b2 μ1 => (if b2 = 0 then some ((0 : Int32), μ1) else (if v2 < 0 then some ((0 : Int32), μ1) else bd (fX0_valuesOn L o v1 (0 : Int32) μ1) (fun b4 μ3 => (if b4 ≤ v2 then some ((0 : Int32), μ3) else (if v3 < 0 then some ((0 : Int32), μ3) else bd (fX0_valuesOn L o v1 (1 : Int32) μ3) (fun b6 μ5 => (if b6 ≤ v3 then some ((0 : Int32), μ5) else some ((1 : Int32), μ5)))))))))
-- X0_tellPair
def fX0_tellPair (L : Nat → Nat) (o : Nat) (v1 v2 v3 v4 : Int32) (μ : Mem) : Option (Int32 × Mem) :=
  bd (fX0_hasPair L o v1 v2 v3 μ) (fun b2 μ1 => (if b2 = 0 then some ((0 : Int32), μ1) else bv (fX0_setPair L o v1 v2 v3 v4 μ1) (fun μ3 => some ((1 : Int32), μ3))))
-- X0_keepToTop
def fX0_keepToTop_2_b (L : Nat → Nat) (o : Nat) (self2 : Int32 → Mem → Option Mem) (v1 : Int32) (μ : Mem) : Option Mem :=
  (if (169 : Int32) ≤ v1 then some μ else bd (fX3_get L (o + 7) v1 μ) (fun b2 μ1 => lt' (if b2 < (μ o 6) then b2 else (μ o 6)) (fun a3 => bv (fX3_set L (o + 7) v1 a3 μ1) (fun μ4 => lt' (v1 + 1) (fun a5 => self2 a5 μ4)))))
def fX0_keepToTop_2 (L : Nat → Nat) (o : Nat) : Nat → Int32 → Mem → Option Mem
  | 0, _, _ => none
  | k + 1, v1, μ => fX0_keepToTop_2_b L o (fX0_keepToTop_2 L o k) v1 μ
def fX0_keepToTop (L : Nat → Nat) (o : Nat) (μ : Mem) : Option Mem :=
  fX0_keepToTop_2 L o FU (0 : Int32) μ
-- X0_names
def fX0_names (L : Nat → Nat) (o : Nat) (μ : Mem) : Option (Int32 × Mem) :=
  some ((μ o 4), μ)
-- X0_tables
def fX0_tables (L : Nat → Nat) (o : Nat) (μ : Mem) : Option (Int32 × Mem) :=
  some ((μ o 5), μ)
-- X0_top
def fX0_top (L : Nat → Nat) (o : Nat) (μ : Mem) : Option (Int32 × Mem) :=
  some ((μ o 6), μ)
-- X0_hasValueOn
def fX0_hasValueOn_17 (L : Nat → Nat) (o : Nat) (v1 v2 v3 : Int32) (μ : Mem) : Option (Int32 × Mem) :=
  (if v3 < 0 then some ((0 : Int32), μ) else bd (fX0_valuesOn L o v1 v2 μ) (fun b2 μ1 => (if b2 ≤ v3 then some ((0 : Int32), μ1) else some ((1 : Int32), μ1))))
def fX0_hasValueOn (L : Nat → Nat) (o : Nat) (v1 v2 v3 : Int32) (μ : Mem) : Option (Int32 × Mem) :=
  bd (fX0_hasTable L o v1 μ) (fun b4 μ3 => (if b4 = 0 then some ((0 : Int32), μ3) else (if v2 = 0 then fX0_hasValueOn_17 L o v1 v2 v3 μ3 else (if v2 = (1 : Int32) then fX0_hasValueOn_17 L o v1 v2 v3 μ3 else some ((0 : Int32), μ3)))))
-- X0_tablesOf
def fX0_tablesOf_38 (L : Nat → Nat) (o : Nat) (self4 : Int32 → Int32 → Int32 → Mem → Option (Int32 × Mem)) (v1 v2 v3 : Int32) (μ : Mem) : Option (Int32 × Mem) :=
  lt' (v3 + 1) (fun a1 => self4 v1 v2 a1 μ)
def fX0_tablesOf_32 (L : Nat → Nat) (o : Nat) (self4 : Int32 → Int32 → Int32 → Mem → Option (Int32 × Mem)) (v1 v2 v3 : Int32) (μ : Mem) : Option (Int32 × Mem) :=
  lt' (v2 ||| ((1 : Int32) <<< (v3 &&& 31))) (fun a2 => fX0_tablesOf_38 L o self4 v1 a2 v3 μ)
def fX0_tablesOf_4_b (L : Nat → Nat) (o : Nat) (self4 : Int32 → Int32 → Int32 → Mem → Option (Int32 × Mem)) (v1 v2 v3 : Int32) (μ : Mem) : Option (Int32 × Mem) :=
  (if (μ o 5) ≤ v3 then some (v2, μ) else bd (fX0_nameOn L o v3 (0 : Int32) μ) (fun b4 μ3 => (if b4 = v1 then fX0_tablesOf_32 L o self4 v1 v2 v3 μ3 else bd (fX0_nameOn L o v3 (1 : Int32) μ3) (fun b6 μ5 => (if b6 = v1 then fX0_tablesOf_32 L o self4 v1 v2 v3 μ5 else fX0_tablesOf_38 L o self4 v1 v2 v3 μ5)))))
def fX0_tablesOf_4 (L : Nat → Nat) (o : Nat) : Nat → Int32 → Int32 → Int32 → Mem → Option (Int32 × Mem)
  | 0, _, _, _, _ => none
  | k + 1, v1, v2, v3, μ => fX0_tablesOf_4_b L o (fX0_tablesOf_4 L o k) v1 v2 v3 μ
def fX0_tablesOf (L : Nat → Nat) (o : Nat) (v1 : Int32) (μ : Mem) : Option (Int32 × Mem) :=
  fX0_tablesOf_4 L o FU v1 (0 : Int32) (0 : Int32) μ
-- X0_constant
def fX0_constant (L : Nat → Nat) (o : Nat) (μ : Mem) : Option (Int32 × Mem) :=
  bd (fX3_get L (o + 7) (0 : Int32) μ) (fun b2 μ1 => some (b2, μ1))
-- X0_singleCost
def fX0_singleCost (L : Nat → Nat) (o : Nat) (v1 v2 : Int32) (μ : Mem) : Option (Int32 × Mem) :=
  bd (fX0_singleAt L v1 v2 μ) (fun b2 μ1 => bd (fX3_get L (o + 7) b2 μ1) (fun b4 μ3 => some (b4, μ3)))
-- X0_pairCost
def fX0_pairCost (L : Nat → Nat) (o : Nat) (v1 v2 v3 : Int32) (μ : Mem) : Option (Int32 × Mem) :=
  bd (fX0_pairAt L v1 v2 v3 μ) (fun b2 μ1 => bd (fX3_get L (o + 7) b2 μ1) (fun b4 μ3 => some (b4, μ3)))
-- X0_pairFrom
def fX0_pairFrom (L : Nat → Nat) (v0 v1 v2 v3 : Int32) (μ : Mem) : Option (Int32 × Mem) :=
  (if v1 = 0 then bd (fX0_pairAt L v0 v2 v3 μ) (fun b4 μ3 => some (b4, μ3)) else bd (fX0_pairAt L v0 v3 v2 μ) (fun b2 μ1 => some (b2, μ1)))
-- X0_acrossFrom
def fX0_acrossFrom (L : Nat → Nat) (v0 : Int32) (μ : Mem) : Option (Int32 × Mem) :=
  (if v0 = 0 then some ((1 : Int32), μ) else some ((0 : Int32), μ))
-- X0_leastSingle
def fX0_leastSingle_7_b (L : Nat → Nat) (o : Nat) (self7 : Int32 → Int32 → Int32 → Mem → Option (Int32 × Mem)) (v1 v2 v3 : Int32) (μ : Mem) : Option (Int32 × Mem) :=
  bd (fX0_valuesOf L o v1 μ) (fun b2 μ1 => (if b2 ≤ v3 then some (v2, μ1) else bd (fX0_singleCost L o v1 v3 μ1) (fun b4 μ3 => lt' (if b4 < v2 then b4 else v2) (fun a5 => lt' (v3 + 1) (fun a6 => self7 v1 a5 a6 μ3)))))
def fX0_leastSingle_7 (L : Nat → Nat) (o : Nat) : Nat → Int32 → Int32 → Int32 → Mem → Option (Int32 × Mem)
  | 0, _, _, _, _ => none
  | k + 1, v1, v2, v3, μ => fX0_leastSingle_7_b L o (fX0_leastSingle_7 L o k) v1 v2 v3 μ
def fX0_leastSingle (L : Nat → Nat) (o : Nat) (v1 : Int32) (μ : Mem) : Option (Int32 × Mem) :=
  lt' (μ o 6) (fun a7 => fX0_leastSingle_7 L o FU v1 a7 (0 : Int32) μ)
-- X0_leastPairOf
def fX0_leastPairOf_20_b (L : Nat → Nat) (o : Nat) (self20 : Int32 → Int32 → Int32 → Int32 → Int32 → Int32 → Mem → Option (Int32 × Mem)) (v1 v2 v3 v4 v5 v6 : Int32) (μ : Mem) : Option (Int32 × Mem) :=
  (if v5 ≤ v6 then some (v4, μ) else bd (fX0_pairFrom L v1 v2 v3 v6 μ) (fun b2 μ1 => bd (fX3_get L (o + 7) b2 μ1) (fun b4 μ3 => lt' (if b4 < v4 then b4 else v4) (fun a5 => lt' (v6 + 1) (fun a6 => self20 v1 v2 v3 a5 v5 a6 μ3)))))
def fX0_leastPairOf_20 (L : Nat → Nat) (o : Nat) : Nat → Int32 → Int32 → Int32 → Int32 → Int32 → Int32 → Mem → Option (Int32 × Mem)
  | 0, _, _, _, _, _, _, _ => none
  | k + 1, v1, v2, v3, v4, v5, v6, μ => fX0_leastPairOf_20_b L o (fX0_leastPairOf_20 L o k) v1 v2 v3 v4 v5 v6 μ
def fX0_leastPairOf (L : Nat → Nat) (o : Nat) (v1 v2 v3 : Int32) (μ : Mem) : Option (Int32 × Mem) :=
  lt' (μ o 6) (fun a7 => bd (fX0_acrossFrom L v2 μ) (fun b9 μ8 => bd (fX0_valuesOn L o v1 b9 μ8) (fun b11 μ10 => fX0_leastPairOf_20 L o FU v1 v2 v3 a7 b11 (0 : Int32) μ10)))
-- X0_leastOfTable
def fX0_leastOfTable_7_b (L : Nat → Nat) (o : Nat) (self7 : Int32 → Int32 → Int32 → Mem → Option (Int32 × Mem)) (v1 v2 v3 : Int32) (μ : Mem) : Option (Int32 × Mem) :=
  bd (fX0_valuesOn L o v1 (0 : Int32) μ) (fun b2 μ1 => (if b2 ≤ v3 then some (v2, μ1) else bd (fX0_leastPairOf L o v1 (0 : Int32) v3 μ1) (fun b4 μ3 => lt' (if b4 < v2 then b4 else v2) (fun a5 => lt' (v3 + 1) (fun a6 => self7 v1 a5 a6 μ3)))))
def fX0_leastOfTable_7 (L : Nat → Nat) (o : Nat) : Nat → Int32 → Int32 → Int32 → Mem → Option (Int32 × Mem)
  | 0, _, _, _, _ => none
  | k + 1, v1, v2, v3, μ => fX0_leastOfTable_7_b L o (fX0_leastOfTable_7 L o k) v1 v2 v3 μ
def fX0_leastOfTable (L : Nat → Nat) (o : Nat) (v1 : Int32) (μ : Mem) : Option (Int32 × Mem) :=
  lt' (μ o 6) (fun a7 => fX0_leastOfTable_7 L o FU v1 a7 (0 : Int32) μ)
-- X0_greatestOfTable
def fX0_greatestOfTable_17_b (L : Nat → Nat) (o : Nat) (self4 : Int32 → Int32 → Int32 → Mem → Option (Int32 × Mem)) (self17 : Int32 → Int32 → Int32 → Int32 → Mem → Option (Int32 × Mem)) (v1 v2 v3 v4 : Int32) (μ : Mem) : Option (Int32 × Mem) :=
  bd (fX0_valuesOn L o v1 (1 : Int32) μ) (fun b2 μ1 => (if b2 ≤ v4 then lt' (v3 + 1) (fun a3 => self4 v1 v2 a3 μ1) else bd (fX0_pairCost L o v1 v3 v4 μ1) (fun b5 μ4 => lt' (if v2 < b5 then b5 else v2) (fun a6 => lt' (v4 + 1) (fun a7 => self17 v1 a6 v3 a7 μ4)))))
def fX0_greatestOfTable_17 (L : Nat → Nat) (o : Nat) (self4 : Int32 → Int32 → Int32 → Mem → Option (Int32 × Mem)) : Nat → Int32 → Int32 → Int32 → Int32 → Mem → Option (Int32 × Mem)
  | 0, _, _, _, _, _ => none
  | k + 1, v1, v2, v3, v4, μ => fX0_greatestOfTable_17_b L o self4 (fX0_greatestOfTable_17 L o self4 k) v1 v2 v3 v4 μ
def fX0_greatestOfTable_4_b (L : Nat → Nat) (o : Nat) (self4 : Int32 → Int32 → Int32 → Mem → Option (Int32 × Mem)) (v1 v2 v3 : Int32) (μ : Mem) : Option (Int32 × Mem) :=
  bd (fX0_valuesOn L o v1 (0 : Int32) μ) (fun b9 μ8 => (if b9 ≤ v3 then some (v2, μ8) else fX0_greatestOfTable_17 L o self4 FU v1 v2 v3 (0 : Int32) μ8))
def fX0_greatestOfTable_4 (L : Nat → Nat) (o : Nat) : Nat → Int32 → Int32 → Int32 → Mem → Option (Int32 × Mem)
  | 0, _, _, _, _ => none
  | k + 1, v1, v2, v3, μ => fX0_greatestOfTable_4_b L o (fX0_greatestOfTable_4 L o k) v1 v2 v3 μ
def fX0_greatestOfTable (L : Nat → Nat) (o : Nat) (v1 : Int32) (μ : Mem) : Option (Int32 × Mem) :=
  fX0_greatestOfTable_4 L o FU v1 (0 : Int32) (0 : Int32) μ
-- X0_sum
def fX0_sum (L : Nat → Nat) (o : Nat) (v1 v2 : Int32) (μ : Mem) : Option (Int32 × Mem) :=
  lt' (v1 + v2) (fun a1 => (if (μ o 6) ≤ a1 then some ((μ o 6), μ) else some (a1, μ)))
-- X0_isShut
def fX0_isShut (L : Nat → Nat) (o : Nat) (v1 v2 : Int32) (μ : Mem) : Option (Int32 × Mem) :=
  bd (fX0_constant L o μ) (fun b2 μ1 => bd (fX0_singleCost L o v1 v2 μ1) (fun b4 μ3 => bd (fX0_sum L o b2 b4 μ3) (fun b6 μ5 => (if b6 = (μ5 o 6) then some ((1 : Int32), μ5) else some ((0 : Int32), μ5)))))
-- X0_shutOf
def fX0_shutOf_28 (L : Nat → Nat) (o : Nat) (self4 : Int32 → Int32 → Int32 → Mem → Option (Int32 × Mem)) (v1 v2 v3 : Int32) (μ : Mem) : Option (Int32 × Mem) :=
  lt' (v3 + 1) (fun a1 => self4 v1 v2 a1 μ)
def fX0_shutOf_4_b (L : Nat → Nat) (o : Nat) (self4 : Int32 → Int32 → Int32 → Mem → Option (Int32 × Mem)) (v1 v2 v3 : Int32) (μ : Mem) : Option (Int32 × Mem) :=
  bd (fX0_valuesOf L o v1 μ) (fun b3 μ2 => (if b3 ≤ v3 then some (v2, μ2) else bd (fX0_isShut L o v1 v3 μ2) (fun b5 μ4 => (if b5 = 0 then fX0_shutOf_28 L o self4 v1 v2 v3 μ4 else lt' (v2 ||| ((1 : Int32) <<< (v3 &&& 31))) (fun a6 => fX0_shutOf_28 L o self4 v1 a6 v3 μ4)))))
def fX0_shutOf_4 (L : Nat → Nat) (o : Nat) : Nat → Int32 → Int32 → Int32 → Mem → Option (Int32 × Mem)
  | 0, _, _, _, _ => none
  | k + 1, v1, v2, v3, μ => fX0_shutOf_4_b L o (fX0_shutOf_4 L o k) v1 v2 v3 μ
def fX0_shutOf (L : Nat → Nat) (o : Nat) (v1 : Int32) (μ : Mem) : Option (Int32 × Mem) :=
  fX0_shutOf_4 L o FU v1 (0 : Int32) (0 : Int32) μ
-- J6_bitCount_0f7a4
def fJ6_bitCount_0f7a4 (L : Nat → Nat) (v0 : Int32) (μ : Mem) : Option (Int32 × Mem) :=
  lt' (v0 - ((v0.toUInt32 >>> ((1 : Int32).toUInt32 &&& Int32.toUInt32 31)).toInt32 &&& (1431655765 : Int32))) (fun a1 => lt' ((a1 &&& (858993459 : Int32)) + ((a1.toUInt32 >>> ((2 : Int32).toUInt32 &&& Int32.toUInt32 31)).toInt32 &&& (858993459 : Int32))) (fun a2 => lt' ((a2 + (a2.toUInt32 >>> ((4 : Int32).toUInt32 &&& Int32.toUInt32 31)).toInt32) &&& (252645135 : Int32)) (fun a3 => lt' (a3 + (a3.toUInt32 >>> ((8 : Int32).toUInt32 &&& Int32.toUInt32 31)).toInt32) (fun a4 => lt' (a4 + (a4.toUInt32 >>> ((16 : Int32).toUInt32 &&& Int32.toUInt32 31)).toInt32) (fun a5 => some ((a5 &&& (63 : Int32)), μ))))))
-- X0_shutInAll
def fX0_shutInAll_4_b (L : Nat → Nat) (o : Nat) (self4 : Int32 → Int32 → Mem → Option (Int32 × Mem)) (v1 v2 : Int32) (μ : Mem) : Option (Int32 × Mem) :=
  (if (μ o 4) ≤ v2 then some (v1, μ) else bd (fX0_shutOf L o v2 μ) (fun b2 μ1 => bd (fJ6_bitCount_0f7a4 L b2 μ1) (fun b4 μ3 => lt' (v1 + b4) (fun a5 => lt' (v2 + 1) (fun a6 => self4 a5 a6 μ3)))))
def fX0_shutInAll_4 (L : Nat → Nat) (o : Nat) : Nat → Int32 → Int32 → Mem → Option (Int32 × Mem)
  | 0, _, _, _ => none
  | k + 1, v1, v2, μ => fX0_shutInAll_4_b L o (fX0_shutInAll_4 L o k) v1 v2 μ
def fX0_shutInAll (L : Nat → Nat) (o : Nat) (μ : Mem) : Option (Int32 × Mem) :=
  fX0_shutInAll_4 L o FU (0 : Int32) (0 : Int32) μ
-- X0_costBeside
def fX0_costBeside_92 (L : Nat → Nat) (o : Nat) (r1 : Nat) (self18 : Int32 → Int32 → Int32 → Int32 → Int32 → Int32 → Mem → Option (Int32 × Mem)) (v2 v3 v4 v5 v6 v7 : Int32) (μ : Mem) : Option (Int32 × Mem) :=
  lt' (v7 + 1) (fun a1 => self18 v2 v3 v4 v5 v6 a1 μ)
def fX0_costBeside_18_b (L : Nat → Nat) (o : Nat) (r1 : Nat) (self18 : Int32 → Int32 → Int32 → Int32 → Int32 → Int32 → Mem → Option (Int32 × Mem)) (v2 v3 v4 v5 v6 v7 : Int32) (μ : Mem) : Option (Int32 × Mem) :=
  (if (μ o 5) ≤ v7 then some (v6, μ) else bd (fX3_get L (o + 3) v7 μ) (fun b3 μ2 => bd (fX3_get L (o + 5) v7 μ2) (fun b5 μ4 => (if b5 = v3 then (if v2 ≤ b3 then fX0_costBeside_92 L o r1 self18 v2 v3 v4 v5 v6 v7 μ4 else (if v7 = v5 then fX0_costBeside_92 L o r1 self18 v2 v3 v4 v5 v6 v7 μ4 else bd (fX3_get L r1 b3 μ4) (fun b7 μ6 => bd (fX0_pairAt L v7 b7 v4 μ6) (fun b9 μ8 => bd (fX3_get L (o + 7) b9 μ8) (fun b11 μ10 => bd (fX0_sum L o v6 b11 μ10) (fun b13 μ12 => fX0_costBeside_92 L o r1 self18 v2 v3 v4 v5 b13 v7 μ12)))))) else fX0_costBeside_92 L o r1 self18 v2 v3 v4 v5 v6 v7 μ4))))
def fX0_costBeside_18 (L : Nat → Nat) (o : Nat) (r1 : Nat) : Nat → Int32 → Int32 → Int32 → Int32 → Int32 → Int32 → Mem → Option (Int32 × Mem)
  | 0, _, _, _, _, _, _, _ => none
  | k + 1, v2, v3, v4, v5, v6, v7, μ => fX0_costBeside_18_b L o r1 (fX0_costBeside_18 L o r1 k) v2 v3 v4 v5 v6 v7 μ
def fX0_costBeside (L : Nat → Nat) (o : Nat) (r1 : Nat) (v2 v3 v4 v5 : Int32) (μ : Mem) : Option (Int32 × Mem) :=
  bd (fX0_singleAt L v3 v4 μ) (fun b15 μ14 => bd (fX3_get L (o + 7) b15 μ14) (fun b17 μ16 => fX0_costBeside_18 L o r1 FU v2 v3 v4 v5 b17 (0 : Int32) μ16))
-- X0_totalOf
def fX0_totalOf_7_b (L : Nat → Nat) (o : Nat) (r1 : Nat) (self7 : Int32 → Int32 → Mem → Option (Int32 × Mem)) (v2 v3 : Int32) (μ : Mem) : Option (Int32 × Mem) :=
  (if (μ o 4) ≤ v3 then some (v2, μ) else bd (fX3_get L r1 v3 μ) (fun b2 μ1 => bd (fX0_costBeside L o r1 v3 v3 b2 (-1 : Int32) μ1) (fun b4 μ3 => bd (fX0_sum L o v2 b4 μ3) (fun b6 μ5 => lt' (v3 + 1) (fun a7 => self7 b6 a7 μ5)))))
def fX0_totalOf_7 (L : Nat → Nat) (o : Nat) (r1 : Nat) : Nat → Int32 → Int32 → Mem → Option (Int32 × Mem)
  | 0, _, _, _ => none
  | k + 1, v2, v3, μ => fX0_totalOf_7_b L o r1 (fX0_totalOf_7 L o r1 k) v2 v3 μ
def fX0_totalOf (L : Nat → Nat) (o : Nat) (r1 : Nat) (μ : Mem) : Option (Int32 × Mem) :=
  bd (fX0_constant L o μ) (fun b9 μ8 => fX0_totalOf_7 L o r1 FU b9 (0 : Int32) μ8)
-- X0_copyTo
def fX0_copyTo (L : Nat → Nat) (o : Nat) (r1 : Nat) (μ : Mem) : Option Mem :=
  bv (fX3_takeFrom L r1 (o + 7) μ) (fun μ1 => some μ1)
-- X0_copyFrom
def fX0_copyFrom (L : Nat → Nat) (o : Nat) (r1 : Nat) (μ : Mem) : Option Mem :=
  bv (fX3_takeFrom L (o + 7) r1 μ) (fun μ1 => some μ1)
-- X3_isLike
def fX3_isLike_2_b (L : Nat → Nat) (o : Nat) (r1 : Nat) (self2 : Int32 → Mem → Option (Int32 × Mem)) (v2 : Int32) (μ : Mem) : Option (Int32 × Mem) :=
  (if (nI (L (o + 1))) ≤ v2 then some ((1 : Int32), μ) else ald L μ (o + 1) v2 (fun a1 => bd (fX3_get L r1 v2 μ) (fun b3 μ2 => (if a1 = b3 then lt' (v2 + 1) (fun a4 => self2 a4 μ2) else some ((0 : Int32), μ2)))))
def fX3_isLike_2 (L : Nat → Nat) (o : Nat) (r1 : Nat) : Nat → Int32 → Mem → Option (Int32 × Mem)
  | 0, _, _ => none
  | k + 1, v2, μ => fX3_isLike_2_b L o r1 (fX3_isLike_2 L o r1 k) v2 μ
def fX3_isLike (L : Nat → Nat) (o : Nat) (r1 : Nat) (μ : Mem) : Option (Int32 × Mem) :=
  fX3_isLike_2 L o r1 FU (0 : Int32) μ
-- X0_areAs
def fX0_areAs (L : Nat → Nat) (o : Nat) (r1 : Nat) (μ : Mem) : Option (Int32 × Mem) :=
  bd (fX3_isLike L (o + 7) r1 μ) (fun b2 μ1 => zr b2 μ1)
-- X0_lessen
def fX0_lessen_29 (L : Nat → Nat) (o : Nat) (s0 s1 : Int32) (μ : Mem) : Option Mem :=
  bv (fX3_set L (o + 7) s1 s0 μ) (fun μ1 => some μ1)
def fX0_lessen (L : Nat → Nat) (o : Nat) (v1 v2 : Int32) (μ : Mem) : Option Mem :=
  bd (fX3_get L (o + 7) v1 μ) (fun b3 μ2 => (if b3 = (μ2 o 6) then fX0_lessen_29 L o b3 v1 μ2 else fX0_lessen_29 L o (b3 - v2) v1 μ2))
-- X0_enlarge
def fX0_enlarge (L : Nat → Nat) (o : Nat) (v1 v2 : Int32) (μ : Mem) : Option Mem :=
  bd (fX3_get L (o + 7) v1 μ) (fun b2 μ1 => bd (fX0_sum L o b2 v2 μ1) (fun b4 μ3 => bv (fX3_set L (o + 7) v1 b4 μ3) (fun μ5 => some μ5)))
-- X0_growSingle
def fX0_growSingle (L : Nat → Nat) (o : Nat) (v1 v2 v3 : Int32) (μ : Mem) : Option Mem :=
  bd (fX0_singleAt L v1 v2 μ) (fun b2 μ1 => bv (fX0_enlarge L o b2 v3 μ1) (fun μ3 => some μ3))
-- X0_moveToValue
def fX0_moveToValue_14_b (L : Nat → Nat) (o : Nat) (self14 : Int32 → Int32 → Int32 → Int32 → Int32 → Int32 → Mem → Option Mem) (v1 v2 v3 v4 v5 v6 : Int32) (μ : Mem) : Option Mem :=
  (if v5 ≤ v6 then bd (fX0_nameOn L o v1 v2 μ) (fun b2 μ1 => bd (fX0_singleAt L b2 v3 μ1) (fun b4 μ3 => bv (fX0_enlarge L o b4 v4 μ3) (fun μ5 => some μ5))) else bd (fX0_pairFrom L v1 v2 v3 v6 μ) (fun b7 μ6 => bv (fX0_lessen L o b7 v4 μ6) (fun μ8 => lt' (v6 + 1) (fun a9 => self14 v1 v2 v3 v4 v5 a9 μ8))))
def fX0_moveToValue_14 (L : Nat → Nat) (o : Nat) : Nat → Int32 → Int32 → Int32 → Int32 → Int32 → Int32 → Mem → Option Mem
  | 0, _, _, _, _, _, _, _ => none
  | k + 1, v1, v2, v3, v4, v5, v6, μ => fX0_moveToValue_14_b L o (fX0_moveToValue_14 L o k) v1 v2 v3 v4 v5 v6 μ
def fX0_moveToValue (L : Nat → Nat) (o : Nat) (v1 v2 v3 v4 : Int32) (μ : Mem) : Option Mem :=
  bd (fX0_acrossFrom L v2 μ) (fun b11 μ10 => bd (fX0_valuesOn L o v1 b11 μ10) (fun b13 μ12 => fX0_moveToValue_14 L o FU v1 v2 v3 v4 b13 (0 : Int32) μ12))
-- X0_moveToTable
def fX0_moveToTable_30_b (L : Nat → Nat) (o : Nat) (self30 : Int32 → Int32 → Int32 → Int32 → Int32 → Int32 → Mem → Option Mem) (v1 v2 v3 v4 v5 v6 : Int32) (μ : Mem) : Option Mem :=
  (if v5 ≤ v6 then some μ else bd (fX0_pairFrom L v1 v2 v3 v6 μ) (fun b2 μ1 => bv (fX0_enlarge L o b2 v4 μ1) (fun μ3 => lt' (v6 + 1) (fun a4 => self30 v1 v2 v3 v4 v5 a4 μ3))))
def fX0_moveToTable_30 (L : Nat → Nat) (o : Nat) : Nat → Int32 → Int32 → Int32 → Int32 → Int32 → Int32 → Mem → Option Mem
  | 0, _, _, _, _, _, _, _ => none
  | k + 1, v1, v2, v3, v4, v5, v6, μ => fX0_moveToTable_30_b L o (fX0_moveToTable_30 L o k) v1 v2 v3 v4 v5 v6 μ
def fX0_moveToTable (L : Nat → Nat) (o : Nat) (v1 v2 v3 v4 : Int32) (μ : Mem) : Option Mem :=
  bd (fX0_nameOn L o v1 v2 μ) (fun b6 μ5 => bd (fX0_singleAt L b6 v3 μ5) (fun b8 μ7 => bv (fX0_lessen L o b8 v4 μ7) (fun μ9 => bd (fX0_acrossFrom L v2 μ9) (fun b11 μ10 => bd (fX0_valuesOn L o v1 b11 μ10) (fun b13 μ12 => fX0_moveToTable_30 L o FU v1 v2 v3 v4 b13 (0 : Int32) μ12)))))
-- X0_moveToConstant
def fX0_moveToConstant_2_b (L : Nat → Nat) (o : Nat) (self2 : Int32 → Int32 → Int32 → Mem → Option Mem) (v1 v2 v3 : Int32) (μ : Mem) : Option Mem :=
  bd (fX0_valuesOf L o v1 μ) (fun b2 μ1 => (if b2 ≤ v3 then bv (fX0_enlarge L o (0 : Int32) v2 μ1) (fun μ3 => some μ3) else bd (fX0_singleAt L v1 v3 μ1) (fun b5 μ4 => bv (fX0_lessen L o b5 v2 μ4) (fun μ6 => lt' (v3 + 1) (fun a7 => self2 v1 v2 a7 μ6)))))
def fX0_moveToConstant_2 (L : Nat → Nat) (o : Nat) : Nat → Int32 → Int32 → Int32 → Mem → Option Mem
  | 0, _, _, _, _ => none
  | k + 1, v1, v2, v3, μ => fX0_moveToConstant_2_b L o (fX0_moveToConstant_2 L o k) v1 v2 v3 μ
def fX0_moveToConstant (L : Nat → Nat) (o : Nat) (v1 v2 : Int32) (μ : Mem) : Option Mem :=
  fX0_moveToConstant_2 L o FU v1 v2 (0 : Int32) μ
-- X0_topShutSingles
def fX0_topShutSingles_30 (L : Nat → Nat) (o : Nat) (self2 : Int32 → Int32 → Mem → Option Mem) (v1 v2 : Int32) (μ : Mem) : Option Mem :=
  lt' (v2 + 1) (fun a1 => self2 v1 a1 μ)
def fX0_topShutSingles_2_b (L : Nat → Nat) (o : Nat) (self2 : Int32 → Int32 → Mem → Option Mem) (v1 v2 : Int32) (μ : Mem) : Option Mem :=
  bd (fX0_valuesOf L o v1 μ) (fun b3 μ2 => (if b3 ≤ v2 then some μ2 else bd (fX0_isShut L o v1 v2 μ2) (fun b5 μ4 => (if b5 = 0 then fX0_topShutSingles_30 L o self2 v1 v2 μ4 else bv (fX0_setSingle L o v1 v2 (μ4 o 6) μ4) (fun μ6 => fX0_topShutSingles_30 L o self2 v1 v2 μ6)))))
def fX0_topShutSingles_2 (L : Nat → Nat) (o : Nat) : Nat → Int32 → Int32 → Mem → Option Mem
  | 0, _, _, _ => none
  | k + 1, v1, v2, μ => fX0_topShutSingles_2_b L o (fX0_topShutSingles_2 L o k) v1 v2 μ
def fX0_topShutSingles (L : Nat → Nat) (o : Nat) (v1 : Int32) (μ : Mem) : Option Mem :=
  fX0_topShutSingles_2 L o FU v1 (0 : Int32) μ
-- X0_topPairsOfTopSingles
def fX0_topPairsOfTopSingles_81 (L : Nat → Nat) (o : Nat) (self30 : Int32 → Int32 → Int32 → Int32 → Int32 → Mem → Option Mem) (v1 v2 v3 v4 v5 : Int32) (μ : Mem) : Option Mem :=
  lt' (v5 + 1) (fun a1 => self30 v1 v2 v3 v4 a1 μ)
def fX0_topPairsOfTopSingles_68 (L : Nat → Nat) (o : Nat) (self30 : Int32 → Int32 → Int32 → Int32 → Int32 → Mem → Option Mem) (v1 v2 v3 v4 v5 : Int32) (μ : Mem) : Option Mem :=
  bv (fX0_setPair L o v1 v4 v5 (μ o 6) μ) (fun μ2 => fX0_topPairsOfTopSingles_81 L o self30 v1 v2 v3 v4 v5 μ2)
def fX0_topPairsOfTopSingles_30_b (L : Nat → Nat) (o : Nat) (self17 : Int32 → Int32 → Int32 → Int32 → Mem → Option Mem) (self30 : Int32 → Int32 → Int32 → Int32 → Int32 → Mem → Option Mem) (v1 v2 v3 v4 v5 : Int32) (μ : Mem) : Option Mem :=
  bd (fX0_valuesOf L o v3 μ) (fun b4 μ3 => (if b4 ≤ v5 then lt' (v4 + 1) (fun a5 => self17 v1 v2 v3 a5 μ3) else bd (fX0_singleCost L o v2 v4 μ3) (fun b7 μ6 => (if b7 = (μ6 o 6) then fX0_topPairsOfTopSingles_68 L o self30 v1 v2 v3 v4 v5 μ6 else bd (fX0_singleCost L o v3 v5 μ6) (fun b9 μ8 => (if b9 = (μ8 o 6) then fX0_topPairsOfTopSingles_68 L o self30 v1 v2 v3 v4 v5 μ8 else fX0_topPairsOfTopSingles_81 L o self30 v1 v2 v3 v4 v5 μ8))))))
def fX0_topPairsOfTopSingles_30 (L : Nat → Nat) (o : Nat) (self17 : Int32 → Int32 → Int32 → Int32 → Mem → Option Mem) : Nat → Int32 → Int32 → Int32 → Int32 → Int32 → Mem → Option Mem
  | 0, _, _, _, _, _, _ => none
  | k + 1, v1, v2, v3, v4, v5, μ => fX0_topPairsOfTopSingles_30_b L o self17 (fX0_topPairsOfTopSingles_30 L o self17 k) v1 v2 v3 v4 v5 μ
def fX0_topPairsOfTopSingles_17_b (L : Nat → Nat) (o : Nat) (self17 : Int32 → Int32 → Int32 → Int32 → Mem → Option Mem) (v1 v2 v3 v4 : Int32) (μ : Mem) : Option Mem :=
  bd (fX0_valuesOf L o v2 μ) (fun b11 μ10 => (if b11 ≤ v4 then some μ10 else fX0_topPairsOfTopSingles_30 L o self17 FU v1 v2 v3 v4 (0 : Int32) μ10))
def fX0_topPairsOfTopSingles_17 (L : Nat → Nat) (o : Nat) : Nat → Int32 → Int32 → Int32 → Int32 → Mem → Option Mem
  | 0, _, _, _, _, _ => none
  | k + 1, v1, v2, v3, v4, μ => fX0_topPairsOfTopSingles_17_b L o (fX0_topPairsOfTopSingles_17 L o k) v1 v2 v3 v4 μ
def fX0_topPairsOfTopSingles (L : Nat → Nat) (o : Nat) (v1 : Int32) (μ : Mem) : Option Mem :=
  bd (fX0_nameOn L o v1 (0 : Int32) μ) (fun b13 μ12 => bd (fX0_nameOn L o v1 (1 : Int32) μ12) (fun b15 μ14 => fX0_topPairsOfTopSingles_17 L o FU v1 b13 b15 (0 : Int32) μ14))
-- X1_size
def fX1_size (L : Nat → Nat) (o : Nat) (μ : Mem) : Option (Int32 × Mem) :=
  some ((μ o 2), μ)
-- X1_clear
def fX1_clear (L : Nat → Nat) (o : Nat) (μ : Mem) : Option Mem :=
  pu μ o 2 (0 : Int32) (fun μ1 => some μ1)
-- X1_keep
def fX1_keep_70 (L : Nat → Nat) (o : Nat) (r1 : Nat) (s0 : Int32) (μ : Mem) : Option Mem :=
  pu μ o 1 s0 (fun μ1 => lt' (if ((μ1 o 2) + (1 : Int32)) < (nI (L (o + 1))) then ((μ1 o 2) + (1 : Int32)) else (nI (L (o + 1)))) (fun a2 => pu μ1 o 2 a2 (fun μ3 => some μ3)))
def fX1_keep (L : Nat → Nat) (o : Nat) (r1 : Nat) (μ : Mem) : Option Mem :=
  (if (μ o 1) < 0 then some μ else (if (nI (L (o + 1))) ≤ (μ o 1) then some μ else aaq L (o + 1) (μ o 1) (aaq L (o + 1) (μ o 1) (bv (fX0_copyTo L r1 ((o + 1) + 1 + 2 * (μ o 1).toNatClampNeg) μ) (fun μ6 => (if (nI (L (o + 1))) ≤ ((μ6 o 1) + (1 : Int32)) then fX1_keep_70 L o r1 (0 : Int32) μ6 else fX1_keep_70 L o r1 ((μ6 o 1) + (1 : Int32)) μ6))))))
-- X1_giveBack
def fX1_giveBack_23 (L : Nat → Nat) (o : Nat) (r1 : Nat) (s0 : Int32) (μ : Mem) : Option (Int32 × Mem) :=
  (if (μ o 2) = 0 then some ((0 : Int32), μ) else (if s0 < 0 then some ((0 : Int32), μ) else (if (nI (L (o + 1))) ≤ s0 then some ((0 : Int32), μ) else aaq L (o + 1) s0 (aaq L (o + 1) s0 (bv (fX0_copyFrom L r1 ((o + 1) + 1 + 2 * s0.toNatClampNeg) μ) (fun μ3 => pu μ3 o 1 s0 (fun μ4 => pu μ4 o 2 ((μ4 o 2) - (1 : Int32)) (fun μ5 => some ((1 : Int32), μ5)))))))))
def fX1_giveBack (L : Nat → Nat) (o : Nat) (r1 : Nat) (μ : Mem) : Option (Int32 × Mem) :=
  (if (μ o 1) ≤ 0 then fX1_giveBack_23 L o r1 ((nI (L (o + 1))) - (1 : Int32)) μ else fX1_giveBack_23 L o r1 ((μ o 1) - (1 : Int32)) μ)
-- X6_length
def fX6_length (L : Nat → Nat) (o : Nat) (μ : Mem) : Option (Int32 × Mem) :=
  some ((μ o 1), μ)
-- X6_letterAt
def fX6_letterAt (L : Nat → Nat) (o : Nat) (v1 : Int32) (μ : Mem) : Option (Int32 × Mem) :=
  (if v1 < 0 then some ((-1 : Int32), μ) else (if (μ o 1) ≤ v1 then some ((-1 : Int32), μ) else bd (fX3_get L (o + 1) v1 μ) (fun b2 μ1 => some (b2, μ1))))
-- X2_numbersOf
def fX2_numbersOf (L : Nat → Nat) (v0 : Int32) (μ : Mem) : Option (Int32 × Mem) :=
  (if v0 = (98 : Int32) then some ((3 : Int32), μ) else (if v0 = (99 : Int32) then some ((4 : Int32), μ) else (if v0 = (116 : Int32) then some ((1 : Int32), μ) else (if v0 = (117 : Int32) then some ((3 : Int32), μ) else (if v0 = (118 : Int32) then some ((1 : Int32), μ) else some ((0 : Int32), μ))))))
-- X2_isFigure
def fX2_isFigure (L : Nat → Nat) (v0 : Int32) (μ : Mem) : Option (Int32 × Mem) :=
  (if v0 < (48 : Int32) then some ((0 : Int32), μ) else (if (57 : Int32) < v0 then some ((0 : Int32), μ) else some ((1 : Int32), μ)))
-- X2_readNumber
def fX2_readNumber_79 (L : Nat → Nat) (o : Nat) (r1 : Nat) (v2 v3 : Int32) (μ : Mem) : Option (Int32 × Mem) :=
  bv (fX3_set L (o + 1) v2 v3 μ) (fun μ1 => some ((1 : Int32), μ1))
def fX2_readNumber (L : Nat → Nat) (o : Nat) (r1 : Nat) (v2 : Int32) (μ : Mem) : Option (Int32 × Mem) :=
  bd (fX6_letterAt L r1 (μ o 1) μ) (fun b3 μ2 => bd (fX2_isFigure L b3 μ2) (fun b5 μ4 => (if b5 = 0 then some ((0 : Int32), μ4) else bd (fX6_letterAt L r1 (μ4 o 1) μ4) (fun b7 μ6 => lt' (b7 - (48 : Int32)) (fun a8 => pu μ6 o 1 ((μ6 o 1) + (1 : Int32)) (fun μ9 => bd (fX6_letterAt L r1 (μ9 o 1) μ9) (fun b11 μ10 => bd (fX2_isFigure L b11 μ10) (fun b13 μ12 => (if b13 = 0 then fX2_readNumber_79 L o r1 v2 a8 μ12 else bd (fX6_letterAt L r1 (μ12 o 1) μ12) (fun b15 μ14 => lt' ((((10 : Int32) * a8) + b15) - (48 : Int32)) (fun a16 => pu μ14 o 1 ((μ14 o 1) + (1 : Int32)) (fun μ17 => fX2_readNumber_79 L o r1 v2 a16 μ17))))))))))))
-- X2_readNumbers
def fX2_readNumbers_21 (L : Nat → Nat) (o : Nat) (r1 : Nat) (self2 : Int32 → Int32 → Mem → Option (Int32 × Mem)) (v2 v3 s0 : Int32) (μ : Mem) : Option (Int32 × Mem) :=
  bd (fX2_readNumber L o r1 v3 μ) (fun b2 μ1 => (if b2 = 0 then some ((0 : Int32), μ1) else bd (fX6_letterAt L r1 (μ1 o 1) μ1) (fun b4 μ3 => (if b4 = s0 then pu μ3 o 1 ((μ3 o 1) + (1 : Int32)) (fun μ5 => lt' (v3 + 1) (fun a6 => self2 v2 a6 μ5)) else some ((0 : Int32), μ3)))))
def fX2_readNumbers_2_b (L : Nat → Nat) (o : Nat) (r1 : Nat) (self2 : Int32 → Int32 → Mem → Option (Int32 × Mem)) (v2 v3 : Int32) (μ : Mem) : Option (Int32 × Mem) :=
  (if v2 ≤ v3 then some ((1 : Int32), μ) else (if v3 = (v2 - (1 : Int32)) then fX2_readNumbers_21 L o r1 self2 v2 v3 (59 : Int32) μ else fX2_readNumbers_21 L o r1 self2 v2 v3 (44 : Int32) μ))
def fX2_readNumbers_2 (L : Nat → Nat) (o : Nat) (r1 : Nat) : Nat → Int32 → Int32 → Mem → Option (Int32 × Mem)
  | 0, _, _, _ => none
  | k + 1, v2, v3, μ => fX2_readNumbers_2_b L o r1 (fX2_readNumbers_2 L o r1 k) v2 v3 μ
def fX2_readNumbers (L : Nat → Nat) (o : Nat) (r1 : Nat) (v2 : Int32) (μ : Mem) : Option (Int32 × Mem) :=
  fX2_readNumbers_2 L o r1 FU v2 (0 : Int32) μ
-- X2_tell
def fX2_tell (L : Nat → Nat) (o : Nat) (r2 : Nat) (v1 : Int32) (μ : Mem) : Option (Int32 × Mem) :=
  bd (fX3_get L (o + 1) (0 : Int32) μ) (fun b2 μ1 => bd (fX3_get L (o + 1) (1 : Int32) μ1) (fun b4 μ3 => bd (fX3_get L (o + 1) (2 : Int32) μ3) (fun b6 μ5 => (if v1 = (98 : Int32) then bd (fX0_addTable L r2 b2 b4 b6 μ5) (fun b8 μ7 => zr b8 μ7) else (if v1 = (99 : Int32) then bd (fX3_get L (o + 1) (3 : Int32) μ5) (fun b10 μ9 => bd (fX0_tellPair L r2 b2 b4 b6 b10 μ9) (fun b12 μ11 => zr b12 μ11)) else (if v1 = (116 : Int32) then bd (fX0_tellTop L r2 b2 μ5) (fun b14 μ13 => zr b14 μ13) else (if v1 = (117 : Int32) then bd (fX0_tellSingle L r2 b2 b4 b6 μ5) (fun b16 μ15 => zr b16 μ15) else (if v1 = (118 : Int32) then bd (fX0_addName L r2 b2 μ5) (fun b18 μ17 => zr b18 μ17) else some ((0 : Int32), μ5)))))))))
-- X2_readItem
def fX2_readItem (L : Nat → Nat) (o : Nat) (r1 : Nat) (r2 : Nat) (μ : Mem) : Option (Int32 × Mem) :=
  bd (fX6_letterAt L r1 (μ o 1) μ) (fun b2 μ1 => pu μ1 o 1 ((μ1 o 1) + (1 : Int32)) (fun μ3 => bd (fX2_numbersOf L b2 μ3) (fun b5 μ4 => (if b5 ≤ 0 then some ((0 : Int32), μ4) else bd (fX2_readNumbers L o r1 b5 μ4) (fun b7 μ6 => (if b7 = 0 then some ((0 : Int32), μ6) else bd (fX2_tell L o r2 b2 μ6) (fun b9 μ8 => (if b9 = 0 then some ((0 : Int32), μ8) else some ((1 : Int32), μ8)))))))))
-- X2_readAll
def fX2_readAll_53 (L : Nat → Nat) (o : Nat) (r1 : Nat) (r2 : Nat) (μ : Mem) : Option (Int32 × Mem) :=
  bv (fX0_keepToTop L r2 μ) (fun μ1 => some ((-4 : Int32), μ1))
def fX2_readAll_11_b (L : Nat → Nat) (o : Nat) (r1 : Nat) (r2 : Nat) (self11 : Int32 → Mem → Option (Int32 × Mem)) (v3 : Int32) (μ : Mem) : Option (Int32 × Mem) :=
  (if (200 : Int32) ≤ v3 then fX2_readAll_53 L o r1 r2 μ else bd (fX6_length L r1 μ) (fun b3 μ2 => (if b3 ≤ (μ o 1) then fX2_readAll_53 L o r1 r2 μ2 else lt' (μ2 o 1) (fun a4 => bd (fX2_readItem L o r1 r2 μ2) (fun b6 μ5 => (if b6 = 0 then some (a4, μ5) else lt' (v3 + 1) (fun a7 => self11 a7 μ5)))))))
def fX2_readAll_11 (L : Nat → Nat) (o : Nat) (r1 : Nat) (r2 : Nat) : Nat → Int32 → Mem → Option (Int32 × Mem)
  | 0, _, _ => none
  | k + 1, v3, μ => fX2_readAll_11_b L o r1 r2 (fX2_readAll_11 L o r1 r2 k) v3 μ
def fX2_readAll (L : Nat → Nat) (o : Nat) (r1 : Nat) (r2 : Nat) (μ : Mem) : Option (Int32 × Mem) :=
  bv (fX0_clear L r2 μ) (fun μ8 => pu μ8 o 1 (0 : Int32) (fun μ9 => fX2_readAll_11 L o r1 r2 FU (0 : Int32) μ9))
-- X4_chosenBits
def fX4_chosenBits_4_b (L : Nat → Nat) (o : Nat) (self4 : Int32 → Int32 → Int32 → Mem → Option (Int32 × Mem)) (v1 v2 v3 : Int32) (μ : Mem) : Option (Int32 × Mem) :=
  (if v1 ≤ v3 then some (v2, μ) else bd (fX3_get L (o + 1) v3 μ) (fun b2 μ1 => lt' (v2 ||| ((1 : Int32) <<< ((((4 : Int32) * v3) + b2) &&& 31))) (fun a3 => lt' (v3 + 1) (fun a4 => self4 v1 a3 a4 μ1))))
def fX4_chosenBits_4 (L : Nat → Nat) (o : Nat) : Nat → Int32 → Int32 → Int32 → Mem → Option (Int32 × Mem)
  | 0, _, _, _, _ => none
  | k + 1, v1, v2, v3, μ => fX4_chosenBits_4_b L o (fX4_chosenBits_4 L o k) v1 v2 v3 μ
def fX4_chosenBits (L : Nat → Nat) (o : Nat) (v1 : Int32) (μ : Mem) : Option (Int32 × Mem) :=
  fX4_chosenBits_4 L o FU v1 (0 : Int32) (0 : Int32) μ
-- X4_note
def fX4_note (L : Nat → Nat) (o : Nat) (r1 : Nat) (v2 : Int32) (μ : Mem) : Option Mem :=
  bd (fX0_names L r1 μ) (fun b2 μ1 => bd (fX4_chosenBits L o b2 μ1) (fun b4 μ3 => pu μ3 o 9 ((μ3 o 9) + (1 : Int32)) (fun μ5 => (if (μ5 o 6) ≤ v2 then (if v2 = (μ5 o 6) then pu μ5 o 8 ((μ5 o 8) + (1 : Int32)) (fun μ8 => pu μ8 o 10 ((μ8 o 10) &&& b4) (fun μ9 => some μ9)) else lt' (if v2 < (μ5 o 7) then v2 else (μ5 o 7)) (fun a6 => pu μ5 o 7 a6 (fun μ7 => some μ7))) else pu μ5 o 7 (μ5 o 6) (fun μ10 => pu μ10 o 6 v2 (fun μ11 => pu μ11 o 8 (1 : Int32) (fun μ12 => pu μ12 o 10 b4 (fun μ13 => bv (fX3_takeFrom L (o + 3) (o + 1) μ13) (fun μ14 => some μ14)))))))))
-- X4_take
def fX4_take_0 (L : Nat → Nat) (go : Int32 → Int32 → Mem → Option Mem) (o : Nat) (r1 : Nat) (v2 v3 v4 : Int32) (μ : Mem) : Option Mem :=
  bv (fX3_set L (o + 1) v2 v3 μ) (fun μ1 => bd (fX0_costBeside L r1 (o + 1) v2 v2 v3 (μ1 o 4) μ1) (fun b3 μ2 => bd (fX0_sum L r1 v4 b3 μ2) (fun b5 μ4 => bv (go (v2 + (1 : Int32)) b5 μ4) (fun μ6 => some μ6))))
abbrev fX4_take (L : Nat → Nat) (go : Int32 → Int32 → Mem → Option Mem) (o : Nat) (r1 : Nat) (v2 v3 v4 : Int32) (μ : Mem) : Option Mem := fX4_take_0 L go o r1 v2 v3 v4 μ
-- X4_goOn
def fX4_goOn_69 (L : Nat → Nat) (go : Int32 → Int32 → Mem → Option Mem) (o : Nat) (r1 : Nat) (self33 : Int32 → Int32 → Int32 → Mem → Option Mem) (v2 v3 v4 : Int32) (μ : Mem) : Option Mem :=
  lt' (v4 + 1) (fun a1 => self33 v2 v3 a1 μ)
def fX4_goOn_60 (L : Nat → Nat) (go : Int32 → Int32 → Mem → Option Mem) (o : Nat) (r1 : Nat) (self33 : Int32 → Int32 → Int32 → Mem → Option Mem) (v2 v3 v4 : Int32) (μ : Mem) : Option Mem :=
  bv (fX4_take L go o r1 v2 v4 v3 μ) (fun μ2 => fX4_goOn_69 L go o r1 self33 v2 v3 v4 μ2)
def fX4_goOn_33_b (L : Nat → Nat) (go : Int32 → Int32 → Mem → Option Mem) (o : Nat) (r1 : Nat) (self33 : Int32 → Int32 → Int32 → Mem → Option Mem) (v2 v3 v4 : Int32) (μ : Mem) : Option Mem :=
  bd (fX0_valuesOf L r1 v2 μ) (fun b4 μ3 => (if b4 ≤ v4 then some μ3 else (if v2 = (μ3 o 2) then (if v4 = (μ3 o 3) then fX4_goOn_60 L go o r1 self33 v2 v3 v4 μ3 else fX4_goOn_69 L go o r1 self33 v2 v3 v4 μ3) else fX4_goOn_60 L go o r1 self33 v2 v3 v4 μ3)))
def fX4_goOn_33 (L : Nat → Nat) (go : Int32 → Int32 → Mem → Option Mem) (o : Nat) (r1 : Nat) : Nat → Int32 → Int32 → Int32 → Mem → Option Mem
  | 0, _, _, _, _ => none
  | k + 1, v2, v3, v4, μ => fX4_goOn_33_b L go o r1 (fX4_goOn_33 L go o r1 k) v2 v3 v4 μ
def fX4_goOn_0 (L : Nat → Nat) (go : Int32 → Int32 → Mem → Option Mem) (o : Nat) (r1 : Nat) (v2 v3 : Int32) (μ : Mem) : Option Mem :=
  (if (μ o 5) ≤ v3 then some μ else (if v2 ≤ (6 : Int32) then bd (fX0_names L r1 μ) (fun b6 μ5 => (if v2 < b6 then fX4_goOn_33 L go o r1 FU v2 v3 (0 : Int32) μ5 else bv (fX4_note L o r1 v3 μ5) (fun μ7 => some μ7))) else some μ))
def fX4_goOn : Nat → (Nat → Nat) → Nat → Nat → Int32 → Int32 → Mem → Option Mem
  | 0, _, _, _, _, _, _ => none
  | d + 1, L, o, r1, v2, v3, μ => fX4_goOn_0 L (fX4_goOn d L o r1) o r1 v2 v3 μ
-- X4_goThrough
def fX4_goThrough (L : Nat → Nat) (o : Nat) (r1 : Nat) (v2 v3 v4 : Int32) (μ : Mem) : Option Mem :=
  pu μ o 2 v2 (fun μ1 => pu μ1 o 3 v3 (fun μ2 => pu μ2 o 4 v4 (fun μ3 => bd (fX0_top L r1 μ3) (fun b5 μ4 => pu μ4 o 5 b5 (fun μ6 => pu μ6 o 6 (μ6 o 5) (fun μ7 => pu μ7 o 7 (μ7 o 5) (fun μ8 => pu μ8 o 8 (0 : Int32) (fun μ9 => pu μ9 o 9 (0 : Int32) (fun μ10 => pu μ10 o 10 (0 : Int32) (fun μ11 => bd (fX0_constant L r1 μ11) (fun b13 μ12 => bv (fX4_goOn 8 L o r1 (0 : Int32) b13 μ12) (fun μ14 => some μ14))))))))))))
-- X4_hasFound
def fX4_hasFound (L : Nat → Nat) (o : Nat) (μ : Mem) : Option (Int32 × Mem) :=
  (if (μ o 8) ≤ 0 then some ((0 : Int32), μ) else some ((1 : Int32), μ))
-- X4_hasSecond
def fX4_hasSecond (L : Nat → Nat) (o : Nat) (μ : Mem) : Option (Int32 × Mem) :=
  (if (μ o 5) ≤ (μ o 7) then some ((0 : Int32), μ) else some ((1 : Int32), μ))
-- X4_leastTotal
def fX4_leastTotal (L : Nat → Nat) (o : Nat) (μ : Mem) : Option (Int32 × Mem) :=
  some ((μ o 6), μ)
-- X4_waysOfLeast
def fX4_waysOfLeast (L : Nat → Nat) (o : Nat) (μ : Mem) : Option (Int32 × Mem) :=
  some ((μ o 8), μ)
-- X4_secondTotal
def fX4_secondTotal (L : Nat → Nat) (o : Nat) (μ : Mem) : Option (Int32 × Mem) :=
  some ((μ o 7), μ)
-- X4_choicesBelowTop
def fX4_choicesBelowTop (L : Nat → Nat) (o : Nat) (μ : Mem) : Option (Int32 × Mem) :=
  some ((μ o 9), μ)
-- X4_commonValues
def fX4_commonValues (L : Nat → Nat) (o : Nat) (μ : Mem) : Option (Int32 × Mem) :=
  some ((μ o 10), μ)
-- X4_firstValueOf
def fX4_firstValueOf (L : Nat → Nat) (o : Nat) (v1 : Int32) (μ : Mem) : Option (Int32 × Mem) :=
  bd (fX3_get L (o + 3) v1 μ) (fun b2 μ1 => some (b2, μ1))
-- X5_projectLeasts
def fX5_projectLeasts_35 (L : Nat → Nat) (r0 : Nat) (self2 : Int32 → Int32 → Int32 → Mem → Option Mem) (v1 v2 v3 : Int32) (μ : Mem) : Option Mem :=
  lt' (v3 + 1) (fun a1 => self2 v1 v2 a1 μ)
def fX5_projectLeasts_2_b (L : Nat → Nat) (r0 : Nat) (self2 : Int32 → Int32 → Int32 → Mem → Option Mem) (v1 v2 v3 : Int32) (μ : Mem) : Option Mem :=
  bd (fX0_valuesOn L r0 v1 v2 μ) (fun b3 μ2 => (if b3 ≤ v3 then some μ2 else bd (fX0_leastPairOf L r0 v1 v2 v3 μ2) (fun b5 μ4 => (if b5 ≤ 0 then fX5_projectLeasts_35 L r0 self2 v1 v2 v3 μ4 else bv (fX0_moveToValue L r0 v1 v2 v3 b5 μ4) (fun μ6 => fX5_projectLeasts_35 L r0 self2 v1 v2 v3 μ6)))))
def fX5_projectLeasts_2 (L : Nat → Nat) (r0 : Nat) : Nat → Int32 → Int32 → Int32 → Mem → Option Mem
  | 0, _, _, _, _ => none
  | k + 1, v1, v2, v3, μ => fX5_projectLeasts_2_b L r0 (fX5_projectLeasts_2 L r0 k) v1 v2 v3 μ
def fX5_projectLeasts (L : Nat → Nat) (r0 : Nat) (v1 v2 : Int32) (μ : Mem) : Option Mem :=
  fX5_projectLeasts_2 L r0 FU v1 v2 (0 : Int32) μ
-- X5_doArcs
def fX5_doArcs_2_b (L : Nat → Nat) (r0 : Nat) (self2 : Int32 → Mem → Option Mem) (v1 : Int32) (μ : Mem) : Option Mem :=
  bd (fX0_tables L r0 μ) (fun b2 μ1 => (if b2 ≤ v1 then some μ1 else bv (fX0_topPairsOfTopSingles L r0 v1 μ1) (fun μ3 => bv (fX5_projectLeasts L r0 v1 (0 : Int32) μ3) (fun μ4 => bv (fX5_projectLeasts L r0 v1 (1 : Int32) μ4) (fun μ5 => lt' (v1 + 1) (fun a6 => self2 a6 μ5))))))
def fX5_doArcs_2 (L : Nat → Nat) (r0 : Nat) : Nat → Int32 → Mem → Option Mem
  | 0, _, _ => none
  | k + 1, v1, μ => fX5_doArcs_2_b L r0 (fX5_doArcs_2 L r0 k) v1 μ
def fX5_doArcs (L : Nat → Nat) (r0 : Nat) (μ : Mem) : Option Mem :=
  fX5_doArcs_2 L r0 FU (0 : Int32) μ
-- X5_reachOf
def fX5_reachOf_16_b (L : Nat → Nat) (r0 : Nat) (self16 : Int32 → Int32 → Int32 → Int32 → Int32 → Mem → Option (Int32 × Mem)) (v1 v2 v3 v4 v5 : Int32) (μ : Mem) : Option (Int32 × Mem) :=
  bd (fX0_valuesOf L r0 v3 μ) (fun b2 μ1 => (if b2 ≤ v5 then some (v4, μ1) else bd (fX0_pairCost L r0 v1 v2 v5 μ1) (fun b4 μ3 => bd (fX0_singleCost L r0 v3 v5 μ3) (fun b6 μ5 => bd (fX0_sum L r0 b4 b6 μ5) (fun b8 μ7 => lt' (if b8 < v4 then b8 else v4) (fun a9 => lt' (v5 + 1) (fun a10 => self16 v1 v2 v3 a9 a10 μ7)))))))
def fX5_reachOf_16 (L : Nat → Nat) (r0 : Nat) : Nat → Int32 → Int32 → Int32 → Int32 → Int32 → Mem → Option (Int32 × Mem)
  | 0, _, _, _, _, _, _ => none
  | k + 1, v1, v2, v3, v4, v5, μ => fX5_reachOf_16_b L r0 (fX5_reachOf_16 L r0 k) v1 v2 v3 v4 v5 μ
def fX5_reachOf (L : Nat → Nat) (r0 : Nat) (v1 v2 : Int32) (μ : Mem) : Option (Int32 × Mem) :=
  bd (fX0_nameOn L r0 v1 (1 : Int32) μ) (fun b12 μ11 => bd (fX0_top L r0 μ11) (fun b14 μ13 => fX5_reachOf_16 L r0 FU v1 v2 b12 b14 (0 : Int32) μ13))
-- X5_needOf
def fX5_needOf_6_b (L : Nat → Nat) (o : Nat) (r1 : Nat) (self6 : Int32 → Int32 → Int32 → Int32 → Mem → Option (Int32 × Mem)) (v2 v3 v4 v5 : Int32) (μ : Mem) : Option (Int32 × Mem) :=
  bd (fX0_valuesOn L r1 v2 (0 : Int32) μ) (fun b2 μ1 => (if b2 ≤ v5 then some (v4, μ1) else bd (fX3_get L (o + 3) v5 μ1) (fun b4 μ3 => bd (fX0_pairCost L r1 v2 v5 v3 μ3) (fun b6 μ5 => lt' (if v4 < (b4 - b6) then (b4 - b6) else v4) (fun a7 => lt' (v5 + 1) (fun a8 => self6 v2 v3 a7 a8 μ5))))))
def fX5_needOf_6 (L : Nat → Nat) (o : Nat) (r1 : Nat) : Nat → Int32 → Int32 → Int32 → Int32 → Mem → Option (Int32 × Mem)
  | 0, _, _, _, _, _ => none
  | k + 1, v2, v3, v4, v5, μ => fX5_needOf_6_b L o r1 (fX5_needOf_6 L o r1 k) v2 v3 v4 v5 μ
def fX5_needOf (L : Nat → Nat) (o : Nat) (r1 : Nat) (v2 v3 : Int32) (μ : Mem) : Option (Int32 × Mem) :=
  fX5_needOf_6 L o r1 FU v2 v3 (0 : Int32) (0 : Int32) μ
-- X5_direct
def fX5_direct_167 (L : Nat → Nat) (o : Nat) (r1 : Nat) (self132 : Int32 → Int32 → Int32 → Mem → Option Mem) (v2 v3 v5 : Int32) (μ : Mem) : Option Mem :=
  lt' (v5 + 1) (fun a1 => self132 v2 v3 a1 μ)
def fX5_direct_132_b (L : Nat → Nat) (o : Nat) (r1 : Nat) (self132 : Int32 → Int32 → Int32 → Mem → Option Mem) (v2 v3 v5 : Int32) (μ : Mem) : Option Mem :=
  (if v3 ≤ v5 then some μ else bd (fX3_get L (o + 3) v5 μ) (fun b3 μ2 => (if b3 ≤ 0 then fX5_direct_167 L o r1 self132 v2 v3 v5 μ2 else bd (fX3_get L (o + 3) v5 μ2) (fun b5 μ4 => bv (fX0_moveToValue L r1 v2 (0 : Int32) v5 b5 μ4) (fun μ6 => fX5_direct_167 L o r1 self132 v2 v3 v5 μ6)))))
def fX5_direct_132 (L : Nat → Nat) (o : Nat) (r1 : Nat) : Nat → Int32 → Int32 → Int32 → Mem → Option Mem
  | 0, _, _, _, _ => none
  | k + 1, v2, v3, v5, μ => fX5_direct_132_b L o r1 (fX5_direct_132 L o r1 k) v2 v3 v5 μ
def fX5_direct_123 (L : Nat → Nat) (o : Nat) (r1 : Nat) (self87 : Int32 → Int32 → Int32 → Int32 → Mem → Option Mem) (v2 v3 v4 v5 : Int32) (μ : Mem) : Option Mem :=
  lt' (v5 + 1) (fun a7 => self87 v2 v3 v4 a7 μ)
def fX5_direct_87_b (L : Nat → Nat) (o : Nat) (r1 : Nat) (self87 : Int32 → Int32 → Int32 → Int32 → Mem → Option Mem) (v2 v3 v4 v5 : Int32) (μ : Mem) : Option Mem :=
  (if v4 ≤ v5 then fX5_direct_132 L o r1 FU v2 v3 (0 : Int32) μ else bd (fX3_get L (o + 5) v5 μ) (fun b9 μ8 => (if b9 ≤ 0 then fX5_direct_123 L o r1 self87 v2 v3 v4 v5 μ8 else bd (fX3_get L (o + 5) v5 μ8) (fun b11 μ10 => bv (fX0_moveToTable L r1 v2 (1 : Int32) v5 b11 μ10) (fun μ12 => fX5_direct_123 L o r1 self87 v2 v3 v4 v5 μ12)))))
def fX5_direct_87 (L : Nat → Nat) (o : Nat) (r1 : Nat) : Nat → Int32 → Int32 → Int32 → Int32 → Mem → Option Mem
  | 0, _, _, _, _, _ => none
  | k + 1, v2, v3, v4, v5, μ => fX5_direct_87_b L o r1 (fX5_direct_87 L o r1 k) v2 v3 v4 v5 μ
def fX5_direct_54_b (L : Nat → Nat) (o : Nat) (r1 : Nat) (self54 : Int32 → Int32 → Int32 → Int32 → Mem → Option Mem) (v2 v3 v4 v5 : Int32) (μ : Mem) : Option Mem :=
  (if v4 ≤ v5 then fX5_direct_87 L o r1 FU v2 v3 v4 (0 : Int32) μ else bd (fX5_needOf L o r1 v2 v5 μ) (fun b14 μ13 => bv (fX3_set L (o + 5) v5 b14 μ13) (fun μ15 => lt' (v5 + 1) (fun a16 => self54 v2 v3 v4 a16 μ15))))
def fX5_direct_54 (L : Nat → Nat) (o : Nat) (r1 : Nat) : Nat → Int32 → Int32 → Int32 → Int32 → Mem → Option Mem
  | 0, _, _, _, _, _ => none
  | k + 1, v2, v3, v4, v5, μ => fX5_direct_54_b L o r1 (fX5_direct_54 L o r1 k) v2 v3 v4 v5 μ
def fX5_direct_23_b (L : Nat → Nat) (o : Nat) (r1 : Nat) (self23 : Int32 → Int32 → Int32 → Int32 → Mem → Option Mem) (v2 v3 v4 v5 : Int32) (μ : Mem) : Option Mem :=
  (if v3 ≤ v5 then fX5_direct_54 L o r1 FU v2 v3 v4 (0 : Int32) μ else bd (fX5_reachOf L r1 v2 v5 μ) (fun b18 μ17 => bv (fX3_set L (o + 3) v5 b18 μ17) (fun μ19 => lt' (v5 + 1) (fun a20 => self23 v2 v3 v4 a20 μ19))))
def fX5_direct_23 (L : Nat → Nat) (o : Nat) (r1 : Nat) : Nat → Int32 → Int32 → Int32 → Int32 → Mem → Option Mem
  | 0, _, _, _, _, _ => none
  | k + 1, v2, v3, v4, v5, μ => fX5_direct_23_b L o r1 (fX5_direct_23 L o r1 k) v2 v3 v4 v5 μ
def fX5_direct (L : Nat → Nat) (o : Nat) (r1 : Nat) (v2 : Int32) (μ : Mem) : Option Mem :=
  bd (fX0_valuesOn L r1 v2 (0 : Int32) μ) (fun b22 μ21 => bd (fX0_valuesOn L r1 v2 (1 : Int32) μ21) (fun b24 μ23 => bv (fX0_topPairsOfTopSingles L r1 v2 μ23) (fun μ25 => fX5_direct_23 L o r1 FU v2 b22 b24 (0 : Int32) μ25)))
-- X5_doDirected
def fX5_doDirected_37 (L : Nat → Nat) (o : Nat) (r1 : Nat) (self13 : Int32 → Int32 → Mem → Option Mem) (v2 v3 : Int32) (μ : Mem) : Option Mem :=
  lt' (v3 + 1) (fun a1 => self13 v2 a1 μ)
def fX5_doDirected_13_b (L : Nat → Nat) (o : Nat) (r1 : Nat) (self7 : Int32 → Mem → Option Mem) (self13 : Int32 → Int32 → Mem → Option Mem) (v2 v3 : Int32) (μ : Mem) : Option Mem :=
  bd (fX0_tables L r1 μ) (fun b3 μ2 => (if b3 ≤ v3 then lt' (v2 + (-1)) (fun a4 => self7 a4 μ2) else bd (fX0_nameOn L r1 v3 (1 : Int32) μ2) (fun b6 μ5 => (if b6 = v2 then bv (fX5_direct L o r1 v3 μ5) (fun μ7 => fX5_doDirected_37 L o r1 self13 v2 v3 μ7) else fX5_doDirected_37 L o r1 self13 v2 v3 μ5))))
def fX5_doDirected_13 (L : Nat → Nat) (o : Nat) (r1 : Nat) (self7 : Int32 → Mem → Option Mem) : Nat → Int32 → Int32 → Mem → Option Mem
  | 0, _, _, _ => none
  | k + 1, v2, v3, μ => fX5_doDirected_13_b L o r1 self7 (fX5_doDirected_13 L o r1 self7 k) v2 v3 μ
def fX5_doDirected_7_b (L : Nat → Nat) (o : Nat) (r1 : Nat) (self7 : Int32 → Mem → Option Mem) (v2 : Int32) (μ : Mem) : Option Mem :=
  (if v2 < 0 then some μ else fX5_doDirected_13 L o r1 self7 FU v2 (0 : Int32) μ)
def fX5_doDirected_7 (L : Nat → Nat) (o : Nat) (r1 : Nat) : Nat → Int32 → Mem → Option Mem
  | 0, _, _ => none
  | k + 1, v2, μ => fX5_doDirected_7_b L o r1 (fX5_doDirected_7 L o r1 k) v2 μ
def fX5_doDirected (L : Nat → Nat) (o : Nat) (r1 : Nat) (μ : Mem) : Option Mem :=
  bd (fX0_names L r1 μ) (fun b9 μ8 => lt' (b9 - (1 : Int32)) (fun a10 => fX5_doDirected_7 L o r1 FU a10 μ8))
-- X5_doNodes
def fX5_doNodes_26 (L : Nat → Nat) (r0 : Nat) (self2 : Int32 → Mem → Option Mem) (v1 : Int32) (μ : Mem) : Option Mem :=
  bv (fX0_topShutSingles L r0 v1 μ) (fun μ1 => lt' (v1 + 1) (fun a2 => self2 a2 μ1))
def fX5_doNodes_2_b (L : Nat → Nat) (r0 : Nat) (self2 : Int32 → Mem → Option Mem) (v1 : Int32) (μ : Mem) : Option Mem :=
  bd (fX0_names L r0 μ) (fun b4 μ3 => (if b4 ≤ v1 then some μ3 else bd (fX0_leastSingle L r0 v1 μ3) (fun b6 μ5 => (if b6 ≤ 0 then fX5_doNodes_26 L r0 self2 v1 μ5 else bv (fX0_moveToConstant L r0 v1 b6 μ5) (fun μ7 => fX5_doNodes_26 L r0 self2 v1 μ7)))))
def fX5_doNodes_2 (L : Nat → Nat) (r0 : Nat) : Nat → Int32 → Mem → Option Mem
  | 0, _, _ => none
  | k + 1, v1, μ => fX5_doNodes_2_b L r0 (fX5_doNodes_2 L r0 k) v1 μ
def fX5_doNodes (L : Nat → Nat) (r0 : Nat) (μ : Mem) : Option Mem :=
  fX5_doNodes_2 L r0 FU (0 : Int32) μ
-- X5_doOne
def fX5_doOne_22 (L : Nat → Nat) (o : Nat) (r1 : Nat) (μ : Mem) : Option Mem :=
  bv (fX5_doNodes L r1 μ) (fun μ1 => some μ1)
def fX5_doOne (L : Nat → Nat) (o : Nat) (r1 : Nat) (v2 : Int32) (μ : Mem) : Option Mem :=
  (if v2 = (1 : Int32) then bv (fX5_doArcs L r1 μ) (fun μ3 => fX5_doOne_22 L o r1 μ3) else (if v2 = (2 : Int32) then bv (fX5_doDirected L o r1 μ) (fun μ2 => fX5_doOne_22 L o r1 μ2) else fX5_doOne_22 L o r1 μ))
-- X5_doTillSettled
def fX5_doTillSettled_2_b (L : Nat → Nat) (o : Nat) (r1 : Nat) (self2 : Int32 → Int32 → Mem → Option (Int32 × Mem)) (v2 v3 : Int32) (μ : Mem) : Option (Int32 × Mem) :=
  (if (20 : Int32) ≤ v3 then some ((20 : Int32), μ) else bv (fX0_copyTo L r1 (o + 1) μ) (fun μ1 => bv (fX5_doOne L o r1 v2 μ1) (fun μ2 => bd (fX0_areAs L r1 (o + 1) μ2) (fun b4 μ3 => (if b4 = 0 then lt' (v3 + 1) (fun a5 => self2 v2 a5 μ3) else some (v3, μ3))))))
def fX5_doTillSettled_2 (L : Nat → Nat) (o : Nat) (r1 : Nat) : Nat → Int32 → Int32 → Mem → Option (Int32 × Mem)
  | 0, _, _, _ => none
  | k + 1, v2, v3, μ => fX5_doTillSettled_2_b L o r1 (fX5_doTillSettled_2 L o r1 k) v2 v3 μ
def fX5_doTillSettled (L : Nat → Nat) (o : Nat) (r1 : Nat) (v2 : Int32) (μ : Mem) : Option (Int32 × Mem) :=
  fX5_doTillSettled_2 L o r1 FU v2 (0 : Int32) μ
-- X6_clear
def fX6_clear (L : Nat → Nat) (o : Nat) (μ : Mem) : Option Mem :=
  pu μ o 1 (0 : Int32) (fun μ1 => some μ1)
-- X6_add
def fX6_add (L : Nat → Nat) (o : Nat) (v1 : Int32) (μ : Mem) : Option (Int32 × Mem) :=
  (if (μ o 1) < (200 : Int32) then bv (fX3_set L (o + 1) (μ o 1) v1 μ) (fun μ1 => pu μ1 o 1 ((μ1 o 1) + (1 : Int32)) (fun μ2 => some ((1 : Int32), μ2))) else some ((0 : Int32), μ))
-- X7_leastBeside
def fX7_leastBeside_9_b (L : Nat → Nat) (o : Nat) (r1 : Nat) (self9 : Int32 → Int32 → Int32 → Int32 → Mem → Option (Int32 × Mem)) (v2 v3 v4 v5 : Int32) (μ : Mem) : Option (Int32 × Mem) :=
  bd (fX0_valuesOf L r1 v3 μ) (fun b2 μ1 => (if b2 ≤ v5 then some (v4, μ1) else bd (fX0_costBeside L r1 (o + 1) (v2 + (1 : Int32)) v3 v5 (-1 : Int32) μ1) (fun b4 μ3 => lt' (if b4 < v4 then b4 else v4) (fun a5 => lt' (v5 + 1) (fun a6 => self9 v2 v3 a5 a6 μ3)))))
def fX7_leastBeside_9 (L : Nat → Nat) (o : Nat) (r1 : Nat) : Nat → Int32 → Int32 → Int32 → Int32 → Mem → Option (Int32 × Mem)
  | 0, _, _, _, _, _ => none
  | k + 1, v2, v3, v4, v5, μ => fX7_leastBeside_9_b L o r1 (fX7_leastBeside_9 L o r1 k) v2 v3 v4 v5 μ
def fX7_leastBeside (L : Nat → Nat) (o : Nat) (r1 : Nat) (v2 v3 : Int32) (μ : Mem) : Option (Int32 × Mem) :=
  bd (fX0_top L r1 μ) (fun b8 μ7 => fX7_leastBeside_9 L o r1 FU v2 v3 b8 (0 : Int32) μ7)
-- X7_lowOf
def fX7_lowOf_8_b (L : Nat → Nat) (o : Nat) (r1 : Nat) (self8 : Int32 → Int32 → Int32 → Mem → Option (Int32 × Mem)) (v2 v4 v5 : Int32) (μ : Mem) : Option (Int32 × Mem) :=
  bd (fX0_names L r1 μ) (fun b2 μ1 => (if b2 ≤ v5 then some (v4, μ1) else bd (fX7_leastBeside L o r1 v2 v5 μ1) (fun b4 μ3 => bd (fX0_sum L r1 v4 b4 μ3) (fun b6 μ5 => lt' (v5 + 1) (fun a7 => self8 v2 b6 a7 μ5)))))
def fX7_lowOf_8 (L : Nat → Nat) (o : Nat) (r1 : Nat) : Nat → Int32 → Int32 → Int32 → Mem → Option (Int32 × Mem)
  | 0, _, _, _, _ => none
  | k + 1, v2, v4, v5, μ => fX7_lowOf_8_b L o r1 (fX7_lowOf_8 L o r1 k) v2 v4 v5 μ
def fX7_lowOf (L : Nat → Nat) (o : Nat) (r1 : Nat) (v2 v3 : Int32) (μ : Mem) : Option (Int32 × Mem) :=
  lt' (v2 + (1 : Int32)) (fun a8 => fX7_lowOf_8 L o r1 FU v2 v3 a8 μ)
-- X7_tryValue
def fX7_tryValue_0 (L : Nat → Nat) (go : Int32 → Int32 → Mem → Option Mem) (o : Nat) (r1 : Nat) (v2 v3 v4 : Int32) (μ : Mem) : Option Mem :=
  bv (fX3_set L (o + 1) v2 v3 μ) (fun μ1 => pu μ1 o 2 ((μ1 o 2) + (1 : Int32)) (fun μ2 => bd (fX0_costBeside L r1 (o + 1) v2 v2 v3 (-1 : Int32) μ2) (fun b4 μ3 => bd (fX0_sum L r1 v4 b4 μ3) (fun b6 μ5 => bd (fX7_lowOf L o r1 v2 b6 μ5) (fun b8 μ7 => (if b8 < (μ7 o 1) then bd (fX0_names L r1 μ7) (fun b10 μ9 => (if (v2 + (1 : Int32)) = b10 then pu μ9 o 1 b8 (fun μ12 => some μ12) else bv (go (v2 + (1 : Int32)) b6 μ9) (fun μ11 => some μ11))) else some μ7))))))
abbrev fX7_tryValue (L : Nat → Nat) (go : Int32 → Int32 → Mem → Option Mem) (o : Nat) (r1 : Nat) (v2 v3 v4 : Int32) (μ : Mem) : Option Mem := fX7_tryValue_0 L go o r1 v2 v3 v4 μ
-- X7_goOn
def fX7_goOn_18_b (L : Nat → Nat) (go : Int32 → Int32 → Mem → Option Mem) (o : Nat) (r1 : Nat) (self18 : Int32 → Int32 → Int32 → Mem → Option Mem) (v2 v3 v4 : Int32) (μ : Mem) : Option Mem :=
  bd (fX0_valuesOf L r1 v2 μ) (fun b2 μ1 => (if b2 ≤ v4 then some μ1 else bv (fX7_tryValue L go o r1 v2 v4 v3 μ1) (fun μ3 => lt' (v4 + 1) (fun a4 => self18 v2 v3 a4 μ3))))
def fX7_goOn_18 (L : Nat → Nat) (go : Int32 → Int32 → Mem → Option Mem) (o : Nat) (r1 : Nat) : Nat → Int32 → Int32 → Int32 → Mem → Option Mem
  | 0, _, _, _, _ => none
  | k + 1, v2, v3, v4, μ => fX7_goOn_18_b L go o r1 (fX7_goOn_18 L go o r1 k) v2 v3 v4 μ
def fX7_goOn_0 (L : Nat → Nat) (go : Int32 → Int32 → Mem → Option Mem) (o : Nat) (r1 : Nat) (v2 v3 : Int32) (μ : Mem) : Option Mem :=
  bd (fX0_names L r1 μ) (fun b6 μ5 => (if b6 ≤ v2 then some μ5 else (if v2 < (6 : Int32) then fX7_goOn_18 L go o r1 FU v2 v3 (0 : Int32) μ5 else some μ5)))
def fX7_goOn : Nat → (Nat → Nat) → Nat → Nat → Int32 → Int32 → Mem → Option Mem
  | 0, _, _, _, _, _, _ => none
  | d + 1, L, o, r1, v2, v3, μ => fX7_goOn_0 L (fX7_goOn d L o r1) o r1 v2 v3 μ
-- X7_countTries
def fX7_countTries (L : Nat → Nat) (o : Nat) (r1 : Nat) (μ : Mem) : Option (Int32 × Mem) :=
  bd (fX0_top L r1 μ) (fun b2 μ1 => pu μ1 o 1 b2 (fun μ3 => pu μ3 o 2 (0 : Int32) (fun μ4 => bd (fX0_constant L r1 μ4) (fun b6 μ5 => bv (fX7_goOn 8 L o r1 (0 : Int32) b6 μ5) (fun μ7 => some ((μ7 o 2), μ7))))))
-- X8_write
def fX8_write (L : Nat → Nat) (o : Nat) (v1 : Int32) (μ : Mem) : Option (Int32 × Mem) :=
  (if v1 < (32 : Int32) then some ((-1 : Int32), μ) else (if v1 ≤ (126 : Int32) then bd (fX6_add L (o + 1) v1 μ) (fun b2 μ1 => (if b2 = 0 then some ((-3 : Int32), μ1) else bd (fX6_length L (o + 1) μ1) (fun b4 μ3 => some (b4, μ3)))) else some ((-1 : Int32), μ)))
-- X8_wipe
def fX8_wipe (L : Nat → Nat) (o : Nat) (μ : Mem) : Option (Int32 × Mem) :=
  bd (fX6_length L (o + 1) μ) (fun b2 μ1 => bv (fX6_clear L (o + 1) μ1) (fun μ3 => some (b2, μ3)))
-- X8_fault
def fX8_fault (L : Nat → Nat) (o : Nat) (μ : Mem) : Option (Int32 × Mem) :=
  bd (fX2_readAll L (o + 4) (o + 1) (o + 16) μ) (fun b2 μ1 => some (b2, μ1))
-- X8_lay
def fX8_lay (L : Nat → Nat) (o : Nat) (μ : Mem) : Option (Int32 × Mem) :=
  bd (fX2_readAll L (o + 4) (o + 1) (o + 16) μ) (fun b2 μ1 => (if b2 = (-4 : Int32) then bd (fX0_names L (o + 16) μ1) (fun b4 μ3 => (if b4 = 0 then some ((-2 : Int32), μ3) else bv (fX0_takeAll L (o + 7) (o + 16) μ3) (fun μ5 => bv (fX3_clear L (o + 25) μ5) (fun μ6 => bv (fX1_clear L (o + 34) μ6) (fun μ7 => bd (fX0_names L (o + 7) μ7) (fun b9 μ8 => some (b9, μ8))))))) else some ((-2 : Int32), μ1)))
-- X8_name
def fX8_name (L : Nat → Nat) (o : Nat) (v1 v2 : Int32) (μ : Mem) : Option (Int32 × Mem) :=
  bd (fX0_hasName L (o + 7) v1 μ) (fun b2 μ1 => (if b2 = 0 then some ((-1 : Int32), μ1) else (if v2 = (0 : Int32) then bd (fX0_valuesOf L (o + 7) v1 μ1) (fun b4 μ3 => some (b4, μ3)) else (if v2 = (1 : Int32) then bd (fX0_tablesOf L (o + 7) v1 μ1) (fun b6 μ5 => some (b6, μ5)) else (if v2 = (2 : Int32) then bd (fX0_shutOf L (o + 7) v1 μ1) (fun b8 μ7 => some (b8, μ7)) else (if v2 = (3 : Int32) then bd (fX0_leastSingle L (o + 7) v1 μ1) (fun b10 μ9 => some (b10, μ9)) else some ((-1 : Int32), μ1)))))))
-- X8_single
def fX8_single (L : Nat → Nat) (o : Nat) (v1 v2 : Int32) (μ : Mem) : Option (Int32 × Mem) :=
  bd (fX0_hasValue L (o + 7) v1 v2 μ) (fun b2 μ1 => (if b2 = 0 then some ((-1 : Int32), μ1) else bd (fX0_singleCost L (o + 7) v1 v2 μ1) (fun b4 μ3 => some (b4, μ3))))
-- X8_table
def fX8_table (L : Nat → Nat) (o : Nat) (v1 v2 : Int32) (μ : Mem) : Option (Int32 × Mem) :=
  bd (fX0_hasTable L (o + 7) v1 μ) (fun b2 μ1 => (if b2 = 0 then some ((-1 : Int32), μ1) else (if v2 = (0 : Int32) then bd (fX0_nameOn L (o + 7) v1 (0 : Int32) μ1) (fun b4 μ3 => some (b4, μ3)) else (if v2 = (1 : Int32) then bd (fX0_nameOn L (o + 7) v1 (1 : Int32) μ1) (fun b6 μ5 => some (b6, μ5)) else (if v2 = (2 : Int32) then bd (fX0_leastOfTable L (o + 7) v1 μ1) (fun b8 μ7 => some (b8, μ7)) else (if v2 = (3 : Int32) then bd (fX0_greatestOfTable L (o + 7) v1 μ1) (fun b10 μ9 => some (b10, μ9)) else some ((-1 : Int32), μ1)))))))
-- X8_pair
def fX8_pair (L : Nat → Nat) (o : Nat) (v1 v2 v3 : Int32) (μ : Mem) : Option (Int32 × Mem) :=
  bd (fX0_hasPair L (o + 7) v1 v2 v3 μ) (fun b2 μ1 => (if b2 = 0 then some ((-1 : Int32), μ1) else bd (fX0_pairCost L (o + 7) v1 v2 v3 μ1) (fun b4 μ3 => some (b4, μ3))))
-- X8_isStep
def fX8_isStep (L : Nat → Nat) (v0 : Int32) (μ : Mem) : Option (Int32 × Mem) :=
  (if v0 < (1 : Int32) then some ((0 : Int32), μ) else (if (99 : Int32) < v0 then some ((0 : Int32), μ) else some ((1 : Int32), μ)))
-- X8_grow
def fX8_grow (L : Nat → Nat) (o : Nat) (v1 v2 v3 : Int32) (μ : Mem) : Option (Int32 × Mem) :=
  bd (fX0_hasValue L (o + 7) v1 v2 μ) (fun b2 μ1 => (if b2 = 0 then some ((-1 : Int32), μ1) else bd (fX8_isStep L v3 μ1) (fun b4 μ3 => (if b4 = 0 then some ((-1 : Int32), μ3) else bv (fX1_keep L (o + 34) (o + 7) μ3) (fun μ5 => bv (fX0_growSingle L (o + 7) v1 v2 v3 μ5) (fun μ6 => bd (fX0_singleCost L (o + 7) v1 v2 μ6) (fun b8 μ7 => some (b8, μ7))))))))
-- X8_choose
def fX8_choose (L : Nat → Nat) (o : Nat) (v1 v2 : Int32) (μ : Mem) : Option (Int32 × Mem) :=
  bd (fX0_hasValue L (o + 7) v1 v2 μ) (fun b2 μ1 => (if b2 = 0 then some ((-1 : Int32), μ1) else bd (fX3_get L (o + 25) v1 μ1) (fun b4 μ3 => (if b4 = v2 then some ((-2 : Int32), μ3) else bv (fX3_set L (o + 25) v1 v2 μ3) (fun μ5 => some (b4, μ5))))))
-- X8_total
def fX8_total (L : Nat → Nat) (o : Nat) (μ : Mem) : Option (Int32 × Mem) :=
  bd (fX0_totalOf L (o + 7) (o + 25) μ) (fun b2 μ1 => some (b2, μ1))
-- X8_project
def fX8_project (L : Nat → Nat) (o : Nat) (v1 v2 v3 v4 : Int32) (μ : Mem) : Option (Int32 × Mem) :=
  bd (fX0_hasValueOn L (o + 7) v1 v2 v3 μ) (fun b2 μ1 => (if b2 = 0 then some ((-1 : Int32), μ1) else bd (fX8_isStep L v4 μ1) (fun b4 μ3 => (if b4 = 0 then some ((-1 : Int32), μ3) else bd (fX0_leastPairOf L (o + 7) v1 v2 v3 μ3) (fun b6 μ5 => (if v4 ≤ b6 then bv (fX1_keep L (o + 34) (o + 7) μ5) (fun μ7 => bv (fX0_moveToValue L (o + 7) v1 v2 v3 v4 μ7) (fun μ8 => bd (fX0_nameOn L (o + 7) v1 v2 μ8) (fun b10 μ9 => bd (fX0_singleCost L (o + 7) b10 v3 μ9) (fun b12 μ11 => some (b12, μ11))))) else some ((-2 : Int32), μ5)))))))
-- X8_extend
def fX8_extend (L : Nat → Nat) (o : Nat) (v1 v2 v3 v4 : Int32) (μ : Mem) : Option (Int32 × Mem) :=
  bd (fX0_hasValueOn L (o + 7) v1 v2 v3 μ) (fun b2 μ1 => (if b2 = 0 then some ((-1 : Int32), μ1) else bd (fX8_isStep L v4 μ1) (fun b4 μ3 => (if b4 = 0 then some ((-1 : Int32), μ3) else bd (fX0_nameOn L (o + 7) v1 v2 μ3) (fun b6 μ5 => bd (fX0_singleCost L (o + 7) b6 v3 μ5) (fun b8 μ7 => (if v4 ≤ b8 then bv (fX1_keep L (o + 34) (o + 7) μ7) (fun μ9 => bv (fX0_moveToTable L (o + 7) v1 v2 v3 v4 μ9) (fun μ10 => bd (fX0_singleCost L (o + 7) b6 v3 μ10) (fun b12 μ11 => some (b12, μ11)))) else some ((-2 : Int32), μ7))))))))
-- X8_raise
def fX8_raise (L : Nat → Nat) (o : Nat) (v1 v2 : Int32) (μ : Mem) : Option (Int32 × Mem) :=
  bd (fX0_hasName L (o + 7) v1 μ) (fun b2 μ1 => (if b2 = 0 then some ((-1 : Int32), μ1) else bd (fX8_isStep L v2 μ1) (fun b4 μ3 => (if b4 = 0 then some ((-1 : Int32), μ3) else bd (fX0_leastSingle L (o + 7) v1 μ3) (fun b6 μ5 => (if v2 ≤ b6 then bv (fX1_keep L (o + 34) (o + 7) μ5) (fun μ7 => bv (fX0_moveToConstant L (o + 7) v1 v2 μ7) (fun μ8 => bd (fX0_constant L (o + 7) μ8) (fun b10 μ9 => some (b10, μ9)))) else some ((-2 : Int32), μ5)))))))
-- X8_isSweep
def fX8_isSweep (L : Nat → Nat) (v0 : Int32) (μ : Mem) : Option (Int32 × Mem) :=
  (if v0 < 0 then some ((0 : Int32), μ) else (if (2 : Int32) < v0 then some ((0 : Int32), μ) else some ((1 : Int32), μ)))
-- X8_sweep
def fX8_sweep_33_b (L : Nat → Nat) (o : Nat) (self33 : Int32 → Int32 → Int32 → Mem → Option (Int32 × Mem)) (v1 v2 v3 : Int32) (μ : Mem) : Option (Int32 × Mem) :=
  (if v2 ≤ v3 then bd (fX0_constant L (o + 7) μ) (fun b2 μ1 => some (b2, μ1)) else bv (fX5_doOne L (o + 27) (o + 7) v1 μ) (fun μ3 => lt' (v3 + 1) (fun a4 => self33 v1 v2 a4 μ3)))
def fX8_sweep_33 (L : Nat → Nat) (o : Nat) : Nat → Int32 → Int32 → Int32 → Mem → Option (Int32 × Mem)
  | 0, _, _, _, _ => none
  | k + 1, v1, v2, v3, μ => fX8_sweep_33_b L o (fX8_sweep_33 L o k) v1 v2 v3 μ
def fX8_sweep (L : Nat → Nat) (o : Nat) (v1 v2 : Int32) (μ : Mem) : Option (Int32 × Mem) :=
  bd (fX8_isSweep L v1 μ) (fun b6 μ5 => (if b6 = 0 then some ((-1 : Int32), μ5) else (if v2 < (1 : Int32) then some ((-1 : Int32), μ5) else (if v2 ≤ (9 : Int32) then bv (fX1_keep L (o + 34) (o + 7) μ5) (fun μ7 => fX8_sweep_33 L o FU v1 v2 (0 : Int32) μ7) else some ((-1 : Int32), μ5)))))
-- X8_settle
def fX8_settle (L : Nat → Nat) (o : Nat) (v1 : Int32) (μ : Mem) : Option (Int32 × Mem) :=
  bd (fX8_isSweep L v1 μ) (fun b2 μ1 => (if b2 = 0 then some ((-1 : Int32), μ1) else bv (fX1_keep L (o + 34) (o + 7) μ1) (fun μ3 => bd (fX5_doTillSettled L (o + 27) (o + 7) v1 μ3) (fun b5 μ4 => some (b5, μ4)))))
-- X8_bound
def fX8_bound (L : Nat → Nat) (o : Nat) (v1 : Int32) (μ : Mem) : Option (Int32 × Mem) :=
  bd (fX8_isSweep L v1 μ) (fun b2 μ1 => (if b2 = 0 then some ((-1 : Int32), μ1) else bv (fX0_takeAll L (o + 16) (o + 7) μ1) (fun μ3 => bd (fX5_doTillSettled L (o + 27) (o + 16) v1 μ3) (fun b5 μ4 => bd (fX0_constant L (o + 16) μ4) (fun b7 μ6 => some (b7, μ6))))))
-- X8_undo
def fX8_undo (L : Nat → Nat) (o : Nat) (μ : Mem) : Option (Int32 × Mem) :=
  bd (fX1_giveBack L (o + 34) (o + 7) μ) (fun b2 μ1 => (if b2 = 0 then some ((-2 : Int32), μ1) else bd (fX1_size L (o + 34) μ1) (fun b4 μ3 => some (b4, μ3))))
-- X8_best
def fX8_best_24 (L : Nat → Nat) (o : Nat) (v1 : Int32) (μ : Mem) : Option (Int32 × Mem) :=
  bv (fX4_goThrough L (o + 48) (o + 7) (-1 : Int32) (0 : Int32) (-1 : Int32) μ) (fun μ1 => bd (fX4_hasFound L (o + 48) μ1) (fun b3 μ2 => (if b3 = 0 then some ((-4 : Int32), μ2) else (if v1 = (-2 : Int32) then bd (fX4_waysOfLeast L (o + 48) μ2) (fun b5 μ4 => some (b5, μ4)) else (if v1 = (-1 : Int32) then bd (fX4_leastTotal L (o + 48) μ2) (fun b7 μ6 => some (b7, μ6)) else bd (fX4_firstValueOf L (o + 48) v1 μ2) (fun b9 μ8 => some (b9, μ8)))))))
def fX8_best (L : Nat → Nat) (o : Nat) (v1 : Int32) (μ : Mem) : Option (Int32 × Mem) :=
  (if v1 = (-1 : Int32) then fX8_best_24 L o v1 μ else (if v1 = (-2 : Int32) then fX8_best_24 L o v1 μ else bd (fX0_hasName L (o + 7) v1 μ) (fun b11 μ10 => (if b11 = 0 then some ((-1 : Int32), μ10) else fX8_best_24 L o v1 μ10))))
-- X8_next
def fX8_next_11 (L : Nat → Nat) (o : Nat) (v1 : Int32) (μ : Mem) : Option (Int32 × Mem) :=
  bv (fX4_goThrough L (o + 48) (o + 7) (-1 : Int32) (0 : Int32) (-1 : Int32) μ) (fun μ1 => (if v1 = (1 : Int32) then bd (fX4_choicesBelowTop L (o + 48) μ1) (fun b7 μ6 => some (b7, μ6)) else bd (fX4_hasSecond L (o + 48) μ1) (fun b3 μ2 => (if b3 = 0 then some ((-4 : Int32), μ2) else bd (fX4_secondTotal L (o + 48) μ2) (fun b5 μ4 => some (b5, μ4))))))
def fX8_next (L : Nat → Nat) (o : Nat) (v1 : Int32) (μ : Mem) : Option (Int32 × Mem) :=
  (if v1 = 0 then fX8_next_11 L o v1 μ else (if v1 = (1 : Int32) then fX8_next_11 L o v1 μ else some ((-1 : Int32), μ)))
-- X8_backbone
def fX8_backbone (L : Nat → Nat) (o : Nat) (μ : Mem) : Option (Int32 × Mem) :=
  bv (fX4_goThrough L (o + 48) (o + 7) (-1 : Int32) (0 : Int32) (-1 : Int32) μ) (fun μ1 => bd (fX4_hasFound L (o + 48) μ1) (fun b3 μ2 => (if b3 = 0 then some ((-4 : Int32), μ2) else bd (fX4_commonValues L (o + 48) μ2) (fun b5 μ4 => some (b5, μ4)))))
-- X8_with
def fX8_with (L : Nat → Nat) (o : Nat) (v1 v2 : Int32) (μ : Mem) : Option (Int32 × Mem) :=
  bd (fX0_hasValue L (o + 7) v1 v2 μ) (fun b2 μ1 => (if b2 = 0 then some ((-1 : Int32), μ1) else bv (fX4_goThrough L (o + 48) (o + 7) v1 v2 (-1 : Int32) μ1) (fun μ3 => bd (fX4_hasFound L (o + 48) μ3) (fun b5 μ4 => (if b5 = 0 then some ((-4 : Int32), μ4) else bd (fX4_leastTotal L (o + 48) μ4) (fun b7 μ6 => some (b7, μ6)))))))
-- X8_without
def fX8_without (L : Nat → Nat) (o : Nat) (v1 : Int32) (μ : Mem) : Option (Int32 × Mem) :=
  bd (fX0_hasTable L (o + 7) v1 μ) (fun b2 μ1 => (if b2 = 0 then some ((-1 : Int32), μ1) else bv (fX4_goThrough L (o + 48) (o + 7) (-1 : Int32) (0 : Int32) v1 μ1) (fun μ3 => bd (fX4_hasFound L (o + 48) μ3) (fun b5 μ4 => (if b5 = 0 then some ((-4 : Int32), μ4) else bd (fX4_leastTotal L (o + 48) μ4) (fun b7 μ6 => some (b7, μ6)))))))
-- X8_tries
def fX8_tries (L : Nat → Nat) (o : Nat) (μ : Mem) : Option (Int32 × Mem) :=
  bd (fX7_countTries L (o + 53) (o + 7) μ) (fun b2 μ1 => some (b2, μ1))
-- X8_count
def fX8_count (L : Nat → Nat) (o : Nat) (v1 : Int32) (μ : Mem) : Option (Int32 × Mem) :=
  (if v1 = (0 : Int32) then bd (fX0_names L (o + 7) μ) (fun b2 μ1 => some (b2, μ1)) else (if v1 = (1 : Int32) then bd (fX0_tables L (o + 7) μ) (fun b4 μ3 => some (b4, μ3)) else (if v1 = (2 : Int32) then bd (fX0_top L (o + 7) μ) (fun b6 μ5 => some (b6, μ5)) else (if v1 = (3 : Int32) then bd (fX0_constant L (o + 7) μ) (fun b8 μ7 => some (b8, μ7)) else (if v1 = (4 : Int32) then bd (fX0_shutInAll L (o + 7) μ) (fun b10 μ9 => some (b10, μ9)) else (if v1 = (5 : Int32) then bd (fX1_size L (o + 34) μ) (fun b12 μ11 => some (b12, μ11)) else (if v1 = (6 : Int32) then bd (fX6_length L (o + 1) μ) (fun b14 μ13 => some (b14, μ13)) else some ((-1 : Int32), μ))))))))
-- X9_begins
def fX9_begins_67 (L : Nat → Nat) (o : Nat) (self17 : Int32 → Int32 → Int32 → Int32 → Int32 → Mem → Option Mem) (v1 v2 v3 v4 v5 s0 s1 : Int32) (μ : Mem) : Option Mem :=
  ast L μ (o + 6) s1 s0 (fun μ1 => lt' (v5 + 1) (fun a2 => self17 v1 v2 v3 v4 a2 μ1))
def fX9_begins_66 (L : Nat → Nat) (o : Nat) (self17 : Int32 → Int32 → Int32 → Int32 → Int32 → Mem → Option Mem) (v1 v2 v3 v4 v5 s0 : Int32) (μ : Mem) : Option Mem :=
  fX9_begins_67 L o self17 v1 v2 v3 v4 v5 (0 : Int32) s0 μ
def fX9_begins_17_b (L : Nat → Nat) (o : Nat) (self17 : Int32 → Int32 → Int32 → Int32 → Int32 → Mem → Option Mem) (v1 v2 v3 v4 v5 : Int32) (μ : Mem) : Option Mem :=
  (if (4 : Int32) ≤ v5 then some μ else ald L μ (o + 2) v2 (fun a3 => (if a3 ≤ v5 then fX9_begins_66 L o self17 v1 v2 v3 v4 v5 (((24 : Int32) + ((16 : Int32) * v1)) + ((5 : Int32) * v5)) μ else ald L μ (o + 2) v3 (fun a4 => (if a4 ≤ v5 then fX9_begins_66 L o self17 v1 v2 v3 v4 v5 (((24 : Int32) + ((16 : Int32) * v1)) + ((5 : Int32) * v5)) μ else fX9_begins_67 L o self17 v1 v2 v3 v4 v5 v4 (((24 : Int32) + ((16 : Int32) * v1)) + ((5 : Int32) * v5)) μ)))))
def fX9_begins_17 (L : Nat → Nat) (o : Nat) : Nat → Int32 → Int32 → Int32 → Int32 → Int32 → Mem → Option Mem
  | 0, _, _, _, _, _, _ => none
  | k + 1, v1, v2, v3, v4, v5, μ => fX9_begins_17_b L o (fX9_begins_17 L o k) v1 v2 v3 v4 v5 μ
def fX9_begins (L : Nat → Nat) (o : Nat) (v1 v2 v3 v4 : Int32) (μ : Mem) : Option Mem :=
  ast L μ (o + 3) v1 v2 (fun μ5 => ast L μ5 (o + 4) v1 v3 (fun μ6 => fX9_begins_17 L o FU v1 v2 v3 v4 (0 : Int32) μ6))
-- X9_isIn
def fX9_isIn (L : Nat → Nat) (v0 v1 v2 : Int32) (μ : Mem) : Option (Int32 × Mem) :=
  (if v0 < v1 then some ((0 : Int32), μ) else (if v2 < v0 then some ((0 : Int32), μ) else some ((1 : Int32), μ)))
-- X9_letterAt
def fX9_letterAt (L : Nat → Nat) (o : Nat) (v1 : Int32) (μ : Mem) : Option (Int32 × Mem) :=
  (if (μ o 0) ≤ v1 then some ((0 : Int32), μ) else ald L μ (o + 1) v1 (fun a1 => some (a1, μ)))
-- X9_number
def fX9_number_65 (L : Nat → Nat) (o : Nat) (v1 v2 v3 v4 : Int32) (μ : Mem) : Option (Int32 × Mem) :=
  pu μ o 21 v4 (fun μ1 => (if v4 ≤ v1 then some ((0 : Int32), μ1) else bd (fX9_isIn L (μ1 o 20) v2 v3 μ1) (fun b3 μ2 => (if b3 = 0 then some ((0 : Int32), μ2) else some ((1 : Int32), μ2)))))
def fX9_number_8_b (L : Nat → Nat) (o : Nat) (self8 : Int32 → Int32 → Int32 → Int32 → Mem → Option (Int32 × Mem)) (v1 v2 v3 v4 : Int32) (μ : Mem) : Option (Int32 × Mem) :=
  bd (fX9_letterAt L o v4 μ) (fun b5 μ4 => (if b5 < (48 : Int32) then fX9_number_65 L o v1 v2 v3 v4 μ4 else bd (fX9_letterAt L o v4 μ4) (fun b7 μ6 => (if (57 : Int32) < b7 then fX9_number_65 L o v1 v2 v3 v4 μ6 else (if (v1 + (2 : Int32)) ≤ v4 then fX9_number_65 L o v1 v2 v3 v4 μ6 else bd (fX9_letterAt L o v4 μ6) (fun b9 μ8 => pu μ8 o 20 ((((10 : Int32) * (μ6 o 20)) + b9) - (48 : Int32)) (fun μ10 => lt' (v4 + 1) (fun a11 => self8 v1 v2 v3 a11 μ10))))))))
def fX9_number_8 (L : Nat → Nat) (o : Nat) : Nat → Int32 → Int32 → Int32 → Int32 → Mem → Option (Int32 × Mem)
  | 0, _, _, _, _, _ => none
  | k + 1, v1, v2, v3, v4, μ => fX9_number_8_b L o (fX9_number_8 L o k) v1 v2 v3 v4 μ
def fX9_number (L : Nat → Nat) (o : Nat) (v1 v2 v3 : Int32) (μ : Mem) : Option (Int32 × Mem) :=
  pu μ o 20 (0 : Int32) (fun μ12 => fX9_number_8 L o FU v1 v2 v3 v1 μ12)
-- X9_more
def fX9_more (L : Nat → Nat) (o : Nat) (v1 v2 : Int32) (μ : Mem) : Option (Int32 × Mem) :=
  bd (fX9_letterAt L o (μ o 21) μ) (fun b2 μ1 => (if b2 = (44 : Int32) then bd (fX9_number L o ((μ1 o 21) + (1 : Int32)) v1 v2 μ1) (fun b4 μ3 => (if b4 = 0 then some ((0 : Int32), μ3) else some ((1 : Int32), μ3))) else some ((0 : Int32), μ1)))
-- X9_readsName
def fX9_readsName (L : Nat → Nat) (o : Nat) (v1 : Int32) (μ : Mem) : Option (Int32 × Mem) :=
  (if (μ o 13) = (6 : Int32) then some ((0 : Int32), μ) else bd (fX9_number L o v1 (2 : Int32) (4 : Int32) μ) (fun b2 μ1 => (if b2 = 0 then some ((0 : Int32), μ1) else ast L μ1 (o + 9) (μ1 o 13) (μ1 o 20) (fun μ3 => pu μ3 o 13 ((μ3 o 13) + (1 : Int32)) (fun μ4 => some ((1 : Int32), μ4))))))
-- X9_readsSingle
def fX9_readsSingle (L : Nat → Nat) (o : Nat) (v1 : Int32) (μ : Mem) : Option (Int32 × Mem) :=
  bd (fX9_number L o v1 (0 : Int32) ((μ o 13) - (1 : Int32)) μ) (fun b2 μ1 => (if b2 = 0 then some ((0 : Int32), μ1) else lt' (μ1 o 20) (fun a3 => ald L μ1 (o + 9) a3 (fun a4 => bd (fX9_more L o (0 : Int32) (a4 - (1 : Int32)) μ1) (fun b6 μ5 => (if b6 = 0 then some ((0 : Int32), μ5) else lt' (((4 : Int32) * a3) + (μ5 o 20)) (fun a7 => bd (fX9_more L o (0 : Int32) (99 : Int32) μ5) (fun b9 μ8 => ast L μ8 (o + 12) a7 (μ8 o 20) (fun μ10 => zr b9 μ10)))))))))
-- X9_readsTable
def fX9_readsTable_147 (L : Nat → Nat) (o : Nat) (self108 : Int32 → Int32 → Int32 → Int32 → Mem → Option (Int32 × Mem)) (v2 v3 v4 v5 s0 s1 : Int32) (μ : Mem) : Option (Int32 × Mem) :=
  ast L μ (o + 12) s1 s0 (fun μ1 => lt' (v5 + 1) (fun a2 => self108 v2 v3 v4 a2 μ1))
def fX9_readsTable_108_b (L : Nat → Nat) (o : Nat) (self108 : Int32 → Int32 → Int32 → Int32 → Mem → Option (Int32 × Mem)) (v2 v3 v4 v5 : Int32) (μ : Mem) : Option (Int32 × Mem) :=
  (if (16 : Int32) ≤ v5 then ast L μ (o + 10) (μ o 15) v2 (fun μ3 => ast L μ3 (o + 11) (μ3 o 15) v3 (fun μ4 => pu μ4 o 15 ((μ4 o 15) + (1 : Int32)) (fun μ5 => zr v4 μ5))) else nz (5 : Int32) ((if (v5 - v5 / (5 : Int32) * (5 : Int32)) = 0 then fX9_readsTable_147 L o self108 v2 v3 v4 v5 (μ o 20) (((24 : Int32) + ((16 : Int32) * (μ o 15))) + v5) μ else fX9_readsTable_147 L o self108 v2 v3 v4 v5 (0 : Int32) (((24 : Int32) + ((16 : Int32) * (μ o 15))) + v5) μ)))
def fX9_readsTable_108 (L : Nat → Nat) (o : Nat) : Nat → Int32 → Int32 → Int32 → Int32 → Mem → Option (Int32 × Mem)
  | 0, _, _, _, _, _ => none
  | k + 1, v2, v3, v4, v5, μ => fX9_readsTable_108_b L o (fX9_readsTable_108 L o k) v2 v3 v4 v5 μ
def fX9_readsTable_90 (L : Nat → Nat) (o : Nat) (self57 : Int32 → Int32 → Int32 → Mem → Option (Int32 × Mem)) (v2 v3 v4 : Int32) (μ : Mem) : Option (Int32 × Mem) :=
  lt' (v4 + 1) (fun a6 => self57 v2 v3 a6 μ)
def fX9_readsTable_57_b (L : Nat → Nat) (o : Nat) (self57 : Int32 → Int32 → Int32 → Mem → Option (Int32 × Mem)) (v2 v3 v4 : Int32) (μ : Mem) : Option (Int32 × Mem) :=
  (if (μ o 15) ≤ v4 then bd (fX9_more L o (0 : Int32) (99 : Int32) μ) (fun b8 μ7 => fX9_readsTable_108 L o FU v2 v3 b8 (0 : Int32) μ7) else ald L μ (o + 10) v4 (fun a9 => (if a9 = v2 then ald L μ (o + 11) v4 (fun a10 => (if a10 = v3 then some ((0 : Int32), μ) else fX9_readsTable_90 L o self57 v2 v3 v4 μ)) else fX9_readsTable_90 L o self57 v2 v3 v4 μ)))
def fX9_readsTable_57 (L : Nat → Nat) (o : Nat) : Nat → Int32 → Int32 → Int32 → Mem → Option (Int32 × Mem)
  | 0, _, _, _, _ => none
  | k + 1, v2, v3, v4, μ => fX9_readsTable_57_b L o (fX9_readsTable_57 L o k) v2 v3 v4 μ
def fX9_readsTable (L : Nat → Nat) (o : Nat) (v1 : Int32) (μ : Mem) : Option (Int32 × Mem) :=
  (if (μ o 15) = (9 : Int32) then some ((0 : Int32), μ) else bd (fX9_number L o v1 (0 : Int32) ((μ o 13) - (1 : Int32)) μ) (fun b12 μ11 => (if b12 = 0 then some ((0 : Int32), μ11) else lt' (μ11 o 20) (fun a13 => bd (fX9_more L o (a13 + (1 : Int32)) ((μ11 o 13) - (1 : Int32)) μ11) (fun b15 μ14 => (if b15 = 0 then some ((0 : Int32), μ14) else lt' (μ14 o 20) (fun a16 => fX9_readsTable_57 L o FU a13 a16 (0 : Int32) μ14)))))))
-- X9_readsPair
def fX9_readsPair (L : Nat → Nat) (o : Nat) (v1 : Int32) (μ : Mem) : Option (Int32 × Mem) :=
  bd (fX9_number L o v1 (0 : Int32) ((μ o 15) - (1 : Int32)) μ) (fun b2 μ1 => (if b2 = 0 then some ((0 : Int32), μ1) else lt' (μ1 o 20) (fun a3 => ald L μ1 (o + 10) a3 (fun a4 => ald L μ1 (o + 9) a4 (fun a5 => bd (fX9_more L o (0 : Int32) (a5 - (1 : Int32)) μ1) (fun b7 μ6 => (if b7 = 0 then some ((0 : Int32), μ6) else lt' (μ6 o 20) (fun a8 => ald L μ6 (o + 11) a3 (fun a9 => ald L μ6 (o + 9) a9 (fun a10 => bd (fX9_more L o (0 : Int32) (a10 - (1 : Int32)) μ6) (fun b12 μ11 => (if b12 = 0 then some ((0 : Int32), μ11) else lt' ((((24 : Int32) + ((16 : Int32) * a3)) + ((4 : Int32) * a8)) + (μ11 o 20)) (fun a13 => bd (fX9_more L o (0 : Int32) (99 : Int32) μ11) (fun b15 μ14 => ast L μ14 (o + 12) a13 (μ14 o 20) (fun μ16 => zr b15 μ16)))))))))))))))
-- X9_readsItem
def fX9_readsItem (L : Nat → Nat) (o : Nat) (v1 v2 : Int32) (μ : Mem) : Option (Int32 × Mem) :=
  (if v1 = (98 : Int32) then bd (fX9_readsTable L o v2 μ) (fun b2 μ1 => zr b2 μ1) else (if v1 = (99 : Int32) then bd (fX9_readsPair L o v2 μ) (fun b4 μ3 => zr b4 μ3) else (if v1 = (116 : Int32) then bd (fX9_number L o v2 (1 : Int32) (99 : Int32) μ) (fun b6 μ5 => pu μ5 o 18 (μ5 o 20) (fun μ7 => zr b6 μ7)) else (if v1 = (117 : Int32) then bd (fX9_readsSingle L o v2 μ) (fun b9 μ8 => zr b9 μ8) else (if v1 = (118 : Int32) then bd (fX9_readsName L o v2 μ) (fun b11 μ10 => zr b11 μ10) else some ((0 : Int32), μ))))))
-- X9_reads
def fX9_reads_40_b (L : Nat → Nat) (o : Nat) (self40 : Int32 → Mem → Option (Int32 × Mem)) (v1 : Int32) (μ : Mem) : Option (Int32 × Mem) :=
  (if (μ o 0) ≤ v1 then some ((-4 : Int32), μ) else ald L μ (o + 1) v1 (fun a1 => bd (fX9_readsItem L o a1 (v1 + (1 : Int32)) μ) (fun b3 μ2 => (if b3 = 0 then some (v1, μ2) else bd (fX9_letterAt L o (μ2 o 21) μ2) (fun b5 μ4 => (if b5 = (59 : Int32) then lt' ((μ4 o 21) + (1 : Int32)) (fun a6 => self40 a6 μ4) else some (v1, μ4)))))))
def fX9_reads_40 (L : Nat → Nat) (o : Nat) : Nat → Int32 → Mem → Option (Int32 × Mem)
  | 0, _, _ => none
  | k + 1, v1, μ => fX9_reads_40_b L o (fX9_reads_40 L o k) v1 μ
def fX9_reads_18_b (L : Nat → Nat) (o : Nat) (self18 : Int32 → Mem → Option (Int32 × Mem)) (v1 : Int32) (μ : Mem) : Option (Int32 × Mem) :=
  (if (169 : Int32) ≤ v1 then fX9_reads_40 L o FU (0 : Int32) μ else ast L μ (o + 12) v1 (0 : Int32) (fun μ7 => lt' (v1 + 1) (fun a8 => self18 a8 μ7)))
def fX9_reads_18 (L : Nat → Nat) (o : Nat) : Nat → Int32 → Mem → Option (Int32 × Mem)
  | 0, _, _ => none
  | k + 1, v1, μ => fX9_reads_18_b L o (fX9_reads_18 L o k) v1 μ
def fX9_reads (L : Nat → Nat) (o : Nat) (μ : Mem) : Option (Int32 × Mem) :=
  pu μ o 13 (0 : Int32) (fun μ9 => pu μ9 o 15 (0 : Int32) (fun μ10 => pu μ10 o 18 (20 : Int32) (fun μ11 => fX9_reads_18 L o FU (0 : Int32) μ11)))
-- X9_write
def fX9_write (L : Nat → Nat) (o : Nat) (v1 : Int32) (μ : Mem) : Option (Int32 × Mem) :=
  (if v1 < (32 : Int32) then some ((-1 : Int32), μ) else (if v1 ≤ (126 : Int32) then (if (μ o 0) = (200 : Int32) then some ((-3 : Int32), μ) else ast L μ (o + 1) (μ o 0) v1 (fun μ1 => pu μ1 o 0 ((μ1 o 0) + (1 : Int32)) (fun μ2 => some ((μ2 o 0), μ2)))) else some ((-1 : Int32), μ)))
-- X9_wipe
def fX9_wipe (L : Nat → Nat) (o : Nat) (μ : Mem) : Option (Int32 × Mem) :=
  lt' (μ o 0) (fun a1 => pu μ o 0 (0 : Int32) (fun μ2 => some (a1, μ2)))
-- X9_fault
def fX9_fault (L : Nat → Nat) (o : Nat) (μ : Mem) : Option (Int32 × Mem) :=
  bd (fX9_reads L o μ) (fun b2 μ1 => some (b2, μ1))
-- X9_sum
def fX9_sum (L : Nat → Nat) (o : Nat) (v1 v2 : Int32) (μ : Mem) : Option (Int32 × Mem) :=
  (if (μ o 7) ≤ (v1 + v2) then some ((μ o 7), μ) else some ((v1 + v2), μ))
-- X9_lay
def fX9_lay_116_b (L : Nat → Nat) (o : Nat) (self116 : Int32 → Mem → Option (Int32 × Mem)) (v1 : Int32) (μ : Mem) : Option (Int32 × Mem) :=
  (if (169 : Int32) ≤ v1 then pu μ o 11 (0 : Int32) (fun μ1 => some ((μ1 o 2), μ1)) else ald L μ (o + 12) v1 (fun a2 => bd (fX9_sum L o a2 (0 : Int32) μ) (fun b4 μ3 => ast L μ3 (o + 6) v1 b4 (fun μ5 => lt' (v1 + 1) (fun a6 => self116 a6 μ5)))))
def fX9_lay_116 (L : Nat → Nat) (o : Nat) : Nat → Int32 → Mem → Option (Int32 × Mem)
  | 0, _, _ => none
  | k + 1, v1, μ => fX9_lay_116_b L o (fX9_lay_116 L o k) v1 μ
def fX9_lay_78_b (L : Nat → Nat) (o : Nat) (self78 : Int32 → Mem → Option (Int32 × Mem)) (v1 : Int32) (μ : Mem) : Option (Int32 × Mem) :=
  (if (9 : Int32) ≤ v1 then fX9_lay_116 L o FU (0 : Int32) μ else ald L μ (o + 10) v1 (fun a7 => ast L μ (o + 3) v1 a7 (fun μ8 => ald L μ8 (o + 11) v1 (fun a9 => ast L μ8 (o + 4) v1 a9 (fun μ10 => lt' (v1 + 1) (fun a11 => self78 a11 μ10))))))
def fX9_lay_78 (L : Nat → Nat) (o : Nat) : Nat → Int32 → Mem → Option (Int32 × Mem)
  | 0, _, _ => none
  | k + 1, v1, μ => fX9_lay_78_b L o (fX9_lay_78 L o k) v1 μ
def fX9_lay_45_b (L : Nat → Nat) (o : Nat) (self45 : Int32 → Mem → Option (Int32 × Mem)) (v1 : Int32) (μ : Mem) : Option (Int32 × Mem) :=
  (if (6 : Int32) ≤ v1 then fX9_lay_78 L o FU (0 : Int32) μ else ald L μ (o + 9) v1 (fun a12 => ast L μ (o + 2) v1 a12 (fun μ13 => ast L μ13 (o + 5) v1 (0 : Int32) (fun μ14 => lt' (v1 + 1) (fun a15 => self45 a15 μ14)))))
def fX9_lay_45 (L : Nat → Nat) (o : Nat) : Nat → Int32 → Mem → Option (Int32 × Mem)
  | 0, _, _ => none
  | k + 1, v1, μ => fX9_lay_45_b L o (fX9_lay_45 L o k) v1 μ
def fX9_lay (L : Nat → Nat) (o : Nat) (μ : Mem) : Option (Int32 × Mem) :=
  bd (fX9_reads L o μ) (fun b17 μ16 => (if b17 = (-4 : Int32) then (if (μ16 o 13) = 0 then some ((-2 : Int32), μ16) else pu μ16 o 2 (μ16 o 13) (fun μ18 => pu μ18 o 4 (μ18 o 15) (fun μ19 => pu μ19 o 7 (μ19 o 18) (fun μ20 => fX9_lay_45 L o FU (0 : Int32) μ20)))) else some ((-2 : Int32), μ16)))
-- X9_less
def fX9_less (L : Nat → Nat) (o : Nat) (v1 v2 : Int32) (μ : Mem) : Option (Int32 × Mem) :=
  (if v1 = (μ o 7) then some ((μ o 7), μ) else some ((v1 - v2), μ))
-- X9_isName
def fX9_isName (L : Nat → Nat) (o : Nat) (v1 : Int32) (μ : Mem) : Option (Int32 × Mem) :=
  bd (fX9_isIn L v1 (0 : Int32) ((μ o 2) - (1 : Int32)) μ) (fun b2 μ1 => zr b2 μ1)
-- X9_isValue
def fX9_isValue (L : Nat → Nat) (o : Nat) (v1 v2 : Int32) (μ : Mem) : Option (Int32 × Mem) :=
  bd (fX9_isName L o v1 μ) (fun b2 μ1 => (if b2 = 0 then some ((0 : Int32), μ1) else ald L μ1 (o + 2) v1 (fun a3 => bd (fX9_isIn L v2 (0 : Int32) (a3 - (1 : Int32)) μ1) (fun b5 μ4 => (if b5 = 0 then some ((0 : Int32), μ4) else some ((1 : Int32), μ4))))))
-- X9_isTable
def fX9_isTable (L : Nat → Nat) (o : Nat) (v1 : Int32) (μ : Mem) : Option (Int32 × Mem) :=
  bd (fX9_isIn L v1 (0 : Int32) ((μ o 4) - (1 : Int32)) μ) (fun b2 μ1 => zr b2 μ1)
-- X9_nameOf
def fX9_nameOf (L : Nat → Nat) (o : Nat) (v1 v2 : Int32) (μ : Mem) : Option (Int32 × Mem) :=
  (if v2 = 0 then ald L μ (o + 3) v1 (fun a2 => some (a2, μ)) else ald L μ (o + 4) v1 (fun a1 => some (a1, μ)))
-- X9_pairAt
def fX9_pairAt_24 (L : Nat → Nat) (s0 s1 : Int32) (μ : Mem) : Option (Int32 × Mem) :=
  some ((s1 + s0), μ)
def fX9_pairAt (L : Nat → Nat) (v0 v1 v2 v3 : Int32) (μ : Mem) : Option (Int32 × Mem) :=
  (if v1 = 0 then fX9_pairAt_24 L (((4 : Int32) * v2) + v3) ((24 : Int32) + ((16 : Int32) * v0)) μ else fX9_pairAt_24 L (((4 : Int32) * v3) + v2) ((24 : Int32) + ((16 : Int32) * v0)) μ)
-- X9_leastSingle
def fX9_leastSingle_49 (L : Nat → Nat) (o : Nat) (self11 : Int32 → Int32 → Int32 → Mem → Option (Int32 × Mem)) (v1 v3 s0 : Int32) (μ : Mem) : Option (Int32 × Mem) :=
  lt' (v3 + 1) (fun a1 => self11 v1 s0 a1 μ)
def fX9_leastSingle_11_b (L : Nat → Nat) (o : Nat) (self11 : Int32 → Int32 → Int32 → Mem → Option (Int32 × Mem)) (v1 v2 v3 : Int32) (μ : Mem) : Option (Int32 × Mem) :=
  ald L μ (o + 2) v1 (fun a2 => (if a2 ≤ v3 then some (v2, μ) else ald L μ (o + 6) (((4 : Int32) * v1) + v3) (fun a3 => (if v2 ≤ a3 then fX9_leastSingle_49 L o self11 v1 v3 v2 μ else ald L μ (o + 6) (((4 : Int32) * v1) + v3) (fun a4 => fX9_leastSingle_49 L o self11 v1 v3 a4 μ)))))
def fX9_leastSingle_11 (L : Nat → Nat) (o : Nat) : Nat → Int32 → Int32 → Int32 → Mem → Option (Int32 × Mem)
  | 0, _, _, _, _ => none
  | k + 1, v1, v2, v3, μ => fX9_leastSingle_11_b L o (fX9_leastSingle_11 L o k) v1 v2 v3 μ
def fX9_leastSingle (L : Nat → Nat) (o : Nat) (v1 : Int32) (μ : Mem) : Option (Int32 × Mem) :=
  ald L μ (o + 6) ((4 : Int32) * v1) (fun a5 => fX9_leastSingle_11 L o FU v1 a5 (1 : Int32) μ)
-- X9_isShut
def fX9_isShut (L : Nat → Nat) (o : Nat) (v1 v2 : Int32) (μ : Mem) : Option (Int32 × Mem) :=
  ald L μ (o + 6) (168 : Int32) (fun a1 => ald L μ (o + 6) (((4 : Int32) * v1) + v2) (fun a2 => bd (fX9_sum L o a1 a2 μ) (fun b4 μ3 => (if b4 = (μ3 o 7) then some ((1 : Int32), μ3) else some ((0 : Int32), μ3)))))
-- X9_name
def fX9_name_141 (L : Nat → Nat) (o : Nat) (self111 : Int32 → Int32 → Int32 → Mem → Option (Int32 × Mem)) (v1 v4 s0 s1 : Int32) (μ : Mem) : Option (Int32 × Mem) :=
  lt' (s1 ||| s0) (fun a1 => lt' (v4 + 1) (fun a2 => self111 v1 a1 a2 μ))
def fX9_name_111_b (L : Nat → Nat) (o : Nat) (self111 : Int32 → Int32 → Int32 → Mem → Option (Int32 × Mem)) (v1 v3 v4 : Int32) (μ : Mem) : Option (Int32 × Mem) :=
  ald L μ (o + 2) v1 (fun a3 => (if a3 ≤ v4 then some (v3, μ) else bd (fX9_isShut L o v1 v4 μ) (fun b5 μ4 => (if b5 = 0 then fX9_name_141 L o self111 v1 v4 (0 : Int32) v3 μ4 else fX9_name_141 L o self111 v1 v4 ((1 : Int32) <<< (v4 &&& 31)) v3 μ4))))
def fX9_name_111 (L : Nat → Nat) (o : Nat) : Nat → Int32 → Int32 → Int32 → Mem → Option (Int32 × Mem)
  | 0, _, _, _, _ => none
  | k + 1, v1, v3, v4, μ => fX9_name_111_b L o (fX9_name_111 L o k) v1 v3 v4 μ
def fX9_name_97 (L : Nat → Nat) (o : Nat) (self57 : Int32 → Int32 → Int32 → Mem → Option (Int32 × Mem)) (v1 v4 s0 s1 : Int32) (μ : Mem) : Option (Int32 × Mem) :=
  lt' (s1 ||| s0) (fun a6 => lt' (v4 + 1) (fun a7 => self57 v1 a6 a7 μ))
def fX9_name_89 (L : Nat → Nat) (o : Nat) (self57 : Int32 → Int32 → Int32 → Mem → Option (Int32 × Mem)) (v1 v4 s0 : Int32) (μ : Mem) : Option (Int32 × Mem) :=
  fX9_name_97 L o self57 v1 v4 ((1 : Int32) <<< (v4 &&& 31)) s0 μ
def fX9_name_57_b (L : Nat → Nat) (o : Nat) (self57 : Int32 → Int32 → Int32 → Mem → Option (Int32 × Mem)) (v1 v3 v4 : Int32) (μ : Mem) : Option (Int32 × Mem) :=
  (if (μ o 4) ≤ v4 then some (v3, μ) else ald L μ (o + 3) v4 (fun a8 => (if a8 = v1 then fX9_name_89 L o self57 v1 v4 v3 μ else ald L μ (o + 4) v4 (fun a9 => (if a9 = v1 then fX9_name_89 L o self57 v1 v4 v3 μ else fX9_name_97 L o self57 v1 v4 (0 : Int32) v3 μ)))))
def fX9_name_57 (L : Nat → Nat) (o : Nat) : Nat → Int32 → Int32 → Int32 → Mem → Option (Int32 × Mem)
  | 0, _, _, _, _ => none
  | k + 1, v1, v3, v4, μ => fX9_name_57_b L o (fX9_name_57 L o k) v1 v3 v4 μ
def fX9_name_28 (L : Nat → Nat) (o : Nat) (v1 v2 : Int32) (μ : Mem) : Option (Int32 × Mem) :=
  (if v2 = 0 then ald L μ (o + 2) v1 (fun a12 => some (a12, μ)) else bd (fX9_leastSingle L o v1 μ) (fun b11 μ10 => some (b11, μ10)))
def fX9_name (L : Nat → Nat) (o : Nat) (v1 v2 : Int32) (μ : Mem) : Option (Int32 × Mem) :=
  bd (fX9_isName L o v1 μ) (fun b14 μ13 => (if b14 = 0 then some ((-1 : Int32), μ13) else bd (fX9_isIn L v2 (0 : Int32) (3 : Int32) μ13) (fun b16 μ15 => (if b16 = 0 then some ((-1 : Int32), μ15) else (if v2 = 0 then fX9_name_28 L o v1 v2 μ15 else (if v2 = (3 : Int32) then fX9_name_28 L o v1 v2 μ15 else (if v2 = (1 : Int32) then fX9_name_57 L o FU v1 (0 : Int32) (0 : Int32) μ15 else fX9_name_111 L o FU v1 (0 : Int32) (0 : Int32) μ15)))))))
-- X9_single
def fX9_single (L : Nat → Nat) (o : Nat) (v1 v2 : Int32) (μ : Mem) : Option (Int32 × Mem) :=
  bd (fX9_isValue L o v1 v2 μ) (fun b2 μ1 => (if b2 = 0 then some ((-1 : Int32), μ1) else ald L μ1 (o + 6) (((4 : Int32) * v1) + v2) (fun a3 => some (a3, μ1))))
-- X9_table
def fX9_table_120 (L : Nat → Nat) (o : Nat) (self61 : Int32 → Int32 → Int32 → Int32 → Int32 → Int32 → Mem → Option (Int32 × Mem)) (v1 v2 v3 v5 v6 s0 : Int32) (μ : Mem) : Option (Int32 × Mem) :=
  lt' (v6 + 1) (fun a1 => self61 v1 v2 v3 s0 v5 a1 μ)
def fX9_table_105 (L : Nat → Nat) (o : Nat) (self61 : Int32 → Int32 → Int32 → Int32 → Int32 → Int32 → Mem → Option (Int32 × Mem)) (v1 v2 v4 v5 v6 v7 s0 : Int32) (μ : Mem) : Option (Int32 × Mem) :=
  (if v7 ≤ v4 then fX9_table_120 L o self61 v1 v2 s0 v5 v6 v4 μ else fX9_table_120 L o self61 v1 v2 s0 v5 v6 v7 μ)
def fX9_table_61_b (L : Nat → Nat) (o : Nat) (self42 : Int32 → Int32 → Int32 → Int32 → Int32 → Mem → Option (Int32 × Mem)) (self61 : Int32 → Int32 → Int32 → Int32 → Int32 → Int32 → Mem → Option (Int32 × Mem)) (v1 v2 v3 v4 v5 v6 : Int32) (μ : Mem) : Option (Int32 × Mem) :=
  ald L μ (o + 4) v1 (fun a2 => ald L μ (o + 2) a2 (fun a3 => (if a3 ≤ v6 then lt' (v5 + 1) (fun a4 => self42 v1 v2 v3 v4 a4 μ) else bd (fX9_pairAt L v1 (0 : Int32) v5 v6 μ) (fun b6 μ5 => ald L μ5 (o + 6) b6 (fun a7 => (if v3 ≤ a7 then fX9_table_105 L o self61 v1 v2 v4 v5 v6 a7 v3 μ5 else fX9_table_105 L o self61 v1 v2 v4 v5 v6 a7 a7 μ5))))))
def fX9_table_61 (L : Nat → Nat) (o : Nat) (self42 : Int32 → Int32 → Int32 → Int32 → Int32 → Mem → Option (Int32 × Mem)) : Nat → Int32 → Int32 → Int32 → Int32 → Int32 → Int32 → Mem → Option (Int32 × Mem)
  | 0, _, _, _, _, _, _, _ => none
  | k + 1, v1, v2, v3, v4, v5, v6, μ => fX9_table_61_b L o self42 (fX9_table_61 L o self42 k) v1 v2 v3 v4 v5 v6 μ
def fX9_table_42_b (L : Nat → Nat) (o : Nat) (self42 : Int32 → Int32 → Int32 → Int32 → Int32 → Mem → Option (Int32 × Mem)) (v1 v2 v3 v4 v5 : Int32) (μ : Mem) : Option (Int32 × Mem) :=
  ald L μ (o + 3) v1 (fun a8 => ald L μ (o + 2) a8 (fun a9 => (if a9 ≤ v5 then (if v2 = (2 : Int32) then some (v3, μ) else some (v4, μ)) else fX9_table_61 L o self42 FU v1 v2 v3 v4 v5 (0 : Int32) μ)))
def fX9_table_42 (L : Nat → Nat) (o : Nat) : Nat → Int32 → Int32 → Int32 → Int32 → Int32 → Mem → Option (Int32 × Mem)
  | 0, _, _, _, _, _, _ => none
  | k + 1, v1, v2, v3, v4, v5, μ => fX9_table_42_b L o (fX9_table_42 L o k) v1 v2 v3 v4 v5 μ
def fX9_table (L : Nat → Nat) (o : Nat) (v1 v2 : Int32) (μ : Mem) : Option (Int32 × Mem) :=
  bd (fX9_isTable L o v1 μ) (fun b11 μ10 => (if b11 = 0 then some ((-1 : Int32), μ10) else bd (fX9_isIn L v2 (0 : Int32) (3 : Int32) μ10) (fun b13 μ12 => (if b13 = 0 then some ((-1 : Int32), μ12) else (if (2 : Int32) ≤ v2 then lt' (μ12 o 7) (fun a14 => fX9_table_42 L o FU v1 v2 a14 (0 : Int32) (0 : Int32) μ12) else bd (fX9_nameOf L o v1 v2 μ12) (fun b16 μ15 => some (b16, μ15)))))))
-- X9_pair
def fX9_pair (L : Nat → Nat) (o : Nat) (v1 v2 v3 : Int32) (μ : Mem) : Option (Int32 × Mem) :=
  bd (fX9_isTable L o v1 μ) (fun b2 μ1 => (if b2 = 0 then some ((-1 : Int32), μ1) else ald L μ1 (o + 3) v1 (fun a3 => bd (fX9_isValue L o a3 v2 μ1) (fun b5 μ4 => (if b5 = 0 then some ((-1 : Int32), μ4) else ald L μ4 (o + 4) v1 (fun a6 => bd (fX9_isValue L o a6 v3 μ4) (fun b8 μ7 => (if b8 = 0 then some ((-1 : Int32), μ7) else bd (fX9_pairAt L v1 (0 : Int32) v2 v3 μ7) (fun b10 μ9 => ald L μ9 (o + 6) b10 (fun a11 => some (a11, μ9)))))))))))
-- X9_keeps
def fX9_keeps_52_b (L : Nat → Nat) (o : Nat) (self52 : Int32 → Mem → Option Mem) (v1 : Int32) (μ : Mem) : Option Mem :=
  (if (169 : Int32) ≤ v1 then pu μ o 11 ((μ o 11) + (1 : Int32)) (fun μ1 => some μ1) else ald L μ (o + 6) v1 (fun a2 => ast L μ (o + 7) (((169 : Int32) * (μ o 11)) + v1) a2 (fun μ3 => lt' (v1 + 1) (fun a4 => self52 a4 μ3))))
def fX9_keeps_52 (L : Nat → Nat) (o : Nat) : Nat → Int32 → Mem → Option Mem
  | 0, _, _ => none
  | k + 1, v1, μ => fX9_keeps_52_b L o (fX9_keeps_52 L o k) v1 μ
def fX9_keeps_50 (L : Nat → Nat) (o : Nat) (μ : Mem) : Option Mem :=
  fX9_keeps_52 L o FU (0 : Int32) μ
def fX9_keeps_11_b (L : Nat → Nat) (o : Nat) (self11 : Int32 → Mem → Option Mem) (v1 : Int32) (μ : Mem) : Option Mem :=
  (if (845 : Int32) ≤ v1 then pu μ o 11 ((μ o 11) - (1 : Int32)) (fun μ5 => fX9_keeps_50 L o μ5) else ald L μ (o + 7) (v1 + (169 : Int32)) (fun a6 => ast L μ (o + 7) v1 a6 (fun μ7 => lt' (v1 + 1) (fun a8 => self11 a8 μ7))))
def fX9_keeps_11 (L : Nat → Nat) (o : Nat) : Nat → Int32 → Mem → Option Mem
  | 0, _, _ => none
  | k + 1, v1, μ => fX9_keeps_11_b L o (fX9_keeps_11 L o k) v1 μ
def fX9_keeps (L : Nat → Nat) (o : Nat) (μ : Mem) : Option Mem :=
  (if (μ o 11) = (6 : Int32) then fX9_keeps_11 L o FU (0 : Int32) μ else fX9_keeps_50 L o μ)
-- X9_undo
def fX9_undo_22_b (L : Nat → Nat) (o : Nat) (self22 : Int32 → Mem → Option (Int32 × Mem)) (v1 : Int32) (μ : Mem) : Option (Int32 × Mem) :=
  (if (169 : Int32) ≤ v1 then some ((μ o 11), μ) else ald L μ (o + 7) (((169 : Int32) * (μ o 11)) + v1) (fun a1 => ast L μ (o + 6) v1 a1 (fun μ2 => lt' (v1 + 1) (fun a3 => self22 a3 μ2))))
def fX9_undo_22 (L : Nat → Nat) (o : Nat) : Nat → Int32 → Mem → Option (Int32 × Mem)
  | 0, _, _ => none
  | k + 1, v1, μ => fX9_undo_22_b L o (fX9_undo_22 L o k) v1 μ
def fX9_undo (L : Nat → Nat) (o : Nat) (μ : Mem) : Option (Int32 × Mem) :=
  (if (μ o 11) = 0 then some ((-2 : Int32), μ) else pu μ o 11 ((μ o 11) - (1 : Int32)) (fun μ4 => fX9_undo_22 L o FU (0 : Int32) μ4))
-- X9_grow
def fX9_grow (L : Nat → Nat) (o : Nat) (v1 v2 v3 : Int32) (μ : Mem) : Option (Int32 × Mem) :=
  bd (fX9_isValue L o v1 v2 μ) (fun b2 μ1 => (if b2 = 0 then some ((-1 : Int32), μ1) else bd (fX9_isIn L v3 (1 : Int32) (99 : Int32) μ1) (fun b4 μ3 => (if b4 = 0 then some ((-1 : Int32), μ3) else bv (fX9_keeps L o μ3) (fun μ5 => ald L μ5 (o + 6) (((4 : Int32) * v1) + v2) (fun a6 => bd (fX9_sum L o a6 v3 μ5) (fun b8 μ7 => ast L μ7 (o + 6) (((4 : Int32) * v1) + v2) b8 (fun μ9 => ald L μ9 (o + 6) (((4 : Int32) * v1) + v2) (fun a10 => some (a10, μ9))))))))))
-- X9_choose
def fX9_choose (L : Nat → Nat) (o : Nat) (v1 v2 : Int32) (μ : Mem) : Option (Int32 × Mem) :=
  bd (fX9_isValue L o v1 v2 μ) (fun b2 μ1 => (if b2 = 0 then some ((-1 : Int32), μ1) else ald L μ1 (o + 5) v1 (fun a3 => (if a3 = v2 then some ((-2 : Int32), μ1) else ast L μ1 (o + 5) v1 v2 (fun μ4 => some (a3, μ4))))))
-- X9_leastPair
def fX9_leastPair_56 (L : Nat → Nat) (o : Nat) (self9 : Int32 → Int32 → Int32 → Int32 → Int32 → Mem → Option (Int32 × Mem)) (v1 v2 v3 v5 s0 : Int32) (μ : Mem) : Option (Int32 × Mem) :=
  lt' (v5 + 1) (fun a1 => self9 v1 v2 v3 s0 a1 μ)
def fX9_leastPair_9_b (L : Nat → Nat) (o : Nat) (self9 : Int32 → Int32 → Int32 → Int32 → Int32 → Mem → Option (Int32 × Mem)) (v1 v2 v3 v4 v5 : Int32) (μ : Mem) : Option (Int32 × Mem) :=
  bd (fX9_nameOf L o v1 ((1 : Int32) - v2) μ) (fun b3 μ2 => ald L μ2 (o + 2) b3 (fun a4 => (if a4 ≤ v5 then some (v4, μ2) else bd (fX9_pairAt L v1 v2 v3 v5 μ2) (fun b6 μ5 => ald L μ5 (o + 6) b6 (fun a7 => (if v4 ≤ a7 then fX9_leastPair_56 L o self9 v1 v2 v3 v5 v4 μ5 else fX9_leastPair_56 L o self9 v1 v2 v3 v5 a7 μ5))))))
def fX9_leastPair_9 (L : Nat → Nat) (o : Nat) : Nat → Int32 → Int32 → Int32 → Int32 → Int32 → Mem → Option (Int32 × Mem)
  | 0, _, _, _, _, _, _ => none
  | k + 1, v1, v2, v3, v4, v5, μ => fX9_leastPair_9_b L o (fX9_leastPair_9 L o k) v1 v2 v3 v4 v5 μ
def fX9_leastPair (L : Nat → Nat) (o : Nat) (v1 v2 v3 : Int32) (μ : Mem) : Option (Int32 × Mem) :=
  lt' (μ o 7) (fun a8 => fX9_leastPair_9 L o FU v1 v2 v3 a8 (0 : Int32) μ)
-- X9_projects
def fX9_projects_3_b (L : Nat → Nat) (o : Nat) (self3 : Int32 → Int32 → Int32 → Int32 → Int32 → Mem → Option Mem) (v1 v2 v3 v4 v5 : Int32) (μ : Mem) : Option Mem :=
  bd (fX9_nameOf L o v1 ((1 : Int32) - v2) μ) (fun b2 μ1 => ald L μ1 (o + 2) b2 (fun a3 => (if a3 ≤ v5 then bd (fX9_nameOf L o v1 v2 μ1) (fun b5 μ4 => lt' (((4 : Int32) * b5) + v3) (fun a6 => ald L μ4 (o + 6) a6 (fun a7 => bd (fX9_sum L o a7 v4 μ4) (fun b9 μ8 => ast L μ8 (o + 6) a6 b9 (fun μ10 => some μ10))))) else bd (fX9_pairAt L v1 v2 v3 v5 μ1) (fun b12 μ11 => ald L μ11 (o + 6) b12 (fun a13 => bd (fX9_less L o a13 v4 μ11) (fun b15 μ14 => ast L μ14 (o + 6) b12 b15 (fun μ16 => lt' (v5 + 1) (fun a17 => self3 v1 v2 v3 v4 a17 μ16))))))))
def fX9_projects_3 (L : Nat → Nat) (o : Nat) : Nat → Int32 → Int32 → Int32 → Int32 → Int32 → Mem → Option Mem
  | 0, _, _, _, _, _, _ => none
  | k + 1, v1, v2, v3, v4, v5, μ => fX9_projects_3_b L o (fX9_projects_3 L o k) v1 v2 v3 v4 v5 μ
def fX9_projects (L : Nat → Nat) (o : Nat) (v1 v2 v3 v4 : Int32) (μ : Mem) : Option Mem :=
  fX9_projects_3 L o FU v1 v2 v3 v4 (0 : Int32) μ
-- X9_extendsBy
def fX9_extendsBy_35_b (L : Nat → Nat) (o : Nat) (self35 : Int32 → Int32 → Int32 → Int32 → Int32 → Mem → Option Mem) (v1 v2 v3 v4 v6 : Int32) (μ : Mem) : Option Mem :=
  bd (fX9_nameOf L o v1 ((1 : Int32) - v2) μ) (fun b2 μ1 => ald L μ1 (o + 2) b2 (fun a3 => (if a3 ≤ v6 then some μ1 else bd (fX9_pairAt L v1 v2 v3 v6 μ1) (fun b5 μ4 => ald L μ4 (o + 6) b5 (fun a6 => bd (fX9_sum L o a6 v4 μ4) (fun b8 μ7 => ast L μ7 (o + 6) b5 b8 (fun μ9 => lt' (v6 + 1) (fun a10 => self35 v1 v2 v3 v4 a10 μ9))))))))
def fX9_extendsBy_35 (L : Nat → Nat) (o : Nat) : Nat → Int32 → Int32 → Int32 → Int32 → Int32 → Mem → Option Mem
  | 0, _, _, _, _, _, _ => none
  | k + 1, v1, v2, v3, v4, v6, μ => fX9_extendsBy_35_b L o (fX9_extendsBy_35 L o k) v1 v2 v3 v4 v6 μ
def fX9_extendsBy (L : Nat → Nat) (o : Nat) (v1 v2 v3 v4 : Int32) (μ : Mem) : Option Mem :=
  bd (fX9_nameOf L o v1 v2 μ) (fun b12 μ11 => lt' (((4 : Int32) * b12) + v3) (fun a13 => ald L μ11 (o + 6) a13 (fun a14 => bd (fX9_less L o a14 v4 μ11) (fun b16 μ15 => ast L μ15 (o + 6) a13 b16 (fun μ17 => fX9_extendsBy_35 L o FU v1 v2 v3 v4 (0 : Int32) μ17)))))
-- X9_raises
def fX9_raises_2_b (L : Nat → Nat) (o : Nat) (self2 : Int32 → Int32 → Int32 → Mem → Option Mem) (v1 v2 v3 : Int32) (μ : Mem) : Option Mem :=
  ald L μ (o + 2) v1 (fun a1 => (if a1 ≤ v3 then ald L μ (o + 6) (168 : Int32) (fun a2 => bd (fX9_sum L o a2 v2 μ) (fun b4 μ3 => ast L μ3 (o + 6) (168 : Int32) b4 (fun μ5 => some μ5))) else ald L μ (o + 6) (((4 : Int32) * v1) + v3) (fun a6 => bd (fX9_less L o a6 v2 μ) (fun b8 μ7 => ast L μ7 (o + 6) (((4 : Int32) * v1) + v3) b8 (fun μ9 => lt' (v3 + 1) (fun a10 => self2 v1 v2 a10 μ9))))))
def fX9_raises_2 (L : Nat → Nat) (o : Nat) : Nat → Int32 → Int32 → Int32 → Mem → Option Mem
  | 0, _, _, _, _ => none
  | k + 1, v1, v2, v3, μ => fX9_raises_2_b L o (fX9_raises_2 L o k) v1 v2 v3 μ
def fX9_raises (L : Nat → Nat) (o : Nat) (v1 v2 : Int32) (μ : Mem) : Option Mem :=
  fX9_raises_2 L o FU v1 v2 (0 : Int32) μ
-- X9_isMoved
def fX9_isMoved (L : Nat → Nat) (o : Nat) (v1 v2 v3 v4 : Int32) (μ : Mem) : Option (Int32 × Mem) :=
  bd (fX9_isTable L o v1 μ) (fun b2 μ1 => (if b2 = 0 then some ((0 : Int32), μ1) else bd (fX9_isIn L v2 (0 : Int32) (1 : Int32) μ1) (fun b4 μ3 => (if b4 = 0 then some ((0 : Int32), μ3) else bd (fX9_nameOf L o v1 v2 μ3) (fun b6 μ5 => bd (fX9_isValue L o b6 v3 μ5) (fun b8 μ7 => (if b8 = 0 then some ((0 : Int32), μ7) else bd (fX9_isIn L v4 (1 : Int32) (99 : Int32) μ7) (fun b10 μ9 => (if b10 = 0 then some ((0 : Int32), μ9) else some ((1 : Int32), μ9))))))))))
-- X9_project
def fX9_project (L : Nat → Nat) (o : Nat) (v1 v2 v3 v4 : Int32) (μ : Mem) : Option (Int32 × Mem) :=
  bd (fX9_isMoved L o v1 v2 v3 v4 μ) (fun b2 μ1 => (if b2 = 0 then some ((-1 : Int32), μ1) else bd (fX9_leastPair L o v1 v2 v3 μ1) (fun b4 μ3 => (if v4 ≤ b4 then bv (fX9_keeps L o μ3) (fun μ5 => bv (fX9_projects L o v1 v2 v3 v4 μ5) (fun μ6 => bd (fX9_nameOf L o v1 v2 μ6) (fun b8 μ7 => ald L μ7 (o + 6) (((4 : Int32) * b8) + v3) (fun a9 => some (a9, μ7))))) else some ((-2 : Int32), μ3)))))
-- X9_extend
def fX9_extend (L : Nat → Nat) (o : Nat) (v1 v2 v3 v4 : Int32) (μ : Mem) : Option (Int32 × Mem) :=
  bd (fX9_isMoved L o v1 v2 v3 v4 μ) (fun b2 μ1 => (if b2 = 0 then some ((-1 : Int32), μ1) else bd (fX9_nameOf L o v1 v2 μ1) (fun b4 μ3 => ald L μ3 (o + 6) (((4 : Int32) * b4) + v3) (fun a5 => (if v4 ≤ a5 then bv (fX9_keeps L o μ3) (fun μ6 => bv (fX9_extendsBy L o v1 v2 v3 v4 μ6) (fun μ7 => bd (fX9_nameOf L o v1 v2 μ7) (fun b9 μ8 => ald L μ8 (o + 6) (((4 : Int32) * b9) + v3) (fun a10 => some (a10, μ8))))) else some ((-2 : Int32), μ3))))))
-- X9_raise
def fX9_raise (L : Nat → Nat) (o : Nat) (v1 v2 : Int32) (μ : Mem) : Option (Int32 × Mem) :=
  bd (fX9_isName L o v1 μ) (fun b2 μ1 => (if b2 = 0 then some ((-1 : Int32), μ1) else bd (fX9_isIn L v2 (1 : Int32) (99 : Int32) μ1) (fun b4 μ3 => (if b4 = 0 then some ((-1 : Int32), μ3) else bd (fX9_leastSingle L o v1 μ3) (fun b6 μ5 => (if v2 ≤ b6 then bv (fX9_keeps L o μ5) (fun μ7 => bv (fX9_raises L o v1 v2 μ7) (fun μ8 => ald L μ8 (o + 6) (168 : Int32) (fun a9 => some (a9, μ8)))) else some ((-2 : Int32), μ5)))))))
-- X9_nodes
def fX9_nodes_73 (L : Nat → Nat) (o : Nat) (self28 : Int32 → Int32 → Mem → Option Mem) (v1 v3 s0 s1 : Int32) (μ : Mem) : Option Mem :=
  ast L μ (o + 6) s1 s0 (fun μ1 => lt' (v3 + 1) (fun a2 => self28 v1 a2 μ1))
def fX9_nodes_28_b (L : Nat → Nat) (o : Nat) (self2 : Int32 → Mem → Option Mem) (self28 : Int32 → Int32 → Mem → Option Mem) (v1 v3 : Int32) (μ : Mem) : Option Mem :=
  ald L μ (o + 2) v1 (fun a3 => (if a3 ≤ v3 then lt' (v1 + 1) (fun a4 => self2 a4 μ) else bd (fX9_isShut L o v1 v3 μ) (fun b6 μ5 => (if b6 = 0 then ald L μ5 (o + 6) (((4 : Int32) * v1) + v3) (fun a7 => fX9_nodes_73 L o self28 v1 v3 a7 (((4 : Int32) * v1) + v3) μ5) else fX9_nodes_73 L o self28 v1 v3 (μ5 o 7) (((4 : Int32) * v1) + v3) μ5))))
def fX9_nodes_28 (L : Nat → Nat) (o : Nat) (self2 : Int32 → Mem → Option Mem) : Nat → Int32 → Int32 → Mem → Option Mem
  | 0, _, _, _ => none
  | k + 1, v1, v3, μ => fX9_nodes_28_b L o self2 (fX9_nodes_28 L o self2 k) v1 v3 μ
def fX9_nodes_26 (L : Nat → Nat) (o : Nat) (self2 : Int32 → Mem → Option Mem) (v1 : Int32) (μ : Mem) : Option Mem :=
  fX9_nodes_28 L o self2 FU v1 (0 : Int32) μ
def fX9_nodes_2_b (L : Nat → Nat) (o : Nat) (self2 : Int32 → Mem → Option Mem) (v1 : Int32) (μ : Mem) : Option Mem :=
  (if (μ o 2) ≤ v1 then some μ else bd (fX9_leastSingle L o v1 μ) (fun b9 μ8 => (if b9 ≤ 0 then fX9_nodes_26 L o self2 v1 μ8 else bv (fX9_raises L o v1 b9 μ8) (fun μ10 => fX9_nodes_26 L o self2 v1 μ10))))
def fX9_nodes_2 (L : Nat → Nat) (o : Nat) : Nat → Int32 → Mem → Option Mem
  | 0, _, _ => none
  | k + 1, v1, μ => fX9_nodes_2_b L o (fX9_nodes_2 L o k) v1 μ
def fX9_nodes (L : Nat → Nat) (o : Nat) (μ : Mem) : Option Mem :=
  fX9_nodes_2 L o FU (0 : Int32) μ
-- X9_shuts
def fX9_shuts_94 (L : Nat → Nat) (o : Nat) (self19 : Int32 → Int32 → Int32 → Mem → Option Mem) (v1 v2 v3 : Int32) (μ : Mem) : Option Mem :=
  lt' (v3 + 1) (fun a1 => self19 v1 v2 a1 μ)
def fX9_shuts_78 (L : Nat → Nat) (o : Nat) (self19 : Int32 → Int32 → Int32 → Mem → Option Mem) (v1 v2 v3 : Int32) (μ : Mem) : Option Mem :=
  bd (fX9_pairAt L v1 (0 : Int32) v2 v3 μ) (fun b3 μ2 => ast L μ2 (o + 6) b3 (μ2 o 7) (fun μ4 => fX9_shuts_94 L o self19 v1 v2 v3 μ4))
def fX9_shuts_19_b (L : Nat → Nat) (o : Nat) (self2 : Int32 → Int32 → Mem → Option Mem) (self19 : Int32 → Int32 → Int32 → Mem → Option Mem) (v1 v2 v3 : Int32) (μ : Mem) : Option Mem :=
  ald L μ (o + 4) v1 (fun a5 => ald L μ (o + 2) a5 (fun a6 => (if a6 ≤ v3 then lt' (v2 + 1) (fun a7 => self2 v1 a7 μ) else ald L μ (o + 3) v1 (fun a8 => ald L μ (o + 6) (((4 : Int32) * a8) + v2) (fun a9 => (if a9 = (μ o 7) then fX9_shuts_78 L o self19 v1 v2 v3 μ else ald L μ (o + 4) v1 (fun a10 => ald L μ (o + 6) (((4 : Int32) * a10) + v3) (fun a11 => (if a11 = (μ o 7) then fX9_shuts_78 L o self19 v1 v2 v3 μ else fX9_shuts_94 L o self19 v1 v2 v3 μ)))))))))
def fX9_shuts_19 (L : Nat → Nat) (o : Nat) (self2 : Int32 → Int32 → Mem → Option Mem) : Nat → Int32 → Int32 → Int32 → Mem → Option Mem
  | 0, _, _, _, _ => none
  | k + 1, v1, v2, v3, μ => fX9_shuts_19_b L o self2 (fX9_shuts_19 L o self2 k) v1 v2 v3 μ
def fX9_shuts_2_b (L : Nat → Nat) (o : Nat) (self2 : Int32 → Int32 → Mem → Option Mem) (v1 v2 : Int32) (μ : Mem) : Option Mem :=
  ald L μ (o + 3) v1 (fun a12 => ald L μ (o + 2) a12 (fun a13 => (if a13 ≤ v2 then some μ else fX9_shuts_19 L o self2 FU v1 v2 (0 : Int32) μ)))
def fX9_shuts_2 (L : Nat → Nat) (o : Nat) : Nat → Int32 → Int32 → Mem → Option Mem
  | 0, _, _, _ => none
  | k + 1, v1, v2, μ => fX9_shuts_2_b L o (fX9_shuts_2 L o k) v1 v2 μ
def fX9_shuts (L : Nat → Nat) (o : Nat) (v1 : Int32) (μ : Mem) : Option Mem :=
  fX9_shuts_2 L o FU v1 (0 : Int32) μ
-- X9_arcs
def fX9_arcs_52 (L : Nat → Nat) (o : Nat) (self14 : Int32 → Int32 → Int32 → Mem → Option Mem) (v1 v2 v3 : Int32) (μ : Mem) : Option Mem :=
  lt' (v3 + 1) (fun a1 => self14 v1 v2 a1 μ)
def fX9_arcs_14_b (L : Nat → Nat) (o : Nat) (self7 : Int32 → Int32 → Mem → Option Mem) (self14 : Int32 → Int32 → Int32 → Mem → Option Mem) (v1 v2 v3 : Int32) (μ : Mem) : Option Mem :=
  bd (fX9_nameOf L o v1 v2 μ) (fun b3 μ2 => ald L μ2 (o + 2) b3 (fun a4 => (if a4 ≤ v3 then lt' (v2 + 1) (fun a5 => self7 v1 a5 μ2) else bd (fX9_leastPair L o v1 v2 v3 μ2) (fun b7 μ6 => (if b7 ≤ 0 then fX9_arcs_52 L o self14 v1 v2 v3 μ6 else bv (fX9_projects L o v1 v2 v3 b7 μ6) (fun μ8 => fX9_arcs_52 L o self14 v1 v2 v3 μ8))))))
def fX9_arcs_14 (L : Nat → Nat) (o : Nat) (self7 : Int32 → Int32 → Mem → Option Mem) : Nat → Int32 → Int32 → Int32 → Mem → Option Mem
  | 0, _, _, _, _ => none
  | k + 1, v1, v2, v3, μ => fX9_arcs_14_b L o self7 (fX9_arcs_14 L o self7 k) v1 v2 v3 μ
def fX9_arcs_7_b (L : Nat → Nat) (o : Nat) (self7 : Int32 → Int32 → Mem → Option Mem) (v1 v2 : Int32) (μ : Mem) : Option Mem :=
  (if (2 : Int32) ≤ v2 then some μ else fX9_arcs_14 L o self7 FU v1 v2 (0 : Int32) μ)
def fX9_arcs_7 (L : Nat → Nat) (o : Nat) : Nat → Int32 → Int32 → Mem → Option Mem
  | 0, _, _, _ => none
  | k + 1, v1, v2, μ => fX9_arcs_7_b L o (fX9_arcs_7 L o k) v1 v2 μ
def fX9_arcs (L : Nat → Nat) (o : Nat) (v1 : Int32) (μ : Mem) : Option Mem :=
  bv (fX9_shuts L o v1 μ) (fun μ9 => fX9_arcs_7 L o FU v1 (0 : Int32) μ9)
-- X9_directs
def fX9_directs_269 (L : Nat → Nat) (o : Nat) (self233 : Int32 → Int32 → Int32 → Mem → Option Mem) (v1 v2 v4 : Int32) (μ : Mem) : Option Mem :=
  lt' (v4 + 1) (fun a1 => self233 v1 v2 a1 μ)
def fX9_directs_233_b (L : Nat → Nat) (o : Nat) (self233 : Int32 → Int32 → Int32 → Mem → Option Mem) (v1 v2 v4 : Int32) (μ : Mem) : Option Mem :=
  ald L μ (o + 2) v2 (fun a2 => (if a2 ≤ v4 then some μ else ald L μ (o + 13) v4 (fun a3 => (if a3 ≤ 0 then fX9_directs_269 L o self233 v1 v2 v4 μ else ald L μ (o + 13) v4 (fun a4 => bv (fX9_projects L o v1 (0 : Int32) v4 a4 μ) (fun μ5 => fX9_directs_269 L o self233 v1 v2 v4 μ5))))))
def fX9_directs_233 (L : Nat → Nat) (o : Nat) : Nat → Int32 → Int32 → Int32 → Mem → Option Mem
  | 0, _, _, _, _ => none
  | k + 1, v1, v2, v4, μ => fX9_directs_233_b L o (fX9_directs_233 L o k) v1 v2 v4 μ
def fX9_directs_224 (L : Nat → Nat) (o : Nat) (self135 : Int32 → Int32 → Int32 → Int32 → Mem → Option Mem) (v1 v2 v3 v4 : Int32) (μ : Mem) : Option Mem :=
  lt' (v4 + 1) (fun a6 => self135 v1 v2 v3 a6 μ)
def fX9_directs_201 (L : Nat → Nat) (o : Nat) (self152 : Int32 → Int32 → Int32 → Int32 → Int32 → Int32 → Mem → Option Mem) (v1 v2 v3 v4 v6 s0 : Int32) (μ : Mem) : Option Mem :=
  lt' (v6 + 1) (fun a7 => self152 v1 v2 v3 v4 s0 a7 μ)
def fX9_directs_152_b (L : Nat → Nat) (o : Nat) (self135 : Int32 → Int32 → Int32 → Int32 → Mem → Option Mem) (self152 : Int32 → Int32 → Int32 → Int32 → Int32 → Int32 → Mem → Option Mem) (v1 v2 v3 v4 v5 v6 : Int32) (μ : Mem) : Option Mem :=
  ald L μ (o + 2) v2 (fun a8 => (if a8 ≤ v6 then (if v5 ≤ 0 then fX9_directs_224 L o self135 v1 v2 v3 v4 μ else bv (fX9_extendsBy L o v1 (1 : Int32) v4 v5 μ) (fun μ9 => fX9_directs_224 L o self135 v1 v2 v3 v4 μ9)) else ald L μ (o + 13) v6 (fun a10 => bd (fX9_pairAt L v1 (0 : Int32) v6 v4 μ) (fun b12 μ11 => ald L μ11 (o + 6) b12 (fun a13 => lt' (a10 - a13) (fun a14 => (if a14 ≤ v5 then fX9_directs_201 L o self152 v1 v2 v3 v4 v6 v5 μ11 else fX9_directs_201 L o self152 v1 v2 v3 v4 v6 a14 μ11)))))))
def fX9_directs_152 (L : Nat → Nat) (o : Nat) (self135 : Int32 → Int32 → Int32 → Int32 → Mem → Option Mem) : Nat → Int32 → Int32 → Int32 → Int32 → Int32 → Int32 → Mem → Option Mem
  | 0, _, _, _, _, _, _, _ => none
  | k + 1, v1, v2, v3, v4, v5, v6, μ => fX9_directs_152_b L o self135 (fX9_directs_152 L o self135 k) v1 v2 v3 v4 v5 v6 μ
def fX9_directs_135_b (L : Nat → Nat) (o : Nat) (self135 : Int32 → Int32 → Int32 → Int32 → Mem → Option Mem) (v1 v2 v3 v4 : Int32) (μ : Mem) : Option Mem :=
  ald L μ (o + 2) v3 (fun a15 => (if a15 ≤ v4 then fX9_directs_233 L o FU v1 v2 (0 : Int32) μ else fX9_directs_152 L o self135 FU v1 v2 v3 v4 (0 : Int32) (0 : Int32) μ))
def fX9_directs_135 (L : Nat → Nat) (o : Nat) : Nat → Int32 → Int32 → Int32 → Int32 → Mem → Option Mem
  | 0, _, _, _, _, _ => none
  | k + 1, v1, v2, v3, v4, μ => fX9_directs_135_b L o (fX9_directs_135 L o k) v1 v2 v3 v4 μ
def fX9_directs_119 (L : Nat → Nat) (o : Nat) (self47 : Int32 → Int32 → Int32 → Int32 → Int32 → Mem → Option Mem) (v1 v2 v3 v4 v5 s0 s1 : Int32) (μ : Mem) : Option Mem :=
  ast L μ (o + 13) s1 s0 (fun μ16 => lt' (v5 + 1) (fun a17 => self47 v1 v2 v3 v4 a17 μ16))
def fX9_directs_47_b (L : Nat → Nat) (o : Nat) (self22 : Int32 → Int32 → Int32 → Int32 → Mem → Option Mem) (self47 : Int32 → Int32 → Int32 → Int32 → Int32 → Mem → Option Mem) (v1 v2 v3 v4 v5 : Int32) (μ : Mem) : Option Mem :=
  ald L μ (o + 2) v3 (fun a18 => (if a18 ≤ v5 then lt' (v4 + 1) (fun a19 => self22 v1 v2 v3 a19 μ) else bd (fX9_pairAt L v1 (0 : Int32) v4 v5 μ) (fun b21 μ20 => ald L μ20 (o + 6) b21 (fun a22 => ald L μ20 (o + 6) (((4 : Int32) * v3) + v5) (fun a23 => bd (fX9_sum L o a22 a23 μ20) (fun b25 μ24 => ald L μ24 (o + 13) v4 (fun a26 => (if a26 ≤ b25 then ald L μ24 (o + 13) v4 (fun a27 => fX9_directs_119 L o self47 v1 v2 v3 v4 v5 a27 v4 μ24) else fX9_directs_119 L o self47 v1 v2 v3 v4 v5 b25 v4 μ24))))))))
def fX9_directs_47 (L : Nat → Nat) (o : Nat) (self22 : Int32 → Int32 → Int32 → Int32 → Mem → Option Mem) : Nat → Int32 → Int32 → Int32 → Int32 → Int32 → Mem → Option Mem
  | 0, _, _, _, _, _, _ => none
  | k + 1, v1, v2, v3, v4, v5, μ => fX9_directs_47_b L o self22 (fX9_directs_47 L o self22 k) v1 v2 v3 v4 v5 μ
def fX9_directs_22_b (L : Nat → Nat) (o : Nat) (self22 : Int32 → Int32 → Int32 → Int32 → Mem → Option Mem) (v1 v2 v3 v4 : Int32) (μ : Mem) : Option Mem :=
  ald L μ (o + 2) v2 (fun a28 => (if a28 ≤ v4 then fX9_directs_135 L o FU v1 v2 v3 (0 : Int32) μ else ast L μ (o + 13) v4 (μ o 7) (fun μ29 => fX9_directs_47 L o self22 FU v1 v2 v3 v4 (0 : Int32) μ29)))
def fX9_directs_22 (L : Nat → Nat) (o : Nat) : Nat → Int32 → Int32 → Int32 → Int32 → Mem → Option Mem
  | 0, _, _, _, _, _ => none
  | k + 1, v1, v2, v3, v4, μ => fX9_directs_22_b L o (fX9_directs_22 L o k) v1 v2 v3 v4 μ
def fX9_directs (L : Nat → Nat) (o : Nat) (v1 : Int32) (μ : Mem) : Option Mem :=
  bv (fX9_shuts L o v1 μ) (fun μ30 => ald L μ30 (o + 3) v1 (fun a31 => ald L μ30 (o + 4) v1 (fun a32 => fX9_directs_22 L o FU v1 a31 a32 (0 : Int32) μ30)))
-- X9_sweeps
def fX9_sweeps_79 (L : Nat → Nat) (o : Nat) (μ : Mem) : Option Mem :=
  bv (fX9_nodes L o μ) (fun μ1 => some μ1)
def fX9_sweeps_67 (L : Nat → Nat) (o : Nat) (self44 : Int32 → Int32 → Int32 → Mem → Option Mem) (v1 v2 v3 : Int32) (μ : Mem) : Option Mem :=
  lt' (v3 + 1) (fun a2 => self44 v1 v2 a2 μ)
def fX9_sweeps_44_b (L : Nat → Nat) (o : Nat) (self33 : Int32 → Int32 → Mem → Option Mem) (self44 : Int32 → Int32 → Int32 → Mem → Option Mem) (v1 v2 v3 : Int32) (μ : Mem) : Option Mem :=
  (if (μ o 4) ≤ v3 then lt' (v2 + (-1)) (fun a3 => self33 v1 a3 μ) else ald L μ (o + 4) v3 (fun a4 => (if a4 = v2 then bv (fX9_directs L o v3 μ) (fun μ5 => fX9_sweeps_67 L o self44 v1 v2 v3 μ5) else fX9_sweeps_67 L o self44 v1 v2 v3 μ)))
def fX9_sweeps_44 (L : Nat → Nat) (o : Nat) (self33 : Int32 → Int32 → Mem → Option Mem) : Nat → Int32 → Int32 → Int32 → Mem → Option Mem
  | 0, _, _, _, _ => none
  | k + 1, v1, v2, v3, μ => fX9_sweeps_44_b L o self33 (fX9_sweeps_44 L o self33 k) v1 v2 v3 μ
def fX9_sweeps_33_b (L : Nat → Nat) (o : Nat) (self33 : Int32 → Int32 → Mem → Option Mem) (v1 v2 : Int32) (μ : Mem) : Option Mem :=
  (if v2 < 0 then fX9_sweeps_79 L o μ else (if v1 = (2 : Int32) then fX9_sweeps_44 L o self33 FU v1 v2 (0 : Int32) μ else fX9_sweeps_79 L o μ))
def fX9_sweeps_33 (L : Nat → Nat) (o : Nat) : Nat → Int32 → Int32 → Mem → Option Mem
  | 0, _, _, _ => none
  | k + 1, v1, v2, μ => fX9_sweeps_33_b L o (fX9_sweeps_33 L o k) v1 v2 μ
def fX9_sweeps_26 (L : Nat → Nat) (o : Nat) (v1 : Int32) (μ : Mem) : Option Mem :=
  lt' ((μ o 2) - (1 : Int32)) (fun a6 => fX9_sweeps_33 L o FU v1 a6 μ)
def fX9_sweeps_2_b (L : Nat → Nat) (o : Nat) (self2 : Int32 → Int32 → Mem → Option Mem) (v1 v2 : Int32) (μ : Mem) : Option Mem :=
  (if (μ o 4) ≤ v2 then fX9_sweeps_26 L o v1 μ else (if v1 = (1 : Int32) then bv (fX9_arcs L o v2 μ) (fun μ7 => lt' (v2 + 1) (fun a8 => self2 v1 a8 μ7)) else fX9_sweeps_26 L o v1 μ))
def fX9_sweeps_2 (L : Nat → Nat) (o : Nat) : Nat → Int32 → Int32 → Mem → Option Mem
  | 0, _, _, _ => none
  | k + 1, v1, v2, μ => fX9_sweeps_2_b L o (fX9_sweeps_2 L o k) v1 v2 μ
def fX9_sweeps (L : Nat → Nat) (o : Nat) (v1 : Int32) (μ : Mem) : Option Mem :=
  fX9_sweeps_2 L o FU v1 (0 : Int32) μ
-- X9_sweep
def fX9_sweep_27_b (L : Nat → Nat) (o : Nat) (self27 : Int32 → Int32 → Int32 → Mem → Option (Int32 × Mem)) (v1 v2 v3 : Int32) (μ : Mem) : Option (Int32 × Mem) :=
  (if v2 ≤ v3 then ald L μ (o + 6) (168 : Int32) (fun a1 => some (a1, μ)) else bv (fX9_sweeps L o v1 μ) (fun μ2 => lt' (v3 + 1) (fun a3 => self27 v1 v2 a3 μ2)))
def fX9_sweep_27 (L : Nat → Nat) (o : Nat) : Nat → Int32 → Int32 → Int32 → Mem → Option (Int32 × Mem)
  | 0, _, _, _, _ => none
  | k + 1, v1, v2, v3, μ => fX9_sweep_27_b L o (fX9_sweep_27 L o k) v1 v2 v3 μ
def fX9_sweep (L : Nat → Nat) (o : Nat) (v1 v2 : Int32) (μ : Mem) : Option (Int32 × Mem) :=
  bd (fX9_isIn L v1 (0 : Int32) (2 : Int32) μ) (fun b5 μ4 => (if b5 = 0 then some ((-1 : Int32), μ4) else bd (fX9_isIn L v2 (1 : Int32) (9 : Int32) μ4) (fun b7 μ6 => (if b7 = 0 then some ((-1 : Int32), μ6) else bv (fX9_keeps L o μ6) (fun μ8 => fX9_sweep_27 L o FU v1 v2 (0 : Int32) μ8)))))
-- X9_settles
def fX9_settles_110 (L : Nat → Nat) (o : Nat) (self7 : Int32 → Int32 → Int32 → Int32 → Mem → Option (Int32 × Mem)) (v1 v3 v4 s0 s1 : Int32) (μ : Mem) : Option (Int32 × Mem) :=
  lt' (s1 + s0) (fun a1 => lt' (v4 + 1) (fun a2 => self7 v1 a1 v3 a2 μ))
def fX9_settles_93 (L : Nat → Nat) (o : Nat) (self59 : Int32 → Int32 → Int32 → Int32 → Int32 → Mem → Option (Int32 × Mem)) (v1 v2 v4 v5 s0 : Int32) (μ : Mem) : Option (Int32 × Mem) :=
  lt' (v5 + 1) (fun a3 => self59 v1 v2 s0 v4 a3 μ)
def fX9_settles_88 (L : Nat → Nat) (o : Nat) (self59 : Int32 → Int32 → Int32 → Int32 → Int32 → Mem → Option (Int32 × Mem)) (v1 v2 v4 v5 : Int32) (μ : Mem) : Option (Int32 × Mem) :=
  fX9_settles_93 L o self59 v1 v2 v4 v5 (1 : Int32) μ
def fX9_settles_59_b (L : Nat → Nat) (o : Nat) (self7 : Int32 → Int32 → Int32 → Int32 → Mem → Option (Int32 × Mem)) (self59 : Int32 → Int32 → Int32 → Int32 → Int32 → Mem → Option (Int32 × Mem)) (v1 v2 v3 v4 v5 : Int32) (μ : Mem) : Option (Int32 × Mem) :=
  (if (169 : Int32) ≤ v5 then (if v3 = 0 then fX9_settles_110 L o self7 v1 v3 v4 (0 : Int32) v2 μ else fX9_settles_110 L o self7 v1 v3 v4 (1 : Int32) v2 μ) else (if v3 = 0 then ald L μ (o + 14) v5 (fun a4 => ald L μ (o + 6) v5 (fun a5 => (if a4 = a5 then fX9_settles_93 L o self59 v1 v2 v4 v5 (0 : Int32) μ else fX9_settles_88 L o self59 v1 v2 v4 v5 μ))) else fX9_settles_88 L o self59 v1 v2 v4 v5 μ))
def fX9_settles_59 (L : Nat → Nat) (o : Nat) (self7 : Int32 → Int32 → Int32 → Int32 → Mem → Option (Int32 × Mem)) : Nat → Int32 → Int32 → Int32 → Int32 → Int32 → Mem → Option (Int32 × Mem)
  | 0, _, _, _, _, _, _ => none
  | k + 1, v1, v2, v3, v4, v5, μ => fX9_settles_59_b L o self7 (fX9_settles_59 L o self7 k) v1 v2 v3 v4 v5 μ
def fX9_settles_21_b (L : Nat → Nat) (o : Nat) (self7 : Int32 → Int32 → Int32 → Int32 → Mem → Option (Int32 × Mem)) (self21 : Int32 → Int32 → Int32 → Int32 → Mem → Option (Int32 × Mem)) (v1 v2 v4 v5 : Int32) (μ : Mem) : Option (Int32 × Mem) :=
  (if (169 : Int32) ≤ v5 then bv (fX9_sweeps L o v1 μ) (fun μ6 => fX9_settles_59 L o self7 FU v1 v2 (0 : Int32) v4 (0 : Int32) μ6) else ald L μ (o + 6) v5 (fun a7 => ast L μ (o + 14) v5 a7 (fun μ8 => lt' (v5 + 1) (fun a9 => self21 v1 v2 v4 a9 μ8))))
def fX9_settles_21 (L : Nat → Nat) (o : Nat) (self7 : Int32 → Int32 → Int32 → Int32 → Mem → Option (Int32 × Mem)) : Nat → Int32 → Int32 → Int32 → Int32 → Mem → Option (Int32 × Mem)
  | 0, _, _, _, _, _ => none
  | k + 1, v1, v2, v4, v5, μ => fX9_settles_21_b L o self7 (fX9_settles_21 L o self7 k) v1 v2 v4 v5 μ
def fX9_settles_7_b (L : Nat → Nat) (o : Nat) (self7 : Int32 → Int32 → Int32 → Int32 → Mem → Option (Int32 × Mem)) (v1 v2 v3 v4 : Int32) (μ : Mem) : Option (Int32 × Mem) :=
  (if (20 : Int32) ≤ v4 then some (v2, μ) else (if v3 = 0 then some (v2, μ) else fX9_settles_21 L o self7 FU v1 v2 v4 (0 : Int32) μ))
def fX9_settles_7 (L : Nat → Nat) (o : Nat) : Nat → Int32 → Int32 → Int32 → Int32 → Mem → Option (Int32 × Mem)
  | 0, _, _, _, _, _ => none
  | k + 1, v1, v2, v3, v4, μ => fX9_settles_7_b L o (fX9_settles_7 L o k) v1 v2 v3 v4 μ
def fX9_settles (L : Nat → Nat) (o : Nat) (v1 : Int32) (μ : Mem) : Option (Int32 × Mem) :=
  fX9_settles_7 L o FU v1 (0 : Int32) (1 : Int32) (0 : Int32) μ
-- X9_settle
def fX9_settle (L : Nat → Nat) (o : Nat) (v1 : Int32) (μ : Mem) : Option (Int32 × Mem) :=
  bd (fX9_isIn L v1 (0 : Int32) (2 : Int32) μ) (fun b2 μ1 => (if b2 = 0 then some ((-1 : Int32), μ1) else bv (fX9_keeps L o μ1) (fun μ3 => bd (fX9_settles L o v1 μ3) (fun b5 μ4 => some (b5, μ4)))))
-- X9_bound
def fX9_bound_55_b (L : Nat → Nat) (o : Nat) (self55 : Int32 → Int32 → Mem → Option (Int32 × Mem)) (v2 v3 : Int32) (μ : Mem) : Option (Int32 × Mem) :=
  (if (169 : Int32) ≤ v3 then some (v2, μ) else ald L μ (o + 8) v3 (fun a1 => ast L μ (o + 6) v3 a1 (fun μ2 => lt' (v3 + 1) (fun a3 => self55 v2 a3 μ2))))
def fX9_bound_55 (L : Nat → Nat) (o : Nat) : Nat → Int32 → Int32 → Mem → Option (Int32 × Mem)
  | 0, _, _, _ => none
  | k + 1, v2, v3, μ => fX9_bound_55_b L o (fX9_bound_55 L o k) v2 v3 μ
def fX9_bound_13_b (L : Nat → Nat) (o : Nat) (self13 : Int32 → Int32 → Mem → Option (Int32 × Mem)) (v1 v2 : Int32) (μ : Mem) : Option (Int32 × Mem) :=
  (if (169 : Int32) ≤ v2 then bd (fX9_settles L o v1 μ) (fun b5 μ4 => ald L μ4 (o + 6) (168 : Int32) (fun a6 => fX9_bound_55 L o FU a6 (0 : Int32) μ4)) else ald L μ (o + 6) v2 (fun a7 => ast L μ (o + 8) v2 a7 (fun μ8 => lt' (v2 + 1) (fun a9 => self13 v1 a9 μ8))))
def fX9_bound_13 (L : Nat → Nat) (o : Nat) : Nat → Int32 → Int32 → Mem → Option (Int32 × Mem)
  | 0, _, _, _ => none
  | k + 1, v1, v2, μ => fX9_bound_13_b L o (fX9_bound_13 L o k) v1 v2 μ
def fX9_bound (L : Nat → Nat) (o : Nat) (v1 : Int32) (μ : Mem) : Option (Int32 × Mem) :=
  bd (fX9_isIn L v1 (0 : Int32) (2 : Int32) μ) (fun b11 μ10 => (if b11 = 0 then some ((-1 : Int32), μ10) else fX9_bound_13 L o FU v1 (0 : Int32) μ10))
-- X9_totalOf
def fX9_totalOf_99 (L : Nat → Nat) (o : Nat) (self48 : Int32 → Int32 → Int32 → Mem → Option (Int32 × Mem)) (v1 v3 s0 s1 : Int32) (μ : Mem) : Option (Int32 × Mem) :=
  bd (fX9_sum L o s1 s0 μ) (fun b2 μ1 => lt' (v3 + 1) (fun a3 => self48 v1 b2 a3 μ1))
def fX9_totalOf_48_b (L : Nat → Nat) (o : Nat) (self48 : Int32 → Int32 → Int32 → Mem → Option (Int32 × Mem)) (v1 v2 v3 : Int32) (μ : Mem) : Option (Int32 × Mem) :=
  (if (μ o 4) ≤ v3 then some (v2, μ) else (if v3 = v1 then fX9_totalOf_99 L o self48 v1 v3 (0 : Int32) v2 μ else ald L μ (o + 3) v3 (fun a4 => ald L μ (o + 15) a4 (fun a5 => ald L μ (o + 4) v3 (fun a6 => ald L μ (o + 15) a6 (fun a7 => bd (fX9_pairAt L v3 (0 : Int32) a5 a7 μ) (fun b9 μ8 => ald L μ8 (o + 6) b9 (fun a10 => fX9_totalOf_99 L o self48 v1 v3 a10 v2 μ8))))))))
def fX9_totalOf_48 (L : Nat → Nat) (o : Nat) : Nat → Int32 → Int32 → Int32 → Mem → Option (Int32 × Mem)
  | 0, _, _, _, _ => none
  | k + 1, v1, v2, v3, μ => fX9_totalOf_48_b L o (fX9_totalOf_48 L o k) v1 v2 v3 μ
def fX9_totalOf_11_b (L : Nat → Nat) (o : Nat) (self11 : Int32 → Int32 → Int32 → Mem → Option (Int32 × Mem)) (v1 v2 v3 : Int32) (μ : Mem) : Option (Int32 × Mem) :=
  (if (μ o 2) ≤ v3 then fX9_totalOf_48 L o FU v1 v2 (0 : Int32) μ else ald L μ (o + 15) v3 (fun a11 => ald L μ (o + 6) (((4 : Int32) * v3) + a11) (fun a12 => bd (fX9_sum L o v2 a12 μ) (fun b14 μ13 => lt' (v3 + 1) (fun a15 => self11 v1 b14 a15 μ13)))))
def fX9_totalOf_11 (L : Nat → Nat) (o : Nat) : Nat → Int32 → Int32 → Int32 → Mem → Option (Int32 × Mem)
  | 0, _, _, _, _ => none
  | k + 1, v1, v2, v3, μ => fX9_totalOf_11_b L o (fX9_totalOf_11 L o k) v1 v2 v3 μ
def fX9_totalOf (L : Nat → Nat) (o : Nat) (v1 : Int32) (μ : Mem) : Option (Int32 × Mem) :=
  ald L μ (o + 6) (168 : Int32) (fun a16 => fX9_totalOf_11 L o FU v1 a16 (0 : Int32) μ)
-- X9_total
def fX9_total_2_b (L : Nat → Nat) (o : Nat) (self2 : Int32 → Mem → Option (Int32 × Mem)) (v1 : Int32) (μ : Mem) : Option (Int32 × Mem) :=
  (if (μ o 2) ≤ v1 then bd (fX9_totalOf L o (-4 : Int32) μ) (fun b2 μ1 => some (b2, μ1)) else ald L μ (o + 5) v1 (fun a3 => ast L μ (o + 15) v1 a3 (fun μ4 => lt' (v1 + 1) (fun a5 => self2 a5 μ4))))
def fX9_total_2 (L : Nat → Nat) (o : Nat) : Nat → Int32 → Mem → Option (Int32 × Mem)
  | 0, _, _ => none
  | k + 1, v1, μ => fX9_total_2_b L o (fX9_total_2 L o k) v1 μ
def fX9_total (L : Nat → Nat) (o : Nat) (μ : Mem) : Option (Int32 × Mem) :=
  fX9_total_2 L o FU (0 : Int32) μ
-- X9_choices
def fX9_choices_4_b (L : Nat → Nat) (o : Nat) (self4 : Int32 → Int32 → Mem → Option (Int32 × Mem)) (v1 v2 : Int32) (μ : Mem) : Option (Int32 × Mem) :=
  (if (μ o 2) ≤ v2 then some (v1, μ) else ald L μ (o + 2) v2 (fun a1 => lt' (v1 * a1) (fun a2 => lt' (v2 + 1) (fun a3 => self4 a2 a3 μ))))
def fX9_choices_4 (L : Nat → Nat) (o : Nat) : Nat → Int32 → Int32 → Mem → Option (Int32 × Mem)
  | 0, _, _, _ => none
  | k + 1, v1, v2, μ => fX9_choices_4_b L o (fX9_choices_4 L o k) v1 v2 μ
def fX9_choices (L : Nat → Nat) (o : Nat) (μ : Mem) : Option (Int32 × Mem) :=
  fX9_choices_4 L o FU (1 : Int32) (0 : Int32) μ
-- X9_takes
def fX9_takes_9_b (L : Nat → Nat) (o : Nat) (self9 : Int32 → Int32 → Mem → Option Mem) (v2 v3 : Int32) (μ : Mem) : Option Mem :=
  (if v3 < 0 then some μ else ald L μ (o + 2) v3 (fun a1 => nz a1 (ast L μ (o + 15) v3 (v2 - v2 / a1 * a1) (fun μ2 => ald L μ2 (o + 2) v3 (fun a3 => nz a3 (lt' (v2 / a3) (fun a4 => lt' (v3 + (-1)) (fun a5 => self9 a4 a5 μ2))))))))
def fX9_takes_9 (L : Nat → Nat) (o : Nat) : Nat → Int32 → Int32 → Mem → Option Mem
  | 0, _, _, _ => none
  | k + 1, v2, v3, μ => fX9_takes_9_b L o (fX9_takes_9 L o k) v2 v3 μ
def fX9_takes (L : Nat → Nat) (o : Nat) (v1 : Int32) (μ : Mem) : Option Mem :=
  lt' ((μ o 2) - (1 : Int32)) (fun a6 => fX9_takes_9 L o FU v1 a6 μ)
-- X9_meets
def fX9_meets_164 (L : Nat → Nat) (o : Nat) (s0 : Int32) (μ : Mem) : Option Mem :=
  pu μ o 30 s0 (fun μ1 => some μ1)
def fX9_meets_138 (L : Nat → Nat) (o : Nat) (v1 v2 s0 s1 : Int32) (μ : Mem) : Option Mem :=
  pu μ o 27 (s1 + s0) (fun μ2 => (if v1 = (μ2 o 26) then fX9_meets_164 L o ((μ2 o 30) &&& v2) μ2 else fX9_meets_164 L o (μ2 o 30) μ2))
def fX9_meets_117 (L : Nat → Nat) (o : Nat) (v1 v2 s0 : Int32) (μ : Mem) : Option Mem :=
  pu μ o 28 s0 (fun μ3 => (if v1 = (μ3 o 26) then fX9_meets_138 L o v1 v2 (1 : Int32) (μ3 o 27) μ3 else fX9_meets_138 L o v1 v2 (0 : Int32) (μ3 o 27) μ3))
def fX9_meets_113 (L : Nat → Nat) (o : Nat) (v1 v2 : Int32) (μ : Mem) : Option Mem :=
  fX9_meets_117 L o v1 v2 (μ o 28) μ
def fX9_meets_92 (L : Nat → Nat) (o : Nat) (v1 v2 : Int32) (μ : Mem) : Option Mem :=
  (if v1 ≤ (μ o 26) then fX9_meets_113 L o v1 v2 μ else (if (μ o 28) ≤ v1 then fX9_meets_113 L o v1 v2 μ else fX9_meets_117 L o v1 v2 v1 μ))
def fX9_meets_66_b (L : Nat → Nat) (o : Nat) (self66 : Int32 → Int32 → Int32 → Mem → Option Mem) (v1 v2 v3 : Int32) (μ : Mem) : Option Mem :=
  (if (μ o 2) ≤ v3 then fX9_meets_92 L o v1 v2 μ else ald L μ (o + 15) v3 (fun a4 => ast L μ (o + 16) v3 a4 (fun μ5 => lt' (v3 + 1) (fun a6 => self66 v1 v2 a6 μ5))))
def fX9_meets_66 (L : Nat → Nat) (o : Nat) : Nat → Int32 → Int32 → Int32 → Mem → Option Mem
  | 0, _, _, _, _ => none
  | k + 1, v1, v2, v3, μ => fX9_meets_66_b L o (fX9_meets_66 L o k) v1 v2 v3 μ
def fX9_meets_4_b (L : Nat → Nat) (o : Nat) (self4 : Int32 → Int32 → Int32 → Mem → Option Mem) (v1 v2 v3 : Int32) (μ : Mem) : Option Mem :=
  (if (μ o 2) ≤ v3 then (if (μ o 26) ≤ v1 then fX9_meets_92 L o v1 v2 μ else pu μ o 28 (μ o 26) (fun μ7 => pu μ7 o 26 v1 (fun μ8 => pu μ8 o 27 (0 : Int32) (fun μ9 => pu μ9 o 30 v2 (fun μ10 => fX9_meets_66 L o FU v1 v2 (0 : Int32) μ10))))) else ald L μ (o + 15) v3 (fun a11 => lt' (v2 ||| ((1 : Int32) <<< ((((4 : Int32) * v3) + a11) &&& 31))) (fun a12 => lt' (v3 + 1) (fun a13 => self4 v1 a12 a13 μ))))
def fX9_meets_4 (L : Nat → Nat) (o : Nat) : Nat → Int32 → Int32 → Int32 → Mem → Option Mem
  | 0, _, _, _, _ => none
  | k + 1, v1, v2, v3, μ => fX9_meets_4_b L o (fX9_meets_4 L o k) v1 v2 v3 μ
def fX9_meets (L : Nat → Nat) (o : Nat) (v1 : Int32) (μ : Mem) : Option Mem :=
  fX9_meets_4 L o FU v1 (0 : Int32) (0 : Int32) μ
-- X9_looks
def fX9_looks_73 (L : Nat → Nat) (o : Nat) (self33 : Int32 → Int32 → Mem → Option Mem) (v1 v2 : Int32) (μ : Mem) : Option Mem :=
  lt' (v2 + 1) (fun a1 => self33 v1 a1 μ)
def fX9_looks_33_b (L : Nat → Nat) (o : Nat) (self33 : Int32 → Int32 → Mem → Option Mem) (v1 v2 : Int32) (μ : Mem) : Option Mem :=
  (if v1 ≤ v2 then some μ else bv (fX9_takes L o v2 μ) (fun μ2 => bd (fX9_totalOf L o (-4 : Int32) μ2) (fun b4 μ3 => (if (μ3 o 7) ≤ b4 then fX9_looks_73 L o self33 v1 v2 μ3 else pu μ3 o 29 ((μ3 o 29) + (1 : Int32)) (fun μ5 => bv (fX9_meets L o b4 μ5) (fun μ6 => fX9_looks_73 L o self33 v1 v2 μ6))))))
def fX9_looks_33 (L : Nat → Nat) (o : Nat) : Nat → Int32 → Int32 → Mem → Option Mem
  | 0, _, _, _ => none
  | k + 1, v1, v2, μ => fX9_looks_33_b L o (fX9_looks_33 L o k) v1 v2 μ
def fX9_looks (L : Nat → Nat) (o : Nat) (μ : Mem) : Option Mem :=
  pu μ o 26 (μ o 7) (fun μ7 => pu μ7 o 28 (μ7 o 7) (fun μ8 => pu μ8 o 29 (0 : Int32) (fun μ9 => pu μ9 o 27 (0 : Int32) (fun μ10 => bd (fX9_choices L o μ10) (fun b12 μ11 => fX9_looks_33 L o FU b12 (0 : Int32) μ11)))))
-- X9_best
def fX9_best (L : Nat → Nat) (o : Nat) (v1 : Int32) (μ : Mem) : Option (Int32 × Mem) :=
  bd (fX9_isIn L v1 (-2 : Int32) ((μ o 2) - (1 : Int32)) μ) (fun b2 μ1 => (if b2 = 0 then some ((-1 : Int32), μ1) else bv (fX9_looks L o μ1) (fun μ3 => (if (μ3 o 29) = 0 then some ((-4 : Int32), μ3) else (if v1 = (-1 : Int32) then some ((μ3 o 26), μ3) else (if v1 = (-2 : Int32) then some ((μ3 o 27), μ3) else ald L μ3 (o + 16) v1 (fun a4 => some (a4, μ3))))))))
-- X9_next
def fX9_next (L : Nat → Nat) (o : Nat) (v1 : Int32) (μ : Mem) : Option (Int32 × Mem) :=
  bd (fX9_isIn L v1 (0 : Int32) (1 : Int32) μ) (fun b2 μ1 => (if b2 = 0 then some ((-1 : Int32), μ1) else bv (fX9_looks L o μ1) (fun μ3 => (if v1 = (1 : Int32) then some ((μ3 o 29), μ3) else (if (μ3 o 7) ≤ (μ3 o 28) then some ((-4 : Int32), μ3) else some ((μ3 o 28), μ3))))))
-- X9_backbone
def fX9_backbone (L : Nat → Nat) (o : Nat) (μ : Mem) : Option (Int32 × Mem) :=
  bv (fX9_looks L o μ) (fun μ1 => (if (μ1 o 29) = 0 then some ((-4 : Int32), μ1) else some ((μ1 o 30), μ1)))
-- X9_least
def fX9_least_65 (L : Nat → Nat) (o : Nat) (self15 : Int32 → Int32 → Int32 → Int32 → Int32 → Int32 → Mem → Option (Int32 × Mem)) (v1 v2 v3 v4 v5 v6 : Int32) (μ : Mem) : Option (Int32 × Mem) :=
  lt' (v6 + 1) (fun a1 => self15 v1 v2 v3 v4 v5 a1 μ)
def fX9_least_63 (L : Nat → Nat) (o : Nat) (self15 : Int32 → Int32 → Int32 → Int32 → Int32 → Int32 → Mem → Option (Int32 × Mem)) (v1 v2 v3 v5 v6 s0 : Int32) (μ : Mem) : Option (Int32 × Mem) :=
  fX9_least_65 L o self15 v1 v2 v3 s0 v5 v6 μ
def fX9_least_42 (L : Nat → Nat) (o : Nat) (self15 : Int32 → Int32 → Int32 → Int32 → Int32 → Int32 → Mem → Option (Int32 × Mem)) (v1 v2 v3 v4 v5 v6 : Int32) (μ : Mem) : Option (Int32 × Mem) :=
  bd (fX9_totalOf L o v3 μ) (fun b3 μ2 => (if v4 ≤ b3 then fX9_least_63 L o self15 v1 v2 v3 v5 v6 v4 μ2 else fX9_least_63 L o self15 v1 v2 v3 v5 v6 b3 μ2))
def fX9_least_15_b (L : Nat → Nat) (o : Nat) (self15 : Int32 → Int32 → Int32 → Int32 → Int32 → Int32 → Mem → Option (Int32 × Mem)) (v1 v2 v3 v4 v5 v6 : Int32) (μ : Mem) : Option (Int32 × Mem) :=
  (if v5 ≤ v6 then (if (μ o 7) ≤ v4 then some ((-4 : Int32), μ) else some (v4, μ)) else bv (fX9_takes L o v6 μ) (fun μ4 => (if v1 < 0 then fX9_least_42 L o self15 v1 v2 v3 v4 v5 v6 μ4 else ald L μ4 (o + 15) v1 (fun a5 => (if a5 = v2 then fX9_least_42 L o self15 v1 v2 v3 v4 v5 v6 μ4 else fX9_least_65 L o self15 v1 v2 v3 v4 v5 v6 μ4)))))
def fX9_least_15 (L : Nat → Nat) (o : Nat) : Nat → Int32 → Int32 → Int32 → Int32 → Int32 → Int32 → Mem → Option (Int32 × Mem)
  | 0, _, _, _, _, _, _, _ => none
  | k + 1, v1, v2, v3, v4, v5, v6, μ => fX9_least_15_b L o (fX9_least_15 L o k) v1 v2 v3 v4 v5 v6 μ
def fX9_least (L : Nat → Nat) (o : Nat) (v1 v2 v3 : Int32) (μ : Mem) : Option (Int32 × Mem) :=
  lt' (μ o 7) (fun a6 => bd (fX9_choices L o μ) (fun b8 μ7 => fX9_least_15 L o FU v1 v2 v3 a6 b8 (0 : Int32) μ7))
-- X9_with
def fX9_with (L : Nat → Nat) (o : Nat) (v1 v2 : Int32) (μ : Mem) : Option (Int32 × Mem) :=
  bd (fX9_isValue L o v1 v2 μ) (fun b2 μ1 => (if b2 = 0 then some ((-1 : Int32), μ1) else bd (fX9_least L o v1 v2 (-4 : Int32) μ1) (fun b4 μ3 => some (b4, μ3))))
-- X9_without
def fX9_without (L : Nat → Nat) (o : Nat) (v1 : Int32) (μ : Mem) : Option (Int32 × Mem) :=
  bd (fX9_isTable L o v1 μ) (fun b2 μ1 => (if b2 = 0 then some ((-1 : Int32), μ1) else bd (fX9_least L o (-4 : Int32) (0 : Int32) v1 μ1) (fun b4 μ3 => some (b4, μ3))))
-- X9_pairsWith
def fX9_pairsWith_114 (L : Nat → Nat) (o : Nat) (self6 : Int32 → Int32 → Int32 → Int32 → Int32 → Mem → Option (Int32 × Mem)) (v1 v2 v3 v4 v5 : Int32) (μ : Mem) : Option (Int32 × Mem) :=
  lt' (v5 + 1) (fun a1 => self6 v1 v2 v3 v4 a1 μ)
def fX9_pairsWith_97 (L : Nat → Nat) (o : Nat) (self6 : Int32 → Int32 → Int32 → Int32 → Int32 → Mem → Option (Int32 × Mem)) (v1 v2 v3 v5 v6 s0 s1 s2 : Int32) (μ : Mem) : Option (Int32 × Mem) :=
  ald L μ (o + 15) v6 (fun a2 => bd (fX9_pairAt L s1 s0 v2 a2 μ) (fun b4 μ3 => ald L μ3 (o + 6) b4 (fun a5 => bd (fX9_sum L o s2 a5 μ3) (fun b7 μ6 => fX9_pairsWith_114 L o self6 v1 v2 v3 b7 v5 μ6))))
def fX9_pairsWith_59 (L : Nat → Nat) (o : Nat) (self6 : Int32 → Int32 → Int32 → Int32 → Int32 → Mem → Option (Int32 × Mem)) (v1 v2 v3 v4 v5 s0 : Int32) (μ : Mem) : Option (Int32 × Mem) :=
  (if s0 < 0 then fX9_pairsWith_114 L o self6 v1 v2 v3 v4 v5 μ else (if v3 < s0 then fX9_pairsWith_114 L o self6 v1 v2 v3 v4 v5 μ else ald L μ (o + 3) v5 (fun a8 => (if a8 = v1 then fX9_pairsWith_97 L o self6 v1 v2 v3 v5 s0 (0 : Int32) v5 v4 μ else fX9_pairsWith_97 L o self6 v1 v2 v3 v5 s0 (1 : Int32) v5 v4 μ))))
def fX9_pairsWith_6_b (L : Nat → Nat) (o : Nat) (self6 : Int32 → Int32 → Int32 → Int32 → Int32 → Mem → Option (Int32 × Mem)) (v1 v2 v3 v4 v5 : Int32) (μ : Mem) : Option (Int32 × Mem) :=
  (if (μ o 4) ≤ v5 then some (v4, μ) else ald L μ (o + 3) v5 (fun a9 => (if a9 = v1 then ald L μ (o + 4) v5 (fun a12 => fX9_pairsWith_59 L o self6 v1 v2 v3 v4 v5 a12 μ) else ald L μ (o + 4) v5 (fun a10 => (if a10 = v1 then ald L μ (o + 3) v5 (fun a11 => fX9_pairsWith_59 L o self6 v1 v2 v3 v4 v5 a11 μ) else fX9_pairsWith_59 L o self6 v1 v2 v3 v4 v5 (-4 : Int32) μ)))))
def fX9_pairsWith_6 (L : Nat → Nat) (o : Nat) : Nat → Int32 → Int32 → Int32 → Int32 → Int32 → Mem → Option (Int32 × Mem)
  | 0, _, _, _, _, _, _ => none
  | k + 1, v1, v2, v3, v4, v5, μ => fX9_pairsWith_6_b L o (fX9_pairsWith_6 L o k) v1 v2 v3 v4 v5 μ
def fX9_pairsWith (L : Nat → Nat) (o : Nat) (v1 v2 v3 : Int32) (μ : Mem) : Option (Int32 × Mem) :=
  fX9_pairsWith_6 L o FU v1 v2 v3 (0 : Int32) (0 : Int32) μ
-- X9_lowOf
def fX9_lowOf_141 (L : Nat → Nat) (o : Nat) (self11 : Int32 → Int32 → Int32 → Mem → Option (Int32 × Mem)) (v1 v2 v3 : Int32) (μ : Mem) : Option (Int32 × Mem) :=
  lt' (v3 + 1) (fun a1 => self11 v1 v2 a1 μ)
def fX9_lowOf_125 (L : Nat → Nat) (o : Nat) (self75 : Int32 → Int32 → Int32 → Int32 → Int32 → Mem → Option (Int32 × Mem)) (v1 v2 v3 v5 s0 : Int32) (μ : Mem) : Option (Int32 × Mem) :=
  lt' (v5 + 1) (fun a2 => self75 v1 v2 v3 s0 a2 μ)
def fX9_lowOf_75_b (L : Nat → Nat) (o : Nat) (self11 : Int32 → Int32 → Int32 → Mem → Option (Int32 × Mem)) (self75 : Int32 → Int32 → Int32 → Int32 → Int32 → Mem → Option (Int32 × Mem)) (v1 v2 v3 v4 v5 : Int32) (μ : Mem) : Option (Int32 × Mem) :=
  ald L μ (o + 2) v3 (fun a3 => (if a3 ≤ v5 then bd (fX9_sum L o v2 v4 μ) (fun b5 μ4 => fX9_lowOf_141 L o self11 v1 b5 v3 μ4) else ald L μ (o + 6) (((4 : Int32) * v3) + v5) (fun a6 => bd (fX9_pairsWith L o v3 v5 v1 μ) (fun b8 μ7 => bd (fX9_sum L o a6 b8 μ7) (fun b10 μ9 => (if v4 ≤ b10 then fX9_lowOf_125 L o self75 v1 v2 v3 v5 v4 μ9 else fX9_lowOf_125 L o self75 v1 v2 v3 v5 b10 μ9))))))
def fX9_lowOf_75 (L : Nat → Nat) (o : Nat) (self11 : Int32 → Int32 → Int32 → Mem → Option (Int32 × Mem)) : Nat → Int32 → Int32 → Int32 → Int32 → Int32 → Mem → Option (Int32 × Mem)
  | 0, _, _, _, _, _, _ => none
  | k + 1, v1, v2, v3, v4, v5, μ => fX9_lowOf_75_b L o self11 (fX9_lowOf_75 L o self11 k) v1 v2 v3 v4 v5 μ
def fX9_lowOf_11_b (L : Nat → Nat) (o : Nat) (self11 : Int32 → Int32 → Int32 → Mem → Option (Int32 × Mem)) (v1 v2 v3 : Int32) (μ : Mem) : Option (Int32 × Mem) :=
  (if (μ o 2) ≤ v3 then some (v2, μ) else (if v1 < v3 then lt' (μ o 7) (fun a11 => fX9_lowOf_75 L o self11 FU v1 v2 v3 a11 (0 : Int32) μ) else ald L μ (o + 15) v3 (fun a12 => ald L μ (o + 6) (((4 : Int32) * v3) + a12) (fun a13 => ald L μ (o + 15) v3 (fun a14 => bd (fX9_pairsWith L o v3 a14 (v3 - (1 : Int32)) μ) (fun b16 μ15 => bd (fX9_sum L o a13 b16 μ15) (fun b18 μ17 => bd (fX9_sum L o v2 b18 μ17) (fun b20 μ19 => fX9_lowOf_141 L o self11 v1 b20 v3 μ19))))))))
def fX9_lowOf_11 (L : Nat → Nat) (o : Nat) : Nat → Int32 → Int32 → Int32 → Mem → Option (Int32 × Mem)
  | 0, _, _, _, _ => none
  | k + 1, v1, v2, v3, μ => fX9_lowOf_11_b L o (fX9_lowOf_11 L o k) v1 v2 v3 μ
def fX9_lowOf (L : Nat → Nat) (o : Nat) (v1 : Int32) (μ : Mem) : Option (Int32 × Mem) :=
  ald L μ (o + 6) (168 : Int32) (fun a21 => fX9_lowOf_11 L o FU v1 a21 (0 : Int32) μ)
-- X9_tries
def fX9_tries_99 (L : Nat → Nat) (o : Nat) (self16 : Int32 → Int32 → Int32 → Mem → Option (Int32 × Mem)) (v1 v2 v3 : Int32) (μ : Mem) : Option (Int32 × Mem) :=
  self16 v1 v2 v3 μ
def fX9_tries_83 (L : Nat → Nat) (o : Nat) (self16 : Int32 → Int32 → Int32 → Mem → Option (Int32 × Mem)) (v1 v2 v3 v4 : Int32) (μ : Mem) : Option (Int32 × Mem) :=
  (if v2 ≤ v4 then fX9_tries_99 L o self16 v1 v2 v3 μ else lt' (v3 + 1) (fun a1 => ast L μ (o + 15) a1 (-1 : Int32) (fun μ2 => fX9_tries_99 L o self16 v1 v2 a1 μ2)))
def fX9_tries_16_b (L : Nat → Nat) (o : Nat) (self16 : Int32 → Int32 → Int32 → Mem → Option (Int32 × Mem)) (v1 v2 v3 : Int32) (μ : Mem) : Option (Int32 × Mem) :=
  (if v3 < 0 then some (v1, μ) else ald L μ (o + 15) v3 (fun a3 => ast L μ (o + 15) v3 (a3 + (1 : Int32)) (fun μ4 => ald L μ4 (o + 15) v3 (fun a5 => ald L μ4 (o + 2) v3 (fun a6 => (if a5 = a6 then lt' (v3 + (-1)) (fun a10 => self16 v1 v2 a10 μ4) else lt' (v1 + 1) (fun a7 => bd (fX9_lowOf L o v3 μ4) (fun b9 μ8 => (if v2 ≤ b9 then fX9_tries_83 L o self16 a7 v2 v3 b9 μ8 else (if (v3 + (1 : Int32)) = (μ8 o 2) then fX9_tries_99 L o self16 a7 b9 v3 μ8 else fX9_tries_83 L o self16 a7 v2 v3 b9 μ8))))))))))
def fX9_tries_16 (L : Nat → Nat) (o : Nat) : Nat → Int32 → Int32 → Int32 → Mem → Option (Int32 × Mem)
  | 0, _, _, _, _ => none
  | k + 1, v1, v2, v3, μ => fX9_tries_16_b L o (fX9_tries_16 L o k) v1 v2 v3 μ
def fX9_tries (L : Nat → Nat) (o : Nat) (μ : Mem) : Option (Int32 × Mem) :=
  lt' (μ o 7) (fun a11 => ast L μ (o + 15) (0 : Int32) (-1 : Int32) (fun μ12 => fX9_tries_16 L o FU (0 : Int32) a11 (0 : Int32) μ12))
-- X9_count
def fX9_count_110 (L : Nat → Nat) (o : Nat) (self83 : Int32 → Int32 → Int32 → Mem → Option (Int32 × Mem)) (v3 v4 s0 s1 : Int32) (μ : Mem) : Option (Int32 × Mem) :=
  lt' (s1 + s0) (fun a1 => lt' (v4 + 1) (fun a2 => self83 a1 v3 a2 μ))
def fX9_count_83_b (L : Nat → Nat) (o : Nat) (self72 : Int32 → Int32 → Mem → Option (Int32 × Mem)) (self83 : Int32 → Int32 → Int32 → Mem → Option (Int32 × Mem)) (v2 v3 v4 : Int32) (μ : Mem) : Option (Int32 × Mem) :=
  ald L μ (o + 2) v3 (fun a3 => (if a3 ≤ v4 then lt' (v3 + 1) (fun a4 => self72 v2 a4 μ) else bd (fX9_isShut L o v3 v4 μ) (fun b6 μ5 => (if b6 = 0 then fX9_count_110 L o self83 v3 v4 (0 : Int32) v2 μ5 else fX9_count_110 L o self83 v3 v4 (1 : Int32) v2 μ5))))
def fX9_count_83 (L : Nat → Nat) (o : Nat) (self72 : Int32 → Int32 → Mem → Option (Int32 × Mem)) : Nat → Int32 → Int32 → Int32 → Mem → Option (Int32 × Mem)
  | 0, _, _, _, _ => none
  | k + 1, v2, v3, v4, μ => fX9_count_83_b L o self72 (fX9_count_83 L o self72 k) v2 v3 v4 μ
def fX9_count_72_b (L : Nat → Nat) (o : Nat) (self72 : Int32 → Int32 → Mem → Option (Int32 × Mem)) (v2 v3 : Int32) (μ : Mem) : Option (Int32 × Mem) :=
  (if (μ o 2) ≤ v3 then some (v2, μ) else fX9_count_83 L o self72 FU v2 v3 (0 : Int32) μ)
def fX9_count_72 (L : Nat → Nat) (o : Nat) : Nat → Int32 → Int32 → Mem → Option (Int32 × Mem)
  | 0, _, _, _ => none
  | k + 1, v2, v3, μ => fX9_count_72_b L o (fX9_count_72 L o k) v2 v3 μ
def fX9_count (L : Nat → Nat) (o : Nat) (v1 : Int32) (μ : Mem) : Option (Int32 × Mem) :=
  (if v1 = (0 : Int32) then some ((μ o 2), μ) else (if v1 = (1 : Int32) then some ((μ o 4), μ) else (if v1 = (2 : Int32) then some ((μ o 7), μ) else (if v1 = (3 : Int32) then ald L μ (o + 6) (168 : Int32) (fun a7 => some (a7, μ)) else (if v1 = (4 : Int32) then fX9_count_72 L o FU (0 : Int32) (0 : Int32) μ else (if v1 = (5 : Int32) then some ((μ o 11), μ) else (if v1 = (6 : Int32) then some ((μ o 0), μ) else some ((-1 : Int32), μ))))))))
end
section
section WALKA
variable {p : Program} {l : Launch} {e : Env} {s : State} {m : MethodId} {args : Array Value} {below : List Frame} {meth : Method} {c : Code} {D : va_G} {cI cR : ClassId} {n : Nat} {K L ad : Nat → Nat}
-- X3_clear
set_option maxHeartbeats 4000000 in
set_option maxRecDepth 100000 in
theorem wX3_clear_2 (S : CallFix p m c cX3_clear 2 s args TB RX3) (hr : meth.sig.returnType = none ∧ meth.locks = false) (hG : gok D cI cR n K L ad s) {o : Nat} (ho : isk n K o 3) {x : Mem} : ∀ (k : Nat) (v1 : Int32) (μ : Mem), fX3_clear_2 L o k v1 μ = some x → WV p l e (rmL 0) s m args below meth c D cI cR n K L ad 2 x μ 2 [(0, .ref (ad o)), (1, .int v1)] [] := by
  have hx := S.1
  have hb := S.2.1
  intro k
  induction k with
  | zero => intro v1 μ hm; exact absurd (show none = some x from hm) (fun h => by cases h)
  | succ k ih =>
    intro v1 μ hm H locs ls hP hS hl
    have hm : fX3_clear_2_b L o (fX3_clear_2 L o k) v1 μ = some x := hm
    unfold fX3_clear_2_b at hm
    refine lv_iload_n hx hb dX3_clear_2 rfl (lv_at hl 1 rfl) ?_
    refine lv_aload_n hx hb dX3_clear_3 rfl (lv_at hl 0 rfl) ?_
    refine r_getr S hG hP ho clX3 fX3_0 kX3_13 dX3_clear_4 ?_
    refine r_alen S hG hP (chX3_0 hG ho) dX3_clear_7 ?_
    refine b_icmp_ge (tgt := 24) S dX3_clear_8 (by decide) hm (fun hm => ?_) (fun hm => ?_)
    · exact r_vret S hr hG hP hS hm dX3_clear_24
    · refine lv_aload_n hx hb dX3_clear_11 rfl (lv_at hl 0 rfl) ?_
      refine r_getr S hG hP ho clX3 fX3_0 kX3_13 dX3_clear_12 ?_
      refine lv_iload_n hx hb dX3_clear_15 rfl (lv_at hl 1 rfl) ?_
      refine lv_iconst (v := (0 : Int32)) hx hb dX3_clear_16 (by decide) ?_
      refine r_iast S hG hP hS (chX3_0 hG ho) hm dX3_clear_17 (fun μ1 H locs hm hP hS => ?_)
      refine r_iinc (b := (1 : Int32)) (k := 1) S hm dX3_clear_18 hl rfl (by decide) (by decide) (fun a2 ls hm hl => ?_)
      have hl : lv_has ls 2 [(1, .int a2), (0, .ref (ad o))] := hl
      refine lv_goto (tgt := 2) hx hb dX3_clear_21 (by decide) ?_
      exact ih a2 μ1 hm H locs ls hP hS (lv_sub hl [1, 0] rfl)
set_option maxHeartbeats 4000000 in
set_option maxRecDepth 100000 in
theorem wX3_clear_0 (S : CallFix p m c cX3_clear 2 s args TB RX3) (hr : meth.sig.returnType = none ∧ meth.locks = false) (hG : gok D cI cR n K L ad s) {o : Nat} (ho : isk n K o 3) {x : Mem} : ∀ (μ : Mem), fX3_clear L o μ = some x → WV p l e (rmL 0) s m args below meth c D cI cR n K L ad 2 x μ 0 [(0, .ref (ad o))] [] := by
  have hx := S.1
  have hb := S.2.1
  intro μ hm H locs ls hP hS hl
  unfold fX3_clear at hm
  refine lv_iconst (v := (0 : Int32)) hx hb dX3_clear_0 (by decide) ?_
  refine lv_istore_n (lv' := [(1, .int (0 : Int32)), (0, .ref (ad o))]) hx hb dX3_clear_1 rfl hl (by decide) rfl (fun ls hl => ?_)
  exact wX3_clear_2 S hr hG ho FU (0 : Int32) μ hm H locs ls hP hS (lv_sub hl [1, 0] rfl)
theorem tX3_clear (l : Launch) (D : va_G) (cI cR : ClassId) (n : Nat) (K L ad : Nat → Nat) {o : Nat} (ho : isk n K o 3) : Cv l yX3_clear cX3_clear 2 none (rmL 0) D cI cR n K L ad [.ref (ad o)] (fX3_clear L o) := by
  refine Cv.ofW (by decide) (Nat.le_of_ble_eq_true rfl) ?_
  intro μ x hm p e s m args below meth c ls S hr hG hP hS hl
  exact wX3_clear_0 S hr hG ho μ hm _ _ ls hP hS hl
-- X3_get
set_option maxHeartbeats 4000000 in
set_option maxRecDepth 100000 in
theorem wX3_get_0 (S : CallFix p m c cX3_get 2 s args TB RX3) (hr : meth.sig.returnType = (some .int) ∧ meth.locks = false) (hG : gok D cI cR n K L ad s) {o : Nat} (ho : isk n K o 3) {x : Int32 × Mem} : ∀ (v1 : Int32) (μ : Mem), fX3_get L o v1 μ = some x → WI p l e (rmL 0) s m args below meth c D cI cR n K L ad 2 x μ 0 [(0, .ref (ad o)), (1, .int v1)] [] := by
  have hx := S.1
  have hb := S.2.1
  intro v1 μ hm H locs ls hP hS hl
  unfold fX3_get at hm
  refine lv_iload_n hx hb dX3_get_0 rfl (lv_at hl 1 rfl) ?_
  refine b_if_lt (tgt := 22) S dX3_get_1 (by decide) hm (fun hm => ?_) (fun hm => ?_)
  · refine lv_iconst (v := (0 : Int32)) hx hb dX3_get_22 (by decide) ?_
    exact r_iret S hr hG hP hS hm dX3_get_23
  · refine lv_iload_n hx hb dX3_get_4 rfl (lv_at hl 1 rfl) ?_
    refine lv_aload_n hx hb dX3_get_5 rfl (lv_at hl 0 rfl) ?_
    refine r_getr S hG hP ho clX3 fX3_0 kX3_13 dX3_get_6 ?_
    refine r_alen S hG hP (chX3_0 hG ho) dX3_get_9 ?_
    refine b_icmp_ge (tgt := 22) S dX3_get_10 (by decide) hm (fun hm => ?_) (fun hm => ?_)
    · refine lv_iconst (v := (0 : Int32)) hx hb dX3_get_22 (by decide) ?_
      exact r_iret S hr hG hP hS hm dX3_get_23
    · refine lv_aload_n hx hb dX3_get_13 rfl (lv_at hl 0 rfl) ?_
      refine r_getr S hG hP ho clX3 fX3_0 kX3_13 dX3_get_14 ?_
      refine lv_iload_n hx hb dX3_get_17 rfl (lv_at hl 1 rfl) ?_
      refine r_iald S hG hP (chX3_0 hG ho) hm dX3_get_18 (fun a1 hm => ?_)
      refine lv_goto (tgt := 23) hx hb dX3_get_19 (by decide) ?_
      exact r_iret S hr hG hP hS hm dX3_get_23
theorem tX3_get (l : Launch) (D : va_G) (cI cR : ClassId) (n : Nat) (K L ad : Nat → Nat) {o : Nat} (ho : isk n K o 3) (v1 : Int32) : Ci l yX3_get cX3_get 2 (some .int) (rmL 0) D cI cR n K L ad [.ref (ad o), .int v1] (fX3_get L o v1) := by
  refine Ci.ofW (by decide) (Nat.le_of_ble_eq_true rfl) ?_
  intro μ x hm p e s m args below meth c ls S hr hG hP hS hl
  exact wX3_get_0 S hr hG ho v1 μ hm _ _ ls hP hS hl
-- X3_takeFrom
set_option maxHeartbeats 4000000 in
set_option maxRecDepth 100000 in
theorem wX3_takeFrom_2 (S : CallFix p m c cX3_takeFrom 3 s args TB RX3) (hr : meth.sig.returnType = none ∧ meth.locks = false) (hG : gok D cI cR n K L ad s) {o : Nat} {r1 : Nat} (ho : isk n K o 3) (h1 : isk n K r1 3) {x : Mem} : ∀ (k : Nat) (v2 : Int32) (μ : Mem), fX3_takeFrom_2 L o r1 k v2 μ = some x → WV p l e (rmL 1) s m args below meth c D cI cR n K L ad 3 x μ 2 [(0, .ref (ad o)), (1, .ref (ad r1)), (2, .int v2)] [] := by
  have hx := S.1
  have hb := S.2.1
  intro k
  induction k with
  | zero => intro v2 μ hm; exact absurd (show none = some x from hm) (fun h => by cases h)
  | succ k ih =>
    intro v2 μ hm H locs ls hP hS hl
    have hm : fX3_takeFrom_2_b L o r1 (fX3_takeFrom_2 L o r1 k) v2 μ = some x := hm
    unfold fX3_takeFrom_2_b at hm
    refine lv_iload_n hx hb dX3_takeFrom_2 rfl (lv_at hl 2 rfl) ?_
    refine lv_aload_n hx hb dX3_takeFrom_3 rfl (lv_at hl 0 rfl) ?_
    refine r_getr S hG hP ho clX3 fX3_0 kX3_13 dX3_takeFrom_4 ?_
    refine r_alen S hG hP (chX3_0 hG ho) dX3_takeFrom_7 ?_
    refine b_icmp_ge (tgt := 28) S dX3_takeFrom_8 (by decide) hm (fun hm => ?_) (fun hm => ?_)
    · exact r_vret S hr hG hP hS hm dX3_takeFrom_28
    · refine lv_aload_n hx hb dX3_takeFrom_11 rfl (lv_at hl 0 rfl) ?_
      refine r_getr S hG hP ho clX3 fX3_0 kX3_13 dX3_takeFrom_12 ?_
      refine lv_iload_n hx hb dX3_takeFrom_15 rfl (lv_at hl 2 rfl) ?_
      refine lv_aload_n hx hb dX3_takeFrom_16 rfl (lv_at hl 1 rfl) ?_
      refine lv_iload_n hx hb dX3_takeFrom_17 rfl (lv_at hl 2 rfl) ?_
      refine r_vcalli (As := [.int v2]) (rest := [.int v2, .ref (ad (o + 1))]) S hG hP hS mX3_get kX3_19 clX3 h1 (tX3_get _ _ _ _ _ _ _ _ h1 v2) ⟨rfl, rfl⟩ (rm_ok (by decide) (by decide)) hm hl.1 rfl (Nat.le_of_ble_eq_true rfl) ⟨Nat.zero_le _, Nat.zero_le _⟩ dX3_takeFrom_18 (fun b2 μ1 H locs hm hP hS => ?_)
      refine r_iast S hG hP hS (chX3_0 hG ho) hm dX3_takeFrom_21 (fun μ3 H locs hm hP hS => ?_)
      refine r_iinc (b := (1 : Int32)) (k := 2) S hm dX3_takeFrom_22 hl rfl (by decide) (by decide) (fun a4 ls hm hl => ?_)
      have hl : lv_has ls 3 [(2, .int a4), (0, .ref (ad o)), (1, .ref (ad r1))] := hl
      refine lv_goto (tgt := 2) hx hb dX3_takeFrom_25 (by decide) ?_
      exact ih a4 μ3 hm H locs ls hP hS (lv_sub hl [1, 2, 0] rfl)
set_option maxHeartbeats 4000000 in
set_option maxRecDepth 100000 in
theorem wX3_takeFrom_0 (S : CallFix p m c cX3_takeFrom 3 s args TB RX3) (hr : meth.sig.returnType = none ∧ meth.locks = false) (hG : gok D cI cR n K L ad s) {o : Nat} {r1 : Nat} (ho : isk n K o 3) (h1 : isk n K r1 3) {x : Mem} : ∀ (μ : Mem), fX3_takeFrom L o r1 μ = some x → WV p l e (rmL 1) s m args below meth c D cI cR n K L ad 3 x μ 0 [(0, .ref (ad o)), (1, .ref (ad r1))] [] := by
  have hx := S.1
  have hb := S.2.1
  intro μ hm H locs ls hP hS hl
  unfold fX3_takeFrom at hm
  refine lv_iconst (v := (0 : Int32)) hx hb dX3_takeFrom_0 (by decide) ?_
  refine lv_istore_n (lv' := [(2, .int (0 : Int32)), (0, .ref (ad o)), (1, .ref (ad r1))]) hx hb dX3_takeFrom_1 rfl hl (by decide) rfl (fun ls hl => ?_)
  exact wX3_takeFrom_2 S hr hG ho h1 FU (0 : Int32) μ hm H locs ls hP hS (lv_sub hl [1, 2, 0] rfl)
theorem tX3_takeFrom (l : Launch) (D : va_G) (cI cR : ClassId) (n : Nat) (K L ad : Nat → Nat) {o : Nat} (ho : isk n K o 3) {r1 : Nat} (h1 : isk n K r1 3) : Cv l yX3_takeFrom cX3_takeFrom 3 none (rmL 1) D cI cR n K L ad [.ref (ad o), .ref (ad r1)] (fX3_takeFrom L o r1) := by
  refine Cv.ofW (by decide) (Nat.le_of_ble_eq_true rfl) ?_
  intro μ x hm p e s m args below meth c ls S hr hG hP hS hl
  exact wX3_takeFrom_0 S hr hG ho h1 μ hm _ _ ls hP hS hl
-- X3_set
set_option maxHeartbeats 4000000 in
set_option maxRecDepth 100000 in
theorem wX3_set_0 (S : CallFix p m c cX3_set 3 s args TB RX3) (hr : meth.sig.returnType = none ∧ meth.locks = false) (hG : gok D cI cR n K L ad s) {o : Nat} (ho : isk n K o 3) {x : Mem} : ∀ (v1 v2 : Int32) (μ : Mem), fX3_set L o v1 v2 μ = some x → WV p l e (rmL 0) s m args below meth c D cI cR n K L ad 3 x μ 0 [(0, .ref (ad o)), (1, .int v1), (2, .int v2)] [] := by
  have hx := S.1
  have hb := S.2.1
  intro v1 v2 μ hm H locs ls hP hS hl
  unfold fX3_set at hm
  refine lv_iload_n hx hb dX3_set_0 rfl (lv_at hl 1 rfl) ?_
  refine b_if_lt (tgt := 20) S dX3_set_1 (by decide) hm (fun hm => ?_) (fun hm => ?_)
  · exact r_vret S hr hG hP hS hm dX3_set_20
  · refine lv_iload_n hx hb dX3_set_4 rfl (lv_at hl 1 rfl) ?_
    refine lv_aload_n hx hb dX3_set_5 rfl (lv_at hl 0 rfl) ?_
    refine r_getr S hG hP ho clX3 fX3_0 kX3_13 dX3_set_6 ?_
    refine r_alen S hG hP (chX3_0 hG ho) dX3_set_9 ?_
    refine b_icmp_ge (tgt := 20) S dX3_set_10 (by decide) hm (fun hm => ?_) (fun hm => ?_)
    · exact r_vret S hr hG hP hS hm dX3_set_20
    · refine lv_aload_n hx hb dX3_set_13 rfl (lv_at hl 0 rfl) ?_
      refine r_getr S hG hP ho clX3 fX3_0 kX3_13 dX3_set_14 ?_
      refine lv_iload_n hx hb dX3_set_17 rfl (lv_at hl 1 rfl) ?_
      refine lv_iload_n hx hb dX3_set_18 rfl (lv_at hl 2 rfl) ?_
      refine r_iast S hG hP hS (chX3_0 hG ho) hm dX3_set_19 (fun μ1 H locs hm hP hS => ?_)
      exact r_vret S hr hG hP hS hm dX3_set_20
theorem tX3_set (l : Launch) (D : va_G) (cI cR : ClassId) (n : Nat) (K L ad : Nat → Nat) {o : Nat} (ho : isk n K o 3) (v1 : Int32) (v2 : Int32) : Cv l yX3_set cX3_set 3 none (rmL 0) D cI cR n K L ad [.ref (ad o), .int v1, .int v2] (fX3_set L o v1 v2) := by
  refine Cv.ofW (by decide) (Nat.le_of_ble_eq_true rfl) ?_
  intro μ x hm p e s m args below meth c ls S hr hG hP hS hl
  exact wX3_set_0 S hr hG ho v1 v2 μ hm _ _ ls hP hS hl
-- J6_bitCount_0f7a4
set_option maxHeartbeats 4000000 in
set_option maxRecDepth 100000 in
theorem wJ6_bitCount_0f7a4_0 (S : CallFix p m c cJ6_bitCount_0f7a4 1 s args TB RJ6) (hr : meth.sig.returnType = (some .int) ∧ meth.locks = false) (hG : gok D cI cR n K L ad s) {x : Int32 × Mem} : ∀ (v0 : Int32) (μ : Mem), fJ6_bitCount_0f7a4 L v0 μ = some x → WI p l e (rmL 0) s m args below meth c D cI cR n K L ad 1 x μ 0 [(0, .int v0)] [] := by
  have hx := S.1
  have hb := S.2.1
  intro v0 μ hm H locs ls hP hS hl
  unfold fJ6_bitCount_0f7a4 at hm
  refine lv_iload_n hx hb dJ6_bitCount_0f7a4_0 rfl (lv_at hl 0 rfl) ?_
  refine lv_iload_n hx hb dJ6_bitCount_0f7a4_1 rfl (lv_at hl 0 rfl) ?_
  refine lv_iconst (v := (1 : Int32)) hx hb dJ6_bitCount_0f7a4_2 (by decide) ?_
  refine lv_iushr hx hb dJ6_bitCount_0f7a4_3 rfl ?_
  refine lv_ldcw hx hb S.2.2.2.1 (S.2.2.2.2 _ kJ6_265) dJ6_bitCount_0f7a4_4 ?_
  refine lv_iand hx hb dJ6_bitCount_0f7a4_7 ?_
  refine lv_isub hx hb dJ6_bitCount_0f7a4_8 ?_
  refine r_top hm (fun a1 hm => ?_)
  refine lv_istore_n (lv' := [(0, .int a1)]) hx hb dJ6_bitCount_0f7a4_9 rfl hl (by decide) rfl (fun ls hl => ?_)
  refine lv_iload_n hx hb dJ6_bitCount_0f7a4_10 rfl (lv_at hl 0 rfl) ?_
  refine lv_ldcw hx hb S.2.2.2.1 (S.2.2.2.2 _ kJ6_266) dJ6_bitCount_0f7a4_11 ?_
  refine lv_iand hx hb dJ6_bitCount_0f7a4_14 ?_
  refine lv_iload_n hx hb dJ6_bitCount_0f7a4_15 rfl (lv_at hl 0 rfl) ?_
  refine lv_iconst (v := (2 : Int32)) hx hb dJ6_bitCount_0f7a4_16 (by decide) ?_
  refine lv_iushr hx hb dJ6_bitCount_0f7a4_17 rfl ?_
  refine lv_ldcw hx hb S.2.2.2.1 (S.2.2.2.2 _ kJ6_266) dJ6_bitCount_0f7a4_18 ?_
  refine lv_iand hx hb dJ6_bitCount_0f7a4_21 ?_
  refine lv_iadd hx hb dJ6_bitCount_0f7a4_22 ?_
  refine r_top hm (fun a2 hm => ?_)
  refine lv_istore_n (lv' := [(0, .int a2)]) hx hb dJ6_bitCount_0f7a4_23 rfl hl (by decide) rfl (fun ls hl => ?_)
  refine lv_iload_n hx hb dJ6_bitCount_0f7a4_24 rfl (lv_at hl 0 rfl) ?_
  refine lv_iload_n hx hb dJ6_bitCount_0f7a4_25 rfl (lv_at hl 0 rfl) ?_
  refine lv_iconst (v := (4 : Int32)) hx hb dJ6_bitCount_0f7a4_26 (by decide) ?_
  refine lv_iushr hx hb dJ6_bitCount_0f7a4_27 rfl ?_
  refine lv_iadd hx hb dJ6_bitCount_0f7a4_28 ?_
  refine lv_ldcw hx hb S.2.2.2.1 (S.2.2.2.2 _ kJ6_267) dJ6_bitCount_0f7a4_29 ?_
  refine lv_iand hx hb dJ6_bitCount_0f7a4_32 ?_
  refine r_top hm (fun a3 hm => ?_)
  refine lv_istore_n (lv' := [(0, .int a3)]) hx hb dJ6_bitCount_0f7a4_33 rfl hl (by decide) rfl (fun ls hl => ?_)
  refine lv_iload_n hx hb dJ6_bitCount_0f7a4_34 rfl (lv_at hl 0 rfl) ?_
  refine lv_iload_n hx hb dJ6_bitCount_0f7a4_35 rfl (lv_at hl 0 rfl) ?_
  refine lv_bipush (v := (8 : Int32)) hx hb dJ6_bitCount_0f7a4_36 (by decide) ?_
  refine lv_iushr hx hb dJ6_bitCount_0f7a4_38 rfl ?_
  refine lv_iadd hx hb dJ6_bitCount_0f7a4_39 ?_
  refine r_top hm (fun a4 hm => ?_)
  refine lv_istore_n (lv' := [(0, .int a4)]) hx hb dJ6_bitCount_0f7a4_40 rfl hl (by decide) rfl (fun ls hl => ?_)
  refine lv_iload_n hx hb dJ6_bitCount_0f7a4_41 rfl (lv_at hl 0 rfl) ?_
  refine lv_iload_n hx hb dJ6_bitCount_0f7a4_42 rfl (lv_at hl 0 rfl) ?_
  refine lv_bipush (v := (16 : Int32)) hx hb dJ6_bitCount_0f7a4_43 (by decide) ?_
  refine lv_iushr hx hb dJ6_bitCount_0f7a4_45 rfl ?_
  refine lv_iadd hx hb dJ6_bitCount_0f7a4_46 ?_
  refine r_top hm (fun a5 hm => ?_)
  refine lv_istore_n (lv' := [(0, .int a5)]) hx hb dJ6_bitCount_0f7a4_47 rfl hl (by decide) rfl (fun ls hl => ?_)
  refine lv_iload_n hx hb dJ6_bitCount_0f7a4_48 rfl (lv_at hl 0 rfl) ?_
  refine lv_bipush (v := (63 : Int32)) hx hb dJ6_bitCount_0f7a4_49 (by decide) ?_
  refine lv_iand hx hb dJ6_bitCount_0f7a4_51 ?_
  exact r_iret S hr hG hP hS hm dJ6_bitCount_0f7a4_52
theorem tJ6_bitCount_0f7a4 (l : Launch) (D : va_G) (cI cR : ClassId) (n : Nat) (K L ad : Nat → Nat) (v0 : Int32) : Ci l yJ6_bitCount_0f7a4 cJ6_bitCount_0f7a4 1 (some .int) (rmL 0) D cI cR n K L ad [.int v0] (fJ6_bitCount_0f7a4 L v0) := by
  refine Ci.ofW (by decide) (Nat.le_of_ble_eq_true rfl) ?_
  intro μ x hm p e s m args below meth c ls S hr hG hP hS hl
  exact wJ6_bitCount_0f7a4_0 S hr hG v0 μ hm _ _ ls hP hS hl
-- X3_isLike
set_option maxHeartbeats 4000000 in
set_option maxRecDepth 100000 in
theorem wX3_isLike_2 (S : CallFix p m c cX3_isLike 3 s args TB RX3) (hr : meth.sig.returnType = (some .boolean) ∧ meth.locks = false) (hG : gok D cI cR n K L ad s) {o : Nat} {r1 : Nat} (ho : isk n K o 3) (h1 : isk n K r1 3) {x : Int32 × Mem} : ∀ (k : Nat) (v2 : Int32) (μ : Mem), fX3_isLike_2 L o r1 k v2 μ = some x → WI p l e (rmL 1) s m args below meth c D cI cR n K L ad 3 x μ 2 [(0, .ref (ad o)), (1, .ref (ad r1)), (2, .int v2)] [] := by
  have hx := S.1
  have hb := S.2.1
  intro k
  induction k with
  | zero => intro v2 μ hm; exact absurd (show none = some x from hm) (fun h => by cases h)
  | succ k ih =>
    intro v2 μ hm H locs ls hP hS hl
    have hm : fX3_isLike_2_b L o r1 (fX3_isLike_2 L o r1 k) v2 μ = some x := hm
    unfold fX3_isLike_2_b at hm
    refine lv_iload_n hx hb dX3_isLike_2 rfl (lv_at hl 2 rfl) ?_
    refine lv_aload_n hx hb dX3_isLike_3 rfl (lv_at hl 0 rfl) ?_
    refine r_getr S hG hP ho clX3 fX3_0 kX3_13 dX3_isLike_4 ?_
    refine r_alen S hG hP (chX3_0 hG ho) dX3_isLike_7 ?_
    refine b_icmp_ge (tgt := 33) S dX3_isLike_8 (by decide) hm (fun hm => ?_) (fun hm => ?_)
    · refine lv_iconst (v := (1 : Int32)) hx hb dX3_isLike_33 (by decide) ?_
      exact r_zretC S hr hG hP hS rfl hm dX3_isLike_34
    · refine lv_aload_n hx hb dX3_isLike_11 rfl (lv_at hl 0 rfl) ?_
      refine r_getr S hG hP ho clX3 fX3_0 kX3_13 dX3_isLike_12 ?_
      refine lv_iload_n hx hb dX3_isLike_15 rfl (lv_at hl 2 rfl) ?_
      refine r_iald S hG hP (chX3_0 hG ho) hm dX3_isLike_16 (fun a1 hm => ?_)
      refine lv_aload_n hx hb dX3_isLike_17 rfl (lv_at hl 1 rfl) ?_
      refine lv_iload_n hx hb dX3_isLike_18 rfl (lv_at hl 2 rfl) ?_
      refine r_vcalli (As := [.int v2]) (rest := [.int a1]) S hG hP hS mX3_get kX3_19 clX3 h1 (tX3_get _ _ _ _ _ _ _ _ h1 v2) ⟨rfl, rfl⟩ (rm_ok (by decide) (by decide)) hm hl.1 rfl (Nat.le_of_ble_eq_true rfl) ⟨Nat.zero_le _, Nat.zero_le _⟩ dX3_isLike_19 (fun b3 μ2 H locs hm hP hS => ?_)
      refine b_icmp_eq (tgt := 27) S dX3_isLike_22 (by decide) hm (fun hm => ?_) (fun hm => ?_)
      · refine r_iinc (b := (1 : Int32)) (k := 2) S hm dX3_isLike_27 hl rfl (by decide) (by decide) (fun a4 ls hm hl => ?_)
        have hl : lv_has ls 3 [(2, .int a4), (0, .ref (ad o)), (1, .ref (ad r1))] := hl
        refine lv_goto (tgt := 2) hx hb dX3_isLike_30 (by decide) ?_
        exact ih a4 μ2 hm H locs ls hP hS (lv_sub hl [1, 2, 0] rfl)
      · refine lv_iconst (v := (0 : Int32)) hx hb dX3_isLike_25 (by decide) ?_
        exact r_zretC S hr hG hP hS rfl hm dX3_isLike_26
set_option maxHeartbeats 4000000 in
set_option maxRecDepth 100000 in
theorem wX3_isLike_0 (S : CallFix p m c cX3_isLike 3 s args TB RX3) (hr : meth.sig.returnType = (some .boolean) ∧ meth.locks = false) (hG : gok D cI cR n K L ad s) {o : Nat} {r1 : Nat} (ho : isk n K o 3) (h1 : isk n K r1 3) {x : Int32 × Mem} : ∀ (μ : Mem), fX3_isLike L o r1 μ = some x → WI p l e (rmL 1) s m args below meth c D cI cR n K L ad 3 x μ 0 [(0, .ref (ad o)), (1, .ref (ad r1))] [] := by
  have hx := S.1
  have hb := S.2.1
  intro μ hm H locs ls hP hS hl
  unfold fX3_isLike at hm
  refine lv_iconst (v := (0 : Int32)) hx hb dX3_isLike_0 (by decide) ?_
  refine lv_istore_n (lv' := [(2, .int (0 : Int32)), (0, .ref (ad o)), (1, .ref (ad r1))]) hx hb dX3_isLike_1 rfl hl (by decide) rfl (fun ls hl => ?_)
  exact wX3_isLike_2 S hr hG ho h1 FU (0 : Int32) μ hm H locs ls hP hS (lv_sub hl [1, 2, 0] rfl)
theorem tX3_isLike (l : Launch) (D : va_G) (cI cR : ClassId) (n : Nat) (K L ad : Nat → Nat) {o : Nat} (ho : isk n K o 3) {r1 : Nat} (h1 : isk n K r1 3) : Ci l yX3_isLike cX3_isLike 3 (some .boolean) (rmL 1) D cI cR n K L ad [.ref (ad o), .ref (ad r1)] (fX3_isLike L o r1) := by
  refine Ci.ofW (by decide) (Nat.le_of_ble_eq_true rfl) ?_
  intro μ x hm p e s m args below meth c ls S hr hG hP hS hl
  exact wX3_isLike_0 S hr hG ho h1 μ hm _ _ ls hP hS hl
end WALKA
end
