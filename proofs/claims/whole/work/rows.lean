section
-- ===== PART A: goes FIRST, ahead of the names: the tables' words, and 'selects' of the private methods out of them =====
/-- a private method of a class that the tables say can be made, by its rows of tables_1 -/
def lw_okq (q : MethodName × Nat) : Prop := (q.1.cls ≠ "java/lang/invoke/MethodHandle" ∧ q.1.cls ≠ "java/lang/invoke/VarHandle") ∧ Cond.instantiable q.1.cls q.2 ∈ tables_1 ∧ Cond.privateMethod q.1 ∈ tables_1 ∧ Cond.instanceMethod q.1 ∈ tables_1
theorem lw_p0 : lw_okq (⟨"RecursionSchemes$Text", "readItem", "(LRecursionSchemes$Scheme;LRecursionSchemes$Term;)Z"⟩, 3) := ⟨⟨by decide +kernel, by decide +kernel⟩, List.mem_of_getElem? (i := 27) (by decide +kernel), List.mem_of_getElem? (i := 238) (by decide +kernel), List.mem_of_getElem? (i := 239) (by decide +kernel)⟩
theorem lw_p1 : lw_okq (⟨"RecursionSchemes$Text", "symbolHere", "()I"⟩, 3) := ⟨⟨by decide +kernel, by decide +kernel⟩, List.mem_of_getElem? (i := 27) (by decide +kernel), List.mem_of_getElem? (i := 242) (by decide +kernel), List.mem_of_getElem? (i := 243) (by decide +kernel)⟩
theorem lw_p2 : lw_okq (⟨"RecursionSchemes$Text", "characterHere", "()I"⟩, 3) := ⟨⟨by decide +kernel, by decide +kernel⟩, List.mem_of_getElem? (i := 27) (by decide +kernel), List.mem_of_getElem? (i := 246) (by decide +kernel), List.mem_of_getElem? (i := 247) (by decide +kernel)⟩
theorem lw_p3 : lw_okq (⟨"RecursionSchemes$Text", "readRule", "(ILRecursionSchemes$Scheme;LRecursionSchemes$Term;)Z"⟩, 3) := ⟨⟨by decide +kernel, by decide +kernel⟩, List.mem_of_getElem? (i := 27) (by decide +kernel), List.mem_of_getElem? (i := 338) (by decide +kernel), List.mem_of_getElem? (i := 339) (by decide +kernel)⟩
theorem lw_p4 : lw_okq (⟨"RecursionSchemes$Text", "skip", "(I)Z"⟩, 3) := ⟨⟨by decide +kernel, by decide +kernel⟩, List.mem_of_getElem? (i := 27) (by decide +kernel), List.mem_of_getElem? (i := 342) (by decide +kernel), List.mem_of_getElem? (i := 343) (by decide +kernel)⟩
theorem lw_p5 : lw_okq (⟨"RecursionSchemes$Text", "readBody", "(ILRecursionSchemes$Term;)Z"⟩, 3) := ⟨⟨by decide +kernel, by decide +kernel⟩, List.mem_of_getElem? (i := 27) (by decide +kernel), List.mem_of_getElem? (i := 346) (by decide +kernel), List.mem_of_getElem? (i := 347) (by decide +kernel)⟩
theorem lw_p6 : lw_okq (⟨"RecursionSchemes$Text", "stateHere", "()I"⟩, 3) := ⟨⟨by decide +kernel, by decide +kernel⟩, List.mem_of_getElem? (i := 27) (by decide +kernel), List.mem_of_getElem? (i := 375) (by decide +kernel), List.mem_of_getElem? (i := 376) (by decide +kernel)⟩
theorem lw_p7 : lw_okq (⟨"RecursionSchemes$Text", "readTransition", "(ILRecursionSchemes$Scheme;)Z"⟩, 3) := ⟨⟨by decide +kernel, by decide +kernel⟩, List.mem_of_getElem? (i := 27) (by decide +kernel), List.mem_of_getElem? (i := 382) (by decide +kernel), List.mem_of_getElem? (i := 383) (by decide +kernel)⟩
theorem lw_p8 : lw_okq (⟨"RecursionSchemes$Tree", "evaluate", "(LRecursionSchemes$Term;)I"⟩, 7) := ⟨⟨by decide +kernel, by decide +kernel⟩, List.mem_of_getElem? (i := 96) (by decide +kernel), List.mem_of_getElem? (i := 585) (by decide +kernel), List.mem_of_getElem? (i := 586) (by decide +kernel)⟩
theorem lw_p9 : lw_okq (⟨"RecursionSchemes$Tree", "runAutomaton", "()V"⟩, 7) := ⟨⟨by decide +kernel, by decide +kernel⟩, List.mem_of_getElem? (i := 96) (by decide +kernel), List.mem_of_getElem? (i := 599) (by decide +kernel), List.mem_of_getElem? (i := 600) (by decide +kernel)⟩
theorem lw_p10 : lw_okq (⟨"RecursionSchemes$Tree", "exists", "(I)Z"⟩, 7) := ⟨⟨by decide +kernel, by decide +kernel⟩, List.mem_of_getElem? (i := 96) (by decide +kernel), List.mem_of_getElem? (i := 610) (by decide +kernel), List.mem_of_getElem? (i := 611) (by decide +kernel)⟩
theorem lw_p11 : lw_okq (⟨"RecursionSchemes$Tree", "isWrong", "(I)Z"⟩, 7) := ⟨⟨by decide +kernel, by decide +kernel⟩, List.mem_of_getElem? (i := 96) (by decide +kernel), List.mem_of_getElem? (i := 650) (by decide +kernel), List.mem_of_getElem? (i := 651) (by decide +kernel)⟩
theorem lw_p12 : lw_okq (⟨"RecursionSchemes$TypeCheck", "start", "()V"⟩, 6) := ⟨⟨by decide +kernel, by decide +kernel⟩, List.mem_of_getElem? (i := 126) (by decide +kernel), List.mem_of_getElem? (i := 666) (by decide +kernel), List.mem_of_getElem? (i := 667) (by decide +kernel)⟩
theorem lw_p13 : lw_okq (⟨"RecursionSchemes$TypeCheck", "terminalTypes", "(II)I"⟩, 6) := ⟨⟨by decide +kernel, by decide +kernel⟩, List.mem_of_getElem? (i := 126) (by decide +kernel), List.mem_of_getElem? (i := 670) (by decide +kernel), List.mem_of_getElem? (i := 671) (by decide +kernel)⟩
theorem lw_p14 : lw_okq (⟨"RecursionSchemes$TypeCheck", "removeUnjustified", "()Z"⟩, 6) := ⟨⟨by decide +kernel, by decide +kernel⟩, List.mem_of_getElem? (i := 126) (by decide +kernel), List.mem_of_getElem? (i := 686) (by decide +kernel), List.mem_of_getElem? (i := 687) (by decide +kernel)⟩
theorem lw_p15 : lw_okq (⟨"RecursionSchemes$TypeCheck", "bodyTypes", "(LRecursionSchemes$Term;I)I"⟩, 6) := ⟨⟨by decide +kernel, by decide +kernel⟩, List.mem_of_getElem? (i := 126) (by decide +kernel), List.mem_of_getElem? (i := 697) (by decide +kernel), List.mem_of_getElem? (i := 698) (by decide +kernel)⟩
def lw_privs_1 : List (MethodName × Nat) := [(⟨"RecursionSchemes$Text", "readItem", "(LRecursionSchemes$Scheme;LRecursionSchemes$Term;)Z"⟩, 3), (⟨"RecursionSchemes$Text", "symbolHere", "()I"⟩, 3), (⟨"RecursionSchemes$Text", "characterHere", "()I"⟩, 3), (⟨"RecursionSchemes$Text", "readRule", "(ILRecursionSchemes$Scheme;LRecursionSchemes$Term;)Z"⟩, 3), (⟨"RecursionSchemes$Text", "skip", "(I)Z"⟩, 3), (⟨"RecursionSchemes$Text", "readBody", "(ILRecursionSchemes$Term;)Z"⟩, 3), (⟨"RecursionSchemes$Text", "stateHere", "()I"⟩, 3), (⟨"RecursionSchemes$Text", "readTransition", "(ILRecursionSchemes$Scheme;)Z"⟩, 3), (⟨"RecursionSchemes$Tree", "evaluate", "(LRecursionSchemes$Term;)I"⟩, 7), (⟨"RecursionSchemes$Tree", "runAutomaton", "()V"⟩, 7), (⟨"RecursionSchemes$Tree", "exists", "(I)Z"⟩, 7), (⟨"RecursionSchemes$Tree", "isWrong", "(I)Z"⟩, 7), (⟨"RecursionSchemes$TypeCheck", "start", "()V"⟩, 6), (⟨"RecursionSchemes$TypeCheck", "terminalTypes", "(II)I"⟩, 6), (⟨"RecursionSchemes$TypeCheck", "removeUnjustified", "()Z"⟩, 6), (⟨"RecursionSchemes$TypeCheck", "bodyTypes", "(LRecursionSchemes$Term;I)I"⟩, 6)]
theorem lw_r1 : ∀ q ∈ lw_privs_1, lw_okq q := List.forall_mem_cons.mpr ⟨lw_p0, List.forall_mem_cons.mpr ⟨lw_p1, List.forall_mem_cons.mpr ⟨lw_p2, List.forall_mem_cons.mpr ⟨lw_p3, List.forall_mem_cons.mpr ⟨lw_p4, List.forall_mem_cons.mpr ⟨lw_p5, List.forall_mem_cons.mpr ⟨lw_p6, List.forall_mem_cons.mpr ⟨lw_p7, List.forall_mem_cons.mpr ⟨lw_p8, List.forall_mem_cons.mpr ⟨lw_p9, List.forall_mem_cons.mpr ⟨lw_p10, List.forall_mem_cons.mpr ⟨lw_p11, List.forall_mem_cons.mpr ⟨lw_p12, List.forall_mem_cons.mpr ⟨lw_p13, List.forall_mem_cons.mpr ⟨lw_p14, List.forall_mem_cons.mpr ⟨lw_p15, fun _ h => absurd h List.not_mem_nil⟩⟩⟩⟩⟩⟩⟩⟩⟩⟩⟩⟩⟩⟩⟩⟩
theorem lw_p16 : lw_okq (⟨"RecursionSchemes$TypeCheck", "symbolTypes", "(III)I"⟩, 6) := ⟨⟨by decide +kernel, by decide +kernel⟩, List.mem_of_getElem? (i := 126) (by decide +kernel), List.mem_of_getElem? (i := 706) (by decide +kernel), List.mem_of_getElem? (i := 707) (by decide +kernel)⟩
theorem lw_p17 : lw_okq (⟨"RecursionSchemes", "commandSucceeds", "(I)Z"⟩, 11) := ⟨⟨by decide +kernel, by decide +kernel⟩, List.mem_of_getElem? (i := 19) (by decide +kernel), List.mem_of_getElem? (i := 767) (by decide +kernel), List.mem_of_getElem? (i := 768) (by decide +kernel)⟩
theorem lw_p18 : lw_okq (⟨"RecursionSchemes", "removeFromCopy", "(II)Z"⟩, 11) := ⟨⟨by decide +kernel, by decide +kernel⟩, List.mem_of_getElem? (i := 19) (by decide +kernel), List.mem_of_getElem? (i := 771) (by decide +kernel), List.mem_of_getElem? (i := 772) (by decide +kernel)⟩
theorem lw_p19 : lw_okq (⟨"RecursionSchemes", "setBInCopy", "(II)Z"⟩, 11) := ⟨⟨by decide +kernel, by decide +kernel⟩, List.mem_of_getElem? (i := 19) (by decide +kernel), List.mem_of_getElem? (i := 775) (by decide +kernel), List.mem_of_getElem? (i := 776) (by decide +kernel)⟩
theorem lw_p20 : lw_okq (⟨"RecursionSchemesModel", "readText", "()I"⟩, 20) := ⟨⟨by decide +kernel, by decide +kernel⟩, List.mem_of_getElem? (i := 797) (by decide +kernel), List.mem_of_getElem? (i := 883) (by decide +kernel), List.mem_of_getElem? (i := 884) (by decide +kernel)⟩
theorem lw_p21 : lw_okq (⟨"RecursionSchemesModel", "readItem", "(I)I"⟩, 20) := ⟨⟨by decide +kernel, by decide +kernel⟩, List.mem_of_getElem? (i := 797) (by decide +kernel), List.mem_of_getElem? (i := 887) (by decide +kernel), List.mem_of_getElem? (i := 888) (by decide +kernel)⟩
theorem lw_p22 : lw_okq (⟨"RecursionSchemesModel", "readBody", "(II)I"⟩, 20) := ⟨⟨by decide +kernel, by decide +kernel⟩, List.mem_of_getElem? (i := 797) (by decide +kernel), List.mem_of_getElem? (i := 896) (by decide +kernel), List.mem_of_getElem? (i := 897) (by decide +kernel)⟩
theorem lw_p23 : lw_okq (⟨"RecursionSchemesModel", "readStep", "(I)I"⟩, 20) := ⟨⟨by decide +kernel, by decide +kernel⟩, List.mem_of_getElem? (i := 797) (by decide +kernel), List.mem_of_getElem? (i := 919) (by decide +kernel), List.mem_of_getElem? (i := 920) (by decide +kernel)⟩
theorem lw_p24 : lw_okq (⟨"RecursionSchemesModel", "note", "()V"⟩, 20) := ⟨⟨by decide +kernel, by decide +kernel⟩, List.mem_of_getElem? (i := 797) (by decide +kernel), List.mem_of_getElem? (i := 968) (by decide +kernel), List.mem_of_getElem? (i := 969) (by decide +kernel)⟩
theorem lw_p25 : lw_okq (⟨"RecursionSchemesModel", "putPart", "([III)V"⟩, 20) := ⟨⟨by decide +kernel, by decide +kernel⟩, List.mem_of_getElem? (i := 797) (by decide +kernel), List.mem_of_getElem? (i := 987) (by decide +kernel), List.mem_of_getElem? (i := 988) (by decide +kernel)⟩
theorem lw_p26 : lw_okq (⟨"RecursionSchemesModel", "put", "(I)V"⟩, 20) := ⟨⟨by decide +kernel, by decide +kernel⟩, List.mem_of_getElem? (i := 797) (by decide +kernel), List.mem_of_getElem? (i := 991) (by decide +kernel), List.mem_of_getElem? (i := 992) (by decide +kernel)⟩
theorem lw_p27 : lw_okq (⟨"RecursionSchemesModel", "putExpanded", "([I[II)I"⟩, 20) := ⟨⟨by decide +kernel, by decide +kernel⟩, List.mem_of_getElem? (i := 797) (by decide +kernel), List.mem_of_getElem? (i := 995) (by decide +kernel), List.mem_of_getElem? (i := 996) (by decide +kernel)⟩
theorem lw_p28 : lw_okq (⟨"RecursionSchemesModel", "walk", "([III)Z"⟩, 20) := ⟨⟨by decide +kernel, by decide +kernel⟩, List.mem_of_getElem? (i := 797) (by decide +kernel), List.mem_of_getElem? (i := 1017) (by decide +kernel), List.mem_of_getElem? (i := 1018) (by decide +kernel)⟩
theorem lw_p29 : lw_okq (⟨"RecursionSchemesModel", "beginWalk", "([I)V"⟩, 20) := ⟨⟨by decide +kernel, by decide +kernel⟩, List.mem_of_getElem? (i := 797) (by decide +kernel), List.mem_of_getElem? (i := 1021) (by decide +kernel), List.mem_of_getElem? (i := 1022) (by decide +kernel)⟩
theorem lw_p30 : lw_okq (⟨"RecursionSchemesModel", "evaluate", "([I)V"⟩, 20) := ⟨⟨by decide +kernel, by decide +kernel⟩, List.mem_of_getElem? (i := 797) (by decide +kernel), List.mem_of_getElem? (i := 1025) (by decide +kernel), List.mem_of_getElem? (i := 1026) (by decide +kernel)⟩
theorem lw_p31 : lw_okq (⟨"RecursionSchemesModel", "goDown", "([II)Z"⟩, 20) := ⟨⟨by decide +kernel, by decide +kernel⟩, List.mem_of_getElem? (i := 797) (by decide +kernel), List.mem_of_getElem? (i := 1032) (by decide +kernel), List.mem_of_getElem? (i := 1033) (by decide +kernel)⟩
def lw_privs_2 : List (MethodName × Nat) := [(⟨"RecursionSchemes$TypeCheck", "symbolTypes", "(III)I"⟩, 6), (⟨"RecursionSchemes", "commandSucceeds", "(I)Z"⟩, 11), (⟨"RecursionSchemes", "removeFromCopy", "(II)Z"⟩, 11), (⟨"RecursionSchemes", "setBInCopy", "(II)Z"⟩, 11), (⟨"RecursionSchemesModel", "readText", "()I"⟩, 20), (⟨"RecursionSchemesModel", "readItem", "(I)I"⟩, 20), (⟨"RecursionSchemesModel", "readBody", "(II)I"⟩, 20), (⟨"RecursionSchemesModel", "readStep", "(I)I"⟩, 20), (⟨"RecursionSchemesModel", "note", "()V"⟩, 20), (⟨"RecursionSchemesModel", "putPart", "([III)V"⟩, 20), (⟨"RecursionSchemesModel", "put", "(I)V"⟩, 20), (⟨"RecursionSchemesModel", "putExpanded", "([I[II)I"⟩, 20), (⟨"RecursionSchemesModel", "walk", "([III)Z"⟩, 20), (⟨"RecursionSchemesModel", "beginWalk", "([I)V"⟩, 20), (⟨"RecursionSchemesModel", "evaluate", "([I)V"⟩, 20), (⟨"RecursionSchemesModel", "goDown", "([II)Z"⟩, 20)]
theorem lw_r2 : ∀ q ∈ lw_privs_2, lw_okq q := List.forall_mem_cons.mpr ⟨lw_p16, List.forall_mem_cons.mpr ⟨lw_p17, List.forall_mem_cons.mpr ⟨lw_p18, List.forall_mem_cons.mpr ⟨lw_p19, List.forall_mem_cons.mpr ⟨lw_p20, List.forall_mem_cons.mpr ⟨lw_p21, List.forall_mem_cons.mpr ⟨lw_p22, List.forall_mem_cons.mpr ⟨lw_p23, List.forall_mem_cons.mpr ⟨lw_p24, List.forall_mem_cons.mpr ⟨lw_p25, List.forall_mem_cons.mpr ⟨lw_p26, List.forall_mem_cons.mpr ⟨lw_p27, List.forall_mem_cons.mpr ⟨lw_p28, List.forall_mem_cons.mpr ⟨lw_p29, List.forall_mem_cons.mpr ⟨lw_p30, List.forall_mem_cons.mpr ⟨lw_p31, fun _ h => absurd h List.not_mem_nil⟩⟩⟩⟩⟩⟩⟩⟩⟩⟩⟩⟩⟩⟩⟩⟩
theorem lw_p32 : lw_okq (⟨"RecursionSchemesModel", "childrenOf", "(I)I"⟩, 20) := ⟨⟨by decide +kernel, by decide +kernel⟩, List.mem_of_getElem? (i := 797) (by decide +kernel), List.mem_of_getElem? (i := 1036) (by decide +kernel), List.mem_of_getElem? (i := 1037) (by decide +kernel)⟩
theorem lw_p33 : lw_okq (⟨"RecursionSchemesModel", "nodesOf", "([II)I"⟩, 20) := ⟨⟨by decide +kernel, by decide +kernel⟩, List.mem_of_getElem? (i := 797) (by decide +kernel), List.mem_of_getElem? (i := 1053) (by decide +kernel), List.mem_of_getElem? (i := 1054) (by decide +kernel)⟩
theorem lw_p34 : lw_okq (⟨"RecursionSchemesModel", "isAccepted", "([I)Z"⟩, 20) := ⟨⟨by decide +kernel, by decide +kernel⟩, List.mem_of_getElem? (i := 797) (by decide +kernel), List.mem_of_getElem? (i := 1068) (by decide +kernel), List.mem_of_getElem? (i := 1069) (by decide +kernel)⟩
theorem lw_p35 : lw_okq (⟨"RecursionSchemesModel", "check", "([I)I"⟩, 20) := ⟨⟨by decide +kernel, by decide +kernel⟩, List.mem_of_getElem? (i := 797) (by decide +kernel), List.mem_of_getElem? (i := 1072) (by decide +kernel), List.mem_of_getElem? (i := 1073) (by decide +kernel)⟩
theorem lw_p36 : lw_okq (⟨"RecursionSchemesModel", "isRoundLess", "([I)Z"⟩, 20) := ⟨⟨by decide +kernel, by decide +kernel⟩, List.mem_of_getElem? (i := 797) (by decide +kernel), List.mem_of_getElem? (i := 1076) (by decide +kernel), List.mem_of_getElem? (i := 1077) (by decide +kernel)⟩
theorem lw_p37 : lw_okq (⟨"RecursionSchemesModel", "bodyTypes", "([IIII)I"⟩, 20) := ⟨⟨by decide +kernel, by decide +kernel⟩, List.mem_of_getElem? (i := 797) (by decide +kernel), List.mem_of_getElem? (i := 1080) (by decide +kernel), List.mem_of_getElem? (i := 1081) (by decide +kernel)⟩
theorem lw_p38 : lw_okq (⟨"RecursionSchemesModel", "terminalTypes", "([IIII)I"⟩, 20) := ⟨⟨by decide +kernel, by decide +kernel⟩, List.mem_of_getElem? (i := 797) (by decide +kernel), List.mem_of_getElem? (i := 1084) (by decide +kernel), List.mem_of_getElem? (i := 1085) (by decide +kernel)⟩
theorem lw_p39 : lw_okq (⟨"RecursionSchemesModel", "appliedTypes", "(III)I"⟩, 20) := ⟨⟨by decide +kernel, by decide +kernel⟩, List.mem_of_getElem? (i := 797) (by decide +kernel), List.mem_of_getElem? (i := 1088) (by decide +kernel), List.mem_of_getElem? (i := 1089) (by decide +kernel)⟩
theorem lw_p40 : lw_okq (⟨"RecursionSchemesModel", "typingsOf", "([II)I"⟩, 20) := ⟨⟨by decide +kernel, by decide +kernel⟩, List.mem_of_getElem? (i := 797) (by decide +kernel), List.mem_of_getElem? (i := 1103) (by decide +kernel), List.mem_of_getElem? (i := 1104) (by decide +kernel)⟩
theorem lw_p41 : lw_okq (⟨"RecursionSchemesModel", "command", "(IIII)Z"⟩, 20) := ⟨⟨by decide +kernel, by decide +kernel⟩, List.mem_of_getElem? (i := 797) (by decide +kernel), List.mem_of_getElem? (i := 1125) (by decide +kernel), List.mem_of_getElem? (i := 1126) (by decide +kernel)⟩
def lw_privs_3 : List (MethodName × Nat) := [(⟨"RecursionSchemesModel", "childrenOf", "(I)I"⟩, 20), (⟨"RecursionSchemesModel", "nodesOf", "([II)I"⟩, 20), (⟨"RecursionSchemesModel", "isAccepted", "([I)Z"⟩, 20), (⟨"RecursionSchemesModel", "check", "([I)I"⟩, 20), (⟨"RecursionSchemesModel", "isRoundLess", "([I)Z"⟩, 20), (⟨"RecursionSchemesModel", "bodyTypes", "([IIII)I"⟩, 20), (⟨"RecursionSchemesModel", "terminalTypes", "([IIII)I"⟩, 20), (⟨"RecursionSchemesModel", "appliedTypes", "(III)I"⟩, 20), (⟨"RecursionSchemesModel", "typingsOf", "([II)I"⟩, 20), (⟨"RecursionSchemesModel", "command", "(IIII)Z"⟩, 20)]
theorem lw_r3 : ∀ q ∈ lw_privs_3, lw_okq q := List.forall_mem_cons.mpr ⟨lw_p32, List.forall_mem_cons.mpr ⟨lw_p33, List.forall_mem_cons.mpr ⟨lw_p34, List.forall_mem_cons.mpr ⟨lw_p35, List.forall_mem_cons.mpr ⟨lw_p36, List.forall_mem_cons.mpr ⟨lw_p37, List.forall_mem_cons.mpr ⟨lw_p38, List.forall_mem_cons.mpr ⟨lw_p39, List.forall_mem_cons.mpr ⟨lw_p40, List.forall_mem_cons.mpr ⟨lw_p41, fun _ h => absurd h List.not_mem_nil⟩⟩⟩⟩⟩⟩⟩⟩⟩⟩
def lw_privs : List (MethodName × Nat) := lw_privs_1 ++ (lw_privs_2 ++ (lw_privs_3))
def lw_tbl : List Cond := k2_sels lw_privs ++ tables_1
theorem lw_privs_ok : ∀ q ∈ lw_privs, lw_okq q := by
  show ∀ q ∈ lw_privs_1 ++ (lw_privs_2 ++ (lw_privs_3)), lw_okq q
  exact List.forall_mem_append.mpr ⟨lw_r1, List.forall_mem_append.mpr ⟨lw_r2, lw_r3⟩⟩
end
section
def RX0 : String := "RecursionSchemes$History"
def TX0 : u_T := fun k => match k with
  | 0 => ("RecursionSchemes$History", "states", "[LRecursionSchemes$Scheme;", true)
  | 1 => ("RecursionSchemes$History", "next", "I", false)
  | _ => ("RecursionSchemes$History", "count", "I", false)
def tyX0 : Nat → FieldType := fun k => match k with
  | 0 => .array (.object "RecursionSchemes$Scheme")
  | 1 => .int
  | _ => .int
abbrev wsX00 : List Cond := u_ws RX0 TX0 3
theorem nmX0 : ∀ a, a < 3 → ∀ b, b < 3 → a ≠ b → (TX0 a).2.1 ≠ (TX0 b).2.1 := by decide +kernel
theorem tyX0_ok : ∀ k, k < 3 → parseFieldDescriptor (TX0 k).2.2.1 = some (tyX0 k) := by decide +kernel
abbrev cX0_init : ByteArray := prog_2_method_1_code
def yX0_init : MethodName := ⟨RX0, "<init>", "()V"⟩
abbrev cX0_size : ByteArray := prog_2_method_2_code
def yX0_size : MethodName := ⟨RX0, "size", "()I"⟩
abbrev cX0_forget : ByteArray := prog_2_method_3_code
def yX0_forget : MethodName := ⟨RX0, "forget", "()V"⟩
abbrev cX0_remember : ByteArray := prog_2_method_4_code
def yX0_remember : MethodName := ⟨RX0, "remember", "(LRecursionSchemes$Scheme;)V"⟩
abbrev cX0_takeBack : ByteArray := prog_2_method_5_code
def yX0_takeBack : MethodName := ⟨RX0, "takeBack", "(LRecursionSchemes$Scheme;)Z"⟩
def RX1 : String := "RecursionSchemes$Scheme"
def TX1 : u_T := fun k => match k with
  | 0 => ("RecursionSchemes$Scheme", "bodies", "[LRecursionSchemes$Term;", true)
  | 1 => ("RecursionSchemes$Scheme", "firstTargets", "[I", true)
  | 2 => ("RecursionSchemes$Scheme", "secondTargets", "[I", true)
  | _ => ("RecursionSchemes$Scheme", "edits", "I", false)
def tyX1 : Nat → FieldType := fun k => match k with
  | 0 => .array (.object "RecursionSchemes$Term")
  | 1 => .array .int
  | 2 => .array .int
  | _ => .int
abbrev wsX10 : List Cond := u_ws RX1 TX1 4
theorem nmX1 : ∀ a, a < 4 → ∀ b, b < 4 → a ≠ b → (TX1 a).2.1 ≠ (TX1 b).2.1 := by decide +kernel
theorem tyX1_ok : ∀ k, k < 4 → parseFieldDescriptor (TX1 k).2.2.1 = some (tyX1 k) := by decide +kernel
abbrev cX1_init : ByteArray := prog_3_method_1_code
def yX1_init : MethodName := ⟨RX1, "<init>", "()V"⟩
abbrev cX1_edits : ByteArray := prog_3_method_2_code
def yX1_edits : MethodName := ⟨RX1, "edits", "()I"⟩
abbrev cX1_reset : ByteArray := prog_3_method_3_code
def yX1_reset : MethodName := ⟨RX1, "reset", "()V"⟩
abbrev cX1_become : ByteArray := prog_3_method_4_code
def yX1_become : MethodName := ⟨RX1, "become", "(LRecursionSchemes$Scheme;)V"⟩
abbrev cX1_body : ByteArray := prog_3_method_5_code
def yX1_body : MethodName := ⟨RX1, "body", "(I)LRecursionSchemes$Term;"⟩
abbrev cX1_changeBody : ByteArray := prog_3_method_6_code
def yX1_changeBody : MethodName := ⟨RX1, "changeBody", "(ILRecursionSchemes$Term;)V"⟩
abbrev cX1_swapFAndG : ByteArray := prog_3_method_7_code
def yX1_swapFAndG : MethodName := ⟨RX1, "swapFAndG", "()I"⟩
abbrev cX1_canRead : ByteArray := prog_3_method_8_code
def yX1_canRead : MethodName := ⟨RX1, "canRead", "(II)Z"⟩
abbrev cX1_target : ByteArray := prog_3_method_9_code
def yX1_target : MethodName := ⟨RX1, "target", "(III)I"⟩
abbrev cX1_putTransition : ByteArray := prog_3_method_10_code
def yX1_putTransition : MethodName := ⟨RX1, "putTransition", "(IIII)V"⟩
abbrev cX1_dropTransition : ByteArray := prog_3_method_11_code
def yX1_dropTransition : MethodName := ⟨RX1, "dropTransition", "(II)V"⟩
abbrev cX1_transitionCount : ByteArray := prog_3_method_12_code
def yX1_transitionCount : MethodName := ⟨RX1, "transitionCount", "()I"⟩
def RX2 : String := "RecursionSchemes$Term"
def TX2 : u_T := fun k => match k with
  | 0 => ("RecursionSchemes$Term", "symbols", "[B", true)
  | _ => ("RecursionSchemes$Term", "length", "I", false)
def tyX2 : Nat → FieldType := fun k => match k with
  | 0 => .array .byte
  | _ => .int
abbrev wsX20 : List Cond := u_ws RX2 TX2 2
theorem nmX2 : ∀ a, a < 2 → ∀ b, b < 2 → a ≠ b → (TX2 a).2.1 ≠ (TX2 b).2.1 := by decide +kernel
theorem tyX2_ok : ∀ k, k < 2 → parseFieldDescriptor (TX2 k).2.2.1 = some (tyX2 k) := by decide +kernel
abbrev cX2_init : ByteArray := prog_4_method_1_code
def yX2_init : MethodName := ⟨RX2, "<init>", "(I)V"⟩
abbrev cX2_size : ByteArray := prog_4_method_2_code
def yX2_size : MethodName := ⟨RX2, "size", "()I"⟩
abbrev cX2_holds : ByteArray := prog_4_method_3_code
def yX2_holds : MethodName := ⟨RX2, "holds", "(I)Z"⟩
abbrev cX2_symbol : ByteArray := prog_4_method_4_code
def yX2_symbol : MethodName := ⟨RX2, "symbol", "(I)I"⟩
abbrev cX2_empty : ByteArray := prog_4_method_5_code
def yX2_empty : MethodName := ⟨RX2, "empty", "()V"⟩
abbrev cX2_add : ByteArray := prog_4_method_6_code
def yX2_add : MethodName := ⟨RX2, "add", "(I)Z"⟩
abbrev cX2_addPart : ByteArray := prog_4_method_7_code
def yX2_addPart : MethodName := ⟨RX2, "addPart", "(LRecursionSchemes$Term;II)Z"⟩
abbrev cX2_become : ByteArray := prog_4_method_8_code
def yX2_become : MethodName := ⟨RX2, "become", "(LRecursionSchemes$Term;)V"⟩
abbrev cX2_endOf : ByteArray := prog_4_method_9_code
def yX2_endOf : MethodName := ⟨RX2, "endOf", "(I)I"⟩
abbrev cX2_expand : ByteArray := prog_4_method_10_code
def yX2_expand : MethodName := ⟨RX2, "expand", "(LRecursionSchemes$Term;ILRecursionSchemes$Term;)Z"⟩
abbrev cX2_nonterminals : ByteArray := prog_4_method_11_code
def yX2_nonterminals : MethodName := ⟨RX2, "nonterminals", "()I"⟩
abbrev cX2_swapSymbols : ByteArray := prog_4_method_12_code
def yX2_swapSymbols : MethodName := ⟨RX2, "swapSymbols", "(II)I"⟩
def RX3 : String := "RecursionSchemes$Text"
def TX3 : u_T := fun k => match k with
  | 0 => ("RecursionSchemes$Text", "characters", "[I", true)
  | 1 => ("RecursionSchemes$Text", "length", "I", false)
  | _ => ("RecursionSchemes$Text", "position", "I", false)
def tyX3 : Nat → FieldType := fun k => match k with
  | 0 => .array .int
  | 1 => .int
  | _ => .int
abbrev wsX30 : List Cond := u_ws RX3 TX3 3
theorem nmX3 : ∀ a, a < 3 → ∀ b, b < 3 → a ≠ b → (TX3 a).2.1 ≠ (TX3 b).2.1 := by decide +kernel
theorem tyX3_ok : ∀ k, k < 3 → parseFieldDescriptor (TX3 k).2.2.1 = some (tyX3 k) := by decide +kernel
abbrev cX3_init : ByteArray := prog_5_method_1_code
def yX3_init : MethodName := ⟨RX3, "<init>", "()V"⟩
abbrev cX3_size : ByteArray := prog_5_method_2_code
def yX3_size : MethodName := ⟨RX3, "size", "()I"⟩
abbrev cX3_empty : ByteArray := prog_5_method_3_code
def yX3_empty : MethodName := ⟨RX3, "empty", "()V"⟩
abbrev cX3_add : ByteArray := prog_5_method_4_code
def yX3_add : MethodName := ⟨RX3, "add", "(I)Z"⟩
abbrev cX3_readSetup : ByteArray := prog_5_method_5_code
def yX3_readSetup : MethodName := ⟨RX3, "readSetup", "(LRecursionSchemes$Scheme;LRecursionSchemes$Term;)I"⟩
abbrev cX3_isBody : ByteArray := prog_5_method_6_code
def yX3_isBody : MethodName := ⟨RX3, "isBody", "(ILRecursionSchemes$Term;)Z"⟩
abbrev cX3_readItem : ByteArray := prog_5_method_7_code
def yX3_readItem : MethodName := ⟨RX3, "readItem", "(LRecursionSchemes$Scheme;LRecursionSchemes$Term;)Z"⟩
abbrev cX3_readRule : ByteArray := prog_5_method_8_code
def yX3_readRule : MethodName := ⟨RX3, "readRule", "(ILRecursionSchemes$Scheme;LRecursionSchemes$Term;)Z"⟩
abbrev cX3_readTransition : ByteArray := prog_5_method_9_code
def yX3_readTransition : MethodName := ⟨RX3, "readTransition", "(ILRecursionSchemes$Scheme;)Z"⟩
abbrev cX3_readBody : ByteArray := prog_5_method_10_code
def yX3_readBody : MethodName := ⟨RX3, "readBody", "(ILRecursionSchemes$Term;)Z"⟩
abbrev cX3_mayContain : ByteArray := prog_5_method_11_code
def yX3_mayContain : MethodName := ⟨RX3, "mayContain", "(II)Z"⟩
abbrev cX3_skip : ByteArray := prog_5_method_12_code
def yX3_skip : MethodName := ⟨RX3, "skip", "(I)Z"⟩
abbrev cX3_characterHere : ByteArray := prog_5_method_13_code
def yX3_characterHere : MethodName := ⟨RX3, "characterHere", "()I"⟩
abbrev cX3_symbolHere : ByteArray := prog_5_method_14_code
def yX3_symbolHere : MethodName := ⟨RX3, "symbolHere", "()I"⟩
abbrev cX3_stateHere : ByteArray := prog_5_method_15_code
def yX3_stateHere : MethodName := ⟨RX3, "stateHere", "()I"⟩
def RX4 : String := "RecursionSchemes$Tree"
def TX4 : u_T := fun k => match k with
  | 0 => ("RecursionSchemes$Tree", "scheme", "LRecursionSchemes$Scheme;", true)
  | 1 => ("RecursionSchemes$Tree", "terms", "[LRecursionSchemes$Term;", true)
  | 2 => ("RecursionSchemes$Tree", "spare", "LRecursionSchemes$Term;", true)
  | 3 => ("RecursionSchemes$Tree", "labels", "[I", true)
  | 4 => ("RecursionSchemes$Tree", "expansions", "[I", true)
  | 5 => ("RecursionSchemes$Tree", "states", "[I", true)
  | _ => ("RecursionSchemes$Tree", "seenEdits", "I", false)
def tyX4 : Nat → FieldType := fun k => match k with
  | 0 => .object "RecursionSchemes$Scheme"
  | 1 => .array (.object "RecursionSchemes$Term")
  | 2 => .object "RecursionSchemes$Term"
  | 3 => .array .int
  | 4 => .array .int
  | 5 => .array .int
  | _ => .int
abbrev wsX40 : List Cond := u_ws RX4 TX4 7
theorem nmX4 : ∀ a, a < 7 → ∀ b, b < 7 → a ≠ b → (TX4 a).2.1 ≠ (TX4 b).2.1 := by decide +kernel
theorem tyX4_ok : ∀ k, k < 7 → parseFieldDescriptor (TX4 k).2.2.1 = some (tyX4 k) := by decide +kernel
abbrev cX4_init : ByteArray := prog_6_method_1_code
def yX4_init : MethodName := ⟨RX4, "<init>", "(LRecursionSchemes$Scheme;)V"⟩
abbrev cX4_upToDate : ByteArray := prog_6_method_2_code
def yX4_upToDate : MethodName := ⟨RX4, "upToDate", "()LRecursionSchemes$Tree;"⟩
abbrev cX4_labelCode : ByteArray := prog_6_method_3_code
def yX4_labelCode : MethodName := ⟨RX4, "labelCode", "(I)I"⟩
abbrev cX4_expansionsTo : ByteArray := prog_6_method_4_code
def yX4_expansionsTo : MethodName := ⟨RX4, "expansionsTo", "(I)I"⟩
abbrev cX4_stateOf : ByteArray := prog_6_method_5_code
def yX4_stateOf : MethodName := ⟨RX4, "stateOf", "(I)I"⟩
abbrev cX4_childCount : ByteArray := prog_6_method_6_code
def yX4_childCount : MethodName := ⟨RX4, "childCount", "(I)I"⟩
abbrev cX4_countAt : ByteArray := prog_6_method_7_code
def yX4_countAt : MethodName := ⟨RX4, "countAt", "(I)I"⟩
abbrev cX4_firstWrong : ByteArray := prog_6_method_8_code
def yX4_firstWrong : MethodName := ⟨RX4, "firstWrong", "(I)I"⟩
abbrev cX4_exists : ByteArray := prog_6_method_9_code
def yX4_exists : MethodName := ⟨RX4, "exists", "(I)Z"⟩
abbrev cX4_isWrong : ByteArray := prog_6_method_10_code
def yX4_isWrong : MethodName := ⟨RX4, "isWrong", "(I)Z"⟩
abbrev cX4_unfold : ByteArray := prog_6_method_11_code
def yX4_unfold : MethodName := ⟨RX4, "unfold", "(LRecursionSchemes$Tree;III)V"⟩
abbrev cX4_evaluate : ByteArray := prog_6_method_12_code
def yX4_evaluate : MethodName := ⟨RX4, "evaluate", "(LRecursionSchemes$Term;)I"⟩
abbrev cX4_runAutomaton : ByteArray := prog_6_method_13_code
def yX4_runAutomaton : MethodName := ⟨RX4, "runAutomaton", "()V"⟩
def RX5 : String := "RecursionSchemes$TypeCheck"
def TX5 : u_T := fun k => match k with
  | 0 => ("RecursionSchemes$TypeCheck", "scheme", "LRecursionSchemes$Scheme;", true)
  | 1 => ("RecursionSchemes$TypeCheck", "types", "[[B", true)
  | 2 => ("RecursionSchemes$TypeCheck", "justified", "[[B", true)
  | 3 => ("RecursionSchemes$TypeCheck", "stack", "[I", true)
  | 4 => ("RecursionSchemes$TypeCheck", "roundsMade", "I", false)
  | _ => ("RecursionSchemes$TypeCheck", "seenEdits", "I", false)
def tyX5 : Nat → FieldType := fun k => match k with
  | 0 => .object "RecursionSchemes$Scheme"
  | 1 => .array (.array .byte)
  | 2 => .array (.array .byte)
  | 3 => .array .int
  | 4 => .int
  | _ => .int
abbrev wsX50 : List Cond := u_ws RX5 TX5 6
theorem nmX5 : ∀ a, a < 6 → ∀ b, b < 6 → a ≠ b → (TX5 a).2.1 ≠ (TX5 b).2.1 := by decide +kernel
theorem tyX5_ok : ∀ k, k < 6 → parseFieldDescriptor (TX5 k).2.2.1 = some (tyX5 k) := by decide +kernel
abbrev cX5_init : ByteArray := prog_7_method_1_code
def yX5_init : MethodName := ⟨RX5, "<init>", "(LRecursionSchemes$Scheme;)V"⟩
abbrev cX5_upToDate : ByteArray := prog_7_method_2_code
def yX5_upToDate : MethodName := ⟨RX5, "upToDate", "()LRecursionSchemes$TypeCheck;"⟩
abbrev cX5_acceptance : ByteArray := prog_7_method_3_code
def yX5_acceptance : MethodName := ⟨RX5, "acceptance", "()I"⟩
abbrev cX5_roundCount : ByteArray := prog_7_method_4_code
def yX5_roundCount : MethodName := ⟨RX5, "roundCount", "()I"⟩
abbrev cX5_holds : ByteArray := prog_7_method_5_code
def yX5_holds : MethodName := ⟨RX5, "holds", "(III)Z"⟩
abbrev cX5_validCount : ByteArray := prog_7_method_6_code
def yX5_validCount : MethodName := ⟨RX5, "validCount", "(I)I"⟩
abbrev cX5_commonSet : ByteArray := prog_7_method_7_code
def yX5_commonSet : MethodName := ⟨RX5, "commonSet", "(III)I"⟩
abbrev cX5_settingsOf : ByteArray := prog_7_method_8_code
def yX5_settingsOf : MethodName := ⟨RX5, "settingsOf", "(I)I"⟩
abbrev cX5_start : ByteArray := prog_7_method_9_code
def yX5_start : MethodName := ⟨RX5, "start", "()V"⟩
abbrev cX5_terminalTypes : ByteArray := prog_7_method_10_code
def yX5_terminalTypes : MethodName := ⟨RX5, "terminalTypes", "(II)I"⟩
abbrev cX5_removeUnjustified : ByteArray := prog_7_method_11_code
def yX5_removeUnjustified : MethodName := ⟨RX5, "removeUnjustified", "()Z"⟩
abbrev cX5_bodyTypes : ByteArray := prog_7_method_12_code
def yX5_bodyTypes : MethodName := ⟨RX5, "bodyTypes", "(LRecursionSchemes$Term;I)I"⟩
abbrev cX5_symbolTypes : ByteArray := prog_7_method_13_code
def yX5_symbolTypes : MethodName := ⟨RX5, "symbolTypes", "(III)I"⟩
def RX6 : String := "RecursionSchemes"
def TX6 : u_T := fun k => match k with
  | 0 => ("RecursionSchemes", "text", "LRecursionSchemes$Text;", true)
  | 1 => ("RecursionSchemes", "scheme", "LRecursionSchemes$Scheme;", true)
  | 2 => ("RecursionSchemes", "tree", "LRecursionSchemes$Tree;", true)
  | 3 => ("RecursionSchemes", "types", "LRecursionSchemes$TypeCheck;", true)
  | 4 => ("RecursionSchemes", "history", "LRecursionSchemes$History;", true)
  | 5 => ("RecursionSchemes", "slots", "[LRecursionSchemes$Scheme;", true)
  | 6 => ("RecursionSchemes", "filled", "[Z", true)
  | 7 => ("RecursionSchemes", "draft", "LRecursionSchemes$Scheme;", true)
  | 8 => ("RecursionSchemes", "draftBody", "LRecursionSchemes$Term;", true)
  | 9 => ("RecursionSchemes", "copy", "LRecursionSchemes$Scheme;", true)
  | _ => ("RecursionSchemes", "copyTypes", "LRecursionSchemes$TypeCheck;", true)
def tyX6 : Nat → FieldType := fun k => match k with
  | 0 => .object "RecursionSchemes$Text"
  | 1 => .object "RecursionSchemes$Scheme"
  | 2 => .object "RecursionSchemes$Tree"
  | 3 => .object "RecursionSchemes$TypeCheck"
  | 4 => .object "RecursionSchemes$History"
  | 5 => .array (.object "RecursionSchemes$Scheme")
  | 6 => .array .boolean
  | 7 => .object "RecursionSchemes$Scheme"
  | 8 => .object "RecursionSchemes$Term"
  | 9 => .object "RecursionSchemes$Scheme"
  | _ => .object "RecursionSchemes$TypeCheck"
abbrev wsX60 : List Cond := u_ws RX6 TX6 11
theorem nmX6 : ∀ a, a < 11 → ∀ b, b < 11 → a ≠ b → (TX6 a).2.1 ≠ (TX6 b).2.1 := by decide +kernel
theorem tyX6_ok : ∀ k, k < 11 → parseFieldDescriptor (TX6 k).2.2.1 = some (tyX6 k) := by decide +kernel
abbrev cX6_init : ByteArray := prog_1_method_1_code
def yX6_init : MethodName := ⟨RX6, "<init>", "()V"⟩
abbrev cX6_append : ByteArray := prog_1_method_2_code
def yX6_append : MethodName := ⟨RX6, "append", "(I)I"⟩
abbrev cX6_clearText : ByteArray := prog_1_method_3_code
def yX6_clearText : MethodName := ⟨RX6, "clearText", "()I"⟩
abbrev cX6_errorPosition : ByteArray := prog_1_method_4_code
def yX6_errorPosition : MethodName := ⟨RX6, "errorPosition", "()I"⟩
abbrev cX6_load : ByteArray := prog_1_method_5_code
def yX6_load : MethodName := ⟨RX6, "load", "()I"⟩
abbrev cX6_bodyLength : ByteArray := prog_1_method_6_code
def yX6_bodyLength : MethodName := ⟨RX6, "bodyLength", "(I)I"⟩
abbrev cX6_bodySymbol : ByteArray := prog_1_method_7_code
def yX6_bodySymbol : MethodName := ⟨RX6, "bodySymbol", "(II)I"⟩
abbrev cX6_transition : ByteArray := prog_1_method_8_code
def yX6_transition : MethodName := ⟨RX6, "transition", "(III)I"⟩
abbrev cX6_hasTransition : ByteArray := prog_1_method_9_code
def yX6_hasTransition : MethodName := ⟨RX6, "hasTransition", "(II)I"⟩
abbrev cX6_reachable : ByteArray := prog_1_method_10_code
def yX6_reachable : MethodName := ⟨RX6, "reachable", "()I"⟩
abbrev cX6_setBody : ByteArray := prog_1_method_11_code
def yX6_setBody : MethodName := ⟨RX6, "setBody", "(I)I"⟩
abbrev cX6_setTransition : ByteArray := prog_1_method_12_code
def yX6_setTransition : MethodName := ⟨RX6, "setTransition", "(IIII)I"⟩
abbrev cX6_removeTransition : ByteArray := prog_1_method_13_code
def yX6_removeTransition : MethodName := ⟨RX6, "removeTransition", "(II)I"⟩
abbrev cX6_inline : ByteArray := prog_1_method_14_code
def yX6_inline : MethodName := ⟨RX6, "inline", "(II)I"⟩
abbrev cX6_exchange : ByteArray := prog_1_method_15_code
def yX6_exchange : MethodName := ⟨RX6, "exchange", "()I"⟩
abbrev cX6_undo : ByteArray := prog_1_method_16_code
def yX6_undo : MethodName := ⟨RX6, "undo", "()I"⟩
abbrev cX6_labelAt : ByteArray := prog_1_method_17_code
def yX6_labelAt : MethodName := ⟨RX6, "labelAt", "(I)I"⟩
abbrev cX6_expansionsAt : ByteArray := prog_1_method_18_code
def yX6_expansionsAt : MethodName := ⟨RX6, "expansionsAt", "(I)I"⟩
abbrev cX6_stateAt : ByteArray := prog_1_method_19_code
def yX6_stateAt : MethodName := ⟨RX6, "stateAt", "(I)I"⟩
abbrev cX6_nodesAtDepth : ByteArray := prog_1_method_20_code
def yX6_nodesAtDepth : MethodName := ⟨RX6, "nodesAtDepth", "(I)I"⟩
abbrev cX6_wrongBranch : ByteArray := prog_1_method_21_code
def yX6_wrongBranch : MethodName := ⟨RX6, "wrongBranch", "(I)I"⟩
abbrev cX6_accepts : ByteArray := prog_1_method_22_code
def yX6_accepts : MethodName := ⟨RX6, "accepts", "()I"⟩
abbrev cX6_rounds : ByteArray := prog_1_method_23_code
def yX6_rounds : MethodName := ⟨RX6, "rounds", "()I"⟩
abbrev cX6_typingCount : ByteArray := prog_1_method_24_code
def yX6_typingCount : MethodName := ⟨RX6, "typingCount", "(I)I"⟩
abbrev cX6_isValid : ByteArray := prog_1_method_25_code
def yX6_isValid : MethodName := ⟨RX6, "isValid", "(IIII)I"⟩
abbrev cX6_demand : ByteArray := prog_1_method_26_code
def yX6_demand : MethodName := ⟨RX6, "demand", "(III)I"⟩
abbrev cX6_runScript : ByteArray := prog_1_method_27_code
def yX6_runScript : MethodName := ⟨RX6, "runScript", "(IJ)I"⟩
abbrev cX6_descend : ByteArray := prog_1_method_28_code
def yX6_descend : MethodName := ⟨RX6, "descend", "(JI)I"⟩
abbrev cX6_save : ByteArray := prog_1_method_29_code
def yX6_save : MethodName := ⟨RX6, "save", "(I)I"⟩
abbrev cX6_restore : ByteArray := prog_1_method_30_code
def yX6_restore : MethodName := ⟨RX6, "restore", "(I)I"⟩
abbrev cX6_withoutLastGroups : ByteArray := prog_1_method_31_code
def yX6_withoutLastGroups : MethodName := ⟨RX6, "withoutLastGroups", "(JI)J"⟩
abbrev cX6_commandSucceeds : ByteArray := prog_1_method_32_code
def yX6_commandSucceeds : MethodName := ⟨RX6, "commandSucceeds", "(I)Z"⟩
abbrev cX6_removeFromCopy : ByteArray := prog_1_method_33_code
def yX6_removeFromCopy : MethodName := ⟨RX6, "removeFromCopy", "(II)Z"⟩
abbrev cX6_setBInCopy : ByteArray := prog_1_method_34_code
def yX6_setBInCopy : MethodName := ⟨RX6, "setBInCopy", "(II)Z"⟩
abbrev cX6_isNonterminal : ByteArray := prog_1_method_35_code
def yX6_isNonterminal : MethodName := ⟨RX6, "isNonterminal", "(I)Z"⟩
abbrev cX6_isTerminal : ByteArray := prog_1_method_36_code
def yX6_isTerminal : MethodName := ⟨RX6, "isTerminal", "(I)Z"⟩
abbrev cX6_isState : ByteArray := prog_1_method_37_code
def yX6_isState : MethodName := ⟨RX6, "isState", "(I)Z"⟩
abbrev cX6_isDepth : ByteArray := prog_1_method_38_code
def yX6_isDepth : MethodName := ⟨RX6, "isDepth", "(I)Z"⟩
abbrev cX6_suitsChild : ByteArray := prog_1_method_39_code
def yX6_suitsChild : MethodName := ⟨RX6, "suitsChild", "(III)Z"⟩
abbrev cX6_suitsParameter : ByteArray := prog_1_method_40_code
def yX6_suitsParameter : MethodName := ⟨RX6, "suitsParameter", "(III)Z"⟩
abbrev cX6_arityOf : ByteArray := prog_1_method_41_code
def yX6_arityOf : MethodName := ⟨RX6, "arityOf", "(I)I"⟩
abbrev cX6_arityOfNonterminal : ByteArray := prog_1_method_42_code
def yX6_arityOfNonterminal : MethodName := ⟨RX6, "arityOfNonterminal", "(I)I"⟩
abbrev cX6_codeOf : ByteArray := prog_1_method_43_code
def yX6_codeOf : MethodName := ⟨RX6, "codeOf", "(I)I"⟩
abbrev cX6_setsOf : ByteArray := prog_1_method_44_code
def yX6_setsOf : MethodName := ⟨RX6, "setsOf", "(II)I"⟩
abbrev cX6_firstOf : ByteArray := prog_1_method_45_code
def yX6_firstOf : MethodName := ⟨RX6, "firstOf", "(I)I"⟩
abbrev cX6_secondOf : ByteArray := prog_1_method_46_code
def yX6_secondOf : MethodName := ⟨RX6, "secondOf", "(I)I"⟩
abbrev cX6_childOf : ByteArray := prog_1_method_47_code
def yX6_childOf : MethodName := ⟨RX6, "childOf", "(II)I"⟩
abbrev cX6_nodeOf : ByteArray := prog_1_method_48_code
def yX6_nodeOf : MethodName := ⟨RX6, "nodeOf", "(I)I"⟩
abbrev cX6_pathOf : ByteArray := prog_1_method_49_code
def yX6_pathOf : MethodName := ⟨RX6, "pathOf", "(I)I"⟩
def RX7 : String := "RecursionSchemesModel"
def TX7 : u_T := fun k => match k with
  | 0 => ("RecursionSchemesModel", "text", "[I", true)
  | 1 => ("RecursionSchemesModel", "length", "I", false)
  | 2 => ("RecursionSchemesModel", "now", "[I", true)
  | 3 => ("RecursionSchemesModel", "trial", "[I", true)
  | 4 => ("RecursionSchemesModel", "read", "[I", true)
  | 5 => ("RecursionSchemesModel", "diary", "[I", true)
  | 6 => ("RecursionSchemesModel", "acts", "I", false)
  | 7 => ("RecursionSchemesModel", "next", "I", false)
  | 8 => ("RecursionSchemesModel", "kept", "[I", true)
  | 9 => ("RecursionSchemesModel", "isKept", "[Z", true)
  | 10 => ("RecursionSchemesModel", "term", "[I", true)
  | 11 => ("RecursionSchemesModel", "termSize", "I", false)
  | 12 => ("RecursionSchemesModel", "built", "[I", true)
  | 13 => ("RecursionSchemesModel", "builtSize", "I", false)
  | 14 => ("RecursionSchemesModel", "label", "I", false)
  | 15 => ("RecursionSchemesModel", "expansions", "I", false)
  | 16 => ("RecursionSchemesModel", "state", "I", false)
  | 17 => ("RecursionSchemesModel", "valid", "[Z", true)
  | 18 => ("RecursionSchemesModel", "justified", "[Z", true)
  | _ => ("RecursionSchemesModel", "mask", "[I", true)
def tyX7 : Nat → FieldType := fun k => match k with
  | 0 => .array .int
  | 1 => .int
  | 2 => .array .int
  | 3 => .array .int
  | 4 => .array .int
  | 5 => .array .int
  | 6 => .int
  | 7 => .int
  | 8 => .array .int
  | 9 => .array .boolean
  | 10 => .array .int
  | 11 => .int
  | 12 => .array .int
  | 13 => .int
  | 14 => .int
  | 15 => .int
  | 16 => .int
  | 17 => .array .boolean
  | 18 => .array .boolean
  | _ => .array .int
abbrev wsX70 : List Cond := u_ws RX7 TX7 20
theorem nmX7 : ∀ a, a < 20 → ∀ b, b < 20 → a ≠ b → (TX7 a).2.1 ≠ (TX7 b).2.1 := by decide +kernel
theorem tyX7_ok : ∀ k, k < 20 → parseFieldDescriptor (TX7 k).2.2.1 = some (tyX7 k) := by decide +kernel
abbrev cX7_init : ByteArray := prog_9_method_1_code
def yX7_init : MethodName := ⟨RX7, "<init>", "()V"⟩
abbrev cX7_clear : ByteArray := prog_9_method_3_code
def yX7_clear : MethodName := ⟨RX7, "clear", "([I)V"⟩
abbrev cX7_copy : ByteArray := prog_9_method_4_code
def yX7_copy : MethodName := ⟨RX7, "copy", "([I[I)V"⟩
abbrev cX7_in : ByteArray := prog_9_method_5_code
def yX7_in : MethodName := ⟨RX7, "in", "(JJJ)Z"⟩
abbrev cX7_nonterminal : ByteArray := prog_9_method_6_code
def yX7_nonterminal : MethodName := ⟨RX7, "nonterminal", "(I)I"⟩
abbrev cX7_terminal : ByteArray := prog_9_method_7_code
def yX7_terminal : MethodName := ⟨RX7, "terminal", "(I)I"⟩
abbrev cX7_places : ByteArray := prog_9_method_8_code
def yX7_places : MethodName := ⟨RX7, "places", "(I)I"⟩
abbrev cX7_parameters : ByteArray := prog_9_method_9_code
def yX7_parameters : MethodName := ⟨RX7, "parameters", "(I)I"⟩
abbrev cX7_wants : ByteArray := prog_9_method_10_code
def yX7_wants : MethodName := ⟨RX7, "wants", "(I)I"⟩
abbrev cX7_isAllowed : ByteArray := prog_9_method_11_code
def yX7_isAllowed : MethodName := ⟨RX7, "isAllowed", "(II)Z"⟩
abbrev cX7_endOf : ByteArray := prog_9_method_12_code
def yX7_endOf : MethodName := ⟨RX7, "endOf", "([II)I"⟩
abbrev cX7_append : ByteArray := prog_9_method_13_code
def yX7_append : MethodName := ⟨RX7, "append", "(I)I"⟩
abbrev cX7_clearText : ByteArray := prog_9_method_14_code
def yX7_clearText : MethodName := ⟨RX7, "clearText", "()I"⟩
abbrev cX7_readBody : ByteArray := prog_9_method_15_code
def yX7_readBody : MethodName := ⟨RX7, "readBody", "(II)I"⟩
abbrev cX7_readStep : ByteArray := prog_9_method_16_code
def yX7_readStep : MethodName := ⟨RX7, "readStep", "(I)I"⟩
abbrev cX7_readItem : ByteArray := prog_9_method_17_code
def yX7_readItem : MethodName := ⟨RX7, "readItem", "(I)I"⟩
abbrev cX7_readText : ByteArray := prog_9_method_18_code
def yX7_readText : MethodName := ⟨RX7, "readText", "()I"⟩
abbrev cX7_errorPosition : ByteArray := prog_9_method_19_code
def yX7_errorPosition : MethodName := ⟨RX7, "errorPosition", "()I"⟩
abbrev cX7_stepsOf : ByteArray := prog_9_method_20_code
def yX7_stepsOf : MethodName := ⟨RX7, "stepsOf", "([I)I"⟩
abbrev cX7_load : ByteArray := prog_9_method_21_code
def yX7_load : MethodName := ⟨RX7, "load", "()I"⟩
abbrev cX7_isNonterminal : ByteArray := prog_9_method_22_code
def yX7_isNonterminal : MethodName := ⟨RX7, "isNonterminal", "(I)Z"⟩
abbrev cX7_isPair : ByteArray := prog_9_method_23_code
def yX7_isPair : MethodName := ⟨RX7, "isPair", "(II)Z"⟩
abbrev cX7_stepAt : ByteArray := prog_9_method_24_code
def yX7_stepAt : MethodName := ⟨RX7, "stepAt", "(II)I"⟩
abbrev cX7_bodyLength : ByteArray := prog_9_method_25_code
def yX7_bodyLength : MethodName := ⟨RX7, "bodyLength", "(I)I"⟩
abbrev cX7_bodySymbol : ByteArray := prog_9_method_26_code
def yX7_bodySymbol : MethodName := ⟨RX7, "bodySymbol", "(II)I"⟩
abbrev cX7_transition : ByteArray := prog_9_method_27_code
def yX7_transition : MethodName := ⟨RX7, "transition", "(III)I"⟩
abbrev cX7_hasTransition : ByteArray := prog_9_method_28_code
def yX7_hasTransition : MethodName := ⟨RX7, "hasTransition", "(II)I"⟩
abbrev cX7_reachable : ByteArray := prog_9_method_29_code
def yX7_reachable : MethodName := ⟨RX7, "reachable", "()I"⟩
abbrev cX7_note : ByteArray := prog_9_method_30_code
def yX7_note : MethodName := ⟨RX7, "note", "()V"⟩
abbrev cX7_tidy : ByteArray := prog_9_method_31_code
def yX7_tidy : MethodName := ⟨RX7, "tidy", "([II)V"⟩
abbrev cX7_setBody : ByteArray := prog_9_method_32_code
def yX7_setBody : MethodName := ⟨RX7, "setBody", "(I)I"⟩
abbrev cX7_setTransition : ByteArray := prog_9_method_33_code
def yX7_setTransition : MethodName := ⟨RX7, "setTransition", "(IIII)I"⟩
abbrev cX7_removeTransition : ByteArray := prog_9_method_34_code
def yX7_removeTransition : MethodName := ⟨RX7, "removeTransition", "(II)I"⟩
abbrev cX7_put : ByteArray := prog_9_method_35_code
def yX7_put : MethodName := ⟨RX7, "put", "(I)V"⟩
abbrev cX7_putPart : ByteArray := prog_9_method_36_code
def yX7_putPart : MethodName := ⟨RX7, "putPart", "([III)V"⟩
abbrev cX7_putExpanded : ByteArray := prog_9_method_37_code
def yX7_putExpanded : MethodName := ⟨RX7, "putExpanded", "([I[II)I"⟩
abbrev cX7_inline : ByteArray := prog_9_method_38_code
def yX7_inline : MethodName := ⟨RX7, "inline", "(II)I"⟩
abbrev cX7_exchange : ByteArray := prog_9_method_39_code
def yX7_exchange : MethodName := ⟨RX7, "exchange", "()I"⟩
abbrev cX7_undo : ByteArray := prog_9_method_40_code
def yX7_undo : MethodName := ⟨RX7, "undo", "()I"⟩
abbrev cX7_evaluate : ByteArray := prog_9_method_41_code
def yX7_evaluate : MethodName := ⟨RX7, "evaluate", "([I)V"⟩
abbrev cX7_childrenOf : ByteArray := prog_9_method_42_code
def yX7_childrenOf : MethodName := ⟨RX7, "childrenOf", "(I)I"⟩
abbrev cX7_beginWalk : ByteArray := prog_9_method_43_code
def yX7_beginWalk : MethodName := ⟨RX7, "beginWalk", "([I)V"⟩
abbrev cX7_goDown : ByteArray := prog_9_method_44_code
def yX7_goDown : MethodName := ⟨RX7, "goDown", "([II)Z"⟩
abbrev cX7_tens : ByteArray := prog_9_method_45_code
def yX7_tens : MethodName := ⟨RX7, "tens", "(I)I"⟩
abbrev cX7_stepsOfPath : ByteArray := prog_9_method_46_code
def yX7_stepsOfPath : MethodName := ⟨RX7, "stepsOfPath", "(I)I"⟩
abbrev cX7_walk : ByteArray := prog_9_method_47_code
def yX7_walk : MethodName := ⟨RX7, "walk", "([III)Z"⟩
abbrev cX7_labelAt : ByteArray := prog_9_method_48_code
def yX7_labelAt : MethodName := ⟨RX7, "labelAt", "(I)I"⟩
abbrev cX7_expansionsAt : ByteArray := prog_9_method_49_code
def yX7_expansionsAt : MethodName := ⟨RX7, "expansionsAt", "(I)I"⟩
abbrev cX7_stateAt : ByteArray := prog_9_method_50_code
def yX7_stateAt : MethodName := ⟨RX7, "stateAt", "(I)I"⟩
abbrev cX7_pathOf : ByteArray := prog_9_method_51_code
def yX7_pathOf : MethodName := ⟨RX7, "pathOf", "(II)I"⟩
abbrev cX7_nodesOf : ByteArray := prog_9_method_52_code
def yX7_nodesOf : MethodName := ⟨RX7, "nodesOf", "([II)I"⟩
abbrev cX7_nodesAtDepth : ByteArray := prog_9_method_53_code
def yX7_nodesAtDepth : MethodName := ⟨RX7, "nodesAtDepth", "(I)I"⟩
abbrev cX7_wrongBranch : ByteArray := prog_9_method_54_code
def yX7_wrongBranch : MethodName := ⟨RX7, "wrongBranch", "(I)I"⟩
abbrev cX7_typingAt : ByteArray := prog_9_method_55_code
def yX7_typingAt : MethodName := ⟨RX7, "typingAt", "(IIII)I"⟩
abbrev cX7_appliedTypes : ByteArray := prog_9_method_56_code
def yX7_appliedTypes : MethodName := ⟨RX7, "appliedTypes", "(III)I"⟩
abbrev cX7_terminalTypes : ByteArray := prog_9_method_57_code
def yX7_terminalTypes : MethodName := ⟨RX7, "terminalTypes", "([IIII)I"⟩
abbrev cX7_bodyTypes : ByteArray := prog_9_method_58_code
def yX7_bodyTypes : MethodName := ⟨RX7, "bodyTypes", "([IIII)I"⟩
abbrev cX7_isRoundLess : ByteArray := prog_9_method_59_code
def yX7_isRoundLess : MethodName := ⟨RX7, "isRoundLess", "([I)Z"⟩
abbrev cX7_check : ByteArray := prog_9_method_60_code
def yX7_check : MethodName := ⟨RX7, "check", "([I)I"⟩
abbrev cX7_isAccepted : ByteArray := prog_9_method_61_code
def yX7_isAccepted : MethodName := ⟨RX7, "isAccepted", "([I)Z"⟩
abbrev cX7_accepts : ByteArray := prog_9_method_62_code
def yX7_accepts : MethodName := ⟨RX7, "accepts", "()I"⟩
abbrev cX7_rounds : ByteArray := prog_9_method_63_code
def yX7_rounds : MethodName := ⟨RX7, "rounds", "()I"⟩
abbrev cX7_typingsOf : ByteArray := prog_9_method_64_code
def yX7_typingsOf : MethodName := ⟨RX7, "typingsOf", "([II)I"⟩
abbrev cX7_typingCount : ByteArray := prog_9_method_65_code
def yX7_typingCount : MethodName := ⟨RX7, "typingCount", "(I)I"⟩
abbrev cX7_isValid : ByteArray := prog_9_method_66_code
def yX7_isValid : MethodName := ⟨RX7, "isValid", "(IIII)I"⟩
abbrev cX7_demand : ByteArray := prog_9_method_67_code
def yX7_demand : MethodName := ⟨RX7, "demand", "(III)I"⟩
abbrev cX7_command : ByteArray := prog_9_method_68_code
def yX7_command : MethodName := ⟨RX7, "command", "(IIII)Z"⟩
abbrev cX7_tenThousands : ByteArray := prog_9_method_69_code
def yX7_tenThousands : MethodName := ⟨RX7, "tenThousands", "(I)J"⟩
abbrev cX7_runScript : ByteArray := prog_9_method_70_code
def yX7_runScript : MethodName := ⟨RX7, "runScript", "(IJ)I"⟩
abbrev cX7_descend : ByteArray := prog_9_method_71_code
def yX7_descend : MethodName := ⟨RX7, "descend", "(JI)I"⟩
abbrev cX7_save : ByteArray := prog_9_method_72_code
def yX7_save : MethodName := ⟨RX7, "save", "(I)I"⟩
abbrev cX7_restore : ByteArray := prog_9_method_73_code
def yX7_restore : MethodName := ⟨RX7, "restore", "(I)I"⟩
def RJx145de : String := "java/io/Serializable"
def TJx145de : u_T := fun k => match k with
  | _ => ("", "", "", false)
def tyJx145de : Nat → FieldType := fun k => match k with
  | _ => .int
abbrev wsJx145de0 : List Cond := u_ws RJx145de TJx145de 0
theorem nmJx145de : ∀ a, a < 0 → ∀ b, b < 0 → a ≠ b → (TJx145de a).2.1 ≠ (TJx145de b).2.1 := by decide +kernel
theorem tyJx145de_ok : ∀ k, k < 0 → parseFieldDescriptor (TJx145de k).2.2.1 = some (tyJx145de k) := by decide +kernel
def RJx9f9b0 : String := "java/lang/CharSequence"
def TJx9f9b0 : u_T := fun k => match k with
  | _ => ("", "", "", false)
def tyJx9f9b0 : Nat → FieldType := fun k => match k with
  | _ => .int
abbrev wsJx9f9b00 : List Cond := u_ws RJx9f9b0 TJx9f9b0 0
theorem nmJx9f9b0 : ∀ a, a < 0 → ∀ b, b < 0 → a ≠ b → (TJx9f9b0 a).2.1 ≠ (TJx9f9b0 b).2.1 := by decide +kernel
theorem tyJx9f9b0_ok : ∀ k, k < 0 → parseFieldDescriptor (TJx9f9b0 k).2.2.1 = some (tyJx9f9b0 k) := by decide +kernel
def RJ11 : String := "java/lang/Character"
def TJ11 : u_T := fun k => match k with
  | _ => ("", "", "", false)
def tyJ11 : Nat → FieldType := fun k => match k with
  | _ => .int
abbrev wsJ110 : List Cond := u_ws RJ11 TJ11 0
theorem nmJ11 : ∀ a, a < 0 → ∀ b, b < 0 → a ≠ b → (TJ11 a).2.1 ≠ (TJ11 b).2.1 := by decide +kernel
theorem tyJ11_ok : ∀ k, k < 0 → parseFieldDescriptor (TJ11 k).2.2.1 = some (tyJ11 k) := by decide +kernel
abbrev cJ11_isValidCodePoint_9a6ad : ByteArray := prog_10_method_11_code
def yJ11_isValidCodePoint_9a6ad : MethodName := ⟨RJ11, "isValidCodePoint", "(I)Z"⟩
abbrev cJ11_highSurrogate_5068e : ByteArray := prog_10_method_28_code
def yJ11_highSurrogate_5068e : MethodName := ⟨RJ11, "highSurrogate", "(I)C"⟩
abbrev cJ11_lowSurrogate_5068e : ByteArray := prog_10_method_29_code
def yJ11_lowSurrogate_5068e : MethodName := ⟨RJ11, "lowSurrogate", "(I)C"⟩
def RJxb160c : String := "java/lang/Comparable"
def TJxb160c : u_T := fun k => match k with
  | _ => ("", "", "", false)
def tyJxb160c : Nat → FieldType := fun k => match k with
  | _ => .int
abbrev wsJxb160c0 : List Cond := u_ws RJxb160c TJxb160c 0
theorem nmJxb160c : ∀ a, a < 0 → ∀ b, b < 0 → a ≠ b → (TJxb160c a).2.1 ≠ (TJxb160c b).2.1 := by decide +kernel
theorem tyJxb160c_ok : ∀ k, k < 0 → parseFieldDescriptor (TJxb160c k).2.2.1 = some (tyJxb160c k) := by decide +kernel
def RJ6 : String := "java/lang/Integer"
def TJ6 : u_T := fun k => match k with
  | _ => ("", "", "", false)
def tyJ6 : Nat → FieldType := fun k => match k with
  | _ => .int
abbrev wsJ60 : List Cond := u_ws RJ6 TJ6 0
theorem nmJ6 : ∀ a, a < 0 → ∀ b, b < 0 → a ≠ b → (TJ6 a).2.1 ≠ (TJ6 b).2.1 := by decide +kernel
theorem tyJ6_ok : ∀ k, k < 0 → parseFieldDescriptor (TJ6 k).2.2.1 = some (tyJ6 k) := by decide +kernel
abbrev cJ6_bitCount_0f7a4 : ByteArray := prog_11_method_49_code
def yJ6_bitCount_0f7a4 : MethodName := ⟨RJ6, "bitCount", "(I)I"⟩
def RJ9 : String := "java/lang/Math"
def TJ9 : u_T := fun k => match k with
  | _ => ("", "", "", false)
def tyJ9 : Nat → FieldType := fun k => match k with
  | _ => .int
abbrev wsJ90 : List Cond := u_ws RJ9 TJ9 0
theorem nmJ9 : ∀ a, a < 0 → ∀ b, b < 0 → a ≠ b → (TJ9 a).2.1 ≠ (TJ9 b).2.1 := by decide +kernel
theorem tyJ9_ok : ∀ k, k < 0 → parseFieldDescriptor (TJ9 k).2.2.1 = some (tyJ9 k) := by decide +kernel
abbrev cJ9_max_7cf53 : ByteArray := prog_12_method_65_code
def yJ9_max_7cf53 : MethodName := ⟨RJ9, "max", "(II)I"⟩
abbrev cJ9_min_7cf53 : ByteArray := prog_12_method_69_code
def yJ9_min_7cf53 : MethodName := ⟨RJ9, "min", "(II)I"⟩
def RJ0 : String := "java/lang/String"
def TJ0 : u_T := fun k => match k with
  | _ => ("", "", "", false)
def tyJ0 : Nat → FieldType := fun k => match k with
  | _ => .int
abbrev wsJ00 : List Cond := u_ws RJ0 TJ0 0
theorem nmJ0 : ∀ a, a < 0 → ∀ b, b < 0 → a ≠ b → (TJ0 a).2.1 ≠ (TJ0 b).2.1 := by decide +kernel
theorem tyJ0_ok : ∀ k, k < 0 → parseFieldDescriptor (TJ0 k).2.2.1 = some (tyJ0 k) := by decide +kernel
abbrev cJ0_length_8abf5 : ByteArray := prog_13_method_54_code
def yJ0_length_8abf5 : MethodName := ⟨RJ0, "length", "()I"⟩
abbrev cJ0_charAt_5068e : ByteArray := prog_13_method_56_code
def yJ0_charAt_5068e : MethodName := ⟨RJ0, "charAt", "(I)C"⟩
abbrev cJ0_indexOf_0f7a4 : ByteArray := prog_13_method_79_code
def yJ0_indexOf_0f7a4 : MethodName := ⟨RJ0, "indexOf", "(I)I"⟩
abbrev cJ0_indexOf_7cf53 : ByteArray := prog_13_method_80_code
def yJ0_indexOf_7cf53 : MethodName := ⟨RJ0, "indexOf", "(II)I"⟩
abbrev cJ0_coder_7d493 : ByteArray := prog_13_method_152_code
def yJ0_coder_7d493 : MethodName := ⟨RJ0, "coder", "()B"⟩
abbrev cJ0_isLatin1_aae02 : ByteArray := prog_13_method_154_code
def yJ0_isLatin1_aae02 : MethodName := ⟨RJ0, "isLatin1", "()Z"⟩
abbrev cJ0_checkIndex_df160 : ByteArray := prog_13_method_155_code
def yJ0_checkIndex_df160 : MethodName := ⟨RJ0, "checkIndex", "(II)V"⟩
abbrev cJ0_checkBoundsBeginEnd_23922 : ByteArray := prog_13_method_158_code
def yJ0_checkBoundsBeginEnd_23922 : MethodName := ⟨RJ0, "checkBoundsBeginEnd", "(III)V"⟩
def RJ1 : String := "java/lang/StringLatin1"
def TJ1 : u_T := fun k => match k with
  | _ => ("", "", "", false)
def tyJ1 : Nat → FieldType := fun k => match k with
  | _ => .int
abbrev wsJ10 : List Cond := u_ws RJ1 TJ1 0
theorem nmJ1 : ∀ a, a < 0 → ∀ b, b < 0 → a ≠ b → (TJ1 a).2.1 ≠ (TJ1 b).2.1 := by decide +kernel
theorem tyJ1_ok : ∀ k, k < 0 → parseFieldDescriptor (TJ1 k).2.2.1 = some (tyJ1 k) := by decide +kernel
abbrev cJ1_charAt_3b067 : ByteArray := prog_14_method_2_code
def yJ1_charAt_3b067 : MethodName := ⟨RJ1, "charAt", "([BI)C"⟩
abbrev cJ1_canEncode_9a6ad : ByteArray := prog_14_method_4_code
def yJ1_canEncode_9a6ad : MethodName := ⟨RJ1, "canEncode", "(I)Z"⟩
abbrev cJ1_indexOf_4cfef : ByteArray := prog_14_method_22_code
def yJ1_indexOf_4cfef : MethodName := ⟨RJ1, "indexOf", "([BIII)I"⟩
abbrev cJ1_indexOfChar_4cfef : ByteArray := prog_14_method_23_code
def yJ1_indexOfChar_4cfef : MethodName := ⟨RJ1, "indexOfChar", "([BIII)I"⟩
def RJ2 : String := "java/lang/StringUTF16"
def TJ2 : u_T := fun k => match k with
  | _ => ("", "", "", false)
def tyJ2 : Nat → FieldType := fun k => match k with
  | _ => .int
abbrev wsJ20 : List Cond := u_ws RJ2 TJ2 0
theorem nmJ2 : ∀ a, a < 0 → ∀ b, b < 0 → a ≠ b → (TJ2 a).2.1 ≠ (TJ2 b).2.1 := by decide +kernel
theorem tyJ2_ok : ∀ k, k < 0 → parseFieldDescriptor (TJ2 k).2.2.1 = some (tyJ2 k) := by decide +kernel
abbrev cJ2_getChar_3b067 : ByteArray := prog_15_method_5_code
def yJ2_getChar_3b067 : MethodName := ⟨RJ2, "getChar", "([BI)C"⟩
abbrev cJ2_length_9d52b : ByteArray := prog_15_method_6_code
def yJ2_length_9d52b : MethodName := ⟨RJ2, "length", "([B)I"⟩
abbrev cJ2_indexOf_4cfef : ByteArray := prog_15_method_40_code
def yJ2_indexOf_4cfef : MethodName := ⟨RJ2, "indexOf", "([BIII)I"⟩
abbrev cJ2_indexOfChar_4cfef : ByteArray := prog_15_method_47_code
def yJ2_indexOfChar_4cfef : MethodName := ⟨RJ2, "indexOfChar", "([BIII)I"⟩
abbrev cJ2_indexOfCharUnsafe_4cfef : ByteArray := prog_15_method_48_code
def yJ2_indexOfCharUnsafe_4cfef : MethodName := ⟨RJ2, "indexOfCharUnsafe", "([BIII)I"⟩
abbrev cJ2_indexOfSupplementary_4cfef : ByteArray := prog_15_method_49_code
def yJ2_indexOfSupplementary_4cfef : MethodName := ⟨RJ2, "indexOfSupplementary", "([BIII)I"⟩
abbrev cJ2_charAt_3b067 : ByteArray := prog_15_method_83_code
def yJ2_charAt_3b067 : MethodName := ⟨RJ2, "charAt", "([BI)C"⟩
abbrev cJ2_checkIndex_2214a : ByteArray := prog_15_method_91_code
def yJ2_checkIndex_2214a : MethodName := ⟨RJ2, "checkIndex", "(I[B)V"⟩
abbrev cJ2_checkBoundsBeginEnd_d044e : ByteArray := prog_15_method_93_code
def yJ2_checkBoundsBeginEnd_d044e : MethodName := ⟨RJ2, "checkBoundsBeginEnd", "(II[B)V"⟩
def RJ10 : String := "java/lang/System"
def TJ10 : u_T := fun k => match k with
  | _ => ("", "", "", false)
def tyJ10 : Nat → FieldType := fun k => match k with
  | _ => .int
abbrev wsJ100 : List Cond := u_ws RJ10 TJ10 0
theorem nmJ10 : ∀ a, a < 0 → ∀ b, b < 0 → a ≠ b → (TJ10 a).2.1 ≠ (TJ10 b).2.1 := by decide +kernel
theorem tyJ10_ok : ∀ k, k < 0 → parseFieldDescriptor (TJ10 k).2.2.1 = some (tyJ10 k) := by decide +kernel
def RJxfd54e : String := "java/lang/constant/Constable"
def TJxfd54e : u_T := fun k => match k with
  | _ => ("", "", "", false)
def tyJxfd54e : Nat → FieldType := fun k => match k with
  | _ => .int
abbrev wsJxfd54e0 : List Cond := u_ws RJxfd54e TJxfd54e 0
theorem nmJxfd54e : ∀ a, a < 0 → ∀ b, b < 0 → a ≠ b → (TJxfd54e a).2.1 ≠ (TJxfd54e b).2.1 := by decide +kernel
theorem tyJxfd54e_ok : ∀ k, k < 0 → parseFieldDescriptor (TJxfd54e k).2.2.1 = some (tyJxfd54e k) := by decide +kernel
def RJx3cf43 : String := "java/lang/constant/ConstantDesc"
def TJx3cf43 : u_T := fun k => match k with
  | _ => ("", "", "", false)
def tyJx3cf43 : Nat → FieldType := fun k => match k with
  | _ => .int
abbrev wsJx3cf430 : List Cond := u_ws RJx3cf43 TJx3cf43 0
theorem nmJx3cf43 : ∀ a, a < 0 → ∀ b, b < 0 → a ≠ b → (TJx3cf43 a).2.1 ≠ (TJx3cf43 b).2.1 := by decide +kernel
theorem tyJx3cf43_ok : ∀ k, k < 0 → parseFieldDescriptor (TJx3cf43 k).2.2.1 = some (tyJx3cf43 k) := by decide +kernel
def RJ7 : String := "java/util/Arrays"
def TJ7 : u_T := fun k => match k with
  | _ => ("", "", "", false)
def tyJ7 : Nat → FieldType := fun k => match k with
  | _ => .int
abbrev wsJ70 : List Cond := u_ws RJ7 TJ7 0
theorem nmJ7 : ∀ a, a < 0 → ∀ b, b < 0 → a ≠ b → (TJ7 a).2.1 ≠ (TJ7 b).2.1 := by decide +kernel
theorem tyJ7_ok : ∀ k, k < 0 → parseFieldDescriptor (TJ7 k).2.2.1 = some (tyJ7 k) := by decide +kernel
abbrev cJ7_fill_53178 : ByteArray := prog_17_method_103_code
def yJ7_fill_53178 : MethodName := ⟨RJ7, "fill", "([II)V"⟩
abbrev cJ7_fill_031fb : ByteArray := prog_17_method_109_code
def yJ7_fill_031fb : MethodName := ⟨RJ7, "fill", "([BB)V"⟩
def RJ3 : String := "jdk/internal/util/Preconditions"
def TJ3 : u_T := fun k => match k with
  | _ => ("", "", "", false)
def tyJ3 : Nat → FieldType := fun k => match k with
  | _ => .int
abbrev wsJ30 : List Cond := u_ws RJ3 TJ3 0
theorem nmJ3 : ∀ a, a < 0 → ∀ b, b < 0 → a ≠ b → (TJ3 a).2.1 ≠ (TJ3 b).2.1 := by decide +kernel
theorem tyJ3_ok : ∀ k, k < 0 → parseFieldDescriptor (TJ3 k).2.2.1 = some (tyJ3 k) := by decide +kernel
abbrev cJ3_checkIndex_8e157 : ByteArray := prog_18_method_11_code
def yJ3_checkIndex_8e157 : MethodName := ⟨RJ3, "checkIndex", "(IILjava/util/function/BiFunction;)I"⟩
abbrev cJ3_checkFromToIndex_8c36e : ByteArray := prog_18_method_12_code
def yJ3_checkFromToIndex_8c36e : MethodName := ⟨RJ3, "checkFromToIndex", "(IIILjava/util/function/BiFunction;)I"⟩
def RL : String := "RecursionSchemesLaw"
abbrev cL_law : ByteArray := code
def yL_law : MethodName := ⟨RL, "law", "([I)Z"⟩
end
section
/-! tables: constant pools and methods, by program (wip/whole/gen/tab.py) -/
def tN (o : Nat) : String := match o with
  | 0 => RX0
  | 1 => RX1
  | 2 => RX2
  | 3 => RX3
  | 4 => RX4
  | 5 => RX5
  | 6 => RX6
  | 7 => RX7
  | 8 => RL
  | 9 => RJ0
  | 10 => RJ1
  | 11 => RJ3
  | 12 => RJ6
  | 13 => RJ7
  | _ => RJ9
/-- fields: pool of class o at idx: class ci, slot k, place of the word -/
def tF : List (Nat × Nat × Nat × Nat) := [(30009, 3, 0, 32), (30015, 3, 1, 33), (30019, 3, 2, 34), (20015, 2, 0, 59), (20021, 2, 1, 60), (10011, 1, 0, 82), (10020, 1, 1, 83), (10024, 1, 2, 84), (10027, 1, 3, 85), (40009, 4, 0, 103), (40017, 4, 1, 104), (40024, 4, 2, 105), (40028, 4, 3, 106), (40032, 4, 4, 107), (40035, 4, 5, 108), (40038, 4, 6, 109), (50009, 5, 0, 133), (50017, 5, 1, 134), (50020, 5, 2, 135), (50023, 5, 3, 136), (50027, 5, 4, 137), (50031, 5, 5, 138), (11, 0, 0, 161), (18, 0, 1, 162), (22, 0, 2, 163), (60010, 6, 0, 173), (60019, 6, 1, 174), (60028, 6, 2, 175), (60035, 6, 3, 176), (60042, 6, 4, 177), (60046, 6, 5, 178), (60050, 6, 6, 179), (60054, 6, 7, 180), (60062, 6, 8, 181), (60066, 6, 9, 182), (60069, 6, 10, 183), (70007, 7, 0, 805), (70081, 7, 1, 806), (70013, 7, 2, 807), (70016, 7, 3, 808), (70019, 7, 4, 809), (70022, 7, 5, 810), (70113, 7, 6, 811), (70132, 7, 7, 812), (70025, 7, 8, 813), (70028, 7, 9, 814), (70032, 7, 10, 815), (70157, 7, 11, 816), (70035, 7, 12, 817), (70142, 7, 13, 818), (70164, 7, 14, 819), (70167, 7, 15, 820), (70170, 7, 16, 821), (70038, 7, 17, 822), (70041, 7, 18, 823), (70044, 7, 19, 824)]
/-- methods called: kind 0 static, 1 virtual, 2 <init>, 3 arraycopy, 4 Object.<init>, 5 static of a nest mate; id; place of the word -/
def tM : List (Nat × Nat × Nat × Nat) := [(80009, 2, 70, 20), (60001, 4, 0, 23), (60009, 2, 29, 28), (30003, 4, 0, 31), (60018, 2, 5, 45), (10003, 4, 0, 48), (10017, 2, 17, 52), (20003, 4, 0, 55), (20009, 0, 192, 56), (10031, 1, 7, 67), (10034, 1, 21, 71), (10037, 1, 22, 75), (10041, 0, 206, 79), (60025, 2, 44, 97), (40003, 4, 0, 100), (40021, 2, 17, 102), (60034, 2, 57, 127), (50003, 4, 0, 130), (60041, 2, 0, 154), (3, 4, 0, 157), (17, 2, 5, 160), (60059, 2, 17, 172), (80013, 1, 71, 208), (60072, 1, 32, 212), (60076, 1, 30, 216), (80018, 1, 72, 220), (60080, 1, 31, 224), (80023, 1, 73, 228), (60083, 1, 33, 232), (30022, 1, 7, 236), (30027, 1, 35, 237), (30035, 1, 42, 241), (30087, 1, 41, 245), (30092, 1, 196, 250), (90633, 1, 197, 254), (90492, 1, 199, 258), (90505, 1, 194, 264), (90335, 1, 198, 268), (90637, 0, 204, 272), (100088, 0, 203, 275), (100092, 0, 192, 278), (100038, 0, 193, 279), (100095, 0, 205, 282), (91062, 0, 209, 305), (30039, 5, 104, 334), (30043, 1, 36, 337), (30057, 1, 40, 341), (30031, 1, 38, 345), (30075, 1, 21, 349), (30080, 0, 39, 350), (30067, 5, 110, 353), (30084, 1, 22, 358), (30060, 1, 10, 359), (10047, 1, 24, 363), (20035, 1, 23, 367), (20029, 3, 0, 371), (30047, 1, 43, 374), (30050, 5, 106, 378), (30053, 1, 37, 381), (30064, 5, 105, 385), (30071, 1, 14, 388), (80027, 1, 74, 392), (60087, 1, 8, 396), (10051, 3, 0, 400), (60090, 1, 2, 401), (60093, 1, 16, 405), (80031, 1, 75, 409), (60096, 0, 104, 413), (60099, 1, 9, 414), (60103, 1, 18, 418), (80035, 1, 76, 422), (60104, 1, 19, 426), (60107, 1, 20, 430), (20025, 1, 19, 434), (60111, 0, 112, 435), (60255, 1, 194, 439), (60260, 1, 195, 440), (90495, 0, 202, 444), (100009, 0, 200, 447), (91059, 0, 208, 450), (80040, 1, 77, 460), (60114, 0, 106, 464), (60117, 0, 105, 465), (60124, 1, 12, 466), (60128, 1, 13, 470), (80045, 1, 78, 474), (80049, 1, 79, 478), (60132, 1, 27, 482), (20049, 5, 104, 486), (80053, 1, 80, 487), (60135, 1, 34, 491), (60139, 1, 3, 495), (25, 1, 8, 499), (29, 0, 193, 500), (60142, 1, 10, 501), (80057, 1, 81, 502), (60146, 0, 108, 506), (60250, 0, 110, 509), (60150, 1, 14, 510), (80062, 1, 82, 511), (60154, 1, 15, 515), (10061, 1, 14, 519), (80066, 1, 83, 520), (60158, 1, 26, 524), (20043, 1, 25, 528), (20039, 5, 110, 532), (20046, 1, 22, 533), (80070, 1, 84, 534), (60162, 1, 11, 538), (10057, 1, 28, 542), (80074, 1, 85, 546), (60165, 1, 4, 550), (60169, 1, 1, 554), (80078, 1, 86, 558), (60170, 0, 117, 562), (60241, 0, 116, 567), (60173, 1, 45, 570), (40042, 1, 6, 574), (40048, 0, 206, 578), (40054, 1, 21, 579), (40057, 1, 22, 580), (40061, 0, 54, 581), (40091, 1, 55, 584), (40095, 1, 20, 588), (40109, 5, 104, 589), (40112, 1, 9, 590), (40116, 1, 26, 591), (40120, 1, 24, 592), (40084, 5, 105, 593), (40075, 5, 110, 594), (40098, 1, 25, 595), (40101, 1, 23, 596), (40105, 5, 116, 597), (40065, 1, 56, 598), (40081, 5, 106, 602), (40087, 1, 12, 603), (40124, 1, 13, 604), (60177, 1, 46, 605), (40068, 1, 52, 609), (40071, 5, 112, 613), (80082, 1, 87, 614), (60180, 1, 47, 618), (80086, 1, 88, 622), (60183, 1, 48, 626), (80090, 1, 89, 630), (60186, 0, 107, 634), (60189, 1, 50, 637), (80094, 1, 90, 641), (60192, 1, 51, 645), (40078, 1, 53, 649), (60195, 0, 118, 653), (80098, 1, 91, 656), (60198, 1, 58, 660), (50034, 1, 6, 664), (50040, 1, 65, 665), (50069, 1, 66, 669), (50079, 1, 12, 673), (50083, 5, 110, 674), (50060, 5, 114, 675), (50086, 1, 13, 678), (50063, 5, 115, 679), (50073, 0, 207, 682), (50043, 1, 67, 685), (50051, 0, 64, 689), (50066, 5, 111, 692), (50090, 1, 9, 695), (50094, 1, 68, 696), (50104, 1, 18, 700), (50109, 1, 20, 701), (50112, 5, 113, 702), (50115, 1, 69, 705), (50098, 3, 0, 709), (60201, 1, 59, 710), (50047, 1, 61, 714), (80102, 1, 92, 718), (60204, 1, 60, 722), (80106, 1, 93, 726), (60207, 1, 62, 730), (50055, 0, 191, 734), (80110, 1, 94, 740), (60210, 0, 109, 744), (60219, 0, 111, 747), (60213, 0, 113, 748), (60217, 1, 61, 749), (80114, 1, 95, 750), (60222, 1, 63, 754), (80120, 1, 96, 758), (60225, 0, 100, 762), (60231, 1, 101, 766), (60244, 1, 102, 770), (60247, 1, 103, 774), (80125, 1, 97, 778), (60234, 1, 49, 782), (80130, 1, 98, 788), (80134, 1, 99, 792), (80012, 2, 119, 798), (70001, 4, 0, 801), (70047, 0, 120, 802), (80017, 1, 130, 866), (70055, 0, 122, 871), (80022, 1, 131, 874), (80026, 1, 136, 878), (70105, 1, 135, 882), (70102, 1, 134, 886), (70070, 0, 123, 890), (70091, 1, 132, 895), (70085, 0, 128, 899), (70076, 0, 127, 902), (70063, 0, 124, 905), (70067, 0, 125, 910), (70073, 0, 126, 913), (70099, 1, 133, 918), (80030, 1, 138, 923), (70109, 0, 121, 927), (70116, 0, 137, 930), (80034, 1, 142, 933), (70122, 0, 139, 937), (80039, 1, 143, 941), (80044, 1, 144, 945), (70126, 0, 140, 949), (70129, 0, 141, 952), (80048, 1, 145, 955), (80052, 1, 146, 959), (80056, 1, 149, 963), (70135, 1, 147, 967), (70138, 0, 148, 971), (80061, 1, 150, 974), (80065, 1, 151, 978), (80069, 1, 155, 982), (70153, 1, 153, 986), (70145, 1, 152, 990), (70160, 1, 154, 994), (70149, 0, 129, 998), (80073, 1, 156, 1001), (80077, 1, 157, 1005), (80081, 1, 165, 1009), (70189, 0, 163, 1013), (70192, 1, 164, 1016), (70179, 1, 160, 1020), (70173, 1, 158, 1024), (70182, 0, 162, 1028), (70185, 1, 161, 1031), (70176, 1, 159, 1035), (80085, 1, 166, 1039), (80089, 1, 167, 1043), (80093, 1, 170, 1047), (70201, 1, 169, 1052), (70196, 0, 168, 1056), (80097, 1, 171, 1059), (80101, 1, 179, 1063), (70226, 1, 178, 1067), (70223, 1, 177, 1071), (70219, 1, 176, 1075), (70216, 1, 175, 1079), (70208, 1, 174, 1083), (70212, 1, 173, 1087), (70204, 0, 172, 1091), (80105, 1, 180, 1094), (80109, 1, 182, 1098), (70229, 1, 181, 1102), (80113, 1, 183, 1106), (80117, 1, 184, 1111), (80124, 1, 187, 1115), (70238, 0, 186, 1120), (70242, 1, 185, 1124), (80129, 1, 188, 1128), (80133, 1, 189, 1135), (80137, 1, 190, 1139)]
def tI : List (Nat × Int32 × Nat) := [(60264, 999999, 565), (60265, 100000, 566), (120265, 1431655765, 737), (120266, 858993459, 738), (120267, 252645135, 739)]
def tJ : List (Nat × Int64 × Nat) := [(60229, 10000, 765), (60237, 6364136223846793005, 786), (60239, 1442695040888963407, 787), (70079, 255, 870), (70051, 70, 893), (70053, 72, 894), (70059, 97, 908), (70061, 100, 909), (70095, 48, 916), (70097, 50, 917), (70089, 2, 922), (70120, 3, 940), (70199, 6, 1051), (70232, 7, 1110), (70236, 4, 1119), (70234, 10000, 1123), (70246, 30, 1132), (70248, 6364136223846793005, 1133), (70250, 1442695040888963407, 1134), (80118, 4294967295, 1143)]
def tC : List (Nat × Nat × Nat) := [(80007, 6, 18), (60007, 3, 26), (60016, 1, 43), (10009, 2, 49), (60023, 4, 95), (40015, 2, 101), (60032, 5, 125), (60039, 0, 152), (9, 1, 158), (60057, 2, 171), (80010, 7, 796)]
abbrev Mi : Type := MethodName × ByteArray × Nat × Option FieldType × Nat × Nat × Bool × Bool
/-- a method: name, code, locals, what it returns, parameters, class, <init>, static -/
def tY0 : List Mi := [(yX0_init, cX0_init, 2, none, 0, 0, true, false), (yX0_size, cX0_size, 1, some (.int), 0, 0, false, false), (yX0_forget, cX0_forget, 1, none, 0, 0, false, false), (yX0_remember, cX0_remember, 2, none, 1, 0, false, false), (yX0_takeBack, cX0_takeBack, 2, some (.boolean), 1, 0, false, false), (yX1_init, cX1_init, 2, none, 0, 1, true, false), (yX1_edits, cX1_edits, 1, some (.int), 0, 1, false, false), (yX1_reset, cX1_reset, 2, none, 0, 1, false, false), (yX1_become, cX1_become, 3, none, 1, 1, false, false), (yX1_body, cX1_body, 2, some (.object "RecursionSchemes$Term"), 1, 1, false, false), (yX1_changeBody, cX1_changeBody, 3, none, 2, 1, false, false), (yX1_swapFAndG, cX1_swapFAndG, 3, some (.int), 0, 1, false, false), (yX1_canRead, cX1_canRead, 3, some (.boolean), 2, 1, false, false), (yX1_target, cX1_target, 4, some (.int), 3, 1, false, false), (yX1_putTransition, cX1_putTransition, 5, none, 4, 1, false, false), (yX1_dropTransition, cX1_dropTransition, 3, none, 2, 1, false, false), (yX1_transitionCount, cX1_transitionCount, 3, some (.int), 0, 1, false, false), (yX2_init, cX2_init, 2, none, 1, 2, true, false), (yX2_size, cX2_size, 1, some (.int), 0, 2, false, false), (yX2_holds, cX2_holds, 2, some (.boolean), 1, 2, false, false), (yX2_symbol, cX2_symbol, 2, some (.int), 1, 2, false, false), (yX2_empty, cX2_empty, 1, none, 0, 2, false, false), (yX2_add, cX2_add, 2, some (.boolean), 1, 2, false, false), (yX2_addPart, cX2_addPart, 5, some (.boolean), 3, 2, false, false)]
def tY1 : List Mi := [(yX2_become, cX2_become, 2, none, 1, 2, false, false), (yX2_endOf, cX2_endOf, 4, some (.int), 1, 2, false, false), (yX2_expand, cX2_expand, 9, some (.boolean), 3, 2, false, false), (yX2_nonterminals, cX2_nonterminals, 4, some (.int), 0, 2, false, false), (yX2_swapSymbols, cX2_swapSymbols, 5, some (.int), 2, 2, false, false), (yX3_init, cX3_init, 1, none, 0, 3, true, false), (yX3_size, cX3_size, 1, some (.int), 0, 3, false, false), (yX3_empty, cX3_empty, 1, none, 0, 3, false, false), (yX3_add, cX3_add, 2, some (.boolean), 1, 3, false, false), (yX3_readSetup, cX3_readSetup, 4, some (.int), 2, 3, false, false), (yX3_isBody, cX3_isBody, 3, some (.boolean), 2, 3, false, false), (yX3_readItem, cX3_readItem, 5, some (.boolean), 2, 3, false, false), (yX3_readRule, cX3_readRule, 4, some (.boolean), 3, 3, false, false), (yX3_readTransition, cX3_readTransition, 8, some (.boolean), 2, 3, false, false), (yX3_readBody, cX3_readBody, 6, some (.boolean), 2, 3, false, false), (yX3_mayContain, cX3_mayContain, 2, some (.boolean), 2, 3, false, true), (yX3_skip, cX3_skip, 2, some (.boolean), 1, 3, false, false), (yX3_characterHere, cX3_characterHere, 1, some (.int), 0, 3, false, false), (yX3_symbolHere, cX3_symbolHere, 2, some (.int), 0, 3, false, false), (yX3_stateHere, cX3_stateHere, 1, some (.int), 0, 3, false, false), (yX4_init, cX4_init, 3, none, 1, 4, true, false), (yX4_upToDate, cX4_upToDate, 1, some (.object "RecursionSchemes$Tree"), 0, 4, false, false), (yX4_labelCode, cX4_labelCode, 2, some (.int), 1, 4, false, false), (yX4_expansionsTo, cX4_expansionsTo, 2, some (.int), 1, 4, false, false)]
def tY2 : List Mi := [(yX4_stateOf, cX4_stateOf, 2, some (.int), 1, 4, false, false), (yX4_childCount, cX4_childCount, 2, some (.int), 1, 4, false, false), (yX4_countAt, cX4_countAt, 4, some (.int), 1, 4, false, false), (yX4_firstWrong, cX4_firstWrong, 3, some (.int), 1, 4, false, false), (yX4_exists, cX4_exists, 2, some (.boolean), 1, 4, false, false), (yX4_isWrong, cX4_isWrong, 2, some (.boolean), 1, 4, false, false), (yX4_unfold, cX4_unfold, 10, none, 4, 4, false, true), (yX4_evaluate, cX4_evaluate, 4, some (.int), 1, 4, false, false), (yX4_runAutomaton, cX4_runAutomaton, 4, none, 0, 4, false, false), (yX5_init, cX5_init, 2, none, 1, 5, true, false), (yX5_upToDate, cX5_upToDate, 2, some (.object "RecursionSchemes$TypeCheck"), 0, 5, false, false), (yX5_acceptance, cX5_acceptance, 1, some (.int), 0, 5, false, false), (yX5_roundCount, cX5_roundCount, 1, some (.int), 0, 5, false, false), (yX5_holds, cX5_holds, 4, some (.boolean), 3, 5, false, false), (yX5_validCount, cX5_validCount, 4, some (.int), 1, 5, false, false), (yX5_commonSet, cX5_commonSet, 7, some (.int), 3, 5, false, false), (yX5_settingsOf, cX5_settingsOf, 1, some (.int), 1, 5, false, true), (yX5_start, cX5_start, 3, none, 0, 5, false, false), (yX5_terminalTypes, cX5_terminalTypes, 6, some (.int), 2, 5, false, false), (yX5_removeUnjustified, cX5_removeUnjustified, 6, some (.boolean), 0, 5, false, false), (yX5_bodyTypes, cX5_bodyTypes, 9, some (.int), 2, 5, false, false), (yX5_symbolTypes, cX5_symbolTypes, 4, some (.int), 3, 5, false, false), (yX6_init, cX6_init, 2, none, 0, 6, true, false), (yX6_append, cX6_append, 2, some (.int), 1, 6, false, false)]
def tY3 : List Mi := [(yX6_clearText, cX6_clearText, 2, some (.int), 0, 6, false, false), (yX6_errorPosition, cX6_errorPosition, 1, some (.int), 0, 6, false, false), (yX6_load, cX6_load, 2, some (.int), 0, 6, false, false), (yX6_bodyLength, cX6_bodyLength, 2, some (.int), 1, 6, false, false), (yX6_bodySymbol, cX6_bodySymbol, 3, some (.int), 2, 6, false, false), (yX6_transition, cX6_transition, 4, some (.int), 3, 6, false, false), (yX6_hasTransition, cX6_hasTransition, 3, some (.int), 2, 6, false, false), (yX6_reachable, cX6_reachable, 4, some (.int), 0, 6, false, false), (yX6_setBody, cX6_setBody, 2, some (.int), 1, 6, false, false), (yX6_setTransition, cX6_setTransition, 6, some (.int), 4, 6, false, false), (yX6_removeTransition, cX6_removeTransition, 3, some (.int), 2, 6, false, false), (yX6_inline, cX6_inline, 4, some (.int), 2, 6, false, false), (yX6_exchange, cX6_exchange, 1, some (.int), 0, 6, false, false), (yX6_undo, cX6_undo, 1, some (.int), 0, 6, false, false), (yX6_labelAt, cX6_labelAt, 3, some (.int), 1, 6, false, false), (yX6_expansionsAt, cX6_expansionsAt, 3, some (.int), 1, 6, false, false), (yX6_stateAt, cX6_stateAt, 3, some (.int), 1, 6, false, false), (yX6_nodesAtDepth, cX6_nodesAtDepth, 2, some (.int), 1, 6, false, false), (yX6_wrongBranch, cX6_wrongBranch, 3, some (.int), 1, 6, false, false), (yX6_accepts, cX6_accepts, 1, some (.int), 0, 6, false, false), (yX6_rounds, cX6_rounds, 1, some (.int), 0, 6, false, false), (yX6_typingCount, cX6_typingCount, 2, some (.int), 1, 6, false, false), (yX6_isValid, cX6_isValid, 5, some (.int), 4, 6, false, false), (yX6_demand, cX6_demand, 4, some (.int), 3, 6, false, false)]
def tY4 : List Mi := [(yX6_runScript, cX6_runScript, 6, some (.int), 2, 6, false, false), (yX6_descend, cX6_descend, 11, some (.int), 2, 6, false, false), (yX6_save, cX6_save, 2, some (.int), 1, 6, false, false), (yX6_restore, cX6_restore, 2, some (.int), 1, 6, false, false), (yX6_withoutLastGroups, cX6_withoutLastGroups, 6, some (.long), 2, 6, false, true), (yX6_commandSucceeds, cX6_commandSucceeds, 6, some (.boolean), 1, 6, false, false), (yX6_removeFromCopy, cX6_removeFromCopy, 3, some (.boolean), 2, 6, false, false), (yX6_setBInCopy, cX6_setBInCopy, 3, some (.boolean), 2, 6, false, false), (yX6_isNonterminal, cX6_isNonterminal, 1, some (.boolean), 1, 6, false, true), (yX6_isTerminal, cX6_isTerminal, 1, some (.boolean), 1, 6, false, true), (yX6_isState, cX6_isState, 1, some (.boolean), 1, 6, false, true), (yX6_isDepth, cX6_isDepth, 1, some (.boolean), 1, 6, false, true), (yX6_suitsChild, cX6_suitsChild, 3, some (.boolean), 3, 6, false, true), (yX6_suitsParameter, cX6_suitsParameter, 3, some (.boolean), 3, 6, false, true), (yX6_arityOf, cX6_arityOf, 1, some (.int), 1, 6, false, true), (yX6_arityOfNonterminal, cX6_arityOfNonterminal, 1, some (.int), 1, 6, false, true), (yX6_codeOf, cX6_codeOf, 1, some (.int), 1, 6, false, true), (yX6_setsOf, cX6_setsOf, 2, some (.int), 2, 6, false, true), (yX6_firstOf, cX6_firstOf, 1, some (.int), 1, 6, false, true), (yX6_secondOf, cX6_secondOf, 1, some (.int), 1, 6, false, true), (yX6_childOf, cX6_childOf, 2, some (.int), 2, 6, false, true), (yX6_nodeOf, cX6_nodeOf, 4, some (.int), 1, 6, false, true), (yX6_pathOf, cX6_pathOf, 4, some (.int), 1, 6, false, true), (yX7_init, cX7_init, 1, none, 0, 7, true, false)]
def tY5 : List Mi := [(yX7_clear, cX7_clear, 2, none, 1, 7, false, true), (yX7_copy, cX7_copy, 3, none, 2, 7, false, true), (yX7_in, cX7_in, 6, some (.boolean), 3, 7, false, true), (yX7_nonterminal, cX7_nonterminal, 1, some (.int), 1, 7, false, true), (yX7_terminal, cX7_terminal, 1, some (.int), 1, 7, false, true), (yX7_places, cX7_places, 1, some (.int), 1, 7, false, true), (yX7_parameters, cX7_parameters, 1, some (.int), 1, 7, false, true), (yX7_wants, cX7_wants, 1, some (.int), 1, 7, false, true), (yX7_isAllowed, cX7_isAllowed, 3, some (.boolean), 2, 7, false, true), (yX7_endOf, cX7_endOf, 4, some (.int), 2, 7, false, true), (yX7_append, cX7_append, 2, some (.int), 1, 7, false, false), (yX7_clearText, cX7_clearText, 2, some (.int), 0, 7, false, false), (yX7_readBody, cX7_readBody, 5, some (.int), 2, 7, false, false), (yX7_readStep, cX7_readStep, 8, some (.int), 1, 7, false, false), (yX7_readItem, cX7_readItem, 3, some (.int), 1, 7, false, false), (yX7_readText, cX7_readText, 2, some (.int), 0, 7, false, false), (yX7_errorPosition, cX7_errorPosition, 1, some (.int), 0, 7, false, false), (yX7_stepsOf, cX7_stepsOf, 3, some (.int), 1, 7, false, true), (yX7_load, cX7_load, 1, some (.int), 0, 7, false, false), (yX7_isNonterminal, cX7_isNonterminal, 1, some (.boolean), 1, 7, false, true), (yX7_isPair, cX7_isPair, 2, some (.boolean), 2, 7, false, true), (yX7_stepAt, cX7_stepAt, 2, some (.int), 2, 7, false, true), (yX7_bodyLength, cX7_bodyLength, 2, some (.int), 1, 7, false, false), (yX7_bodySymbol, cX7_bodySymbol, 3, some (.int), 2, 7, false, false)]
def tY6 : List Mi := [(yX7_transition, cX7_transition, 4, some (.int), 3, 7, false, false), (yX7_hasTransition, cX7_hasTransition, 3, some (.int), 2, 7, false, false), (yX7_reachable, cX7_reachable, 6, some (.int), 0, 7, false, false), (yX7_note, cX7_note, 2, none, 0, 7, false, false), (yX7_tidy, cX7_tidy, 3, none, 2, 7, false, true), (yX7_setBody, cX7_setBody, 3, some (.int), 1, 7, false, false), (yX7_setTransition, cX7_setTransition, 7, some (.int), 4, 7, false, false), (yX7_removeTransition, cX7_removeTransition, 3, some (.int), 2, 7, false, false), (yX7_put, cX7_put, 2, none, 1, 7, false, false), (yX7_putPart, cX7_putPart, 5, none, 3, 7, false, false), (yX7_putExpanded, cX7_putExpanded, 10, some (.int), 3, 7, false, false), (yX7_inline, cX7_inline, 5, some (.int), 2, 7, false, false), (yX7_exchange, cX7_exchange, 5, some (.int), 0, 7, false, false), (yX7_undo, cX7_undo, 2, some (.int), 0, 7, false, false), (yX7_evaluate, cX7_evaluate, 5, none, 1, 7, false, false), (yX7_childrenOf, cX7_childrenOf, 2, some (.int), 1, 7, false, false), (yX7_beginWalk, cX7_beginWalk, 2, none, 1, 7, false, false), (yX7_goDown, cX7_goDown, 8, some (.boolean), 2, 7, false, false), (yX7_tens, cX7_tens, 3, some (.int), 1, 7, false, true), (yX7_stepsOfPath, cX7_stepsOfPath, 3, some (.int), 1, 7, false, true), (yX7_walk, cX7_walk, 6, some (.boolean), 3, 7, false, false), (yX7_labelAt, cX7_labelAt, 3, some (.int), 1, 7, false, false), (yX7_expansionsAt, cX7_expansionsAt, 3, some (.int), 1, 7, false, false), (yX7_stateAt, cX7_stateAt, 3, some (.int), 1, 7, false, false)]
def tY7 : List Mi := [(yX7_pathOf, cX7_pathOf, 4, some (.int), 2, 7, false, true), (yX7_nodesOf, cX7_nodesOf, 5, some (.int), 2, 7, false, false), (yX7_nodesAtDepth, cX7_nodesAtDepth, 2, some (.int), 1, 7, false, false), (yX7_wrongBranch, cX7_wrongBranch, 5, some (.int), 1, 7, false, false), (yX7_typingAt, cX7_typingAt, 4, some (.int), 4, 7, false, true), (yX7_appliedTypes, cX7_appliedTypes, 9, some (.int), 3, 7, false, false), (yX7_terminalTypes, cX7_terminalTypes, 9, some (.int), 4, 7, false, false), (yX7_bodyTypes, cX7_bodyTypes, 11, some (.int), 4, 7, false, false), (yX7_isRoundLess, cX7_isRoundLess, 7, some (.boolean), 1, 7, false, false), (yX7_check, cX7_check, 3, some (.int), 1, 7, false, false), (yX7_isAccepted, cX7_isAccepted, 3, some (.boolean), 1, 7, false, false), (yX7_accepts, cX7_accepts, 1, some (.int), 0, 7, false, false), (yX7_rounds, cX7_rounds, 1, some (.int), 0, 7, false, false), (yX7_typingsOf, cX7_typingsOf, 8, some (.int), 2, 7, false, false), (yX7_typingCount, cX7_typingCount, 2, some (.int), 1, 7, false, false), (yX7_isValid, cX7_isValid, 6, some (.int), 4, 7, false, false), (yX7_demand, cX7_demand, 9, some (.int), 3, 7, false, false), (yX7_command, cX7_command, 5, some (.boolean), 4, 7, false, false), (yX7_tenThousands, cX7_tenThousands, 4, some (.long), 1, 7, false, true), (yX7_runScript, cX7_runScript, 6, some (.int), 2, 7, false, false), (yX7_descend, cX7_descend, 10, some (.int), 2, 7, false, false), (yX7_save, cX7_save, 3, some (.int), 1, 7, false, false), (yX7_restore, cX7_restore, 3, some (.int), 1, 7, false, false), (yJ6_bitCount_0f7a4, cJ6_bitCount_0f7a4, 1, some (.int), 1, 12, false, true)]
def tY8 : List Mi := [(yJ9_max_7cf53, cJ9_max_7cf53, 2, some (.int), 2, 14, false, true), (yJ9_min_7cf53, cJ9_min_7cf53, 2, some (.int), 2, 14, false, true), (yJ0_length_8abf5, cJ0_length_8abf5, 1, some (.int), 0, 9, false, false), (yJ0_charAt_5068e, cJ0_charAt_5068e, 2, some (.char), 1, 9, false, false), (yJ0_indexOf_0f7a4, cJ0_indexOf_0f7a4, 2, some (.int), 1, 9, false, false), (yJ0_indexOf_7cf53, cJ0_indexOf_7cf53, 3, some (.int), 2, 9, false, false), (yJ0_coder_7d493, cJ0_coder_7d493, 1, some (.byte), 0, 9, false, false), (yJ0_isLatin1_aae02, cJ0_isLatin1_aae02, 1, some (.boolean), 0, 9, false, false), (yJ0_checkIndex_df160, cJ0_checkIndex_df160, 2, none, 2, 9, false, true), (yJ0_checkBoundsBeginEnd_23922, cJ0_checkBoundsBeginEnd_23922, 3, none, 3, 9, false, true), (yJ1_charAt_3b067, cJ1_charAt_3b067, 2, some (.char), 2, 10, false, true), (yJ1_canEncode_9a6ad, cJ1_canEncode_9a6ad, 1, some (.boolean), 1, 10, false, true), (yJ1_indexOf_4cfef, cJ1_indexOf_4cfef, 4, some (.int), 4, 10, false, true), (yJ1_indexOfChar_4cfef, cJ1_indexOfChar_4cfef, 6, some (.int), 4, 10, false, true), (yJ7_fill_53178, cJ7_fill_53178, 4, none, 2, 13, false, true), (yJ7_fill_031fb, cJ7_fill_031fb, 4, none, 2, 13, false, true), (yJ3_checkIndex_8e157, cJ3_checkIndex_8e157, 3, some (.int), 3, 11, false, true), (yJ3_checkFromToIndex_8c36e, cJ3_checkFromToIndex_8c36e, 4, some (.int), 4, 11, false, true)]
def tY : List Mi := tY0 ++ (tY1 ++ (tY2 ++ (tY3 ++ (tY4 ++ (tY5 ++ (tY6 ++ (tY7 ++ (tY8))))))))
abbrev i_X0_init : Nat := 0
abbrev i_X0_size : Nat := 1
abbrev i_X0_forget : Nat := 2
abbrev i_X0_remember : Nat := 3
abbrev i_X0_takeBack : Nat := 4
abbrev i_X1_init : Nat := 5
abbrev i_X1_edits : Nat := 6
abbrev i_X1_reset : Nat := 7
abbrev i_X1_become : Nat := 8
abbrev i_X1_body : Nat := 9
abbrev i_X1_changeBody : Nat := 10
abbrev i_X1_swapFAndG : Nat := 11
abbrev i_X1_canRead : Nat := 12
abbrev i_X1_target : Nat := 13
abbrev i_X1_putTransition : Nat := 14
abbrev i_X1_dropTransition : Nat := 15
abbrev i_X1_transitionCount : Nat := 16
abbrev i_X2_init : Nat := 17
abbrev i_X2_size : Nat := 18
abbrev i_X2_holds : Nat := 19
abbrev i_X2_symbol : Nat := 20
abbrev i_X2_empty : Nat := 21
abbrev i_X2_add : Nat := 22
abbrev i_X2_addPart : Nat := 23
abbrev i_X2_become : Nat := 24
abbrev i_X2_endOf : Nat := 25
abbrev i_X2_expand : Nat := 26
abbrev i_X2_nonterminals : Nat := 27
abbrev i_X2_swapSymbols : Nat := 28
abbrev i_X3_init : Nat := 29
abbrev i_X3_size : Nat := 30
abbrev i_X3_empty : Nat := 31
abbrev i_X3_add : Nat := 32
abbrev i_X3_readSetup : Nat := 33
abbrev i_X3_isBody : Nat := 34
abbrev i_X3_readItem : Nat := 35
abbrev i_X3_readRule : Nat := 36
abbrev i_X3_readTransition : Nat := 37
abbrev i_X3_readBody : Nat := 38
abbrev i_X3_mayContain : Nat := 39
abbrev i_X3_skip : Nat := 40
abbrev i_X3_characterHere : Nat := 41
abbrev i_X3_symbolHere : Nat := 42
abbrev i_X3_stateHere : Nat := 43
abbrev i_X4_init : Nat := 44
abbrev i_X4_upToDate : Nat := 45
abbrev i_X4_labelCode : Nat := 46
abbrev i_X4_expansionsTo : Nat := 47
abbrev i_X4_stateOf : Nat := 48
abbrev i_X4_childCount : Nat := 49
abbrev i_X4_countAt : Nat := 50
abbrev i_X4_firstWrong : Nat := 51
abbrev i_X4_exists : Nat := 52
abbrev i_X4_isWrong : Nat := 53
abbrev i_X4_unfold : Nat := 54
abbrev i_X4_evaluate : Nat := 55
abbrev i_X4_runAutomaton : Nat := 56
abbrev i_X5_init : Nat := 57
abbrev i_X5_upToDate : Nat := 58
abbrev i_X5_acceptance : Nat := 59
abbrev i_X5_roundCount : Nat := 60
abbrev i_X5_holds : Nat := 61
abbrev i_X5_validCount : Nat := 62
abbrev i_X5_commonSet : Nat := 63
abbrev i_X5_settingsOf : Nat := 64
abbrev i_X5_start : Nat := 65
abbrev i_X5_terminalTypes : Nat := 66
abbrev i_X5_removeUnjustified : Nat := 67
abbrev i_X5_bodyTypes : Nat := 68
abbrev i_X5_symbolTypes : Nat := 69
abbrev i_X6_init : Nat := 70
abbrev i_X6_append : Nat := 71
abbrev i_X6_clearText : Nat := 72
abbrev i_X6_errorPosition : Nat := 73
abbrev i_X6_load : Nat := 74
abbrev i_X6_bodyLength : Nat := 75
abbrev i_X6_bodySymbol : Nat := 76
abbrev i_X6_transition : Nat := 77
abbrev i_X6_hasTransition : Nat := 78
abbrev i_X6_reachable : Nat := 79
abbrev i_X6_setBody : Nat := 80
abbrev i_X6_setTransition : Nat := 81
abbrev i_X6_removeTransition : Nat := 82
abbrev i_X6_inline : Nat := 83
abbrev i_X6_exchange : Nat := 84
abbrev i_X6_undo : Nat := 85
abbrev i_X6_labelAt : Nat := 86
abbrev i_X6_expansionsAt : Nat := 87
abbrev i_X6_stateAt : Nat := 88
abbrev i_X6_nodesAtDepth : Nat := 89
abbrev i_X6_wrongBranch : Nat := 90
abbrev i_X6_accepts : Nat := 91
abbrev i_X6_rounds : Nat := 92
abbrev i_X6_typingCount : Nat := 93
abbrev i_X6_isValid : Nat := 94
abbrev i_X6_demand : Nat := 95
abbrev i_X6_runScript : Nat := 96
abbrev i_X6_descend : Nat := 97
abbrev i_X6_save : Nat := 98
abbrev i_X6_restore : Nat := 99
abbrev i_X6_withoutLastGroups : Nat := 100
abbrev i_X6_commandSucceeds : Nat := 101
abbrev i_X6_removeFromCopy : Nat := 102
abbrev i_X6_setBInCopy : Nat := 103
abbrev i_X6_isNonterminal : Nat := 104
abbrev i_X6_isTerminal : Nat := 105
abbrev i_X6_isState : Nat := 106
abbrev i_X6_isDepth : Nat := 107
abbrev i_X6_suitsChild : Nat := 108
abbrev i_X6_suitsParameter : Nat := 109
abbrev i_X6_arityOf : Nat := 110
abbrev i_X6_arityOfNonterminal : Nat := 111
abbrev i_X6_codeOf : Nat := 112
abbrev i_X6_setsOf : Nat := 113
abbrev i_X6_firstOf : Nat := 114
abbrev i_X6_secondOf : Nat := 115
abbrev i_X6_childOf : Nat := 116
abbrev i_X6_nodeOf : Nat := 117
abbrev i_X6_pathOf : Nat := 118
abbrev i_X7_init : Nat := 119
abbrev i_X7_clear : Nat := 120
abbrev i_X7_copy : Nat := 121
abbrev i_X7_in : Nat := 122
abbrev i_X7_nonterminal : Nat := 123
abbrev i_X7_terminal : Nat := 124
abbrev i_X7_places : Nat := 125
abbrev i_X7_parameters : Nat := 126
abbrev i_X7_wants : Nat := 127
abbrev i_X7_isAllowed : Nat := 128
abbrev i_X7_endOf : Nat := 129
abbrev i_X7_append : Nat := 130
abbrev i_X7_clearText : Nat := 131
abbrev i_X7_readBody : Nat := 132
abbrev i_X7_readStep : Nat := 133
abbrev i_X7_readItem : Nat := 134
abbrev i_X7_readText : Nat := 135
abbrev i_X7_errorPosition : Nat := 136
abbrev i_X7_stepsOf : Nat := 137
abbrev i_X7_load : Nat := 138
abbrev i_X7_isNonterminal : Nat := 139
abbrev i_X7_isPair : Nat := 140
abbrev i_X7_stepAt : Nat := 141
abbrev i_X7_bodyLength : Nat := 142
abbrev i_X7_bodySymbol : Nat := 143
abbrev i_X7_transition : Nat := 144
abbrev i_X7_hasTransition : Nat := 145
abbrev i_X7_reachable : Nat := 146
abbrev i_X7_note : Nat := 147
abbrev i_X7_tidy : Nat := 148
abbrev i_X7_setBody : Nat := 149
abbrev i_X7_setTransition : Nat := 150
abbrev i_X7_removeTransition : Nat := 151
abbrev i_X7_put : Nat := 152
abbrev i_X7_putPart : Nat := 153
abbrev i_X7_putExpanded : Nat := 154
abbrev i_X7_inline : Nat := 155
abbrev i_X7_exchange : Nat := 156
abbrev i_X7_undo : Nat := 157
abbrev i_X7_evaluate : Nat := 158
abbrev i_X7_childrenOf : Nat := 159
abbrev i_X7_beginWalk : Nat := 160
abbrev i_X7_goDown : Nat := 161
abbrev i_X7_tens : Nat := 162
abbrev i_X7_stepsOfPath : Nat := 163
abbrev i_X7_walk : Nat := 164
abbrev i_X7_labelAt : Nat := 165
abbrev i_X7_expansionsAt : Nat := 166
abbrev i_X7_stateAt : Nat := 167
abbrev i_X7_pathOf : Nat := 168
abbrev i_X7_nodesOf : Nat := 169
abbrev i_X7_nodesAtDepth : Nat := 170
abbrev i_X7_wrongBranch : Nat := 171
abbrev i_X7_typingAt : Nat := 172
abbrev i_X7_appliedTypes : Nat := 173
abbrev i_X7_terminalTypes : Nat := 174
abbrev i_X7_bodyTypes : Nat := 175
abbrev i_X7_isRoundLess : Nat := 176
abbrev i_X7_check : Nat := 177
abbrev i_X7_isAccepted : Nat := 178
abbrev i_X7_accepts : Nat := 179
abbrev i_X7_rounds : Nat := 180
abbrev i_X7_typingsOf : Nat := 181
abbrev i_X7_typingCount : Nat := 182
abbrev i_X7_isValid : Nat := 183
abbrev i_X7_demand : Nat := 184
abbrev i_X7_command : Nat := 185
abbrev i_X7_tenThousands : Nat := 186
abbrev i_X7_runScript : Nat := 187
abbrev i_X7_descend : Nat := 188
abbrev i_X7_save : Nat := 189
abbrev i_X7_restore : Nat := 190
abbrev i_J6_bitCount_0f7a4 : Nat := 191
abbrev i_J9_max_7cf53 : Nat := 192
abbrev i_J9_min_7cf53 : Nat := 193
abbrev i_J0_length_8abf5 : Nat := 194
abbrev i_J0_charAt_5068e : Nat := 195
abbrev i_J0_indexOf_0f7a4 : Nat := 196
abbrev i_J0_indexOf_7cf53 : Nat := 197
abbrev i_J0_coder_7d493 : Nat := 198
abbrev i_J0_isLatin1_aae02 : Nat := 199
abbrev i_J0_checkIndex_df160 : Nat := 200
abbrev i_J0_checkBoundsBeginEnd_23922 : Nat := 201
abbrev i_J1_charAt_3b067 : Nat := 202
abbrev i_J1_canEncode_9a6ad : Nat := 203
abbrev i_J1_indexOf_4cfef : Nat := 204
abbrev i_J1_indexOfChar_4cfef : Nat := 205
abbrev i_J7_fill_53178 : Nat := 206
abbrev i_J7_fill_031fb : Nat := 207
abbrev i_J3_checkIndex_8e157 : Nat := 208
abbrev i_J3_checkFromToIndex_8c36e : Nat := 209
end
section
/-! AN ABSTRACT MACHINE: the heap is a list of cells from a base address on; one step is a function; X: it comes to its end with Q. -/
abbrev Cl : Type := (Nat × Nat × (Nat → Int32)) ⊕ ((Nat × Nat × (Nat → Option Nat)) ⊕ (Nat × List Value))
abbrev Hp : Type := List Cl × Nat
abbrev Lo : Type := List (Option Value)
abbrev Ev : Type := Nat × Nat × Nat × Nat × Value × Nat × Nat × (Nat → Int32)
/-- own class, code, whether it is <init>, what it returns -/
abbrev Cx : Type := Nat × ByteArray × Bool × Option FieldType
abbrev Rs : Type := (Nat × Lo × List Value × Hp) ⊕ ((Nat × List Value × Nat × List Value) ⊕ Option Value)
abbrev Po : Type := Option Value → Hp → Prop
abbrev cA (k n : Nat) (f : Nat → Int32) : Cl := .inl (k, n, f)
abbrev cR (k n : Nat) (f : Nat → Option Nat) : Cl := .inr (.inl (k, n, f))
abbrev cO (c : Nat) (fs : List Value) : Cl := .inr (.inr (c, fs))
def eB (E : Ev) : Nat := E.1
def eS (E : Ev) : Nat := E.2.1
def eV (E : Ev) : Nat := E.2.2.1
def eA (E : Ev) : Nat := E.2.2.2.1
def eF (E : Ev) : Value := E.2.2.2.2.1
def eb (E : Ev) : Nat := E.2.2.2.2.2.1
def eL (E : Ev) : Nat := E.2.2.2.2.2.2.1
def ex (E : Ev) : Nat → Int32 := E.2.2.2.2.2.2.2
def gt (E : Ev) (G : Hp) (a : Nat) : Option Cl := if eB E ≤ a then G.1[a - eB E]? else none
def st (E : Ev) (G : Hp) (a : Nat) (c : Cl) : Hp := if eB E ≤ a then (G.1.set (a - eB E) c, G.2) else G
/-- an int by its number -/
def iv (z : Int) : Int32 := Int32.ofInt z
def nxA (E : Ev) (G : Hp) : Nat := eB E + G.1.length
def psh (G : Hp) (c : Cl) (n : Nat) : Hp := (G.1 ++ [c], G.2 + n)
/-- n arrays of bytes of length k -/
def pshs (G : Hp) (n k : Nat) : Hp := (G.1 ++ List.replicate n (cA 1 k (fun _ => 0)), G.2 + n * k)
def arit : Nat → Int32 := fun j => [2, 1, 0, 0, 0, 1, 1, 2, 0, 0].getD j 0
def byts : Nat → Int32 := fun j => [97, 98, 99, 100, 83, 70, 71, 72, 120, 121].getD j 0
def oI (o : Nat) (E : Ev) (a : Nat) : Option (Nat × (Nat → Int32)) := if o = 8 then (if a = eb E then some (eL E, ex E) else none) else if a = eA E then some (10, arit) else none
def oB (E : Ev) (a : Nat) : Option (Nat × (Nat → Int32)) := if a = eV E then some (10, byts) else none
def oL (o : Nat) (E : Ev) (a : Nat) : Option Nat := if o = 8 then (if a = eb E then some (eL E) else none) else if a = eA E then some 10 else if a = eV E then some 10 else none
def gS (E : Ev) (o idx : Nat) : Option Value := if o = 6 ∧ idx = 120 then some (.ref (eA E)) else if o = 9 ∧ idx = 38 then some (.int (iv 1)) else if o = 9 ∧ idx = 1053 then some (eF E) else none
def hT (E : Ev) (o idx a : Nat) : Option Value := if o = 9 ∧ idx = 9 ∧ a = eS E then some (.ref (eV E)) else if o = 9 ∧ idx = 15 ∧ a = eS E then some (.int (iv 0)) else none
def kS (E : Ev) (o idx : Nat) : Option Nat := if o = 3 ∧ idx = 90 then some (eS E) else if o = 6 ∧ idx = 253 then some (eS E) else none
def fF (o idx : Nat) : Option (Nat × Nat × Nat) := tF.lookup (o * 10000 + idx)
def fM (o idx : Nat) : Option (Nat × Nat × Nat) := tM.lookup (o * 10000 + idx)
def fI (o idx : Nat) : Option (Int32 × Nat) := tI.lookup (o * 10000 + idx)
def fJ (o idx : Nat) : Option (Int64 × Nat) := tJ.lookup (o * 10000 + idx)
def fC (o idx : Nat) : Option (Nat × Nat) := tC.lookup (o * 10000 + idx)
/-- a class's fields: type, final; the values of a new object -/
def fTy (ci : Nat) : Nat → FieldType := match ci with
  | 0 => tyX0 | 1 => tyX1 | 2 => tyX2 | 3 => tyX3 | 4 => tyX4 | 5 => tyX5 | 6 => tyX6 | _ => tyX7
def fTb (ci : Nat) : u_T := match ci with
  | 0 => TX0 | 1 => TX1 | 2 => TX2 | 3 => TX3 | 4 => TX4 | 5 => TX5 | 6 => TX6 | _ => TX7
def fSz (ci : Nat) : Nat := match ci with
  | 0 => 3 | 1 => 4 | 2 => 2 | 3 => 3 | 4 => 7 | 5 => 6 | 6 => 11 | _ => 20
def fDf (ci : Nat) : List Value := (List.range (fSz ci)).map (fun k => defaultValue (fTy ci k))
def okV (t : FieldType) (v : Value) : Bool := match t, v with
  | .int, .int _ => true
  | .array _, .ref _ => true
  | .object _, .ref _ => true
  | _, _ => false
def lget (lo : Lo) (i : Nat) : Option Value := match lo[i]? with
  | some (some v) => some v
  | _ => none
def noLong (lo : Lo) (i : Nat) : Bool := match i with
  | 0 => true
  | j + 1 => match lo[j]? with
    | some (some v) => v.category == 1
    | _ => true
def lst1 (lo : Lo) (i : Nat) (v : Value) : Option Lo := if i < lo.length ∧ noLong lo i = true then some (lo.set i (some v)) else none
def lst2 (lo : Lo) (i : Nat) (v : Value) : Option Lo := if i + 1 < lo.length ∧ noLong lo i = true then some ((lo.set i (some v)).set (i + 1) none) else none
def nx (pc : Nat) (lo : Lo) (s : List Value) (G : Hp) : Option Rs := some (.inl (pc, lo, s, G))
def p1i (s : List Value) (f : Int32 → List Value → Option Rs) : Option Rs := match s with
  | .int x :: r => f x r
  | _ => none
def p2i (s : List Value) (f : Int32 → Int32 → List Value → Option Rs) : Option Rs := match s with
  | .int y :: .int x :: r => f x y r
  | _ => none
def p1l (s : List Value) (f : Int64 → List Value → Option Rs) : Option Rs := match s with
  | .long x :: r => f x r
  | _ => none
def p2l (s : List Value) (f : Int64 → Int64 → List Value → Option Rs) : Option Rs := match s with
  | .long y :: .long x :: r => f x y r
  | _ => none
def pli (s : List Value) (f : Int64 → Int32 → List Value → Option Rs) : Option Rs := match s with
  | .int y :: .long x :: r => f x y r
  | _ => none
def p1r (s : List Value) (f : Nat → List Value → Option Rs) : Option Rs := match s with
  | .ref a :: r => f a r
  | _ => none
def pir (s : List Value) (f : Nat → Int32 → List Value → Option Rs) : Option Rs := match s with
  | .int i :: .ref a :: r => f a i r
  | _ => none
def piir (s : List Value) (f : Nat → Int32 → Int32 → List Value → Option Rs) : Option Rs := match s with
  | .int x :: .int i :: .ref a :: r => f a i x r
  | _ => none
def prir (s : List Value) (f : Nat → Int32 → Nat → List Value → Option Rs) : Option Rs := match s with
  | .ref v :: .int i :: .ref a :: r => f a i v r
  | _ => none
def pvr (s : List Value) (f : Nat → Value → List Value → Option Rs) : Option Rs := match s with
  | v :: .ref a :: r => f a v r
  | _ => none
def pcp (s : List Value) (f : Nat → Int32 → Nat → Int32 → Int32 → List Value → Option Rs) : Option Rs := match s with
  | .int n :: .int dp :: .ref a :: .int sp :: .ref a0 :: r => f a0 sp a dp n r
  | _ => none
def gtA (E : Ev) (G : Hp) (a : Nat) (f : Nat → Nat → (Nat → Int32) → Option Rs) (g : Option Rs) : Option Rs := match gt E G a with
  | some (.inl (k, n, h)) => f k n h
  | none => g
  | _ => none
def gtR (E : Ev) (G : Hp) (a : Nat) (f : Nat → Nat → (Nat → Option Nat) → Option Rs) : Option Rs := match gt E G a with
  | some (.inr (.inl (k, n, h))) => f k n h
  | _ => none
def gtO (E : Ev) (G : Hp) (a : Nat) (f : Nat → List Value → Option Rs) (g : Option Rs) : Option Rs := match gt E G a with
  | some (.inr (.inr (c, fs))) => f c fs
  | none => g
  | _ => none
def gd (c : Prop) (d : Decidable c) (r : Option Rs) : Option Rs := @ite _ c d r none
def ov {α : Type} (x : Option α) (f : α → Option Rs) : Option Rs := match x with
  | some v => f v
  | none => none
def bad (i : Int32) (n : Nat) : Prop := i < 0 ∨ n ≤ i.toNatClampNeg
def dbad (i : Int32) (n : Nat) : Decidable (bad i n) := inferInstanceAs (Decidable (i < 0 ∨ n ≤ i.toNatClampNeg))
def kT (k : Nat) : FieldType := match k with
  | 0 => .int | 1 => .byte | _ => .boolean
def jmp (pc : Nat) (off : Int) (lo : Lo) (s : List Value) (G : Hp) : Option Rs := gd (0 ≤ (pc : Int) + off) inferInstance (nx ((pc : Int) + off).toNat lo s G)
def bra (b : Bool) (pc : Nat) (off : Int) (lo : Lo) (s : List Value) (G : Hp) : Option Rs := match b with
  | true => jmp pc off lo s G
  | false => nx (pc + 3) lo s G
def ldv (lo : Lo) (i : Nat) (f : Value → Option Rs) : Option Rs := ov (lget lo i) f
def rcv (E : Ev) (G : Hp) (b o : Nat) : Bool := match gt E G b with
  | some (.inr (.inr (c, _))) => c == o
  | none => b == eS E && o == 9
  | _ => false
def isI (v : Value) : Bool := match v with | .int _ => true | _ => false
def isL (v : Value) : Bool := match v with | .long _ => true | _ => false
def isR (v : Value) : Bool := match v with | .ref _ => true | _ => false
def lenOk (i : Instr) (n : Nat) : Bool := match i with
  | .bipush _ | .iload _ | .istore _ | .aload _ | .astore _ | .lload _ | .lstore _ | .ldc _ | .newarray _ => n == 2
  | .sipush _ | .getfield _ | .putfield _ | .getstatic _ | .ifCond _ _ | .if_icmp _ _ | .goto _ | .invokevirtual _ | .invokespecial _ | .invokestatic _ | .new _ | .anewarray _ | .iinc _ _ | .ldc_w _ | .ldc2_w _ => n == 3
  | .multianewarray _ _ => n == 4
  | .tableswitch _ _ _ _ => true
  | _ => n == 1
def ld (p : Value → Bool) (pc i : Nat) (lo : Lo) (s : List Value) (G : Hp) : Option Rs := ldv lo i fun v => gd (p v = true) inferInstance (nx pc lo (v :: s) G)
def sto1 (p : Value → Bool) (pc i : Nat) (lo : Lo) (s : List Value) (G : Hp) : Option Rs := match s with
  | v :: r => gd (p v = true) inferInstance (ov (lst1 lo i v) fun lo' => nx pc lo' r G)
  | [] => none
def sto2 (pc i : Nat) (lo : Lo) (s : List Value) (G : Hp) : Option Rs := p1l s fun x r => ov (lst2 lo i (.long x)) fun lo' => nx pc lo' r G
def nA (m : Mi) : Nat := m.2.2.2.2.1 + (if m.2.2.2.2.2.2.2 = true then 0 else 1)
def callB (E : Ev) (kind id pc : Nat) (G : Hp) (m : Mi) (a r : List Value) : Option Rs := gd (a.length = nA m ∧ r.length ≤ 4) inferInstance (match kind with
    | 1 => match a with
      | .ref b :: _ => gd (m.2.2.2.2.2.2.2 = false ∧ m.2.2.2.2.2.2.1 = false ∧ rcv E G b m.2.2.2.2.2.1 = true) inferInstance (some (.inr (.inl (id, a, pc + 3, r))))
      | _ => none
    | 2 => match a with
      | .ref _ :: _ => gd (m.2.2.2.2.2.2.2 = false ∧ m.2.2.2.2.2.2.1 = true) inferInstance (some (.inr (.inl (id, a, pc + 3, r))))
      | _ => none
    | _ => gd (m.2.2.2.2.2.2.2 = true) inferInstance (some (.inr (.inl (id, a, pc + 3, r)))))
/-- a call: the arguments off the stack -/
def callA (E : Ev) (kind id pc : Nat) (s : List Value) (G : Hp) : Option Rs := ov tY[id]? fun m => callB E kind id pc G m (s.take (nA m)).reverse (s.drop (nA m))
def invS (E : Ev) (o idx pc : Nat) (lo : Lo) (s : List Value) (G : Hp) : Option Rs := ov (fM o idx) fun q => match q.1 with
  | 0 => callA E 0 q.2.1 pc s G
  | 5 => callA E 5 q.2.1 pc s G
  | 3 => pcp s fun a0 sp a dp n r => gtA E G a0 (fun k0 n0 f => gtA E G a (fun k n1 g => gd (k0 = k ∧ r.length ≤ 4 ∧ ¬ sp < 0 ∧ ¬ dp < 0 ∧ ¬ n < 0 ∧ sp.toNatClampNeg + n.toNatClampNeg ≤ n0 ∧ dp.toNatClampNeg + n.toNatClampNeg ≤ n1 ∧ ∀ i, i < n.toNatClampNeg → fits (kT k) (.int (f (sp.toNatClampNeg + i))) = true) inferInstance
      (nx (pc + 3) lo r (st E G a (cA k n1 (va_cpy f g sp.toNatClampNeg dp.toNatClampNeg n.toNatClampNeg))))) none) none
  | _ => none
def invI (E : Ev) (o idx pc : Nat) (lo : Lo) (s : List Value) (G : Hp) : Option Rs := ov (fM o idx) fun q => match q.1 with
  | 2 => callA E 2 q.2.1 pc s G
  | 4 => p1r s fun _ r => gd (r.length ≤ 4) inferInstance (nx (pc + 3) lo r G)
  | _ => none
def invV (E : Ev) (o idx pc : Nat) (s : List Value) (G : Hp) : Option Rs := ov (fM o idx) fun q => match q.1 with
  | 1 => callA E 1 q.2.1 pc s G
  | _ => none
def stpI (E : Ev) (cx : Cx) (i : Instr) (pc : Nat) (lo : Lo) (s : List Value) (G : Hp) : Option Rs := match i with
  | .iconst n => nx (pc + 1) lo (.int (iv n) :: s) G
  | .bipush n => gd ((Int8.ofInt n).toInt32 = iv n) inferInstance (nx (pc + 2) lo (.int (iv n) :: s) G)
  | .sipush n => gd ((Int16.ofInt n).toInt32 = iv n) inferInstance (nx (pc + 3) lo (.int (iv n) :: s) G)
  | .lconst n => nx (pc + 1) lo (.long (Int64.ofNat n) :: s) G
  | .ldc x => match kS E cx.1 x with
    | some a => nx (pc + 2) lo (.ref a :: s) G
    | none => ov (fI cx.1 x) fun q => nx (pc + 2) lo (.int q.1 :: s) G
  | .ldc_w x => ov (fI cx.1 x) fun q => nx (pc + 3) lo (.int q.1 :: s) G
  | .ldc2_w x => ov (fJ cx.1 x) fun q => nx (pc + 3) lo (.long q.1 :: s) G
  | .iload_n k => ld isI (pc + 1) k lo s G
  | .iload k => ld isI (pc + 2) k lo s G
  | .lload_n k => ld isL (pc + 1) k lo s G
  | .lload k => ld isL (pc + 2) k lo s G
  | .aload_n k => ld isR (pc + 1) k lo s G
  | .aload k => ld isR (pc + 2) k lo s G
  | .istore_n k => sto1 isI (pc + 1) k lo s G
  | .istore k => sto1 isI (pc + 2) k lo s G
  | .astore_n k => sto1 isR (pc + 1) k lo s G
  | .astore k => sto1 isR (pc + 2) k lo s G
  | .lstore_n k => sto2 (pc + 1) k lo s G
  | .lstore k => sto2 (pc + 2) k lo s G
  | .iinc k n => ldv lo k fun v => match v with
    | .int x => ov (lst1 lo k (.int (x + iv n))) fun lo' => nx (pc + 3) lo' s G
    | _ => none
  | .iadd => p2i s fun x y r => nx (pc + 1) lo (.int (x + y) :: r) G
  | .isub => p2i s fun x y r => nx (pc + 1) lo (.int (x - y) :: r) G
  | .imul => p2i s fun x y r => nx (pc + 1) lo (.int (x * y) :: r) G
  | .iand => p2i s fun x y r => nx (pc + 1) lo (.int (x &&& y) :: r) G
  | .ior => p2i s fun x y r => nx (pc + 1) lo (.int (x ||| y) :: r) G
  | .ixor => p2i s fun x y r => nx (pc + 1) lo (.int (x ^^^ y) :: r) G
  | .idiv => p2i s fun x y r => gd (¬ y = 0) inferInstance (nx (pc + 1) lo (.int (x / y) :: r) G)
  | .irem => p2i s fun x y r => gd (¬ y = 0) inferInstance (nx (pc + 1) lo (.int (x - x / y * y) :: r) G)
  | .ishl => p2i s fun x y r => nx (pc + 1) lo (.int (x <<< (y &&& 31)) :: r) G
  | .ishr => p2i s fun x y r => nx (pc + 1) lo (.int (x >>> (y &&& 31)) :: r) G
  | .iushr => p2i s fun x y r => nx (pc + 1) lo (.int ((x.toUInt32 >>> (y.toUInt32 &&& Int32.toUInt32 31)).toInt32) :: r) G
  | .ladd => p2l s fun x y r => nx (pc + 1) lo (.long (x + y) :: r) G
  | .lsub => p2l s fun x y r => nx (pc + 1) lo (.long (x - y) :: r) G
  | .lmul => p2l s fun x y r => nx (pc + 1) lo (.long (x * y) :: r) G
  | .land => p2l s fun x y r => nx (pc + 1) lo (.long (x &&& y) :: r) G
  | .lor => p2l s fun x y r => nx (pc + 1) lo (.long (x ||| y) :: r) G
  | .ldiv => p2l s fun x y r => gd (¬ y = 0) inferInstance (nx (pc + 1) lo (.long (x / y) :: r) G)
  | .lrem => p2l s fun x y r => gd (¬ y = 0) inferInstance (nx (pc + 1) lo (.long (x - x / y * y) :: r) G)
  | .lushr => pli s fun x y r => nx (pc + 1) lo (.long ((x.toUInt64 >>> (y.toInt64.toUInt64 &&& Int64.toUInt64 63)).toInt64) :: r) G
  | .lshl => pli s fun x y r => nx (pc + 1) lo (.long (x <<< (y.toInt64 &&& 63)) :: r) G
  | .lcmp => p2l s fun x y r => nx (pc + 1) lo (.int (lg_cmp x y) :: r) G
  | .i2l => p1i s fun x r => nx (pc + 1) lo (.long x.toInt64 :: r) G
  | .l2i => p1l s fun x r => nx (pc + 1) lo (.int x.toInt32 :: r) G
  | .i2b => p1i s fun x r => nx (pc + 1) lo (.int x.toInt8.toInt32 :: r) G
  | .i2c => p1i s fun x r => nx (pc + 1) lo (.int (x.toUInt32 % 65536).toInt32 :: r) G
  | .dup => match s with
    | v :: r => gd (v.category = 1) inferInstance (nx (pc + 1) lo (v :: v :: r) G)
    | [] => none
  | .pop => match s with
    | v :: r => gd (v.category = 1) inferInstance (nx (pc + 1) lo r G)
    | [] => none
  | .goto off => jmp pc off lo s G
  | .ifCond .eq off => p1i s fun x r => bra (decide (x = 0)) pc off lo r G
  | .ifCond .ne off => p1i s fun x r => bra (decide (¬ x = 0)) pc off lo r G
  | .ifCond .lt off => p1i s fun x r => bra (decide (x < 0)) pc off lo r G
  | .ifCond .ge off => p1i s fun x r => bra (decide (0 ≤ x)) pc off lo r G
  | .ifCond .gt off => p1i s fun x r => bra (decide (0 < x)) pc off lo r G
  | .ifCond .le off => p1i s fun x r => bra (decide (x ≤ 0)) pc off lo r G
  | .if_icmp .eq off => p2i s fun x y r => bra (decide (x = y)) pc off lo r G
  | .if_icmp .ne off => p2i s fun x y r => bra (decide (¬ x = y)) pc off lo r G
  | .if_icmp .lt off => p2i s fun x y r => bra (decide (x < y)) pc off lo r G
  | .if_icmp .ge off => p2i s fun x y r => bra (decide (y ≤ x)) pc off lo r G
  | .if_icmp .gt off => p2i s fun x y r => bra (decide (y < x)) pc off lo r G
  | .if_icmp .le off => p2i s fun x y r => bra (decide (x ≤ y)) pc off lo r G
  | .tableswitch dflt l h offs => p1i s fun x r => if x.toInt < l ∨ h < x.toInt then jmp pc dflt lo r G else ov offs[(x.toInt - l).toNat]? fun off => jmp pc off lo r G
  | .getfield x => p1r s fun a r => match fF cx.1 x with
    | some q => gtO E G a (fun c fs => gd (c = q.1) inferInstance (ov fs[q.2.1]? fun v => nx (pc + 3) lo (v :: r) G)) none
    | none => gtO E G a (fun _ _ => none) (ov (hT E cx.1 x a) fun v => nx (pc + 3) lo (v :: r) G)
  | .putfield x => pvr s fun a v r => ov (fF cx.1 x) fun q => gtO E G a (fun c fs => gd (c = q.1 ∧ q.2.1 < fs.length ∧ okV (fTy q.1 q.2.1) v = true ∧ ((fTb q.1 q.2.1).2.2.2 = true → cx.2.2.1 = true ∧ cx.1 = q.1)) inferInstance (nx (pc + 3) lo r (st E G a (cO c (fs.set q.2.1 v))))) none
  | .getstatic x => ov (gS E cx.1 x) fun v => nx (pc + 3) lo (v :: s) G
  | .iaload => pir s fun a i r => gtA E G a (fun k n f => gd (k = 0 ∧ ¬ bad i n) (@instDecidableAnd _ _ _ (@instDecidableNot _ (dbad i n))) (nx (pc + 1) lo (.int (f i.toNatClampNeg) :: r) G)) (ov (oI cx.1 E a) fun q => gd (¬ bad i q.1) (@instDecidableNot _ (dbad i q.1)) (nx (pc + 1) lo (.int (q.2 i.toNatClampNeg) :: r) G))
  | .baload => pir s fun a i r => gtA E G a (fun k n f => gd ((k = 1 ∨ k = 2) ∧ ¬ bad i n) (@instDecidableAnd _ _ _ (@instDecidableNot _ (dbad i n))) (nx (pc + 1) lo (.int (f i.toNatClampNeg) :: r) G)) (ov (oB E a) fun q => gd (¬ bad i q.1) (@instDecidableNot _ (dbad i q.1)) (nx (pc + 1) lo (.int (q.2 i.toNatClampNeg) :: r) G))
  | .aaload => pir s fun a i r => gtR E G a fun k n f => gd (k ≤ 2 ∧ ¬ bad i n) (@instDecidableAnd _ _ _ (@instDecidableNot _ (dbad i n))) (ov (f i.toNatClampNeg) fun v => nx (pc + 1) lo (.ref v :: r) G)
  | .iastore => piir s fun a i x r => gtA E G a (fun k n f => gd (k = 0 ∧ ¬ bad i n) (@instDecidableAnd _ _ _ (@instDecidableNot _ (dbad i n))) (nx (pc + 1) lo r (st E G a (cA 0 n (upd f i.toNatClampNeg x))))) none
  | .bastore => piir s fun a i x r => gtA E G a (fun k n f => gd ((k = 1 ∨ k = 2) ∧ ¬ bad i n) (@instDecidableAnd _ _ _ (@instDecidableNot _ (dbad i n))) (nx (pc + 1) lo r (st E G a (cA k n (upd f i.toNatClampNeg (vp_nar (kT k) x)))))) none
  | .aastore => prir s fun a i v r => gtR E G a fun k n f => gd (k ≤ 1 ∧ ¬ bad i n) (@instDecidableAnd _ _ _ (@instDecidableNot _ (dbad i n))) (gtO E G v (fun c _ => gd (c = k + 1) inferInstance (nx (pc + 1) lo r (st E G a (cR k n (va_up f i.toNatClampNeg (some v)))))) none)
  | .arraylength => p1r s fun a r => match gt E G a with
    | some (.inl (_, n, _)) => nx (pc + 1) lo (.int (Int32.ofNat n) :: r) G
    | some (.inr (.inl (k, n, _))) => gd (k ≤ 2) inferInstance (nx (pc + 1) lo (.int (Int32.ofNat n) :: r) G)
    | some (.inr (.inr _)) => none
    | none => ov (oL cx.1 E a) fun n => nx (pc + 1) lo (.int (Int32.ofNat n) :: r) G
  | .newarray t => p1i s fun n r => gd (¬ n < 0 ∧ n.toNatClampNeg ≤ 100000) inferInstance (match t with
    | .int => nx (pc + 2) lo (.ref (nxA E G) :: r) (psh G (cA 0 n.toNatClampNeg (fun _ => 0)) n.toNatClampNeg)
    | .byte => nx (pc + 2) lo (.ref (nxA E G) :: r) (psh G (cA 1 n.toNatClampNeg (fun _ => 0)) n.toNatClampNeg)
    | .boolean => nx (pc + 2) lo (.ref (nxA E G) :: r) (psh G (cA 2 n.toNatClampNeg (fun _ => 0)) n.toNatClampNeg)
    | _ => none)
  | .anewarray x => p1i s fun n r => ov (fC cx.1 x) fun q => gd ((q.1 = 1 ∨ q.1 = 2) ∧ ¬ n < 0 ∧ n.toNatClampNeg ≤ 100000) inferInstance (nx (pc + 3) lo (.ref (nxA E G) :: r) (psh G (cR (q.1 - 1) n.toNatClampNeg (fun _ => none)) n.toNatClampNeg))
  | .multianewarray x 2 => p2i s fun n k r => gd (cx.1 = 5 ∧ x = 15 ∧ ¬ n < 0 ∧ ¬ k < 0 ∧ n.toNatClampNeg ≤ 1000 ∧ k.toNatClampNeg ≤ 1000) inferInstance
      (nx (pc + 4) lo (.ref (nxA E G) :: r) (pshs (psh G (cR 2 n.toNatClampNeg (fun i => if i < n.toNatClampNeg then some (nxA E G + 1 + i) else none)) n.toNatClampNeg) n.toNatClampNeg k.toNatClampNeg))
  | .new x => ov (fC cx.1 x) fun q => gd (q.1 < 8) inferInstance (nx (pc + 3) lo (.ref (nxA E G) :: s) (psh G (cO q.1 (fDf q.1)) (fSz q.1)))
  | .invokestatic x => invS E cx.1 x pc lo s G
  | .invokespecial x => invI E cx.1 x pc lo s G
  | .invokevirtual x => invV E cx.1 x pc s G
  | .ireturn => match s with
    | [.int v] => match cx.2.2.2 with
      | some t => gd (narrow t (.int v) = .int v) inferInstance (some (.inr (.inr (some (.int v)))))
      | none => none
    | _ => none
  | .lreturn => match s with
    | [.long v] => gd (cx.2.2.2 = some .long) inferInstance (some (.inr (.inr (some (.long v)))))
    | _ => none
  | .areturn => match s with
    | [.ref v] => match cx.2.2.2 with
      | some (.object _) => some (.inr (.inr (some (.ref v))))
      | some (.array _) => some (.inr (.inr (some (.ref v))))
      | _ => none
    | _ => none
  | .return_ => match s with
    | [] => gd (cx.2.2.2 = none) inferInstance (some (.inr (.inr none)))
    | _ => none
  | _ => none
def stp (E : Ev) (cx : Cx) (pc : Nat) (lo : Lo) (s : List Value) (G : Hp) : Option Rs := match decode cx.2.1 pc with
  | .ok (i, n) => gd (lenOk i n = true) inferInstance (stpI E cx i pc lo s G)
  | .error _ => none
def X (call : Nat → List Value → Hp → Po → Prop) (E : Ev) (cx : Cx) : Nat → Nat → Lo → List Value → Hp → Po → Prop
  | 0, _, _, _, _, _ => False
  | k + 1, pc, lo, s, G, Q => match stp E cx pc lo s G with
    | some (.inl r) => X call E cx k r.1 r.2.1 r.2.2.1 r.2.2.2 Q
    | some (.inr (.inl r)) => call r.1 r.2.1 G (fun v G' => X call E cx k r.2.2.1 lo (v.toList ++ r.2.2.2) G' Q)
    | some (.inr (.inr v)) => Q v G
    | none => False
def ent : List Value → Nat → Lo
  | [], n => List.replicate n none
  | v :: vs, n => if v.category = 2 then some v :: none :: ent vs (n - 2) else some v :: ent vs (n - 1)
def entS : List Value → Nat
  | [] => 0
  | v :: vs => v.category + entS vs
def cxM (m : Mi) : Cx := (m.2.2.2.2.2.1, m.2.1, m.2.2.2.2.2.2.1, m.2.2.2.1)
def runs (E : Ev) : Nat → Nat → List Value → Hp → Po → Prop
  | 0, _, _, _, _ => False
  | d + 1, id, a, G, Q => match tY[id]? with
    | some m => entS a ≤ m.2.2.1 ∧ ∃ k, X (runs E d) E (cxM m) k 0 (ent a m.2.2.1) [] G Q
    | none => False
def Xr (E : Ev) (d : Nat) (cx : Cx) (pc : Nat) (lo : Lo) (s : List Value) (G : Hp) (Q : Po) : Prop := ∃ k, X (runs E d) E cx k pc lo s G Q
end
section
theorem X_mono {call : Nat → List Value → Hp → Po → Prop} {E : Ev} {cx : Cx} (hc : ∀ id a G (P P' : Po), (∀ v G', P v G' → P' v G') → call id a G P → call id a G P') :
    ∀ k pc lo s G (Q Q' : Po), (∀ v G', Q v G' → Q' v G') → X call E cx k pc lo s G Q → X call E cx k pc lo s G Q' := by
  intro k
  induction k with
  | zero => intro pc lo s G Q Q' _ h; exact h
  | succ k ih =>
    intro pc lo s G Q Q' hQ h
    unfold X at h ⊢
    cases hs : stp E cx pc lo s G with
    | none => rw [hs] at h; exact h
    | some r =>
      rw [hs] at h
      rcases r with r | r | v
      · exact ih _ _ _ _ _ _ hQ h
      · exact hc _ _ _ _ _ (fun v G' q => ih _ _ _ _ _ _ hQ q) h
      · exact hQ _ _ h
theorem runs_mono {E : Ev} : ∀ d id a G (P P' : Po), (∀ v G', P v G' → P' v G') → runs E d id a G P → runs E d id a G P' := by
  intro d
  induction d with
  | zero => intro id a G P P' _ h; exact h
  | succ d ih =>
    intro id a G P P' hP h
    unfold runs at h ⊢
    cases hs : tY[id]? with
    | none => rw [hs] at h; exact h
    | some m =>
      rw [hs] at h
      obtain ⟨h1, k, h2⟩ := h
      exact ⟨h1, k, X_mono ih _ _ _ _ _ _ _ hP h2⟩
def grows (G G' : Hp) : Prop := G.1.length ≤ G'.1.length ∧ G.2 ≤ G'.2
theorem grows_rf {G : Hp} : grows G G := ⟨Nat.le_refl _, Nat.le_refl _⟩
theorem grows_st {E : Ev} {G : Hp} {a : Nat} {c : Cl} : grows G (st E G a c) := by
  unfold st
  split
  · exact ⟨by simp, Nat.le_refl _⟩
  · exact grows_rf
theorem grows_psh {G : Hp} {c : Cl} {n : Nat} : grows G (psh G c n) := ⟨by simp [psh], by simp [psh]⟩
theorem grows_pshs {G : Hp} {k n : Nat} : grows G (pshs G n k) := ⟨by simp [pshs], by simp [pshs]⟩
theorem grows_tr {A B C : Hp} (h : grows A B) (g : grows B C) : grows A C := ⟨Nat.le_trans h.1 g.1, Nat.le_trans h.2 g.2⟩
/-- what a piece of a step says of the heap behind it -/
def gro (G : Hp) (x : Option Rs) : Prop := ∀ r, x = some (.inl r) → grows G r.2.2.2
theorem gro_none {G : Hp} : gro G none := fun r h => by cases h
theorem gro_r {G : Hp} {q} : gro G (some (.inr q)) := fun r h => by cases h
theorem gro_nx {G G' : Hp} {pc lo s} (h : grows G G') : gro G (nx pc lo s G') := fun r e => by unfold nx at e; cases e; exact h
theorem gro_gd {G : Hp} {c : Prop} {d : Decidable c} {x : Option Rs} (h : gro G x) : gro G (gd c d x) := by
  unfold gd
  by_cases hc : c
  · rw [if_pos hc]; exact h
  · rw [if_neg hc]; exact gro_none
theorem gro_ov {G : Hp} {α : Type} {x : Option α} {f : α → Option Rs} (h : ∀ v, gro G (f v)) : gro G (ov x f) := by
  unfold ov
  cases x with
  | none => exact gro_none
  | some v => exact h v
theorem gro_ite {G : Hp} {c : Prop} [Decidable c] {x y : Option Rs} (h : gro G x) (g : gro G y) : gro G (if c then x else y) := by
  by_cases hc : c
  · rw [if_pos hc]; exact h
  · rw [if_neg hc]; exact g
theorem gro_jmp {G : Hp} {pc off lo s} : gro G (jmp pc off lo s G) := gro_gd (gro_nx grows_rf)
theorem gro_bra {G : Hp} {b pc off lo s} : gro G (bra b pc off lo s G) := by
  cases b
  · exact gro_nx grows_rf
  · exact gro_jmp
theorem gro_p1i {G : Hp} {s f} (h : ∀ x r, gro G (f x r)) : gro G (p1i s f) := by unfold p1i; split; exact h _ _; exact gro_none
theorem gro_p2i {G : Hp} {s f} (h : ∀ x y r, gro G (f x y r)) : gro G (p2i s f) := by unfold p2i; split; exact h _ _ _; exact gro_none
theorem gro_p1l {G : Hp} {s f} (h : ∀ x r, gro G (f x r)) : gro G (p1l s f) := by unfold p1l; split; exact h _ _; exact gro_none
theorem gro_p2l {G : Hp} {s f} (h : ∀ x y r, gro G (f x y r)) : gro G (p2l s f) := by unfold p2l; split; exact h _ _ _; exact gro_none
theorem gro_pli {G : Hp} {s f} (h : ∀ x y r, gro G (f x y r)) : gro G (pli s f) := by unfold pli; split; exact h _ _ _; exact gro_none
theorem gro_p1r {G : Hp} {s f} (h : ∀ x r, gro G (f x r)) : gro G (p1r s f) := by unfold p1r; split; exact h _ _; exact gro_none
theorem gro_pir {G : Hp} {s f} (h : ∀ x y r, gro G (f x y r)) : gro G (pir s f) := by unfold pir; split; exact h _ _ _; exact gro_none
theorem gro_piir {G : Hp} {s f} (h : ∀ x y z r, gro G (f x y z r)) : gro G (piir s f) := by unfold piir; split; exact h _ _ _ _; exact gro_none
theorem gro_prir {G : Hp} {s f} (h : ∀ x y z r, gro G (f x y z r)) : gro G (prir s f) := by unfold prir; split; exact h _ _ _ _; exact gro_none
theorem gro_pvr {G : Hp} {s f} (h : ∀ x y r, gro G (f x y r)) : gro G (pvr s f) := by unfold pvr; split; exact h _ _ _; exact gro_none
theorem gro_pcp {G : Hp} {s f} (h : ∀ a b c d e r, gro G (f a b c d e r)) : gro G (pcp s f) := by unfold pcp; split; exact h _ _ _ _ _ _; exact gro_none
theorem gro_gtA {E : Ev} {G : Hp} {a f g} (h : ∀ x y z, gro G (f x y z)) (k : gro G g) : gro G (gtA E G a f g) := by unfold gtA; split; exact h _ _ _; exact k; exact gro_none
theorem gro_gtR {E : Ev} {G : Hp} {a f} (h : ∀ x y z, gro G (f x y z)) : gro G (gtR E G a f) := by unfold gtR; split; exact h _ _ _; exact gro_none
theorem gro_gtO {E : Ev} {G : Hp} {a f g} (h : ∀ x y, gro G (f x y)) (k : gro G g) : gro G (gtO E G a f g) := by unfold gtO; split; exact h _ _; exact k; exact gro_none
theorem gro_ld {G : Hp} {p pc i lo s} : gro G (ld p pc i lo s G) := gro_ov fun _ => gro_gd (gro_nx grows_rf)
theorem gro_sto1 {G : Hp} {p pc i lo s} : gro G (sto1 p pc i lo s G) := by unfold sto1; split; exact gro_gd (gro_ov fun _ => gro_nx grows_rf); exact gro_none
theorem gro_sto2 {G : Hp} {pc i lo s} : gro G (sto2 pc i lo s G) := gro_p1l fun _ _ => gro_ov fun _ => gro_nx grows_rf
theorem gro_callA {E : Ev} {G : Hp} {kind id pc s} : gro G (callA E kind id pc s G) := by
  unfold callA
  refine gro_ov fun m => ?_
  unfold callB
  refine gro_gd ?_
  split
  · split
    · exact gro_gd gro_r
    · exact gro_none
  · split
    · exact gro_gd gro_r
    · exact gro_none
  · exact gro_gd gro_r
theorem gro_invS {E : Ev} {G : Hp} {o x pc lo s} : gro G (invS E o x pc lo s G) := by
  unfold invS
  refine gro_ov fun q => ?_
  split
  · exact gro_callA
  · exact gro_callA
  · exact gro_pcp fun _ _ _ _ _ _ => gro_gtA (fun _ _ _ => gro_gtA (fun _ _ _ => gro_gd (gro_nx grows_st)) gro_none) gro_none
  · exact gro_none
theorem gro_invI {E : Ev} {G : Hp} {o x pc lo s} : gro G (invI E o x pc lo s G) := by
  unfold invI
  refine gro_ov fun q => ?_
  split
  · exact gro_callA
  · exact gro_p1r fun _ _ => gro_gd (gro_nx grows_rf)
  · exact gro_none
theorem gro_invV {E : Ev} {G : Hp} {o x pc s} : gro G (invV E o x pc s G) := by
  unfold invV
  refine gro_ov fun q => ?_
  split
  · exact gro_callA
  · exact gro_none
set_option maxHeartbeats 4000000 in
theorem gro_stpI {E : Ev} {cx : Cx} {i : Instr} {pc : Nat} {lo : Lo} {s : List Value} {G : Hp} : gro G (stpI E cx i pc lo s G) := by
  unfold stpI
  split
  all_goals first
    | exact gro_none
    | exact gro_nx grows_rf
    | exact gro_gd (gro_nx grows_rf)
    | exact gro_ov fun _ => gro_nx grows_rf
    | exact gro_ld
    | exact gro_sto1
    | exact gro_sto2
    | exact gro_jmp
    | exact gro_p2i fun _ _ _ => gro_nx grows_rf
    | exact gro_p2i fun _ _ _ => gro_gd (gro_nx grows_rf)
    | exact gro_p2l fun _ _ _ => gro_nx grows_rf
    | exact gro_p2l fun _ _ _ => gro_gd (gro_nx grows_rf)
    | exact gro_pli fun _ _ _ => gro_nx grows_rf
    | exact gro_p1i fun _ _ => gro_nx grows_rf
    | exact gro_p1l fun _ _ => gro_nx grows_rf
    | exact gro_p1i fun _ _ => gro_bra
    | exact gro_p2i fun _ _ _ => gro_bra
    | exact gro_p1i fun _ _ => gro_ite gro_jmp (gro_ov fun _ => gro_jmp)
    | exact gro_invS
    | exact gro_invI
    | exact gro_invV
    | exact gro_pvr fun _ _ _ => gro_ov fun _ => gro_gtO (fun _ _ => gro_gd (gro_nx grows_st)) gro_none
    | exact gro_pir fun _ _ _ => gro_gtA (fun _ _ _ => gro_gd (gro_nx grows_rf)) (gro_ov fun _ => gro_gd (gro_nx grows_rf))
    | exact gro_pir fun _ _ _ => gro_gtR fun _ _ _ => gro_gd (gro_ov fun _ => gro_nx grows_rf)
    | exact gro_piir fun _ _ _ _ => gro_gtA (fun _ _ _ => gro_gd (gro_nx grows_st)) gro_none
    | exact gro_prir fun _ _ _ _ => gro_gtR fun _ _ _ => gro_gd (gro_gtO (fun _ _ => gro_gd (gro_nx grows_st)) gro_none)
    | exact gro_p1i fun _ _ => gro_ov fun _ => gro_gd (gro_nx grows_psh)
    | exact gro_ov fun _ => gro_gd (gro_nx grows_psh)
    | exact gro_p2i fun _ _ _ => gro_gd (gro_nx (grows_tr grows_psh grows_pshs))
    | skip
  · split
    · exact gro_nx grows_rf
    · exact gro_ov fun _ => gro_nx grows_rf
  · refine gro_ov fun v => ?_
    split
    · exact gro_ov fun _ => gro_nx grows_rf
    · exact gro_none
  · split
    · exact gro_gd (gro_nx grows_rf)
    · exact gro_none
  · split
    · exact gro_gd (gro_nx grows_rf)
    · exact gro_none
  · refine gro_p1r fun a r => ?_
    split
    · exact gro_gtO (fun _ _ => gro_gd (gro_ov fun _ => gro_nx grows_rf)) gro_none
    · exact gro_gtO (fun _ _ => gro_none) (gro_ov fun _ => gro_nx grows_rf)
  · refine gro_p1r fun a r => ?_
    split
    · exact gro_nx grows_rf
    · exact gro_gd (gro_nx grows_rf)
    · exact gro_none
    · exact gro_ov fun _ => gro_nx grows_rf
  · refine gro_p1i fun n r => gro_gd ?_
    split
    · exact gro_nx grows_psh
    · exact gro_nx grows_psh
    · exact gro_nx grows_psh
    · exact gro_none
  all_goals
    repeat' split
  all_goals first
    | exact gro_gd gro_r
    | exact gro_r
    | exact gro_none
theorem stp_grows {E : Ev} {cx : Cx} {pc : Nat} {lo : Lo} {s : List Value} {G : Hp} {r} (h : stp E cx pc lo s G = some (.inl r)) : grows G r.2.2.2 := by
  unfold stp at h
  split at h
  · exact gro_gd gro_stpI _ h
  · cases h
/-- the run comes to one end -/
theorem X_res {call : Nat → List Value → Hp → Po → Prop} {E : Ev} {cx : Cx} (hc : ∀ id a G (P P' : Po), (∀ v G', P v G' → P' v G') → call id a G P → call id a G P')
    (hr : ∀ id a G (P : Po), call id a G P → ∃ v G', P v G' ∧ call id a G (fun v' G'' => v' = v ∧ G'' = G') ∧ grows G G') :
    ∀ k pc lo s G (Q : Po), X call E cx k pc lo s G Q → ∃ v G', Q v G' ∧ X call E cx k pc lo s G (fun v' G'' => v' = v ∧ G'' = G') ∧ grows G G' := by
  intro k
  induction k with
  | zero => intro pc lo s G Q h; exact h.elim
  | succ k ih =>
    intro pc lo s G Q h
    unfold X at h
    cases hs : stp E cx pc lo s G with
    | none => rw [hs] at h; exact h.elim
    | some r =>
      rw [hs] at h
      rcases r with r | r | v
      · obtain ⟨v, G', h1, h2, h3⟩ := ih _ _ _ _ _ h
        refine ⟨v, G', h1, ?_, grows_tr (stp_grows hs) h3⟩
        unfold X
        rw [hs]
        exact h2
      · obtain ⟨v1, G1, h1, h2, h3⟩ := hr _ _ _ _ h
        obtain ⟨v, G', g1, g2, g3⟩ := ih _ _ _ _ _ h1
        refine ⟨v, G', g1, ?_, grows_tr h3 g3⟩
        unfold X
        rw [hs]
        refine hc _ _ _ _ _ (fun v' G'' q => ?_) h2
        obtain ⟨rfl, rfl⟩ := q
        exact g2
      · refine ⟨v, G, h, ?_, grows_rf⟩
        unfold X
        rw [hs]
        exact ⟨rfl, rfl⟩
theorem runs_res {E : Ev} : ∀ d id a G (P : Po), runs E d id a G P → ∃ v G', P v G' ∧ runs E d id a G (fun v' G'' => v' = v ∧ G'' = G') ∧ grows G G' := by
  intro d
  induction d with
  | zero => intro id a G P h; exact h.elim
  | succ d ih =>
    intro id a G P h
    unfold runs at h
    cases hs : tY[id]? with
    | none => rw [hs] at h; exact h.elim
    | some m =>
      rw [hs] at h
      obtain ⟨h1, k, h2⟩ := h
      obtain ⟨v, G', g1, g2, g3⟩ := X_res (runs_mono d) ih _ _ _ _ _ _ h2
      refine ⟨v, G', g1, ?_, g3⟩
      unfold runs
      rw [hs]
      exact ⟨h1, k, g2⟩
/-! the rows of X -/
theorem Xr_nx {E : Ev} {d : Nat} {cx : Cx} {pc : Nat} {lo : Lo} {s : List Value} {G : Hp} {Q : Po} {pc' : Nat} {lo' : Lo} {s' : List Value} {G' : Hp} (h : stp E cx pc lo s G = nx pc' lo' s' G') : Xr E d cx pc lo s G Q = Xr E d cx pc' lo' s' G' Q := by
  apply propext
  constructor
  · rintro ⟨k, hk⟩
    cases k with
    | zero => exact hk.elim
    | succ k => unfold X at hk; rw [h] at hk; exact ⟨k, hk⟩
  · rintro ⟨k, hk⟩
    refine ⟨k + 1, ?_⟩
    unfold X
    rw [h]
    exact hk
theorem Xr_ret {E : Ev} {d : Nat} {cx : Cx} {pc : Nat} {lo : Lo} {s : List Value} {G : Hp} {Q : Po} {v : Option Value} (h : stp E cx pc lo s G = some (.inr (.inr v))) : Xr E d cx pc lo s G Q = Q v G := by
  apply propext
  constructor
  · rintro ⟨k, hk⟩
    cases k with
    | zero => exact hk.elim
    | succ k => unfold X at hk; rw [h] at hk; exact hk
  · intro hq
    refine ⟨1, ?_⟩
    unfold X
    rw [h]
    exact hq
theorem Xr_call {E : Ev} {d : Nat} {cx : Cx} {pc : Nat} {lo : Lo} {s : List Value} {G : Hp} {Q : Po} {id : Nat} {a : List Value} {pc' : Nat} {r : List Value} (h : stp E cx pc lo s G = some (.inr (.inl (id, a, pc', r)))) : Xr E d cx pc lo s G Q = runs E d id a G (fun v G' => Xr E d cx pc' lo (v.toList ++ r) G' Q) := by
  apply propext
  constructor
  · rintro ⟨k, hk⟩
    cases k with
    | zero => exact hk.elim
    | succ k =>
      unfold X at hk
      rw [h] at hk
      exact runs_mono _ _ _ _ _ _ (fun v G' q => ⟨k, q⟩) hk
  · intro hq
    obtain ⟨v, G', ⟨k, h1⟩, h2, -⟩ := runs_res _ _ _ _ _ hq
    refine ⟨k + 1, ?_⟩
    unfold X
    rw [h]
    refine runs_mono _ _ _ _ _ _ (fun v' G'' q => ?_) h2
    obtain ⟨rfl, rfl⟩ := q
    exact h1
theorem runs_eq {E : Ev} {d id : Nat} {a : List Value} {G : Hp} {Q : Po} {m : Mi} (hm : tY[id]? = some m) (hl : entS a ≤ m.2.2.1) : runs E (d + 1) id a G Q = Xr E d (cxM m) 0 (ent a m.2.2.1) [] G Q := by
  unfold runs Xr
  rw [hm]
  exact propext ⟨fun h => h.2, fun h => ⟨hl, h⟩⟩
/-- one end alone -/
theorem X_det {call : Nat → List Value → Hp → Po → Prop} {E : Ev} {cx : Cx} (hd : ∀ id a G (P P' : Po), call id a G P → call id a G P' → ∃ v G', P v G' ∧ P' v G') :
    ∀ k k' pc lo s G (Q Q' : Po), X call E cx k pc lo s G Q → X call E cx k' pc lo s G Q' → ∃ v G', Q v G' ∧ Q' v G' := by
  intro k
  induction k with
  | zero => intro k' pc lo s G Q Q' h; exact h.elim
  | succ k ih =>
    intro k' pc lo s G Q Q' h h'
    cases k' with
    | zero => exact h'.elim
    | succ k' =>
      unfold X at h h'
      cases hs : stp E cx pc lo s G with
      | none => rw [hs] at h; exact h.elim
      | some r =>
        rw [hs] at h h'
        rcases r with r | r | v
        · exact ih _ _ _ _ _ _ _ h h'
        · obtain ⟨v, G', h1, h2⟩ := hd _ _ _ _ _ h h'
          exact ih _ _ _ _ _ _ _ h1 h2
        · exact ⟨v, G, h, h'⟩
theorem runs_det {E : Ev} : ∀ d id a G (P P' : Po), runs E d id a G P → runs E d id a G P' → ∃ v G', P v G' ∧ P' v G' := by
  intro d
  induction d with
  | zero => intro id a G P P' h; exact h.elim
  | succ d ih =>
    intro id a G P P' h h'
    unfold runs at h h'
    cases hs : tY[id]? with
    | none => rw [hs] at h; exact h.elim
    | some m =>
      rw [hs] at h h'
      obtain ⟨-, k, h2⟩ := h
      obtain ⟨-, k', h2'⟩ := h'
      exact X_det ih _ _ _ _ _ _ _ _ h2 h2'
/-- a contract as an equation -/
theorem runs_one {E : Ev} {d id : Nat} {a : List Value} {G : Hp} {v : Option Value} {G' : Hp} (h : ∀ P : Po, P v G' → runs E d id a G P) (P : Po) : runs E d id a G P = P v G' := by
  apply propext
  refine ⟨fun q => ?_, h P⟩
  obtain ⟨v1, G1, h1, h2⟩ := runs_det d id a G _ _ q (h (fun v' G'' => v' = v ∧ G'' = G') ⟨rfl, rfl⟩)
  rw [← h2.1, ← h2.2]
  exact h1
theorem gt_st_self {E : Ev} {G : Hp} {a : Nat} {c : Cl} (h : (gt E G a).isSome = true) : gt E (st E G a c) a = some c := by
  unfold gt at h ⊢
  unfold st
  split at h
  · next hb =>
    rw [if_pos hb, if_pos hb]
    have hl : a - eB E < G.1.length := by
      rw [Option.isSome_iff_exists] at h
      obtain ⟨x, hx⟩ := h
      exact (List.getElem?_eq_some_iff.mp hx).1
    simp [hl]
  · cases h
theorem gt_st_ne {E : Ev} {G : Hp} {a b : Nat} {c : Cl} (h : b ≠ a) : gt E (st E G a c) b = gt E G b := by
  unfold gt st
  by_cases hb : eB E ≤ b
  · rw [if_pos hb, if_pos hb]
    by_cases ha : eB E ≤ a
    · rw [if_pos ha]
      have hn : a - eB E ≠ b - eB E := by omega
      simp [hn]
    · rw [if_neg ha]
  · rw [if_neg hb, if_neg hb]
theorem gt_psh {E : Ev} {G : Hp} {a n : Nat} {c : Cl} (h : a < nxA E G) : gt E (psh G c n) a = gt E G a := by
  unfold gt psh
  unfold nxA at h
  by_cases hb : eB E ≤ a
  · rw [if_pos hb, if_pos hb]
    rw [List.getElem?_append_left (by omega)]
  · rw [if_neg hb, if_neg hb]
theorem gt_psh_self {E : Ev} {G : Hp} {n : Nat} {c : Cl} : gt E (psh G c n) (nxA E G) = some c := by
  unfold gt psh nxA
  rw [if_pos (by omega)]
  simp
theorem nxA_st {E : Ev} {G : Hp} {a : Nat} {c : Cl} : nxA E (st E G a c) = nxA E G := by
  unfold nxA st
  split <;> simp
theorem nxA_psh {E : Ev} {G : Hp} {n : Nat} {c : Cl} : nxA E (psh G c n) = nxA E G + 1 := by
  unfold nxA psh
  simp
  omega
end
section
/-! rows of X, an instruction a row; what a heap access asks, as a piece of a formula -/
def qFI (E : Ev) (G : Hp) (a ci k : Nat) (F : Int32 → Prop) : Prop := match gt E G a with
  | some (.inr (.inr (c, fs))) => c = ci ∧ (match fs[k]? with
    | some (.int x) => F x
    | _ => False)
  | _ => False
def qFR (E : Ev) (G : Hp) (a ci k : Nat) (F : Nat → Prop) : Prop := match gt E G a with
  | some (.inr (.inr (c, fs))) => c = ci ∧ (match fs[k]? with
    | some (.ref x) => F x
    | _ => False)
  | _ => False
def qP (E : Ev) (G : Hp) (a ci k : Nat) (v : Value) (F : Hp → Prop) : Prop := match gt E G a with
  | some (.inr (.inr (c, fs))) => c = ci ∧ k < fs.length ∧ F (st E G a (cO c (fs.set k v)))
  | _ => False
def qIA (o : Nat) (E : Ev) (G : Hp) (a : Nat) (i : Int32) (F : Int32 → Prop) : Prop := match gt E G a with
  | some (.inl (k, n, f)) => k = 0 ∧ ¬ bad i n ∧ F (f i.toNatClampNeg)
  | none => (match oI o E a with
    | some q => ¬ bad i q.1 ∧ F (q.2 i.toNatClampNeg)
    | none => False)
  | _ => False
def qBA (E : Ev) (G : Hp) (a : Nat) (i : Int32) (F : Int32 → Prop) : Prop := match gt E G a with
  | some (.inl (k, n, f)) => (k = 1 ∨ k = 2) ∧ ¬ bad i n ∧ F (f i.toNatClampNeg)
  | none => (match oB E a with
    | some q => ¬ bad i q.1 ∧ F (q.2 i.toNatClampNeg)
    | none => False)
  | _ => False
def qRA (E : Ev) (G : Hp) (a : Nat) (i : Int32) (F : Nat → Prop) : Prop := match gt E G a with
  | some (.inr (.inl (k, n, f))) => k ≤ 2 ∧ ¬ bad i n ∧ (match f i.toNatClampNeg with
    | some v => F v
    | none => False)
  | _ => False
def qIS (E : Ev) (G : Hp) (a : Nat) (i x : Int32) (F : Hp → Prop) : Prop := match gt E G a with
  | some (.inl (k, n, f)) => k = 0 ∧ ¬ bad i n ∧ F (st E G a (cA 0 n (upd f i.toNatClampNeg x)))
  | _ => False
def qBS (E : Ev) (G : Hp) (a : Nat) (i x : Int32) (F : Hp → Prop) : Prop := match gt E G a with
  | some (.inl (k, n, f)) => (k = 1 ∨ k = 2) ∧ ¬ bad i n ∧ F (st E G a (cA k n (upd f i.toNatClampNeg (vp_nar (kT k) x))))
  | _ => False
def qRS (E : Ev) (G : Hp) (a : Nat) (i : Int32) (v : Nat) (F : Hp → Prop) : Prop := match gt E G a with
  | some (.inr (.inl (k, n, f))) => k ≤ 1 ∧ ¬ bad i n ∧ (match gt E G v with
    | some (.inr (.inr (c, _))) => c = k + 1 ∧ F (st E G a (cR k n (va_up f i.toNatClampNeg (some v))))
    | _ => False)
  | _ => False
def qL (o : Nat) (E : Ev) (G : Hp) (a : Nat) (F : Int32 → Prop) : Prop := match gt E G a with
  | some (.inl (_, n, _)) => F (Int32.ofNat n)
  | some (.inr (.inl (k, n, _))) => k ≤ 2 ∧ F (Int32.ofNat n)
  | some (.inr (.inr _)) => False
  | none => (match oL o E a with
    | some n => F (Int32.ofNat n)
    | none => False)
def qCp (E : Ev) (G : Hp) (a0 : Nat) (sp : Int32) (a : Nat) (dp n : Int32) (F : Hp → Prop) : Prop := match gt E G a0 with
  | some (.inl (k0, n0, f)) => (match gt E G a with
    | some (.inl (k, n1, g)) => (k0 = k ∧ ¬ sp < 0 ∧ ¬ dp < 0 ∧ ¬ n < 0 ∧ sp.toNatClampNeg + n.toNatClampNeg ≤ n0 ∧ dp.toNatClampNeg + n.toNatClampNeg ≤ n1 ∧ ∀ i, i < n.toNatClampNeg → fits (kT k) (.int (f (sp.toNatClampNeg + i))) = true) ∧ F (st E G a (cA k n1 (va_cpy f g sp.toNatClampNeg dp.toNatClampNeg n.toNatClampNeg)))
    | _ => False)
  | _ => False
def qCI (E : Ev) (d id : Nat) (a : List Value) (G : Hp) (F : Int32 → Hp → Prop) : Prop := runs E d id a G fun v G' => match v with
  | some (.int x) => F x G'
  | _ => False
def qCJ (E : Ev) (d id : Nat) (a : List Value) (G : Hp) (F : Int64 → Hp → Prop) : Prop := runs E d id a G fun v G' => match v with
  | some (.long x) => F x G'
  | _ => False
def qCR (E : Ev) (d id : Nat) (a : List Value) (G : Hp) (F : Nat → Hp → Prop) : Prop := runs E d id a G fun v G' => match v with
  | some (.ref x) => F x G'
  | _ => False
def qCV (E : Ev) (d id : Nat) (a : List Value) (G : Hp) (F : Hp → Prop) : Prop := runs E d id a G fun v G' => match v with
  | none => F G'
  | _ => False
section XR
variable {E : Ev} {d : Nat} {cx : Cx} {pc : Nat} {lo : Lo} {s : List Value} {G : Hp} {Q : Po}
theorem stp_of {i : Instr} {n : Nat} (hd : decode cx.2.1 pc = .ok (i, n)) (hl : lenOk i n = true) : stp E cx pc lo s G = stpI E cx i pc lo s G := by
  unfold stp
  rw [hd]
  exact if_pos hl
theorem r_nx {i : Instr} {n : Nat} {pc' lo' s' G'} (hd : decode cx.2.1 pc = .ok (i, n)) (hl : lenOk i n = true) (hs : stpI E cx i pc lo s G = nx pc' lo' s' G') (h : Xr E d cx pc' lo' s' G' Q) : Xr E d cx pc lo s G Q := by
  rw [Xr_nx ((stp_of hd hl).trans hs)]
  exact h
theorem r_iconst {n : Int} (hd : decode cx.2.1 pc = .ok (.iconst n, 1)) (h : Xr E d cx (pc + 1) lo (.int (iv n) :: s) G Q) : Xr E d cx pc lo s G Q := r_nx hd rfl rfl h
theorem r_bipush {n : Int} (hd : decode cx.2.1 pc = .ok (.bipush n, 2)) (hn : (Int8.ofInt n).toInt32 = iv n) (h : Xr E d cx (pc + 2) lo (.int (iv n) :: s) G Q) : Xr E d cx pc lo s G Q := r_nx hd rfl (if_pos hn) h
theorem r_sipush {n : Int} (hd : decode cx.2.1 pc = .ok (.sipush n, 3)) (hn : (Int16.ofInt n).toInt32 = iv n) (h : Xr E d cx (pc + 3) lo (.int (iv n) :: s) G Q) : Xr E d cx pc lo s G Q := r_nx hd rfl (if_pos hn) h
theorem r_lconst {n : Fin 2} {v : Int64} (hd : decode cx.2.1 pc = .ok (.lconst n, 1)) (hv : Int64.ofNat (n : Nat) = v) (h : Xr E d cx (pc + 1) lo (.long v :: s) G Q) : Xr E d cx pc lo s G Q := by subst hv; exact r_nx hd rfl rfl h
theorem r_ldcS {x : Nat} (hd : decode cx.2.1 pc = .ok (.ldc x, 2)) (hk : kS E cx.1 x = some (eS E)) (h : Xr E d cx (pc + 2) lo (.ref (eS E) :: s) G Q) : Xr E d cx pc lo s G Q := by
  refine r_nx hd rfl ?_ h
  show (match kS E cx.1 x with | some a => nx (pc + 2) lo (.ref a :: s) G | none => _) = _
  rw [hk]
theorem r_ldcw {x p : Nat} {v : Int32} {z : Int} (hd : decode cx.2.1 pc = .ok (.ldc_w x, 3)) (hk : fI cx.1 x = some (v, p)) (hv : v = iv z) (h : Xr E d cx (pc + 3) lo (.int (iv z) :: s) G Q) : Xr E d cx pc lo s G Q := by
  subst hv
  refine r_nx hd rfl ?_ h
  show ov (fI cx.1 x) _ = _
  rw [hk]
  rfl
theorem r_ldc2 {x p : Nat} {v : Int64} (hd : decode cx.2.1 pc = .ok (.ldc2_w x, 3)) (hk : fJ cx.1 x = some (v, p)) (h : Xr E d cx (pc + 3) lo (.long v :: s) G Q) : Xr E d cx pc lo s G Q := by
  refine r_nx hd rfl ?_ h
  show ov (fJ cx.1 x) _ = _
  rw [hk]
  rfl
theorem ld_eq {p : Value → Bool} {pc i : Nat} {v : Value} (hk : lget lo i = some v) (hp : p v = true) : ld p pc i lo s G = nx pc lo (v :: s) G := by
  unfold ld ldv
  rw [hk]
  exact if_pos hp
theorem r_iload_n {k : Fin 4} {x : Int32} (hd : decode cx.2.1 pc = .ok (.iload_n k, 1)) (hk : lget lo k = some (.int x)) (h : Xr E d cx (pc + 1) lo (.int x :: s) G Q) : Xr E d cx pc lo s G Q := r_nx hd rfl (ld_eq hk rfl) h
theorem r_iload {k : Nat} {x : Int32} (hd : decode cx.2.1 pc = .ok (.iload k, 2)) (hk : lget lo k = some (.int x)) (h : Xr E d cx (pc + 2) lo (.int x :: s) G Q) : Xr E d cx pc lo s G Q := r_nx hd rfl (ld_eq hk rfl) h
theorem r_lload_n {k : Fin 4} {x : Int64} (hd : decode cx.2.1 pc = .ok (.lload_n k, 1)) (hk : lget lo k = some (.long x)) (h : Xr E d cx (pc + 1) lo (.long x :: s) G Q) : Xr E d cx pc lo s G Q := r_nx hd rfl (ld_eq hk rfl) h
theorem r_lload {k : Nat} {x : Int64} (hd : decode cx.2.1 pc = .ok (.lload k, 2)) (hk : lget lo k = some (.long x)) (h : Xr E d cx (pc + 2) lo (.long x :: s) G Q) : Xr E d cx pc lo s G Q := r_nx hd rfl (ld_eq hk rfl) h
theorem r_aload_n {k : Fin 4} {x : Nat} (hd : decode cx.2.1 pc = .ok (.aload_n k, 1)) (hk : lget lo k = some (.ref x)) (h : Xr E d cx (pc + 1) lo (.ref x :: s) G Q) : Xr E d cx pc lo s G Q := r_nx hd rfl (ld_eq hk rfl) h
theorem r_aload {k : Nat} {x : Nat} (hd : decode cx.2.1 pc = .ok (.aload k, 2)) (hk : lget lo k = some (.ref x)) (h : Xr E d cx (pc + 2) lo (.ref x :: s) G Q) : Xr E d cx pc lo s G Q := r_nx hd rfl (ld_eq hk rfl) h
theorem sto1_eq {p : Value → Bool} {pc i : Nat} {v : Value} {lo' : Lo} (hk : lst1 lo i v = some lo') (hp : p v = true) : sto1 p pc i lo (v :: s) G = nx pc lo' s G := by
  show gd (p v = true) inferInstance (ov (lst1 lo i v) fun lo' => nx pc lo' s G) = _
  rw [hk]
  exact if_pos hp
theorem r_istore_n {k : Fin 4} {x : Int32} {lo' : Lo} (hd : decode cx.2.1 pc = .ok (.istore_n k, 1)) (hk : lst1 lo k (.int x) = some lo') (h : Xr E d cx (pc + 1) lo' s G Q) : Xr E d cx pc lo (.int x :: s) G Q := r_nx hd rfl (sto1_eq hk rfl) h
theorem r_istore {k : Nat} {x : Int32} {lo' : Lo} (hd : decode cx.2.1 pc = .ok (.istore k, 2)) (hk : lst1 lo k (.int x) = some lo') (h : Xr E d cx (pc + 2) lo' s G Q) : Xr E d cx pc lo (.int x :: s) G Q := r_nx hd rfl (sto1_eq hk rfl) h
theorem r_astore_n {k : Fin 4} {x : Nat} {lo' : Lo} (hd : decode cx.2.1 pc = .ok (.astore_n k, 1)) (hk : lst1 lo k (.ref x) = some lo') (h : Xr E d cx (pc + 1) lo' s G Q) : Xr E d cx pc lo (.ref x :: s) G Q := r_nx hd rfl (sto1_eq hk rfl) h
theorem r_astore {k : Nat} {x : Nat} {lo' : Lo} (hd : decode cx.2.1 pc = .ok (.astore k, 2)) (hk : lst1 lo k (.ref x) = some lo') (h : Xr E d cx (pc + 2) lo' s G Q) : Xr E d cx pc lo (.ref x :: s) G Q := r_nx hd rfl (sto1_eq hk rfl) h
theorem sto2_eq {pc i : Nat} {x : Int64} {lo' : Lo} (hk : lst2 lo i (.long x) = some lo') : sto2 pc i lo (.long x :: s) G = nx pc lo' s G := by
  unfold sto2 p1l
  show ov (lst2 lo i (.long x)) _ = _
  rw [hk]
  rfl
theorem r_lstore_n {k : Fin 4} {x : Int64} {lo' : Lo} (hd : decode cx.2.1 pc = .ok (.lstore_n k, 1)) (hk : lst2 lo k (.long x) = some lo') (h : Xr E d cx (pc + 1) lo' s G Q) : Xr E d cx pc lo (.long x :: s) G Q := r_nx hd rfl (sto2_eq hk) h
theorem r_lstore {k : Nat} {x : Int64} {lo' : Lo} (hd : decode cx.2.1 pc = .ok (.lstore k, 2)) (hk : lst2 lo k (.long x) = some lo') (h : Xr E d cx (pc + 2) lo' s G Q) : Xr E d cx pc lo (.long x :: s) G Q := r_nx hd rfl (sto2_eq hk) h
theorem r_iinc {k : Nat} {n : Int} {x : Int32} {lo' : Lo} (hd : decode cx.2.1 pc = .ok (.iinc k n, 3)) (hx : lget lo k = some (.int x)) (hk : lst1 lo k (.int (x + iv n)) = some lo') (h : Xr E d cx (pc + 3) lo' s G Q) : Xr E d cx pc lo s G Q := by
  refine r_nx hd rfl ?_ h
  show ldv lo k _ = _
  unfold ldv
  rw [hx]
  show ov (lst1 lo k _) _ = _
  rw [hk]
  rfl
theorem r_iadd {x y : Int32} (hd : decode cx.2.1 pc = .ok (.iadd, 1)) (h : Xr E d cx (pc + 1) lo (.int (x + y) :: s) G Q) : Xr E d cx pc lo (.int y :: .int x :: s) G Q := r_nx hd rfl rfl h
theorem r_isub {x y : Int32} (hd : decode cx.2.1 pc = .ok (.isub, 1)) (h : Xr E d cx (pc + 1) lo (.int (x - y) :: s) G Q) : Xr E d cx pc lo (.int y :: .int x :: s) G Q := r_nx hd rfl rfl h
theorem r_imul {x y : Int32} (hd : decode cx.2.1 pc = .ok (.imul, 1)) (h : Xr E d cx (pc + 1) lo (.int (x * y) :: s) G Q) : Xr E d cx pc lo (.int y :: .int x :: s) G Q := r_nx hd rfl rfl h
theorem r_iand {x y : Int32} (hd : decode cx.2.1 pc = .ok (.iand, 1)) (h : Xr E d cx (pc + 1) lo (.int (x &&& y) :: s) G Q) : Xr E d cx pc lo (.int y :: .int x :: s) G Q := r_nx hd rfl rfl h
theorem r_ior {x y : Int32} (hd : decode cx.2.1 pc = .ok (.ior, 1)) (h : Xr E d cx (pc + 1) lo (.int (x ||| y) :: s) G Q) : Xr E d cx pc lo (.int y :: .int x :: s) G Q := r_nx hd rfl rfl h
theorem r_ixor {x y : Int32} (hd : decode cx.2.1 pc = .ok (.ixor, 1)) (h : Xr E d cx (pc + 1) lo (.int (x ^^^ y) :: s) G Q) : Xr E d cx pc lo (.int y :: .int x :: s) G Q := r_nx hd rfl rfl h
theorem r_ishl {x y : Int32} (hd : decode cx.2.1 pc = .ok (.ishl, 1)) (h : Xr E d cx (pc + 1) lo (.int (x <<< (y &&& 31)) :: s) G Q) : Xr E d cx pc lo (.int y :: .int x :: s) G Q := r_nx hd rfl rfl h
theorem r_ishr {x y : Int32} (hd : decode cx.2.1 pc = .ok (.ishr, 1)) (h : Xr E d cx (pc + 1) lo (.int (x >>> (y &&& 31)) :: s) G Q) : Xr E d cx pc lo (.int y :: .int x :: s) G Q := r_nx hd rfl rfl h
theorem r_iushr {x y : Int32} (hd : decode cx.2.1 pc = .ok (.iushr, 1)) (h : Xr E d cx (pc + 1) lo (.int ((x.toUInt32 >>> (y.toUInt32 &&& Int32.toUInt32 31)).toInt32) :: s) G Q) : Xr E d cx pc lo (.int y :: .int x :: s) G Q := r_nx hd rfl rfl h
theorem r_idiv {x y : Int32} (hd : decode cx.2.1 pc = .ok (.idiv, 1)) (h : ¬ y = 0 ∧ Xr E d cx (pc + 1) lo (.int (x / y) :: s) G Q) : Xr E d cx pc lo (.int y :: .int x :: s) G Q := r_nx hd rfl (if_pos h.1) h.2
theorem r_irem {x y : Int32} (hd : decode cx.2.1 pc = .ok (.irem, 1)) (h : ¬ y = 0 ∧ Xr E d cx (pc + 1) lo (.int (x - x / y * y) :: s) G Q) : Xr E d cx pc lo (.int y :: .int x :: s) G Q := r_nx hd rfl (if_pos h.1) h.2
theorem r_ladd {x y : Int64} (hd : decode cx.2.1 pc = .ok (.ladd, 1)) (h : Xr E d cx (pc + 1) lo (.long (x + y) :: s) G Q) : Xr E d cx pc lo (.long y :: .long x :: s) G Q := r_nx hd rfl rfl h
theorem r_lsub {x y : Int64} (hd : decode cx.2.1 pc = .ok (.lsub, 1)) (h : Xr E d cx (pc + 1) lo (.long (x - y) :: s) G Q) : Xr E d cx pc lo (.long y :: .long x :: s) G Q := r_nx hd rfl rfl h
theorem r_lmul {x y : Int64} (hd : decode cx.2.1 pc = .ok (.lmul, 1)) (h : Xr E d cx (pc + 1) lo (.long (x * y) :: s) G Q) : Xr E d cx pc lo (.long y :: .long x :: s) G Q := r_nx hd rfl rfl h
theorem r_land {x y : Int64} (hd : decode cx.2.1 pc = .ok (.land, 1)) (h : Xr E d cx (pc + 1) lo (.long (x &&& y) :: s) G Q) : Xr E d cx pc lo (.long y :: .long x :: s) G Q := r_nx hd rfl rfl h
theorem r_lor {x y : Int64} (hd : decode cx.2.1 pc = .ok (.lor, 1)) (h : Xr E d cx (pc + 1) lo (.long (x ||| y) :: s) G Q) : Xr E d cx pc lo (.long y :: .long x :: s) G Q := r_nx hd rfl rfl h
theorem r_ldiv {x y : Int64} (hd : decode cx.2.1 pc = .ok (.ldiv, 1)) (h : ¬ y = 0 ∧ Xr E d cx (pc + 1) lo (.long (x / y) :: s) G Q) : Xr E d cx pc lo (.long y :: .long x :: s) G Q := r_nx hd rfl (if_pos h.1) h.2
theorem r_lrem {x y : Int64} (hd : decode cx.2.1 pc = .ok (.lrem, 1)) (h : ¬ y = 0 ∧ Xr E d cx (pc + 1) lo (.long (x - x / y * y) :: s) G Q) : Xr E d cx pc lo (.long y :: .long x :: s) G Q := r_nx hd rfl (if_pos h.1) h.2
theorem r_lushr {x : Int64} {y : Int32} (hd : decode cx.2.1 pc = .ok (.lushr, 1)) (h : Xr E d cx (pc + 1) lo (.long ((x.toUInt64 >>> (y.toInt64.toUInt64 &&& Int64.toUInt64 63)).toInt64) :: s) G Q) : Xr E d cx pc lo (.int y :: .long x :: s) G Q := r_nx hd rfl rfl h
theorem r_lshl {x : Int64} {y : Int32} (hd : decode cx.2.1 pc = .ok (.lshl, 1)) (h : Xr E d cx (pc + 1) lo (.long (x <<< (y.toInt64 &&& 63)) :: s) G Q) : Xr E d cx pc lo (.int y :: .long x :: s) G Q := r_nx hd rfl rfl h
theorem r_lcmp {x y : Int64} (hd : decode cx.2.1 pc = .ok (.lcmp, 1)) (h : Xr E d cx (pc + 1) lo (.int (lg_cmp x y) :: s) G Q) : Xr E d cx pc lo (.long y :: .long x :: s) G Q := r_nx hd rfl rfl h
theorem r_i2l {x : Int32} (hd : decode cx.2.1 pc = .ok (.i2l, 1)) (h : Xr E d cx (pc + 1) lo (.long x.toInt64 :: s) G Q) : Xr E d cx pc lo (.int x :: s) G Q := r_nx hd rfl rfl h
theorem r_l2i {x : Int64} (hd : decode cx.2.1 pc = .ok (.l2i, 1)) (h : Xr E d cx (pc + 1) lo (.int x.toInt32 :: s) G Q) : Xr E d cx pc lo (.long x :: s) G Q := r_nx hd rfl rfl h
theorem r_i2b {x : Int32} (hd : decode cx.2.1 pc = .ok (.i2b, 1)) (h : Xr E d cx (pc + 1) lo (.int x.toInt8.toInt32 :: s) G Q) : Xr E d cx pc lo (.int x :: s) G Q := r_nx hd rfl rfl h
theorem r_i2c {x : Int32} (hd : decode cx.2.1 pc = .ok (.i2c, 1)) (h : Xr E d cx (pc + 1) lo (.int (x.toUInt32 % 65536).toInt32 :: s) G Q) : Xr E d cx pc lo (.int x :: s) G Q := r_nx hd rfl rfl h
theorem r_dup {v : Value} (hd : decode cx.2.1 pc = .ok (.dup, 1)) (hc : v.category = 1) (h : Xr E d cx (pc + 1) lo (v :: v :: s) G Q) : Xr E d cx pc lo (v :: s) G Q := r_nx hd rfl (if_pos hc) h
theorem r_pop {v : Value} (hd : decode cx.2.1 pc = .ok (.pop, 1)) (hc : v.category = 1) (h : Xr E d cx (pc + 1) lo s G Q) : Xr E d cx pc lo (v :: s) G Q := r_nx hd rfl (if_pos hc) h
theorem jmp_eq {pc tgt : Nat} {off : Int} (ht : (pc : Int) + off = (tgt : Int)) : jmp pc off lo s G = nx tgt lo s G := by
  unfold jmp
  rw [ht]
  exact if_pos (Int.natCast_nonneg _)
theorem r_goto {off : Int} {tgt : Nat} (hd : decode cx.2.1 pc = .ok (.goto off, 3)) (ht : (pc : Int) + off = (tgt : Int)) (h : Xr E d cx tgt lo s G Q) : Xr E d cx pc lo s G Q := r_nx hd rfl (jmp_eq ht) h
theorem r_bra {i : Instr} {c : Prop} [dc : Decidable c] {off : Int} {tgt : Nat} {s' : List Value} (hd : decode cx.2.1 pc = .ok (i, 3)) (hl : lenOk i 3 = true) (hs : stpI E cx i pc lo s' G = bra (decide c) pc off lo s G) (ht : (pc : Int) + off = (tgt : Int)) (h : if c then Xr E d cx tgt lo s G Q else Xr E d cx (pc + 3) lo s G Q) : Xr E d cx pc lo s' G Q := by
  by_cases hc : c
  · rw [if_pos hc] at h
    refine r_nx hd hl ?_ h
    rw [hs, decide_eq_true hc]
    exact jmp_eq ht
  · rw [if_neg hc] at h
    refine r_nx hd hl ?_ h
    rw [hs, decide_eq_false hc]
    rfl
theorem r_ifeq {off : Int} {tgt : Nat} {x : Int32} (hd : decode cx.2.1 pc = .ok (.ifCond .eq off, 3)) (ht : (pc : Int) + off = (tgt : Int)) (h : if x = 0 then Xr E d cx tgt lo s G Q else Xr E d cx (pc + 3) lo s G Q) : Xr E d cx pc lo (.int x :: s) G Q := r_bra hd rfl rfl ht h
theorem r_ifne {off : Int} {tgt : Nat} {x : Int32} (hd : decode cx.2.1 pc = .ok (.ifCond .ne off, 3)) (ht : (pc : Int) + off = (tgt : Int)) (h : if ¬ x = 0 then Xr E d cx tgt lo s G Q else Xr E d cx (pc + 3) lo s G Q) : Xr E d cx pc lo (.int x :: s) G Q := r_bra hd rfl rfl ht h
theorem r_iflt {off : Int} {tgt : Nat} {x : Int32} (hd : decode cx.2.1 pc = .ok (.ifCond .lt off, 3)) (ht : (pc : Int) + off = (tgt : Int)) (h : if x < 0 then Xr E d cx tgt lo s G Q else Xr E d cx (pc + 3) lo s G Q) : Xr E d cx pc lo (.int x :: s) G Q := r_bra hd rfl rfl ht h
theorem r_ifge {off : Int} {tgt : Nat} {x : Int32} (hd : decode cx.2.1 pc = .ok (.ifCond .ge off, 3)) (ht : (pc : Int) + off = (tgt : Int)) (h : if 0 ≤ x then Xr E d cx tgt lo s G Q else Xr E d cx (pc + 3) lo s G Q) : Xr E d cx pc lo (.int x :: s) G Q := r_bra hd rfl rfl ht h
theorem r_ifgt {off : Int} {tgt : Nat} {x : Int32} (hd : decode cx.2.1 pc = .ok (.ifCond .gt off, 3)) (ht : (pc : Int) + off = (tgt : Int)) (h : if 0 < x then Xr E d cx tgt lo s G Q else Xr E d cx (pc + 3) lo s G Q) : Xr E d cx pc lo (.int x :: s) G Q := r_bra hd rfl rfl ht h
theorem r_ifle {off : Int} {tgt : Nat} {x : Int32} (hd : decode cx.2.1 pc = .ok (.ifCond .le off, 3)) (ht : (pc : Int) + off = (tgt : Int)) (h : if x ≤ 0 then Xr E d cx tgt lo s G Q else Xr E d cx (pc + 3) lo s G Q) : Xr E d cx pc lo (.int x :: s) G Q := r_bra hd rfl rfl ht h
theorem r_ceq {off : Int} {tgt : Nat} {x y : Int32} (hd : decode cx.2.1 pc = .ok (.if_icmp .eq off, 3)) (ht : (pc : Int) + off = (tgt : Int)) (h : if x = y then Xr E d cx tgt lo s G Q else Xr E d cx (pc + 3) lo s G Q) : Xr E d cx pc lo (.int y :: .int x :: s) G Q := r_bra hd rfl rfl ht h
theorem r_cne {off : Int} {tgt : Nat} {x y : Int32} (hd : decode cx.2.1 pc = .ok (.if_icmp .ne off, 3)) (ht : (pc : Int) + off = (tgt : Int)) (h : if ¬ x = y then Xr E d cx tgt lo s G Q else Xr E d cx (pc + 3) lo s G Q) : Xr E d cx pc lo (.int y :: .int x :: s) G Q := r_bra hd rfl rfl ht h
theorem r_clt {off : Int} {tgt : Nat} {x y : Int32} (hd : decode cx.2.1 pc = .ok (.if_icmp .lt off, 3)) (ht : (pc : Int) + off = (tgt : Int)) (h : if x < y then Xr E d cx tgt lo s G Q else Xr E d cx (pc + 3) lo s G Q) : Xr E d cx pc lo (.int y :: .int x :: s) G Q := r_bra hd rfl rfl ht h
theorem r_cge {off : Int} {tgt : Nat} {x y : Int32} (hd : decode cx.2.1 pc = .ok (.if_icmp .ge off, 3)) (ht : (pc : Int) + off = (tgt : Int)) (h : if y ≤ x then Xr E d cx tgt lo s G Q else Xr E d cx (pc + 3) lo s G Q) : Xr E d cx pc lo (.int y :: .int x :: s) G Q := r_bra hd rfl rfl ht h
theorem r_cgt {off : Int} {tgt : Nat} {x y : Int32} (hd : decode cx.2.1 pc = .ok (.if_icmp .gt off, 3)) (ht : (pc : Int) + off = (tgt : Int)) (h : if y < x then Xr E d cx tgt lo s G Q else Xr E d cx (pc + 3) lo s G Q) : Xr E d cx pc lo (.int y :: .int x :: s) G Q := r_bra hd rfl rfl ht h
theorem r_cle {off : Int} {tgt : Nat} {x y : Int32} (hd : decode cx.2.1 pc = .ok (.if_icmp .le off, 3)) (ht : (pc : Int) + off = (tgt : Int)) (h : if x ≤ y then Xr E d cx tgt lo s G Q else Xr E d cx (pc + 3) lo s G Q) : Xr E d cx pc lo (.int y :: .int x :: s) G Q := r_bra hd rfl rfl ht h
theorem r_tswIn {dflt l hh : Int} {offs : Array Int} {n : Nat} {x : Int32} {off : Int} {tgt : Nat} (hd : decode cx.2.1 pc = .ok (.tableswitch dflt l hh offs, n)) (h1 : ¬ (x.toInt < l ∨ hh < x.toInt)) (ho : offs[(x.toInt - l).toNat]? = some off) (ht : (pc : Int) + off = (tgt : Int)) (h : Xr E d cx tgt lo s G Q) : Xr E d cx pc lo (.int x :: s) G Q := by
  refine r_nx hd rfl ?_ h
  show (if x.toInt < l ∨ hh < x.toInt then jmp pc dflt lo s G else ov offs[(x.toInt - l).toNat]? fun off => jmp pc off lo s G) = _
  rw [if_neg h1, ho]
  exact jmp_eq ht
theorem r_tswOut {dflt l hh : Int} {offs : Array Int} {n : Nat} {x : Int32} {tgt : Nat} (hd : decode cx.2.1 pc = .ok (.tableswitch dflt l hh offs, n)) (h1 : x.toInt < l ∨ hh < x.toInt) (ht : (pc : Int) + dflt = (tgt : Int)) (h : Xr E d cx tgt lo s G Q) : Xr E d cx pc lo (.int x :: s) G Q := by
  refine r_nx hd rfl ?_ h
  show (if x.toInt < l ∨ hh < x.toInt then jmp pc dflt lo s G else _) = _
  rw [if_pos h1]
  exact jmp_eq ht
/-! heap -/
theorem getO_eq {x a : Nat} {q : Nat × Nat × Nat} {fs : List Value} {v : Value} {r : List Value} (hf : fF cx.1 x = some q) (hg : gt E G a = some (cO q.1 fs)) (hv : fs[q.2.1]? = some v) : stpI E cx (.getfield x) pc lo (.ref a :: r) G = nx (pc + 3) lo (v :: r) G := by
  show (match fF cx.1 x with | some q => gtO E G a (fun c fs => gd (c = q.1) inferInstance (ov fs[q.2.1]? fun v => nx (pc + 3) lo (v :: r) G)) none | none => _) = _
  rw [hf]
  show gtO E G a _ _ = _
  unfold gtO
  rw [hg]
  show gd _ _ (ov fs[q.2.1]? _) = _
  rw [hv]
  exact if_pos rfl
theorem r_getI {x a ci k p : Nat} (hd : decode cx.2.1 pc = .ok (.getfield x, 3)) (hf : fF cx.1 x = some (ci, k, p)) (h : qFI E G a ci k fun v => Xr E d cx (pc + 3) lo (.int v :: s) G Q) : Xr E d cx pc lo (.ref a :: s) G Q := by
  unfold qFI at h
  split at h
  · next c fs hg =>
    obtain ⟨rfl, h⟩ := h
    split at h
    · next v hv => exact r_nx hd rfl (getO_eq hf hg hv) h
    · exact h.elim
  · exact h.elim
theorem r_getR {x a ci k p : Nat} (hd : decode cx.2.1 pc = .ok (.getfield x, 3)) (hf : fF cx.1 x = some (ci, k, p)) (h : qFR E G a ci k fun v => Xr E d cx (pc + 3) lo (.ref v :: s) G Q) : Xr E d cx pc lo (.ref a :: s) G Q := by
  unfold qFR at h
  split at h
  · next c fs hg =>
    obtain ⟨rfl, h⟩ := h
    split at h
    · next v hv => exact r_nx hd rfl (getO_eq hf hg hv) h
    · exact h.elim
  · exact h.elim
theorem r_getH {x a : Nat} {v : Value} (hd : decode cx.2.1 pc = .ok (.getfield x, 3)) (hf : fF cx.1 x = none) (hv : hT E cx.1 x a = some v) (h : gt E G a = none ∧ Xr E d cx (pc + 3) lo (v :: s) G Q) : Xr E d cx pc lo (.ref a :: s) G Q := by
  refine r_nx hd rfl ?_ h.2
  show (match fF cx.1 x with | some q => _ | none => gtO E G a (fun _ _ => none) (ov (hT E cx.1 x a) fun v => nx (pc + 3) lo (v :: s) G)) = _
  rw [hf]
  show gtO E G a _ _ = _
  unfold gtO
  rw [h.1]
  show ov _ _ = _
  rw [hv]
  rfl
theorem r_gets {x : Nat} {v : Value} (hd : decode cx.2.1 pc = .ok (.getstatic x, 3)) (hv : gS E cx.1 x = some v) (h : Xr E d cx (pc + 3) lo (v :: s) G Q) : Xr E d cx pc lo s G Q := by
  refine r_nx hd rfl ?_ h
  show ov (gS E cx.1 x) _ = _
  rw [hv]
  rfl
theorem r_put {x a ci k p : Nat} {v : Value} (hd : decode cx.2.1 pc = .ok (.putfield x, 3)) (hf : fF cx.1 x = some (ci, k, p)) (ho : okV (fTy ci k) v = true) (hi : (fTb ci k).2.2.2 = true → cx.2.2.1 = true ∧ cx.1 = ci) (h : qP E G a ci k v fun G' => Xr E d cx (pc + 3) lo s G' Q) : Xr E d cx pc lo (v :: .ref a :: s) G Q := by
  unfold qP at h
  split at h
  · next c fs hg =>
    obtain ⟨rfl, hl, h⟩ := h
    refine r_nx hd rfl ?_ h
    show ov (fF cx.1 x) _ = _
    rw [hf]
    show gtO E G a _ _ = _
    unfold gtO
    rw [hg]
    exact if_pos ⟨rfl, hl, ho, hi⟩
  · exact h.elim
theorem r_iald {a : Nat} {i : Int32} (hd : decode cx.2.1 pc = .ok (.iaload, 1)) (h : qIA cx.1 E G a i fun v => Xr E d cx (pc + 1) lo (.int v :: s) G Q) : Xr E d cx pc lo (.int i :: .ref a :: s) G Q := by
  unfold qIA at h
  split at h
  · next k n f hg =>
    refine r_nx hd rfl ?_ h.2.2
    show gtA E G a _ _ = _
    unfold gtA
    rw [hg]
    exact if_pos ⟨h.1, h.2.1⟩
  · next hg =>
    split at h
    · next q hq =>
      refine r_nx hd rfl ?_ h.2
      show gtA E G a _ _ = _
      unfold gtA
      rw [hg]
      show ov (oI cx.1 E a) _ = _
      rw [hq]
      exact if_pos h.1
    · exact h.elim
  · exact h.elim
theorem r_bald {a : Nat} {i : Int32} (hd : decode cx.2.1 pc = .ok (.baload, 1)) (h : qBA E G a i fun v => Xr E d cx (pc + 1) lo (.int v :: s) G Q) : Xr E d cx pc lo (.int i :: .ref a :: s) G Q := by
  unfold qBA at h
  split at h
  · next k n f hg =>
    refine r_nx hd rfl ?_ h.2.2
    show gtA E G a _ _ = _
    unfold gtA
    rw [hg]
    exact if_pos ⟨h.1, h.2.1⟩
  · next hg =>
    split at h
    · next q hq =>
      refine r_nx hd rfl ?_ h.2
      show gtA E G a _ _ = _
      unfold gtA
      rw [hg]
      show ov (oB E a) _ = _
      rw [hq]
      exact if_pos h.1
    · exact h.elim
  · exact h.elim
theorem r_aald {a : Nat} {i : Int32} (hd : decode cx.2.1 pc = .ok (.aaload, 1)) (h : qRA E G a i fun v => Xr E d cx (pc + 1) lo (.ref v :: s) G Q) : Xr E d cx pc lo (.int i :: .ref a :: s) G Q := by
  unfold qRA at h
  split at h
  · next k n f hg =>
    obtain ⟨h1, h2, h⟩ := h
    split at h
    · next v hv =>
      refine r_nx hd rfl ?_ h
      show gtR E G a _ = _
      unfold gtR
      rw [hg]
      show gd _ _ (ov (f i.toNatClampNeg) _) = _
      rw [hv]
      exact if_pos ⟨h1, h2⟩
    · exact h.elim
  · exact h.elim
theorem r_iast {a : Nat} {i x : Int32} (hd : decode cx.2.1 pc = .ok (.iastore, 1)) (h : qIS E G a i x fun G' => Xr E d cx (pc + 1) lo s G' Q) : Xr E d cx pc lo (.int x :: .int i :: .ref a :: s) G Q := by
  unfold qIS at h
  split at h
  · next k n f hg =>
    refine r_nx hd rfl ?_ h.2.2
    show gtA E G a _ _ = _
    unfold gtA
    rw [hg]
    exact if_pos ⟨h.1, h.2.1⟩
  · exact h.elim
theorem r_bast {a : Nat} {i x : Int32} (hd : decode cx.2.1 pc = .ok (.bastore, 1)) (h : qBS E G a i x fun G' => Xr E d cx (pc + 1) lo s G' Q) : Xr E d cx pc lo (.int x :: .int i :: .ref a :: s) G Q := by
  unfold qBS at h
  split at h
  · next k n f hg =>
    refine r_nx hd rfl ?_ h.2.2
    show gtA E G a _ _ = _
    unfold gtA
    rw [hg]
    exact if_pos ⟨h.1, h.2.1⟩
  · exact h.elim
theorem r_aast {a v : Nat} {i : Int32} (hd : decode cx.2.1 pc = .ok (.aastore, 1)) (h : qRS E G a i v fun G' => Xr E d cx (pc + 1) lo s G' Q) : Xr E d cx pc lo (.ref v :: .int i :: .ref a :: s) G Q := by
  unfold qRS at h
  split at h
  · next k n f hg =>
    obtain ⟨h1, h2, h⟩ := h
    split at h
    · next c fs hv =>
      refine r_nx hd rfl ?_ h.2
      show gtR E G a _ = _
      unfold gtR
      rw [hg]
      show gd _ _ (gtO E G v _ _) = _
      unfold gtO
      rw [hv]
      show gd _ _ (gd _ _ _) = _
      rw [show gd (c = k + 1) inferInstance (nx (pc + 1) lo s (st E G a (cR k n (va_up f i.toNatClampNeg (some v))))) = nx (pc + 1) lo s (st E G a (cR k n (va_up f i.toNatClampNeg (some v)))) from if_pos h.1]
      exact if_pos ⟨h1, h2⟩
    · exact h.elim
  · exact h.elim
theorem r_alen {a : Nat} (hd : decode cx.2.1 pc = .ok (.arraylength, 1)) (h : qL cx.1 E G a fun v => Xr E d cx (pc + 1) lo (.int v :: s) G Q) : Xr E d cx pc lo (.ref a :: s) G Q := by
  unfold qL at h
  have e : stpI E cx .arraylength pc lo (.ref a :: s) G = (match gt E G a with
    | some (.inl (_, n, _)) => nx (pc + 1) lo (.int (Int32.ofNat n) :: s) G
    | some (.inr (.inl (k, n, _))) => gd (k ≤ 2) inferInstance (nx (pc + 1) lo (.int (Int32.ofNat n) :: s) G)
    | some (.inr (.inr _)) => none
    | none => ov (oL cx.1 E a) fun n => nx (pc + 1) lo (.int (Int32.ofNat n) :: s) G) := rfl
  split at h
  · next hg => exact r_nx hd rfl (by rw [e, hg]) h
  · next hg => exact r_nx hd rfl (by rw [e, hg]; exact if_pos h.1) h.2
  · exact h.elim
  · next hg =>
    split at h
    · next hq => exact r_nx hd rfl (by rw [e, hg, hq]; rfl) h
    · exact h.elim
theorem r_newI {n : Int32} (hd : decode cx.2.1 pc = .ok (.newarray .int, 2)) (h : (¬ n < 0 ∧ n.toNatClampNeg ≤ 100000) ∧ Xr E d cx (pc + 2) lo (.ref (nxA E G) :: s) (psh G (cA 0 n.toNatClampNeg (fun _ => 0)) n.toNatClampNeg) Q) : Xr E d cx pc lo (.int n :: s) G Q := r_nx hd rfl (if_pos h.1) h.2
theorem r_newB {n : Int32} (hd : decode cx.2.1 pc = .ok (.newarray .byte, 2)) (h : (¬ n < 0 ∧ n.toNatClampNeg ≤ 100000) ∧ Xr E d cx (pc + 2) lo (.ref (nxA E G) :: s) (psh G (cA 1 n.toNatClampNeg (fun _ => 0)) n.toNatClampNeg) Q) : Xr E d cx pc lo (.int n :: s) G Q := r_nx hd rfl (if_pos h.1) h.2
theorem r_newZ {n : Int32} (hd : decode cx.2.1 pc = .ok (.newarray .boolean, 2)) (h : (¬ n < 0 ∧ n.toNatClampNeg ≤ 100000) ∧ Xr E d cx (pc + 2) lo (.ref (nxA E G) :: s) (psh G (cA 2 n.toNatClampNeg (fun _ => 0)) n.toNatClampNeg) Q) : Xr E d cx pc lo (.int n :: s) G Q := r_nx hd rfl (if_pos h.1) h.2
theorem r_newR {n : Int32} {x p ci : Nat} (hd : decode cx.2.1 pc = .ok (.anewarray x, 3)) (hf : fC cx.1 x = some (ci, p)) (hc : ci = 1 ∨ ci = 2) (h : (¬ n < 0 ∧ n.toNatClampNeg ≤ 100000) ∧ Xr E d cx (pc + 3) lo (.ref (nxA E G) :: s) (psh G (cR (ci - 1) n.toNatClampNeg (fun _ => none)) n.toNatClampNeg) Q) : Xr E d cx pc lo (.int n :: s) G Q := by
  refine r_nx hd rfl ?_ h.2
  show ov (fC cx.1 x) _ = _
  rw [hf]
  exact if_pos ⟨hc, h.1⟩
theorem r_newM {n k : Int32} (hd : decode cx.2.1 pc = .ok (.multianewarray 15 2, 4)) (ho : cx.1 = 5) (h : (¬ n < 0 ∧ ¬ k < 0 ∧ n.toNatClampNeg ≤ 1000 ∧ k.toNatClampNeg ≤ 1000) ∧ Xr E d cx (pc + 4) lo (.ref (nxA E G) :: s) (pshs (psh G (cR 2 n.toNatClampNeg (fun i => if i < n.toNatClampNeg then some (nxA E G + 1 + i) else none)) n.toNatClampNeg) n.toNatClampNeg k.toNatClampNeg) Q) : Xr E d cx pc lo (.int k :: .int n :: s) G Q := r_nx hd rfl (if_pos ⟨ho, rfl, h.1⟩) h.2
theorem r_new {x p ci : Nat} (hd : decode cx.2.1 pc = .ok (.new x, 3)) (hf : fC cx.1 x = some (ci, p)) (hc : ci < 8) (h : Xr E d cx (pc + 3) lo (.ref (nxA E G) :: s) (psh G (cO ci (fDf ci)) (fSz ci)) Q) : Xr E d cx pc lo s G Q := by
  refine r_nx hd rfl ?_ h
  show ov (fC cx.1 x) _ = _
  rw [hf]
  exact if_pos hc
theorem r_cpy {x a0 a p z : Nat} {sp dp n : Int32} (hd : decode cx.2.1 pc = .ok (.invokestatic x, 3)) (hf : fM cx.1 x = some (3, z, p)) (hl : s.length ≤ 4) (h : qCp E G a0 sp a dp n fun G' => Xr E d cx (pc + 3) lo s G' Q) : Xr E d cx pc lo (.int n :: .int dp :: .ref a :: .int sp :: .ref a0 :: s) G Q := by
  unfold qCp at h
  split at h
  · next k0 n0 f hg0 =>
    split at h
    · next k n1 g hg =>
      obtain ⟨⟨h1, h2⟩, h⟩ := h
      refine r_nx hd rfl ?_ h
      show ov (fM cx.1 x) _ = _
      rw [hf]
      show gtA E G a0 _ _ = _
      unfold gtA
      rw [hg0]
      show gtA E G a _ _ = _
      unfold gtA
      rw [hg]
      exact if_pos ⟨h1, hl, h2⟩
    · exact h.elim
  · exact h.elim
theorem r_oinit {x a p z : Nat} (hd : decode cx.2.1 pc = .ok (.invokespecial x, 3)) (hf : fM cx.1 x = some (4, z, p)) (hl : s.length ≤ 4) (h : Xr E d cx (pc + 3) lo s G Q) : Xr E d cx pc lo (.ref a :: s) G Q := by
  refine r_nx hd rfl ?_ h
  show ov (fM cx.1 x) _ = _
  rw [hf]
  exact if_pos hl
/-! calls -/
theorem r_call {i : Instr} {id : Nat} {a r : List Value} (hd : decode cx.2.1 pc = .ok (i, 3)) (hl : lenOk i 3 = true) (hs : stpI E cx i pc lo s G = some (.inr (.inl (id, a, pc + 3, r)))) (h : runs E d id a G (fun v G' => Xr E d cx (pc + 3) lo (v.toList ++ r) G' Q)) : Xr E d cx pc lo s G Q := by
  rw [Xr_call ((stp_of hd hl).trans hs)]
  exact h
theorem invS_eq {x kind id p : Nat} {m : Mi} {a r : List Value} (hf : fM cx.1 x = some (kind, id, p)) (hk : kind = 0 ∨ kind = 5) (hm : tY[id]? = some m) (hst : m.2.2.2.2.2.2.2 = true) (ha : (s.take (nA m)).reverse = a) (hr : s.drop (nA m) = r) (hl : a.length = nA m ∧ r.length ≤ 4) : stpI E cx (.invokestatic x) pc lo s G = some (.inr (.inl (id, a, pc + 3, r))) := by
  show invS E cx.1 x pc lo s G = _
  unfold invS
  rw [hf]
  rcases hk with rfl | rfl
  · show callA E 0 id pc s G = _
    unfold callA
    rw [hm]
    show callB E 0 id pc G m _ _ = _
    rw [ha, hr]
    unfold callB
    exact (if_pos hl).trans (if_pos hst)
  · show callA E 5 id pc s G = _
    unfold callA
    rw [hm]
    show callB E 5 id pc G m _ _ = _
    rw [ha, hr]
    unfold callB
    exact (if_pos hl).trans (if_pos hst)
theorem invV_eq {x id p b : Nat} {m : Mi} {a r : List Value} (hf : fM cx.1 x = some (1, id, p)) (hm : tY[id]? = some m) (hst : m.2.2.2.2.2.2.2 = false) (hin : m.2.2.2.2.2.2.1 = false) (ha : (s.take (nA m)).reverse = .ref b :: a) (hr : s.drop (nA m) = r) (hl : (Value.ref b :: a).length = nA m ∧ r.length ≤ 4) (hrc : rcv E G b m.2.2.2.2.2.1 = true) : stpI E cx (.invokevirtual x) pc lo s G = some (.inr (.inl (id, .ref b :: a, pc + 3, r))) := by
  show invV E cx.1 x pc s G = _
  unfold invV
  rw [hf]
  show callA E 1 id pc s G = _
  unfold callA
  rw [hm]
  show callB E 1 id pc G m _ _ = _
  rw [ha, hr]
  unfold callB
  exact (if_pos hl).trans (if_pos ⟨hst, hin, hrc⟩)
theorem invI_eq {x id p b : Nat} {m : Mi} {a r : List Value} (hf : fM cx.1 x = some (2, id, p)) (hm : tY[id]? = some m) (hst : m.2.2.2.2.2.2.2 = false) (hin : m.2.2.2.2.2.2.1 = true) (ha : (s.take (nA m)).reverse = .ref b :: a) (hr : s.drop (nA m) = r) (hl : (Value.ref b :: a).length = nA m ∧ r.length ≤ 4) : stpI E cx (.invokespecial x) pc lo s G = some (.inr (.inl (id, .ref b :: a, pc + 3, r))) := by
  show invI E cx.1 x pc lo s G = _
  unfold invI
  rw [hf]
  show callA E 2 id pc s G = _
  unfold callA
  rw [hm]
  show callB E 2 id pc G m _ _ = _
  rw [ha, hr]
  unfold callB
  exact (if_pos hl).trans (if_pos ⟨hst, hin⟩)
theorem r_cI {i : Instr} {id : Nat} {a r : List Value} (hd : decode cx.2.1 pc = .ok (i, 3)) (hl : lenOk i 3 = true) (hs : stpI E cx i pc lo s G = some (.inr (.inl (id, a, pc + 3, r)))) (h : qCI E d id a G (fun v G' => Xr E d cx (pc + 3) lo (.int v :: r) G' Q)) : Xr E d cx pc lo s G Q :=
  r_call hd hl hs (runs_mono _ _ _ _ _ _ (fun v G' q => by
    split at q
    · exact q
    · exact q.elim) h)
theorem r_cJ {i : Instr} {id : Nat} {a r : List Value} (hd : decode cx.2.1 pc = .ok (i, 3)) (hl : lenOk i 3 = true) (hs : stpI E cx i pc lo s G = some (.inr (.inl (id, a, pc + 3, r)))) (h : qCJ E d id a G (fun v G' => Xr E d cx (pc + 3) lo (.long v :: r) G' Q)) : Xr E d cx pc lo s G Q :=
  r_call hd hl hs (runs_mono _ _ _ _ _ _ (fun v G' q => by
    split at q
    · exact q
    · exact q.elim) h)
theorem r_cR {i : Instr} {id : Nat} {a r : List Value} (hd : decode cx.2.1 pc = .ok (i, 3)) (hl : lenOk i 3 = true) (hs : stpI E cx i pc lo s G = some (.inr (.inl (id, a, pc + 3, r)))) (h : qCR E d id a G (fun v G' => Xr E d cx (pc + 3) lo (.ref v :: r) G' Q)) : Xr E d cx pc lo s G Q :=
  r_call hd hl hs (runs_mono _ _ _ _ _ _ (fun v G' q => by
    split at q
    · exact q
    · exact q.elim) h)
theorem r_cV {i : Instr} {id : Nat} {a r : List Value} (hd : decode cx.2.1 pc = .ok (i, 3)) (hl : lenOk i 3 = true) (hs : stpI E cx i pc lo s G = some (.inr (.inl (id, a, pc + 3, r)))) (h : qCV E d id a G (fun G' => Xr E d cx (pc + 3) lo r G' Q)) : Xr E d cx pc lo s G Q :=
  r_call hd hl hs (runs_mono _ _ _ _ _ _ (fun v G' q => by
    split at q
    · exact q
    · exact q.elim) h)
/-! ends -/
theorem r_ret {i : Instr} {v : Option Value} (hd : decode cx.2.1 pc = .ok (i, 1)) (hl : lenOk i 1 = true) (hs : stpI E cx i pc lo s G = some (.inr (.inr v))) (h : Q v G) : Xr E d cx pc lo s G Q := by
  rw [Xr_ret ((stp_of hd hl).trans hs)]
  exact h
theorem r_iret {t : FieldType} {v : Int32} (hd : decode cx.2.1 pc = .ok (.ireturn, 1)) (ht : cx.2.2.2 = some t) (h : narrow t (.int v) = .int v ∧ Q (some (.int v)) G) : Xr E d cx pc lo [.int v] G Q := by
  refine r_ret hd rfl ?_ h.2
  show (match cx.2.2.2 with | some t => gd (narrow t (Value.int v) = Value.int v) inferInstance (some (Sum.inr (Sum.inr (some (Value.int v))))) | none => none) = _
  rw [ht]
  exact if_pos h.1
theorem r_lret {v : Int64} (hd : decode cx.2.1 pc = .ok (.lreturn, 1)) (ht : cx.2.2.2 = some .long) (h : Q (some (.long v)) G) : Xr E d cx pc lo [.long v] G Q := r_ret hd rfl (if_pos ht) h
theorem r_aret {v : Nat} {nm : String} (hd : decode cx.2.1 pc = .ok (.areturn, 1)) (ht : cx.2.2.2 = some (.object nm)) (h : Q (some (.ref v)) G) : Xr E d cx pc lo [.ref v] G Q := by
  refine r_ret hd rfl ?_ h
  show ((match cx.2.2.2 with | some (.object _) => some (Sum.inr (Sum.inr (some (Value.ref v)))) | some (.array _) => some (Sum.inr (Sum.inr (some (Value.ref v)))) | _ => none) : Option Rs) = _
  rw [ht]
theorem r_vret (hd : decode cx.2.1 pc = .ok (.return_, 1)) (ht : cx.2.2.2 = none) (h : Q none G) : Xr E d cx pc lo [] G Q := r_ret hd rfl (if_pos ht) h
end XR
theorem ite_imp {c : Prop} [Decidable c] {A B A' B' : Prop} (f : A → A') (g : B → B') (h : if c then A else B) : if c then A' else B' := by
  by_cases hc : c
  · rw [if_pos hc] at h ⊢; exact f h
  · rw [if_neg hc] at h ⊢; exact g h
section QI
variable {E : Ev} {d : Nat} {G : Hp}
theorem qFI_imp {a ci k : Nat} {F F' : Int32 → Prop} (f : ∀ v, F v → F' v) (h : qFI E G a ci k F) : qFI E G a ci k F' := by
  unfold qFI at h ⊢
  split at h
  · refine ⟨h.1, ?_⟩
    have h := h.2
    split at h
    · exact f _ h
    · exact h.elim
  · exact h.elim
theorem qFR_imp {a ci k : Nat} {F F' : Nat → Prop} (f : ∀ v, F v → F' v) (h : qFR E G a ci k F) : qFR E G a ci k F' := by
  unfold qFR at h ⊢
  split at h
  · refine ⟨h.1, ?_⟩
    have h := h.2
    split at h
    · exact f _ h
    · exact h.elim
  · exact h.elim
theorem qP_imp {a ci k : Nat} {v : Value} {F F' : Hp → Prop} (f : ∀ v, F v → F' v) (h : qP E G a ci k v F) : qP E G a ci k v F' := by
  unfold qP at h ⊢
  split at h
  · exact ⟨h.1, h.2.1, f _ h.2.2⟩
  · exact h.elim
theorem qIA_imp {o a : Nat} {i : Int32} {F F' : Int32 → Prop} (f : ∀ v, F v → F' v) (h : qIA o E G a i F) : qIA o E G a i F' := by
  unfold qIA at h ⊢
  split at h
  · exact ⟨h.1, h.2.1, f _ h.2.2⟩
  · split at h
    · exact ⟨h.1, f _ h.2⟩
    · exact h.elim
  · exact h.elim
theorem qBA_imp {a : Nat} {i : Int32} {F F' : Int32 → Prop} (f : ∀ v, F v → F' v) (h : qBA E G a i F) : qBA E G a i F' := by
  unfold qBA at h ⊢
  split at h
  · exact ⟨h.1, h.2.1, f _ h.2.2⟩
  · split at h
    · exact ⟨h.1, f _ h.2⟩
    · exact h.elim
  · exact h.elim
theorem qRA_imp {a : Nat} {i : Int32} {F F' : Nat → Prop} (f : ∀ v, F v → F' v) (h : qRA E G a i F) : qRA E G a i F' := by
  unfold qRA at h ⊢
  split at h
  · refine ⟨h.1, h.2.1, ?_⟩
    have h := h.2.2
    split at h
    · exact f _ h
    · exact h.elim
  · exact h.elim
theorem qIS_imp {a : Nat} {i x : Int32} {F F' : Hp → Prop} (f : ∀ v, F v → F' v) (h : qIS E G a i x F) : qIS E G a i x F' := by
  unfold qIS at h ⊢
  split at h
  · exact ⟨h.1, h.2.1, f _ h.2.2⟩
  · exact h.elim
theorem qBS_imp {a : Nat} {i x : Int32} {F F' : Hp → Prop} (f : ∀ v, F v → F' v) (h : qBS E G a i x F) : qBS E G a i x F' := by
  unfold qBS at h ⊢
  split at h
  · exact ⟨h.1, h.2.1, f _ h.2.2⟩
  · exact h.elim
theorem qRS_imp {a v : Nat} {i : Int32} {F F' : Hp → Prop} (f : ∀ v, F v → F' v) (h : qRS E G a i v F) : qRS E G a i v F' := by
  unfold qRS at h ⊢
  split at h
  · refine ⟨h.1, h.2.1, ?_⟩
    have h := h.2.2
    split at h
    · exact ⟨h.1, f _ h.2⟩
    · exact h.elim
  · exact h.elim
theorem qL_imp {o a : Nat} {F F' : Int32 → Prop} (f : ∀ v, F v → F' v) (h : qL o E G a F) : qL o E G a F' := by
  unfold qL at h ⊢
  split at h
  · exact f _ h
  · exact ⟨h.1, f _ h.2⟩
  · exact h.elim
  · split at h
    · exact f _ h
    · exact h.elim
theorem qCp_imp {a0 a : Nat} {sp dp n : Int32} {F F' : Hp → Prop} (f : ∀ v, F v → F' v) (h : qCp E G a0 sp a dp n F) : qCp E G a0 sp a dp n F' := by
  unfold qCp at h ⊢
  split at h
  · split at h
    · exact ⟨h.1, f _ h.2⟩
    · exact h.elim
  · exact h.elim
theorem qCI_imp {id : Nat} {a : List Value} {F F' : Int32 → Hp → Prop} (f : ∀ v G, F v G → F' v G) (h : qCI E d id a G F) : qCI E d id a G F' :=
  runs_mono _ _ _ _ _ _ (fun v G' q => by
    split at q
    · exact f _ _ q
    · exact q.elim) h
theorem qCJ_imp {id : Nat} {a : List Value} {F F' : Int64 → Hp → Prop} (f : ∀ v G, F v G → F' v G) (h : qCJ E d id a G F) : qCJ E d id a G F' :=
  runs_mono _ _ _ _ _ _ (fun v G' q => by
    split at q
    · exact f _ _ q
    · exact q.elim) h
theorem qCR_imp {id : Nat} {a : List Value} {F F' : Nat → Hp → Prop} (f : ∀ v G, F v G → F' v G) (h : qCR E d id a G F) : qCR E d id a G F' :=
  runs_mono _ _ _ _ _ _ (fun v G' q => by
    split at q
    · exact f _ _ q
    · exact q.elim) h
theorem qCV_imp {id : Nat} {a : List Value} {F F' : Hp → Prop} (f : ∀ G, F G → F' G) (h : qCV E d id a G F) : qCV E d id a G F' :=
  runs_mono _ _ _ _ _ _ (fun v G' q => by
    split at q
    · exact f _ q
    · exact q.elim) h
theorem hT_9 : hT E 9 9 (eS E) = some (.ref (eV E)) := by simp [hT]
theorem hT_15 : hT E 9 15 (eS E) = some (.int (iv 0)) := by simp [hT]
end QI
end
section
/-! segments, by program (wip/whole/gen/seg.py) -/
theorem dX2_init_0 : decode cX2_init 0 = .ok (.aload_n 0, 1) := by decide +kernel
theorem dX2_init_1 : decode cX2_init 1 = .ok (.invokespecial 3, 3) := by decide +kernel
theorem dX2_init_4 : decode cX2_init 4 = .ok (.aload_n 0, 1) := by decide +kernel
theorem dX2_init_5 : decode cX2_init 5 = .ok (.iload_n 1, 1) := by decide +kernel
theorem dX2_init_6 : decode cX2_init 6 = .ok (.iconst 1, 1) := by decide +kernel
theorem dX2_init_7 : decode cX2_init 7 = .ok (.invokestatic 9, 3) := by decide +kernel
theorem dX2_init_10 : decode cX2_init 10 = .ok (.newarray .byte, 2) := by decide +kernel
theorem dX2_init_12 : decode cX2_init 12 = .ok (.putfield 15, 3) := by decide +kernel
theorem dX2_init_15 : decode cX2_init 15 = .ok (.aload_n 0, 1) := by decide +kernel
theorem dX2_init_16 : decode cX2_init 16 = .ok (.iconst 0, 1) := by decide +kernel
theorem dX2_init_17 : decode cX2_init 17 = .ok (.putfield 21, 3) := by decide +kernel
theorem dX2_init_20 : decode cX2_init 20 = .ok (.return_, 1) := by decide +kernel
abbrev x_X2_init : Cx := (2, cX2_init, true, none)
set_option maxRecDepth 10000 in
theorem g_X2_init_0 {E : Ev} {d : Nat} {G : Hp} {Q : Po} {x0 : Nat} {x1 : Int32} (h : (qCI E d i_J9_max_7cf53 [.int x1, .int ((iv 1))] G fun v2 G1 => ((¬ v2 < 0 ∧ (v2).toNatClampNeg ≤ 100000) ∧ (qP E (psh G1 (cA 1 (v2).toNatClampNeg (fun _ => 0)) (v2).toNatClampNeg) x0 2 0 (.ref ((nxA E G1))) fun G3 => (qP E G3 x0 2 1 (.int ((iv 0))) fun G4 => Q none G4))))) : Xr E d x_X2_init 0 [some (.ref x0), some (.int x1)] [] G Q := by
  refine r_aload_n dX2_init_0 rfl ?_
  refine r_oinit dX2_init_1 rfl (Nat.le_of_ble_eq_true rfl) ?_
  refine r_aload_n dX2_init_4 rfl ?_
  refine r_iload_n dX2_init_5 rfl ?_
  refine r_iconst dX2_init_6 ?_
  refine r_cI dX2_init_7 rfl (invS_eq rfl (by decide) rfl rfl rfl rfl ⟨rfl, Nat.le_of_ble_eq_true rfl⟩) (qCI_imp (fun v2 G1 h => ?_) h)
  refine r_newB dX2_init_10 ⟨h.1, ?_⟩
  replace h := h.2
  refine r_put dX2_init_12 rfl rfl (by decide) (qP_imp (fun G3 h => ?_) h)
  refine r_aload_n dX2_init_15 rfl ?_
  refine r_iconst dX2_init_16 ?_
  refine r_put dX2_init_17 rfl rfl (by decide) (qP_imp (fun G4 h => ?_) h)
  exact r_vret dX2_init_20 rfl h
theorem e_X2_init {E : Ev} {d : Nat} {G : Hp} {Q : Po} {x0 : Nat} {x1 : Int32} (h : (qCI E d i_J9_max_7cf53 [.int x1, .int ((iv 1))] G fun v2 G1 => ((¬ v2 < 0 ∧ (v2).toNatClampNeg ≤ 100000) ∧ (qP E (psh G1 (cA 1 (v2).toNatClampNeg (fun _ => 0)) (v2).toNatClampNeg) x0 2 0 (.ref ((nxA E G1))) fun G3 => (qP E G3 x0 2 1 (.int ((iv 0))) fun G4 => Q none G4))))) : runs E (d + 1) i_X2_init [.ref x0, .int x1] G Q := by
  rw [runs_eq (m := (yX2_init, cX2_init, 2, none, 1, 2, true, false)) rfl (Nat.le_of_ble_eq_true rfl)]
  exact g_X2_init_0 h
theorem dX2_size_0 : decode cX2_size 0 = .ok (.aload_n 0, 1) := by decide +kernel
theorem dX2_size_1 : decode cX2_size 1 = .ok (.getfield 21, 3) := by decide +kernel
theorem dX2_size_4 : decode cX2_size 4 = .ok (.ireturn, 1) := by decide +kernel
abbrev x_X2_size : Cx := (2, cX2_size, false, some (.int))
set_option maxRecDepth 10000 in
theorem g_X2_size_0 {E : Ev} {d : Nat} {G : Hp} {Q : Po} {x0 : Nat} (h : (qFI E G x0 2 1 fun v1 => Q (some (.int v1)) G)) : Xr E d x_X2_size 0 [some (.ref x0)] [] G Q := by
  refine r_aload_n dX2_size_0 rfl ?_
  refine r_getI dX2_size_1 rfl (qFI_imp (fun v1 h => ?_) h)
  exact r_iret dX2_size_4 rfl ⟨rfl, h⟩
theorem e_X2_size {E : Ev} {d : Nat} {G : Hp} {Q : Po} {x0 : Nat} (h : (qFI E G x0 2 1 fun v1 => Q (some (.int v1)) G)) : runs E (d + 1) i_X2_size [.ref x0] G Q := by
  rw [runs_eq (m := (yX2_size, cX2_size, 1, some (.int), 0, 2, false, false)) rfl (Nat.le_of_ble_eq_true rfl)]
  exact g_X2_size_0 h
theorem dX2_holds_0 : decode cX2_holds 0 = .ok (.iload_n 1, 1) := by decide +kernel
theorem dX2_holds_1 : decode cX2_holds 1 = .ok (.ifCond .lt 15, 3) := by decide +kernel
theorem dX2_holds_4 : decode cX2_holds 4 = .ok (.iload_n 1, 1) := by decide +kernel
theorem dX2_holds_5 : decode cX2_holds 5 = .ok (.aload_n 0, 1) := by decide +kernel
theorem dX2_holds_6 : decode cX2_holds 6 = .ok (.getfield 21, 3) := by decide +kernel
theorem dX2_holds_9 : decode cX2_holds 9 = .ok (.if_icmp .ge 7, 3) := by decide +kernel
theorem dX2_holds_12 : decode cX2_holds 12 = .ok (.iconst 1, 1) := by decide +kernel
theorem dX2_holds_13 : decode cX2_holds 13 = .ok (.goto 4, 3) := by decide +kernel
theorem dX2_holds_16 : decode cX2_holds 16 = .ok (.iconst 0, 1) := by decide +kernel
theorem dX2_holds_17 : decode cX2_holds 17 = .ok (.ireturn, 1) := by decide +kernel
abbrev x_X2_holds : Cx := (2, cX2_holds, false, some (.boolean))
set_option maxRecDepth 10000 in
theorem g_X2_holds_0 {E : Ev} {d : Nat} {G : Hp} {Q : Po} {x0 : Nat} {x1 : Int32} (h : (if x1 < 0 then Q (some (.int (iv 0))) G else (qFI E G x0 2 1 fun v1 => (if v1 ≤ x1 then Q (some (.int (iv 0))) G else Q (some (.int (iv 1))) G)))) : Xr E d x_X2_holds 0 [some (.ref x0), some (.int x1)] [] G Q := by
  refine r_iload_n dX2_holds_0 rfl ?_
  refine r_iflt (tgt := 16) dX2_holds_1 (by decide) (ite_imp (fun h => ?_) (fun h => ?_) h)
  · refine r_iconst dX2_holds_16 ?_
    exact r_iret dX2_holds_17 rfl ⟨rfl, h⟩
  · refine r_iload_n dX2_holds_4 rfl ?_
    refine r_aload_n dX2_holds_5 rfl ?_
    refine r_getI dX2_holds_6 rfl (qFI_imp (fun v1 h => ?_) h)
    refine r_cge (tgt := 16) dX2_holds_9 (by decide) (ite_imp (fun h => ?_) (fun h => ?_) h)
    · refine r_iconst dX2_holds_16 ?_
      exact r_iret dX2_holds_17 rfl ⟨rfl, h⟩
    · refine r_iconst dX2_holds_12 ?_
      refine r_goto (tgt := 17) dX2_holds_13 (by decide) ?_
      exact r_iret dX2_holds_17 rfl ⟨rfl, h⟩
theorem e_X2_holds {E : Ev} {d : Nat} {G : Hp} {Q : Po} {x0 : Nat} {x1 : Int32} (h : (if x1 < 0 then Q (some (.int (iv 0))) G else (qFI E G x0 2 1 fun v1 => (if v1 ≤ x1 then Q (some (.int (iv 0))) G else Q (some (.int (iv 1))) G)))) : runs E (d + 1) i_X2_holds [.ref x0, .int x1] G Q := by
  rw [runs_eq (m := (yX2_holds, cX2_holds, 2, some (.boolean), 1, 2, false, false)) rfl (Nat.le_of_ble_eq_true rfl)]
  exact g_X2_holds_0 h
theorem dX2_symbol_0 : decode cX2_symbol 0 = .ok (.aload_n 0, 1) := by decide +kernel
theorem dX2_symbol_1 : decode cX2_symbol 1 = .ok (.iload_n 1, 1) := by decide +kernel
theorem dX2_symbol_2 : decode cX2_symbol 2 = .ok (.invokevirtual 25, 3) := by decide +kernel
theorem dX2_symbol_5 : decode cX2_symbol 5 = .ok (.ifCond .eq 12, 3) := by decide +kernel
theorem dX2_symbol_8 : decode cX2_symbol 8 = .ok (.aload_n 0, 1) := by decide +kernel
theorem dX2_symbol_9 : decode cX2_symbol 9 = .ok (.getfield 15, 3) := by decide +kernel
theorem dX2_symbol_12 : decode cX2_symbol 12 = .ok (.iload_n 1, 1) := by decide +kernel
theorem dX2_symbol_13 : decode cX2_symbol 13 = .ok (.baload, 1) := by decide +kernel
theorem dX2_symbol_14 : decode cX2_symbol 14 = .ok (.goto 4, 3) := by decide +kernel
theorem dX2_symbol_17 : decode cX2_symbol 17 = .ok (.iconst (-1), 1) := by decide +kernel
theorem dX2_symbol_18 : decode cX2_symbol 18 = .ok (.ireturn, 1) := by decide +kernel
abbrev x_X2_symbol : Cx := (2, cX2_symbol, false, some (.int))
set_option maxRecDepth 10000 in
theorem g_X2_symbol_0 {E : Ev} {d : Nat} {G : Hp} {Q : Po} {x0 : Nat} {x1 : Int32} (h : (rcv E G x0 2 = true ∧ (qCI E d i_X2_holds [.ref x0, .int x1] G fun v2 G1 => (if v2 = 0 then Q (some (.int (iv (-1)))) G1 else (qFR E G1 x0 2 0 fun v3 => (qBA E G1 v3 x1 fun v4 => Q (some (.int v4)) G1)))))) : Xr E d x_X2_symbol 0 [some (.ref x0), some (.int x1)] [] G Q := by
  refine r_aload_n dX2_symbol_0 rfl ?_
  refine r_iload_n dX2_symbol_1 rfl ?_
  refine r_cI dX2_symbol_2 rfl (invV_eq rfl rfl rfl rfl rfl rfl ⟨rfl, Nat.le_of_ble_eq_true rfl⟩ h.1) (qCI_imp (fun v2 G1 h => ?_) h.2)
  refine r_ifeq (tgt := 17) dX2_symbol_5 (by decide) (ite_imp (fun h => ?_) (fun h => ?_) h)
  · refine r_iconst dX2_symbol_17 ?_
    exact r_iret dX2_symbol_18 rfl ⟨rfl, h⟩
  · refine r_aload_n dX2_symbol_8 rfl ?_
    refine r_getR dX2_symbol_9 rfl (qFR_imp (fun v3 h => ?_) h)
    refine r_iload_n dX2_symbol_12 rfl ?_
    refine r_bald dX2_symbol_13 (qBA_imp (fun v4 h => ?_) h)
    refine r_goto (tgt := 18) dX2_symbol_14 (by decide) ?_
    exact r_iret dX2_symbol_18 rfl ⟨rfl, h⟩
theorem e_X2_symbol {E : Ev} {d : Nat} {G : Hp} {Q : Po} {x0 : Nat} {x1 : Int32} (h : (rcv E G x0 2 = true ∧ (qCI E d i_X2_holds [.ref x0, .int x1] G fun v2 G1 => (if v2 = 0 then Q (some (.int (iv (-1)))) G1 else (qFR E G1 x0 2 0 fun v3 => (qBA E G1 v3 x1 fun v4 => Q (some (.int v4)) G1)))))) : runs E (d + 1) i_X2_symbol [.ref x0, .int x1] G Q := by
  rw [runs_eq (m := (yX2_symbol, cX2_symbol, 2, some (.int), 1, 2, false, false)) rfl (Nat.le_of_ble_eq_true rfl)]
  exact g_X2_symbol_0 h
theorem dX2_empty_0 : decode cX2_empty 0 = .ok (.aload_n 0, 1) := by decide +kernel
theorem dX2_empty_1 : decode cX2_empty 1 = .ok (.iconst 0, 1) := by decide +kernel
theorem dX2_empty_2 : decode cX2_empty 2 = .ok (.putfield 21, 3) := by decide +kernel
theorem dX2_empty_5 : decode cX2_empty 5 = .ok (.return_, 1) := by decide +kernel
abbrev x_X2_empty : Cx := (2, cX2_empty, false, none)
set_option maxRecDepth 10000 in
theorem g_X2_empty_0 {E : Ev} {d : Nat} {G : Hp} {Q : Po} {x0 : Nat} (h : (qP E G x0 2 1 (.int ((iv 0))) fun G1 => Q none G1)) : Xr E d x_X2_empty 0 [some (.ref x0)] [] G Q := by
  refine r_aload_n dX2_empty_0 rfl ?_
  refine r_iconst dX2_empty_1 ?_
  refine r_put dX2_empty_2 rfl rfl (by decide) (qP_imp (fun G1 h => ?_) h)
  exact r_vret dX2_empty_5 rfl h
theorem e_X2_empty {E : Ev} {d : Nat} {G : Hp} {Q : Po} {x0 : Nat} (h : (qP E G x0 2 1 (.int ((iv 0))) fun G1 => Q none G1)) : runs E (d + 1) i_X2_empty [.ref x0] G Q := by
  rw [runs_eq (m := (yX2_empty, cX2_empty, 1, none, 0, 2, false, false)) rfl (Nat.le_of_ble_eq_true rfl)]
  exact g_X2_empty_0 h
theorem dX2_add_0 : decode cX2_add 0 = .ok (.aload_n 0, 1) := by decide +kernel
theorem dX2_add_1 : decode cX2_add 1 = .ok (.getfield 21, 3) := by decide +kernel
theorem dX2_add_4 : decode cX2_add 4 = .ok (.aload_n 0, 1) := by decide +kernel
theorem dX2_add_5 : decode cX2_add 5 = .ok (.getfield 15, 3) := by decide +kernel
theorem dX2_add_8 : decode cX2_add 8 = .ok (.arraylength, 1) := by decide +kernel
theorem dX2_add_9 : decode cX2_add 9 = .ok (.if_icmp .lt 5, 3) := by decide +kernel
theorem dX2_add_12 : decode cX2_add 12 = .ok (.iconst 0, 1) := by decide +kernel
theorem dX2_add_13 : decode cX2_add 13 = .ok (.ireturn, 1) := by decide +kernel
theorem dX2_add_14 : decode cX2_add 14 = .ok (.aload_n 0, 1) := by decide +kernel
theorem dX2_add_15 : decode cX2_add 15 = .ok (.getfield 15, 3) := by decide +kernel
theorem dX2_add_18 : decode cX2_add 18 = .ok (.aload_n 0, 1) := by decide +kernel
theorem dX2_add_19 : decode cX2_add 19 = .ok (.getfield 21, 3) := by decide +kernel
theorem dX2_add_22 : decode cX2_add 22 = .ok (.iload_n 1, 1) := by decide +kernel
theorem dX2_add_23 : decode cX2_add 23 = .ok (.i2b, 1) := by decide +kernel
theorem dX2_add_24 : decode cX2_add 24 = .ok (.bastore, 1) := by decide +kernel
theorem dX2_add_25 : decode cX2_add 25 = .ok (.aload_n 0, 1) := by decide +kernel
theorem dX2_add_26 : decode cX2_add 26 = .ok (.dup, 1) := by decide +kernel
theorem dX2_add_27 : decode cX2_add 27 = .ok (.getfield 21, 3) := by decide +kernel
theorem dX2_add_30 : decode cX2_add 30 = .ok (.iconst 1, 1) := by decide +kernel
theorem dX2_add_31 : decode cX2_add 31 = .ok (.iadd, 1) := by decide +kernel
theorem dX2_add_32 : decode cX2_add 32 = .ok (.putfield 21, 3) := by decide +kernel
theorem dX2_add_35 : decode cX2_add 35 = .ok (.iconst 1, 1) := by decide +kernel
theorem dX2_add_36 : decode cX2_add 36 = .ok (.ireturn, 1) := by decide +kernel
abbrev x_X2_add : Cx := (2, cX2_add, false, some (.boolean))
set_option maxRecDepth 10000 in
theorem g_X2_add_0 {E : Ev} {d : Nat} {G : Hp} {Q : Po} {x0 : Nat} {x1 : Int32} (h : (qFI E G x0 2 1 fun v1 => (qFR E G x0 2 0 fun v2 => (qL 2 E G v2 fun v3 => (if v1 < v3 then (qFR E G x0 2 0 fun v4 => (qFI E G x0 2 1 fun v5 => (qBS E G v4 v5 ((x1).toInt8.toInt32) fun G6 => (qFI E G6 x0 2 1 fun v7 => (qP E G6 x0 2 1 (.int ((v7 + (iv 1)))) fun G8 => Q (some (.int (iv 1))) G8))))) else Q (some (.int (iv 0))) G))))) : Xr E d x_X2_add 0 [some (.ref x0), some (.int x1)] [] G Q := by
  refine r_aload_n dX2_add_0 rfl ?_
  refine r_getI dX2_add_1 rfl (qFI_imp (fun v1 h => ?_) h)
  refine r_aload_n dX2_add_4 rfl ?_
  refine r_getR dX2_add_5 rfl (qFR_imp (fun v2 h => ?_) h)
  refine r_alen dX2_add_8 (qL_imp (fun v3 h => ?_) h)
  refine r_clt (tgt := 14) dX2_add_9 (by decide) (ite_imp (fun h => ?_) (fun h => ?_) h)
  · refine r_aload_n dX2_add_14 rfl ?_
    refine r_getR dX2_add_15 rfl (qFR_imp (fun v4 h => ?_) h)
    refine r_aload_n dX2_add_18 rfl ?_
    refine r_getI dX2_add_19 rfl (qFI_imp (fun v5 h => ?_) h)
    refine r_iload_n dX2_add_22 rfl ?_
    refine r_i2b dX2_add_23 ?_
    refine r_bast dX2_add_24 (qBS_imp (fun G6 h => ?_) h)
    refine r_aload_n dX2_add_25 rfl ?_
    refine r_dup dX2_add_26 rfl ?_
    refine r_getI dX2_add_27 rfl (qFI_imp (fun v7 h => ?_) h)
    refine r_iconst dX2_add_30 ?_
    refine r_iadd dX2_add_31 ?_
    refine r_put dX2_add_32 rfl rfl (by decide) (qP_imp (fun G8 h => ?_) h)
    refine r_iconst dX2_add_35 ?_
    exact r_iret dX2_add_36 rfl ⟨rfl, h⟩
  · refine r_iconst dX2_add_12 ?_
    exact r_iret dX2_add_13 rfl ⟨rfl, h⟩
theorem e_X2_add {E : Ev} {d : Nat} {G : Hp} {Q : Po} {x0 : Nat} {x1 : Int32} (h : (qFI E G x0 2 1 fun v1 => (qFR E G x0 2 0 fun v2 => (qL 2 E G v2 fun v3 => (if v1 < v3 then (qFR E G x0 2 0 fun v4 => (qFI E G x0 2 1 fun v5 => (qBS E G v4 v5 ((x1).toInt8.toInt32) fun G6 => (qFI E G6 x0 2 1 fun v7 => (qP E G6 x0 2 1 (.int ((v7 + (iv 1)))) fun G8 => Q (some (.int (iv 1))) G8))))) else Q (some (.int (iv 0))) G))))) : runs E (d + 1) i_X2_add [.ref x0, .int x1] G Q := by
  rw [runs_eq (m := (yX2_add, cX2_add, 2, some (.boolean), 1, 2, false, false)) rfl (Nat.le_of_ble_eq_true rfl)]
  exact g_X2_add_0 h
theorem dX2_addPart_0 : decode cX2_addPart 0 = .ok (.iload_n 3, 1) := by decide +kernel
theorem dX2_addPart_1 : decode cX2_addPart 1 = .ok (.iload_n 2, 1) := by decide +kernel
theorem dX2_addPart_2 : decode cX2_addPart 2 = .ok (.isub, 1) := by decide +kernel
theorem dX2_addPart_3 : decode cX2_addPart 3 = .ok (.istore 4, 2) := by decide +kernel
theorem dX2_addPart_5 : decode cX2_addPart 5 = .ok (.iload_n 2, 1) := by decide +kernel
theorem dX2_addPart_6 : decode cX2_addPart 6 = .ok (.ifCond .lt 31, 3) := by decide +kernel
theorem dX2_addPart_9 : decode cX2_addPart 9 = .ok (.iload 4, 2) := by decide +kernel
theorem dX2_addPart_11 : decode cX2_addPart 11 = .ok (.ifCond .lt 26, 3) := by decide +kernel
theorem dX2_addPart_14 : decode cX2_addPart 14 = .ok (.iload_n 3, 1) := by decide +kernel
theorem dX2_addPart_15 : decode cX2_addPart 15 = .ok (.aload_n 1, 1) := by decide +kernel
theorem dX2_addPart_16 : decode cX2_addPart 16 = .ok (.getfield 21, 3) := by decide +kernel
theorem dX2_addPart_19 : decode cX2_addPart 19 = .ok (.if_icmp .gt 18, 3) := by decide +kernel
theorem dX2_addPart_22 : decode cX2_addPart 22 = .ok (.iload 4, 2) := by decide +kernel
theorem dX2_addPart_24 : decode cX2_addPart 24 = .ok (.aload_n 0, 1) := by decide +kernel
theorem dX2_addPart_25 : decode cX2_addPart 25 = .ok (.getfield 15, 3) := by decide +kernel
theorem dX2_addPart_28 : decode cX2_addPart 28 = .ok (.arraylength, 1) := by decide +kernel
theorem dX2_addPart_29 : decode cX2_addPart 29 = .ok (.aload_n 0, 1) := by decide +kernel
theorem dX2_addPart_30 : decode cX2_addPart 30 = .ok (.getfield 21, 3) := by decide +kernel
theorem dX2_addPart_33 : decode cX2_addPart 33 = .ok (.isub, 1) := by decide +kernel
theorem dX2_addPart_34 : decode cX2_addPart 34 = .ok (.if_icmp .le 5, 3) := by decide +kernel
theorem dX2_addPart_37 : decode cX2_addPart 37 = .ok (.iconst 0, 1) := by decide +kernel
theorem dX2_addPart_38 : decode cX2_addPart 38 = .ok (.ireturn, 1) := by decide +kernel
theorem dX2_addPart_39 : decode cX2_addPart 39 = .ok (.aload_n 1, 1) := by decide +kernel
theorem dX2_addPart_40 : decode cX2_addPart 40 = .ok (.getfield 15, 3) := by decide +kernel
theorem dX2_addPart_43 : decode cX2_addPart 43 = .ok (.iload_n 2, 1) := by decide +kernel
theorem dX2_addPart_44 : decode cX2_addPart 44 = .ok (.aload_n 0, 1) := by decide +kernel
theorem dX2_addPart_45 : decode cX2_addPart 45 = .ok (.getfield 15, 3) := by decide +kernel
theorem dX2_addPart_48 : decode cX2_addPart 48 = .ok (.aload_n 0, 1) := by decide +kernel
theorem dX2_addPart_49 : decode cX2_addPart 49 = .ok (.getfield 21, 3) := by decide +kernel
theorem dX2_addPart_52 : decode cX2_addPart 52 = .ok (.iload 4, 2) := by decide +kernel
theorem dX2_addPart_54 : decode cX2_addPart 54 = .ok (.invokestatic 29, 3) := by decide +kernel
theorem dX2_addPart_57 : decode cX2_addPart 57 = .ok (.aload_n 0, 1) := by decide +kernel
theorem dX2_addPart_58 : decode cX2_addPart 58 = .ok (.dup, 1) := by decide +kernel
theorem dX2_addPart_59 : decode cX2_addPart 59 = .ok (.getfield 21, 3) := by decide +kernel
theorem dX2_addPart_62 : decode cX2_addPart 62 = .ok (.iload 4, 2) := by decide +kernel
theorem dX2_addPart_64 : decode cX2_addPart 64 = .ok (.iadd, 1) := by decide +kernel
theorem dX2_addPart_65 : decode cX2_addPart 65 = .ok (.putfield 21, 3) := by decide +kernel
theorem dX2_addPart_68 : decode cX2_addPart 68 = .ok (.iconst 1, 1) := by decide +kernel
theorem dX2_addPart_69 : decode cX2_addPart 69 = .ok (.ireturn, 1) := by decide +kernel
abbrev x_X2_addPart : Cx := (2, cX2_addPart, false, some (.boolean))
set_option maxRecDepth 10000 in
theorem g_X2_addPart_0 {E : Ev} {d : Nat} {G : Hp} {Q : Po} {x0 : Nat} {x1 : Nat} {x2 : Int32} {x3 : Int32} (h : (if x2 < 0 then Q (some (.int (iv 0))) G else (if (x3 - x2) < 0 then Q (some (.int (iv 0))) G else (qFI E G x1 2 1 fun v1 => (if v1 < x3 then Q (some (.int (iv 0))) G else (qFR E G x0 2 0 fun v2 => (qL 2 E G v2 fun v3 => (qFI E G x0 2 1 fun v4 => (if (x3 - x2) ≤ (v3 - v4) then (qFR E G x1 2 0 fun v5 => (qFR E G x0 2 0 fun v6 => (qFI E G x0 2 1 fun v7 => (qCp E G v5 x2 v6 v7 (x3 - x2) fun G8 => (qFI E G8 x0 2 1 fun v9 => (qP E G8 x0 2 1 (.int ((v9 + (x3 - x2)))) fun G10 => Q (some (.int (iv 1))) G10)))))) else Q (some (.int (iv 0))) G))))))))) : Xr E d x_X2_addPart 0 [some (.ref x0), some (.ref x1), some (.int x2), some (.int x3), none] [] G Q := by
  refine r_iload_n dX2_addPart_0 rfl ?_
  refine r_iload_n dX2_addPart_1 rfl ?_
  refine r_isub dX2_addPart_2 ?_
  refine r_istore dX2_addPart_3 rfl ?_
  refine r_iload_n dX2_addPart_5 rfl ?_
  refine r_iflt (tgt := 37) dX2_addPart_6 (by decide) (ite_imp (fun h => ?_) (fun h => ?_) h)
  · refine r_iconst dX2_addPart_37 ?_
    exact r_iret dX2_addPart_38 rfl ⟨rfl, h⟩
  · refine r_iload dX2_addPart_9 rfl ?_
    refine r_iflt (tgt := 37) dX2_addPart_11 (by decide) (ite_imp (fun h => ?_) (fun h => ?_) h)
    · refine r_iconst dX2_addPart_37 ?_
      exact r_iret dX2_addPart_38 rfl ⟨rfl, h⟩
    · refine r_iload_n dX2_addPart_14 rfl ?_
      refine r_aload_n dX2_addPart_15 rfl ?_
      refine r_getI dX2_addPart_16 rfl (qFI_imp (fun v1 h => ?_) h)
      refine r_cgt (tgt := 37) dX2_addPart_19 (by decide) (ite_imp (fun h => ?_) (fun h => ?_) h)
      · refine r_iconst dX2_addPart_37 ?_
        exact r_iret dX2_addPart_38 rfl ⟨rfl, h⟩
      · refine r_iload dX2_addPart_22 rfl ?_
        refine r_aload_n dX2_addPart_24 rfl ?_
        refine r_getR dX2_addPart_25 rfl (qFR_imp (fun v2 h => ?_) h)
        refine r_alen dX2_addPart_28 (qL_imp (fun v3 h => ?_) h)
        refine r_aload_n dX2_addPart_29 rfl ?_
        refine r_getI dX2_addPart_30 rfl (qFI_imp (fun v4 h => ?_) h)
        refine r_isub dX2_addPart_33 ?_
        refine r_cle (tgt := 39) dX2_addPart_34 (by decide) (ite_imp (fun h => ?_) (fun h => ?_) h)
        · refine r_aload_n dX2_addPart_39 rfl ?_
          refine r_getR dX2_addPart_40 rfl (qFR_imp (fun v5 h => ?_) h)
          refine r_iload_n dX2_addPart_43 rfl ?_
          refine r_aload_n dX2_addPart_44 rfl ?_
          refine r_getR dX2_addPart_45 rfl (qFR_imp (fun v6 h => ?_) h)
          refine r_aload_n dX2_addPart_48 rfl ?_
          refine r_getI dX2_addPart_49 rfl (qFI_imp (fun v7 h => ?_) h)
          refine r_iload dX2_addPart_52 rfl ?_
          refine r_cpy dX2_addPart_54 rfl (Nat.le_of_ble_eq_true rfl) (qCp_imp (fun G8 h => ?_) h)
          refine r_aload_n dX2_addPart_57 rfl ?_
          refine r_dup dX2_addPart_58 rfl ?_
          refine r_getI dX2_addPart_59 rfl (qFI_imp (fun v9 h => ?_) h)
          refine r_iload dX2_addPart_62 rfl ?_
          refine r_iadd dX2_addPart_64 ?_
          refine r_put dX2_addPart_65 rfl rfl (by decide) (qP_imp (fun G10 h => ?_) h)
          refine r_iconst dX2_addPart_68 ?_
          exact r_iret dX2_addPart_69 rfl ⟨rfl, h⟩
        · refine r_iconst dX2_addPart_37 ?_
          exact r_iret dX2_addPart_38 rfl ⟨rfl, h⟩
theorem e_X2_addPart {E : Ev} {d : Nat} {G : Hp} {Q : Po} {x0 : Nat} {x1 : Nat} {x2 : Int32} {x3 : Int32} (h : (if x2 < 0 then Q (some (.int (iv 0))) G else (if (x3 - x2) < 0 then Q (some (.int (iv 0))) G else (qFI E G x1 2 1 fun v1 => (if v1 < x3 then Q (some (.int (iv 0))) G else (qFR E G x0 2 0 fun v2 => (qL 2 E G v2 fun v3 => (qFI E G x0 2 1 fun v4 => (if (x3 - x2) ≤ (v3 - v4) then (qFR E G x1 2 0 fun v5 => (qFR E G x0 2 0 fun v6 => (qFI E G x0 2 1 fun v7 => (qCp E G v5 x2 v6 v7 (x3 - x2) fun G8 => (qFI E G8 x0 2 1 fun v9 => (qP E G8 x0 2 1 (.int ((v9 + (x3 - x2)))) fun G10 => Q (some (.int (iv 1))) G10)))))) else Q (some (.int (iv 0))) G))))))))) : runs E (d + 1) i_X2_addPart [.ref x0, .ref x1, .int x2, .int x3] G Q := by
  rw [runs_eq (m := (yX2_addPart, cX2_addPart, 5, some (.boolean), 3, 2, false, false)) rfl (Nat.le_of_ble_eq_true rfl)]
  exact g_X2_addPart_0 h
theorem dX2_become_0 : decode cX2_become 0 = .ok (.aload_n 0, 1) := by decide +kernel
theorem dX2_become_1 : decode cX2_become 1 = .ok (.iconst 0, 1) := by decide +kernel
theorem dX2_become_2 : decode cX2_become 2 = .ok (.putfield 21, 3) := by decide +kernel
theorem dX2_become_5 : decode cX2_become 5 = .ok (.aload_n 0, 1) := by decide +kernel
theorem dX2_become_6 : decode cX2_become 6 = .ok (.aload_n 1, 1) := by decide +kernel
theorem dX2_become_7 : decode cX2_become 7 = .ok (.iconst 0, 1) := by decide +kernel
theorem dX2_become_8 : decode cX2_become 8 = .ok (.aload_n 1, 1) := by decide +kernel
theorem dX2_become_9 : decode cX2_become 9 = .ok (.getfield 21, 3) := by decide +kernel
theorem dX2_become_12 : decode cX2_become 12 = .ok (.invokevirtual 35, 3) := by decide +kernel
theorem dX2_become_15 : decode cX2_become 15 = .ok (.pop, 1) := by decide +kernel
theorem dX2_become_16 : decode cX2_become 16 = .ok (.return_, 1) := by decide +kernel
abbrev x_X2_become : Cx := (2, cX2_become, false, none)
set_option maxRecDepth 10000 in
theorem g_X2_become_0 {E : Ev} {d : Nat} {G : Hp} {Q : Po} {x0 : Nat} {x1 : Nat} (h : (qP E G x0 2 1 (.int ((iv 0))) fun G1 => (qFI E G1 x1 2 1 fun v2 => (rcv E G1 x0 2 = true ∧ (qCI E d i_X2_addPart [.ref x0, .ref x1, .int ((iv 0)), .int v2] G1 fun v4 G3 => Q none G3))))) : Xr E d x_X2_become 0 [some (.ref x0), some (.ref x1)] [] G Q := by
  refine r_aload_n dX2_become_0 rfl ?_
  refine r_iconst dX2_become_1 ?_
  refine r_put dX2_become_2 rfl rfl (by decide) (qP_imp (fun G1 h => ?_) h)
  refine r_aload_n dX2_become_5 rfl ?_
  refine r_aload_n dX2_become_6 rfl ?_
  refine r_iconst dX2_become_7 ?_
  refine r_aload_n dX2_become_8 rfl ?_
  refine r_getI dX2_become_9 rfl (qFI_imp (fun v2 h => ?_) h)
  refine r_cI dX2_become_12 rfl (invV_eq rfl rfl rfl rfl rfl rfl ⟨rfl, Nat.le_of_ble_eq_true rfl⟩ h.1) (qCI_imp (fun v4 G3 h => ?_) h.2)
  refine r_pop dX2_become_15 rfl ?_
  exact r_vret dX2_become_16 rfl h
theorem e_X2_become {E : Ev} {d : Nat} {G : Hp} {Q : Po} {x0 : Nat} {x1 : Nat} (h : (qP E G x0 2 1 (.int ((iv 0))) fun G1 => (qFI E G1 x1 2 1 fun v2 => (rcv E G1 x0 2 = true ∧ (qCI E d i_X2_addPart [.ref x0, .ref x1, .int ((iv 0)), .int v2] G1 fun v4 G3 => Q none G3))))) : runs E (d + 1) i_X2_become [.ref x0, .ref x1] G Q := by
  rw [runs_eq (m := (yX2_become, cX2_become, 2, none, 1, 2, false, false)) rfl (Nat.le_of_ble_eq_true rfl)]
  exact g_X2_become_0 h
theorem dX2_endOf_0 : decode cX2_endOf 0 = .ok (.iconst 1, 1) := by decide +kernel
theorem dX2_endOf_1 : decode cX2_endOf 1 = .ok (.istore_n 2, 1) := by decide +kernel
theorem dX2_endOf_2 : decode cX2_endOf 2 = .ok (.iload_n 1, 1) := by decide +kernel
theorem dX2_endOf_3 : decode cX2_endOf 3 = .ok (.iconst 0, 1) := by decide +kernel
theorem dX2_endOf_4 : decode cX2_endOf 4 = .ok (.invokestatic 9, 3) := by decide +kernel
theorem dX2_endOf_7 : decode cX2_endOf 7 = .ok (.istore_n 3, 1) := by decide +kernel
theorem dX2_endOf_8 : decode cX2_endOf 8 = .ok (.iload_n 2, 1) := by decide +kernel
theorem dX2_endOf_9 : decode cX2_endOf 9 = .ok (.ifCond .le 31, 3) := by decide +kernel
theorem dX2_endOf_12 : decode cX2_endOf 12 = .ok (.iload_n 3, 1) := by decide +kernel
theorem dX2_endOf_13 : decode cX2_endOf 13 = .ok (.aload_n 0, 1) := by decide +kernel
theorem dX2_endOf_14 : decode cX2_endOf 14 = .ok (.getfield 21, 3) := by decide +kernel
theorem dX2_endOf_17 : decode cX2_endOf 17 = .ok (.if_icmp .ge 23, 3) := by decide +kernel
theorem dX2_endOf_20 : decode cX2_endOf 20 = .ok (.iload_n 2, 1) := by decide +kernel
theorem dX2_endOf_21 : decode cX2_endOf 21 = .ok (.aload_n 0, 1) := by decide +kernel
theorem dX2_endOf_22 : decode cX2_endOf 22 = .ok (.getfield 15, 3) := by decide +kernel
theorem dX2_endOf_25 : decode cX2_endOf 25 = .ok (.iload_n 3, 1) := by decide +kernel
theorem dX2_endOf_26 : decode cX2_endOf 26 = .ok (.baload, 1) := by decide +kernel
theorem dX2_endOf_27 : decode cX2_endOf 27 = .ok (.invokestatic 39, 3) := by decide +kernel
theorem dX2_endOf_30 : decode cX2_endOf 30 = .ok (.iconst 1, 1) := by decide +kernel
theorem dX2_endOf_31 : decode cX2_endOf 31 = .ok (.isub, 1) := by decide +kernel
theorem dX2_endOf_32 : decode cX2_endOf 32 = .ok (.iadd, 1) := by decide +kernel
theorem dX2_endOf_33 : decode cX2_endOf 33 = .ok (.istore_n 2, 1) := by decide +kernel
theorem dX2_endOf_34 : decode cX2_endOf 34 = .ok (.iinc 3 1, 3) := by decide +kernel
theorem dX2_endOf_37 : decode cX2_endOf 37 = .ok (.goto (-29), 3) := by decide +kernel
theorem dX2_endOf_40 : decode cX2_endOf 40 = .ok (.iload_n 3, 1) := by decide +kernel
theorem dX2_endOf_41 : decode cX2_endOf 41 = .ok (.ireturn, 1) := by decide +kernel
abbrev x_X2_endOf : Cx := (2, cX2_endOf, false, some (.int))
set_option maxRecDepth 10000 in
theorem g_X2_endOf_0 {E : Ev} {d : Nat} {G : Hp} {Q : Po} {x0 : Nat} {x1 : Int32} (h : (qCI E d i_J9_max_7cf53 [.int x1, .int ((iv 0))] G fun v2 G1 => Xr E d x_X2_endOf 8 [some (.ref x0), some (.int x1), some (.int ((iv 1))), some (.int v2)] [] G1 Q)) : Xr E d x_X2_endOf 0 [some (.ref x0), some (.int x1), none, none] [] G Q := by
  refine r_iconst dX2_endOf_0 ?_
  refine r_istore_n dX2_endOf_1 rfl ?_
  refine r_iload_n dX2_endOf_2 rfl ?_
  refine r_iconst dX2_endOf_3 ?_
  refine r_cI dX2_endOf_4 rfl (invS_eq rfl (by decide) rfl rfl rfl rfl ⟨rfl, Nat.le_of_ble_eq_true rfl⟩) (qCI_imp (fun v2 G1 h => ?_) h)
  refine r_istore_n dX2_endOf_7 rfl ?_
  exact h
theorem e_X2_endOf {E : Ev} {d : Nat} {G : Hp} {Q : Po} {x0 : Nat} {x1 : Int32} (h : (qCI E d i_J9_max_7cf53 [.int x1, .int ((iv 0))] G fun v2 G1 => Xr E d x_X2_endOf 8 [some (.ref x0), some (.int x1), some (.int ((iv 1))), some (.int v2)] [] G1 Q)) : runs E (d + 1) i_X2_endOf [.ref x0, .int x1] G Q := by
  rw [runs_eq (m := (yX2_endOf, cX2_endOf, 4, some (.int), 1, 2, false, false)) rfl (Nat.le_of_ble_eq_true rfl)]
  exact g_X2_endOf_0 h
set_option maxRecDepth 10000 in
theorem g_X2_endOf_8 {E : Ev} {d : Nat} {G : Hp} {Q : Po} {x0 : Nat} {x1 : Int32} {x2 : Int32} {x3 : Int32} (h : (if x2 ≤ 0 then Q (some (.int x3)) G else (qFI E G x0 2 1 fun v1 => (if v1 ≤ x3 then Q (some (.int x3)) G else (qFR E G x0 2 0 fun v2 => (qBA E G v2 x3 fun v3 => (qCI E d i_X6_arityOf [.int v3] G fun v5 G4 => Xr E d x_X2_endOf 8 [some (.ref x0), some (.int x1), some (.int ((x2 + (v5 - (iv 1))))), some (.int ((x3 + (iv 1))))] [] G4 Q))))))) : Xr E d x_X2_endOf 8 [some (.ref x0), some (.int x1), some (.int x2), some (.int x3)] [] G Q := by
  refine r_iload_n dX2_endOf_8 rfl ?_
  refine r_ifle (tgt := 40) dX2_endOf_9 (by decide) (ite_imp (fun h => ?_) (fun h => ?_) h)
  · refine r_iload_n dX2_endOf_40 rfl ?_
    exact r_iret dX2_endOf_41 rfl ⟨rfl, h⟩
  · refine r_iload_n dX2_endOf_12 rfl ?_
    refine r_aload_n dX2_endOf_13 rfl ?_
    refine r_getI dX2_endOf_14 rfl (qFI_imp (fun v1 h => ?_) h)
    refine r_cge (tgt := 40) dX2_endOf_17 (by decide) (ite_imp (fun h => ?_) (fun h => ?_) h)
    · refine r_iload_n dX2_endOf_40 rfl ?_
      exact r_iret dX2_endOf_41 rfl ⟨rfl, h⟩
    · refine r_iload_n dX2_endOf_20 rfl ?_
      refine r_aload_n dX2_endOf_21 rfl ?_
      refine r_getR dX2_endOf_22 rfl (qFR_imp (fun v2 h => ?_) h)
      refine r_iload_n dX2_endOf_25 rfl ?_
      refine r_bald dX2_endOf_26 (qBA_imp (fun v3 h => ?_) h)
      refine r_cI dX2_endOf_27 rfl (invS_eq rfl (by decide) rfl rfl rfl rfl ⟨rfl, Nat.le_of_ble_eq_true rfl⟩) (qCI_imp (fun v5 G4 h => ?_) h)
      refine r_iconst dX2_endOf_30 ?_
      refine r_isub dX2_endOf_31 ?_
      refine r_iadd dX2_endOf_32 ?_
      refine r_istore_n dX2_endOf_33 rfl ?_
      refine r_iinc dX2_endOf_34 rfl rfl ?_
      refine r_goto (tgt := 8) dX2_endOf_37 (by decide) ?_
      exact h
theorem dX2_expand_0 : decode cX2_expand 0 = .ok (.iload_n 2, 1) := by decide +kernel
theorem dX2_expand_1 : decode cX2_expand 1 = .ok (.iconst 1, 1) := by decide +kernel
theorem dX2_expand_2 : decode cX2_expand 2 = .ok (.iadd, 1) := by decide +kernel
theorem dX2_expand_3 : decode cX2_expand 3 = .ok (.istore 4, 2) := by decide +kernel
theorem dX2_expand_5 : decode cX2_expand 5 = .ok (.aload_n 1, 1) := by decide +kernel
theorem dX2_expand_6 : decode cX2_expand 6 = .ok (.iload 4, 2) := by decide +kernel
theorem dX2_expand_8 : decode cX2_expand 8 = .ok (.invokevirtual 43, 3) := by decide +kernel
theorem dX2_expand_11 : decode cX2_expand 11 = .ok (.istore 5, 2) := by decide +kernel
theorem dX2_expand_13 : decode cX2_expand 13 = .ok (.aload_n 1, 1) := by decide +kernel
theorem dX2_expand_14 : decode cX2_expand 14 = .ok (.iload_n 2, 1) := by decide +kernel
theorem dX2_expand_15 : decode cX2_expand 15 = .ok (.invokevirtual 43, 3) := by decide +kernel
theorem dX2_expand_18 : decode cX2_expand 18 = .ok (.istore 6, 2) := by decide +kernel
theorem dX2_expand_20 : decode cX2_expand 20 = .ok (.aload_n 0, 1) := by decide +kernel
theorem dX2_expand_21 : decode cX2_expand 21 = .ok (.iconst 0, 1) := by decide +kernel
theorem dX2_expand_22 : decode cX2_expand 22 = .ok (.putfield 21, 3) := by decide +kernel
theorem dX2_expand_25 : decode cX2_expand 25 = .ok (.aload_n 0, 1) := by decide +kernel
theorem dX2_expand_26 : decode cX2_expand 26 = .ok (.aload_n 1, 1) := by decide +kernel
theorem dX2_expand_27 : decode cX2_expand 27 = .ok (.iconst 0, 1) := by decide +kernel
theorem dX2_expand_28 : decode cX2_expand 28 = .ok (.iload_n 2, 1) := by decide +kernel
theorem dX2_expand_29 : decode cX2_expand 29 = .ok (.invokevirtual 35, 3) := by decide +kernel
theorem dX2_expand_32 : decode cX2_expand 32 = .ok (.istore 7, 2) := by decide +kernel
theorem dX2_expand_34 : decode cX2_expand 34 = .ok (.iconst 0, 1) := by decide +kernel
theorem dX2_expand_35 : decode cX2_expand 35 = .ok (.istore 8, 2) := by decide +kernel
theorem dX2_expand_37 : decode cX2_expand 37 = .ok (.iload 7, 2) := by decide +kernel
theorem dX2_expand_39 : decode cX2_expand 39 = .ok (.ifCond .eq 83, 3) := by decide +kernel
theorem dX2_expand_42 : decode cX2_expand 42 = .ok (.iload 8, 2) := by decide +kernel
theorem dX2_expand_44 : decode cX2_expand 44 = .ok (.aload_n 3, 1) := by decide +kernel
theorem dX2_expand_45 : decode cX2_expand 45 = .ok (.getfield 21, 3) := by decide +kernel
theorem dX2_expand_48 : decode cX2_expand 48 = .ok (.if_icmp .ge 74, 3) := by decide +kernel
theorem dX2_expand_51 : decode cX2_expand 51 = .ok (.aload_n 3, 1) := by decide +kernel
theorem dX2_expand_52 : decode cX2_expand 52 = .ok (.getfield 15, 3) := by decide +kernel
theorem dX2_expand_55 : decode cX2_expand 55 = .ok (.iload 8, 2) := by decide +kernel
theorem dX2_expand_57 : decode cX2_expand 57 = .ok (.baload, 1) := by decide +kernel
theorem dX2_expand_58 : decode cX2_expand 58 = .ok (.bipush 8, 2) := by decide +kernel
theorem dX2_expand_60 : decode cX2_expand 60 = .ok (.if_icmp .ne 17, 3) := by decide +kernel
theorem dX2_expand_63 : decode cX2_expand 63 = .ok (.aload_n 0, 1) := by decide +kernel
theorem dX2_expand_64 : decode cX2_expand 64 = .ok (.aload_n 1, 1) := by decide +kernel
theorem dX2_expand_65 : decode cX2_expand 65 = .ok (.iload 4, 2) := by decide +kernel
theorem dX2_expand_67 : decode cX2_expand 67 = .ok (.iload 5, 2) := by decide +kernel
theorem dX2_expand_69 : decode cX2_expand 69 = .ok (.invokevirtual 35, 3) := by decide +kernel
theorem dX2_expand_72 : decode cX2_expand 72 = .ok (.istore 7, 2) := by decide +kernel
theorem dX2_expand_74 : decode cX2_expand 74 = .ok (.goto 42, 3) := by decide +kernel
theorem dX2_expand_77 : decode cX2_expand 77 = .ok (.aload_n 3, 1) := by decide +kernel
theorem dX2_expand_78 : decode cX2_expand 78 = .ok (.getfield 15, 3) := by decide +kernel
theorem dX2_expand_81 : decode cX2_expand 81 = .ok (.iload 8, 2) := by decide +kernel
theorem dX2_expand_83 : decode cX2_expand 83 = .ok (.baload, 1) := by decide +kernel
theorem dX2_expand_84 : decode cX2_expand 84 = .ok (.bipush 9, 2) := by decide +kernel
theorem dX2_expand_86 : decode cX2_expand 86 = .ok (.if_icmp .ne 17, 3) := by decide +kernel
theorem dX2_expand_89 : decode cX2_expand 89 = .ok (.aload_n 0, 1) := by decide +kernel
theorem dX2_expand_90 : decode cX2_expand 90 = .ok (.aload_n 1, 1) := by decide +kernel
theorem dX2_expand_91 : decode cX2_expand 91 = .ok (.iload 5, 2) := by decide +kernel
theorem dX2_expand_93 : decode cX2_expand 93 = .ok (.iload 6, 2) := by decide +kernel
theorem dX2_expand_95 : decode cX2_expand 95 = .ok (.invokevirtual 35, 3) := by decide +kernel
theorem dX2_expand_98 : decode cX2_expand 98 = .ok (.istore 7, 2) := by decide +kernel
theorem dX2_expand_100 : decode cX2_expand 100 = .ok (.goto 16, 3) := by decide +kernel
theorem dX2_expand_103 : decode cX2_expand 103 = .ok (.aload_n 0, 1) := by decide +kernel
theorem dX2_expand_104 : decode cX2_expand 104 = .ok (.aload_n 3, 1) := by decide +kernel
theorem dX2_expand_105 : decode cX2_expand 105 = .ok (.getfield 15, 3) := by decide +kernel
theorem dX2_expand_108 : decode cX2_expand 108 = .ok (.iload 8, 2) := by decide +kernel
theorem dX2_expand_110 : decode cX2_expand 110 = .ok (.baload, 1) := by decide +kernel
theorem dX2_expand_111 : decode cX2_expand 111 = .ok (.invokevirtual 46, 3) := by decide +kernel
theorem dX2_expand_114 : decode cX2_expand 114 = .ok (.istore 7, 2) := by decide +kernel
theorem dX2_expand_116 : decode cX2_expand 116 = .ok (.iinc 8 1, 3) := by decide +kernel
theorem dX2_expand_119 : decode cX2_expand 119 = .ok (.goto (-82), 3) := by decide +kernel
theorem dX2_expand_122 : decode cX2_expand 122 = .ok (.iload 7, 2) := by decide +kernel
theorem dX2_expand_124 : decode cX2_expand 124 = .ok (.ifCond .eq 21, 3) := by decide +kernel
theorem dX2_expand_127 : decode cX2_expand 127 = .ok (.aload_n 0, 1) := by decide +kernel
theorem dX2_expand_128 : decode cX2_expand 128 = .ok (.aload_n 1, 1) := by decide +kernel
theorem dX2_expand_129 : decode cX2_expand 129 = .ok (.iload 6, 2) := by decide +kernel
theorem dX2_expand_131 : decode cX2_expand 131 = .ok (.aload_n 1, 1) := by decide +kernel
theorem dX2_expand_132 : decode cX2_expand 132 = .ok (.getfield 21, 3) := by decide +kernel
theorem dX2_expand_135 : decode cX2_expand 135 = .ok (.invokevirtual 35, 3) := by decide +kernel
theorem dX2_expand_138 : decode cX2_expand 138 = .ok (.ifCond .eq 7, 3) := by decide +kernel
theorem dX2_expand_141 : decode cX2_expand 141 = .ok (.iconst 1, 1) := by decide +kernel
theorem dX2_expand_142 : decode cX2_expand 142 = .ok (.goto 4, 3) := by decide +kernel
theorem dX2_expand_145 : decode cX2_expand 145 = .ok (.iconst 0, 1) := by decide +kernel
theorem dX2_expand_146 : decode cX2_expand 146 = .ok (.ireturn, 1) := by decide +kernel
abbrev x_X2_expand : Cx := (2, cX2_expand, false, some (.boolean))
set_option maxRecDepth 10000 in
theorem g_X2_expand_0 {E : Ev} {d : Nat} {G : Hp} {Q : Po} {x0 : Nat} {x1 : Nat} {x2 : Int32} {x3 : Nat} (h : (rcv E G x1 2 = true ∧ (qCI E d i_X2_endOf [.ref x1, .int ((x2 + (iv 1)))] G fun v2 G1 => (rcv E G1 x1 2 = true ∧ (qCI E d i_X2_endOf [.ref x1, .int x2] G1 fun v4 G3 => (qP E G3 x0 2 1 (.int ((iv 0))) fun G5 => (rcv E G5 x0 2 = true ∧ (qCI E d i_X2_addPart [.ref x0, .ref x1, .int ((iv 0)), .int x2] G5 fun v7 G6 => Xr E d x_X2_expand 37 [some (.ref x0), some (.ref x1), some (.int x2), some (.ref x3), some (.int ((x2 + (iv 1)))), some (.int v2), some (.int v4), some (.int v7), some (.int ((iv 0)))] [] G6 Q)))))))) : Xr E d x_X2_expand 0 [some (.ref x0), some (.ref x1), some (.int x2), some (.ref x3), none, none, none, none, none] [] G Q := by
  refine r_iload_n dX2_expand_0 rfl ?_
  refine r_iconst dX2_expand_1 ?_
  refine r_iadd dX2_expand_2 ?_
  refine r_istore dX2_expand_3 rfl ?_
  refine r_aload_n dX2_expand_5 rfl ?_
  refine r_iload dX2_expand_6 rfl ?_
  refine r_cI dX2_expand_8 rfl (invV_eq rfl rfl rfl rfl rfl rfl ⟨rfl, Nat.le_of_ble_eq_true rfl⟩ h.1) (qCI_imp (fun v2 G1 h => ?_) h.2)
  refine r_istore dX2_expand_11 rfl ?_
  refine r_aload_n dX2_expand_13 rfl ?_
  refine r_iload_n dX2_expand_14 rfl ?_
  refine r_cI dX2_expand_15 rfl (invV_eq rfl rfl rfl rfl rfl rfl ⟨rfl, Nat.le_of_ble_eq_true rfl⟩ h.1) (qCI_imp (fun v4 G3 h => ?_) h.2)
  refine r_istore dX2_expand_18 rfl ?_
  refine r_aload_n dX2_expand_20 rfl ?_
  refine r_iconst dX2_expand_21 ?_
  refine r_put dX2_expand_22 rfl rfl (by decide) (qP_imp (fun G5 h => ?_) h)
  refine r_aload_n dX2_expand_25 rfl ?_
  refine r_aload_n dX2_expand_26 rfl ?_
  refine r_iconst dX2_expand_27 ?_
  refine r_iload_n dX2_expand_28 rfl ?_
  refine r_cI dX2_expand_29 rfl (invV_eq rfl rfl rfl rfl rfl rfl ⟨rfl, Nat.le_of_ble_eq_true rfl⟩ h.1) (qCI_imp (fun v7 G6 h => ?_) h.2)
  refine r_istore dX2_expand_32 rfl ?_
  refine r_iconst dX2_expand_34 ?_
  refine r_istore dX2_expand_35 rfl ?_
  exact h
theorem e_X2_expand {E : Ev} {d : Nat} {G : Hp} {Q : Po} {x0 : Nat} {x1 : Nat} {x2 : Int32} {x3 : Nat} (h : (rcv E G x1 2 = true ∧ (qCI E d i_X2_endOf [.ref x1, .int ((x2 + (iv 1)))] G fun v2 G1 => (rcv E G1 x1 2 = true ∧ (qCI E d i_X2_endOf [.ref x1, .int x2] G1 fun v4 G3 => (qP E G3 x0 2 1 (.int ((iv 0))) fun G5 => (rcv E G5 x0 2 = true ∧ (qCI E d i_X2_addPart [.ref x0, .ref x1, .int ((iv 0)), .int x2] G5 fun v7 G6 => Xr E d x_X2_expand 37 [some (.ref x0), some (.ref x1), some (.int x2), some (.ref x3), some (.int ((x2 + (iv 1)))), some (.int v2), some (.int v4), some (.int v7), some (.int ((iv 0)))] [] G6 Q)))))))) : runs E (d + 1) i_X2_expand [.ref x0, .ref x1, .int x2, .ref x3] G Q := by
  rw [runs_eq (m := (yX2_expand, cX2_expand, 9, some (.boolean), 3, 2, false, false)) rfl (Nat.le_of_ble_eq_true rfl)]
  exact g_X2_expand_0 h
set_option maxRecDepth 10000 in
theorem g_X2_expand_37 {E : Ev} {d : Nat} {G : Hp} {Q : Po} {x0 : Nat} {x1 : Nat} {x2 : Int32} {x3 : Nat} {x4 : Int32} {x5 : Int32} {x6 : Int32} {x7 : Int32} {x8 : Int32} (h : (if x7 = 0 then Xr E d x_X2_expand 122 [some (.ref x0), some (.ref x1), some (.int x2), some (.ref x3), some (.int x4), some (.int x5), some (.int x6), some (.int x7), some (.int x8)] [] G Q else (qFI E G x3 2 1 fun v1 => (if v1 ≤ x8 then Xr E d x_X2_expand 122 [some (.ref x0), some (.ref x1), some (.int x2), some (.ref x3), some (.int x4), some (.int x5), some (.int x6), some (.int x7), some (.int x8)] [] G Q else (qFR E G x3 2 0 fun v2 => (qBA E G v2 x8 fun v3 => (if ¬ v3 = (iv 8) then (qFR E G x3 2 0 fun v4 => (qBA E G v4 x8 fun v5 => (if ¬ v5 = (iv 9) then (qFR E G x3 2 0 fun v6 => (qBA E G v6 x8 fun v7 => (rcv E G x0 2 = true ∧ (qCI E d i_X2_add [.ref x0, .int v7] G fun v9 G8 => Xr E d x_X2_expand 37 [some (.ref x0), some (.ref x1), some (.int x2), some (.ref x3), some (.int x4), some (.int x5), some (.int x6), some (.int v9), some (.int ((x8 + (iv 1))))] [] G8 Q)))) else (rcv E G x0 2 = true ∧ (qCI E d i_X2_addPart [.ref x0, .ref x1, .int x5, .int x6] G fun v11 G10 => Xr E d x_X2_expand 37 [some (.ref x0), some (.ref x1), some (.int x2), some (.ref x3), some (.int x4), some (.int x5), some (.int x6), some (.int v11), some (.int ((x8 + (iv 1))))] [] G10 Q))))) else (rcv E G x0 2 = true ∧ (qCI E d i_X2_addPart [.ref x0, .ref x1, .int x4, .int x5] G fun v13 G12 => Xr E d x_X2_expand 37 [some (.ref x0), some (.ref x1), some (.int x2), some (.ref x3), some (.int x4), some (.int x5), some (.int x6), some (.int v13), some (.int ((x8 + (iv 1))))] [] G12 Q))))))))) : Xr E d x_X2_expand 37 [some (.ref x0), some (.ref x1), some (.int x2), some (.ref x3), some (.int x4), some (.int x5), some (.int x6), some (.int x7), some (.int x8)] [] G Q := by
  refine r_iload dX2_expand_37 rfl ?_
  refine r_ifeq (tgt := 122) dX2_expand_39 (by decide) (ite_imp (fun h => ?_) (fun h => ?_) h)
  · exact h
  · refine r_iload dX2_expand_42 rfl ?_
    refine r_aload_n dX2_expand_44 rfl ?_
    refine r_getI dX2_expand_45 rfl (qFI_imp (fun v1 h => ?_) h)
    refine r_cge (tgt := 122) dX2_expand_48 (by decide) (ite_imp (fun h => ?_) (fun h => ?_) h)
    · exact h
    · refine r_aload_n dX2_expand_51 rfl ?_
      refine r_getR dX2_expand_52 rfl (qFR_imp (fun v2 h => ?_) h)
      refine r_iload dX2_expand_55 rfl ?_
      refine r_bald dX2_expand_57 (qBA_imp (fun v3 h => ?_) h)
      refine r_bipush dX2_expand_58 rfl ?_
      refine r_cne (tgt := 77) dX2_expand_60 (by decide) (ite_imp (fun h => ?_) (fun h => ?_) h)
      · refine r_aload_n dX2_expand_77 rfl ?_
        refine r_getR dX2_expand_78 rfl (qFR_imp (fun v4 h => ?_) h)
        refine r_iload dX2_expand_81 rfl ?_
        refine r_bald dX2_expand_83 (qBA_imp (fun v5 h => ?_) h)
        refine r_bipush dX2_expand_84 rfl ?_
        refine r_cne (tgt := 103) dX2_expand_86 (by decide) (ite_imp (fun h => ?_) (fun h => ?_) h)
        · refine r_aload_n dX2_expand_103 rfl ?_
          refine r_aload_n dX2_expand_104 rfl ?_
          refine r_getR dX2_expand_105 rfl (qFR_imp (fun v6 h => ?_) h)
          refine r_iload dX2_expand_108 rfl ?_
          refine r_bald dX2_expand_110 (qBA_imp (fun v7 h => ?_) h)
          refine r_cI dX2_expand_111 rfl (invV_eq rfl rfl rfl rfl rfl rfl ⟨rfl, Nat.le_of_ble_eq_true rfl⟩ h.1) (qCI_imp (fun v9 G8 h => ?_) h.2)
          refine r_istore dX2_expand_114 rfl ?_
          refine r_iinc dX2_expand_116 rfl rfl ?_
          refine r_goto (tgt := 37) dX2_expand_119 (by decide) ?_
          exact h
        · refine r_aload_n dX2_expand_89 rfl ?_
          refine r_aload_n dX2_expand_90 rfl ?_
          refine r_iload dX2_expand_91 rfl ?_
          refine r_iload dX2_expand_93 rfl ?_
          refine r_cI dX2_expand_95 rfl (invV_eq rfl rfl rfl rfl rfl rfl ⟨rfl, Nat.le_of_ble_eq_true rfl⟩ h.1) (qCI_imp (fun v11 G10 h => ?_) h.2)
          refine r_istore dX2_expand_98 rfl ?_
          refine r_goto (tgt := 116) dX2_expand_100 (by decide) ?_
          refine r_iinc dX2_expand_116 rfl rfl ?_
          refine r_goto (tgt := 37) dX2_expand_119 (by decide) ?_
          exact h
      · refine r_aload_n dX2_expand_63 rfl ?_
        refine r_aload_n dX2_expand_64 rfl ?_
        refine r_iload dX2_expand_65 rfl ?_
        refine r_iload dX2_expand_67 rfl ?_
        refine r_cI dX2_expand_69 rfl (invV_eq rfl rfl rfl rfl rfl rfl ⟨rfl, Nat.le_of_ble_eq_true rfl⟩ h.1) (qCI_imp (fun v13 G12 h => ?_) h.2)
        refine r_istore dX2_expand_72 rfl ?_
        refine r_goto (tgt := 116) dX2_expand_74 (by decide) ?_
        refine r_iinc dX2_expand_116 rfl rfl ?_
        refine r_goto (tgt := 37) dX2_expand_119 (by decide) ?_
        exact h
set_option maxRecDepth 10000 in
theorem g_X2_expand_122 {E : Ev} {d : Nat} {G : Hp} {Q : Po} {x0 : Nat} {x1 : Nat} {x2 : Int32} {x3 : Nat} {x4 : Int32} {x5 : Int32} {x6 : Int32} {x7 : Int32} {x8 : Int32} (h : (if x7 = 0 then Q (some (.int (iv 0))) G else (qFI E G x1 2 1 fun v1 => (rcv E G x0 2 = true ∧ (qCI E d i_X2_addPart [.ref x0, .ref x1, .int x6, .int v1] G fun v3 G2 => (if v3 = 0 then Q (some (.int (iv 0))) G2 else Q (some (.int (iv 1))) G2)))))) : Xr E d x_X2_expand 122 [some (.ref x0), some (.ref x1), some (.int x2), some (.ref x3), some (.int x4), some (.int x5), some (.int x6), some (.int x7), some (.int x8)] [] G Q := by
  refine r_iload dX2_expand_122 rfl ?_
  refine r_ifeq (tgt := 145) dX2_expand_124 (by decide) (ite_imp (fun h => ?_) (fun h => ?_) h)
  · refine r_iconst dX2_expand_145 ?_
    exact r_iret dX2_expand_146 rfl ⟨rfl, h⟩
  · refine r_aload_n dX2_expand_127 rfl ?_
    refine r_aload_n dX2_expand_128 rfl ?_
    refine r_iload dX2_expand_129 rfl ?_
    refine r_aload_n dX2_expand_131 rfl ?_
    refine r_getI dX2_expand_132 rfl (qFI_imp (fun v1 h => ?_) h)
    refine r_cI dX2_expand_135 rfl (invV_eq rfl rfl rfl rfl rfl rfl ⟨rfl, Nat.le_of_ble_eq_true rfl⟩ h.1) (qCI_imp (fun v3 G2 h => ?_) h.2)
    refine r_ifeq (tgt := 145) dX2_expand_138 (by decide) (ite_imp (fun h => ?_) (fun h => ?_) h)
    · refine r_iconst dX2_expand_145 ?_
      exact r_iret dX2_expand_146 rfl ⟨rfl, h⟩
    · refine r_iconst dX2_expand_141 ?_
      refine r_goto (tgt := 146) dX2_expand_142 (by decide) ?_
      exact r_iret dX2_expand_146 rfl ⟨rfl, h⟩
theorem dX2_nonterminals_0 : decode cX2_nonterminals 0 = .ok (.iconst 0, 1) := by decide +kernel
theorem dX2_nonterminals_1 : decode cX2_nonterminals 1 = .ok (.istore_n 1, 1) := by decide +kernel
theorem dX2_nonterminals_2 : decode cX2_nonterminals 2 = .ok (.iconst 0, 1) := by decide +kernel
theorem dX2_nonterminals_3 : decode cX2_nonterminals 3 = .ok (.istore_n 2, 1) := by decide +kernel
theorem dX2_nonterminals_4 : decode cX2_nonterminals 4 = .ok (.iload_n 2, 1) := by decide +kernel
theorem dX2_nonterminals_5 : decode cX2_nonterminals 5 = .ok (.aload_n 0, 1) := by decide +kernel
theorem dX2_nonterminals_6 : decode cX2_nonterminals 6 = .ok (.getfield 21, 3) := by decide +kernel
theorem dX2_nonterminals_9 : decode cX2_nonterminals 9 = .ok (.if_icmp .ge 31, 3) := by decide +kernel
theorem dX2_nonterminals_12 : decode cX2_nonterminals 12 = .ok (.aload_n 0, 1) := by decide +kernel
theorem dX2_nonterminals_13 : decode cX2_nonterminals 13 = .ok (.getfield 15, 3) := by decide +kernel
theorem dX2_nonterminals_16 : decode cX2_nonterminals 16 = .ok (.iload_n 2, 1) := by decide +kernel
theorem dX2_nonterminals_17 : decode cX2_nonterminals 17 = .ok (.baload, 1) := by decide +kernel
theorem dX2_nonterminals_18 : decode cX2_nonterminals 18 = .ok (.iconst 4, 1) := by decide +kernel
theorem dX2_nonterminals_19 : decode cX2_nonterminals 19 = .ok (.isub, 1) := by decide +kernel
theorem dX2_nonterminals_20 : decode cX2_nonterminals 20 = .ok (.istore_n 3, 1) := by decide +kernel
theorem dX2_nonterminals_21 : decode cX2_nonterminals 21 = .ok (.iload_n 3, 1) := by decide +kernel
theorem dX2_nonterminals_22 : decode cX2_nonterminals 22 = .ok (.invokestatic 49, 3) := by decide +kernel
theorem dX2_nonterminals_25 : decode cX2_nonterminals 25 = .ok (.ifCond .eq 9, 3) := by decide +kernel
theorem dX2_nonterminals_28 : decode cX2_nonterminals 28 = .ok (.iload_n 1, 1) := by decide +kernel
theorem dX2_nonterminals_29 : decode cX2_nonterminals 29 = .ok (.iconst 1, 1) := by decide +kernel
theorem dX2_nonterminals_30 : decode cX2_nonterminals 30 = .ok (.iload_n 3, 1) := by decide +kernel
theorem dX2_nonterminals_31 : decode cX2_nonterminals 31 = .ok (.ishl, 1) := by decide +kernel
theorem dX2_nonterminals_32 : decode cX2_nonterminals 32 = .ok (.ior, 1) := by decide +kernel
theorem dX2_nonterminals_33 : decode cX2_nonterminals 33 = .ok (.istore_n 1, 1) := by decide +kernel
theorem dX2_nonterminals_34 : decode cX2_nonterminals 34 = .ok (.iinc 2 1, 3) := by decide +kernel
theorem dX2_nonterminals_37 : decode cX2_nonterminals 37 = .ok (.goto (-33), 3) := by decide +kernel
theorem dX2_nonterminals_40 : decode cX2_nonterminals 40 = .ok (.iload_n 1, 1) := by decide +kernel
theorem dX2_nonterminals_41 : decode cX2_nonterminals 41 = .ok (.ireturn, 1) := by decide +kernel
abbrev x_X2_nonterminals : Cx := (2, cX2_nonterminals, false, some (.int))
set_option maxRecDepth 10000 in
theorem g_X2_nonterminals_0 {E : Ev} {d : Nat} {G : Hp} {Q : Po} {x0 : Nat} (h : Xr E d x_X2_nonterminals 4 [some (.ref x0), some (.int ((iv 0))), some (.int ((iv 0))), none] [] G Q) : Xr E d x_X2_nonterminals 0 [some (.ref x0), none, none, none] [] G Q := by
  refine r_iconst dX2_nonterminals_0 ?_
  refine r_istore_n dX2_nonterminals_1 rfl ?_
  refine r_iconst dX2_nonterminals_2 ?_
  refine r_istore_n dX2_nonterminals_3 rfl ?_
  exact h
theorem e_X2_nonterminals {E : Ev} {d : Nat} {G : Hp} {Q : Po} {x0 : Nat} (h : Xr E d x_X2_nonterminals 4 [some (.ref x0), some (.int ((iv 0))), some (.int ((iv 0))), none] [] G Q) : runs E (d + 1) i_X2_nonterminals [.ref x0] G Q := by
  rw [runs_eq (m := (yX2_nonterminals, cX2_nonterminals, 4, some (.int), 0, 2, false, false)) rfl (Nat.le_of_ble_eq_true rfl)]
  exact g_X2_nonterminals_0 h
set_option maxRecDepth 10000 in
theorem g_X2_nonterminals_4 {E : Ev} {d : Nat} {G : Hp} {Q : Po} {x0 : Nat} {x1 : Int32} {x2 : Int32} {l3 : Option Value} (h : (qFI E G x0 2 1 fun v1 => (if v1 ≤ x2 then Q (some (.int x1)) G else (qFR E G x0 2 0 fun v2 => (qBA E G v2 x2 fun v3 => (qCI E d i_X6_isNonterminal [.int ((v3 - (iv 4)))] G fun v5 G4 => (if v5 = 0 then Xr E d x_X2_nonterminals 4 [some (.ref x0), some (.int x1), some (.int ((x2 + (iv 1)))), some (.int ((v3 - (iv 4))))] [] G4 Q else Xr E d x_X2_nonterminals 4 [some (.ref x0), some (.int ((x1 ||| ((iv 1) <<< ((v3 - (iv 4)) &&& 31))))), some (.int ((x2 + (iv 1)))), some (.int ((v3 - (iv 4))))] [] G4 Q))))))) : Xr E d x_X2_nonterminals 4 [some (.ref x0), some (.int x1), some (.int x2), l3] [] G Q := by
  refine r_iload_n dX2_nonterminals_4 rfl ?_
  refine r_aload_n dX2_nonterminals_5 rfl ?_
  refine r_getI dX2_nonterminals_6 rfl (qFI_imp (fun v1 h => ?_) h)
  refine r_cge (tgt := 40) dX2_nonterminals_9 (by decide) (ite_imp (fun h => ?_) (fun h => ?_) h)
  · refine r_iload_n dX2_nonterminals_40 rfl ?_
    exact r_iret dX2_nonterminals_41 rfl ⟨rfl, h⟩
  · refine r_aload_n dX2_nonterminals_12 rfl ?_
    refine r_getR dX2_nonterminals_13 rfl (qFR_imp (fun v2 h => ?_) h)
    refine r_iload_n dX2_nonterminals_16 rfl ?_
    refine r_bald dX2_nonterminals_17 (qBA_imp (fun v3 h => ?_) h)
    refine r_iconst dX2_nonterminals_18 ?_
    refine r_isub dX2_nonterminals_19 ?_
    refine r_istore_n dX2_nonterminals_20 rfl ?_
    refine r_iload_n dX2_nonterminals_21 rfl ?_
    refine r_cI dX2_nonterminals_22 rfl (invS_eq rfl (by decide) rfl rfl rfl rfl ⟨rfl, Nat.le_of_ble_eq_true rfl⟩) (qCI_imp (fun v5 G4 h => ?_) h)
    refine r_ifeq (tgt := 34) dX2_nonterminals_25 (by decide) (ite_imp (fun h => ?_) (fun h => ?_) h)
    · refine r_iinc dX2_nonterminals_34 rfl rfl ?_
      refine r_goto (tgt := 4) dX2_nonterminals_37 (by decide) ?_
      exact h
    · refine r_iload_n dX2_nonterminals_28 rfl ?_
      refine r_iconst dX2_nonterminals_29 ?_
      refine r_iload_n dX2_nonterminals_30 rfl ?_
      refine r_ishl dX2_nonterminals_31 ?_
      refine r_ior dX2_nonterminals_32 ?_
      refine r_istore_n dX2_nonterminals_33 rfl ?_
      refine r_iinc dX2_nonterminals_34 rfl rfl ?_
      refine r_goto (tgt := 4) dX2_nonterminals_37 (by decide) ?_
      exact h
theorem dX2_swapSymbols_0 : decode cX2_swapSymbols 0 = .ok (.iconst 0, 1) := by decide +kernel
theorem dX2_swapSymbols_1 : decode cX2_swapSymbols 1 = .ok (.istore_n 3, 1) := by decide +kernel
theorem dX2_swapSymbols_2 : decode cX2_swapSymbols 2 = .ok (.iconst 0, 1) := by decide +kernel
theorem dX2_swapSymbols_3 : decode cX2_swapSymbols 3 = .ok (.istore 4, 2) := by decide +kernel
theorem dX2_swapSymbols_5 : decode cX2_swapSymbols 5 = .ok (.iload 4, 2) := by decide +kernel
theorem dX2_swapSymbols_7 : decode cX2_swapSymbols 7 = .ok (.aload_n 0, 1) := by decide +kernel
theorem dX2_swapSymbols_8 : decode cX2_swapSymbols 8 = .ok (.getfield 21, 3) := by decide +kernel
theorem dX2_swapSymbols_11 : decode cX2_swapSymbols 11 = .ok (.if_icmp .ge 53, 3) := by decide +kernel
theorem dX2_swapSymbols_14 : decode cX2_swapSymbols 14 = .ok (.aload_n 0, 1) := by decide +kernel
theorem dX2_swapSymbols_15 : decode cX2_swapSymbols 15 = .ok (.getfield 15, 3) := by decide +kernel
theorem dX2_swapSymbols_18 : decode cX2_swapSymbols 18 = .ok (.iload 4, 2) := by decide +kernel
theorem dX2_swapSymbols_20 : decode cX2_swapSymbols 20 = .ok (.baload, 1) := by decide +kernel
theorem dX2_swapSymbols_21 : decode cX2_swapSymbols 21 = .ok (.iload_n 1, 1) := by decide +kernel
theorem dX2_swapSymbols_22 : decode cX2_swapSymbols 22 = .ok (.if_icmp .eq 14, 3) := by decide +kernel
theorem dX2_swapSymbols_25 : decode cX2_swapSymbols 25 = .ok (.aload_n 0, 1) := by decide +kernel
theorem dX2_swapSymbols_26 : decode cX2_swapSymbols 26 = .ok (.getfield 15, 3) := by decide +kernel
theorem dX2_swapSymbols_29 : decode cX2_swapSymbols 29 = .ok (.iload 4, 2) := by decide +kernel
theorem dX2_swapSymbols_31 : decode cX2_swapSymbols 31 = .ok (.baload, 1) := by decide +kernel
theorem dX2_swapSymbols_32 : decode cX2_swapSymbols 32 = .ok (.iload_n 2, 1) := by decide +kernel
theorem dX2_swapSymbols_33 : decode cX2_swapSymbols 33 = .ok (.if_icmp .ne 25, 3) := by decide +kernel
theorem dX2_swapSymbols_36 : decode cX2_swapSymbols 36 = .ok (.aload_n 0, 1) := by decide +kernel
theorem dX2_swapSymbols_37 : decode cX2_swapSymbols 37 = .ok (.getfield 15, 3) := by decide +kernel
theorem dX2_swapSymbols_40 : decode cX2_swapSymbols 40 = .ok (.iload 4, 2) := by decide +kernel
theorem dX2_swapSymbols_42 : decode cX2_swapSymbols 42 = .ok (.iload_n 1, 1) := by decide +kernel
theorem dX2_swapSymbols_43 : decode cX2_swapSymbols 43 = .ok (.iload_n 2, 1) := by decide +kernel
theorem dX2_swapSymbols_44 : decode cX2_swapSymbols 44 = .ok (.iadd, 1) := by decide +kernel
theorem dX2_swapSymbols_45 : decode cX2_swapSymbols 45 = .ok (.aload_n 0, 1) := by decide +kernel
theorem dX2_swapSymbols_46 : decode cX2_swapSymbols 46 = .ok (.getfield 15, 3) := by decide +kernel
theorem dX2_swapSymbols_49 : decode cX2_swapSymbols 49 = .ok (.iload 4, 2) := by decide +kernel
theorem dX2_swapSymbols_51 : decode cX2_swapSymbols 51 = .ok (.baload, 1) := by decide +kernel
theorem dX2_swapSymbols_52 : decode cX2_swapSymbols 52 = .ok (.isub, 1) := by decide +kernel
theorem dX2_swapSymbols_53 : decode cX2_swapSymbols 53 = .ok (.i2b, 1) := by decide +kernel
theorem dX2_swapSymbols_54 : decode cX2_swapSymbols 54 = .ok (.bastore, 1) := by decide +kernel
theorem dX2_swapSymbols_55 : decode cX2_swapSymbols 55 = .ok (.iinc 3 1, 3) := by decide +kernel
theorem dX2_swapSymbols_58 : decode cX2_swapSymbols 58 = .ok (.iinc 4 1, 3) := by decide +kernel
theorem dX2_swapSymbols_61 : decode cX2_swapSymbols 61 = .ok (.goto (-56), 3) := by decide +kernel
theorem dX2_swapSymbols_64 : decode cX2_swapSymbols 64 = .ok (.iload_n 3, 1) := by decide +kernel
theorem dX2_swapSymbols_65 : decode cX2_swapSymbols 65 = .ok (.ireturn, 1) := by decide +kernel
abbrev x_X2_swapSymbols : Cx := (2, cX2_swapSymbols, false, some (.int))
set_option maxRecDepth 10000 in
theorem g_X2_swapSymbols_0 {E : Ev} {d : Nat} {G : Hp} {Q : Po} {x0 : Nat} {x1 : Int32} {x2 : Int32} (h : Xr E d x_X2_swapSymbols 5 [some (.ref x0), some (.int x1), some (.int x2), some (.int ((iv 0))), some (.int ((iv 0)))] [] G Q) : Xr E d x_X2_swapSymbols 0 [some (.ref x0), some (.int x1), some (.int x2), none, none] [] G Q := by
  refine r_iconst dX2_swapSymbols_0 ?_
  refine r_istore_n dX2_swapSymbols_1 rfl ?_
  refine r_iconst dX2_swapSymbols_2 ?_
  refine r_istore dX2_swapSymbols_3 rfl ?_
  exact h
theorem e_X2_swapSymbols {E : Ev} {d : Nat} {G : Hp} {Q : Po} {x0 : Nat} {x1 : Int32} {x2 : Int32} (h : Xr E d x_X2_swapSymbols 5 [some (.ref x0), some (.int x1), some (.int x2), some (.int ((iv 0))), some (.int ((iv 0)))] [] G Q) : runs E (d + 1) i_X2_swapSymbols [.ref x0, .int x1, .int x2] G Q := by
  rw [runs_eq (m := (yX2_swapSymbols, cX2_swapSymbols, 5, some (.int), 2, 2, false, false)) rfl (Nat.le_of_ble_eq_true rfl)]
  exact g_X2_swapSymbols_0 h
set_option maxRecDepth 10000 in
theorem g_X2_swapSymbols_5 {E : Ev} {d : Nat} {G : Hp} {Q : Po} {x0 : Nat} {x1 : Int32} {x2 : Int32} {x3 : Int32} {x4 : Int32} (h : (qFI E G x0 2 1 fun v1 => (if v1 ≤ x4 then Q (some (.int x3)) G else (qFR E G x0 2 0 fun v2 => (qBA E G v2 x4 fun v3 => (if v3 = x1 then Xr E d x_X2_swapSymbols 36 [some (.ref x0), some (.int x1), some (.int x2), some (.int x3), some (.int x4)] [] G Q else (qFR E G x0 2 0 fun v4 => (qBA E G v4 x4 fun v5 => (if ¬ v5 = x2 then Xr E d x_X2_swapSymbols 5 [some (.ref x0), some (.int x1), some (.int x2), some (.int x3), some (.int ((x4 + (iv 1))))] [] G Q else Xr E d x_X2_swapSymbols 36 [some (.ref x0), some (.int x1), some (.int x2), some (.int x3), some (.int x4)] [] G Q))))))))) : Xr E d x_X2_swapSymbols 5 [some (.ref x0), some (.int x1), some (.int x2), some (.int x3), some (.int x4)] [] G Q := by
  refine r_iload dX2_swapSymbols_5 rfl ?_
  refine r_aload_n dX2_swapSymbols_7 rfl ?_
  refine r_getI dX2_swapSymbols_8 rfl (qFI_imp (fun v1 h => ?_) h)
  refine r_cge (tgt := 64) dX2_swapSymbols_11 (by decide) (ite_imp (fun h => ?_) (fun h => ?_) h)
  · refine r_iload_n dX2_swapSymbols_64 rfl ?_
    exact r_iret dX2_swapSymbols_65 rfl ⟨rfl, h⟩
  · refine r_aload_n dX2_swapSymbols_14 rfl ?_
    refine r_getR dX2_swapSymbols_15 rfl (qFR_imp (fun v2 h => ?_) h)
    refine r_iload dX2_swapSymbols_18 rfl ?_
    refine r_bald dX2_swapSymbols_20 (qBA_imp (fun v3 h => ?_) h)
    refine r_iload_n dX2_swapSymbols_21 rfl ?_
    refine r_ceq (tgt := 36) dX2_swapSymbols_22 (by decide) (ite_imp (fun h => ?_) (fun h => ?_) h)
    · exact h
    · refine r_aload_n dX2_swapSymbols_25 rfl ?_
      refine r_getR dX2_swapSymbols_26 rfl (qFR_imp (fun v4 h => ?_) h)
      refine r_iload dX2_swapSymbols_29 rfl ?_
      refine r_bald dX2_swapSymbols_31 (qBA_imp (fun v5 h => ?_) h)
      refine r_iload_n dX2_swapSymbols_32 rfl ?_
      refine r_cne (tgt := 58) dX2_swapSymbols_33 (by decide) (ite_imp (fun h => ?_) (fun h => ?_) h)
      · refine r_iinc dX2_swapSymbols_58 rfl rfl ?_
        refine r_goto (tgt := 5) dX2_swapSymbols_61 (by decide) ?_
        exact h
      · exact h
set_option maxRecDepth 10000 in
theorem g_X2_swapSymbols_36 {E : Ev} {d : Nat} {G : Hp} {Q : Po} {x0 : Nat} {x1 : Int32} {x2 : Int32} {x3 : Int32} {x4 : Int32} (h : (qFR E G x0 2 0 fun v1 => (qFR E G x0 2 0 fun v2 => (qBA E G v2 x4 fun v3 => (qBS E G v1 x4 ((((x1 + x2) - v3)).toInt8.toInt32) fun G4 => Xr E d x_X2_swapSymbols 5 [some (.ref x0), some (.int x1), some (.int x2), some (.int ((x3 + (iv 1)))), some (.int ((x4 + (iv 1))))] [] G4 Q))))) : Xr E d x_X2_swapSymbols 36 [some (.ref x0), some (.int x1), some (.int x2), some (.int x3), some (.int x4)] [] G Q := by
  refine r_aload_n dX2_swapSymbols_36 rfl ?_
  refine r_getR dX2_swapSymbols_37 rfl (qFR_imp (fun v1 h => ?_) h)
  refine r_iload dX2_swapSymbols_40 rfl ?_
  refine r_iload_n dX2_swapSymbols_42 rfl ?_
  refine r_iload_n dX2_swapSymbols_43 rfl ?_
  refine r_iadd dX2_swapSymbols_44 ?_
  refine r_aload_n dX2_swapSymbols_45 rfl ?_
  refine r_getR dX2_swapSymbols_46 rfl (qFR_imp (fun v2 h => ?_) h)
  refine r_iload dX2_swapSymbols_49 rfl ?_
  refine r_bald dX2_swapSymbols_51 (qBA_imp (fun v3 h => ?_) h)
  refine r_isub dX2_swapSymbols_52 ?_
  refine r_i2b dX2_swapSymbols_53 ?_
  refine r_bast dX2_swapSymbols_54 (qBS_imp (fun G4 h => ?_) h)
  refine r_iinc dX2_swapSymbols_55 rfl rfl ?_
  refine r_iinc dX2_swapSymbols_58 rfl rfl ?_
  refine r_goto (tgt := 5) dX2_swapSymbols_61 (by decide) ?_
  exact h
end
