section
-- ===== PART A: goes FIRST, ahead of the names: the tables' words, and 'selects' of the private methods out of them =====
/-- a private method of a class that the tables say can be made, by its rows of tables_1 -/
def lw_okq (q : MethodName × Nat) : Prop := (q.1.cls ≠ "java/lang/invoke/MethodHandle" ∧ q.1.cls ≠ "java/lang/invoke/VarHandle") ∧ Cond.instantiable q.1.cls q.2 ∈ tables_1 ∧ Cond.privateMethod q.1 ∈ tables_1 ∧ Cond.instanceMethod q.1 ∈ tables_1
theorem lw_p0 : lw_okq (⟨"RecursionSchemes$Text", "readItem", "(LRecursionSchemes$Scheme;LRecursionSchemes$Term;)Z"⟩, 3) := ⟨⟨by decide +kernel, by decide +kernel⟩, List.mem_of_getElem? (i := 27) (by decide +kernel), List.mem_of_getElem? (i := 238) (by decide +kernel), List.mem_of_getElem? (i := 239) (by decide +kernel)⟩
theorem lw_p1 : lw_okq (⟨"RecursionSchemes$Text", "symbolHere", "()I"⟩, 3) := ⟨⟨by decide +kernel, by decide +kernel⟩, List.mem_of_getElem? (i := 27) (by decide +kernel), List.mem_of_getElem? (i := 242) (by decide +kernel), List.mem_of_getElem? (i := 243) (by decide +kernel)⟩
theorem lw_p2 : lw_okq (⟨"RecursionSchemes$Text", "characterHere", "()I"⟩, 3) := ⟨⟨by decide +kernel, by decide +kernel⟩, List.mem_of_getElem? (i := 27) (by decide +kernel), List.mem_of_getElem? (i := 246) (by decide +kernel), List.mem_of_getElem? (i := 247) (by decide +kernel)⟩
theorem lw_p3 : lw_okq (⟨"RecursionSchemes$Text", "readRule", "(ILRecursionSchemes$Scheme;LRecursionSchemes$Term;)Z"⟩, 3) := ⟨⟨by decide +kernel, by decide +kernel⟩, List.mem_of_getElem? (i := 27) (by decide +kernel), List.mem_of_getElem? (i := 338) (by decide +kernel), List.mem_of_getElem? (i := 339) (by decide +kernel)⟩
theorem lw_p4 : lw_okq (⟨"RecursionSchemes$Text", "skip", "(I)Z"⟩, 3) := ⟨⟨by decide +kernel, by decide +kernel⟩, List.mem_of_getElem? (i := 27) (by decide +kernel), List.mem_of_getElem? (i := 342) (by decide +kernel), List.mem_of_getElem? (i := 343) (by decide +kernel)⟩
theorem lw_p5 : lw_okq (⟨"RecursionSchemes$Text", "readBody", "(ILRecursionSchemes$Term;)Z"⟩, 3) := ⟨⟨by decide +kernel, by decide +kernel⟩, List.mem_of_getElem? (i := 27) (by decide +kernel), List.mem_of_getElem? (i := 346) (by decide +kernel), List.mem_of_getElem? (i := 347) (by decide +kernel)⟩
theorem lw_p6 : lw_okq (⟨"RecursionSchemes$Text", "stateHere", "()I"⟩, 3) := ⟨⟨by decide +kernel, by decide +kernel⟩, List.mem_of_getElem? (i := 27) (by decide +kernel), List.mem_of_getElem? (i := 375) (by decide +kernel), List.mem_of_getElem? (i := 376) (by decide +kernel)⟩
theorem lw_p7 : lw_okq (⟨"RecursionSchemes$Text", "readTransition", "(ILRecursionSchemes$Scheme;)Z"⟩, 3) := ⟨⟨by decide +kernel, by decide +kernel⟩, List.mem_of_getElem? (i := 27) (by decide +kernel), List.mem_of_getElem? (i := 382) (by decide +kernel), List.mem_of_getElem? (i := 383) (by decide +kernel)⟩
theorem lw_p8 : lw_okq (⟨"RecursionSchemes$Tree", "evaluate", "(LRecursionSchemes$Term;)I"⟩, 7) := ⟨⟨by decide +kernel, by decide +kernel⟩, List.mem_of_getElem? (i := 96) (by decide +kernel), List.mem_of_getElem? (i := 585) (by decide +kernel), List.mem_of_getElem? (i := 586) (by decide +kernel)⟩
theorem lw_p9 : lw_okq (⟨"RecursionSchemes$Tree", "runAutomaton", "()V"⟩, 7) := ⟨⟨by decide +kernel, by decide +kernel⟩, List.mem_of_getElem? (i := 96) (by decide +kernel), List.mem_of_getElem? (i := 599) (by decide +kernel), List.mem_of_getElem? (i := 600) (by decide +kernel)⟩
theorem lw_p10 : lw_okq (⟨"RecursionSchemes$Tree", "exists", "(I)Z"⟩, 7) := ⟨⟨by decide +kernel, by decide +kernel⟩, List.mem_of_getElem? (i := 96) (by decide +kernel), List.mem_of_getElem? (i := 610) (by decide +kernel), List.mem_of_getElem? (i := 611) (by decide +kernel)⟩
theorem lw_p11 : lw_okq (⟨"RecursionSchemes$Tree", "isWrong", "(I)Z"⟩, 7) := ⟨⟨by decide +kernel, by decide +kernel⟩, List.mem_of_getElem? (i := 96) (by decide +kernel), List.mem_of_getElem? (i := 650) (by decide +kernel), List.mem_of_getElem? (i := 651) (by decide +kernel)⟩
theorem lw_p12 : lw_okq (⟨"RecursionSchemes$TypeCheck", "start", "()V"⟩, 6) := ⟨⟨by decide +kernel, by decide +kernel⟩, List.mem_of_getElem? (i := 126) (by decide +kernel), List.mem_of_getElem? (i := 666) (by decide +kernel), List.mem_of_getElem? (i := 667) (by decide +kernel)⟩
theorem lw_p13 : lw_okq (⟨"RecursionSchemes$TypeCheck", "terminalTypes", "(II)I"⟩, 6) := ⟨⟨by decide +kernel, by decide +kernel⟩, List.mem_of_getElem? (i := 126) (by decide +kernel), List.mem_of_getElem? (i := 670) (by decide +kernel), List.mem_of_getElem? (i := 671) (by decide +kernel)⟩
theorem lw_p14 : lw_okq (⟨"RecursionSchemes$TypeCheck", "removeUnjustified", "()Z"⟩, 6) := ⟨⟨by decide +kernel, by decide +kernel⟩, List.mem_of_getElem? (i := 126) (by decide +kernel), List.mem_of_getElem? (i := 686) (by decide +kernel), List.mem_of_getElem? (i := 687) (by decide +kernel)⟩
theorem lw_p15 : lw_okq (⟨"RecursionSchemes$TypeCheck", "bodyTypes", "(LRecursionSchemes$Term;I)I"⟩, 6) := ⟨⟨by decide +kernel, by decide +kernel⟩, List.mem_of_getElem? (i := 126) (by decide +kernel), List.mem_of_getElem? (i := 697) (by decide +kernel), List.mem_of_getElem? (i := 698) (by decide +kernel)⟩
def lw_privs_1 : List (MethodName × Nat) := [(⟨"RecursionSchemes$Text", "readItem", "(LRecursionSchemes$Scheme;LRecursionSchemes$Term;)Z"⟩, 3), (⟨"RecursionSchemes$Text", "symbolHere", "()I"⟩, 3), (⟨"RecursionSchemes$Text", "characterHere", "()I"⟩, 3), (⟨"RecursionSchemes$Text", "readRule", "(ILRecursionSchemes$Scheme;LRecursionSchemes$Term;)Z"⟩, 3), (⟨"RecursionSchemes$Text", "skip", "(I)Z"⟩, 3), (⟨"RecursionSchemes$Text", "readBody", "(ILRecursionSchemes$Term;)Z"⟩, 3), (⟨"RecursionSchemes$Text", "stateHere", "()I"⟩, 3), (⟨"RecursionSchemes$Text", "readTransition", "(ILRecursionSchemes$Scheme;)Z"⟩, 3), (⟨"RecursionSchemes$Tree", "evaluate", "(LRecursionSchemes$Term;)I"⟩, 7), (⟨"RecursionSchemes$Tree", "runAutomaton", "()V"⟩, 7), (⟨"RecursionSchemes$Tree", "exists", "(I)Z"⟩, 7), (⟨"RecursionSchemes$Tree", "isWrong", "(I)Z"⟩, 7), (⟨"RecursionSchemes$TypeCheck", "start", "()V"⟩, 6), (⟨"RecursionSchemes$TypeCheck", "terminalTypes", "(II)I"⟩, 6), (⟨"RecursionSchemes$TypeCheck", "removeUnjustified", "()Z"⟩, 6), (⟨"RecursionSchemes$TypeCheck", "bodyTypes", "(LRecursionSchemes$Term;I)I"⟩, 6)]
theorem lw_r1 : ∀ q ∈ lw_privs_1, lw_okq q := List.forall_mem_cons.mpr ⟨lw_p0, List.forall_mem_cons.mpr ⟨lw_p1, List.forall_mem_cons.mpr ⟨lw_p2, List.forall_mem_cons.mpr ⟨lw_p3, List.forall_mem_cons.mpr ⟨lw_p4, List.forall_mem_cons.mpr ⟨lw_p5, List.forall_mem_cons.mpr ⟨lw_p6, List.forall_mem_cons.mpr ⟨lw_p7, List.forall_mem_cons.mpr ⟨lw_p8, List.forall_mem_cons.mpr ⟨lw_p9, List.forall_mem_cons.mpr ⟨lw_p10, List.forall_mem_cons.mpr ⟨lw_p11, List.forall_mem_cons.mpr ⟨lw_p12, List.forall_mem_cons.mpr ⟨lw_p13, List.forall_mem_cons.mpr ⟨lw_p14, List.forall_mem_cons.mpr ⟨lw_p15, fun _ h => absurd h List.not_mem_nil⟩⟩⟩⟩⟩⟩⟩⟩⟩⟩⟩⟩⟩⟩⟩⟩
theorem lw_p16 : lw_okq (⟨"RecursionSchemes$TypeCheck", "symbolTypes", "(III)I"⟩, 6) := ⟨⟨by decide +kernel, by decide +kernel⟩, List.mem_of_getElem? (i := 126) (by decide +kernel), List.mem_of_getElem? (i := 706) (by decide +kernel), List.mem_of_getElem? (i := 707) (by decide +kernel)⟩
theorem lw_p17 : lw_okq (⟨"RecursionSchemes", "commandSucceeds", "(I)Z"⟩, 11) := ⟨⟨by decide +kernel, by decide +kernel⟩, List.mem_of_getElem? (i := 19) (by decide +kernel), List.mem_of_getElem? (i := 767) (by decide +kernel), List.mem_of_getElem? (i := 768) (by decide +kernel)⟩
theorem lw_p18 : lw_okq (⟨"RecursionSchemes", "removeFromCopy", "(II)Z"⟩, 11) := ⟨⟨by decide +kernel, by decide +kernel⟩, List.mem_of_getElem? (i := 19) (by decide +kernel), List.mem_of_getElem? (i := 771) (by decide +kernel), List.mem_of_getElem? (i := 772) (by decide +kernel)⟩
theorem lw_p19 : lw_okq (⟨"RecursionSchemes", "setBInCopy", "(II)Z"⟩, 11) := ⟨⟨by decide +kernel, by decide +kernel⟩, List.mem_of_getElem? (i := 19) (by decide +kernel), List.mem_of_getElem? (i := 775) (by decide +kernel), List.mem_of_getElem? (i := 776) (by decide +kernel)⟩
theorem lw_p20 : lw_okq (⟨"RecursionSchemesModel", "readText", "()I"⟩, 20) := ⟨⟨by decide +kernel, by decide +kernel⟩, List.mem_of_getElem? (i := 797) (by decide +kernel), List.mem_of_getElem? (i := 883) (by decide +kernel), List.mem_of_getElem? (i := 884) (by decide +kernel)⟩
theorem lw_p21 : lw_okq (⟨"RecursionSchemesModel", "readItem", "(I)I"⟩, 20) := ⟨⟨by decide +kernel, by decide +kernel⟩, List.mem_of_getElem? (i := 797) (by decide +kernel), List.mem_of_getElem? (i := 887) (by decide +kernel), List.mem_of_getElem? (i := 888) (by decide +kernel)⟩
theorem lw_p22 : lw_okq (⟨"RecursionSchemesModel", "readBody", "(II)I"⟩, 20) := ⟨⟨by decide +kernel, by decide +kernel⟩, List.mem_of_getElem? (i := 797) (by decide +kernel), List.mem_of_getElem? (i := 896) (by decide +kernel), List.mem_of_getElem? (i := 897) (by decide +kernel)⟩
theorem lw_p23 : lw_okq (⟨"RecursionSchemesModel", "readStep", "(I)I"⟩, 20) := ⟨⟨by decide +kernel, by decide +kernel⟩, List.mem_of_getElem? (i := 797) (by decide +kernel), List.mem_of_getElem? (i := 919) (by decide +kernel), List.mem_of_getElem? (i := 920) (by decide +kernel)⟩
theorem lw_p24 : lw_okq (⟨"RecursionSchemesModel", "note", "()V"⟩, 20) := ⟨⟨by decide +kernel, by decide +kernel⟩, List.mem_of_getElem? (i := 797) (by decide +kernel), List.mem_of_getElem? (i := 968) (by decide +kernel), List.mem_of_getElem? (i := 969) (by decide +kernel)⟩
theorem lw_p25 : lw_okq (⟨"RecursionSchemesModel", "putPart", "([III)V"⟩, 20) := ⟨⟨by decide +kernel, by decide +kernel⟩, List.mem_of_getElem? (i := 797) (by decide +kernel), List.mem_of_getElem? (i := 987) (by decide +kernel), List.mem_of_getElem? (i := 988) (by decide +kernel)⟩
theorem lw_p26 : lw_okq (⟨"RecursionSchemesModel", "put", "(I)V"⟩, 20) := ⟨⟨by decide +kernel, by decide +kernel⟩, List.mem_of_getElem? (i := 797) (by decide +kernel), List.mem_of_getElem? (i := 991) (by decide +kernel), List.mem_of_getElem? (i := 992) (by decide +kernel)⟩
theorem lw_p27 : lw_okq (⟨"RecursionSchemesModel", "putExpanded", "([I[II)I"⟩, 20) := ⟨⟨by decide +kernel, by decide +kernel⟩, List.mem_of_getElem? (i := 797) (by decide +kernel), List.mem_of_getElem? (i := 995) (by decide +kernel), List.mem_of_getElem? (i := 996) (by decide +kernel)⟩
theorem lw_p28 : lw_okq (⟨"RecursionSchemesModel", "walk", "([III)Z"⟩, 20) := ⟨⟨by decide +kernel, by decide +kernel⟩, List.mem_of_getElem? (i := 797) (by decide +kernel), List.mem_of_getElem? (i := 1017) (by decide +kernel), List.mem_of_getElem? (i := 1018) (by decide +kernel)⟩
theorem lw_p29 : lw_okq (⟨"RecursionSchemesModel", "beginWalk", "([I)V"⟩, 20) := ⟨⟨by decide +kernel, by decide +kernel⟩, List.mem_of_getElem? (i := 797) (by decide +kernel), List.mem_of_getElem? (i := 1021) (by decide +kernel), List.mem_of_getElem? (i := 1022) (by decide +kernel)⟩
theorem lw_p30 : lw_okq (⟨"RecursionSchemesModel", "evaluate", "([I)V"⟩, 20) := ⟨⟨by decide +kernel, by decide +kernel⟩, List.mem_of_getElem? (i := 797) (by decide +kernel), List.mem_of_getElem? (i := 1025) (by decide +kernel), List.mem_of_getElem? (i := 1026) (by decide +kernel)⟩
theorem lw_p31 : lw_okq (⟨"RecursionSchemesModel", "goDown", "([II)Z"⟩, 20) := ⟨⟨by decide +kernel, by decide +kernel⟩, List.mem_of_getElem? (i := 797) (by decide +kernel), List.mem_of_getElem? (i := 1032) (by decide +kernel), List.mem_of_getElem? (i := 1033) (by decide +kernel)⟩
def lw_privs_2 : List (MethodName × Nat) := [(⟨"RecursionSchemes$TypeCheck", "symbolTypes", "(III)I"⟩, 6), (⟨"RecursionSchemes", "commandSucceeds", "(I)Z"⟩, 11), (⟨"RecursionSchemes", "removeFromCopy", "(II)Z"⟩, 11), (⟨"RecursionSchemes", "setBInCopy", "(II)Z"⟩, 11), (⟨"RecursionSchemesModel", "readText", "()I"⟩, 20), (⟨"RecursionSchemesModel", "readItem", "(I)I"⟩, 20), (⟨"RecursionSchemesModel", "readBody", "(II)I"⟩, 20), (⟨"RecursionSchemesModel", "readStep", "(I)I"⟩, 20), (⟨"RecursionSchemesModel", "note", "()V"⟩, 20), (⟨"RecursionSchemesModel", "putPart", "([III)V"⟩, 20), (⟨"RecursionSchemesModel", "put", "(I)V"⟩, 20), (⟨"RecursionSchemesModel", "putExpanded", "([I[II)I"⟩, 20), (⟨"RecursionSchemesModel", "walk", "([III)Z"⟩, 20), (⟨"RecursionSchemesModel", "beginWalk", "([I)V"⟩, 20), (⟨"RecursionSchemesModel", "evaluate", "([I)V"⟩, 20), (⟨"RecursionSchemesModel", "goDown", "([II)Z"⟩, 20)]
theorem lw_r2 : ∀ q ∈ lw_privs_2, lw_okq q := List.forall_mem_cons.mpr ⟨lw_p16, List.forall_mem_cons.mpr ⟨lw_p17, List.forall_mem_cons.mpr ⟨lw_p18, List.forall_mem_cons.mpr ⟨lw_p19, List.forall_mem_cons.mpr ⟨lw_p20, List.forall_mem_cons.mpr ⟨lw_p21, List.forall_mem_cons.mpr ⟨lw_p22, List.forall_mem_cons.mpr ⟨lw_p23, List.forall_mem_cons.mpr ⟨lw_p24, List.forall_mem_cons.mpr ⟨lw_p25, List.forall_mem_cons.mpr ⟨lw_p26, List.forall_mem_cons.mpr ⟨lw_p27, List.forall_mem_cons.mpr ⟨lw_p28, List.forall_mem_cons.mpr ⟨lw_p29, List.forall_mem_cons.mpr ⟨lw_p30, List.forall_mem_cons.mpr ⟨lw_p31, fun _ h => absurd h List.not_mem_nil⟩⟩⟩⟩⟩⟩⟩⟩⟩⟩⟩⟩⟩⟩⟩⟩
theorem lw_p32 : lw_okq (⟨"RecursionSchemesModel", "childrenOf", "(I)I"⟩, 20) := ⟨⟨by decide +kernel, by decide +kernel⟩, List.mem_of_getElem? (i := 797) (by decide +kernel), List.mem_of_getElem? (i := 1036) (by decide +kernel), List.mem_of_getElem? (i := 1037) (by decide +kernel)⟩
theorem lw_p33 : lw_okq (⟨"RecursionSchemesModel", "nodesOf", "([II)I"⟩, 20) := ⟨⟨by decide +kernel, by decide +kernel⟩, List.mem_of_getElem? (i := 797) (by decide +kernel), List.mem_of_getElem? (i := 1053) (by decide +kernel), List.mem_of_getElem? (i := 1054) (by decide +kernel)⟩
theorem lw_p34 : lw_okq (⟨"RecursionSchemesModel", "isAccepted", "([I)Z"⟩, 20) := ⟨⟨by decide +kernel, by decide +kernel⟩, List.mem_of_getElem? (i := 797) (by decide +kernel), List.mem_of_getElem? (i := 1068) (by decide +kernel), List.mem_of_getElem? (i := 1069) (by decide +kernel)⟩
theorem lw_p35 : lw_okq (⟨"RecursionSchemesModel", "check", "([I)I"⟩, 20) := ⟨⟨by decide +kernel, by decide +kernel⟩, List.mem_of_getElem? (i := 797) (by decide +kernel), List.mem_of_getElem? (i := 1072) (by decide +kernel), List.mem_of_getElem? (i := 1073) (by decide +kernel)⟩
theorem lw_p36 : lw_okq (⟨"RecursionSchemesModel", "isRoundLess", "([I)Z"⟩, 20) := ⟨⟨by decide +kernel, by decide +kernel⟩, List.mem_of_getElem? (i := 797) (by decide +kernel), List.mem_of_getElem? (i := 1076) (by decide +kernel), List.mem_of_getElem? (i := 1077) (by decide +kernel)⟩
theorem lw_p37 : lw_okq (⟨"RecursionSchemesModel", "bodyTypes", "([IIII)I"⟩, 20) := ⟨⟨by decide +kernel, by decide +kernel⟩, List.mem_of_getElem? (i := 797) (by decide +kernel), List.mem_of_getElem? (i := 1080) (by decide +kernel), List.mem_of_getElem? (i := 1081) (by decide +kernel)⟩
theorem lw_p38 : lw_okq (⟨"RecursionSchemesModel", "terminalTypes", "([IIII)I"⟩, 20) := ⟨⟨by decide +kernel, by decide +kernel⟩, List.mem_of_getElem? (i := 797) (by decide +kernel), List.mem_of_getElem? (i := 1084) (by decide +kernel), List.mem_of_getElem? (i := 1085) (by decide +kernel)⟩
theorem lw_p39 : lw_okq (⟨"RecursionSchemesModel", "appliedTypes", "(III)I"⟩, 20) := ⟨⟨by decide +kernel, by decide +kernel⟩, List.mem_of_getElem? (i := 797) (by decide +kernel), List.mem_of_getElem? (i := 1088) (by decide +kernel), List.mem_of_getElem? (i := 1089) (by decide +kernel)⟩
theorem lw_p40 : lw_okq (⟨"RecursionSchemesModel", "typingsOf", "([II)I"⟩, 20) := ⟨⟨by decide +kernel, by decide +kernel⟩, List.mem_of_getElem? (i := 797) (by decide +kernel), List.mem_of_getElem? (i := 1103) (by decide +kernel), List.mem_of_getElem? (i := 1104) (by decide +kernel)⟩
theorem lw_p41 : lw_okq (⟨"RecursionSchemesModel", "command", "(IIII)Z"⟩, 20) := ⟨⟨by decide +kernel, by decide +kernel⟩, List.mem_of_getElem? (i := 797) (by decide +kernel), List.mem_of_getElem? (i := 1125) (by decide +kernel), List.mem_of_getElem? (i := 1126) (by decide +kernel)⟩
def lw_privs_3 : List (MethodName × Nat) := [(⟨"RecursionSchemesModel", "childrenOf", "(I)I"⟩, 20), (⟨"RecursionSchemesModel", "nodesOf", "([II)I"⟩, 20), (⟨"RecursionSchemesModel", "isAccepted", "([I)Z"⟩, 20), (⟨"RecursionSchemesModel", "check", "([I)I"⟩, 20), (⟨"RecursionSchemesModel", "isRoundLess", "([I)Z"⟩, 20), (⟨"RecursionSchemesModel", "bodyTypes", "([IIII)I"⟩, 20), (⟨"RecursionSchemesModel", "terminalTypes", "([IIII)I"⟩, 20), (⟨"RecursionSchemesModel", "appliedTypes", "(III)I"⟩, 20), (⟨"RecursionSchemesModel", "typingsOf", "([II)I"⟩, 20), (⟨"RecursionSchemesModel", "command", "(IIII)Z"⟩, 20)]
theorem lw_r3 : ∀ q ∈ lw_privs_3, lw_okq q := List.forall_mem_cons.mpr ⟨lw_p32, List.forall_mem_cons.mpr ⟨lw_p33, List.forall_mem_cons.mpr ⟨lw_p34, List.forall_mem_cons.mpr ⟨lw_p35, List.forall_mem_cons.mpr ⟨lw_p36, List.forall_mem_cons.mpr ⟨lw_p37, List.forall_mem_cons.mpr ⟨lw_p38, List.forall_mem_cons.mpr ⟨lw_p39, List.forall_mem_cons.mpr ⟨lw_p40, List.forall_mem_cons.mpr ⟨lw_p41, fun _ h => absurd h List.not_mem_nil⟩⟩⟩⟩⟩⟩⟩⟩⟩⟩
def lw_privs : List (MethodName × Nat) := lw_privs_1 ++ (lw_privs_2 ++ (lw_privs_3))
def lw_tbl : List Cond := k2_sels lw_privs ++ tables_1
theorem lw_privs_ok : ∀ q ∈ lw_privs, lw_okq q := by
  show ∀ q ∈ lw_privs_1 ++ (lw_privs_2 ++ (lw_privs_3)), lw_okq q
  exact List.forall_mem_append.mpr ⟨lw_r1, List.forall_mem_append.mpr ⟨lw_r2, lw_r3⟩⟩
end
section
def RX0 : String := "RecursionSchemes$History"
def TX0 : u_T := fun k => match k with
  | 0 => ("RecursionSchemes$History", "states", "[LRecursionSchemes$Scheme;", true)
  | 1 => ("RecursionSchemes$History", "next", "I", false)
  | _ => ("RecursionSchemes$History", "count", "I", false)
def tyX0 : Nat → FieldType := fun k => match k with
  | 0 => .array (.object "RecursionSchemes$Scheme")
  | 1 => .int
  | _ => .int
abbrev wsX00 : List Cond := u_ws RX0 TX0 3
theorem nmX0 : ∀ a, a < 3 → ∀ b, b < 3 → a ≠ b → (TX0 a).2.1 ≠ (TX0 b).2.1 := by decide +kernel
theorem tyX0_ok : ∀ k, k < 3 → parseFieldDescriptor (TX0 k).2.2.1 = some (tyX0 k) := by decide +kernel
abbrev cX0_init : ByteArray := prog_2_method_1_code
def yX0_init : MethodName := ⟨RX0, "<init>", "()V"⟩
abbrev cX0_size : ByteArray := prog_2_method_2_code
def yX0_size : MethodName := ⟨RX0, "size", "()I"⟩
abbrev cX0_forget : ByteArray := prog_2_method_3_code
def yX0_forget : MethodName := ⟨RX0, "forget", "()V"⟩
abbrev cX0_remember : ByteArray := prog_2_method_4_code
def yX0_remember : MethodName := ⟨RX0, "remember", "(LRecursionSchemes$Scheme;)V"⟩
abbrev cX0_takeBack : ByteArray := prog_2_method_5_code
def yX0_takeBack : MethodName := ⟨RX0, "takeBack", "(LRecursionSchemes$Scheme;)Z"⟩
def RX1 : String := "RecursionSchemes$Scheme"
def TX1 : u_T := fun k => match k with
  | 0 => ("RecursionSchemes$Scheme", "bodies", "[LRecursionSchemes$Term;", true)
  | 1 => ("RecursionSchemes$Scheme", "firstTargets", "[I", true)
  | 2 => ("RecursionSchemes$Scheme", "secondTargets", "[I", true)
  | _ => ("RecursionSchemes$Scheme", "edits", "I", false)
def tyX1 : Nat → FieldType := fun k => match k with
  | 0 => .array (.object "RecursionSchemes$Term")
  | 1 => .array .int
  | 2 => .array .int
  | _ => .int
abbrev wsX10 : List Cond := u_ws RX1 TX1 4
theorem nmX1 : ∀ a, a < 4 → ∀ b, b < 4 → a ≠ b → (TX1 a).2.1 ≠ (TX1 b).2.1 := by decide +kernel
theorem tyX1_ok : ∀ k, k < 4 → parseFieldDescriptor (TX1 k).2.2.1 = some (tyX1 k) := by decide +kernel
abbrev cX1_init : ByteArray := prog_3_method_1_code
def yX1_init : MethodName := ⟨RX1, "<init>", "()V"⟩
abbrev cX1_edits : ByteArray := prog_3_method_2_code
def yX1_edits : MethodName := ⟨RX1, "edits", "()I"⟩
abbrev cX1_reset : ByteArray := prog_3_method_3_code
def yX1_reset : MethodName := ⟨RX1, "reset", "()V"⟩
abbrev cX1_become : ByteArray := prog_3_method_4_code
def yX1_become : MethodName := ⟨RX1, "become", "(LRecursionSchemes$Scheme;)V"⟩
abbrev cX1_body : ByteArray := prog_3_method_5_code
def yX1_body : MethodName := ⟨RX1, "body", "(I)LRecursionSchemes$Term;"⟩
abbrev cX1_changeBody : ByteArray := prog_3_method_6_code
def yX1_changeBody : MethodName := ⟨RX1, "changeBody", "(ILRecursionSchemes$Term;)V"⟩
abbrev cX1_swapFAndG : ByteArray := prog_3_method_7_code
def yX1_swapFAndG : MethodName := ⟨RX1, "swapFAndG", "()I"⟩
abbrev cX1_canRead : ByteArray := prog_3_method_8_code
def yX1_canRead : MethodName := ⟨RX1, "canRead", "(II)Z"⟩
abbrev cX1_target : ByteArray := prog_3_method_9_code
def yX1_target : MethodName := ⟨RX1, "target", "(III)I"⟩
abbrev cX1_putTransition : ByteArray := prog_3_method_10_code
def yX1_putTransition : MethodName := ⟨RX1, "putTransition", "(IIII)V"⟩
abbrev cX1_dropTransition : ByteArray := prog_3_method_11_code
def yX1_dropTransition : MethodName := ⟨RX1, "dropTransition", "(II)V"⟩
abbrev cX1_transitionCount : ByteArray := prog_3_method_12_code
def yX1_transitionCount : MethodName := ⟨RX1, "transitionCount", "()I"⟩
def RX2 : String := "RecursionSchemes$Term"
def TX2 : u_T := fun k => match k with
  | 0 => ("RecursionSchemes$Term", "symbols", "[B", true)
  | _ => ("RecursionSchemes$Term", "length", "I", false)
def tyX2 : Nat → FieldType := fun k => match k with
  | 0 => .array .byte
  | _ => .int
abbrev wsX20 : List Cond := u_ws RX2 TX2 2
theorem nmX2 : ∀ a, a < 2 → ∀ b, b < 2 → a ≠ b → (TX2 a).2.1 ≠ (TX2 b).2.1 := by decide +kernel
theorem tyX2_ok : ∀ k, k < 2 → parseFieldDescriptor (TX2 k).2.2.1 = some (tyX2 k) := by decide +kernel
abbrev cX2_init : ByteArray := prog_4_method_1_code
def yX2_init : MethodName := ⟨RX2, "<init>", "(I)V"⟩
abbrev cX2_size : ByteArray := prog_4_method_2_code
def yX2_size : MethodName := ⟨RX2, "size", "()I"⟩
abbrev cX2_holds : ByteArray := prog_4_method_3_code
def yX2_holds : MethodName := ⟨RX2, "holds", "(I)Z"⟩
abbrev cX2_symbol : ByteArray := prog_4_method_4_code
def yX2_symbol : MethodName := ⟨RX2, "symbol", "(I)I"⟩
abbrev cX2_empty : ByteArray := prog_4_method_5_code
def yX2_empty : MethodName := ⟨RX2, "empty", "()V"⟩
abbrev cX2_add : ByteArray := prog_4_method_6_code
def yX2_add : MethodName := ⟨RX2, "add", "(I)Z"⟩
abbrev cX2_addPart : ByteArray := prog_4_method_7_code
def yX2_addPart : MethodName := ⟨RX2, "addPart", "(LRecursionSchemes$Term;II)Z"⟩
abbrev cX2_become : ByteArray := prog_4_method_8_code
def yX2_become : MethodName := ⟨RX2, "become", "(LRecursionSchemes$Term;)V"⟩
abbrev cX2_endOf : ByteArray := prog_4_method_9_code
def yX2_endOf : MethodName := ⟨RX2, "endOf", "(I)I"⟩
abbrev cX2_expand : ByteArray := prog_4_method_10_code
def yX2_expand : MethodName := ⟨RX2, "expand", "(LRecursionSchemes$Term;ILRecursionSchemes$Term;)Z"⟩
abbrev cX2_nonterminals : ByteArray := prog_4_method_11_code
def yX2_nonterminals : MethodName := ⟨RX2, "nonterminals", "()I"⟩
abbrev cX2_swapSymbols : ByteArray := prog_4_method_12_code
def yX2_swapSymbols : MethodName := ⟨RX2, "swapSymbols", "(II)I"⟩
def RX3 : String := "RecursionSchemes$Text"
def TX3 : u_T := fun k => match k with
  | 0 => ("RecursionSchemes$Text", "characters", "[I", true)
  | 1 => ("RecursionSchemes$Text", "length", "I", false)
  | _ => ("RecursionSchemes$Text", "position", "I", false)
def tyX3 : Nat → FieldType := fun k => match k with
  | 0 => .array .int
  | 1 => .int
  | _ => .int
abbrev wsX30 : List Cond := u_ws RX3 TX3 3
theorem nmX3 : ∀ a, a < 3 → ∀ b, b < 3 → a ≠ b → (TX3 a).2.1 ≠ (TX3 b).2.1 := by decide +kernel
theorem tyX3_ok : ∀ k, k < 3 → parseFieldDescriptor (TX3 k).2.2.1 = some (tyX3 k) := by decide +kernel
abbrev cX3_init : ByteArray := prog_5_method_1_code
def yX3_init : MethodName := ⟨RX3, "<init>", "()V"⟩
abbrev cX3_size : ByteArray := prog_5_method_2_code
def yX3_size : MethodName := ⟨RX3, "size", "()I"⟩
abbrev cX3_empty : ByteArray := prog_5_method_3_code
def yX3_empty : MethodName := ⟨RX3, "empty", "()V"⟩
abbrev cX3_add : ByteArray := prog_5_method_4_code
def yX3_add : MethodName := ⟨RX3, "add", "(I)Z"⟩
abbrev cX3_readSetup : ByteArray := prog_5_method_5_code
def yX3_readSetup : MethodName := ⟨RX3, "readSetup", "(LRecursionSchemes$Scheme;LRecursionSchemes$Term;)I"⟩
abbrev cX3_isBody : ByteArray := prog_5_method_6_code
def yX3_isBody : MethodName := ⟨RX3, "isBody", "(ILRecursionSchemes$Term;)Z"⟩
abbrev cX3_readItem : ByteArray := prog_5_method_7_code
def yX3_readItem : MethodName := ⟨RX3, "readItem", "(LRecursionSchemes$Scheme;LRecursionSchemes$Term;)Z"⟩
abbrev cX3_readRule : ByteArray := prog_5_method_8_code
def yX3_readRule : MethodName := ⟨RX3, "readRule", "(ILRecursionSchemes$Scheme;LRecursionSchemes$Term;)Z"⟩
abbrev cX3_readTransition : ByteArray := prog_5_method_9_code
def yX3_readTransition : MethodName := ⟨RX3, "readTransition", "(ILRecursionSchemes$Scheme;)Z"⟩
abbrev cX3_readBody : ByteArray := prog_5_method_10_code
def yX3_readBody : MethodName := ⟨RX3, "readBody", "(ILRecursionSchemes$Term;)Z"⟩
abbrev cX3_mayContain : ByteArray := prog_5_method_11_code
def yX3_mayContain : MethodName := ⟨RX3, "mayContain", "(II)Z"⟩
abbrev cX3_skip : ByteArray := prog_5_method_12_code
def yX3_skip : MethodName := ⟨RX3, "skip", "(I)Z"⟩
abbrev cX3_characterHere : ByteArray := prog_5_method_13_code
def yX3_characterHere : MethodName := ⟨RX3, "characterHere", "()I"⟩
abbrev cX3_symbolHere : ByteArray := prog_5_method_14_code
def yX3_symbolHere : MethodName := ⟨RX3, "symbolHere", "()I"⟩
abbrev cX3_stateHere : ByteArray := prog_5_method_15_code
def yX3_stateHere : MethodName := ⟨RX3, "stateHere", "()I"⟩
def RX4 : String := "RecursionSchemes$Tree"
def TX4 : u_T := fun k => match k with
  | 0 => ("RecursionSchemes$Tree", "scheme", "LRecursionSchemes$Scheme;", true)
  | 1 => ("RecursionSchemes$Tree", "terms", "[LRecursionSchemes$Term;", true)
  | 2 => ("RecursionSchemes$Tree", "spare", "LRecursionSchemes$Term;", true)
  | 3 => ("RecursionSchemes$Tree", "labels", "[I", true)
  | 4 => ("RecursionSchemes$Tree", "expansions", "[I", true)
  | 5 => ("RecursionSchemes$Tree", "states", "[I", true)
  | _ => ("RecursionSchemes$Tree", "seenEdits", "I", false)
def tyX4 : Nat → FieldType := fun k => match k with
  | 0 => .object "RecursionSchemes$Scheme"
  | 1 => .array (.object "RecursionSchemes$Term")
  | 2 => .object "RecursionSchemes$Term"
  | 3 => .array .int
  | 4 => .array .int
  | 5 => .array .int
  | _ => .int
abbrev wsX40 : List Cond := u_ws RX4 TX4 7
theorem nmX4 : ∀ a, a < 7 → ∀ b, b < 7 → a ≠ b → (TX4 a).2.1 ≠ (TX4 b).2.1 := by decide +kernel
theorem tyX4_ok : ∀ k, k < 7 → parseFieldDescriptor (TX4 k).2.2.1 = some (tyX4 k) := by decide +kernel
abbrev cX4_init : ByteArray := prog_6_method_1_code
def yX4_init : MethodName := ⟨RX4, "<init>", "(LRecursionSchemes$Scheme;)V"⟩
abbrev cX4_upToDate : ByteArray := prog_6_method_2_code
def yX4_upToDate : MethodName := ⟨RX4, "upToDate", "()LRecursionSchemes$Tree;"⟩
abbrev cX4_labelCode : ByteArray := prog_6_method_3_code
def yX4_labelCode : MethodName := ⟨RX4, "labelCode", "(I)I"⟩
abbrev cX4_expansionsTo : ByteArray := prog_6_method_4_code
def yX4_expansionsTo : MethodName := ⟨RX4, "expansionsTo", "(I)I"⟩
abbrev cX4_stateOf : ByteArray := prog_6_method_5_code
def yX4_stateOf : MethodName := ⟨RX4, "stateOf", "(I)I"⟩
abbrev cX4_childCount : ByteArray := prog_6_method_6_code
def yX4_childCount : MethodName := ⟨RX4, "childCount", "(I)I"⟩
abbrev cX4_countAt : ByteArray := prog_6_method_7_code
def yX4_countAt : MethodName := ⟨RX4, "countAt", "(I)I"⟩
abbrev cX4_firstWrong : ByteArray := prog_6_method_8_code
def yX4_firstWrong : MethodName := ⟨RX4, "firstWrong", "(I)I"⟩
abbrev cX4_exists : ByteArray := prog_6_method_9_code
def yX4_exists : MethodName := ⟨RX4, "exists", "(I)Z"⟩
abbrev cX4_isWrong : ByteArray := prog_6_method_10_code
def yX4_isWrong : MethodName := ⟨RX4, "isWrong", "(I)Z"⟩
abbrev cX4_unfold : ByteArray := prog_6_method_11_code
def yX4_unfold : MethodName := ⟨RX4, "unfold", "(LRecursionSchemes$Tree;III)V"⟩
abbrev cX4_evaluate : ByteArray := prog_6_method_12_code
def yX4_evaluate : MethodName := ⟨RX4, "evaluate", "(LRecursionSchemes$Term;)I"⟩
abbrev cX4_runAutomaton : ByteArray := prog_6_method_13_code
def yX4_runAutomaton : MethodName := ⟨RX4, "runAutomaton", "()V"⟩
def RX5 : String := "RecursionSchemes$TypeCheck"
def TX5 : u_T := fun k => match k with
  | 0 => ("RecursionSchemes$TypeCheck", "scheme", "LRecursionSchemes$Scheme;", true)
  | 1 => ("RecursionSchemes$TypeCheck", "types", "[[B", true)
  | 2 => ("RecursionSchemes$TypeCheck", "justified", "[[B", true)
  | 3 => ("RecursionSchemes$TypeCheck", "stack", "[I", true)
  | 4 => ("RecursionSchemes$TypeCheck", "roundsMade", "I", false)
  | _ => ("RecursionSchemes$TypeCheck", "seenEdits", "I", false)
def tyX5 : Nat → FieldType := fun k => match k with
  | 0 => .object "RecursionSchemes$Scheme"
  | 1 => .array (.array .byte)
  | 2 => .array (.array .byte)
  | 3 => .array .int
  | 4 => .int
  | _ => .int
abbrev wsX50 : List Cond := u_ws RX5 TX5 6
theorem nmX5 : ∀ a, a < 6 → ∀ b, b < 6 → a ≠ b → (TX5 a).2.1 ≠ (TX5 b).2.1 := by decide +kernel
theorem tyX5_ok : ∀ k, k < 6 → parseFieldDescriptor (TX5 k).2.2.1 = some (tyX5 k) := by decide +kernel
abbrev cX5_init : ByteArray := prog_7_method_1_code
def yX5_init : MethodName := ⟨RX5, "<init>", "(LRecursionSchemes$Scheme;)V"⟩
abbrev cX5_upToDate : ByteArray := prog_7_method_2_code
def yX5_upToDate : MethodName := ⟨RX5, "upToDate", "()LRecursionSchemes$TypeCheck;"⟩
abbrev cX5_acceptance : ByteArray := prog_7_method_3_code
def yX5_acceptance : MethodName := ⟨RX5, "acceptance", "()I"⟩
abbrev cX5_roundCount : ByteArray := prog_7_method_4_code
def yX5_roundCount : MethodName := ⟨RX5, "roundCount", "()I"⟩
abbrev cX5_holds : ByteArray := prog_7_method_5_code
def yX5_holds : MethodName := ⟨RX5, "holds", "(III)Z"⟩
abbrev cX5_validCount : ByteArray := prog_7_method_6_code
def yX5_validCount : MethodName := ⟨RX5, "validCount", "(I)I"⟩
abbrev cX5_commonSet : ByteArray := prog_7_method_7_code
def yX5_commonSet : MethodName := ⟨RX5, "commonSet", "(III)I"⟩
abbrev cX5_settingsOf : ByteArray := prog_7_method_8_code
def yX5_settingsOf : MethodName := ⟨RX5, "settingsOf", "(I)I"⟩
abbrev cX5_start : ByteArray := prog_7_method_9_code
def yX5_start : MethodName := ⟨RX5, "start", "()V"⟩
abbrev cX5_terminalTypes : ByteArray := prog_7_method_10_code
def yX5_terminalTypes : MethodName := ⟨RX5, "terminalTypes", "(II)I"⟩
abbrev cX5_removeUnjustified : ByteArray := prog_7_method_11_code
def yX5_removeUnjustified : MethodName := ⟨RX5, "removeUnjustified", "()Z"⟩
abbrev cX5_bodyTypes : ByteArray := prog_7_method_12_code
def yX5_bodyTypes : MethodName := ⟨RX5, "bodyTypes", "(LRecursionSchemes$Term;I)I"⟩
abbrev cX5_symbolTypes : ByteArray := prog_7_method_13_code
def yX5_symbolTypes : MethodName := ⟨RX5, "symbolTypes", "(III)I"⟩
def RX6 : String := "RecursionSchemes"
def TX6 : u_T := fun k => match k with
  | 0 => ("RecursionSchemes", "text", "LRecursionSchemes$Text;", true)
  | 1 => ("RecursionSchemes", "scheme", "LRecursionSchemes$Scheme;", true)
  | 2 => ("RecursionSchemes", "tree", "LRecursionSchemes$Tree;", true)
  | 3 => ("RecursionSchemes", "types", "LRecursionSchemes$TypeCheck;", true)
  | 4 => ("RecursionSchemes", "history", "LRecursionSchemes$History;", true)
  | 5 => ("RecursionSchemes", "slots", "[LRecursionSchemes$Scheme;", true)
  | 6 => ("RecursionSchemes", "filled", "[Z", true)
  | 7 => ("RecursionSchemes", "draft", "LRecursionSchemes$Scheme;", true)
  | 8 => ("RecursionSchemes", "draftBody", "LRecursionSchemes$Term;", true)
  | 9 => ("RecursionSchemes", "copy", "LRecursionSchemes$Scheme;", true)
  | _ => ("RecursionSchemes", "copyTypes", "LRecursionSchemes$TypeCheck;", true)
def tyX6 : Nat → FieldType := fun k => match k with
  | 0 => .object "RecursionSchemes$Text"
  | 1 => .object "RecursionSchemes$Scheme"
  | 2 => .object "RecursionSchemes$Tree"
  | 3 => .object "RecursionSchemes$TypeCheck"
  | 4 => .object "RecursionSchemes$History"
  | 5 => .array (.object "RecursionSchemes$Scheme")
  | 6 => .array .boolean
  | 7 => .object "RecursionSchemes$Scheme"
  | 8 => .object "RecursionSchemes$Term"
  | 9 => .object "RecursionSchemes$Scheme"
  | _ => .object "RecursionSchemes$TypeCheck"
abbrev wsX60 : List Cond := u_ws RX6 TX6 11
theorem nmX6 : ∀ a, a < 11 → ∀ b, b < 11 → a ≠ b → (TX6 a).2.1 ≠ (TX6 b).2.1 := by decide +kernel
theorem tyX6_ok : ∀ k, k < 11 → parseFieldDescriptor (TX6 k).2.2.1 = some (tyX6 k) := by decide +kernel
abbrev cX6_init : ByteArray := prog_1_method_1_code
def yX6_init : MethodName := ⟨RX6, "<init>", "()V"⟩
abbrev cX6_append : ByteArray := prog_1_method_2_code
def yX6_append : MethodName := ⟨RX6, "append", "(I)I"⟩
abbrev cX6_clearText : ByteArray := prog_1_method_3_code
def yX6_clearText : MethodName := ⟨RX6, "clearText", "()I"⟩
abbrev cX6_errorPosition : ByteArray := prog_1_method_4_code
def yX6_errorPosition : MethodName := ⟨RX6, "errorPosition", "()I"⟩
abbrev cX6_load : ByteArray := prog_1_method_5_code
def yX6_load : MethodName := ⟨RX6, "load", "()I"⟩
abbrev cX6_bodyLength : ByteArray := prog_1_method_6_code
def yX6_bodyLength : MethodName := ⟨RX6, "bodyLength", "(I)I"⟩
abbrev cX6_bodySymbol : ByteArray := prog_1_method_7_code
def yX6_bodySymbol : MethodName := ⟨RX6, "bodySymbol", "(II)I"⟩
abbrev cX6_transition : ByteArray := prog_1_method_8_code
def yX6_transition : MethodName := ⟨RX6, "transition", "(III)I"⟩
abbrev cX6_hasTransition : ByteArray := prog_1_method_9_code
def yX6_hasTransition : MethodName := ⟨RX6, "hasTransition", "(II)I"⟩
abbrev cX6_reachable : ByteArray := prog_1_method_10_code
def yX6_reachable : MethodName := ⟨RX6, "reachable", "()I"⟩
abbrev cX6_setBody : ByteArray := prog_1_method_11_code
def yX6_setBody : MethodName := ⟨RX6, "setBody", "(I)I"⟩
abbrev cX6_setTransition : ByteArray := prog_1_method_12_code
def yX6_setTransition : MethodName := ⟨RX6, "setTransition", "(IIII)I"⟩
abbrev cX6_removeTransition : ByteArray := prog_1_method_13_code
def yX6_removeTransition : MethodName := ⟨RX6, "removeTransition", "(II)I"⟩
abbrev cX6_inline : ByteArray := prog_1_method_14_code
def yX6_inline : MethodName := ⟨RX6, "inline", "(II)I"⟩
abbrev cX6_exchange : ByteArray := prog_1_method_15_code
def yX6_exchange : MethodName := ⟨RX6, "exchange", "()I"⟩
abbrev cX6_undo : ByteArray := prog_1_method_16_code
def yX6_undo : MethodName := ⟨RX6, "undo", "()I"⟩
abbrev cX6_labelAt : ByteArray := prog_1_method_17_code
def yX6_labelAt : MethodName := ⟨RX6, "labelAt", "(I)I"⟩
abbrev cX6_expansionsAt : ByteArray := prog_1_method_18_code
def yX6_expansionsAt : MethodName := ⟨RX6, "expansionsAt", "(I)I"⟩
abbrev cX6_stateAt : ByteArray := prog_1_method_19_code
def yX6_stateAt : MethodName := ⟨RX6, "stateAt", "(I)I"⟩
abbrev cX6_nodesAtDepth : ByteArray := prog_1_method_20_code
def yX6_nodesAtDepth : MethodName := ⟨RX6, "nodesAtDepth", "(I)I"⟩
abbrev cX6_wrongBranch : ByteArray := prog_1_method_21_code
def yX6_wrongBranch : MethodName := ⟨RX6, "wrongBranch", "(I)I"⟩
abbrev cX6_accepts : ByteArray := prog_1_method_22_code
def yX6_accepts : MethodName := ⟨RX6, "accepts", "()I"⟩
abbrev cX6_rounds : ByteArray := prog_1_method_23_code
def yX6_rounds : MethodName := ⟨RX6, "rounds", "()I"⟩
abbrev cX6_typingCount : ByteArray := prog_1_method_24_code
def yX6_typingCount : MethodName := ⟨RX6, "typingCount", "(I)I"⟩
abbrev cX6_isValid : ByteArray := prog_1_method_25_code
def yX6_isValid : MethodName := ⟨RX6, "isValid", "(IIII)I"⟩
abbrev cX6_demand : ByteArray := prog_1_method_26_code
def yX6_demand : MethodName := ⟨RX6, "demand", "(III)I"⟩
abbrev cX6_runScript : ByteArray := prog_1_method_27_code
def yX6_runScript : MethodName := ⟨RX6, "runScript", "(IJ)I"⟩
abbrev cX6_descend : ByteArray := prog_1_method_28_code
def yX6_descend : MethodName := ⟨RX6, "descend", "(JI)I"⟩
abbrev cX6_save : ByteArray := prog_1_method_29_code
def yX6_save : MethodName := ⟨RX6, "save", "(I)I"⟩
abbrev cX6_restore : ByteArray := prog_1_method_30_code
def yX6_restore : MethodName := ⟨RX6, "restore", "(I)I"⟩
abbrev cX6_withoutLastGroups : ByteArray := prog_1_method_31_code
def yX6_withoutLastGroups : MethodName := ⟨RX6, "withoutLastGroups", "(JI)J"⟩
abbrev cX6_commandSucceeds : ByteArray := prog_1_method_32_code
def yX6_commandSucceeds : MethodName := ⟨RX6, "commandSucceeds", "(I)Z"⟩
abbrev cX6_removeFromCopy : ByteArray := prog_1_method_33_code
def yX6_removeFromCopy : MethodName := ⟨RX6, "removeFromCopy", "(II)Z"⟩
abbrev cX6_setBInCopy : ByteArray := prog_1_method_34_code
def yX6_setBInCopy : MethodName := ⟨RX6, "setBInCopy", "(II)Z"⟩
abbrev cX6_isNonterminal : ByteArray := prog_1_method_35_code
def yX6_isNonterminal : MethodName := ⟨RX6, "isNonterminal", "(I)Z"⟩
abbrev cX6_isTerminal : ByteArray := prog_1_method_36_code
def yX6_isTerminal : MethodName := ⟨RX6, "isTerminal", "(I)Z"⟩
abbrev cX6_isState : ByteArray := prog_1_method_37_code
def yX6_isState : MethodName := ⟨RX6, "isState", "(I)Z"⟩
abbrev cX6_isDepth : ByteArray := prog_1_method_38_code
def yX6_isDepth : MethodName := ⟨RX6, "isDepth", "(I)Z"⟩
abbrev cX6_suitsChild : ByteArray := prog_1_method_39_code
def yX6_suitsChild : MethodName := ⟨RX6, "suitsChild", "(III)Z"⟩
abbrev cX6_suitsParameter : ByteArray := prog_1_method_40_code
def yX6_suitsParameter : MethodName := ⟨RX6, "suitsParameter", "(III)Z"⟩
abbrev cX6_arityOf : ByteArray := prog_1_method_41_code
def yX6_arityOf : MethodName := ⟨RX6, "arityOf", "(I)I"⟩
abbrev cX6_arityOfNonterminal : ByteArray := prog_1_method_42_code
def yX6_arityOfNonterminal : MethodName := ⟨RX6, "arityOfNonterminal", "(I)I"⟩
abbrev cX6_codeOf : ByteArray := prog_1_method_43_code
def yX6_codeOf : MethodName := ⟨RX6, "codeOf", "(I)I"⟩
abbrev cX6_setsOf : ByteArray := prog_1_method_44_code
def yX6_setsOf : MethodName := ⟨RX6, "setsOf", "(II)I"⟩
abbrev cX6_firstOf : ByteArray := prog_1_method_45_code
def yX6_firstOf : MethodName := ⟨RX6, "firstOf", "(I)I"⟩
abbrev cX6_secondOf : ByteArray := prog_1_method_46_code
def yX6_secondOf : MethodName := ⟨RX6, "secondOf", "(I)I"⟩
abbrev cX6_childOf : ByteArray := prog_1_method_47_code
def yX6_childOf : MethodName := ⟨RX6, "childOf", "(II)I"⟩
abbrev cX6_nodeOf : ByteArray := prog_1_method_48_code
def yX6_nodeOf : MethodName := ⟨RX6, "nodeOf", "(I)I"⟩
abbrev cX6_pathOf : ByteArray := prog_1_method_49_code
def yX6_pathOf : MethodName := ⟨RX6, "pathOf", "(I)I"⟩
def RX7 : String := "RecursionSchemesModel"
def TX7 : u_T := fun k => match k with
  | 0 => ("RecursionSchemesModel", "text", "[I", true)
  | 1 => ("RecursionSchemesModel", "length", "I", false)
  | 2 => ("RecursionSchemesModel", "now", "[I", true)
  | 3 => ("RecursionSchemesModel", "trial", "[I", true)
  | 4 => ("RecursionSchemesModel", "read", "[I", true)
  | 5 => ("RecursionSchemesModel", "diary", "[I", true)
  | 6 => ("RecursionSchemesModel", "acts", "I", false)
  | 7 => ("RecursionSchemesModel", "next", "I", false)
  | 8 => ("RecursionSchemesModel", "kept", "[I", true)
  | 9 => ("RecursionSchemesModel", "isKept", "[Z", true)
  | 10 => ("RecursionSchemesModel", "term", "[I", true)
  | 11 => ("RecursionSchemesModel", "termSize", "I", false)
  | 12 => ("RecursionSchemesModel", "built", "[I", true)
  | 13 => ("RecursionSchemesModel", "builtSize", "I", false)
  | 14 => ("RecursionSchemesModel", "label", "I", false)
  | 15 => ("RecursionSchemesModel", "expansions", "I", false)
  | 16 => ("RecursionSchemesModel", "state", "I", false)
  | 17 => ("RecursionSchemesModel", "valid", "[Z", true)
  | 18 => ("RecursionSchemesModel", "justified", "[Z", true)
  | _ => ("RecursionSchemesModel", "mask", "[I", true)
def tyX7 : Nat → FieldType := fun k => match k with
  | 0 => .array .int
  | 1 => .int
  | 2 => .array .int
  | 3 => .array .int
  | 4 => .array .int
  | 5 => .array .int
  | 6 => .int
  | 7 => .int
  | 8 => .array .int
  | 9 => .array .boolean
  | 10 => .array .int
  | 11 => .int
  | 12 => .array .int
  | 13 => .int
  | 14 => .int
  | 15 => .int
  | 16 => .int
  | 17 => .array .boolean
  | 18 => .array .boolean
  | _ => .array .int
abbrev wsX70 : List Cond := u_ws RX7 TX7 20
theorem nmX7 : ∀ a, a < 20 → ∀ b, b < 20 → a ≠ b → (TX7 a).2.1 ≠ (TX7 b).2.1 := by decide +kernel
theorem tyX7_ok : ∀ k, k < 20 → parseFieldDescriptor (TX7 k).2.2.1 = some (tyX7 k) := by decide +kernel
abbrev cX7_init : ByteArray := prog_9_method_1_code
def yX7_init : MethodName := ⟨RX7, "<init>", "()V"⟩
abbrev cX7_clear : ByteArray := prog_9_method_3_code
def yX7_clear : MethodName := ⟨RX7, "clear", "([I)V"⟩
abbrev cX7_copy : ByteArray := prog_9_method_4_code
def yX7_copy : MethodName := ⟨RX7, "copy", "([I[I)V"⟩
abbrev cX7_in : ByteArray := prog_9_method_5_code
def yX7_in : MethodName := ⟨RX7, "in", "(JJJ)Z"⟩
abbrev cX7_nonterminal : ByteArray := prog_9_method_6_code
def yX7_nonterminal : MethodName := ⟨RX7, "nonterminal", "(I)I"⟩
abbrev cX7_terminal : ByteArray := prog_9_method_7_code
def yX7_terminal : MethodName := ⟨RX7, "terminal", "(I)I"⟩
abbrev cX7_places : ByteArray := prog_9_method_8_code
def yX7_places : MethodName := ⟨RX7, "places", "(I)I"⟩
abbrev cX7_parameters : ByteArray := prog_9_method_9_code
def yX7_parameters : MethodName := ⟨RX7, "parameters", "(I)I"⟩
abbrev cX7_wants : ByteArray := prog_9_method_10_code
def yX7_wants : MethodName := ⟨RX7, "wants", "(I)I"⟩
abbrev cX7_isAllowed : ByteArray := prog_9_method_11_code
def yX7_isAllowed : MethodName := ⟨RX7, "isAllowed", "(II)Z"⟩
abbrev cX7_endOf : ByteArray := prog_9_method_12_code
def yX7_endOf : MethodName := ⟨RX7, "endOf", "([II)I"⟩
abbrev cX7_append : ByteArray := prog_9_method_13_code
def yX7_append : MethodName := ⟨RX7, "append", "(I)I"⟩
abbrev cX7_clearText : ByteArray := prog_9_method_14_code
def yX7_clearText : MethodName := ⟨RX7, "clearText", "()I"⟩
abbrev cX7_readBody : ByteArray := prog_9_method_15_code
def yX7_readBody : MethodName := ⟨RX7, "readBody", "(II)I"⟩
abbrev cX7_readStep : ByteArray := prog_9_method_16_code
def yX7_readStep : MethodName := ⟨RX7, "readStep", "(I)I"⟩
abbrev cX7_readItem : ByteArray := prog_9_method_17_code
def yX7_readItem : MethodName := ⟨RX7, "readItem", "(I)I"⟩
abbrev cX7_readText : ByteArray := prog_9_method_18_code
def yX7_readText : MethodName := ⟨RX7, "readText", "()I"⟩
abbrev cX7_errorPosition : ByteArray := prog_9_method_19_code
def yX7_errorPosition : MethodName := ⟨RX7, "errorPosition", "()I"⟩
abbrev cX7_stepsOf : ByteArray := prog_9_method_20_code
def yX7_stepsOf : MethodName := ⟨RX7, "stepsOf", "([I)I"⟩
abbrev cX7_load : ByteArray := prog_9_method_21_code
def yX7_load : MethodName := ⟨RX7, "load", "()I"⟩
abbrev cX7_isNonterminal : ByteArray := prog_9_method_22_code
def yX7_isNonterminal : MethodName := ⟨RX7, "isNonterminal", "(I)Z"⟩
abbrev cX7_isPair : ByteArray := prog_9_method_23_code
def yX7_isPair : MethodName := ⟨RX7, "isPair", "(II)Z"⟩
abbrev cX7_stepAt : ByteArray := prog_9_method_24_code
def yX7_stepAt : MethodName := ⟨RX7, "stepAt", "(II)I"⟩
abbrev cX7_bodyLength : ByteArray := prog_9_method_25_code
def yX7_bodyLength : MethodName := ⟨RX7, "bodyLength", "(I)I"⟩
abbrev cX7_bodySymbol : ByteArray := prog_9_method_26_code
def yX7_bodySymbol : MethodName := ⟨RX7, "bodySymbol", "(II)I"⟩
abbrev cX7_transition : ByteArray := prog_9_method_27_code
def yX7_transition : MethodName := ⟨RX7, "transition", "(III)I"⟩
abbrev cX7_hasTransition : ByteArray := prog_9_method_28_code
def yX7_hasTransition : MethodName := ⟨RX7, "hasTransition", "(II)I"⟩
abbrev cX7_reachable : ByteArray := prog_9_method_29_code
def yX7_reachable : MethodName := ⟨RX7, "reachable", "()I"⟩
abbrev cX7_note : ByteArray := prog_9_method_30_code
def yX7_note : MethodName := ⟨RX7, "note", "()V"⟩
abbrev cX7_tidy : ByteArray := prog_9_method_31_code
def yX7_tidy : MethodName := ⟨RX7, "tidy", "([II)V"⟩
abbrev cX7_setBody : ByteArray := prog_9_method_32_code
def yX7_setBody : MethodName := ⟨RX7, "setBody", "(I)I"⟩
abbrev cX7_setTransition : ByteArray := prog_9_method_33_code
def yX7_setTransition : MethodName := ⟨RX7, "setTransition", "(IIII)I"⟩
abbrev cX7_removeTransition : ByteArray := prog_9_method_34_code
def yX7_removeTransition : MethodName := ⟨RX7, "removeTransition", "(II)I"⟩
abbrev cX7_put : ByteArray := prog_9_method_35_code
def yX7_put : MethodName := ⟨RX7, "put", "(I)V"⟩
abbrev cX7_putPart : ByteArray := prog_9_method_36_code
def yX7_putPart : MethodName := ⟨RX7, "putPart", "([III)V"⟩
abbrev cX7_putExpanded : ByteArray := prog_9_method_37_code
def yX7_putExpanded : MethodName := ⟨RX7, "putExpanded", "([I[II)I"⟩
abbrev cX7_inline : ByteArray := prog_9_method_38_code
def yX7_inline : MethodName := ⟨RX7, "inline", "(II)I"⟩
abbrev cX7_exchange : ByteArray := prog_9_method_39_code
def yX7_exchange : MethodName := ⟨RX7, "exchange", "()I"⟩
abbrev cX7_undo : ByteArray := prog_9_method_40_code
def yX7_undo : MethodName := ⟨RX7, "undo", "()I"⟩
abbrev cX7_evaluate : ByteArray := prog_9_method_41_code
def yX7_evaluate : MethodName := ⟨RX7, "evaluate", "([I)V"⟩
abbrev cX7_childrenOf : ByteArray := prog_9_method_42_code
def yX7_childrenOf : MethodName := ⟨RX7, "childrenOf", "(I)I"⟩
abbrev cX7_beginWalk : ByteArray := prog_9_method_43_code
def yX7_beginWalk : MethodName := ⟨RX7, "beginWalk", "([I)V"⟩
abbrev cX7_goDown : ByteArray := prog_9_method_44_code
def yX7_goDown : MethodName := ⟨RX7, "goDown", "([II)Z"⟩
abbrev cX7_tens : ByteArray := prog_9_method_45_code
def yX7_tens : MethodName := ⟨RX7, "tens", "(I)I"⟩
abbrev cX7_stepsOfPath : ByteArray := prog_9_method_46_code
def yX7_stepsOfPath : MethodName := ⟨RX7, "stepsOfPath", "(I)I"⟩
abbrev cX7_walk : ByteArray := prog_9_method_47_code
def yX7_walk : MethodName := ⟨RX7, "walk", "([III)Z"⟩
abbrev cX7_labelAt : ByteArray := prog_9_method_48_code
def yX7_labelAt : MethodName := ⟨RX7, "labelAt", "(I)I"⟩
abbrev cX7_expansionsAt : ByteArray := prog_9_method_49_code
def yX7_expansionsAt : MethodName := ⟨RX7, "expansionsAt", "(I)I"⟩
abbrev cX7_stateAt : ByteArray := prog_9_method_50_code
def yX7_stateAt : MethodName := ⟨RX7, "stateAt", "(I)I"⟩
abbrev cX7_pathOf : ByteArray := prog_9_method_51_code
def yX7_pathOf : MethodName := ⟨RX7, "pathOf", "(II)I"⟩
abbrev cX7_nodesOf : ByteArray := prog_9_method_52_code
def yX7_nodesOf : MethodName := ⟨RX7, "nodesOf", "([II)I"⟩
abbrev cX7_nodesAtDepth : ByteArray := prog_9_method_53_code
def yX7_nodesAtDepth : MethodName := ⟨RX7, "nodesAtDepth", "(I)I"⟩
abbrev cX7_wrongBranch : ByteArray := prog_9_method_54_code
def yX7_wrongBranch : MethodName := ⟨RX7, "wrongBranch", "(I)I"⟩
abbrev cX7_typingAt : ByteArray := prog_9_method_55_code
def yX7_typingAt : MethodName := ⟨RX7, "typingAt", "(IIII)I"⟩
abbrev cX7_appliedTypes : ByteArray := prog_9_method_56_code
def yX7_appliedTypes : MethodName := ⟨RX7, "appliedTypes", "(III)I"⟩
abbrev cX7_terminalTypes : ByteArray := prog_9_method_57_code
def yX7_terminalTypes : MethodName := ⟨RX7, "terminalTypes", "([IIII)I"⟩
abbrev cX7_bodyTypes : ByteArray := prog_9_method_58_code
def yX7_bodyTypes : MethodName := ⟨RX7, "bodyTypes", "([IIII)I"⟩
abbrev cX7_isRoundLess : ByteArray := prog_9_method_59_code
def yX7_isRoundLess : MethodName := ⟨RX7, "isRoundLess", "([I)Z"⟩
abbrev cX7_check : ByteArray := prog_9_method_60_code
def yX7_check : MethodName := ⟨RX7, "check", "([I)I"⟩
abbrev cX7_isAccepted : ByteArray := prog_9_method_61_code
def yX7_isAccepted : MethodName := ⟨RX7, "isAccepted", "([I)Z"⟩
abbrev cX7_accepts : ByteArray := prog_9_method_62_code
def yX7_accepts : MethodName := ⟨RX7, "accepts", "()I"⟩
abbrev cX7_rounds : ByteArray := prog_9_method_63_code
def yX7_rounds : MethodName := ⟨RX7, "rounds", "()I"⟩
abbrev cX7_typingsOf : ByteArray := prog_9_method_64_code
def yX7_typingsOf : MethodName := ⟨RX7, "typingsOf", "([II)I"⟩
abbrev cX7_typingCount : ByteArray := prog_9_method_65_code
def yX7_typingCount : MethodName := ⟨RX7, "typingCount", "(I)I"⟩
abbrev cX7_isValid : ByteArray := prog_9_method_66_code
def yX7_isValid : MethodName := ⟨RX7, "isValid", "(IIII)I"⟩
abbrev cX7_demand : ByteArray := prog_9_method_67_code
def yX7_demand : MethodName := ⟨RX7, "demand", "(III)I"⟩
abbrev cX7_command : ByteArray := prog_9_method_68_code
def yX7_command : MethodName := ⟨RX7, "command", "(IIII)Z"⟩
abbrev cX7_tenThousands : ByteArray := prog_9_method_69_code
def yX7_tenThousands : MethodName := ⟨RX7, "tenThousands", "(I)J"⟩
abbrev cX7_runScript : ByteArray := prog_9_method_70_code
def yX7_runScript : MethodName := ⟨RX7, "runScript", "(IJ)I"⟩
abbrev cX7_descend : ByteArray := prog_9_method_71_code
def yX7_descend : MethodName := ⟨RX7, "descend", "(JI)I"⟩
abbrev cX7_save : ByteArray := prog_9_method_72_code
def yX7_save : MethodName := ⟨RX7, "save", "(I)I"⟩
abbrev cX7_restore : ByteArray := prog_9_method_73_code
def yX7_restore : MethodName := ⟨RX7, "restore", "(I)I"⟩
def RJx145de : String := "java/io/Serializable"
def TJx145de : u_T := fun k => match k with
  | _ => ("", "", "", false)
def tyJx145de : Nat → FieldType := fun k => match k with
  | _ => .int
abbrev wsJx145de0 : List Cond := u_ws RJx145de TJx145de 0
theorem nmJx145de : ∀ a, a < 0 → ∀ b, b < 0 → a ≠ b → (TJx145de a).2.1 ≠ (TJx145de b).2.1 := by decide +kernel
theorem tyJx145de_ok : ∀ k, k < 0 → parseFieldDescriptor (TJx145de k).2.2.1 = some (tyJx145de k) := by decide +kernel
def RJx9f9b0 : String := "java/lang/CharSequence"
def TJx9f9b0 : u_T := fun k => match k with
  | _ => ("", "", "", false)
def tyJx9f9b0 : Nat → FieldType := fun k => match k with
  | _ => .int
abbrev wsJx9f9b00 : List Cond := u_ws RJx9f9b0 TJx9f9b0 0
theorem nmJx9f9b0 : ∀ a, a < 0 → ∀ b, b < 0 → a ≠ b → (TJx9f9b0 a).2.1 ≠ (TJx9f9b0 b).2.1 := by decide +kernel
theorem tyJx9f9b0_ok : ∀ k, k < 0 → parseFieldDescriptor (TJx9f9b0 k).2.2.1 = some (tyJx9f9b0 k) := by decide +kernel
def RJ11 : String := "java/lang/Character"
def TJ11 : u_T := fun k => match k with
  | _ => ("", "", "", false)
def tyJ11 : Nat → FieldType := fun k => match k with
  | _ => .int
abbrev wsJ110 : List Cond := u_ws RJ11 TJ11 0
theorem nmJ11 : ∀ a, a < 0 → ∀ b, b < 0 → a ≠ b → (TJ11 a).2.1 ≠ (TJ11 b).2.1 := by decide +kernel
theorem tyJ11_ok : ∀ k, k < 0 → parseFieldDescriptor (TJ11 k).2.2.1 = some (tyJ11 k) := by decide +kernel
abbrev cJ11_isValidCodePoint_9a6ad : ByteArray := prog_10_method_11_code
def yJ11_isValidCodePoint_9a6ad : MethodName := ⟨RJ11, "isValidCodePoint", "(I)Z"⟩
abbrev cJ11_highSurrogate_5068e : ByteArray := prog_10_method_28_code
def yJ11_highSurrogate_5068e : MethodName := ⟨RJ11, "highSurrogate", "(I)C"⟩
abbrev cJ11_lowSurrogate_5068e : ByteArray := prog_10_method_29_code
def yJ11_lowSurrogate_5068e : MethodName := ⟨RJ11, "lowSurrogate", "(I)C"⟩
def RJxb160c : String := "java/lang/Comparable"
def TJxb160c : u_T := fun k => match k with
  | _ => ("", "", "", false)
def tyJxb160c : Nat → FieldType := fun k => match k with
  | _ => .int
abbrev wsJxb160c0 : List Cond := u_ws RJxb160c TJxb160c 0
theorem nmJxb160c : ∀ a, a < 0 → ∀ b, b < 0 → a ≠ b → (TJxb160c a).2.1 ≠ (TJxb160c b).2.1 := by decide +kernel
theorem tyJxb160c_ok : ∀ k, k < 0 → parseFieldDescriptor (TJxb160c k).2.2.1 = some (tyJxb160c k) := by decide +kernel
def RJ6 : String := "java/lang/Integer"
def TJ6 : u_T := fun k => match k with
  | _ => ("", "", "", false)
def tyJ6 : Nat → FieldType := fun k => match k with
  | _ => .int
abbrev wsJ60 : List Cond := u_ws RJ6 TJ6 0
theorem nmJ6 : ∀ a, a < 0 → ∀ b, b < 0 → a ≠ b → (TJ6 a).2.1 ≠ (TJ6 b).2.1 := by decide +kernel
theorem tyJ6_ok : ∀ k, k < 0 → parseFieldDescriptor (TJ6 k).2.2.1 = some (tyJ6 k) := by decide +kernel
abbrev cJ6_bitCount_0f7a4 : ByteArray := prog_11_method_49_code
def yJ6_bitCount_0f7a4 : MethodName := ⟨RJ6, "bitCount", "(I)I"⟩
def RJ9 : String := "java/lang/Math"
def TJ9 : u_T := fun k => match k with
  | _ => ("", "", "", false)
def tyJ9 : Nat → FieldType := fun k => match k with
  | _ => .int
abbrev wsJ90 : List Cond := u_ws RJ9 TJ9 0
theorem nmJ9 : ∀ a, a < 0 → ∀ b, b < 0 → a ≠ b → (TJ9 a).2.1 ≠ (TJ9 b).2.1 := by decide +kernel
theorem tyJ9_ok : ∀ k, k < 0 → parseFieldDescriptor (TJ9 k).2.2.1 = some (tyJ9 k) := by decide +kernel
abbrev cJ9_max_7cf53 : ByteArray := prog_12_method_65_code
def yJ9_max_7cf53 : MethodName := ⟨RJ9, "max", "(II)I"⟩
abbrev cJ9_min_7cf53 : ByteArray := prog_12_method_69_code
def yJ9_min_7cf53 : MethodName := ⟨RJ9, "min", "(II)I"⟩
def RJ0 : String := "java/lang/String"
def TJ0 : u_T := fun k => match k with
  | _ => ("", "", "", false)
def tyJ0 : Nat → FieldType := fun k => match k with
  | _ => .int
abbrev wsJ00 : List Cond := u_ws RJ0 TJ0 0
theorem nmJ0 : ∀ a, a < 0 → ∀ b, b < 0 → a ≠ b → (TJ0 a).2.1 ≠ (TJ0 b).2.1 := by decide +kernel
theorem tyJ0_ok : ∀ k, k < 0 → parseFieldDescriptor (TJ0 k).2.2.1 = some (tyJ0 k) := by decide +kernel
abbrev cJ0_length_8abf5 : ByteArray := prog_13_method_54_code
def yJ0_length_8abf5 : MethodName := ⟨RJ0, "length", "()I"⟩
abbrev cJ0_charAt_5068e : ByteArray := prog_13_method_56_code
def yJ0_charAt_5068e : MethodName := ⟨RJ0, "charAt", "(I)C"⟩
abbrev cJ0_indexOf_0f7a4 : ByteArray := prog_13_method_79_code
def yJ0_indexOf_0f7a4 : MethodName := ⟨RJ0, "indexOf", "(I)I"⟩
abbrev cJ0_indexOf_7cf53 : ByteArray := prog_13_method_80_code
def yJ0_indexOf_7cf53 : MethodName := ⟨RJ0, "indexOf", "(II)I"⟩
abbrev cJ0_coder_7d493 : ByteArray := prog_13_method_152_code
def yJ0_coder_7d493 : MethodName := ⟨RJ0, "coder", "()B"⟩
abbrev cJ0_isLatin1_aae02 : ByteArray := prog_13_method_154_code
def yJ0_isLatin1_aae02 : MethodName := ⟨RJ0, "isLatin1", "()Z"⟩
abbrev cJ0_checkIndex_df160 : ByteArray := prog_13_method_155_code
def yJ0_checkIndex_df160 : MethodName := ⟨RJ0, "checkIndex", "(II)V"⟩
abbrev cJ0_checkBoundsBeginEnd_23922 : ByteArray := prog_13_method_158_code
def yJ0_checkBoundsBeginEnd_23922 : MethodName := ⟨RJ0, "checkBoundsBeginEnd", "(III)V"⟩
def RJ1 : String := "java/lang/StringLatin1"
def TJ1 : u_T := fun k => match k with
  | _ => ("", "", "", false)
def tyJ1 : Nat → FieldType := fun k => match k with
  | _ => .int
abbrev wsJ10 : List Cond := u_ws RJ1 TJ1 0
theorem nmJ1 : ∀ a, a < 0 → ∀ b, b < 0 → a ≠ b → (TJ1 a).2.1 ≠ (TJ1 b).2.1 := by decide +kernel
theorem tyJ1_ok : ∀ k, k < 0 → parseFieldDescriptor (TJ1 k).2.2.1 = some (tyJ1 k) := by decide +kernel
abbrev cJ1_charAt_3b067 : ByteArray := prog_14_method_2_code
def yJ1_charAt_3b067 : MethodName := ⟨RJ1, "charAt", "([BI)C"⟩
abbrev cJ1_canEncode_9a6ad : ByteArray := prog_14_method_4_code
def yJ1_canEncode_9a6ad : MethodName := ⟨RJ1, "canEncode", "(I)Z"⟩
abbrev cJ1_indexOf_4cfef : ByteArray := prog_14_method_22_code
def yJ1_indexOf_4cfef : MethodName := ⟨RJ1, "indexOf", "([BIII)I"⟩
abbrev cJ1_indexOfChar_4cfef : ByteArray := prog_14_method_23_code
def yJ1_indexOfChar_4cfef : MethodName := ⟨RJ1, "indexOfChar", "([BIII)I"⟩
def RJ2 : String := "java/lang/StringUTF16"
def TJ2 : u_T := fun k => match k with
  | _ => ("", "", "", false)
def tyJ2 : Nat → FieldType := fun k => match k with
  | _ => .int
abbrev wsJ20 : List Cond := u_ws RJ2 TJ2 0
theorem nmJ2 : ∀ a, a < 0 → ∀ b, b < 0 → a ≠ b → (TJ2 a).2.1 ≠ (TJ2 b).2.1 := by decide +kernel
theorem tyJ2_ok : ∀ k, k < 0 → parseFieldDescriptor (TJ2 k).2.2.1 = some (tyJ2 k) := by decide +kernel
abbrev cJ2_getChar_3b067 : ByteArray := prog_15_method_5_code
def yJ2_getChar_3b067 : MethodName := ⟨RJ2, "getChar", "([BI)C"⟩
abbrev cJ2_length_9d52b : ByteArray := prog_15_method_6_code
def yJ2_length_9d52b : MethodName := ⟨RJ2, "length", "([B)I"⟩
abbrev cJ2_indexOf_4cfef : ByteArray := prog_15_method_40_code
def yJ2_indexOf_4cfef : MethodName := ⟨RJ2, "indexOf", "([BIII)I"⟩
abbrev cJ2_indexOfChar_4cfef : ByteArray := prog_15_method_47_code
def yJ2_indexOfChar_4cfef : MethodName := ⟨RJ2, "indexOfChar", "([BIII)I"⟩
abbrev cJ2_indexOfCharUnsafe_4cfef : ByteArray := prog_15_method_48_code
def yJ2_indexOfCharUnsafe_4cfef : MethodName := ⟨RJ2, "indexOfCharUnsafe", "([BIII)I"⟩
abbrev cJ2_indexOfSupplementary_4cfef : ByteArray := prog_15_method_49_code
def yJ2_indexOfSupplementary_4cfef : MethodName := ⟨RJ2, "indexOfSupplementary", "([BIII)I"⟩
abbrev cJ2_charAt_3b067 : ByteArray := prog_15_method_83_code
def yJ2_charAt_3b067 : MethodName := ⟨RJ2, "charAt", "([BI)C"⟩
abbrev cJ2_checkIndex_2214a : ByteArray := prog_15_method_91_code
def yJ2_checkIndex_2214a : MethodName := ⟨RJ2, "checkIndex", "(I[B)V"⟩
abbrev cJ2_checkBoundsBeginEnd_d044e : ByteArray := prog_15_method_93_code
def yJ2_checkBoundsBeginEnd_d044e : MethodName := ⟨RJ2, "checkBoundsBeginEnd", "(II[B)V"⟩
def RJ10 : String := "java/lang/System"
def TJ10 : u_T := fun k => match k with
  | _ => ("", "", "", false)
def tyJ10 : Nat → FieldType := fun k => match k with
  | _ => .int
abbrev wsJ100 : List Cond := u_ws RJ10 TJ10 0
theorem nmJ10 : ∀ a, a < 0 → ∀ b, b < 0 → a ≠ b → (TJ10 a).2.1 ≠ (TJ10 b).2.1 := by decide +kernel
theorem tyJ10_ok : ∀ k, k < 0 → parseFieldDescriptor (TJ10 k).2.2.1 = some (tyJ10 k) := by decide +kernel
def RJxfd54e : String := "java/lang/constant/Constable"
def TJxfd54e : u_T := fun k => match k with
  | _ => ("", "", "", false)
def tyJxfd54e : Nat → FieldType := fun k => match k with
  | _ => .int
abbrev wsJxfd54e0 : List Cond := u_ws RJxfd54e TJxfd54e 0
theorem nmJxfd54e : ∀ a, a < 0 → ∀ b, b < 0 → a ≠ b → (TJxfd54e a).2.1 ≠ (TJxfd54e b).2.1 := by decide +kernel
theorem tyJxfd54e_ok : ∀ k, k < 0 → parseFieldDescriptor (TJxfd54e k).2.2.1 = some (tyJxfd54e k) := by decide +kernel
def RJx3cf43 : String := "java/lang/constant/ConstantDesc"
def TJx3cf43 : u_T := fun k => match k with
  | _ => ("", "", "", false)
def tyJx3cf43 : Nat → FieldType := fun k => match k with
  | _ => .int
abbrev wsJx3cf430 : List Cond := u_ws RJx3cf43 TJx3cf43 0
theorem nmJx3cf43 : ∀ a, a < 0 → ∀ b, b < 0 → a ≠ b → (TJx3cf43 a).2.1 ≠ (TJx3cf43 b).2.1 := by decide +kernel
theorem tyJx3cf43_ok : ∀ k, k < 0 → parseFieldDescriptor (TJx3cf43 k).2.2.1 = some (tyJx3cf43 k) := by decide +kernel
def RJ7 : String := "java/util/Arrays"
def TJ7 : u_T := fun k => match k with
  | _ => ("", "", "", false)
def tyJ7 : Nat → FieldType := fun k => match k with
  | _ => .int
abbrev wsJ70 : List Cond := u_ws RJ7 TJ7 0
theorem nmJ7 : ∀ a, a < 0 → ∀ b, b < 0 → a ≠ b → (TJ7 a).2.1 ≠ (TJ7 b).2.1 := by decide +kernel
theorem tyJ7_ok : ∀ k, k < 0 → parseFieldDescriptor (TJ7 k).2.2.1 = some (tyJ7 k) := by decide +kernel
abbrev cJ7_fill_53178 : ByteArray := prog_17_method_103_code
def yJ7_fill_53178 : MethodName := ⟨RJ7, "fill", "([II)V"⟩
abbrev cJ7_fill_031fb : ByteArray := prog_17_method_109_code
def yJ7_fill_031fb : MethodName := ⟨RJ7, "fill", "([BB)V"⟩
def RJ3 : String := "jdk/internal/util/Preconditions"
def TJ3 : u_T := fun k => match k with
  | _ => ("", "", "", false)
def tyJ3 : Nat → FieldType := fun k => match k with
  | _ => .int
abbrev wsJ30 : List Cond := u_ws RJ3 TJ3 0
theorem nmJ3 : ∀ a, a < 0 → ∀ b, b < 0 → a ≠ b → (TJ3 a).2.1 ≠ (TJ3 b).2.1 := by decide +kernel
theorem tyJ3_ok : ∀ k, k < 0 → parseFieldDescriptor (TJ3 k).2.2.1 = some (tyJ3 k) := by decide +kernel
abbrev cJ3_checkIndex_8e157 : ByteArray := prog_18_method_11_code
def yJ3_checkIndex_8e157 : MethodName := ⟨RJ3, "checkIndex", "(IILjava/util/function/BiFunction;)I"⟩
abbrev cJ3_checkFromToIndex_8c36e : ByteArray := prog_18_method_12_code
def yJ3_checkFromToIndex_8c36e : MethodName := ⟨RJ3, "checkFromToIndex", "(IIILjava/util/function/BiFunction;)I"⟩
def RL : String := "RecursionSchemesLaw"
abbrev cL_law : ByteArray := code
def yL_law : MethodName := ⟨RL, "law", "([I)Z"⟩
end
section
/-! tables: constant pools and methods, by program (wip/whole/gen/tab.py) -/
def tN (o : Nat) : String := match o with
  | 0 => RX0
  | 1 => RX1
  | 2 => RX2
  | 3 => RX3
  | 4 => RX4
  | 5 => RX5
  | 6 => RX6
  | 7 => RX7
  | 8 => RL
  | 9 => RJ0
  | 10 => RJ1
  | 11 => RJ3
  | 12 => RJ6
  | 13 => RJ7
  | _ => RJ9
/-- fields: pool of class o at idx: class ci, slot k, place of the word -/
def tF : List (Nat × Nat × Nat × Nat) := [(30009, 3, 0, 32), (30015, 3, 1, 33), (30019, 3, 2, 34), (20015, 2, 0, 59), (20021, 2, 1, 60), (10011, 1, 0, 82), (10020, 1, 1, 83), (10024, 1, 2, 84), (10027, 1, 3, 85), (40009, 4, 0, 103), (40017, 4, 1, 104), (40024, 4, 2, 105), (40028, 4, 3, 106), (40032, 4, 4, 107), (40035, 4, 5, 108), (40038, 4, 6, 109), (50009, 5, 0, 133), (50017, 5, 1, 134), (50020, 5, 2, 135), (50023, 5, 3, 136), (50027, 5, 4, 137), (50031, 5, 5, 138), (11, 0, 0, 161), (18, 0, 1, 162), (22, 0, 2, 163), (60010, 6, 0, 173), (60019, 6, 1, 174), (60028, 6, 2, 175), (60035, 6, 3, 176), (60042, 6, 4, 177), (60046, 6, 5, 178), (60050, 6, 6, 179), (60054, 6, 7, 180), (60062, 6, 8, 181), (60066, 6, 9, 182), (60069, 6, 10, 183), (70007, 7, 0, 805), (70081, 7, 1, 806), (70013, 7, 2, 807), (70016, 7, 3, 808), (70019, 7, 4, 809), (70022, 7, 5, 810), (70113, 7, 6, 811), (70132, 7, 7, 812), (70025, 7, 8, 813), (70028, 7, 9, 814), (70032, 7, 10, 815), (70157, 7, 11, 816), (70035, 7, 12, 817), (70142, 7, 13, 818), (70164, 7, 14, 819), (70167, 7, 15, 820), (70170, 7, 16, 821), (70038, 7, 17, 822), (70041, 7, 18, 823), (70044, 7, 19, 824)]
/-- methods called: kind 0 static, 1 virtual, 2 <init>, 3 arraycopy, 4 Object.<init>, 5 static of a nest mate, 6 Math.max, 7 Math.min; id; place of the word -/
def tM : List (Nat × Nat × Nat × Nat) := [(80009, 2, 70, 20), (60001, 4, 0, 23), (60009, 2, 29, 28), (30003, 4, 0, 31), (60018, 2, 5, 45), (10003, 4, 0, 48), (10017, 2, 17, 52), (20003, 4, 0, 55), (20009, 6, 0, 56), (10031, 1, 7, 67), (10034, 1, 21, 71), (10037, 1, 22, 75), (10041, 0, 206, 79), (60025, 2, 44, 97), (40003, 4, 0, 100), (40021, 2, 17, 102), (60034, 2, 57, 127), (50003, 4, 0, 130), (60041, 2, 0, 154), (3, 4, 0, 157), (17, 2, 5, 160), (60059, 2, 17, 172), (80013, 1, 71, 208), (60072, 1, 32, 212), (60076, 1, 30, 216), (80018, 1, 72, 220), (60080, 1, 31, 224), (80023, 1, 73, 228), (60083, 1, 33, 232), (30022, 1, 7, 236), (30027, 1, 35, 237), (30035, 1, 42, 241), (30087, 1, 41, 245), (30092, 1, 196, 250), (90633, 1, 197, 254), (90492, 1, 199, 258), (90505, 1, 194, 264), (90335, 1, 198, 268), (90637, 0, 204, 272), (100088, 0, 203, 275), (100092, 6, 0, 278), (100038, 7, 0, 279), (100095, 0, 205, 282), (91062, 0, 209, 305), (30039, 5, 104, 334), (30043, 1, 36, 337), (30057, 1, 40, 341), (30031, 1, 38, 345), (30075, 1, 21, 349), (30080, 0, 39, 350), (30067, 5, 110, 353), (30084, 1, 22, 358), (30060, 1, 10, 359), (10047, 1, 24, 363), (20035, 1, 23, 367), (20029, 3, 0, 371), (30047, 1, 43, 374), (30050, 5, 106, 378), (30053, 1, 37, 381), (30064, 5, 105, 385), (30071, 1, 14, 388), (80027, 1, 74, 392), (60087, 1, 8, 396), (10051, 3, 0, 400), (60090, 1, 2, 401), (60093, 1, 16, 405), (80031, 1, 75, 409), (60096, 0, 104, 413), (60099, 1, 9, 414), (60103, 1, 18, 418), (80035, 1, 76, 422), (60104, 1, 19, 426), (60107, 1, 20, 430), (20025, 1, 19, 434), (60111, 0, 112, 435), (60255, 1, 194, 439), (60260, 1, 195, 440), (90495, 0, 202, 444), (100009, 0, 200, 447), (91059, 0, 208, 450), (80040, 1, 77, 460), (60114, 0, 106, 464), (60117, 0, 105, 465), (60124, 1, 12, 466), (60128, 1, 13, 470), (80045, 1, 78, 474), (80049, 1, 79, 478), (60132, 1, 27, 482), (20049, 5, 104, 486), (80053, 1, 80, 487), (60135, 1, 34, 491), (60139, 1, 3, 495), (25, 1, 8, 499), (29, 7, 0, 500), (60142, 1, 10, 501), (80057, 1, 81, 502), (60146, 0, 108, 506), (60250, 0, 110, 509), (60150, 1, 14, 510), (80062, 1, 82, 511), (60154, 1, 15, 515), (10061, 1, 14, 519), (80066, 1, 83, 520), (60158, 1, 26, 524), (20043, 1, 25, 528), (20039, 5, 110, 532), (20046, 1, 22, 533), (80070, 1, 84, 534), (60162, 1, 11, 538), (10057, 1, 28, 542), (80074, 1, 85, 546), (60165, 1, 4, 550), (60169, 1, 1, 554), (80078, 1, 86, 558), (60170, 0, 117, 562), (60241, 0, 116, 567), (60173, 1, 45, 570), (40042, 1, 6, 574), (40048, 0, 206, 578), (40054, 1, 21, 579), (40057, 1, 22, 580), (40061, 0, 54, 581), (40091, 1, 55, 584), (40095, 1, 20, 588), (40109, 5, 104, 589), (40112, 1, 9, 590), (40116, 1, 26, 591), (40120, 1, 24, 592), (40084, 5, 105, 593), (40075, 5, 110, 594), (40098, 1, 25, 595), (40101, 1, 23, 596), (40105, 5, 116, 597), (40065, 1, 56, 598), (40081, 5, 106, 602), (40087, 1, 12, 603), (40124, 1, 13, 604), (60177, 1, 46, 605), (40068, 1, 52, 609), (40071, 5, 112, 613), (80082, 1, 87, 614), (60180, 1, 47, 618), (80086, 1, 88, 622), (60183, 1, 48, 626), (80090, 1, 89, 630), (60186, 0, 107, 634), (60189, 1, 50, 637), (80094, 1, 90, 641), (60192, 1, 51, 645), (40078, 1, 53, 649), (60195, 0, 118, 653), (80098, 1, 91, 656), (60198, 1, 58, 660), (50034, 1, 6, 664), (50040, 1, 65, 665), (50069, 1, 66, 669), (50079, 1, 12, 673), (50083, 5, 110, 674), (50060, 5, 114, 675), (50086, 1, 13, 678), (50063, 5, 115, 679), (50073, 0, 207, 682), (50043, 1, 67, 685), (50051, 0, 64, 689), (50066, 5, 111, 692), (50090, 1, 9, 695), (50094, 1, 68, 696), (50104, 1, 18, 700), (50109, 1, 20, 701), (50112, 5, 113, 702), (50115, 1, 69, 705), (50098, 3, 0, 709), (60201, 1, 59, 710), (50047, 1, 61, 714), (80102, 1, 92, 718), (60204, 1, 60, 722), (80106, 1, 93, 726), (60207, 1, 62, 730), (50055, 0, 191, 734), (80110, 1, 94, 740), (60210, 0, 109, 744), (60219, 0, 111, 747), (60213, 0, 113, 748), (60217, 1, 61, 749), (80114, 1, 95, 750), (60222, 1, 63, 754), (80120, 1, 96, 758), (60225, 0, 100, 762), (60231, 1, 101, 766), (60244, 1, 102, 770), (60247, 1, 103, 774), (80125, 1, 97, 778), (60234, 1, 49, 782), (80130, 1, 98, 788), (80134, 1, 99, 792), (80012, 2, 119, 798), (70001, 4, 0, 801), (70047, 0, 120, 802), (80017, 1, 130, 866), (70055, 0, 122, 871), (80022, 1, 131, 874), (80026, 1, 136, 878), (70105, 1, 135, 882), (70102, 1, 134, 886), (70070, 0, 123, 890), (70091, 1, 132, 895), (70085, 0, 128, 899), (70076, 0, 127, 902), (70063, 0, 124, 905), (70067, 0, 125, 910), (70073, 0, 126, 913), (70099, 1, 133, 918), (80030, 1, 138, 923), (70109, 0, 121, 927), (70116, 0, 137, 930), (80034, 1, 142, 933), (70122, 0, 139, 937), (80039, 1, 143, 941), (80044, 1, 144, 945), (70126, 0, 140, 949), (70129, 0, 141, 952), (80048, 1, 145, 955), (80052, 1, 146, 959), (80056, 1, 149, 963), (70135, 1, 147, 967), (70138, 0, 148, 971), (80061, 1, 150, 974), (80065, 1, 151, 978), (80069, 1, 155, 982), (70153, 1, 153, 986), (70145, 1, 152, 990), (70160, 1, 154, 994), (70149, 0, 129, 998), (80073, 1, 156, 1001), (80077, 1, 157, 1005), (80081, 1, 165, 1009), (70189, 0, 163, 1013), (70192, 1, 164, 1016), (70179, 1, 160, 1020), (70173, 1, 158, 1024), (70182, 0, 162, 1028), (70185, 1, 161, 1031), (70176, 1, 159, 1035), (80085, 1, 166, 1039), (80089, 1, 167, 1043), (80093, 1, 170, 1047), (70201, 1, 169, 1052), (70196, 0, 168, 1056), (80097, 1, 171, 1059), (80101, 1, 179, 1063), (70226, 1, 178, 1067), (70223, 1, 177, 1071), (70219, 1, 176, 1075), (70216, 1, 175, 1079), (70208, 1, 174, 1083), (70212, 1, 173, 1087), (70204, 0, 172, 1091), (80105, 1, 180, 1094), (80109, 1, 182, 1098), (70229, 1, 181, 1102), (80113, 1, 183, 1106), (80117, 1, 184, 1111), (80124, 1, 187, 1115), (70238, 0, 186, 1120), (70242, 1, 185, 1124), (80129, 1, 188, 1128), (80133, 1, 189, 1135), (80137, 1, 190, 1139)]
def tI : List (Nat × Int32 × Nat) := [(60264, 999999, 565), (60265, 100000, 566), (120265, 1431655765, 737), (120266, 858993459, 738), (120267, 252645135, 739)]
def tJ : List (Nat × Int64 × Nat) := [(60229, 10000, 765), (60237, 6364136223846793005, 786), (60239, 1442695040888963407, 787), (70079, 255, 870), (70051, 70, 893), (70053, 72, 894), (70059, 97, 908), (70061, 100, 909), (70095, 48, 916), (70097, 50, 917), (70089, 2, 922), (70120, 3, 940), (70199, 6, 1051), (70232, 7, 1110), (70236, 4, 1119), (70234, 10000, 1123), (70246, 30, 1132), (70248, 6364136223846793005, 1133), (70250, 1442695040888963407, 1134), (80118, 4294967295, 1143)]
def tC : List (Nat × Nat × Nat) := [(80007, 6, 18), (60007, 3, 26), (60016, 1, 43), (10009, 2, 49), (60023, 4, 95), (40015, 2, 101), (60032, 5, 125), (60039, 0, 152), (9, 1, 158), (60057, 2, 171), (80010, 7, 796)]
abbrev Mi : Type := MethodName × ByteArray × Nat × Option FieldType × Nat × Nat × Bool × Bool
/-- a method: name, code, locals, what it returns, parameters, class, <init>, static -/
def tY0 : List Mi := [(yX0_init, cX0_init, 2, none, 0, 0, true, false), (yX0_size, cX0_size, 1, some (.int), 0, 0, false, false), (yX0_forget, cX0_forget, 1, none, 0, 0, false, false), (yX0_remember, cX0_remember, 2, none, 1, 0, false, false), (yX0_takeBack, cX0_takeBack, 2, some (.boolean), 1, 0, false, false), (yX1_init, cX1_init, 2, none, 0, 1, true, false), (yX1_edits, cX1_edits, 1, some (.int), 0, 1, false, false), (yX1_reset, cX1_reset, 2, none, 0, 1, false, false), (yX1_become, cX1_become, 3, none, 1, 1, false, false), (yX1_body, cX1_body, 2, some (.object "RecursionSchemes$Term"), 1, 1, false, false), (yX1_changeBody, cX1_changeBody, 3, none, 2, 1, false, false), (yX1_swapFAndG, cX1_swapFAndG, 3, some (.int), 0, 1, false, false), (yX1_canRead, cX1_canRead, 3, some (.boolean), 2, 1, false, false), (yX1_target, cX1_target, 4, some (.int), 3, 1, false, false), (yX1_putTransition, cX1_putTransition, 5, none, 4, 1, false, false), (yX1_dropTransition, cX1_dropTransition, 3, none, 2, 1, false, false), (yX1_transitionCount, cX1_transitionCount, 3, some (.int), 0, 1, false, false), (yX2_init, cX2_init, 2, none, 1, 2, true, false), (yX2_size, cX2_size, 1, some (.int), 0, 2, false, false), (yX2_holds, cX2_holds, 2, some (.boolean), 1, 2, false, false), (yX2_symbol, cX2_symbol, 2, some (.int), 1, 2, false, false), (yX2_empty, cX2_empty, 1, none, 0, 2, false, false), (yX2_add, cX2_add, 2, some (.boolean), 1, 2, false, false), (yX2_addPart, cX2_addPart, 5, some (.boolean), 3, 2, false, false)]
def tY1 : List Mi := [(yX2_become, cX2_become, 2, none, 1, 2, false, false), (yX2_endOf, cX2_endOf, 4, some (.int), 1, 2, false, false), (yX2_expand, cX2_expand, 9, some (.boolean), 3, 2, false, false), (yX2_nonterminals, cX2_nonterminals, 4, some (.int), 0, 2, false, false), (yX2_swapSymbols, cX2_swapSymbols, 5, some (.int), 2, 2, false, false), (yX3_init, cX3_init, 1, none, 0, 3, true, false), (yX3_size, cX3_size, 1, some (.int), 0, 3, false, false), (yX3_empty, cX3_empty, 1, none, 0, 3, false, false), (yX3_add, cX3_add, 2, some (.boolean), 1, 3, false, false), (yX3_readSetup, cX3_readSetup, 4, some (.int), 2, 3, false, false), (yX3_isBody, cX3_isBody, 3, some (.boolean), 2, 3, false, false), (yX3_readItem, cX3_readItem, 5, some (.boolean), 2, 3, false, false), (yX3_readRule, cX3_readRule, 4, some (.boolean), 3, 3, false, false), (yX3_readTransition, cX3_readTransition, 8, some (.boolean), 2, 3, false, false), (yX3_readBody, cX3_readBody, 6, some (.boolean), 2, 3, false, false), (yX3_mayContain, cX3_mayContain, 2, some (.boolean), 2, 3, false, true), (yX3_skip, cX3_skip, 2, some (.boolean), 1, 3, false, false), (yX3_characterHere, cX3_characterHere, 1, some (.int), 0, 3, false, false), (yX3_symbolHere, cX3_symbolHere, 2, some (.int), 0, 3, false, false), (yX3_stateHere, cX3_stateHere, 1, some (.int), 0, 3, false, false), (yX4_init, cX4_init, 3, none, 1, 4, true, false), (yX4_upToDate, cX4_upToDate, 1, some (.object "RecursionSchemes$Tree"), 0, 4, false, false), (yX4_labelCode, cX4_labelCode, 2, some (.int), 1, 4, false, false), (yX4_expansionsTo, cX4_expansionsTo, 2, some (.int), 1, 4, false, false)]
def tY2 : List Mi := [(yX4_stateOf, cX4_stateOf, 2, some (.int), 1, 4, false, false), (yX4_childCount, cX4_childCount, 2, some (.int), 1, 4, false, false), (yX4_countAt, cX4_countAt, 4, some (.int), 1, 4, false, false), (yX4_firstWrong, cX4_firstWrong, 3, some (.int), 1, 4, false, false), (yX4_exists, cX4_exists, 2, some (.boolean), 1, 4, false, false), (yX4_isWrong, cX4_isWrong, 2, some (.boolean), 1, 4, false, false), (yX4_unfold, cX4_unfold, 10, none, 4, 4, false, true), (yX4_evaluate, cX4_evaluate, 4, some (.int), 1, 4, false, false), (yX4_runAutomaton, cX4_runAutomaton, 4, none, 0, 4, false, false), (yX5_init, cX5_init, 2, none, 1, 5, true, false), (yX5_upToDate, cX5_upToDate, 2, some (.object "RecursionSchemes$TypeCheck"), 0, 5, false, false), (yX5_acceptance, cX5_acceptance, 1, some (.int), 0, 5, false, false), (yX5_roundCount, cX5_roundCount, 1, some (.int), 0, 5, false, false), (yX5_holds, cX5_holds, 4, some (.boolean), 3, 5, false, false), (yX5_validCount, cX5_validCount, 4, some (.int), 1, 5, false, false), (yX5_commonSet, cX5_commonSet, 7, some (.int), 3, 5, false, false), (yX5_settingsOf, cX5_settingsOf, 1, some (.int), 1, 5, false, true), (yX5_start, cX5_start, 3, none, 0, 5, false, false), (yX5_terminalTypes, cX5_terminalTypes, 6, some (.int), 2, 5, false, false), (yX5_removeUnjustified, cX5_removeUnjustified, 6, some (.boolean), 0, 5, false, false), (yX5_bodyTypes, cX5_bodyTypes, 9, some (.int), 2, 5, false, false), (yX5_symbolTypes, cX5_symbolTypes, 4, some (.int), 3, 5, false, false), (yX6_init, cX6_init, 2, none, 0, 6, true, false), (yX6_append, cX6_append, 2, some (.int), 1, 6, false, false)]
def tY3 : List Mi := [(yX6_clearText, cX6_clearText, 2, some (.int), 0, 6, false, false), (yX6_errorPosition, cX6_errorPosition, 1, some (.int), 0, 6, false, false), (yX6_load, cX6_load, 2, some (.int), 0, 6, false, false), (yX6_bodyLength, cX6_bodyLength, 2, some (.int), 1, 6, false, false), (yX6_bodySymbol, cX6_bodySymbol, 3, some (.int), 2, 6, false, false), (yX6_transition, cX6_transition, 4, some (.int), 3, 6, false, false), (yX6_hasTransition, cX6_hasTransition, 3, some (.int), 2, 6, false, false), (yX6_reachable, cX6_reachable, 4, some (.int), 0, 6, false, false), (yX6_setBody, cX6_setBody, 2, some (.int), 1, 6, false, false), (yX6_setTransition, cX6_setTransition, 6, some (.int), 4, 6, false, false), (yX6_removeTransition, cX6_removeTransition, 3, some (.int), 2, 6, false, false), (yX6_inline, cX6_inline, 4, some (.int), 2, 6, false, false), (yX6_exchange, cX6_exchange, 1, some (.int), 0, 6, false, false), (yX6_undo, cX6_undo, 1, some (.int), 0, 6, false, false), (yX6_labelAt, cX6_labelAt, 3, some (.int), 1, 6, false, false), (yX6_expansionsAt, cX6_expansionsAt, 3, some (.int), 1, 6, false, false), (yX6_stateAt, cX6_stateAt, 3, some (.int), 1, 6, false, false), (yX6_nodesAtDepth, cX6_nodesAtDepth, 2, some (.int), 1, 6, false, false), (yX6_wrongBranch, cX6_wrongBranch, 3, some (.int), 1, 6, false, false), (yX6_accepts, cX6_accepts, 1, some (.int), 0, 6, false, false), (yX6_rounds, cX6_rounds, 1, some (.int), 0, 6, false, false), (yX6_typingCount, cX6_typingCount, 2, some (.int), 1, 6, false, false), (yX6_isValid, cX6_isValid, 5, some (.int), 4, 6, false, false), (yX6_demand, cX6_demand, 4, some (.int), 3, 6, false, false)]
def tY4 : List Mi := [(yX6_runScript, cX6_runScript, 6, some (.int), 2, 6, false, false), (yX6_descend, cX6_descend, 11, some (.int), 2, 6, false, false), (yX6_save, cX6_save, 2, some (.int), 1, 6, false, false), (yX6_restore, cX6_restore, 2, some (.int), 1, 6, false, false), (yX6_withoutLastGroups, cX6_withoutLastGroups, 6, some (.long), 2, 6, false, true), (yX6_commandSucceeds, cX6_commandSucceeds, 6, some (.boolean), 1, 6, false, false), (yX6_removeFromCopy, cX6_removeFromCopy, 3, some (.boolean), 2, 6, false, false), (yX6_setBInCopy, cX6_setBInCopy, 3, some (.boolean), 2, 6, false, false), (yX6_isNonterminal, cX6_isNonterminal, 1, some (.boolean), 1, 6, false, true), (yX6_isTerminal, cX6_isTerminal, 1, some (.boolean), 1, 6, false, true), (yX6_isState, cX6_isState, 1, some (.boolean), 1, 6, false, true), (yX6_isDepth, cX6_isDepth, 1, some (.boolean), 1, 6, false, true), (yX6_suitsChild, cX6_suitsChild, 3, some (.boolean), 3, 6, false, true), (yX6_suitsParameter, cX6_suitsParameter, 3, some (.boolean), 3, 6, false, true), (yX6_arityOf, cX6_arityOf, 1, some (.int), 1, 6, false, true), (yX6_arityOfNonterminal, cX6_arityOfNonterminal, 1, some (.int), 1, 6, false, true), (yX6_codeOf, cX6_codeOf, 1, some (.int), 1, 6, false, true), (yX6_setsOf, cX6_setsOf, 2, some (.int), 2, 6, false, true), (yX6_firstOf, cX6_firstOf, 1, some (.int), 1, 6, false, true), (yX6_secondOf, cX6_secondOf, 1, some (.int), 1, 6, false, true), (yX6_childOf, cX6_childOf, 2, some (.int), 2, 6, false, true), (yX6_nodeOf, cX6_nodeOf, 4, some (.int), 1, 6, false, true), (yX6_pathOf, cX6_pathOf, 4, some (.int), 1, 6, false, true), (yX7_init, cX7_init, 1, none, 0, 7, true, false)]
def tY5 : List Mi := [(yX7_clear, cX7_clear, 2, none, 1, 7, false, true), (yX7_copy, cX7_copy, 3, none, 2, 7, false, true), (yX7_in, cX7_in, 6, some (.boolean), 3, 7, false, true), (yX7_nonterminal, cX7_nonterminal, 1, some (.int), 1, 7, false, true), (yX7_terminal, cX7_terminal, 1, some (.int), 1, 7, false, true), (yX7_places, cX7_places, 1, some (.int), 1, 7, false, true), (yX7_parameters, cX7_parameters, 1, some (.int), 1, 7, false, true), (yX7_wants, cX7_wants, 1, some (.int), 1, 7, false, true), (yX7_isAllowed, cX7_isAllowed, 3, some (.boolean), 2, 7, false, true), (yX7_endOf, cX7_endOf, 4, some (.int), 2, 7, false, true), (yX7_append, cX7_append, 2, some (.int), 1, 7, false, false), (yX7_clearText, cX7_clearText, 2, some (.int), 0, 7, false, false), (yX7_readBody, cX7_readBody, 5, some (.int), 2, 7, false, false), (yX7_readStep, cX7_readStep, 8, some (.int), 1, 7, false, false), (yX7_readItem, cX7_readItem, 3, some (.int), 1, 7, false, false), (yX7_readText, cX7_readText, 2, some (.int), 0, 7, false, false), (yX7_errorPosition, cX7_errorPosition, 1, some (.int), 0, 7, false, false), (yX7_stepsOf, cX7_stepsOf, 3, some (.int), 1, 7, false, true), (yX7_load, cX7_load, 1, some (.int), 0, 7, false, false), (yX7_isNonterminal, cX7_isNonterminal, 1, some (.boolean), 1, 7, false, true), (yX7_isPair, cX7_isPair, 2, some (.boolean), 2, 7, false, true), (yX7_stepAt, cX7_stepAt, 2, some (.int), 2, 7, false, true), (yX7_bodyLength, cX7_bodyLength, 2, some (.int), 1, 7, false, false), (yX7_bodySymbol, cX7_bodySymbol, 3, some (.int), 2, 7, false, false)]
def tY6 : List Mi := [(yX7_transition, cX7_transition, 4, some (.int), 3, 7, false, false), (yX7_hasTransition, cX7_hasTransition, 3, some (.int), 2, 7, false, false), (yX7_reachable, cX7_reachable, 6, some (.int), 0, 7, false, false), (yX7_note, cX7_note, 2, none, 0, 7, false, false), (yX7_tidy, cX7_tidy, 3, none, 2, 7, false, true), (yX7_setBody, cX7_setBody, 3, some (.int), 1, 7, false, false), (yX7_setTransition, cX7_setTransition, 7, some (.int), 4, 7, false, false), (yX7_removeTransition, cX7_removeTransition, 3, some (.int), 2, 7, false, false), (yX7_put, cX7_put, 2, none, 1, 7, false, false), (yX7_putPart, cX7_putPart, 5, none, 3, 7, false, false), (yX7_putExpanded, cX7_putExpanded, 10, some (.int), 3, 7, false, false), (yX7_inline, cX7_inline, 5, some (.int), 2, 7, false, false), (yX7_exchange, cX7_exchange, 5, some (.int), 0, 7, false, false), (yX7_undo, cX7_undo, 2, some (.int), 0, 7, false, false), (yX7_evaluate, cX7_evaluate, 5, none, 1, 7, false, false), (yX7_childrenOf, cX7_childrenOf, 2, some (.int), 1, 7, false, false), (yX7_beginWalk, cX7_beginWalk, 2, none, 1, 7, false, false), (yX7_goDown, cX7_goDown, 8, some (.boolean), 2, 7, false, false), (yX7_tens, cX7_tens, 3, some (.int), 1, 7, false, true), (yX7_stepsOfPath, cX7_stepsOfPath, 3, some (.int), 1, 7, false, true), (yX7_walk, cX7_walk, 6, some (.boolean), 3, 7, false, false), (yX7_labelAt, cX7_labelAt, 3, some (.int), 1, 7, false, false), (yX7_expansionsAt, cX7_expansionsAt, 3, some (.int), 1, 7, false, false), (yX7_stateAt, cX7_stateAt, 3, some (.int), 1, 7, false, false)]
def tY7 : List Mi := [(yX7_pathOf, cX7_pathOf, 4, some (.int), 2, 7, false, true), (yX7_nodesOf, cX7_nodesOf, 5, some (.int), 2, 7, false, false), (yX7_nodesAtDepth, cX7_nodesAtDepth, 2, some (.int), 1, 7, false, false), (yX7_wrongBranch, cX7_wrongBranch, 5, some (.int), 1, 7, false, false), (yX7_typingAt, cX7_typingAt, 4, some (.int), 4, 7, false, true), (yX7_appliedTypes, cX7_appliedTypes, 9, some (.int), 3, 7, false, false), (yX7_terminalTypes, cX7_terminalTypes, 9, some (.int), 4, 7, false, false), (yX7_bodyTypes, cX7_bodyTypes, 11, some (.int), 4, 7, false, false), (yX7_isRoundLess, cX7_isRoundLess, 7, some (.boolean), 1, 7, false, false), (yX7_check, cX7_check, 3, some (.int), 1, 7, false, false), (yX7_isAccepted, cX7_isAccepted, 3, some (.boolean), 1, 7, false, false), (yX7_accepts, cX7_accepts, 1, some (.int), 0, 7, false, false), (yX7_rounds, cX7_rounds, 1, some (.int), 0, 7, false, false), (yX7_typingsOf, cX7_typingsOf, 8, some (.int), 2, 7, false, false), (yX7_typingCount, cX7_typingCount, 2, some (.int), 1, 7, false, false), (yX7_isValid, cX7_isValid, 6, some (.int), 4, 7, false, false), (yX7_demand, cX7_demand, 9, some (.int), 3, 7, false, false), (yX7_command, cX7_command, 5, some (.boolean), 4, 7, false, false), (yX7_tenThousands, cX7_tenThousands, 4, some (.long), 1, 7, false, true), (yX7_runScript, cX7_runScript, 6, some (.int), 2, 7, false, false), (yX7_descend, cX7_descend, 10, some (.int), 2, 7, false, false), (yX7_save, cX7_save, 3, some (.int), 1, 7, false, false), (yX7_restore, cX7_restore, 3, some (.int), 1, 7, false, false), (yJ6_bitCount_0f7a4, cJ6_bitCount_0f7a4, 1, some (.int), 1, 12, false, true)]
def tY8 : List Mi := [(yJ9_max_7cf53, cJ9_max_7cf53, 2, some (.int), 2, 14, false, true), (yJ9_min_7cf53, cJ9_min_7cf53, 2, some (.int), 2, 14, false, true), (yJ0_length_8abf5, cJ0_length_8abf5, 1, some (.int), 0, 9, false, false), (yJ0_charAt_5068e, cJ0_charAt_5068e, 2, some (.char), 1, 9, false, false), (yJ0_indexOf_0f7a4, cJ0_indexOf_0f7a4, 2, some (.int), 1, 9, false, false), (yJ0_indexOf_7cf53, cJ0_indexOf_7cf53, 3, some (.int), 2, 9, false, false), (yJ0_coder_7d493, cJ0_coder_7d493, 1, some (.byte), 0, 9, false, false), (yJ0_isLatin1_aae02, cJ0_isLatin1_aae02, 1, some (.boolean), 0, 9, false, false), (yJ0_checkIndex_df160, cJ0_checkIndex_df160, 2, none, 2, 9, false, true), (yJ0_checkBoundsBeginEnd_23922, cJ0_checkBoundsBeginEnd_23922, 3, none, 3, 9, false, true), (yJ1_charAt_3b067, cJ1_charAt_3b067, 2, some (.char), 2, 10, false, true), (yJ1_canEncode_9a6ad, cJ1_canEncode_9a6ad, 1, some (.boolean), 1, 10, false, true), (yJ1_indexOf_4cfef, cJ1_indexOf_4cfef, 4, some (.int), 4, 10, false, true), (yJ1_indexOfChar_4cfef, cJ1_indexOfChar_4cfef, 6, some (.int), 4, 10, false, true), (yJ7_fill_53178, cJ7_fill_53178, 4, none, 2, 13, false, true), (yJ7_fill_031fb, cJ7_fill_031fb, 4, none, 2, 13, false, true), (yJ3_checkIndex_8e157, cJ3_checkIndex_8e157, 3, some (.int), 3, 11, false, true), (yJ3_checkFromToIndex_8c36e, cJ3_checkFromToIndex_8c36e, 4, some (.int), 4, 11, false, true)]
def tY : List Mi := tY0 ++ (tY1 ++ (tY2 ++ (tY3 ++ (tY4 ++ (tY5 ++ (tY6 ++ (tY7 ++ (tY8))))))))
abbrev i_X0_init : Nat := 0
abbrev i_X0_size : Nat := 1
abbrev i_X0_forget : Nat := 2
abbrev i_X0_remember : Nat := 3
abbrev i_X0_takeBack : Nat := 4
abbrev i_X1_init : Nat := 5
abbrev i_X1_edits : Nat := 6
abbrev i_X1_reset : Nat := 7
abbrev i_X1_become : Nat := 8
abbrev i_X1_body : Nat := 9
abbrev i_X1_changeBody : Nat := 10
abbrev i_X1_swapFAndG : Nat := 11
abbrev i_X1_canRead : Nat := 12
abbrev i_X1_target : Nat := 13
abbrev i_X1_putTransition : Nat := 14
abbrev i_X1_dropTransition : Nat := 15
abbrev i_X1_transitionCount : Nat := 16
abbrev i_X2_init : Nat := 17
abbrev i_X2_size : Nat := 18
abbrev i_X2_holds : Nat := 19
abbrev i_X2_symbol : Nat := 20
abbrev i_X2_empty : Nat := 21
abbrev i_X2_add : Nat := 22
abbrev i_X2_addPart : Nat := 23
abbrev i_X2_become : Nat := 24
abbrev i_X2_endOf : Nat := 25
abbrev i_X2_expand : Nat := 26
abbrev i_X2_nonterminals : Nat := 27
abbrev i_X2_swapSymbols : Nat := 28
abbrev i_X3_init : Nat := 29
abbrev i_X3_size : Nat := 30
abbrev i_X3_empty : Nat := 31
abbrev i_X3_add : Nat := 32
abbrev i_X3_readSetup : Nat := 33
abbrev i_X3_isBody : Nat := 34
abbrev i_X3_readItem : Nat := 35
abbrev i_X3_readRule : Nat := 36
abbrev i_X3_readTransition : Nat := 37
abbrev i_X3_readBody : Nat := 38
abbrev i_X3_mayContain : Nat := 39
abbrev i_X3_skip : Nat := 40
abbrev i_X3_characterHere : Nat := 41
abbrev i_X3_symbolHere : Nat := 42
abbrev i_X3_stateHere : Nat := 43
abbrev i_X4_init : Nat := 44
abbrev i_X4_upToDate : Nat := 45
abbrev i_X4_labelCode : Nat := 46
abbrev i_X4_expansionsTo : Nat := 47
abbrev i_X4_stateOf : Nat := 48
abbrev i_X4_childCount : Nat := 49
abbrev i_X4_countAt : Nat := 50
abbrev i_X4_firstWrong : Nat := 51
abbrev i_X4_exists : Nat := 52
abbrev i_X4_isWrong : Nat := 53
abbrev i_X4_unfold : Nat := 54
abbrev i_X4_evaluate : Nat := 55
abbrev i_X4_runAutomaton : Nat := 56
abbrev i_X5_init : Nat := 57
abbrev i_X5_upToDate : Nat := 58
abbrev i_X5_acceptance : Nat := 59
abbrev i_X5_roundCount : Nat := 60
abbrev i_X5_holds : Nat := 61
abbrev i_X5_validCount : Nat := 62
abbrev i_X5_commonSet : Nat := 63
abbrev i_X5_settingsOf : Nat := 64
abbrev i_X5_start : Nat := 65
abbrev i_X5_terminalTypes : Nat := 66
abbrev i_X5_removeUnjustified : Nat := 67
abbrev i_X5_bodyTypes : Nat := 68
abbrev i_X5_symbolTypes : Nat := 69
abbrev i_X6_init : Nat := 70
abbrev i_X6_append : Nat := 71
abbrev i_X6_clearText : Nat := 72
abbrev i_X6_errorPosition : Nat := 73
abbrev i_X6_load : Nat := 74
abbrev i_X6_bodyLength : Nat := 75
abbrev i_X6_bodySymbol : Nat := 76
abbrev i_X6_transition : Nat := 77
abbrev i_X6_hasTransition : Nat := 78
abbrev i_X6_reachable : Nat := 79
abbrev i_X6_setBody : Nat := 80
abbrev i_X6_setTransition : Nat := 81
abbrev i_X6_removeTransition : Nat := 82
abbrev i_X6_inline : Nat := 83
abbrev i_X6_exchange : Nat := 84
abbrev i_X6_undo : Nat := 85
abbrev i_X6_labelAt : Nat := 86
abbrev i_X6_expansionsAt : Nat := 87
abbrev i_X6_stateAt : Nat := 88
abbrev i_X6_nodesAtDepth : Nat := 89
abbrev i_X6_wrongBranch : Nat := 90
abbrev i_X6_accepts : Nat := 91
abbrev i_X6_rounds : Nat := 92
abbrev i_X6_typingCount : Nat := 93
abbrev i_X6_isValid : Nat := 94
abbrev i_X6_demand : Nat := 95
abbrev i_X6_runScript : Nat := 96
abbrev i_X6_descend : Nat := 97
abbrev i_X6_save : Nat := 98
abbrev i_X6_restore : Nat := 99
abbrev i_X6_withoutLastGroups : Nat := 100
abbrev i_X6_commandSucceeds : Nat := 101
abbrev i_X6_removeFromCopy : Nat := 102
abbrev i_X6_setBInCopy : Nat := 103
abbrev i_X6_isNonterminal : Nat := 104
abbrev i_X6_isTerminal : Nat := 105
abbrev i_X6_isState : Nat := 106
abbrev i_X6_isDepth : Nat := 107
abbrev i_X6_suitsChild : Nat := 108
abbrev i_X6_suitsParameter : Nat := 109
abbrev i_X6_arityOf : Nat := 110
abbrev i_X6_arityOfNonterminal : Nat := 111
abbrev i_X6_codeOf : Nat := 112
abbrev i_X6_setsOf : Nat := 113
abbrev i_X6_firstOf : Nat := 114
abbrev i_X6_secondOf : Nat := 115
abbrev i_X6_childOf : Nat := 116
abbrev i_X6_nodeOf : Nat := 117
abbrev i_X6_pathOf : Nat := 118
abbrev i_X7_init : Nat := 119
abbrev i_X7_clear : Nat := 120
abbrev i_X7_copy : Nat := 121
abbrev i_X7_in : Nat := 122
abbrev i_X7_nonterminal : Nat := 123
abbrev i_X7_terminal : Nat := 124
abbrev i_X7_places : Nat := 125
abbrev i_X7_parameters : Nat := 126
abbrev i_X7_wants : Nat := 127
abbrev i_X7_isAllowed : Nat := 128
abbrev i_X7_endOf : Nat := 129
abbrev i_X7_append : Nat := 130
abbrev i_X7_clearText : Nat := 131
abbrev i_X7_readBody : Nat := 132
abbrev i_X7_readStep : Nat := 133
abbrev i_X7_readItem : Nat := 134
abbrev i_X7_readText : Nat := 135
abbrev i_X7_errorPosition : Nat := 136
abbrev i_X7_stepsOf : Nat := 137
abbrev i_X7_load : Nat := 138
abbrev i_X7_isNonterminal : Nat := 139
abbrev i_X7_isPair : Nat := 140
abbrev i_X7_stepAt : Nat := 141
abbrev i_X7_bodyLength : Nat := 142
abbrev i_X7_bodySymbol : Nat := 143
abbrev i_X7_transition : Nat := 144
abbrev i_X7_hasTransition : Nat := 145
abbrev i_X7_reachable : Nat := 146
abbrev i_X7_note : Nat := 147
abbrev i_X7_tidy : Nat := 148
abbrev i_X7_setBody : Nat := 149
abbrev i_X7_setTransition : Nat := 150
abbrev i_X7_removeTransition : Nat := 151
abbrev i_X7_put : Nat := 152
abbrev i_X7_putPart : Nat := 153
abbrev i_X7_putExpanded : Nat := 154
abbrev i_X7_inline : Nat := 155
abbrev i_X7_exchange : Nat := 156
abbrev i_X7_undo : Nat := 157
abbrev i_X7_evaluate : Nat := 158
abbrev i_X7_childrenOf : Nat := 159
abbrev i_X7_beginWalk : Nat := 160
abbrev i_X7_goDown : Nat := 161
abbrev i_X7_tens : Nat := 162
abbrev i_X7_stepsOfPath : Nat := 163
abbrev i_X7_walk : Nat := 164
abbrev i_X7_labelAt : Nat := 165
abbrev i_X7_expansionsAt : Nat := 166
abbrev i_X7_stateAt : Nat := 167
abbrev i_X7_pathOf : Nat := 168
abbrev i_X7_nodesOf : Nat := 169
abbrev i_X7_nodesAtDepth : Nat := 170
abbrev i_X7_wrongBranch : Nat := 171
abbrev i_X7_typingAt : Nat := 172
abbrev i_X7_appliedTypes : Nat := 173
abbrev i_X7_terminalTypes : Nat := 174
abbrev i_X7_bodyTypes : Nat := 175
abbrev i_X7_isRoundLess : Nat := 176
abbrev i_X7_check : Nat := 177
abbrev i_X7_isAccepted : Nat := 178
abbrev i_X7_accepts : Nat := 179
abbrev i_X7_rounds : Nat := 180
abbrev i_X7_typingsOf : Nat := 181
abbrev i_X7_typingCount : Nat := 182
abbrev i_X7_isValid : Nat := 183
abbrev i_X7_demand : Nat := 184
abbrev i_X7_command : Nat := 185
abbrev i_X7_tenThousands : Nat := 186
abbrev i_X7_runScript : Nat := 187
abbrev i_X7_descend : Nat := 188
abbrev i_X7_save : Nat := 189
abbrev i_X7_restore : Nat := 190
abbrev i_J6_bitCount_0f7a4 : Nat := 191
abbrev i_J9_max_7cf53 : Nat := 192
abbrev i_J9_min_7cf53 : Nat := 193
abbrev i_J0_length_8abf5 : Nat := 194
abbrev i_J0_charAt_5068e : Nat := 195
abbrev i_J0_indexOf_0f7a4 : Nat := 196
abbrev i_J0_indexOf_7cf53 : Nat := 197
abbrev i_J0_coder_7d493 : Nat := 198
abbrev i_J0_isLatin1_aae02 : Nat := 199
abbrev i_J0_checkIndex_df160 : Nat := 200
abbrev i_J0_checkBoundsBeginEnd_23922 : Nat := 201
abbrev i_J1_charAt_3b067 : Nat := 202
abbrev i_J1_canEncode_9a6ad : Nat := 203
abbrev i_J1_indexOf_4cfef : Nat := 204
abbrev i_J1_indexOfChar_4cfef : Nat := 205
abbrev i_J7_fill_53178 : Nat := 206
abbrev i_J7_fill_031fb : Nat := 207
abbrev i_J3_checkIndex_8e157 : Nat := 208
abbrev i_J3_checkFromToIndex_8c36e : Nat := 209
end
section
/-! AN ABSTRACT MACHINE: the heap is a list of cells from a base address on; one step is a function; X: it comes to its end with Q. -/
abbrev Cl : Type := (Nat × Nat × (Nat → Int32)) ⊕ ((Nat × Nat × (Nat → Option Nat)) ⊕ (Nat × List Value))
abbrev Hp : Type := List Cl × Nat
abbrev Lo : Type := List (Option Value)
abbrev Ev : Type := Nat × Nat × Nat × Nat × Value × Nat × Nat × (Nat → Int32)
/-- own class, code, whether it is <init>, what it returns -/
abbrev Cx : Type := Nat × ByteArray × Bool × Option FieldType
abbrev Rs : Type := (Nat × Lo × List Value × Hp) ⊕ ((Nat × List Value × Nat × List Value) ⊕ Option Value)
abbrev Po : Type := Option Value → Hp → Prop
abbrev cA (k n : Nat) (f : Nat → Int32) : Cl := .inl (k, n, f)
abbrev cR (k n : Nat) (f : Nat → Option Nat) : Cl := .inr (.inl (k, n, f))
abbrev cO (c : Nat) (fs : List Value) : Cl := .inr (.inr (c, fs))
def eB (E : Ev) : Nat := E.1
def eS (E : Ev) : Nat := E.2.1
def eV (E : Ev) : Nat := E.2.2.1
def eA (E : Ev) : Nat := E.2.2.2.1
def eF (E : Ev) : Value := E.2.2.2.2.1
def eb (E : Ev) : Nat := E.2.2.2.2.2.1
def eL (E : Ev) : Nat := E.2.2.2.2.2.2.1
def ex (E : Ev) : Nat → Int32 := E.2.2.2.2.2.2.2
def gt (E : Ev) (G : Hp) (a : Nat) : Option Cl := if eB E ≤ a then G.1[a - eB E]? else none
def st (E : Ev) (G : Hp) (a : Nat) (c : Cl) : Hp := if eB E ≤ a then (G.1.set (a - eB E) c, G.2) else G
/-- an int by its number -/
def iv (z : Int) : Int32 := Int32.ofInt z
def nxA (E : Ev) (G : Hp) : Nat := eB E + G.1.length
def psh (G : Hp) (c : Cl) (n : Nat) : Hp := (G.1 ++ [c], G.2 + n)
/-- n arrays of bytes of length k -/
def pshs (G : Hp) (n k : Nat) : Hp := (G.1 ++ List.replicate n (cA 1 k (fun _ => 0)), G.2 + n * k)
def arit : Nat → Int32 := fun j => [2, 1, 0, 0, 0, 1, 1, 2, 0, 0].getD j 0
def byts : Nat → Int32 := fun j => [97, 98, 99, 100, 83, 70, 71, 72, 120, 121].getD j 0
def oI (o : Nat) (E : Ev) (a : Nat) : Option (Nat × (Nat → Int32)) := if o = 8 then (if a = eb E then some (eL E, ex E) else none) else if a = eA E then some (10, arit) else none
def oB (E : Ev) (a : Nat) : Option (Nat × (Nat → Int32)) := if a = eV E then some (10, byts) else none
def oL (o : Nat) (E : Ev) (a : Nat) : Option Nat := if o = 8 then (if a = eb E then some (eL E) else none) else if a = eA E then some 10 else if a = eV E then some 10 else none
def gS (E : Ev) (o idx : Nat) : Option Value := if o = 6 ∧ idx = 120 then some (.ref (eA E)) else if o = 9 ∧ idx = 38 then some (.int (iv 1)) else if o = 9 ∧ idx = 1053 then some (eF E) else none
def hT (E : Ev) (o idx a : Nat) : Option Value := if o = 9 ∧ idx = 9 ∧ a = eS E then some (.ref (eV E)) else if o = 9 ∧ idx = 15 ∧ a = eS E then some (.int (iv 0)) else none
def kS (E : Ev) (o idx : Nat) : Option Nat := if o = 3 ∧ idx = 90 then some (eS E) else if o = 6 ∧ idx = 253 then some (eS E) else none
def fF (o idx : Nat) : Option (Nat × Nat × Nat) := if idx < 10000 then tF.lookup (o * 10000 + idx) else none
def fM (o idx : Nat) : Option (Nat × Nat × Nat) := if idx < 10000 then tM.lookup (o * 10000 + idx) else none
def fI (o idx : Nat) : Option (Int32 × Nat) := if idx < 10000 then tI.lookup (o * 10000 + idx) else none
def fJ (o idx : Nat) : Option (Int64 × Nat) := if idx < 10000 then tJ.lookup (o * 10000 + idx) else none
def fC (o idx : Nat) : Option (Nat × Nat) := if idx < 10000 then tC.lookup (o * 10000 + idx) else none
/-- a class's fields: type, final; the values of a new object -/
def fTy (ci : Nat) : Nat → FieldType := match ci with
  | 0 => tyX0 | 1 => tyX1 | 2 => tyX2 | 3 => tyX3 | 4 => tyX4 | 5 => tyX5 | 6 => tyX6 | _ => tyX7
def fTb (ci : Nat) : u_T := match ci with
  | 0 => TX0 | 1 => TX1 | 2 => TX2 | 3 => TX3 | 4 => TX4 | 5 => TX5 | 6 => TX6 | _ => TX7
def fSz (ci : Nat) : Nat := match ci with
  | 0 => 3 | 1 => 4 | 2 => 2 | 3 => 3 | 4 => 7 | 5 => 6 | 6 => 11 | _ => 20
def fDf (ci : Nat) : List Value := (List.range (fSz ci)).map (fun k => defaultValue (fTy ci k))
def okV (t : FieldType) (v : Value) : Bool := match t, v with
  | .int, .int _ => true
  | .array _, .ref _ => true
  | .object _, .ref _ => true
  | _, _ => false
def lget (lo : Lo) (i : Nat) : Option Value := match lo[i]? with
  | some (some v) => some v
  | _ => none
def noLong (lo : Lo) (i : Nat) : Bool := match i with
  | 0 => true
  | j + 1 => match lo[j]? with
    | some (some v) => v.category == 1
    | _ => true
def lst1 (lo : Lo) (i : Nat) (v : Value) : Option Lo := if i < lo.length ∧ noLong lo i = true then some (lo.set i (some v)) else none
def lst2 (lo : Lo) (i : Nat) (v : Value) : Option Lo := if i + 1 < lo.length ∧ noLong lo i = true then some ((lo.set i (some v)).set (i + 1) none) else none
def nx (pc : Nat) (lo : Lo) (s : List Value) (G : Hp) : Option Rs := some (.inl (pc, lo, s, G))
def p1i (s : List Value) (f : Int32 → List Value → Option Rs) : Option Rs := match s with
  | .int x :: r => f x r
  | _ => none
def p2i (s : List Value) (f : Int32 → Int32 → List Value → Option Rs) : Option Rs := match s with
  | .int y :: .int x :: r => f x y r
  | _ => none
def p1l (s : List Value) (f : Int64 → List Value → Option Rs) : Option Rs := match s with
  | .long x :: r => f x r
  | _ => none
def p2l (s : List Value) (f : Int64 → Int64 → List Value → Option Rs) : Option Rs := match s with
  | .long y :: .long x :: r => f x y r
  | _ => none
def pli (s : List Value) (f : Int64 → Int32 → List Value → Option Rs) : Option Rs := match s with
  | .int y :: .long x :: r => f x y r
  | _ => none
def p1r (s : List Value) (f : Nat → List Value → Option Rs) : Option Rs := match s with
  | .ref a :: r => f a r
  | _ => none
def pir (s : List Value) (f : Nat → Int32 → List Value → Option Rs) : Option Rs := match s with
  | .int i :: .ref a :: r => f a i r
  | _ => none
def piir (s : List Value) (f : Nat → Int32 → Int32 → List Value → Option Rs) : Option Rs := match s with
  | .int x :: .int i :: .ref a :: r => f a i x r
  | _ => none
def prir (s : List Value) (f : Nat → Int32 → Nat → List Value → Option Rs) : Option Rs := match s with
  | .ref v :: .int i :: .ref a :: r => f a i v r
  | _ => none
def pvr (s : List Value) (f : Nat → Value → List Value → Option Rs) : Option Rs := match s with
  | v :: .ref a :: r => f a v r
  | _ => none
def pcp (s : List Value) (f : Nat → Int32 → Nat → Int32 → Int32 → List Value → Option Rs) : Option Rs := match s with
  | .int n :: .int dp :: .ref a :: .int sp :: .ref a0 :: r => f a0 sp a dp n r
  | _ => none
def gtA (E : Ev) (G : Hp) (a : Nat) (f : Nat → Nat → (Nat → Int32) → Option Rs) (g : Option Rs) : Option Rs := match gt E G a with
  | some (.inl (k, n, h)) => f k n h
  | none => g
  | _ => none
def gtR (E : Ev) (G : Hp) (a : Nat) (f : Nat → Nat → (Nat → Option Nat) → Option Rs) : Option Rs := match gt E G a with
  | some (.inr (.inl (k, n, h))) => f k n h
  | _ => none
def gtO (E : Ev) (G : Hp) (a : Nat) (f : Nat → List Value → Option Rs) (g : Option Rs) : Option Rs := match gt E G a with
  | some (.inr (.inr (c, fs))) => f c fs
  | none => g
  | _ => none
def gd (c : Prop) (d : Decidable c) (r : Option Rs) : Option Rs := @ite _ c d r none
def ov {α : Type} (x : Option α) (f : α → Option Rs) : Option Rs := match x with
  | some v => f v
  | none => none
def bad (i : Int32) (n : Nat) : Prop := i < 0 ∨ n ≤ i.toNatClampNeg
def dbad (i : Int32) (n : Nat) : Decidable (bad i n) := inferInstanceAs (Decidable (i < 0 ∨ n ≤ i.toNatClampNeg))
def kT (k : Nat) : FieldType := match k with
  | 0 => .int | 1 => .byte | _ => .boolean
def jmp (pc : Nat) (off : Int) (lo : Lo) (s : List Value) (G : Hp) : Option Rs := gd (0 ≤ (pc : Int) + off) inferInstance (nx ((pc : Int) + off).toNat lo s G)
def bra (b : Bool) (pc : Nat) (off : Int) (lo : Lo) (s : List Value) (G : Hp) : Option Rs := gd (0 ≤ (pc : Int) + off) inferInstance (match b with
  | true => nx ((pc : Int) + off).toNat lo s G
  | false => nx (pc + 3) lo s G)
def ldv (lo : Lo) (i : Nat) (f : Value → Option Rs) : Option Rs := ov (lget lo i) f
def rcv (E : Ev) (G : Hp) (b o : Nat) : Bool := match gt E G b with
  | some (.inr (.inr (c, _))) => c == o
  | none => b == eS E && o == 9
  | _ => false
def isI (v : Value) : Bool := match v with | .int _ => true | _ => false
def isL (v : Value) : Bool := match v with | .long _ => true | _ => false
def isR (v : Value) : Bool := match v with | .ref _ => true | _ => false
def lenOk (i : Instr) (n : Nat) : Bool := match i with
  | .bipush _ | .iload _ | .istore _ | .aload _ | .astore _ | .lload _ | .lstore _ | .ldc _ | .newarray _ => n == 2
  | .sipush _ | .getfield _ | .putfield _ | .getstatic _ | .ifCond _ _ | .if_icmp _ _ | .goto _ | .invokevirtual _ | .invokespecial _ | .invokestatic _ | .new _ | .anewarray _ | .iinc _ _ | .ldc_w _ | .ldc2_w _ => n == 3
  | .multianewarray _ _ => n == 4
  | .tableswitch _ _ _ _ => true
  | _ => n == 1
def ld (p : Value → Bool) (pc i : Nat) (lo : Lo) (s : List Value) (G : Hp) : Option Rs := ldv lo i fun v => gd (p v = true) inferInstance (nx pc lo (v :: s) G)
def sto1 (p : Value → Bool) (pc i : Nat) (lo : Lo) (s : List Value) (G : Hp) : Option Rs := match s with
  | v :: r => gd (p v = true) inferInstance (ov (lst1 lo i v) fun lo' => nx pc lo' r G)
  | [] => none
def sto2 (pc i : Nat) (lo : Lo) (s : List Value) (G : Hp) : Option Rs := p1l s fun x r => ov (lst2 lo i (.long x)) fun lo' => nx pc lo' r G
def nA (m : Mi) : Nat := m.2.2.2.2.1 + (if m.2.2.2.2.2.2.2 = true then 0 else 1)
def callB (E : Ev) (kind id pc : Nat) (G : Hp) (m : Mi) (a r : List Value) : Option Rs := gd (a.length = nA m ∧ r.length ≤ 4) inferInstance (match kind with
    | 1 => match a with
      | .ref b :: _ => gd (m.2.2.2.2.2.2.2 = false ∧ m.2.2.2.2.2.2.1 = false ∧ rcv E G b m.2.2.2.2.2.1 = true) inferInstance (some (.inr (.inl (id, a, pc + 3, r))))
      | _ => none
    | 2 => match a with
      | .ref _ :: _ => gd (m.2.2.2.2.2.2.2 = false ∧ m.2.2.2.2.2.2.1 = true) inferInstance (some (.inr (.inl (id, a, pc + 3, r))))
      | _ => none
    | _ => gd (m.2.2.2.2.2.2.2 = true) inferInstance (some (.inr (.inl (id, a, pc + 3, r)))))
/-- a call: the arguments off the stack -/
def callA (E : Ev) (kind id pc : Nat) (s : List Value) (G : Hp) : Option Rs := ov tY[id]? fun m => callB E kind id pc G m (s.take (nA m)).reverse (s.drop (nA m))
def imax (x y : Int32) : Int32 := if x < y then y else x
def imin (x y : Int32) : Int32 := if y < x then y else x
def invS (E : Ev) (o idx pc : Nat) (lo : Lo) (s : List Value) (G : Hp) : Option Rs := ov (fM o idx) fun q => match q.1 with
  | 0 => callA E 0 q.2.1 pc s G
  | 5 => callA E 5 q.2.1 pc s G
  | 3 => pcp s fun a0 sp a dp n r => gtA E G a0 (fun k0 n0 f => gtA E G a (fun k n1 g => gd (k0 = k ∧ r.length ≤ 4 ∧ ¬ sp < 0 ∧ ¬ dp < 0 ∧ ¬ n < 0 ∧ sp.toNatClampNeg + n.toNatClampNeg ≤ n0 ∧ dp.toNatClampNeg + n.toNatClampNeg ≤ n1 ∧ ∀ i, i < n.toNatClampNeg → fits (kT k) (.int (f (sp.toNatClampNeg + i))) = true) inferInstance
      (nx (pc + 3) lo r (st E G a (cA k n1 (va_cpy f g sp.toNatClampNeg dp.toNatClampNeg n.toNatClampNeg))))) none) none
  | 6 => p2i s fun x y r => gd (r.length ≤ 4) inferInstance (nx (pc + 3) lo (.int (imax x y) :: r) G)
  | 7 => p2i s fun x y r => gd (r.length ≤ 4) inferInstance (nx (pc + 3) lo (.int (imin x y) :: r) G)
  | _ => none
def invI (E : Ev) (o idx pc : Nat) (lo : Lo) (s : List Value) (G : Hp) : Option Rs := ov (fM o idx) fun q => match q.1 with
  | 2 => callA E 2 q.2.1 pc s G
  | 4 => p1r s fun _ r => gd (r.length ≤ 4) inferInstance (nx (pc + 3) lo r G)
  | _ => none
def invV (E : Ev) (o idx pc : Nat) (s : List Value) (G : Hp) : Option Rs := ov (fM o idx) fun q => match q.1 with
  | 1 => callA E 1 q.2.1 pc s G
  | _ => none
def stpI (E : Ev) (cx : Cx) (i : Instr) (pc : Nat) (lo : Lo) (s : List Value) (G : Hp) : Option Rs := match i with
  | .iconst n => nx (pc + 1) lo (.int (iv n) :: s) G
  | .bipush n => gd ((Int8.ofInt n).toInt32 = iv n) inferInstance (nx (pc + 2) lo (.int (iv n) :: s) G)
  | .sipush n => gd ((Int16.ofInt n).toInt32 = iv n) inferInstance (nx (pc + 3) lo (.int (iv n) :: s) G)
  | .lconst n => nx (pc + 1) lo (.long (Int64.ofNat n) :: s) G
  | .ldc x => match kS E cx.1 x with
    | some a => nx (pc + 2) lo (.ref a :: s) G
    | none => ov (fI cx.1 x) fun q => nx (pc + 2) lo (.int q.1 :: s) G
  | .ldc_w x => ov (fI cx.1 x) fun q => nx (pc + 3) lo (.int q.1 :: s) G
  | .ldc2_w x => ov (fJ cx.1 x) fun q => nx (pc + 3) lo (.long q.1 :: s) G
  | .iload_n k => ld isI (pc + 1) k lo s G
  | .iload k => ld isI (pc + 2) k lo s G
  | .lload_n k => ld isL (pc + 1) k lo s G
  | .lload k => ld isL (pc + 2) k lo s G
  | .aload_n k => ld isR (pc + 1) k lo s G
  | .aload k => ld isR (pc + 2) k lo s G
  | .istore_n k => sto1 isI (pc + 1) k lo s G
  | .istore k => sto1 isI (pc + 2) k lo s G
  | .astore_n k => sto1 isR (pc + 1) k lo s G
  | .astore k => sto1 isR (pc + 2) k lo s G
  | .lstore_n k => sto2 (pc + 1) k lo s G
  | .lstore k => sto2 (pc + 2) k lo s G
  | .iinc k n => ldv lo k fun v => match v with
    | .int x => ov (lst1 lo k (.int (x + iv n))) fun lo' => nx (pc + 3) lo' s G
    | _ => none
  | .iadd => p2i s fun x y r => nx (pc + 1) lo (.int (x + y) :: r) G
  | .isub => p2i s fun x y r => nx (pc + 1) lo (.int (x - y) :: r) G
  | .imul => p2i s fun x y r => nx (pc + 1) lo (.int (x * y) :: r) G
  | .iand => p2i s fun x y r => nx (pc + 1) lo (.int (x &&& y) :: r) G
  | .ior => p2i s fun x y r => nx (pc + 1) lo (.int (x ||| y) :: r) G
  | .ixor => p2i s fun x y r => nx (pc + 1) lo (.int (x ^^^ y) :: r) G
  | .idiv => p2i s fun x y r => gd (¬ y = 0) inferInstance (nx (pc + 1) lo (.int (x / y) :: r) G)
  | .irem => p2i s fun x y r => gd (¬ y = 0) inferInstance (nx (pc + 1) lo (.int (x - x / y * y) :: r) G)
  | .ishl => p2i s fun x y r => nx (pc + 1) lo (.int (x <<< (y &&& 31)) :: r) G
  | .ishr => p2i s fun x y r => nx (pc + 1) lo (.int (x >>> (y &&& 31)) :: r) G
  | .iushr => p2i s fun x y r => nx (pc + 1) lo (.int ((x.toUInt32 >>> (y.toUInt32 &&& Int32.toUInt32 31)).toInt32) :: r) G
  | .ladd => p2l s fun x y r => nx (pc + 1) lo (.long (x + y) :: r) G
  | .lsub => p2l s fun x y r => nx (pc + 1) lo (.long (x - y) :: r) G
  | .lmul => p2l s fun x y r => nx (pc + 1) lo (.long (x * y) :: r) G
  | .land => p2l s fun x y r => nx (pc + 1) lo (.long (x &&& y) :: r) G
  | .lor => p2l s fun x y r => nx (pc + 1) lo (.long (x ||| y) :: r) G
  | .ldiv => p2l s fun x y r => gd (¬ y = 0) inferInstance (nx (pc + 1) lo (.long (x / y) :: r) G)
  | .lrem => p2l s fun x y r => gd (¬ y = 0) inferInstance (nx (pc + 1) lo (.long (x - x / y * y) :: r) G)
  | .lushr => pli s fun x y r => nx (pc + 1) lo (.long ((x.toUInt64 >>> (y.toInt64.toUInt64 &&& Int64.toUInt64 63)).toInt64) :: r) G
  | .lshl => pli s fun x y r => nx (pc + 1) lo (.long (x <<< (y.toInt64 &&& 63)) :: r) G
  | .lcmp => p2l s fun x y r => nx (pc + 1) lo (.int (lg_cmp x y) :: r) G
  | .i2l => p1i s fun x r => nx (pc + 1) lo (.long x.toInt64 :: r) G
  | .l2i => p1l s fun x r => nx (pc + 1) lo (.int x.toInt32 :: r) G
  | .i2b => p1i s fun x r => nx (pc + 1) lo (.int x.toInt8.toInt32 :: r) G
  | .i2c => p1i s fun x r => nx (pc + 1) lo (.int (x.toUInt32 % 65536).toInt32 :: r) G
  | .dup => match s with
    | v :: r => gd (v.category = 1) inferInstance (nx (pc + 1) lo (v :: v :: r) G)
    | [] => none
  | .pop => match s with
    | v :: r => gd (v.category = 1) inferInstance (nx (pc + 1) lo r G)
    | [] => none
  | .goto off => jmp pc off lo s G
  | .ifCond .eq off => p1i s fun x r => bra (decide (x = 0)) pc off lo r G
  | .ifCond .ne off => p1i s fun x r => bra (decide (¬ x = 0)) pc off lo r G
  | .ifCond .lt off => p1i s fun x r => bra (decide (x < 0)) pc off lo r G
  | .ifCond .ge off => p1i s fun x r => bra (decide (0 ≤ x)) pc off lo r G
  | .ifCond .gt off => p1i s fun x r => bra (decide (0 < x)) pc off lo r G
  | .ifCond .le off => p1i s fun x r => bra (decide (x ≤ 0)) pc off lo r G
  | .if_icmp .eq off => p2i s fun x y r => bra (decide (x = y)) pc off lo r G
  | .if_icmp .ne off => p2i s fun x y r => bra (decide (¬ x = y)) pc off lo r G
  | .if_icmp .lt off => p2i s fun x y r => bra (decide (x < y)) pc off lo r G
  | .if_icmp .ge off => p2i s fun x y r => bra (decide (y ≤ x)) pc off lo r G
  | .if_icmp .gt off => p2i s fun x y r => bra (decide (y < x)) pc off lo r G
  | .if_icmp .le off => p2i s fun x y r => bra (decide (x ≤ y)) pc off lo r G
  | .tableswitch dflt l h offs => p1i s fun x r => if x.toInt < l ∨ h < x.toInt then jmp pc dflt lo r G else ov offs[(x.toInt - l).toNat]? fun off => jmp pc off lo r G
  | .getfield x => p1r s fun a r => match fF cx.1 x with
    | some q => gtO E G a (fun c fs => gd (c = q.1) inferInstance (ov fs[q.2.1]? fun v => nx (pc + 3) lo (v :: r) G)) none
    | none => gtO E G a (fun _ _ => none) (ov (hT E cx.1 x a) fun v => nx (pc + 3) lo (v :: r) G)
  | .putfield x => pvr s fun a v r => ov (fF cx.1 x) fun q => gtO E G a (fun c fs => gd (c = q.1 ∧ q.2.1 < fs.length ∧ okV (fTy q.1 q.2.1) v = true ∧ ((fTb q.1 q.2.1).2.2.2 = true → cx.2.2.1 = true ∧ cx.1 = q.1)) inferInstance (nx (pc + 3) lo r (st E G a (cO c (fs.set q.2.1 v))))) none
  | .getstatic x => ov (gS E cx.1 x) fun v => nx (pc + 3) lo (v :: s) G
  | .iaload => pir s fun a i r => gtA E G a (fun k n f => gd (k = 0 ∧ ¬ bad i n) (@instDecidableAnd _ _ _ (@instDecidableNot _ (dbad i n))) (nx (pc + 1) lo (.int (f i.toNatClampNeg) :: r) G)) (ov (oI cx.1 E a) fun q => gd (¬ bad i q.1) (@instDecidableNot _ (dbad i q.1)) (nx (pc + 1) lo (.int (q.2 i.toNatClampNeg) :: r) G))
  | .baload => pir s fun a i r => gtA E G a (fun k n f => gd ((k = 1 ∨ k = 2) ∧ ¬ bad i n) (@instDecidableAnd _ _ _ (@instDecidableNot _ (dbad i n))) (nx (pc + 1) lo (.int (f i.toNatClampNeg) :: r) G)) (ov (oB E a) fun q => gd (¬ bad i q.1) (@instDecidableNot _ (dbad i q.1)) (nx (pc + 1) lo (.int (q.2 i.toNatClampNeg) :: r) G))
  | .aaload => pir s fun a i r => gtR E G a fun k n f => gd (k ≤ 2 ∧ ¬ bad i n) (@instDecidableAnd _ _ _ (@instDecidableNot _ (dbad i n))) (ov (f i.toNatClampNeg) fun v => nx (pc + 1) lo (.ref v :: r) G)
  | .iastore => piir s fun a i x r => gtA E G a (fun k n f => gd (k = 0 ∧ ¬ bad i n) (@instDecidableAnd _ _ _ (@instDecidableNot _ (dbad i n))) (nx (pc + 1) lo r (st E G a (cA 0 n (upd f i.toNatClampNeg x))))) none
  | .bastore => piir s fun a i x r => gtA E G a (fun k n f => gd ((k = 1 ∨ k = 2) ∧ ¬ bad i n) (@instDecidableAnd _ _ _ (@instDecidableNot _ (dbad i n))) (nx (pc + 1) lo r (st E G a (cA k n (upd f i.toNatClampNeg (vp_nar (kT k) x)))))) none
  | .aastore => prir s fun a i v r => gtR E G a fun k n f => gd (k ≤ 1 ∧ ¬ bad i n) (@instDecidableAnd _ _ _ (@instDecidableNot _ (dbad i n))) (gtO E G v (fun c _ => gd (c = k + 1) inferInstance (nx (pc + 1) lo r (st E G a (cR k n (va_up f i.toNatClampNeg (some v)))))) none)
  | .arraylength => p1r s fun a r => match gt E G a with
    | some (.inl (_, n, _)) => nx (pc + 1) lo (.int (Int32.ofNat n) :: r) G
    | some (.inr (.inl (k, n, _))) => gd (k ≤ 2) inferInstance (nx (pc + 1) lo (.int (Int32.ofNat n) :: r) G)
    | some (.inr (.inr _)) => none
    | none => ov (oL cx.1 E a) fun n => nx (pc + 1) lo (.int (Int32.ofNat n) :: r) G
  | .newarray t => p1i s fun n r => gd (¬ n < 0 ∧ n.toNatClampNeg ≤ 100000) inferInstance (match t with
    | .int => nx (pc + 2) lo (.ref (nxA E G) :: r) (psh G (cA 0 n.toNatClampNeg (fun _ => 0)) n.toNatClampNeg)
    | .byte => nx (pc + 2) lo (.ref (nxA E G) :: r) (psh G (cA 1 n.toNatClampNeg (fun _ => 0)) n.toNatClampNeg)
    | .boolean => nx (pc + 2) lo (.ref (nxA E G) :: r) (psh G (cA 2 n.toNatClampNeg (fun _ => 0)) n.toNatClampNeg)
    | _ => none)
  | .anewarray x => p1i s fun n r => ov (fC cx.1 x) fun q => gd ((q.1 = 1 ∨ q.1 = 2) ∧ ¬ n < 0 ∧ n.toNatClampNeg ≤ 100000) inferInstance (nx (pc + 3) lo (.ref (nxA E G) :: r) (psh G (cR (q.1 - 1) n.toNatClampNeg (fun _ => none)) n.toNatClampNeg))
  | .multianewarray x 2 => p2i s fun n k r => gd (cx.1 = 5 ∧ x = 15 ∧ ¬ n < 0 ∧ ¬ k < 0 ∧ n.toNatClampNeg ≤ 1000 ∧ k.toNatClampNeg ≤ 1000) inferInstance
      (nx (pc + 4) lo (.ref (nxA E G) :: r) (pshs (psh G (cR 2 n.toNatClampNeg (fun i => if i < n.toNatClampNeg then some (nxA E G + 1 + i) else none)) n.toNatClampNeg) n.toNatClampNeg k.toNatClampNeg))
  | .new x => ov (fC cx.1 x) fun q => gd (q.1 < 8) inferInstance (nx (pc + 3) lo (.ref (nxA E G) :: s) (psh G (cO q.1 (fDf q.1)) (fSz q.1)))
  | .invokestatic x => invS E cx.1 x pc lo s G
  | .invokespecial x => invI E cx.1 x pc lo s G
  | .invokevirtual x => invV E cx.1 x pc s G
  | .ireturn => match s with
    | [.int v] => match cx.2.2.2 with
      | some t => gd (narrow t (.int v) = .int v) inferInstance (some (.inr (.inr (some (.int v)))))
      | none => none
    | _ => none
  | .lreturn => match s with
    | [.long v] => gd (cx.2.2.2 = some .long) inferInstance (some (.inr (.inr (some (.long v)))))
    | _ => none
  | .areturn => match s with
    | [.ref v] => match cx.2.2.2 with
      | some (.object _) => some (.inr (.inr (some (.ref v))))
      | some (.array _) => some (.inr (.inr (some (.ref v))))
      | _ => none
    | _ => none
  | .return_ => match s with
    | [] => gd (cx.2.2.2 = none) inferInstance (some (.inr (.inr none)))
    | _ => none
  | _ => none
def stp (E : Ev) (cx : Cx) (pc : Nat) (lo : Lo) (s : List Value) (G : Hp) : Option Rs := match decode cx.2.1 pc with
  | .ok (i, n) => gd (lenOk i n = true) inferInstance (stpI E cx i pc lo s G)
  | .error _ => none
def X (call : Nat → List Value → Hp → Po → Prop) (E : Ev) (cx : Cx) : Nat → Nat → Lo → List Value → Hp → Po → Prop
  | 0, _, _, _, _, _ => False
  | k + 1, pc, lo, s, G, Q => match stp E cx pc lo s G with
    | some (.inl r) => X call E cx k r.1 r.2.1 r.2.2.1 r.2.2.2 Q
    | some (.inr (.inl r)) => call r.1 r.2.1 G (fun v G' => X call E cx k r.2.2.1 lo (v.toList ++ r.2.2.2) G' Q)
    | some (.inr (.inr v)) => Q v G
    | none => False
def ent : List Value → Nat → Lo
  | [], n => List.replicate n none
  | v :: vs, n => if v.category = 2 then some v :: none :: ent vs (n - 2) else some v :: ent vs (n - 1)
def entS : List Value → Nat
  | [] => 0
  | v :: vs => v.category + entS vs
def cxM (m : Mi) : Cx := (m.2.2.2.2.2.1, m.2.1, m.2.2.2.2.2.2.1, m.2.2.2.1)
def runs (E : Ev) : Nat → Nat → List Value → Hp → Po → Prop
  | 0, _, _, _, _ => False
  | d + 1, id, a, G, Q => match tY[id]? with
    | some m => entS a ≤ m.2.2.1 ∧ ∃ k, X (runs E d) E (cxM m) k 0 (ent a m.2.2.1) [] G Q
    | none => False
def Xr (E : Ev) (d : Nat) (cx : Cx) (pc : Nat) (lo : Lo) (s : List Value) (G : Hp) (Q : Po) : Prop := ∃ k, X (runs E d) E cx k pc lo s G Q
end
section
theorem X_mono {call : Nat → List Value → Hp → Po → Prop} {E : Ev} {cx : Cx} (hc : ∀ id a G (P P' : Po), (∀ v G', P v G' → P' v G') → call id a G P → call id a G P') :
    ∀ k pc lo s G (Q Q' : Po), (∀ v G', Q v G' → Q' v G') → X call E cx k pc lo s G Q → X call E cx k pc lo s G Q' := by
  intro k
  induction k with
  | zero => intro pc lo s G Q Q' _ h; exact h
  | succ k ih =>
    intro pc lo s G Q Q' hQ h
    unfold X at h ⊢
    cases hs : stp E cx pc lo s G with
    | none => rw [hs] at h; exact h
    | some r =>
      rw [hs] at h
      rcases r with r | r | v
      · exact ih _ _ _ _ _ _ hQ h
      · exact hc _ _ _ _ _ (fun v G' q => ih _ _ _ _ _ _ hQ q) h
      · exact hQ _ _ h
theorem runs_mono {E : Ev} : ∀ d id a G (P P' : Po), (∀ v G', P v G' → P' v G') → runs E d id a G P → runs E d id a G P' := by
  intro d
  induction d with
  | zero => intro id a G P P' _ h; exact h
  | succ d ih =>
    intro id a G P P' hP h
    unfold runs at h ⊢
    cases hs : tY[id]? with
    | none => rw [hs] at h; exact h
    | some m =>
      rw [hs] at h
      obtain ⟨h1, k, h2⟩ := h
      exact ⟨h1, k, X_mono ih _ _ _ _ _ _ _ hP h2⟩
def grows (G G' : Hp) : Prop := G.1.length ≤ G'.1.length ∧ G.2 ≤ G'.2
theorem grows_rf {G : Hp} : grows G G := ⟨Nat.le_refl _, Nat.le_refl _⟩
theorem grows_st {E : Ev} {G : Hp} {a : Nat} {c : Cl} : grows G (st E G a c) := by
  unfold st
  split
  · exact ⟨by simp, Nat.le_refl _⟩
  · exact grows_rf
theorem grows_psh {G : Hp} {c : Cl} {n : Nat} : grows G (psh G c n) := ⟨by simp [psh], by simp [psh]⟩
theorem grows_pshs {G : Hp} {k n : Nat} : grows G (pshs G n k) := ⟨by simp [pshs], by simp [pshs]⟩
theorem grows_tr {A B C : Hp} (h : grows A B) (g : grows B C) : grows A C := ⟨Nat.le_trans h.1 g.1, Nat.le_trans h.2 g.2⟩
/-- what a piece of a step says of the heap behind it -/
def gro (G : Hp) (x : Option Rs) : Prop := ∀ r, x = some (.inl r) → grows G r.2.2.2
theorem gro_none {G : Hp} : gro G none := fun r h => by cases h
theorem gro_r {G : Hp} {q} : gro G (some (.inr q)) := fun r h => by cases h
theorem gro_nx {G G' : Hp} {pc lo s} (h : grows G G') : gro G (nx pc lo s G') := fun r e => by unfold nx at e; cases e; exact h
theorem gro_gd {G : Hp} {c : Prop} {d : Decidable c} {x : Option Rs} (h : gro G x) : gro G (gd c d x) := by
  unfold gd
  by_cases hc : c
  · rw [if_pos hc]; exact h
  · rw [if_neg hc]; exact gro_none
theorem gro_ov {G : Hp} {α : Type} {x : Option α} {f : α → Option Rs} (h : ∀ v, gro G (f v)) : gro G (ov x f) := by
  unfold ov
  cases x with
  | none => exact gro_none
  | some v => exact h v
theorem gro_ite {G : Hp} {c : Prop} [Decidable c] {x y : Option Rs} (h : gro G x) (g : gro G y) : gro G (if c then x else y) := by
  by_cases hc : c
  · rw [if_pos hc]; exact h
  · rw [if_neg hc]; exact g
theorem gro_jmp {G : Hp} {pc off lo s} : gro G (jmp pc off lo s G) := gro_gd (gro_nx grows_rf)
theorem gro_bra {G : Hp} {b pc off lo s} : gro G (bra b pc off lo s G) := by
  unfold bra
  refine gro_gd ?_
  cases b
  · exact gro_nx grows_rf
  · exact gro_nx grows_rf
theorem gro_p1i {G : Hp} {s f} (h : ∀ x r, gro G (f x r)) : gro G (p1i s f) := by unfold p1i; split; exact h _ _; exact gro_none
theorem gro_p2i {G : Hp} {s f} (h : ∀ x y r, gro G (f x y r)) : gro G (p2i s f) := by unfold p2i; split; exact h _ _ _; exact gro_none
theorem gro_p1l {G : Hp} {s f} (h : ∀ x r, gro G (f x r)) : gro G (p1l s f) := by unfold p1l; split; exact h _ _; exact gro_none
theorem gro_p2l {G : Hp} {s f} (h : ∀ x y r, gro G (f x y r)) : gro G (p2l s f) := by unfold p2l; split; exact h _ _ _; exact gro_none
theorem gro_pli {G : Hp} {s f} (h : ∀ x y r, gro G (f x y r)) : gro G (pli s f) := by unfold pli; split; exact h _ _ _; exact gro_none
theorem gro_p1r {G : Hp} {s f} (h : ∀ x r, gro G (f x r)) : gro G (p1r s f) := by unfold p1r; split; exact h _ _; exact gro_none
theorem gro_pir {G : Hp} {s f} (h : ∀ x y r, gro G (f x y r)) : gro G (pir s f) := by unfold pir; split; exact h _ _ _; exact gro_none
theorem gro_piir {G : Hp} {s f} (h : ∀ x y z r, gro G (f x y z r)) : gro G (piir s f) := by unfold piir; split; exact h _ _ _ _; exact gro_none
theorem gro_prir {G : Hp} {s f} (h : ∀ x y z r, gro G (f x y z r)) : gro G (prir s f) := by unfold prir; split; exact h _ _ _ _; exact gro_none
theorem gro_pvr {G : Hp} {s f} (h : ∀ x y r, gro G (f x y r)) : gro G (pvr s f) := by unfold pvr; split; exact h _ _ _; exact gro_none
theorem gro_pcp {G : Hp} {s f} (h : ∀ a b c d e r, gro G (f a b c d e r)) : gro G (pcp s f) := by unfold pcp; split; exact h _ _ _ _ _ _; exact gro_none
theorem gro_gtA {E : Ev} {G : Hp} {a f g} (h : ∀ x y z, gro G (f x y z)) (k : gro G g) : gro G (gtA E G a f g) := by unfold gtA; split; exact h _ _ _; exact k; exact gro_none
theorem gro_gtR {E : Ev} {G : Hp} {a f} (h : ∀ x y z, gro G (f x y z)) : gro G (gtR E G a f) := by unfold gtR; split; exact h _ _ _; exact gro_none
theorem gro_gtO {E : Ev} {G : Hp} {a f g} (h : ∀ x y, gro G (f x y)) (k : gro G g) : gro G (gtO E G a f g) := by unfold gtO; split; exact h _ _; exact k; exact gro_none
theorem gro_ld {G : Hp} {p pc i lo s} : gro G (ld p pc i lo s G) := gro_ov fun _ => gro_gd (gro_nx grows_rf)
theorem gro_sto1 {G : Hp} {p pc i lo s} : gro G (sto1 p pc i lo s G) := by unfold sto1; split; exact gro_gd (gro_ov fun _ => gro_nx grows_rf); exact gro_none
theorem gro_sto2 {G : Hp} {pc i lo s} : gro G (sto2 pc i lo s G) := gro_p1l fun _ _ => gro_ov fun _ => gro_nx grows_rf
theorem gro_callA {E : Ev} {G : Hp} {kind id pc s} : gro G (callA E kind id pc s G) := by
  unfold callA
  refine gro_ov fun m => ?_
  unfold callB
  refine gro_gd ?_
  split
  · split
    · exact gro_gd gro_r
    · exact gro_none
  · split
    · exact gro_gd gro_r
    · exact gro_none
  · exact gro_gd gro_r
theorem gro_invS {E : Ev} {G : Hp} {o x pc lo s} : gro G (invS E o x pc lo s G) := by
  unfold invS
  refine gro_ov fun q => ?_
  split
  · exact gro_callA
  · exact gro_callA
  · exact gro_pcp fun _ _ _ _ _ _ => gro_gtA (fun _ _ _ => gro_gtA (fun _ _ _ => gro_gd (gro_nx grows_st)) gro_none) gro_none
  · exact gro_p2i fun _ _ _ => gro_gd (gro_nx grows_rf)
  · exact gro_p2i fun _ _ _ => gro_gd (gro_nx grows_rf)
  · exact gro_none
theorem gro_invI {E : Ev} {G : Hp} {o x pc lo s} : gro G (invI E o x pc lo s G) := by
  unfold invI
  refine gro_ov fun q => ?_
  split
  · exact gro_callA
  · exact gro_p1r fun _ _ => gro_gd (gro_nx grows_rf)
  · exact gro_none
theorem gro_invV {E : Ev} {G : Hp} {o x pc s} : gro G (invV E o x pc s G) := by
  unfold invV
  refine gro_ov fun q => ?_
  split
  · exact gro_callA
  · exact gro_none
set_option maxHeartbeats 4000000 in
theorem gro_stpI {E : Ev} {cx : Cx} {i : Instr} {pc : Nat} {lo : Lo} {s : List Value} {G : Hp} : gro G (stpI E cx i pc lo s G) := by
  unfold stpI
  split
  all_goals first
    | exact gro_none
    | exact gro_nx grows_rf
    | exact gro_gd (gro_nx grows_rf)
    | exact gro_ov fun _ => gro_nx grows_rf
    | exact gro_ld
    | exact gro_sto1
    | exact gro_sto2
    | exact gro_jmp
    | exact gro_p2i fun _ _ _ => gro_nx grows_rf
    | exact gro_p2i fun _ _ _ => gro_gd (gro_nx grows_rf)
    | exact gro_p2l fun _ _ _ => gro_nx grows_rf
    | exact gro_p2l fun _ _ _ => gro_gd (gro_nx grows_rf)
    | exact gro_pli fun _ _ _ => gro_nx grows_rf
    | exact gro_p1i fun _ _ => gro_nx grows_rf
    | exact gro_p1l fun _ _ => gro_nx grows_rf
    | exact gro_p1i fun _ _ => gro_bra
    | exact gro_p2i fun _ _ _ => gro_bra
    | exact gro_p1i fun _ _ => gro_ite gro_jmp (gro_ov fun _ => gro_jmp)
    | exact gro_invS
    | exact gro_invI
    | exact gro_invV
    | exact gro_pvr fun _ _ _ => gro_ov fun _ => gro_gtO (fun _ _ => gro_gd (gro_nx grows_st)) gro_none
    | exact gro_pir fun _ _ _ => gro_gtA (fun _ _ _ => gro_gd (gro_nx grows_rf)) (gro_ov fun _ => gro_gd (gro_nx grows_rf))
    | exact gro_pir fun _ _ _ => gro_gtR fun _ _ _ => gro_gd (gro_ov fun _ => gro_nx grows_rf)
    | exact gro_piir fun _ _ _ _ => gro_gtA (fun _ _ _ => gro_gd (gro_nx grows_st)) gro_none
    | exact gro_prir fun _ _ _ _ => gro_gtR fun _ _ _ => gro_gd (gro_gtO (fun _ _ => gro_gd (gro_nx grows_st)) gro_none)
    | exact gro_p1i fun _ _ => gro_ov fun _ => gro_gd (gro_nx grows_psh)
    | exact gro_ov fun _ => gro_gd (gro_nx grows_psh)
    | exact gro_p2i fun _ _ _ => gro_gd (gro_nx (grows_tr grows_psh grows_pshs))
    | skip
  · split
    · exact gro_nx grows_rf
    · exact gro_ov fun _ => gro_nx grows_rf
  · refine gro_ov fun v => ?_
    split
    · exact gro_ov fun _ => gro_nx grows_rf
    · exact gro_none
  · split
    · exact gro_gd (gro_nx grows_rf)
    · exact gro_none
  · split
    · exact gro_gd (gro_nx grows_rf)
    · exact gro_none
  · refine gro_p1r fun a r => ?_
    split
    · exact gro_gtO (fun _ _ => gro_gd (gro_ov fun _ => gro_nx grows_rf)) gro_none
    · exact gro_gtO (fun _ _ => gro_none) (gro_ov fun _ => gro_nx grows_rf)
  · refine gro_p1r fun a r => ?_
    split
    · exact gro_nx grows_rf
    · exact gro_gd (gro_nx grows_rf)
    · exact gro_none
    · exact gro_ov fun _ => gro_nx grows_rf
  · refine gro_p1i fun n r => gro_gd ?_
    split
    · exact gro_nx grows_psh
    · exact gro_nx grows_psh
    · exact gro_nx grows_psh
    · exact gro_none
  all_goals
    repeat' split
  all_goals first
    | exact gro_gd gro_r
    | exact gro_r
    | exact gro_none
theorem stp_grows {E : Ev} {cx : Cx} {pc : Nat} {lo : Lo} {s : List Value} {G : Hp} {r} (h : stp E cx pc lo s G = some (.inl r)) : grows G r.2.2.2 := by
  unfold stp at h
  split at h
  · exact gro_gd gro_stpI _ h
  · cases h
/-- the run comes to one end -/
theorem X_res {call : Nat → List Value → Hp → Po → Prop} {E : Ev} {cx : Cx} (hc : ∀ id a G (P P' : Po), (∀ v G', P v G' → P' v G') → call id a G P → call id a G P')
    (hr : ∀ id a G (P : Po), call id a G P → ∃ v G', P v G' ∧ call id a G (fun v' G'' => v' = v ∧ G'' = G') ∧ grows G G') :
    ∀ k pc lo s G (Q : Po), X call E cx k pc lo s G Q → ∃ v G', Q v G' ∧ X call E cx k pc lo s G (fun v' G'' => v' = v ∧ G'' = G') ∧ grows G G' := by
  intro k
  induction k with
  | zero => intro pc lo s G Q h; exact h.elim
  | succ k ih =>
    intro pc lo s G Q h
    unfold X at h
    cases hs : stp E cx pc lo s G with
    | none => rw [hs] at h; exact h.elim
    | some r =>
      rw [hs] at h
      rcases r with r | r | v
      · obtain ⟨v, G', h1, h2, h3⟩ := ih _ _ _ _ _ h
        refine ⟨v, G', h1, ?_, grows_tr (stp_grows hs) h3⟩
        unfold X
        rw [hs]
        exact h2
      · obtain ⟨v1, G1, h1, h2, h3⟩ := hr _ _ _ _ h
        obtain ⟨v, G', g1, g2, g3⟩ := ih _ _ _ _ _ h1
        refine ⟨v, G', g1, ?_, grows_tr h3 g3⟩
        unfold X
        rw [hs]
        refine hc _ _ _ _ _ (fun v' G'' q => ?_) h2
        obtain ⟨rfl, rfl⟩ := q
        exact g2
      · refine ⟨v, G, h, ?_, grows_rf⟩
        unfold X
        rw [hs]
        exact ⟨rfl, rfl⟩
theorem runs_res {E : Ev} : ∀ d id a G (P : Po), runs E d id a G P → ∃ v G', P v G' ∧ runs E d id a G (fun v' G'' => v' = v ∧ G'' = G') ∧ grows G G' := by
  intro d
  induction d with
  | zero => intro id a G P h; exact h.elim
  | succ d ih =>
    intro id a G P h
    unfold runs at h
    cases hs : tY[id]? with
    | none => rw [hs] at h; exact h.elim
    | some m =>
      rw [hs] at h
      obtain ⟨h1, k, h2⟩ := h
      obtain ⟨v, G', g1, g2, g3⟩ := X_res (runs_mono d) ih _ _ _ _ _ _ h2
      refine ⟨v, G', g1, ?_, g3⟩
      unfold runs
      rw [hs]
      exact ⟨h1, k, g2⟩
/-! the rows of X -/
theorem Xr_nx {E : Ev} {d : Nat} {cx : Cx} {pc : Nat} {lo : Lo} {s : List Value} {G : Hp} {Q : Po} {pc' : Nat} {lo' : Lo} {s' : List Value} {G' : Hp} (h : stp E cx pc lo s G = nx pc' lo' s' G') : Xr E d cx pc lo s G Q = Xr E d cx pc' lo' s' G' Q := by
  apply propext
  constructor
  · rintro ⟨k, hk⟩
    cases k with
    | zero => exact hk.elim
    | succ k => unfold X at hk; rw [h] at hk; exact ⟨k, hk⟩
  · rintro ⟨k, hk⟩
    refine ⟨k + 1, ?_⟩
    unfold X
    rw [h]
    exact hk
theorem Xr_ret {E : Ev} {d : Nat} {cx : Cx} {pc : Nat} {lo : Lo} {s : List Value} {G : Hp} {Q : Po} {v : Option Value} (h : stp E cx pc lo s G = some (.inr (.inr v))) : Xr E d cx pc lo s G Q = Q v G := by
  apply propext
  constructor
  · rintro ⟨k, hk⟩
    cases k with
    | zero => exact hk.elim
    | succ k => unfold X at hk; rw [h] at hk; exact hk
  · intro hq
    refine ⟨1, ?_⟩
    unfold X
    rw [h]
    exact hq
theorem Xr_call {E : Ev} {d : Nat} {cx : Cx} {pc : Nat} {lo : Lo} {s : List Value} {G : Hp} {Q : Po} {id : Nat} {a : List Value} {pc' : Nat} {r : List Value} (h : stp E cx pc lo s G = some (.inr (.inl (id, a, pc', r)))) : Xr E d cx pc lo s G Q = runs E d id a G (fun v G' => Xr E d cx pc' lo (v.toList ++ r) G' Q) := by
  apply propext
  constructor
  · rintro ⟨k, hk⟩
    cases k with
    | zero => exact hk.elim
    | succ k =>
      unfold X at hk
      rw [h] at hk
      exact runs_mono _ _ _ _ _ _ (fun v G' q => ⟨k, q⟩) hk
  · intro hq
    obtain ⟨v, G', ⟨k, h1⟩, h2, -⟩ := runs_res _ _ _ _ _ hq
    refine ⟨k + 1, ?_⟩
    unfold X
    rw [h]
    refine runs_mono _ _ _ _ _ _ (fun v' G'' q => ?_) h2
    obtain ⟨rfl, rfl⟩ := q
    exact h1
theorem runs_eq {E : Ev} {d id : Nat} {a : List Value} {G : Hp} {Q : Po} {m : Mi} (hm : tY[id]? = some m) (hl : entS a ≤ m.2.2.1) : runs E (d + 1) id a G Q = Xr E d (cxM m) 0 (ent a m.2.2.1) [] G Q := by
  unfold runs Xr
  rw [hm]
  exact propext ⟨fun h => h.2, fun h => ⟨hl, h⟩⟩
/-- one end alone -/
theorem X_det {call : Nat → List Value → Hp → Po → Prop} {E : Ev} {cx : Cx} (hd : ∀ id a G (P P' : Po), call id a G P → call id a G P' → ∃ v G', P v G' ∧ P' v G') :
    ∀ k k' pc lo s G (Q Q' : Po), X call E cx k pc lo s G Q → X call E cx k' pc lo s G Q' → ∃ v G', Q v G' ∧ Q' v G' := by
  intro k
  induction k with
  | zero => intro k' pc lo s G Q Q' h; exact h.elim
  | succ k ih =>
    intro k' pc lo s G Q Q' h h'
    cases k' with
    | zero => exact h'.elim
    | succ k' =>
      unfold X at h h'
      cases hs : stp E cx pc lo s G with
      | none => rw [hs] at h; exact h.elim
      | some r =>
        rw [hs] at h h'
        rcases r with r | r | v
        · exact ih _ _ _ _ _ _ _ h h'
        · obtain ⟨v, G', h1, h2⟩ := hd _ _ _ _ _ h h'
          exact ih _ _ _ _ _ _ _ h1 h2
        · exact ⟨v, G, h, h'⟩
theorem runs_det {E : Ev} : ∀ d id a G (P P' : Po), runs E d id a G P → runs E d id a G P' → ∃ v G', P v G' ∧ P' v G' := by
  intro d
  induction d with
  | zero => intro id a G P P' h; exact h.elim
  | succ d ih =>
    intro id a G P P' h h'
    unfold runs at h h'
    cases hs : tY[id]? with
    | none => rw [hs] at h; exact h.elim
    | some m =>
      rw [hs] at h h'
      obtain ⟨-, k, h2⟩ := h
      obtain ⟨-, k', h2'⟩ := h'
      exact X_det ih _ _ _ _ _ _ _ _ h2 h2'
/-- a contract as an equation -/
theorem runs_one {E : Ev} {d id : Nat} {a : List Value} {G : Hp} {v : Option Value} {G' : Hp} (h : ∀ P : Po, P v G' → runs E d id a G P) (P : Po) : runs E d id a G P = P v G' := by
  apply propext
  refine ⟨fun q => ?_, h P⟩
  obtain ⟨v1, G1, h1, h2⟩ := runs_det d id a G _ _ q (h (fun v' G'' => v' = v ∧ G'' = G') ⟨rfl, rfl⟩)
  rw [← h2.1, ← h2.2]
  exact h1
theorem gt_st_self {E : Ev} {G : Hp} {a : Nat} {c : Cl} (h : (gt E G a).isSome = true) : gt E (st E G a c) a = some c := by
  unfold gt at h ⊢
  unfold st
  split at h
  · next hb =>
    rw [if_pos hb, if_pos hb]
    have hl : a - eB E < G.1.length := by
      rw [Option.isSome_iff_exists] at h
      obtain ⟨x, hx⟩ := h
      exact (List.getElem?_eq_some_iff.mp hx).1
    simp [hl]
  · cases h
theorem gt_st_ne {E : Ev} {G : Hp} {a b : Nat} {c : Cl} (h : b ≠ a) : gt E (st E G a c) b = gt E G b := by
  unfold gt st
  by_cases hb : eB E ≤ b
  · rw [if_pos hb, if_pos hb]
    by_cases ha : eB E ≤ a
    · rw [if_pos ha]
      have hn : a - eB E ≠ b - eB E := by omega
      simp [hn]
    · rw [if_neg ha]
  · rw [if_neg hb, if_neg hb]
theorem gt_psh {E : Ev} {G : Hp} {a n : Nat} {c : Cl} (h : a < nxA E G) : gt E (psh G c n) a = gt E G a := by
  unfold gt psh
  unfold nxA at h
  by_cases hb : eB E ≤ a
  · rw [if_pos hb, if_pos hb]
    rw [List.getElem?_append_left (by omega)]
  · rw [if_neg hb, if_neg hb]
theorem gt_psh_self {E : Ev} {G : Hp} {n : Nat} {c : Cl} : gt E (psh G c n) (nxA E G) = some c := by
  unfold gt psh nxA
  rw [if_pos (by omega)]
  simp
theorem nxA_st {E : Ev} {G : Hp} {a : Nat} {c : Cl} : nxA E (st E G a c) = nxA E G := by
  unfold nxA st
  split <;> simp
theorem nxA_psh {E : Ev} {G : Hp} {n : Nat} {c : Cl} : nxA E (psh G c n) = nxA E G + 1 := by
  unfold nxA psh
  simp
  omega
end
section
/-! rows of X, an instruction a row; what a heap access asks, as a piece of a formula -/
def qFI (E : Ev) (G : Hp) (a ci k : Nat) (F : Int32 → Prop) : Prop := match gt E G a with
  | some (.inr (.inr (c, fs))) => c = ci ∧ (match fs[k]? with
    | some (.int x) => F x
    | _ => False)
  | _ => False
def qFR (E : Ev) (G : Hp) (a ci k : Nat) (F : Nat → Prop) : Prop := match gt E G a with
  | some (.inr (.inr (c, fs))) => c = ci ∧ (match fs[k]? with
    | some (.ref x) => F x
    | _ => False)
  | _ => False
def qP (E : Ev) (G : Hp) (a ci k : Nat) (v : Value) (F : Hp → Prop) : Prop := match gt E G a with
  | some (.inr (.inr (c, fs))) => c = ci ∧ k < fs.length ∧ F (st E G a (cO c (fs.set k v)))
  | _ => False
def qIA (o : Nat) (E : Ev) (G : Hp) (a : Nat) (i : Int32) (F : Int32 → Prop) : Prop := match gt E G a with
  | some (.inl (k, n, f)) => k = 0 ∧ ¬ bad i n ∧ F (f i.toNatClampNeg)
  | none => (match oI o E a with
    | some q => ¬ bad i q.1 ∧ F (q.2 i.toNatClampNeg)
    | none => False)
  | _ => False
def qBA (E : Ev) (G : Hp) (a : Nat) (i : Int32) (F : Int32 → Prop) : Prop := match gt E G a with
  | some (.inl (k, n, f)) => (k = 1 ∨ k = 2) ∧ ¬ bad i n ∧ F (f i.toNatClampNeg)
  | none => (match oB E a with
    | some q => ¬ bad i q.1 ∧ F (q.2 i.toNatClampNeg)
    | none => False)
  | _ => False
def qRA (E : Ev) (G : Hp) (a : Nat) (i : Int32) (F : Nat → Prop) : Prop := match gt E G a with
  | some (.inr (.inl (k, n, f))) => k ≤ 2 ∧ ¬ bad i n ∧ (match f i.toNatClampNeg with
    | some v => F v
    | none => False)
  | _ => False
def qIS (E : Ev) (G : Hp) (a : Nat) (i x : Int32) (F : Hp → Prop) : Prop := match gt E G a with
  | some (.inl (k, n, f)) => k = 0 ∧ ¬ bad i n ∧ F (st E G a (cA 0 n (upd f i.toNatClampNeg x)))
  | _ => False
def qBS (E : Ev) (G : Hp) (a : Nat) (i x : Int32) (F : Hp → Prop) : Prop := match gt E G a with
  | some (.inl (k, n, f)) => (k = 1 ∨ k = 2) ∧ ¬ bad i n ∧ F (st E G a (cA k n (upd f i.toNatClampNeg (vp_nar (kT k) x))))
  | _ => False
def qRS (E : Ev) (G : Hp) (a : Nat) (i : Int32) (v : Nat) (F : Hp → Prop) : Prop := match gt E G a with
  | some (.inr (.inl (k, n, f))) => k ≤ 1 ∧ ¬ bad i n ∧ (match gt E G v with
    | some (.inr (.inr (c, _))) => c = k + 1 ∧ F (st E G a (cR k n (va_up f i.toNatClampNeg (some v))))
    | _ => False)
  | _ => False
def qL (o : Nat) (E : Ev) (G : Hp) (a : Nat) (F : Int32 → Prop) : Prop := match gt E G a with
  | some (.inl (_, n, _)) => F (Int32.ofNat n)
  | some (.inr (.inl (k, n, _))) => k ≤ 2 ∧ F (Int32.ofNat n)
  | some (.inr (.inr _)) => False
  | none => (match oL o E a with
    | some n => F (Int32.ofNat n)
    | none => False)
def qCp (E : Ev) (G : Hp) (a0 : Nat) (sp : Int32) (a : Nat) (dp n : Int32) (F : Hp → Prop) : Prop := match gt E G a0 with
  | some (.inl (k0, n0, f)) => (match gt E G a with
    | some (.inl (k, n1, g)) => (k0 = k ∧ ¬ sp < 0 ∧ ¬ dp < 0 ∧ ¬ n < 0 ∧ sp.toNatClampNeg + n.toNatClampNeg ≤ n0 ∧ dp.toNatClampNeg + n.toNatClampNeg ≤ n1 ∧ ∀ i, i < n.toNatClampNeg → fits (kT k) (.int (f (sp.toNatClampNeg + i))) = true) ∧ F (st E G a (cA k n1 (va_cpy f g sp.toNatClampNeg dp.toNatClampNeg n.toNatClampNeg)))
    | _ => False)
  | _ => False
def qCI (E : Ev) (d id : Nat) (a : List Value) (G : Hp) (F : Int32 → Hp → Prop) : Prop := runs E d id a G fun v G' => match v with
  | some (.int x) => F x G'
  | _ => False
def qCJ (E : Ev) (d id : Nat) (a : List Value) (G : Hp) (F : Int64 → Hp → Prop) : Prop := runs E d id a G fun v G' => match v with
  | some (.long x) => F x G'
  | _ => False
def qCR (E : Ev) (d id : Nat) (a : List Value) (G : Hp) (F : Nat → Hp → Prop) : Prop := runs E d id a G fun v G' => match v with
  | some (.ref x) => F x G'
  | _ => False
def qCV (E : Ev) (d id : Nat) (a : List Value) (G : Hp) (F : Hp → Prop) : Prop := runs E d id a G fun v G' => match v with
  | none => F G'
  | _ => False
section XR
variable {E : Ev} {d : Nat} {cx : Cx} {pc : Nat} {lo : Lo} {s : List Value} {G : Hp} {Q : Po}
theorem stp_of {i : Instr} {n : Nat} (hd : decode cx.2.1 pc = .ok (i, n)) (hl : lenOk i n = true) : stp E cx pc lo s G = stpI E cx i pc lo s G := by
  unfold stp
  rw [hd]
  exact if_pos hl
theorem r_nx {i : Instr} {n : Nat} {pc' lo' s' G'} (hd : decode cx.2.1 pc = .ok (i, n)) (hl : lenOk i n = true) (hs : stpI E cx i pc lo s G = nx pc' lo' s' G') (h : Xr E d cx pc' lo' s' G' Q) : Xr E d cx pc lo s G Q := by
  rw [Xr_nx ((stp_of hd hl).trans hs)]
  exact h
theorem r_iconst {n : Int} (hd : decode cx.2.1 pc = .ok (.iconst n, 1)) (h : Xr E d cx (pc + 1) lo (.int (iv n) :: s) G Q) : Xr E d cx pc lo s G Q := r_nx hd rfl rfl h
theorem r_bipush {n : Int} (hd : decode cx.2.1 pc = .ok (.bipush n, 2)) (hn : (Int8.ofInt n).toInt32 = iv n) (h : Xr E d cx (pc + 2) lo (.int (iv n) :: s) G Q) : Xr E d cx pc lo s G Q := r_nx hd rfl (if_pos hn) h
theorem r_sipush {n : Int} (hd : decode cx.2.1 pc = .ok (.sipush n, 3)) (hn : (Int16.ofInt n).toInt32 = iv n) (h : Xr E d cx (pc + 3) lo (.int (iv n) :: s) G Q) : Xr E d cx pc lo s G Q := r_nx hd rfl (if_pos hn) h
theorem r_lconst {n : Fin 2} {v : Int64} (hd : decode cx.2.1 pc = .ok (.lconst n, 1)) (hv : Int64.ofNat (n : Nat) = v) (h : Xr E d cx (pc + 1) lo (.long v :: s) G Q) : Xr E d cx pc lo s G Q := by subst hv; exact r_nx hd rfl rfl h
theorem r_ldcS {x : Nat} (hd : decode cx.2.1 pc = .ok (.ldc x, 2)) (hk : kS E cx.1 x = some (eS E)) (h : Xr E d cx (pc + 2) lo (.ref (eS E) :: s) G Q) : Xr E d cx pc lo s G Q := by
  refine r_nx hd rfl ?_ h
  show (match kS E cx.1 x with | some a => nx (pc + 2) lo (.ref a :: s) G | none => _) = _
  rw [hk]
theorem r_ldcw {x p : Nat} {v : Int32} {z : Int} (hd : decode cx.2.1 pc = .ok (.ldc_w x, 3)) (hk : fI cx.1 x = some (v, p)) (hv : v = iv z) (h : Xr E d cx (pc + 3) lo (.int (iv z) :: s) G Q) : Xr E d cx pc lo s G Q := by
  subst hv
  refine r_nx hd rfl ?_ h
  show ov (fI cx.1 x) _ = _
  rw [hk]
  rfl
theorem r_ldc2 {x p : Nat} {v : Int64} (hd : decode cx.2.1 pc = .ok (.ldc2_w x, 3)) (hk : fJ cx.1 x = some (v, p)) (h : Xr E d cx (pc + 3) lo (.long v :: s) G Q) : Xr E d cx pc lo s G Q := by
  refine r_nx hd rfl ?_ h
  show ov (fJ cx.1 x) _ = _
  rw [hk]
  rfl
theorem ld_eq {p : Value → Bool} {pc i : Nat} {v : Value} (hk : lget lo i = some v) (hp : p v = true) : ld p pc i lo s G = nx pc lo (v :: s) G := by
  unfold ld ldv
  rw [hk]
  exact if_pos hp
theorem r_iload_n {k : Fin 4} {x : Int32} (hd : decode cx.2.1 pc = .ok (.iload_n k, 1)) (hk : lget lo k = some (.int x)) (h : Xr E d cx (pc + 1) lo (.int x :: s) G Q) : Xr E d cx pc lo s G Q := r_nx hd rfl (ld_eq hk rfl) h
theorem r_iload {k : Nat} {x : Int32} (hd : decode cx.2.1 pc = .ok (.iload k, 2)) (hk : lget lo k = some (.int x)) (h : Xr E d cx (pc + 2) lo (.int x :: s) G Q) : Xr E d cx pc lo s G Q := r_nx hd rfl (ld_eq hk rfl) h
theorem r_lload_n {k : Fin 4} {x : Int64} (hd : decode cx.2.1 pc = .ok (.lload_n k, 1)) (hk : lget lo k = some (.long x)) (h : Xr E d cx (pc + 1) lo (.long x :: s) G Q) : Xr E d cx pc lo s G Q := r_nx hd rfl (ld_eq hk rfl) h
theorem r_lload {k : Nat} {x : Int64} (hd : decode cx.2.1 pc = .ok (.lload k, 2)) (hk : lget lo k = some (.long x)) (h : Xr E d cx (pc + 2) lo (.long x :: s) G Q) : Xr E d cx pc lo s G Q := r_nx hd rfl (ld_eq hk rfl) h
theorem r_aload_n {k : Fin 4} {x : Nat} (hd : decode cx.2.1 pc = .ok (.aload_n k, 1)) (hk : lget lo k = some (.ref x)) (h : Xr E d cx (pc + 1) lo (.ref x :: s) G Q) : Xr E d cx pc lo s G Q := r_nx hd rfl (ld_eq hk rfl) h
theorem r_aload {k : Nat} {x : Nat} (hd : decode cx.2.1 pc = .ok (.aload k, 2)) (hk : lget lo k = some (.ref x)) (h : Xr E d cx (pc + 2) lo (.ref x :: s) G Q) : Xr E d cx pc lo s G Q := r_nx hd rfl (ld_eq hk rfl) h
theorem sto1_eq {p : Value → Bool} {pc i : Nat} {v : Value} {lo' : Lo} (hk : lst1 lo i v = some lo') (hp : p v = true) : sto1 p pc i lo (v :: s) G = nx pc lo' s G := by
  show gd (p v = true) inferInstance (ov (lst1 lo i v) fun lo' => nx pc lo' s G) = _
  rw [hk]
  exact if_pos hp
theorem r_istore_n {k : Fin 4} {x : Int32} {lo' : Lo} (hd : decode cx.2.1 pc = .ok (.istore_n k, 1)) (hk : lst1 lo k (.int x) = some lo') (h : Xr E d cx (pc + 1) lo' s G Q) : Xr E d cx pc lo (.int x :: s) G Q := r_nx hd rfl (sto1_eq hk rfl) h
theorem r_istore {k : Nat} {x : Int32} {lo' : Lo} (hd : decode cx.2.1 pc = .ok (.istore k, 2)) (hk : lst1 lo k (.int x) = some lo') (h : Xr E d cx (pc + 2) lo' s G Q) : Xr E d cx pc lo (.int x :: s) G Q := r_nx hd rfl (sto1_eq hk rfl) h
theorem r_astore_n {k : Fin 4} {x : Nat} {lo' : Lo} (hd : decode cx.2.1 pc = .ok (.astore_n k, 1)) (hk : lst1 lo k (.ref x) = some lo') (h : Xr E d cx (pc + 1) lo' s G Q) : Xr E d cx pc lo (.ref x :: s) G Q := r_nx hd rfl (sto1_eq hk rfl) h
theorem r_astore {k : Nat} {x : Nat} {lo' : Lo} (hd : decode cx.2.1 pc = .ok (.astore k, 2)) (hk : lst1 lo k (.ref x) = some lo') (h : Xr E d cx (pc + 2) lo' s G Q) : Xr E d cx pc lo (.ref x :: s) G Q := r_nx hd rfl (sto1_eq hk rfl) h
theorem sto2_eq {pc i : Nat} {x : Int64} {lo' : Lo} (hk : lst2 lo i (.long x) = some lo') : sto2 pc i lo (.long x :: s) G = nx pc lo' s G := by
  unfold sto2 p1l
  show ov (lst2 lo i (.long x)) _ = _
  rw [hk]
  rfl
theorem r_lstore_n {k : Fin 4} {x : Int64} {lo' : Lo} (hd : decode cx.2.1 pc = .ok (.lstore_n k, 1)) (hk : lst2 lo k (.long x) = some lo') (h : Xr E d cx (pc + 1) lo' s G Q) : Xr E d cx pc lo (.long x :: s) G Q := r_nx hd rfl (sto2_eq hk) h
theorem r_lstore {k : Nat} {x : Int64} {lo' : Lo} (hd : decode cx.2.1 pc = .ok (.lstore k, 2)) (hk : lst2 lo k (.long x) = some lo') (h : Xr E d cx (pc + 2) lo' s G Q) : Xr E d cx pc lo (.long x :: s) G Q := r_nx hd rfl (sto2_eq hk) h
theorem r_iinc {k : Nat} {n : Int} {x : Int32} {lo' : Lo} (hd : decode cx.2.1 pc = .ok (.iinc k n, 3)) (hx : lget lo k = some (.int x)) (hk : lst1 lo k (.int (x + iv n)) = some lo') (h : Xr E d cx (pc + 3) lo' s G Q) : Xr E d cx pc lo s G Q := by
  refine r_nx hd rfl ?_ h
  show ldv lo k _ = _
  unfold ldv
  rw [hx]
  show ov (lst1 lo k _) _ = _
  rw [hk]
  rfl
theorem r_iadd {x y : Int32} (hd : decode cx.2.1 pc = .ok (.iadd, 1)) (h : Xr E d cx (pc + 1) lo (.int (x + y) :: s) G Q) : Xr E d cx pc lo (.int y :: .int x :: s) G Q := r_nx hd rfl rfl h
theorem r_isub {x y : Int32} (hd : decode cx.2.1 pc = .ok (.isub, 1)) (h : Xr E d cx (pc + 1) lo (.int (x - y) :: s) G Q) : Xr E d cx pc lo (.int y :: .int x :: s) G Q := r_nx hd rfl rfl h
theorem r_imul {x y : Int32} (hd : decode cx.2.1 pc = .ok (.imul, 1)) (h : Xr E d cx (pc + 1) lo (.int (x * y) :: s) G Q) : Xr E d cx pc lo (.int y :: .int x :: s) G Q := r_nx hd rfl rfl h
theorem r_iand {x y : Int32} (hd : decode cx.2.1 pc = .ok (.iand, 1)) (h : Xr E d cx (pc + 1) lo (.int (x &&& y) :: s) G Q) : Xr E d cx pc lo (.int y :: .int x :: s) G Q := r_nx hd rfl rfl h
theorem r_ior {x y : Int32} (hd : decode cx.2.1 pc = .ok (.ior, 1)) (h : Xr E d cx (pc + 1) lo (.int (x ||| y) :: s) G Q) : Xr E d cx pc lo (.int y :: .int x :: s) G Q := r_nx hd rfl rfl h
theorem r_ixor {x y : Int32} (hd : decode cx.2.1 pc = .ok (.ixor, 1)) (h : Xr E d cx (pc + 1) lo (.int (x ^^^ y) :: s) G Q) : Xr E d cx pc lo (.int y :: .int x :: s) G Q := r_nx hd rfl rfl h
theorem r_ishl {x y : Int32} (hd : decode cx.2.1 pc = .ok (.ishl, 1)) (h : Xr E d cx (pc + 1) lo (.int (x <<< (y &&& 31)) :: s) G Q) : Xr E d cx pc lo (.int y :: .int x :: s) G Q := r_nx hd rfl rfl h
theorem r_ishr {x y : Int32} (hd : decode cx.2.1 pc = .ok (.ishr, 1)) (h : Xr E d cx (pc + 1) lo (.int (x >>> (y &&& 31)) :: s) G Q) : Xr E d cx pc lo (.int y :: .int x :: s) G Q := r_nx hd rfl rfl h
theorem r_iushr {x y : Int32} (hd : decode cx.2.1 pc = .ok (.iushr, 1)) (h : Xr E d cx (pc + 1) lo (.int ((x.toUInt32 >>> (y.toUInt32 &&& Int32.toUInt32 31)).toInt32) :: s) G Q) : Xr E d cx pc lo (.int y :: .int x :: s) G Q := r_nx hd rfl rfl h
theorem r_idiv {x y : Int32} (hd : decode cx.2.1 pc = .ok (.idiv, 1)) (h : ¬ y = 0 ∧ Xr E d cx (pc + 1) lo (.int (x / y) :: s) G Q) : Xr E d cx pc lo (.int y :: .int x :: s) G Q := r_nx hd rfl (if_pos h.1) h.2
theorem r_irem {x y : Int32} (hd : decode cx.2.1 pc = .ok (.irem, 1)) (h : ¬ y = 0 ∧ Xr E d cx (pc + 1) lo (.int (x - x / y * y) :: s) G Q) : Xr E d cx pc lo (.int y :: .int x :: s) G Q := r_nx hd rfl (if_pos h.1) h.2
theorem r_ladd {x y : Int64} (hd : decode cx.2.1 pc = .ok (.ladd, 1)) (h : Xr E d cx (pc + 1) lo (.long (x + y) :: s) G Q) : Xr E d cx pc lo (.long y :: .long x :: s) G Q := r_nx hd rfl rfl h
theorem r_lsub {x y : Int64} (hd : decode cx.2.1 pc = .ok (.lsub, 1)) (h : Xr E d cx (pc + 1) lo (.long (x - y) :: s) G Q) : Xr E d cx pc lo (.long y :: .long x :: s) G Q := r_nx hd rfl rfl h
theorem r_lmul {x y : Int64} (hd : decode cx.2.1 pc = .ok (.lmul, 1)) (h : Xr E d cx (pc + 1) lo (.long (x * y) :: s) G Q) : Xr E d cx pc lo (.long y :: .long x :: s) G Q := r_nx hd rfl rfl h
theorem r_land {x y : Int64} (hd : decode cx.2.1 pc = .ok (.land, 1)) (h : Xr E d cx (pc + 1) lo (.long (x &&& y) :: s) G Q) : Xr E d cx pc lo (.long y :: .long x :: s) G Q := r_nx hd rfl rfl h
theorem r_lor {x y : Int64} (hd : decode cx.2.1 pc = .ok (.lor, 1)) (h : Xr E d cx (pc + 1) lo (.long (x ||| y) :: s) G Q) : Xr E d cx pc lo (.long y :: .long x :: s) G Q := r_nx hd rfl rfl h
theorem r_ldiv {x y : Int64} (hd : decode cx.2.1 pc = .ok (.ldiv, 1)) (h : ¬ y = 0 ∧ Xr E d cx (pc + 1) lo (.long (x / y) :: s) G Q) : Xr E d cx pc lo (.long y :: .long x :: s) G Q := r_nx hd rfl (if_pos h.1) h.2
theorem r_lrem {x y : Int64} (hd : decode cx.2.1 pc = .ok (.lrem, 1)) (h : ¬ y = 0 ∧ Xr E d cx (pc + 1) lo (.long (x - x / y * y) :: s) G Q) : Xr E d cx pc lo (.long y :: .long x :: s) G Q := r_nx hd rfl (if_pos h.1) h.2
theorem r_lushr {x : Int64} {y : Int32} (hd : decode cx.2.1 pc = .ok (.lushr, 1)) (h : Xr E d cx (pc + 1) lo (.long ((x.toUInt64 >>> (y.toInt64.toUInt64 &&& Int64.toUInt64 63)).toInt64) :: s) G Q) : Xr E d cx pc lo (.int y :: .long x :: s) G Q := r_nx hd rfl rfl h
theorem r_lshl {x : Int64} {y : Int32} (hd : decode cx.2.1 pc = .ok (.lshl, 1)) (h : Xr E d cx (pc + 1) lo (.long (x <<< (y.toInt64 &&& 63)) :: s) G Q) : Xr E d cx pc lo (.int y :: .long x :: s) G Q := r_nx hd rfl rfl h
theorem r_lcmp {x y : Int64} (hd : decode cx.2.1 pc = .ok (.lcmp, 1)) (h : Xr E d cx (pc + 1) lo (.int (lg_cmp x y) :: s) G Q) : Xr E d cx pc lo (.long y :: .long x :: s) G Q := r_nx hd rfl rfl h
theorem r_i2l {x : Int32} (hd : decode cx.2.1 pc = .ok (.i2l, 1)) (h : Xr E d cx (pc + 1) lo (.long x.toInt64 :: s) G Q) : Xr E d cx pc lo (.int x :: s) G Q := r_nx hd rfl rfl h
theorem r_l2i {x : Int64} (hd : decode cx.2.1 pc = .ok (.l2i, 1)) (h : Xr E d cx (pc + 1) lo (.int x.toInt32 :: s) G Q) : Xr E d cx pc lo (.long x :: s) G Q := r_nx hd rfl rfl h
theorem r_i2b {x : Int32} (hd : decode cx.2.1 pc = .ok (.i2b, 1)) (h : Xr E d cx (pc + 1) lo (.int x.toInt8.toInt32 :: s) G Q) : Xr E d cx pc lo (.int x :: s) G Q := r_nx hd rfl rfl h
theorem r_i2c {x : Int32} (hd : decode cx.2.1 pc = .ok (.i2c, 1)) (h : Xr E d cx (pc + 1) lo (.int (x.toUInt32 % 65536).toInt32 :: s) G Q) : Xr E d cx pc lo (.int x :: s) G Q := r_nx hd rfl rfl h
theorem r_dup {v : Value} (hd : decode cx.2.1 pc = .ok (.dup, 1)) (hc : v.category = 1) (h : Xr E d cx (pc + 1) lo (v :: v :: s) G Q) : Xr E d cx pc lo (v :: s) G Q := r_nx hd rfl (if_pos hc) h
theorem r_pop {v : Value} (hd : decode cx.2.1 pc = .ok (.pop, 1)) (hc : v.category = 1) (h : Xr E d cx (pc + 1) lo s G Q) : Xr E d cx pc lo (v :: s) G Q := r_nx hd rfl (if_pos hc) h
theorem jmp_eq {pc tgt : Nat} {off : Int} (ht : (pc : Int) + off = (tgt : Int)) : jmp pc off lo s G = nx tgt lo s G := by
  unfold jmp
  rw [ht]
  exact if_pos (Int.natCast_nonneg _)
theorem r_goto {off : Int} {tgt : Nat} (hd : decode cx.2.1 pc = .ok (.goto off, 3)) (ht : (pc : Int) + off = (tgt : Int)) (h : Xr E d cx tgt lo s G Q) : Xr E d cx pc lo s G Q := r_nx hd rfl (jmp_eq ht) h
theorem r_bra {i : Instr} {c : Prop} [dc : Decidable c] {off : Int} {tgt : Nat} {s' : List Value} (hd : decode cx.2.1 pc = .ok (i, 3)) (hl : lenOk i 3 = true) (hs : stpI E cx i pc lo s' G = bra (decide c) pc off lo s G) (ht : (pc : Int) + off = (tgt : Int)) (h : if c then Xr E d cx tgt lo s G Q else Xr E d cx (pc + 3) lo s G Q) : Xr E d cx pc lo s' G Q := by
  by_cases hc : c
  · rw [if_pos hc] at h
    refine r_nx hd hl ?_ h
    rw [hs, decide_eq_true hc]
    unfold bra
    rw [ht]
    exact if_pos (Int.natCast_nonneg _)
  · rw [if_neg hc] at h
    refine r_nx hd hl ?_ h
    rw [hs, decide_eq_false hc]
    unfold bra
    rw [ht]
    exact if_pos (Int.natCast_nonneg _)
theorem r_ifeq {off : Int} {tgt : Nat} {x : Int32} (hd : decode cx.2.1 pc = .ok (.ifCond .eq off, 3)) (ht : (pc : Int) + off = (tgt : Int)) (h : if x = 0 then Xr E d cx tgt lo s G Q else Xr E d cx (pc + 3) lo s G Q) : Xr E d cx pc lo (.int x :: s) G Q := r_bra hd rfl rfl ht h
theorem r_ifne {off : Int} {tgt : Nat} {x : Int32} (hd : decode cx.2.1 pc = .ok (.ifCond .ne off, 3)) (ht : (pc : Int) + off = (tgt : Int)) (h : if ¬ x = 0 then Xr E d cx tgt lo s G Q else Xr E d cx (pc + 3) lo s G Q) : Xr E d cx pc lo (.int x :: s) G Q := r_bra hd rfl rfl ht h
theorem r_iflt {off : Int} {tgt : Nat} {x : Int32} (hd : decode cx.2.1 pc = .ok (.ifCond .lt off, 3)) (ht : (pc : Int) + off = (tgt : Int)) (h : if x < 0 then Xr E d cx tgt lo s G Q else Xr E d cx (pc + 3) lo s G Q) : Xr E d cx pc lo (.int x :: s) G Q := r_bra hd rfl rfl ht h
theorem r_ifge {off : Int} {tgt : Nat} {x : Int32} (hd : decode cx.2.1 pc = .ok (.ifCond .ge off, 3)) (ht : (pc : Int) + off = (tgt : Int)) (h : if 0 ≤ x then Xr E d cx tgt lo s G Q else Xr E d cx (pc + 3) lo s G Q) : Xr E d cx pc lo (.int x :: s) G Q := r_bra hd rfl rfl ht h
theorem r_ifgt {off : Int} {tgt : Nat} {x : Int32} (hd : decode cx.2.1 pc = .ok (.ifCond .gt off, 3)) (ht : (pc : Int) + off = (tgt : Int)) (h : if 0 < x then Xr E d cx tgt lo s G Q else Xr E d cx (pc + 3) lo s G Q) : Xr E d cx pc lo (.int x :: s) G Q := r_bra hd rfl rfl ht h
theorem r_ifle {off : Int} {tgt : Nat} {x : Int32} (hd : decode cx.2.1 pc = .ok (.ifCond .le off, 3)) (ht : (pc : Int) + off = (tgt : Int)) (h : if x ≤ 0 then Xr E d cx tgt lo s G Q else Xr E d cx (pc + 3) lo s G Q) : Xr E d cx pc lo (.int x :: s) G Q := r_bra hd rfl rfl ht h
theorem r_ceq {off : Int} {tgt : Nat} {x y : Int32} (hd : decode cx.2.1 pc = .ok (.if_icmp .eq off, 3)) (ht : (pc : Int) + off = (tgt : Int)) (h : if x = y then Xr E d cx tgt lo s G Q else Xr E d cx (pc + 3) lo s G Q) : Xr E d cx pc lo (.int y :: .int x :: s) G Q := r_bra hd rfl rfl ht h
theorem r_cne {off : Int} {tgt : Nat} {x y : Int32} (hd : decode cx.2.1 pc = .ok (.if_icmp .ne off, 3)) (ht : (pc : Int) + off = (tgt : Int)) (h : if ¬ x = y then Xr E d cx tgt lo s G Q else Xr E d cx (pc + 3) lo s G Q) : Xr E d cx pc lo (.int y :: .int x :: s) G Q := r_bra hd rfl rfl ht h
theorem r_clt {off : Int} {tgt : Nat} {x y : Int32} (hd : decode cx.2.1 pc = .ok (.if_icmp .lt off, 3)) (ht : (pc : Int) + off = (tgt : Int)) (h : if x < y then Xr E d cx tgt lo s G Q else Xr E d cx (pc + 3) lo s G Q) : Xr E d cx pc lo (.int y :: .int x :: s) G Q := r_bra hd rfl rfl ht h
theorem r_cge {off : Int} {tgt : Nat} {x y : Int32} (hd : decode cx.2.1 pc = .ok (.if_icmp .ge off, 3)) (ht : (pc : Int) + off = (tgt : Int)) (h : if y ≤ x then Xr E d cx tgt lo s G Q else Xr E d cx (pc + 3) lo s G Q) : Xr E d cx pc lo (.int y :: .int x :: s) G Q := r_bra hd rfl rfl ht h
theorem r_cgt {off : Int} {tgt : Nat} {x y : Int32} (hd : decode cx.2.1 pc = .ok (.if_icmp .gt off, 3)) (ht : (pc : Int) + off = (tgt : Int)) (h : if y < x then Xr E d cx tgt lo s G Q else Xr E d cx (pc + 3) lo s G Q) : Xr E d cx pc lo (.int y :: .int x :: s) G Q := r_bra hd rfl rfl ht h
theorem r_cle {off : Int} {tgt : Nat} {x y : Int32} (hd : decode cx.2.1 pc = .ok (.if_icmp .le off, 3)) (ht : (pc : Int) + off = (tgt : Int)) (h : if x ≤ y then Xr E d cx tgt lo s G Q else Xr E d cx (pc + 3) lo s G Q) : Xr E d cx pc lo (.int y :: .int x :: s) G Q := r_bra hd rfl rfl ht h
theorem r_tswIn {dflt l hh : Int} {offs : Array Int} {n : Nat} {x : Int32} {off : Int} {tgt : Nat} (hd : decode cx.2.1 pc = .ok (.tableswitch dflt l hh offs, n)) (h1 : ¬ (x.toInt < l ∨ hh < x.toInt)) (ho : offs[(x.toInt - l).toNat]? = some off) (ht : (pc : Int) + off = (tgt : Int)) (h : Xr E d cx tgt lo s G Q) : Xr E d cx pc lo (.int x :: s) G Q := by
  refine r_nx hd rfl ?_ h
  show (if x.toInt < l ∨ hh < x.toInt then jmp pc dflt lo s G else ov offs[(x.toInt - l).toNat]? fun off => jmp pc off lo s G) = _
  rw [if_neg h1, ho]
  exact jmp_eq ht
theorem r_tswOut {dflt l hh : Int} {offs : Array Int} {n : Nat} {x : Int32} {tgt : Nat} (hd : decode cx.2.1 pc = .ok (.tableswitch dflt l hh offs, n)) (h1 : x.toInt < l ∨ hh < x.toInt) (ht : (pc : Int) + dflt = (tgt : Int)) (h : Xr E d cx tgt lo s G Q) : Xr E d cx pc lo (.int x :: s) G Q := by
  refine r_nx hd rfl ?_ h
  show (if x.toInt < l ∨ hh < x.toInt then jmp pc dflt lo s G else _) = _
  rw [if_pos h1]
  exact jmp_eq ht
/-! heap -/
theorem getO_eq {x a : Nat} {q : Nat × Nat × Nat} {fs : List Value} {v : Value} {r : List Value} (hf : fF cx.1 x = some q) (hg : gt E G a = some (cO q.1 fs)) (hv : fs[q.2.1]? = some v) : stpI E cx (.getfield x) pc lo (.ref a :: r) G = nx (pc + 3) lo (v :: r) G := by
  show (match fF cx.1 x with | some q => gtO E G a (fun c fs => gd (c = q.1) inferInstance (ov fs[q.2.1]? fun v => nx (pc + 3) lo (v :: r) G)) none | none => _) = _
  rw [hf]
  show gtO E G a _ _ = _
  unfold gtO
  rw [hg]
  show gd _ _ (ov fs[q.2.1]? _) = _
  rw [hv]
  exact if_pos rfl
theorem r_getI {x a ci k p : Nat} (hd : decode cx.2.1 pc = .ok (.getfield x, 3)) (hf : fF cx.1 x = some (ci, k, p)) (h : qFI E G a ci k fun v => Xr E d cx (pc + 3) lo (.int v :: s) G Q) : Xr E d cx pc lo (.ref a :: s) G Q := by
  unfold qFI at h
  split at h
  · next c fs hg =>
    obtain ⟨rfl, h⟩ := h
    split at h
    · next v hv => exact r_nx hd rfl (getO_eq hf hg hv) h
    · exact h.elim
  · exact h.elim
theorem r_getR {x a ci k p : Nat} (hd : decode cx.2.1 pc = .ok (.getfield x, 3)) (hf : fF cx.1 x = some (ci, k, p)) (h : qFR E G a ci k fun v => Xr E d cx (pc + 3) lo (.ref v :: s) G Q) : Xr E d cx pc lo (.ref a :: s) G Q := by
  unfold qFR at h
  split at h
  · next c fs hg =>
    obtain ⟨rfl, h⟩ := h
    split at h
    · next v hv => exact r_nx hd rfl (getO_eq hf hg hv) h
    · exact h.elim
  · exact h.elim
theorem r_getH {x a : Nat} {v : Value} (hd : decode cx.2.1 pc = .ok (.getfield x, 3)) (hf : fF cx.1 x = none) (hv : hT E cx.1 x a = some v) (h : gt E G a = none ∧ Xr E d cx (pc + 3) lo (v :: s) G Q) : Xr E d cx pc lo (.ref a :: s) G Q := by
  refine r_nx hd rfl ?_ h.2
  show (match fF cx.1 x with | some q => _ | none => gtO E G a (fun _ _ => none) (ov (hT E cx.1 x a) fun v => nx (pc + 3) lo (v :: s) G)) = _
  rw [hf]
  show gtO E G a _ _ = _
  unfold gtO
  rw [h.1]
  show ov _ _ = _
  rw [hv]
  rfl
theorem r_gets {x : Nat} {v : Value} (hd : decode cx.2.1 pc = .ok (.getstatic x, 3)) (hv : gS E cx.1 x = some v) (h : Xr E d cx (pc + 3) lo (v :: s) G Q) : Xr E d cx pc lo s G Q := by
  refine r_nx hd rfl ?_ h
  show ov (gS E cx.1 x) _ = _
  rw [hv]
  rfl
theorem r_put {x a ci k p : Nat} {v : Value} (hd : decode cx.2.1 pc = .ok (.putfield x, 3)) (hf : fF cx.1 x = some (ci, k, p)) (ho : okV (fTy ci k) v = true) (hi : (fTb ci k).2.2.2 = true → cx.2.2.1 = true ∧ cx.1 = ci) (h : qP E G a ci k v fun G' => Xr E d cx (pc + 3) lo s G' Q) : Xr E d cx pc lo (v :: .ref a :: s) G Q := by
  unfold qP at h
  split at h
  · next c fs hg =>
    obtain ⟨rfl, hl, h⟩ := h
    refine r_nx hd rfl ?_ h
    show ov (fF cx.1 x) _ = _
    rw [hf]
    show gtO E G a _ _ = _
    unfold gtO
    rw [hg]
    exact if_pos ⟨rfl, hl, ho, hi⟩
  · exact h.elim
theorem r_iald {a : Nat} {i : Int32} (hd : decode cx.2.1 pc = .ok (.iaload, 1)) (h : qIA cx.1 E G a i fun v => Xr E d cx (pc + 1) lo (.int v :: s) G Q) : Xr E d cx pc lo (.int i :: .ref a :: s) G Q := by
  unfold qIA at h
  split at h
  · next k n f hg =>
    refine r_nx hd rfl ?_ h.2.2
    show gtA E G a _ _ = _
    unfold gtA
    rw [hg]
    exact if_pos ⟨h.1, h.2.1⟩
  · next hg =>
    split at h
    · next q hq =>
      refine r_nx hd rfl ?_ h.2
      show gtA E G a _ _ = _
      unfold gtA
      rw [hg]
      show ov (oI cx.1 E a) _ = _
      rw [hq]
      exact if_pos h.1
    · exact h.elim
  · exact h.elim
theorem r_bald {a : Nat} {i : Int32} (hd : decode cx.2.1 pc = .ok (.baload, 1)) (h : qBA E G a i fun v => Xr E d cx (pc + 1) lo (.int v :: s) G Q) : Xr E d cx pc lo (.int i :: .ref a :: s) G Q := by
  unfold qBA at h
  split at h
  · next k n f hg =>
    refine r_nx hd rfl ?_ h.2.2
    show gtA E G a _ _ = _
    unfold gtA
    rw [hg]
    exact if_pos ⟨h.1, h.2.1⟩
  · next hg =>
    split at h
    · next q hq =>
      refine r_nx hd rfl ?_ h.2
      show gtA E G a _ _ = _
      unfold gtA
      rw [hg]
      show ov (oB E a) _ = _
      rw [hq]
      exact if_pos h.1
    · exact h.elim
  · exact h.elim
theorem r_aald {a : Nat} {i : Int32} (hd : decode cx.2.1 pc = .ok (.aaload, 1)) (h : qRA E G a i fun v => Xr E d cx (pc + 1) lo (.ref v :: s) G Q) : Xr E d cx pc lo (.int i :: .ref a :: s) G Q := by
  unfold qRA at h
  split at h
  · next k n f hg =>
    obtain ⟨h1, h2, h⟩ := h
    split at h
    · next v hv =>
      refine r_nx hd rfl ?_ h
      show gtR E G a _ = _
      unfold gtR
      rw [hg]
      show gd _ _ (ov (f i.toNatClampNeg) _) = _
      rw [hv]
      exact if_pos ⟨h1, h2⟩
    · exact h.elim
  · exact h.elim
theorem r_iast {a : Nat} {i x : Int32} (hd : decode cx.2.1 pc = .ok (.iastore, 1)) (h : qIS E G a i x fun G' => Xr E d cx (pc + 1) lo s G' Q) : Xr E d cx pc lo (.int x :: .int i :: .ref a :: s) G Q := by
  unfold qIS at h
  split at h
  · next k n f hg =>
    refine r_nx hd rfl ?_ h.2.2
    show gtA E G a _ _ = _
    unfold gtA
    rw [hg]
    exact if_pos ⟨h.1, h.2.1⟩
  · exact h.elim
theorem r_bast {a : Nat} {i x : Int32} (hd : decode cx.2.1 pc = .ok (.bastore, 1)) (h : qBS E G a i x fun G' => Xr E d cx (pc + 1) lo s G' Q) : Xr E d cx pc lo (.int x :: .int i :: .ref a :: s) G Q := by
  unfold qBS at h
  split at h
  · next k n f hg =>
    refine r_nx hd rfl ?_ h.2.2
    show gtA E G a _ _ = _
    unfold gtA
    rw [hg]
    exact if_pos ⟨h.1, h.2.1⟩
  · exact h.elim
theorem r_aast {a v : Nat} {i : Int32} (hd : decode cx.2.1 pc = .ok (.aastore, 1)) (h : qRS E G a i v fun G' => Xr E d cx (pc + 1) lo s G' Q) : Xr E d cx pc lo (.ref v :: .int i :: .ref a :: s) G Q := by
  unfold qRS at h
  split at h
  · next k n f hg =>
    obtain ⟨h1, h2, h⟩ := h
    split at h
    · next c fs hv =>
      refine r_nx hd rfl ?_ h.2
      show gtR E G a _ = _
      unfold gtR
      rw [hg]
      show gd _ _ (gtO E G v _ _) = _
      unfold gtO
      rw [hv]
      show gd _ _ (gd _ _ _) = _
      rw [show gd (c = k + 1) inferInstance (nx (pc + 1) lo s (st E G a (cR k n (va_up f i.toNatClampNeg (some v))))) = nx (pc + 1) lo s (st E G a (cR k n (va_up f i.toNatClampNeg (some v)))) from if_pos h.1]
      exact if_pos ⟨h1, h2⟩
    · exact h.elim
  · exact h.elim
theorem r_alen {a : Nat} (hd : decode cx.2.1 pc = .ok (.arraylength, 1)) (h : qL cx.1 E G a fun v => Xr E d cx (pc + 1) lo (.int v :: s) G Q) : Xr E d cx pc lo (.ref a :: s) G Q := by
  unfold qL at h
  have e : stpI E cx .arraylength pc lo (.ref a :: s) G = (match gt E G a with
    | some (.inl (_, n, _)) => nx (pc + 1) lo (.int (Int32.ofNat n) :: s) G
    | some (.inr (.inl (k, n, _))) => gd (k ≤ 2) inferInstance (nx (pc + 1) lo (.int (Int32.ofNat n) :: s) G)
    | some (.inr (.inr _)) => none
    | none => ov (oL cx.1 E a) fun n => nx (pc + 1) lo (.int (Int32.ofNat n) :: s) G) := rfl
  split at h
  · next hg => exact r_nx hd rfl (by rw [e, hg]) h
  · next hg => exact r_nx hd rfl (by rw [e, hg]; exact if_pos h.1) h.2
  · exact h.elim
  · next hg =>
    split at h
    · next hq => exact r_nx hd rfl (by rw [e, hg, hq]; rfl) h
    · exact h.elim
theorem r_newI {n : Int32} (hd : decode cx.2.1 pc = .ok (.newarray .int, 2)) (h : (¬ n < 0 ∧ n.toNatClampNeg ≤ 100000) ∧ Xr E d cx (pc + 2) lo (.ref (nxA E G) :: s) (psh G (cA 0 n.toNatClampNeg (fun _ => 0)) n.toNatClampNeg) Q) : Xr E d cx pc lo (.int n :: s) G Q := r_nx hd rfl (if_pos h.1) h.2
theorem r_newB {n : Int32} (hd : decode cx.2.1 pc = .ok (.newarray .byte, 2)) (h : (¬ n < 0 ∧ n.toNatClampNeg ≤ 100000) ∧ Xr E d cx (pc + 2) lo (.ref (nxA E G) :: s) (psh G (cA 1 n.toNatClampNeg (fun _ => 0)) n.toNatClampNeg) Q) : Xr E d cx pc lo (.int n :: s) G Q := r_nx hd rfl (if_pos h.1) h.2
theorem r_newZ {n : Int32} (hd : decode cx.2.1 pc = .ok (.newarray .boolean, 2)) (h : (¬ n < 0 ∧ n.toNatClampNeg ≤ 100000) ∧ Xr E d cx (pc + 2) lo (.ref (nxA E G) :: s) (psh G (cA 2 n.toNatClampNeg (fun _ => 0)) n.toNatClampNeg) Q) : Xr E d cx pc lo (.int n :: s) G Q := r_nx hd rfl (if_pos h.1) h.2
theorem r_newR {n : Int32} {x p ci : Nat} (hd : decode cx.2.1 pc = .ok (.anewarray x, 3)) (hf : fC cx.1 x = some (ci, p)) (hc : ci = 1 ∨ ci = 2) (h : (¬ n < 0 ∧ n.toNatClampNeg ≤ 100000) ∧ Xr E d cx (pc + 3) lo (.ref (nxA E G) :: s) (psh G (cR (ci - 1) n.toNatClampNeg (fun _ => none)) n.toNatClampNeg) Q) : Xr E d cx pc lo (.int n :: s) G Q := by
  refine r_nx hd rfl ?_ h.2
  show ov (fC cx.1 x) _ = _
  rw [hf]
  exact if_pos ⟨hc, h.1⟩
theorem r_newM {n k : Int32} (hd : decode cx.2.1 pc = .ok (.multianewarray 15 2, 4)) (ho : cx.1 = 5) (h : (¬ n < 0 ∧ ¬ k < 0 ∧ n.toNatClampNeg ≤ 1000 ∧ k.toNatClampNeg ≤ 1000) ∧ Xr E d cx (pc + 4) lo (.ref (nxA E G) :: s) (pshs (psh G (cR 2 n.toNatClampNeg (fun i => if i < n.toNatClampNeg then some (nxA E G + 1 + i) else none)) n.toNatClampNeg) n.toNatClampNeg k.toNatClampNeg) Q) : Xr E d cx pc lo (.int k :: .int n :: s) G Q := r_nx hd rfl (if_pos ⟨ho, rfl, h.1⟩) h.2
theorem r_new {x p ci : Nat} (hd : decode cx.2.1 pc = .ok (.new x, 3)) (hf : fC cx.1 x = some (ci, p)) (hc : ci < 8) (h : Xr E d cx (pc + 3) lo (.ref (nxA E G) :: s) (psh G (cO ci (fDf ci)) (fSz ci)) Q) : Xr E d cx pc lo s G Q := by
  refine r_nx hd rfl ?_ h
  show ov (fC cx.1 x) _ = _
  rw [hf]
  exact if_pos hc
theorem r_cpy {x a0 a p z : Nat} {sp dp n : Int32} (hd : decode cx.2.1 pc = .ok (.invokestatic x, 3)) (hf : fM cx.1 x = some (3, z, p)) (hl : s.length ≤ 4) (h : qCp E G a0 sp a dp n fun G' => Xr E d cx (pc + 3) lo s G' Q) : Xr E d cx pc lo (.int n :: .int dp :: .ref a :: .int sp :: .ref a0 :: s) G Q := by
  unfold qCp at h
  split at h
  · next k0 n0 f hg0 =>
    split at h
    · next k n1 g hg =>
      obtain ⟨⟨h1, h2⟩, h⟩ := h
      refine r_nx hd rfl ?_ h
      show ov (fM cx.1 x) _ = _
      rw [hf]
      show gtA E G a0 _ _ = _
      unfold gtA
      rw [hg0]
      show gtA E G a _ _ = _
      unfold gtA
      rw [hg]
      exact if_pos ⟨h1, hl, h2⟩
    · exact h.elim
  · exact h.elim
theorem r_oinit {x a p z : Nat} (hd : decode cx.2.1 pc = .ok (.invokespecial x, 3)) (hf : fM cx.1 x = some (4, z, p)) (hl : s.length ≤ 4) (h : Xr E d cx (pc + 3) lo s G Q) : Xr E d cx pc lo (.ref a :: s) G Q := by
  refine r_nx hd rfl ?_ h
  show ov (fM cx.1 x) _ = _
  rw [hf]
  exact if_pos hl
theorem r_max {x p z : Nat} {a b : Int32} (hd : decode cx.2.1 pc = .ok (.invokestatic x, 3)) (hf : fM cx.1 x = some (6, z, p)) (hl : s.length ≤ 4) (h : Xr E d cx (pc + 3) lo (.int (imax a b) :: s) G Q) : Xr E d cx pc lo (.int b :: .int a :: s) G Q := by
  refine r_nx hd rfl ?_ h
  show ov (fM cx.1 x) _ = _
  rw [hf]
  exact if_pos hl
theorem r_min {x p z : Nat} {a b : Int32} (hd : decode cx.2.1 pc = .ok (.invokestatic x, 3)) (hf : fM cx.1 x = some (7, z, p)) (hl : s.length ≤ 4) (h : Xr E d cx (pc + 3) lo (.int (imin a b) :: s) G Q) : Xr E d cx pc lo (.int b :: .int a :: s) G Q := by
  refine r_nx hd rfl ?_ h
  show ov (fM cx.1 x) _ = _
  rw [hf]
  exact if_pos hl
/-! calls -/
theorem r_call {i : Instr} {id : Nat} {a r : List Value} (hd : decode cx.2.1 pc = .ok (i, 3)) (hl : lenOk i 3 = true) (hs : stpI E cx i pc lo s G = some (.inr (.inl (id, a, pc + 3, r)))) (h : runs E d id a G (fun v G' => Xr E d cx (pc + 3) lo (v.toList ++ r) G' Q)) : Xr E d cx pc lo s G Q := by
  rw [Xr_call ((stp_of hd hl).trans hs)]
  exact h
theorem invS_eq {x kind id p : Nat} {m : Mi} {a r : List Value} (hf : fM cx.1 x = some (kind, id, p)) (hk : kind = 0 ∨ kind = 5) (hm : tY[id]? = some m) (hst : m.2.2.2.2.2.2.2 = true) (ha : (s.take (nA m)).reverse = a) (hr : s.drop (nA m) = r) (hl : a.length = nA m ∧ r.length ≤ 4) : stpI E cx (.invokestatic x) pc lo s G = some (.inr (.inl (id, a, pc + 3, r))) := by
  show invS E cx.1 x pc lo s G = _
  unfold invS
  rw [hf]
  rcases hk with rfl | rfl
  · show callA E 0 id pc s G = _
    unfold callA
    rw [hm]
    show callB E 0 id pc G m _ _ = _
    rw [ha, hr]
    unfold callB
    exact (if_pos hl).trans (if_pos hst)
  · show callA E 5 id pc s G = _
    unfold callA
    rw [hm]
    show callB E 5 id pc G m _ _ = _
    rw [ha, hr]
    unfold callB
    exact (if_pos hl).trans (if_pos hst)
theorem invV_eq {x id p b : Nat} {m : Mi} {a r : List Value} (hf : fM cx.1 x = some (1, id, p)) (hm : tY[id]? = some m) (hst : m.2.2.2.2.2.2.2 = false) (hin : m.2.2.2.2.2.2.1 = false) (ha : (s.take (nA m)).reverse = .ref b :: a) (hr : s.drop (nA m) = r) (hl : (Value.ref b :: a).length = nA m ∧ r.length ≤ 4) (hrc : rcv E G b m.2.2.2.2.2.1 = true) : stpI E cx (.invokevirtual x) pc lo s G = some (.inr (.inl (id, .ref b :: a, pc + 3, r))) := by
  show invV E cx.1 x pc s G = _
  unfold invV
  rw [hf]
  show callA E 1 id pc s G = _
  unfold callA
  rw [hm]
  show callB E 1 id pc G m _ _ = _
  rw [ha, hr]
  unfold callB
  exact (if_pos hl).trans (if_pos ⟨hst, hin, hrc⟩)
theorem invI_eq {x id p b : Nat} {m : Mi} {a r : List Value} (hf : fM cx.1 x = some (2, id, p)) (hm : tY[id]? = some m) (hst : m.2.2.2.2.2.2.2 = false) (hin : m.2.2.2.2.2.2.1 = true) (ha : (s.take (nA m)).reverse = .ref b :: a) (hr : s.drop (nA m) = r) (hl : (Value.ref b :: a).length = nA m ∧ r.length ≤ 4) : stpI E cx (.invokespecial x) pc lo s G = some (.inr (.inl (id, .ref b :: a, pc + 3, r))) := by
  show invI E cx.1 x pc lo s G = _
  unfold invI
  rw [hf]
  show callA E 2 id pc s G = _
  unfold callA
  rw [hm]
  show callB E 2 id pc G m _ _ = _
  rw [ha, hr]
  unfold callB
  exact (if_pos hl).trans (if_pos ⟨hst, hin⟩)
theorem r_cI {i : Instr} {id : Nat} {a r : List Value} (hd : decode cx.2.1 pc = .ok (i, 3)) (hl : lenOk i 3 = true) (hs : stpI E cx i pc lo s G = some (.inr (.inl (id, a, pc + 3, r)))) (h : qCI E d id a G (fun v G' => Xr E d cx (pc + 3) lo (.int v :: r) G' Q)) : Xr E d cx pc lo s G Q :=
  r_call hd hl hs (runs_mono _ _ _ _ _ _ (fun v G' q => by
    split at q
    · exact q
    · exact q.elim) h)
theorem r_cJ {i : Instr} {id : Nat} {a r : List Value} (hd : decode cx.2.1 pc = .ok (i, 3)) (hl : lenOk i 3 = true) (hs : stpI E cx i pc lo s G = some (.inr (.inl (id, a, pc + 3, r)))) (h : qCJ E d id a G (fun v G' => Xr E d cx (pc + 3) lo (.long v :: r) G' Q)) : Xr E d cx pc lo s G Q :=
  r_call hd hl hs (runs_mono _ _ _ _ _ _ (fun v G' q => by
    split at q
    · exact q
    · exact q.elim) h)
theorem r_cR {i : Instr} {id : Nat} {a r : List Value} (hd : decode cx.2.1 pc = .ok (i, 3)) (hl : lenOk i 3 = true) (hs : stpI E cx i pc lo s G = some (.inr (.inl (id, a, pc + 3, r)))) (h : qCR E d id a G (fun v G' => Xr E d cx (pc + 3) lo (.ref v :: r) G' Q)) : Xr E d cx pc lo s G Q :=
  r_call hd hl hs (runs_mono _ _ _ _ _ _ (fun v G' q => by
    split at q
    · exact q
    · exact q.elim) h)
theorem r_cV {i : Instr} {id : Nat} {a r : List Value} (hd : decode cx.2.1 pc = .ok (i, 3)) (hl : lenOk i 3 = true) (hs : stpI E cx i pc lo s G = some (.inr (.inl (id, a, pc + 3, r)))) (h : qCV E d id a G (fun G' => Xr E d cx (pc + 3) lo r G' Q)) : Xr E d cx pc lo s G Q :=
  r_call hd hl hs (runs_mono _ _ _ _ _ _ (fun v G' q => by
    split at q
    · exact q
    · exact q.elim) h)
/-! ends -/
theorem r_ret {i : Instr} {v : Option Value} (hd : decode cx.2.1 pc = .ok (i, 1)) (hl : lenOk i 1 = true) (hs : stpI E cx i pc lo s G = some (.inr (.inr v))) (h : Q v G) : Xr E d cx pc lo s G Q := by
  rw [Xr_ret ((stp_of hd hl).trans hs)]
  exact h
theorem r_iret {t : FieldType} {v : Int32} (hd : decode cx.2.1 pc = .ok (.ireturn, 1)) (ht : cx.2.2.2 = some t) (h : narrow t (.int v) = .int v ∧ Q (some (.int v)) G) : Xr E d cx pc lo [.int v] G Q := by
  refine r_ret hd rfl ?_ h.2
  show (match cx.2.2.2 with | some t => gd (narrow t (Value.int v) = Value.int v) inferInstance (some (Sum.inr (Sum.inr (some (Value.int v))))) | none => none) = _
  rw [ht]
  exact if_pos h.1
theorem r_lret {v : Int64} (hd : decode cx.2.1 pc = .ok (.lreturn, 1)) (ht : cx.2.2.2 = some .long) (h : Q (some (.long v)) G) : Xr E d cx pc lo [.long v] G Q := r_ret hd rfl (if_pos ht) h
theorem r_aret {v : Nat} {nm : String} (hd : decode cx.2.1 pc = .ok (.areturn, 1)) (ht : cx.2.2.2 = some (.object nm)) (h : Q (some (.ref v)) G) : Xr E d cx pc lo [.ref v] G Q := by
  refine r_ret hd rfl ?_ h
  show ((match cx.2.2.2 with | some (.object _) => some (Sum.inr (Sum.inr (some (Value.ref v)))) | some (.array _) => some (Sum.inr (Sum.inr (some (Value.ref v)))) | _ => none) : Option Rs) = _
  rw [ht]
theorem r_vret (hd : decode cx.2.1 pc = .ok (.return_, 1)) (ht : cx.2.2.2 = none) (h : Q none G) : Xr E d cx pc lo [] G Q := r_ret hd rfl (if_pos ht) h
end XR
theorem ite_imp {c : Prop} [Decidable c] {A B A' B' : Prop} (f : A → A') (g : B → B') (h : if c then A else B) : if c then A' else B' := by
  by_cases hc : c
  · rw [if_pos hc] at h ⊢; exact f h
  · rw [if_neg hc] at h ⊢; exact g h
section QI
variable {E : Ev} {d : Nat} {G : Hp}
theorem qFI_imp {a ci k : Nat} {F F' : Int32 → Prop} (f : ∀ v, F v → F' v) (h : qFI E G a ci k F) : qFI E G a ci k F' := by
  unfold qFI at h ⊢
  split at h
  · refine ⟨h.1, ?_⟩
    have h := h.2
    split at h
    · exact f _ h
    · exact h.elim
  · exact h.elim
theorem qFR_imp {a ci k : Nat} {F F' : Nat → Prop} (f : ∀ v, F v → F' v) (h : qFR E G a ci k F) : qFR E G a ci k F' := by
  unfold qFR at h ⊢
  split at h
  · refine ⟨h.1, ?_⟩
    have h := h.2
    split at h
    · exact f _ h
    · exact h.elim
  · exact h.elim
theorem qP_imp {a ci k : Nat} {v : Value} {F F' : Hp → Prop} (f : ∀ v, F v → F' v) (h : qP E G a ci k v F) : qP E G a ci k v F' := by
  unfold qP at h ⊢
  split at h
  · exact ⟨h.1, h.2.1, f _ h.2.2⟩
  · exact h.elim
theorem qIA_imp {o a : Nat} {i : Int32} {F F' : Int32 → Prop} (f : ∀ v, F v → F' v) (h : qIA o E G a i F) : qIA o E G a i F' := by
  unfold qIA at h ⊢
  split at h
  · exact ⟨h.1, h.2.1, f _ h.2.2⟩
  · split at h
    · exact ⟨h.1, f _ h.2⟩
    · exact h.elim
  · exact h.elim
theorem qBA_imp {a : Nat} {i : Int32} {F F' : Int32 → Prop} (f : ∀ v, F v → F' v) (h : qBA E G a i F) : qBA E G a i F' := by
  unfold qBA at h ⊢
  split at h
  · exact ⟨h.1, h.2.1, f _ h.2.2⟩
  · split at h
    · exact ⟨h.1, f _ h.2⟩
    · exact h.elim
  · exact h.elim
theorem qRA_imp {a : Nat} {i : Int32} {F F' : Nat → Prop} (f : ∀ v, F v → F' v) (h : qRA E G a i F) : qRA E G a i F' := by
  unfold qRA at h ⊢
  split at h
  · refine ⟨h.1, h.2.1, ?_⟩
    have h := h.2.2
    split at h
    · exact f _ h
    · exact h.elim
  · exact h.elim
theorem qIS_imp {a : Nat} {i x : Int32} {F F' : Hp → Prop} (f : ∀ v, F v → F' v) (h : qIS E G a i x F) : qIS E G a i x F' := by
  unfold qIS at h ⊢
  split at h
  · exact ⟨h.1, h.2.1, f _ h.2.2⟩
  · exact h.elim
theorem qBS_imp {a : Nat} {i x : Int32} {F F' : Hp → Prop} (f : ∀ v, F v → F' v) (h : qBS E G a i x F) : qBS E G a i x F' := by
  unfold qBS at h ⊢
  split at h
  · exact ⟨h.1, h.2.1, f _ h.2.2⟩
  · exact h.elim
theorem qRS_imp {a v : Nat} {i : Int32} {F F' : Hp → Prop} (f : ∀ v, F v → F' v) (h : qRS E G a i v F) : qRS E G a i v F' := by
  unfold qRS at h ⊢
  split at h
  · refine ⟨h.1, h.2.1, ?_⟩
    have h := h.2.2
    split at h
    · exact ⟨h.1, f _ h.2⟩
    · exact h.elim
  · exact h.elim
theorem qL_imp {o a : Nat} {F F' : Int32 → Prop} (f : ∀ v, F v → F' v) (h : qL o E G a F) : qL o E G a F' := by
  unfold qL at h ⊢
  split at h
  · exact f _ h
  · exact ⟨h.1, f _ h.2⟩
  · exact h.elim
  · split at h
    · exact f _ h
    · exact h.elim
theorem qCp_imp {a0 a : Nat} {sp dp n : Int32} {F F' : Hp → Prop} (f : ∀ v, F v → F' v) (h : qCp E G a0 sp a dp n F) : qCp E G a0 sp a dp n F' := by
  unfold qCp at h ⊢
  split at h
  · split at h
    · exact ⟨h.1, f _ h.2⟩
    · exact h.elim
  · exact h.elim
theorem qCI_imp {id : Nat} {a : List Value} {F F' : Int32 → Hp → Prop} (f : ∀ v G, F v G → F' v G) (h : qCI E d id a G F) : qCI E d id a G F' :=
  runs_mono _ _ _ _ _ _ (fun v G' q => by
    split at q
    · exact f _ _ q
    · exact q.elim) h
theorem qCJ_imp {id : Nat} {a : List Value} {F F' : Int64 → Hp → Prop} (f : ∀ v G, F v G → F' v G) (h : qCJ E d id a G F) : qCJ E d id a G F' :=
  runs_mono _ _ _ _ _ _ (fun v G' q => by
    split at q
    · exact f _ _ q
    · exact q.elim) h
theorem qCR_imp {id : Nat} {a : List Value} {F F' : Nat → Hp → Prop} (f : ∀ v G, F v G → F' v G) (h : qCR E d id a G F) : qCR E d id a G F' :=
  runs_mono _ _ _ _ _ _ (fun v G' q => by
    split at q
    · exact f _ _ q
    · exact q.elim) h
theorem qCV_imp {id : Nat} {a : List Value} {F F' : Hp → Prop} (f : ∀ G, F G → F' G) (h : qCV E d id a G F) : qCV E d id a G F' :=
  runs_mono _ _ _ _ _ _ (fun v G' q => by
    split at q
    · exact f _ q
    · exact q.elim) h
theorem hT_9 : hT E 9 9 (eS E) = some (.ref (eV E)) := by simp [hT]
theorem hT_15 : hT E 9 15 (eS E) = some (.int (iv 0)) := by simp [hT]
end QI
end
section
/-! THE ABSTRACT MACHINE IS SOUND: what holds of the machine's heap, of its tables, of the locals -/
abbrev clsT : List vw_C := [(RX0, TX0, 3), (RX1, TX1, 4), (RX2, TX2, 2), (RX3, TX3, 3), (RX4, TX4, 7), (RX5, TX5, 6), (RX6, TX6, 11), (RX7, TX7, 20)]
abbrev Yc : Type := ClassId × ClassId × ClassId × ClassId × ClassId × ClassId
def yk (Y : Yc) (k : Nat) : ClassId := match k with
  | 0 => Y.1 | 1 => Y.2.1 | _ => Y.2.2.1
def yr (Y : Yc) (k : Nat) : ClassId := match k with
  | 0 => Y.2.2.2.1 | 1 => Y.2.2.2.2.1 | _ => Y.2.2.2.2.2
def rT (k : Nat) : FieldType := match k with
  | 0 => .object RX1 | 1 => .object RX2 | _ => .array .byte
abbrev tyY (Y : Yc) : List (ClassId × FieldType) := [(Y.1, .int), (Y.2.1, .byte), (Y.2.2.1, .boolean), (Y.2.2.2.1, .object RX1), (Y.2.2.2.2.1, .object RX2), (Y.2.2.2.2.2, .array .byte)]
theorem ty_k (Y : Yc) (k : Nat) : ∃ t : Nat, (tyY Y)[t]? = some (yk Y k, kT k) := by
  match k with
  | 0 => exact ⟨0, rfl⟩
  | 1 => exact ⟨1, rfl⟩
  | k + 2 => exact ⟨2, rfl⟩
theorem ty_r (Y : Yc) (k : Nat) : ∃ t : Nat, (tyY Y)[t]? = some (yr Y k, rT k) := by
  match k with
  | 0 => exact ⟨3, rfl⟩
  | 1 => exact ⟨4, rfl⟩
  | k + 2 => exact ⟨5, rfl⟩
def tr (Y : Yc) (c : Cl) : va_E := match c with
  | .inl (k, n, f) => .inl (yk Y k, n, .inl f)
  | .inr (.inl (k, n, f)) => .inl (yr Y k, n, .inr (.inr (.inr (.inr f))))
  | .inr (.inr (c, fs)) => .inr (c, fs)
def trW (Y : Yc) (B : Nat) (L : List Cl) : va_W := L.mapIdx (fun i c => (B + i, tr Y c))
theorem trW_get (Y : Yc) (B : Nat) (L : List Cl) (i : Nat) : (trW Y B L)[i]? = (L[i]?).map (fun c => (B + i, tr Y c)) := by
  unfold trW
  rw [List.getElem?_mapIdx]
theorem trW_set (Y : Yc) (B : Nat) (L : List Cl) (i : Nat) (c : Cl) : (trW Y B L).set i (B + i, tr Y c) = trW Y B (L.set i c) := by
  apply List.ext_getElem?
  intro j
  rw [trW_get, List.getElem?_set, List.getElem?_set]
  by_cases h : i = j
  · subst h
    simp only [if_true]
    have e : (trW Y B L).length = L.length := by simp [trW]
    rw [e]
    by_cases hl : i < L.length
    · simp [hl]
    · simp [hl]
  · rw [if_neg h, if_neg h, trW_get]
theorem trW_app (Y : Yc) (B : Nat) (L : List Cl) (c : Cl) : trW Y B (L ++ [c]) = trW Y B L ++ [(B + L.length, tr Y c)] := by
  unfold trW
  rw [List.mapIdx_append]
  simp
def AA (E : Ev) : Nat → Prop := fun q => eB E ≤ q
def IV (E : Ev) (D : va_G) (Y : Yc) (G : Hp) (H : Heap) : Prop := va_P D clsT (trW Y (eB E) G.1) H ∧ H.size = eB E + G.1.length
theorem IV.D {E : Ev} {Y : Yc} {L : List Cl} : va_D (AA E) (trW Y (eB E) L) := by
  refine ⟨fun i j p q hi hj e => ?_, fun k q hk => ?_⟩
  · rw [trW_get] at hi hj
    cases h1 : L[i]? with
    | none => rw [h1] at hi; cases hi
    | some c =>
      cases h2 : L[j]? with
      | none => rw [h2] at hj; cases hj
      | some c' =>
        rw [h1] at hi; rw [h2] at hj
        cases hi; cases hj
        have e' : eB E + i = eB E + j := e
        omega
  · rw [trW_get] at hk
    cases h1 : L[k]? with
    | none => rw [h1] at hk; cases hk
    | some c =>
      rw [h1] at hk
      cases hk
      exact Nat.le_add_right _ _
theorem gt_at {E : Ev} {Y : Yc} {G : Hp} {a : Nat} {c : Cl} (h : gt E G a = some c) : (trW Y (eB E) G.1)[a - eB E]? = some (a, tr Y c) ∧ eB E ≤ a := by
  unfold gt at h
  split at h
  · next hb =>
    rw [trW_get, h]
    refine ⟨?_, hb⟩
    show some (eB E + (a - eB E), tr Y c) = _
    rw [Nat.add_sub_cancel' hb]
  · cases h
theorem st_tr {E : Ev} {Y : Yc} {G : Hp} {a : Nat} {c : Cl} (hb : eB E ≤ a) : (trW Y (eB E) G.1).set (a - eB E) (a, tr Y c) = trW Y (eB E) (st E G a c).1 := by
  unfold st
  rw [if_pos hb, ← trW_set, Nat.add_sub_cancel' hb]
theorem st_len {E : Ev} {G : Hp} {a : Nat} {c : Cl} : (st E G a c).1.length = G.1.length ∧ (st E G a c).2 = G.2 := by
  unfold st
  split
  · exact ⟨by simp, rfl⟩
  · exact ⟨rfl, rfl⟩
/-- the words that every method has: those of the tables that last -/
def LW : List Cond := lw_tbl.filter goodWord
theorem LW_in {w : Cond} (h : w ∈ lw_tbl) (g : goodWord w = true) : w ∈ LW := List.mem_filter.mpr ⟨h, g⟩
theorem LW_good {w : Cond} (h : w ∈ LW) : (w.onTables && w.keeps) = true ∨ ∃ ty, w = .arrayClass ty := good_of_word (List.mem_filter.mp h).2
theorem LW_t {w : Cond} (i : Nat) (h : tables_1[i]? = some w) (g : goodWord w = true) : w ∈ LW := LW_in (List.mem_append_right _ (List.mem_of_getElem? h)) g
def nestL : List (Nat × Nat × Nat) := (tM.filter (fun q => q.2.1 == 5)).map (fun q => (q.1, q.2.2.1, q.2.2.2))
def yOf (id : Nat) : MethodName := ((tY[id]?).map (fun m => m.1)).getD yX2_add
/-- what the tables and the old heap say -/
def KN (E : Ev) (D : va_G) (Y : Yc) (U : State) : Prop :=
  va_K D clsT (tyY Y) U ∧
  (∀ (o idx id p : Nat), fM o idx = some (5, id, p) → va_Nw (.methodLinkNest (tN o) idx (yOf id) RX6) U) ∧
  (va_AO RX1 U ∧ va_AO RX2 U ∧ va_Nw (.arrayOver (.array .byte)) U) ∧
  (va_Z RX6 "ARITIES" "[I" (.ref (eA E)) (AA E) U U.heap ∧ va_T .int (eA E) 10 (fun j => .int (arit j)) (AA E) U U.heap) ∧
  va_Z RJ0 "COMPACT_STRINGS" "Z" (.int 1) (AA E) U U.heap ∧
  va_Z RJ3 "SIOOBE_FORMATTER" "Ljava/util/function/BiFunction;" (eF E) (AA E) U U.heap ∧
  (va_O RJ0 (eS E) (AA E) U U.heap ∧ va_OF RJ0 "coder" "B" (.int 0) (eS E) (AA E) U U.heap ∧ va_OF RJ0 "value" "[B" (.ref (eV E)) (eS E) (AA E) U U.heap ∧ va_T .byte (eV E) 10 (fun j => .int (byts j)) (AA E) U U.heap) ∧
  (vk_R RX3 90 "abcdSFGHxy" (eS E) U ∧ vk_R RX6 253 "abcdSFGHxy" (eS E) U) ∧
  (va_X (eb E) (eL E) (ex E) U U.heap ∧ eb E < eB E ∧ eB E ≤ U.heap.size)
def AOp (comp : ClassId) (x : Class) : Bool := match x.kind with
  | .array component _ => component == comp
  | _ => false
def AOk (vm : Vm) (c : Nat) (k : Class) : Bool := match k.kind with
  | .array _ ty => decide (ty = .array .byte) && decide (vm.findClass ("[" ++ (FieldType.array .byte).toString) = some c)
  | _ => false
theorem AOb_iff {U : State} : va_Nw (.arrayOver (.array .byte)) U = ((((U.vm.findClass (FieldType.array .byte).toString).bind fun comp => (U.vm.classes.findIdx? (AOp comp)).bind fun c => (U.vm.classes[c]?).map (AOk U.vm c)) == some true) = true) := rfl
theorem AOb_moved {u U : State} (hvm : u.vm.Alike U.vm) (h : va_Nw (.arrayOver (.array .byte)) u) : va_Nw (.arrayOver (.array .byte)) U := by
  rw [AOb_iff] at h ⊢
  rw [hvm.findClass]
  cases hc : u.vm.findClass (FieldType.array FieldType.byte).toString with
  | none => rw [hc] at h; simp at h
  | some comp =>
    rw [hc, Option.bind_some] at h
    rw [Option.bind_some]
    have hi : U.vm.classes.findIdx? (AOp comp) = u.vm.classes.findIdx? (AOp comp) := by
      have e1 : U.vm.bare.classes.findIdx? (AOp comp) = U.vm.classes.findIdx? (AOp comp) := va_idx_bare U.vm comp
      have e2 : u.vm.bare.classes.findIdx? (AOp comp) = u.vm.classes.findIdx? (AOp comp) := va_idx_bare u.vm comp
      rw [← e1, ← e2]
      first | rw [hvm.bare_eq] | rw [← hvm.bare_eq]
    rw [hi]
    cases hx : u.vm.classes.findIdx? (AOp comp) with
    | none => rw [hx] at h; simp at h
    | some c =>
      rw [hx, Option.bind_some] at h
      rw [Option.bind_some]
      cases hk : u.vm.classes[c]? with
      | none => rw [hk] at h; simp at h
      | some k =>
        obtain ⟨k', hk', he⟩ := hvm.2.2 _ _ hk
        rw [hk, Option.map_some] at h
        rw [hk', Option.map_some]
        have hkind : k'.kind = k.kind := by rw [he]
        have e : AOk U.vm c k' = AOk u.vm c k := by
          unfold AOk
          rw [hkind, hvm.findClass]
        rw [e]
        exact h
theorem KN.to {E : Ev} {D : va_G} {Y : Yc} {s U : State} {H : Heap} {locs : List Loc} (h : KN E D Y s) (hW : s.WarmedH U.vm) (hU : U.heap = H) (hS : va_S (AA E) s.heap H locs) : KN E D Y U := by
  obtain ⟨h1, h2, ⟨h3a, h3b, h3c⟩, ⟨h4a, h4b⟩, h5, h6, ⟨h7a, h7b, h7c, h7d⟩, ⟨h8a, h8b⟩, h9a, h9b, h9c⟩ := h
  have hA := hW.alike
  subst hU
  have hq := hS.2.1
  refine ⟨va_K.moved hA h1, fun o idx id p hf => va_Nw.warmM hW (h2 o idx id p hf), ⟨va_AO.moved hA h3a, va_AO.moved hA h3b, ?_⟩, ⟨va_Z.moved hA (h4a.kept hq), va_T.moved hA (h4b.kept hq)⟩, va_Z.moved hA (h5.kept hq), va_Z.moved hA (h6.kept hq), ⟨va_O.moved hA (h7a.kept hq), va_OF.moved hA (h7b.kept hq), va_OF.moved hA (h7c.kept hq), va_T.moved hA (h7d.kept hq)⟩, ⟨vk_R.warm hW h8a, vk_R.warm hW h8b⟩, va_X.moved hA (h9a.kept (hq _ (Nat.lt_of_lt_of_le h9b h9c) (Nat.not_le.mpr h9b))), h9b, Nat.le_trans h9c hS.1⟩
  exact AOb_moved hA h3c

/-- the locals -/
def toA (lo : Lo) : List (Nat × Value) := (lo.mapIdx (fun i v => v.map (fun x => (i, x)))).filterMap (fun q => q)
theorem toA_mem {lo : Lo} {q : Nat × Value} : q ∈ toA lo ↔ lo[q.1]? = some (some q.2) := by
  unfold toA
  rw [List.mem_filterMap]
  constructor
  · rintro ⟨a, ha, e⟩
    obtain ⟨i, hi⟩ := List.getElem?_of_mem ha
    rw [List.getElem?_mapIdx] at hi
    cases h : lo[i]? with
    | none => rw [h] at hi; cases hi
    | some v =>
      rw [h] at hi
      cases v with
      | none => cases hi; cases e
      | some x =>
        cases hi
        cases e
        exact h
  · intro h
    refine ⟨some q, ?_, rfl⟩
    refine List.mem_of_getElem? (i := q.1) ?_
    rw [List.getElem?_mapIdx, h]
    rfl
def LR (ls : Array Slot) (nL : Nat) (lo : Lo) : Prop := lo.length = nL ∧ lv_has ls nL (toA lo)
theorem LR.at {ls : Array Slot} {nL : Nat} {lo : Lo} (h : LR ls nL lo) {i : Nat} {v : Value} (hv : lget lo i = some v) : ls[i]? = some (.val v) := by
  refine h.2.2.2 (i, v) (toA_mem.mpr ?_)
  unfold lget at hv
  split at hv
  · next x hx => cases hv; exact hx
  · cases hv
theorem LR.st1 {ls : Array Slot} {nL : Nat} {lo lo' : Lo} {i : Nat} {v : Value} (hl : lo.length = nL) (hs : lst1 lo i v = some lo') (h : lv_has ls nL ((i, v) :: (toA lo).filter (fun q => !(q.1 == i) && !(q.1 + 1 == i && q.2.category == 2)))) : LR ls nL lo' ∧ i < nL := by
  unfold lst1 at hs
  split at hs
  · next hc =>
    cases hs
    refine ⟨⟨by simp [hl], h.1, h.2.1, fun q hq => ?_⟩, by omega⟩
    rw [toA_mem] at hq
    by_cases e : i = q.1
    · subst e
      rw [List.getElem?_set, if_pos rfl, if_pos hc.1] at hq
      have e2 : v = q.2 := Option.some.inj (Option.some.inj hq)
      subst e2
      exact h.2.2 _ List.mem_cons_self
    · rw [List.getElem?_set, if_neg e] at hq
      refine h.2.2 q (List.mem_cons_of_mem _ (List.mem_filter.mpr ⟨toA_mem.mpr hq, ?_⟩))
      have h1 : (q.1 == i) = false := beq_eq_false_iff_ne.mpr (Ne.symm e)
      rw [h1]
      have h2 : (q.1 + 1 == i && q.2.category == 2) = false := by
        by_cases e3 : q.1 + 1 = i
        · subst e3
          have hn := hc.2
          unfold noLong at hn
          simp only [hq] at hn
          have e4 : q.2.category = 1 := by simpa using hn
          simp [e4]
        · have : (q.1 + 1 == i) = false := beq_eq_false_iff_ne.mpr e3
          rw [this]; rfl
      rw [h2]
      rfl
  · cases hs
theorem LR.st2 {ls : Array Slot} {nL : Nat} {lo lo' : Lo} {i : Nat} {v : Value} (hl : lo.length = nL) (hs : lst2 lo i v = some lo') (h : lv_has ls nL ((i, v) :: (toA lo).filter (fun q => !(q.1 == i) && (!(q.1 == i + 1) && !(q.1 + 1 == i && q.2.category == 2))))) : LR ls nL lo' ∧ i + 1 < nL := by
  unfold lst2 at hs
  split at hs
  · next hc =>
    cases hs
    refine ⟨⟨by simp [hl], h.1, h.2.1, fun q hq => ?_⟩, by omega⟩
    rw [toA_mem] at hq
    rw [List.getElem?_set] at hq
    by_cases e1 : i + 1 = q.1
    · rw [if_pos e1] at hq
      split at hq <;> cases hq
    · rw [if_neg e1] at hq
      by_cases e : i = q.1
      · subst e
        rw [List.getElem?_set, if_pos rfl, if_pos (by omega)] at hq
        have e2 : v = q.2 := Option.some.inj (Option.some.inj hq)
        subst e2
        exact h.2.2 _ List.mem_cons_self
      · rw [List.getElem?_set, if_neg e] at hq
        refine h.2.2 q (List.mem_cons_of_mem _ (List.mem_filter.mpr ⟨toA_mem.mpr hq, ?_⟩))
        have h1 : (q.1 == i) = false := beq_eq_false_iff_ne.mpr (Ne.symm e)
        have h3 : (q.1 == i + 1) = false := beq_eq_false_iff_ne.mpr (Ne.symm e1)
        rw [h1, h3]
        have h2 : (q.1 + 1 == i && q.2.category == 2) = false := by
          by_cases e3 : q.1 + 1 = i
          · subst e3
            have hn := hc.2
            unfold noLong at hn
            simp only [hq] at hn
            have e4 : q.2.category = 1 := by simpa using hn
            simp [e4]
          · have : (q.1 + 1 == i) = false := beq_eq_false_iff_ne.mpr e3
            rw [this]; rfl
        rw [h2]
        rfl
  · cases hs
theorem ent_at : ∀ (vs : List Value) (n b : Nat) (q : Nat × Value), entS vs ≤ n → (ent vs n)[q.1]? = some (some q.2) → (b + q.1, q.2) ∈ lv_args b vs := by
  intro vs
  induction vs with
  | nil =>
    intro n b q _ h
    unfold ent at h
    rw [List.getElem?_replicate] at h
    split at h <;> cases h
  | cons v vs ih =>
    intro n b q hn h
    unfold ent at h
    unfold entS at hn
    unfold lv_args
    by_cases hc : v.category = 2
    · rw [if_pos hc] at h
      rw [if_pos hc]
      obtain ⟨i, x⟩ := q
      match i, h with
      | 0, h =>
        cases h
        exact List.mem_cons_self
      | 1, h => cases h
      | i + 2, h =>
        have := ih (n - 2) (b + 2) (i, x) (by omega) h
        refine List.mem_cons_of_mem _ ?_
        have e : b + (i + 2) = b + 2 + i := by omega
        show (b + (i + 2), x) ∈ _
        rw [e]
        exact this
    · rw [if_neg hc] at h
      rw [if_neg hc]
      have hc1 : v.category = 1 := by
        rcases lv_cat v with h1 | h1
        · exact h1
        · exact absurd h1 hc
      obtain ⟨i, x⟩ := q
      match i, h with
      | 0, h =>
        cases h
        exact List.mem_cons_self
      | i + 1, h =>
        have := ih (n - 1) (b + 1) (i, x) (by omega) h
        refine List.mem_cons_of_mem _ ?_
        have e : b + (i + 1) = b + 1 + i := by omega
        show (b + (i + 1), x) ∈ _
        rw [e]
        exact this
theorem ent_len : ∀ (vs : List Value) (n : Nat), entS vs ≤ n → (ent vs n).length = n := by
  intro vs
  induction vs with
  | nil => intro n _; simp [ent]
  | cons v vs ih =>
    intro n hn
    unfold entS at hn
    unfold ent
    by_cases hc : v.category = 2
    · rw [if_pos hc, List.length_cons, List.length_cons, ih (n - 2) (by omega)]
      omega
    · have hc1 : v.category = 1 := by
        rcases lv_cat v with h1 | h1
        · exact h1
        · exact absurd h1 hc
      rw [if_neg hc, List.length_cons, ih (n - 1) (by omega)]
      omega
theorem lg_len : ∀ vs : List Value, (lg_sl vs).length = entS vs := by
  intro vs
  induction vs with
  | nil => rfl
  | cons v vs ih =>
    have e : lg_sl (v :: vs) = lg_sl [v] ++ lg_sl vs := by simp [lg_sl]
    rw [e, List.length_append, ih]
    show _ = v.category + entS vs
    congr 1
    rcases lv_cat v with h | h <;> simp [lg_sl, h]
theorem LR.ent {vs : List Value} {n : Nat} (h : entS vs ≤ n) : LR ((lg_sl vs ++ List.replicate (n - (lg_sl vs).length) Slot.unset).toArray) n (ent vs n) := by
  have h1 := lv_entry vs (n := n) (by rw [lg_len]; exact h)
  refine ⟨ent_len vs n h, h1.1, h1.2.1, fun q hq => h1.2.2 q ?_⟩
  have := ent_at vs n 0 q h (toA_mem.mp hq)
  rw [Nat.zero_add] at this
  exact this
end
section
/-! each instruction of the abstract machine is one of the machine -/
/-- what a method's walk knows all along -/
def MC (p : Program) (s : State) (m : MethodId) (args : Array Value) (meth : Method) (c : Code) (E : Ev) (D : va_G) (Y : Yc) (cx : Cx) (nL : Nat) : Prop :=
  (p.tables.exec = Jvm.exec ∧ c.code = cx.2.1 ∧ c.maxLocals = nL ∧ meth.sig.returnType = cx.2.2.2 ∧ meth.locks = false) ∧ s.vm.findClass (tN cx.1) = some m.cls ∧ (cx.2.2.1 = true → meth.name = "<init>") ∧ (∀ w ∈ LW, w.before args s = true) ∧ KN E D Y s
def WP (p : Program) (l : Launch) (e : Env) (R : Room) (s : State) (m : MethodId) (args : Array Value) (below : List Frame) (meth : Method) (c : Code) (Q : State → Prop) (E : Ev) (D : va_G) (Y : Yc) (nL N0 S0 pc : Nat) (lo : Lo) (t : List Value) (G : Hp) : Prop :=
  ∀ (H : Heap) (locs : List Loc) (ls : Array Slot), LR ls nL lo → IV E D Y G H → va_S (AA E) s.heap H locs → N0 ≤ G.1.length → S0 ≤ G.2 → W p l e R s m args below meth c H locs (G.1.length - N0) (G.2 - S0) Q (F0 m pc ls t)
section SND
variable {p : Program} {l : Launch} {e : Env} {R : Room} {s : State} {m : MethodId} {args : Array Value} {below : List Frame} {meth : Method} {c : Code} {Q : State → Prop} {E : Ev} {D : va_G} {Y : Yc} {nL N0 S0 : Nat} {cx : Cx} {pc : Nat} {lo : Lo} {t : List Value} {G : Hp} {r : Nat × Lo × List Value × Hp}
theorem nx_inj {pc : Nat} {lo : Lo} {t : List Value} {G : Hp} (h : nx pc lo t G = some (.inl r)) : r = (pc, lo, t, G) := by
  unfold nx at h
  cases h
  rfl
theorem gd_inj {c : Prop} {d : Decidable c} {x : Option Rs} {y : Rs} (h : gd c d x = some y) : c ∧ x = some y := by
  unfold gd at h
  split at h
  · next hc => exact ⟨hc, h⟩
  · cases h
theorem ov_inj {α : Type} {x : Option α} {f : α → Option Rs} {y : Rs} (h : ov x f = some y) : ∃ v, x = some v ∧ f v = some y := by
  unfold ov at h
  split at h
  · next v => exact ⟨v, rfl, h⟩
  · cases h
theorem jmp_inj {pc : Nat} {off : Int} (h : jmp pc off lo t G = some (.inl r)) : ∃ tgt : Nat, (pc : Int) + off = (tgt : Int) ∧ r = (tgt, lo, t, G) := by
  obtain ⟨h1, h2⟩ := gd_inj h
  exact ⟨((pc : Int) + off).toNat, by omega, nx_inj h2⟩
theorem bra_inj {b : Bool} {pc : Nat} {off : Int} (h : bra b pc off lo t G = some (.inl r)) : ∃ tgt : Nat, (pc : Int) + off = (tgt : Int) ∧ ((b = true ∧ r = (tgt, lo, t, G)) ∨ (b = false ∧ r = (pc + 3, lo, t, G))) := by
  obtain ⟨h1, h2⟩ := gd_inj h
  refine ⟨((pc : Int) + off).toNat, by omega, ?_⟩
  cases b
  · exact Or.inr ⟨rfl, nx_inj h2⟩
  · exact Or.inl ⟨rfl, nx_inj h2⟩
theorem ld_inj {f : Value → Bool} {pc i : Nat} (h : ld f pc i lo t G = some (.inl r)) : ∃ v, lget lo i = some v ∧ f v = true ∧ r = (pc, lo, v :: t, G) := by
  obtain ⟨v, h1, h2⟩ := ov_inj h
  obtain ⟨h3, h4⟩ := gd_inj h2
  exact ⟨v, h1, h3, nx_inj h4⟩
theorem sto1_inj {f : Value → Bool} {pc i : Nat} (h : sto1 f pc i lo t G = some (.inl r)) : ∃ v t' lo', t = v :: t' ∧ f v = true ∧ lst1 lo i v = some lo' ∧ r = (pc, lo', t', G) := by
  unfold sto1 at h
  split at h
  · next v t' =>
    obtain ⟨h3, h4⟩ := gd_inj h
    obtain ⟨lo', h5, h6⟩ := ov_inj h4
    exact ⟨v, t', lo', rfl, h3, h5, nx_inj h6⟩
  · cases h
theorem isI_inj {v : Value} (h : isI v = true) : ∃ x, v = .int x := by cases v <;> first | exact ⟨_, rfl⟩ | cases h
theorem isL_inj {v : Value} (h : isL v = true) : ∃ x, v = .long x := by cases v <;> first | exact ⟨_, rfl⟩ | cases h
theorem isR_inj {v : Value} (h : isR v = true) : ∃ x, v = .ref x := by cases v <;> first | exact ⟨_, rfl⟩ | cases h

theorem ss_iconst {n : Int} (hM : MC p s m args meth c E D Y cx nL) (hd : decode cx.2.1 pc = .ok (.iconst n, 1)) (h : stpI E cx (.iconst n) pc lo t G = some (.inl r))  (k : WP p l e R s m args below meth c Q E D Y nL N0 S0 r.1 r.2.1 r.2.2.1 r.2.2.2) : WP p l e R s m args below meth c Q E D Y nL N0 S0 pc lo t G := by
  obtain ⟨⟨hx, hb, hml, hr, hlk⟩, hown, hini, hts, hK⟩ := hM
  cases nx_inj h
  intro H locs ls hl hI hS g1 g2
  exact lv_iconst hx hb hd rfl (k H locs ls hl hI hS g1 g2)
theorem ss_bipush {n : Int} (hM : MC p s m args meth c E D Y cx nL) (hd : decode cx.2.1 pc = .ok (.bipush n, 2)) (h : stpI E cx (.bipush n) pc lo t G = some (.inl r))  (k : WP p l e R s m args below meth c Q E D Y nL N0 S0 r.1 r.2.1 r.2.2.1 r.2.2.2) : WP p l e R s m args below meth c Q E D Y nL N0 S0 pc lo t G := by
  obtain ⟨⟨hx, hb, hml, hr, hlk⟩, hown, hini, hts, hK⟩ := hM
  obtain ⟨h0, h⟩ := gd_inj h
  cases nx_inj h
  intro H locs ls hl hI hS g1 g2
  exact lv_bipush hx hb hd h0 (k H locs ls hl hI hS g1 g2)
theorem ss_sipush {n : Int} (hM : MC p s m args meth c E D Y cx nL) (hd : decode cx.2.1 pc = .ok (.sipush n, 3)) (h : stpI E cx (.sipush n) pc lo t G = some (.inl r))  (k : WP p l e R s m args below meth c Q E D Y nL N0 S0 r.1 r.2.1 r.2.2.1 r.2.2.2) : WP p l e R s m args below meth c Q E D Y nL N0 S0 pc lo t G := by
  obtain ⟨⟨hx, hb, hml, hr, hlk⟩, hown, hini, hts, hK⟩ := hM
  obtain ⟨h0, h⟩ := gd_inj h
  cases nx_inj h
  intro H locs ls hl hI hS g1 g2
  exact lv_sipush hx hb hd h0 (k H locs ls hl hI hS g1 g2)
theorem ss_lconst {n : Fin 2} (hM : MC p s m args meth c E D Y cx nL) (hd : decode cx.2.1 pc = .ok (.lconst n, 1)) (h : stpI E cx (.lconst n) pc lo t G = some (.inl r))  (k : WP p l e R s m args below meth c Q E D Y nL N0 S0 r.1 r.2.1 r.2.2.1 r.2.2.2) : WP p l e R s m args below meth c Q E D Y nL N0 S0 pc lo t G := by
  obtain ⟨⟨hx, hb, hml, hr, hlk⟩, hown, hini, hts, hK⟩ := hM
  cases nx_inj h
  intro H locs ls hl hI hS g1 g2
  exact lv_lconst hx hb hd rfl (k H locs ls hl hI hS g1 g2)
theorem ss_iload_n {i : Fin 4} (hM : MC p s m args meth c E D Y cx nL) (hd : decode cx.2.1 pc = .ok (.iload_n i, 1)) (h : stpI E cx (.iload_n i) pc lo t G = some (.inl r))  (k : WP p l e R s m args below meth c Q E D Y nL N0 S0 r.1 r.2.1 r.2.2.1 r.2.2.2) : WP p l e R s m args below meth c Q E D Y nL N0 S0 pc lo t G := by
  obtain ⟨⟨hx, hb, hml, hr, hlk⟩, hown, hini, hts, hK⟩ := hM
  obtain ⟨v, h1, h2, h3⟩ := ld_inj h
  obtain ⟨x, rfl⟩ := isI_inj h2
  cases h3
  intro H locs ls hl hI hS g1 g2
  exact lv_iload_n hx hb hd rfl (hl.at h1) (k H locs ls hl hI hS g1 g2)
theorem ss_iload {i : Nat} (hM : MC p s m args meth c E D Y cx nL) (hd : decode cx.2.1 pc = .ok (.iload i, 2)) (h : stpI E cx (.iload i) pc lo t G = some (.inl r))  (k : WP p l e R s m args below meth c Q E D Y nL N0 S0 r.1 r.2.1 r.2.2.1 r.2.2.2) : WP p l e R s m args below meth c Q E D Y nL N0 S0 pc lo t G := by
  obtain ⟨⟨hx, hb, hml, hr, hlk⟩, hown, hini, hts, hK⟩ := hM
  obtain ⟨v, h1, h2, h3⟩ := ld_inj h
  obtain ⟨x, rfl⟩ := isI_inj h2
  cases h3
  intro H locs ls hl hI hS g1 g2
  exact lv_iload hx hb hd (hl.at h1) (k H locs ls hl hI hS g1 g2)
theorem ss_lload_n {i : Fin 4} (hM : MC p s m args meth c E D Y cx nL) (hd : decode cx.2.1 pc = .ok (.lload_n i, 1)) (h : stpI E cx (.lload_n i) pc lo t G = some (.inl r))  (k : WP p l e R s m args below meth c Q E D Y nL N0 S0 r.1 r.2.1 r.2.2.1 r.2.2.2) : WP p l e R s m args below meth c Q E D Y nL N0 S0 pc lo t G := by
  obtain ⟨⟨hx, hb, hml, hr, hlk⟩, hown, hini, hts, hK⟩ := hM
  obtain ⟨v, h1, h2, h3⟩ := ld_inj h
  obtain ⟨x, rfl⟩ := isL_inj h2
  cases h3
  intro H locs ls hl hI hS g1 g2
  exact lv_lload_n hx hb hd rfl (hl.at h1) (k H locs ls hl hI hS g1 g2)
theorem ss_lload {i : Nat} (hM : MC p s m args meth c E D Y cx nL) (hd : decode cx.2.1 pc = .ok (.lload i, 2)) (h : stpI E cx (.lload i) pc lo t G = some (.inl r))  (k : WP p l e R s m args below meth c Q E D Y nL N0 S0 r.1 r.2.1 r.2.2.1 r.2.2.2) : WP p l e R s m args below meth c Q E D Y nL N0 S0 pc lo t G := by
  obtain ⟨⟨hx, hb, hml, hr, hlk⟩, hown, hini, hts, hK⟩ := hM
  obtain ⟨v, h1, h2, h3⟩ := ld_inj h
  obtain ⟨x, rfl⟩ := isL_inj h2
  cases h3
  intro H locs ls hl hI hS g1 g2
  exact lv_lload hx hb hd (hl.at h1) (k H locs ls hl hI hS g1 g2)
theorem ss_aload_n {i : Fin 4} (hM : MC p s m args meth c E D Y cx nL) (hd : decode cx.2.1 pc = .ok (.aload_n i, 1)) (h : stpI E cx (.aload_n i) pc lo t G = some (.inl r))  (k : WP p l e R s m args below meth c Q E D Y nL N0 S0 r.1 r.2.1 r.2.2.1 r.2.2.2) : WP p l e R s m args below meth c Q E D Y nL N0 S0 pc lo t G := by
  obtain ⟨⟨hx, hb, hml, hr, hlk⟩, hown, hini, hts, hK⟩ := hM
  obtain ⟨v, h1, h2, h3⟩ := ld_inj h
  obtain ⟨x, rfl⟩ := isR_inj h2
  cases h3
  intro H locs ls hl hI hS g1 g2
  exact lv_aload_n hx hb hd rfl (hl.at h1) (k H locs ls hl hI hS g1 g2)
theorem ss_aload {i : Nat} (hM : MC p s m args meth c E D Y cx nL) (hd : decode cx.2.1 pc = .ok (.aload i, 2)) (h : stpI E cx (.aload i) pc lo t G = some (.inl r))  (k : WP p l e R s m args below meth c Q E D Y nL N0 S0 r.1 r.2.1 r.2.2.1 r.2.2.2) : WP p l e R s m args below meth c Q E D Y nL N0 S0 pc lo t G := by
  obtain ⟨⟨hx, hb, hml, hr, hlk⟩, hown, hini, hts, hK⟩ := hM
  obtain ⟨v, h1, h2, h3⟩ := ld_inj h
  obtain ⟨x, rfl⟩ := isR_inj h2
  cases h3
  intro H locs ls hl hI hS g1 g2
  exact lv_aload hx hb hd (hl.at h1) (k H locs ls hl hI hS g1 g2)
theorem ss_istore_n {i : Fin 4} (hM : MC p s m args meth c E D Y cx nL) (hd : decode cx.2.1 pc = .ok (.istore_n i, 1)) (h : stpI E cx (.istore_n i) pc lo t G = some (.inl r))  (k : WP p l e R s m args below meth c Q E D Y nL N0 S0 r.1 r.2.1 r.2.2.1 r.2.2.2) : WP p l e R s m args below meth c Q E D Y nL N0 S0 pc lo t G := by
  obtain ⟨⟨hx, hb, hml, hr, hlk⟩, hown, hini, hts, hK⟩ := hM
  obtain ⟨v, t', lo', rfl, h2, h3, h4⟩ := sto1_inj h
  obtain ⟨x, rfl⟩ := isI_inj h2
  cases h4
  intro H locs ls hl hI hS g1 g2
  have hi : (i : Nat) < nL := by
    have := h3
    unfold lst1 at this
    split at this
    · next hc => rw [← hl.1]; exact hc.1
    · cases this
  exact lv_istore_n hx hb hd rfl hl.2 hi rfl (fun ls' hl' => k H locs ls' (LR.st1 hl.1 h3 hl').1 hI hS g1 g2)
theorem ss_istore {i : Nat} (hM : MC p s m args meth c E D Y cx nL) (hd : decode cx.2.1 pc = .ok (.istore i, 2)) (h : stpI E cx (.istore i) pc lo t G = some (.inl r))  (k : WP p l e R s m args below meth c Q E D Y nL N0 S0 r.1 r.2.1 r.2.2.1 r.2.2.2) : WP p l e R s m args below meth c Q E D Y nL N0 S0 pc lo t G := by
  obtain ⟨⟨hx, hb, hml, hr, hlk⟩, hown, hini, hts, hK⟩ := hM
  obtain ⟨v, t', lo', rfl, h2, h3, h4⟩ := sto1_inj h
  obtain ⟨x, rfl⟩ := isI_inj h2
  cases h4
  intro H locs ls hl hI hS g1 g2
  have hi : (i : Nat) < nL := by
    have := h3
    unfold lst1 at this
    split at this
    · next hc => rw [← hl.1]; exact hc.1
    · cases this
  exact lv_istore hx hb hd hl.2 hi rfl (fun ls' hl' => k H locs ls' (LR.st1 hl.1 h3 hl').1 hI hS g1 g2)
theorem ss_astore_n {i : Fin 4} (hM : MC p s m args meth c E D Y cx nL) (hd : decode cx.2.1 pc = .ok (.astore_n i, 1)) (h : stpI E cx (.astore_n i) pc lo t G = some (.inl r))  (k : WP p l e R s m args below meth c Q E D Y nL N0 S0 r.1 r.2.1 r.2.2.1 r.2.2.2) : WP p l e R s m args below meth c Q E D Y nL N0 S0 pc lo t G := by
  obtain ⟨⟨hx, hb, hml, hr, hlk⟩, hown, hini, hts, hK⟩ := hM
  obtain ⟨v, t', lo', rfl, h2, h3, h4⟩ := sto1_inj h
  obtain ⟨x, rfl⟩ := isR_inj h2
  cases h4
  intro H locs ls hl hI hS g1 g2
  have hi : (i : Nat) < nL := by
    have := h3
    unfold lst1 at this
    split at this
    · next hc => rw [← hl.1]; exact hc.1
    · cases this
  exact lv_astore_n hx hb hd rfl hl.2 hi rfl (fun ls' hl' => k H locs ls' (LR.st1 hl.1 h3 hl').1 hI hS g1 g2)
theorem ss_astore {i : Nat} (hM : MC p s m args meth c E D Y cx nL) (hd : decode cx.2.1 pc = .ok (.astore i, 2)) (h : stpI E cx (.astore i) pc lo t G = some (.inl r))  (k : WP p l e R s m args below meth c Q E D Y nL N0 S0 r.1 r.2.1 r.2.2.1 r.2.2.2) : WP p l e R s m args below meth c Q E D Y nL N0 S0 pc lo t G := by
  obtain ⟨⟨hx, hb, hml, hr, hlk⟩, hown, hini, hts, hK⟩ := hM
  obtain ⟨v, t', lo', rfl, h2, h3, h4⟩ := sto1_inj h
  obtain ⟨x, rfl⟩ := isR_inj h2
  cases h4
  intro H locs ls hl hI hS g1 g2
  have hi : (i : Nat) < nL := by
    have := h3
    unfold lst1 at this
    split at this
    · next hc => rw [← hl.1]; exact hc.1
    · cases this
  exact lv_astore hx hb hd hl.2 hi rfl (fun ls' hl' => k H locs ls' (LR.st1 hl.1 h3 hl').1 hI hS g1 g2)
theorem ss_lstore_n {i : Fin 4} (hM : MC p s m args meth c E D Y cx nL) (hd : decode cx.2.1 pc = .ok (.lstore_n i, 1)) (h : stpI E cx (.lstore_n i) pc lo t G = some (.inl r))  (k : WP p l e R s m args below meth c Q E D Y nL N0 S0 r.1 r.2.1 r.2.2.1 r.2.2.2) : WP p l e R s m args below meth c Q E D Y nL N0 S0 pc lo t G := by
  obtain ⟨⟨hx, hb, hml, hr, hlk⟩, hown, hini, hts, hK⟩ := hM
  have h : sto2 (pc + 1) i lo t G = some (.inl r) := h
  unfold sto2 p1l at h
  split at h
  · next x t' =>
    obtain ⟨lo', h3, h4⟩ := ov_inj h
    cases nx_inj h4
    intro H locs ls hl hI hS g1 g2
    have hi : (i : Nat) + 1 < nL := by
      have := h3
      unfold lst2 at this
      split at this
      · next hc => rw [← hl.1]; exact hc.1
      · cases this
    exact lv_lstore_n hx hb hd rfl hl.2 hi rfl (fun ls' hl' => k H locs ls' (LR.st2 hl.1 h3 hl').1 hI hS g1 g2)
  · cases h
theorem ss_lstore {i : Nat} (hM : MC p s m args meth c E D Y cx nL) (hd : decode cx.2.1 pc = .ok (.lstore i, 2)) (h : stpI E cx (.lstore i) pc lo t G = some (.inl r))  (k : WP p l e R s m args below meth c Q E D Y nL N0 S0 r.1 r.2.1 r.2.2.1 r.2.2.2) : WP p l e R s m args below meth c Q E D Y nL N0 S0 pc lo t G := by
  obtain ⟨⟨hx, hb, hml, hr, hlk⟩, hown, hini, hts, hK⟩ := hM
  have h : sto2 (pc + 2) i lo t G = some (.inl r) := h
  unfold sto2 p1l at h
  split at h
  · next x t' =>
    obtain ⟨lo', h3, h4⟩ := ov_inj h
    cases nx_inj h4
    intro H locs ls hl hI hS g1 g2
    have hi : (i : Nat) + 1 < nL := by
      have := h3
      unfold lst2 at this
      split at this
      · next hc => rw [← hl.1]; exact hc.1
      · cases this
    exact lv_lstore hx hb hd hl.2 hi rfl (fun ls' hl' => k H locs ls' (LR.st2 hl.1 h3 hl').1 hI hS g1 g2)
  · cases h
theorem ss_iinc {i : Nat} {n : Int} (hM : MC p s m args meth c E D Y cx nL) (hd : decode cx.2.1 pc = .ok (.iinc i n, 3)) (h : stpI E cx (.iinc i n) pc lo t G = some (.inl r))  (k : WP p l e R s m args below meth c Q E D Y nL N0 S0 r.1 r.2.1 r.2.2.1 r.2.2.2) : WP p l e R s m args below meth c Q E D Y nL N0 S0 pc lo t G := by
  obtain ⟨⟨hx, hb, hml, hr, hlk⟩, hown, hini, hts, hK⟩ := hM
  obtain ⟨v, h1, h2⟩ := ov_inj h
  split at h2
  · next x =>
    obtain ⟨lo', h3, h4⟩ := ov_inj h2
    cases nx_inj h4
    intro H locs ls hl hI hS g1 g2
    have hi : i < nL := by
      have := h3
      unfold lst1 at this
      split at this
      · next hc => rw [← hl.1]; exact hc.1
      · cases this
    have hm : (i, Value.int x) ∈ toA lo := by
      refine toA_mem.mpr ?_
      unfold lget at h1
      split at h1
      · next y hy => cases h1; exact hy
      · cases h1
    obtain ⟨q, hq⟩ := List.getElem?_of_mem hm
    exact lv_iinc (k := q) hx hb hd hl.2 hq rfl hi rfl (fun ls' hl' => k H locs ls' (LR.st1 hl.1 h3 hl').1 hI hS g1 g2)
  · cases h2
theorem ss_iadd  (hM : MC p s m args meth c E D Y cx nL) (hd : decode cx.2.1 pc = .ok (.iadd, 1)) (h : stpI E cx (.iadd) pc lo t G = some (.inl r))  (k : WP p l e R s m args below meth c Q E D Y nL N0 S0 r.1 r.2.1 r.2.2.1 r.2.2.2) : WP p l e R s m args below meth c Q E D Y nL N0 S0 pc lo t G := by
  obtain ⟨⟨hx, hb, hml, hr, hlk⟩, hown, hini, hts, hK⟩ := hM
  have h : p2i t _ = some (.inl r) := h
  unfold p2i at h
  split at h
  · next y x t' =>
    cases nx_inj h
    intro H locs ls hl hI hS g1 g2
    exact lv_iadd hx hb hd (k H locs ls hl hI hS g1 g2)
  · cases h
theorem ss_isub  (hM : MC p s m args meth c E D Y cx nL) (hd : decode cx.2.1 pc = .ok (.isub, 1)) (h : stpI E cx (.isub) pc lo t G = some (.inl r))  (k : WP p l e R s m args below meth c Q E D Y nL N0 S0 r.1 r.2.1 r.2.2.1 r.2.2.2) : WP p l e R s m args below meth c Q E D Y nL N0 S0 pc lo t G := by
  obtain ⟨⟨hx, hb, hml, hr, hlk⟩, hown, hini, hts, hK⟩ := hM
  have h : p2i t _ = some (.inl r) := h
  unfold p2i at h
  split at h
  · next y x t' =>
    cases nx_inj h
    intro H locs ls hl hI hS g1 g2
    exact lv_isub hx hb hd (k H locs ls hl hI hS g1 g2)
  · cases h
theorem ss_imul  (hM : MC p s m args meth c E D Y cx nL) (hd : decode cx.2.1 pc = .ok (.imul, 1)) (h : stpI E cx (.imul) pc lo t G = some (.inl r))  (k : WP p l e R s m args below meth c Q E D Y nL N0 S0 r.1 r.2.1 r.2.2.1 r.2.2.2) : WP p l e R s m args below meth c Q E D Y nL N0 S0 pc lo t G := by
  obtain ⟨⟨hx, hb, hml, hr, hlk⟩, hown, hini, hts, hK⟩ := hM
  have h : p2i t _ = some (.inl r) := h
  unfold p2i at h
  split at h
  · next y x t' =>
    cases nx_inj h
    intro H locs ls hl hI hS g1 g2
    exact lv_imul hx hb hd (k H locs ls hl hI hS g1 g2)
  · cases h
theorem ss_iand  (hM : MC p s m args meth c E D Y cx nL) (hd : decode cx.2.1 pc = .ok (.iand, 1)) (h : stpI E cx (.iand) pc lo t G = some (.inl r))  (k : WP p l e R s m args below meth c Q E D Y nL N0 S0 r.1 r.2.1 r.2.2.1 r.2.2.2) : WP p l e R s m args below meth c Q E D Y nL N0 S0 pc lo t G := by
  obtain ⟨⟨hx, hb, hml, hr, hlk⟩, hown, hini, hts, hK⟩ := hM
  have h : p2i t _ = some (.inl r) := h
  unfold p2i at h
  split at h
  · next y x t' =>
    cases nx_inj h
    intro H locs ls hl hI hS g1 g2
    exact lv_iand hx hb hd (k H locs ls hl hI hS g1 g2)
  · cases h
theorem ss_ior  (hM : MC p s m args meth c E D Y cx nL) (hd : decode cx.2.1 pc = .ok (.ior, 1)) (h : stpI E cx (.ior) pc lo t G = some (.inl r))  (k : WP p l e R s m args below meth c Q E D Y nL N0 S0 r.1 r.2.1 r.2.2.1 r.2.2.2) : WP p l e R s m args below meth c Q E D Y nL N0 S0 pc lo t G := by
  obtain ⟨⟨hx, hb, hml, hr, hlk⟩, hown, hini, hts, hK⟩ := hM
  have h : p2i t _ = some (.inl r) := h
  unfold p2i at h
  split at h
  · next y x t' =>
    cases nx_inj h
    intro H locs ls hl hI hS g1 g2
    exact lv_ior hx hb hd (k H locs ls hl hI hS g1 g2)
  · cases h
theorem ss_ixor  (hM : MC p s m args meth c E D Y cx nL) (hd : decode cx.2.1 pc = .ok (.ixor, 1)) (h : stpI E cx (.ixor) pc lo t G = some (.inl r))  (k : WP p l e R s m args below meth c Q E D Y nL N0 S0 r.1 r.2.1 r.2.2.1 r.2.2.2) : WP p l e R s m args below meth c Q E D Y nL N0 S0 pc lo t G := by
  obtain ⟨⟨hx, hb, hml, hr, hlk⟩, hown, hini, hts, hK⟩ := hM
  have h : p2i t _ = some (.inl r) := h
  unfold p2i at h
  split at h
  · next y x t' =>
    cases nx_inj h
    intro H locs ls hl hI hS g1 g2
    exact lv_ixor hx hb hd (k H locs ls hl hI hS g1 g2)
  · cases h
theorem ss_ishl  (hM : MC p s m args meth c E D Y cx nL) (hd : decode cx.2.1 pc = .ok (.ishl, 1)) (h : stpI E cx (.ishl) pc lo t G = some (.inl r))  (k : WP p l e R s m args below meth c Q E D Y nL N0 S0 r.1 r.2.1 r.2.2.1 r.2.2.2) : WP p l e R s m args below meth c Q E D Y nL N0 S0 pc lo t G := by
  obtain ⟨⟨hx, hb, hml, hr, hlk⟩, hown, hini, hts, hK⟩ := hM
  have h : p2i t _ = some (.inl r) := h
  unfold p2i at h
  split at h
  · next y x t' =>
    cases nx_inj h
    intro H locs ls hl hI hS g1 g2
    exact lv_ishl hx hb hd (k H locs ls hl hI hS g1 g2)
  · cases h
theorem ss_ishr  (hM : MC p s m args meth c E D Y cx nL) (hd : decode cx.2.1 pc = .ok (.ishr, 1)) (h : stpI E cx (.ishr) pc lo t G = some (.inl r))  (k : WP p l e R s m args below meth c Q E D Y nL N0 S0 r.1 r.2.1 r.2.2.1 r.2.2.2) : WP p l e R s m args below meth c Q E D Y nL N0 S0 pc lo t G := by
  obtain ⟨⟨hx, hb, hml, hr, hlk⟩, hown, hini, hts, hK⟩ := hM
  have h : p2i t _ = some (.inl r) := h
  unfold p2i at h
  split at h
  · next y x t' =>
    cases nx_inj h
    intro H locs ls hl hI hS g1 g2
    exact lv_ishr hx hb hd (k H locs ls hl hI hS g1 g2)
  · cases h
theorem ss_iushr  (hM : MC p s m args meth c E D Y cx nL) (hd : decode cx.2.1 pc = .ok (.iushr, 1)) (h : stpI E cx (.iushr) pc lo t G = some (.inl r))  (k : WP p l e R s m args below meth c Q E D Y nL N0 S0 r.1 r.2.1 r.2.2.1 r.2.2.2) : WP p l e R s m args below meth c Q E D Y nL N0 S0 pc lo t G := by
  obtain ⟨⟨hx, hb, hml, hr, hlk⟩, hown, hini, hts, hK⟩ := hM
  have h : p2i t _ = some (.inl r) := h
  unfold p2i at h
  split at h
  · next y x t' =>
    cases nx_inj h
    intro H locs ls hl hI hS g1 g2
    exact lv_iushr hx hb hd rfl (k H locs ls hl hI hS g1 g2)
  · cases h
theorem ss_idiv  (hM : MC p s m args meth c E D Y cx nL) (hd : decode cx.2.1 pc = .ok (.idiv, 1)) (h : stpI E cx (.idiv) pc lo t G = some (.inl r))  (k : WP p l e R s m args below meth c Q E D Y nL N0 S0 r.1 r.2.1 r.2.2.1 r.2.2.2) : WP p l e R s m args below meth c Q E D Y nL N0 S0 pc lo t G := by
  obtain ⟨⟨hx, hb, hml, hr, hlk⟩, hown, hini, hts, hK⟩ := hM
  have h : p2i t _ = some (.inl r) := h
  unfold p2i at h
  split at h
  · next y x t' =>
    obtain ⟨h0, h⟩ := gd_inj h
    cases nx_inj h
    intro H locs ls hl hI hS g1 g2
    exact lv_idiv hx hb hd h0 (k H locs ls hl hI hS g1 g2)
  · cases h
theorem ss_irem  (hM : MC p s m args meth c E D Y cx nL) (hd : decode cx.2.1 pc = .ok (.irem, 1)) (h : stpI E cx (.irem) pc lo t G = some (.inl r))  (k : WP p l e R s m args below meth c Q E D Y nL N0 S0 r.1 r.2.1 r.2.2.1 r.2.2.2) : WP p l e R s m args below meth c Q E D Y nL N0 S0 pc lo t G := by
  obtain ⟨⟨hx, hb, hml, hr, hlk⟩, hown, hini, hts, hK⟩ := hM
  have h : p2i t _ = some (.inl r) := h
  unfold p2i at h
  split at h
  · next y x t' =>
    obtain ⟨h0, h⟩ := gd_inj h
    cases nx_inj h
    intro H locs ls hl hI hS g1 g2
    exact lv_irem hx hb hd h0 (k H locs ls hl hI hS g1 g2)
  · cases h
theorem ss_ladd  (hM : MC p s m args meth c E D Y cx nL) (hd : decode cx.2.1 pc = .ok (.ladd, 1)) (h : stpI E cx (.ladd) pc lo t G = some (.inl r))  (k : WP p l e R s m args below meth c Q E D Y nL N0 S0 r.1 r.2.1 r.2.2.1 r.2.2.2) : WP p l e R s m args below meth c Q E D Y nL N0 S0 pc lo t G := by
  obtain ⟨⟨hx, hb, hml, hr, hlk⟩, hown, hini, hts, hK⟩ := hM
  have h : p2l t _ = some (.inl r) := h
  unfold p2l at h
  split at h
  · next y x t' =>
    cases nx_inj h
    intro H locs ls hl hI hS g1 g2
    exact lv_ladd hx hb hd (k H locs ls hl hI hS g1 g2)
  · cases h
theorem ss_lsub  (hM : MC p s m args meth c E D Y cx nL) (hd : decode cx.2.1 pc = .ok (.lsub, 1)) (h : stpI E cx (.lsub) pc lo t G = some (.inl r))  (k : WP p l e R s m args below meth c Q E D Y nL N0 S0 r.1 r.2.1 r.2.2.1 r.2.2.2) : WP p l e R s m args below meth c Q E D Y nL N0 S0 pc lo t G := by
  obtain ⟨⟨hx, hb, hml, hr, hlk⟩, hown, hini, hts, hK⟩ := hM
  have h : p2l t _ = some (.inl r) := h
  unfold p2l at h
  split at h
  · next y x t' =>
    cases nx_inj h
    intro H locs ls hl hI hS g1 g2
    exact lv_lsub hx hb hd (k H locs ls hl hI hS g1 g2)
  · cases h
theorem ss_lmul  (hM : MC p s m args meth c E D Y cx nL) (hd : decode cx.2.1 pc = .ok (.lmul, 1)) (h : stpI E cx (.lmul) pc lo t G = some (.inl r))  (k : WP p l e R s m args below meth c Q E D Y nL N0 S0 r.1 r.2.1 r.2.2.1 r.2.2.2) : WP p l e R s m args below meth c Q E D Y nL N0 S0 pc lo t G := by
  obtain ⟨⟨hx, hb, hml, hr, hlk⟩, hown, hini, hts, hK⟩ := hM
  have h : p2l t _ = some (.inl r) := h
  unfold p2l at h
  split at h
  · next y x t' =>
    cases nx_inj h
    intro H locs ls hl hI hS g1 g2
    exact lv_lmul hx hb hd (k H locs ls hl hI hS g1 g2)
  · cases h
theorem ss_land  (hM : MC p s m args meth c E D Y cx nL) (hd : decode cx.2.1 pc = .ok (.land, 1)) (h : stpI E cx (.land) pc lo t G = some (.inl r))  (k : WP p l e R s m args below meth c Q E D Y nL N0 S0 r.1 r.2.1 r.2.2.1 r.2.2.2) : WP p l e R s m args below meth c Q E D Y nL N0 S0 pc lo t G := by
  obtain ⟨⟨hx, hb, hml, hr, hlk⟩, hown, hini, hts, hK⟩ := hM
  have h : p2l t _ = some (.inl r) := h
  unfold p2l at h
  split at h
  · next y x t' =>
    cases nx_inj h
    intro H locs ls hl hI hS g1 g2
    exact lv_land hx hb hd (k H locs ls hl hI hS g1 g2)
  · cases h
theorem ss_lor  (hM : MC p s m args meth c E D Y cx nL) (hd : decode cx.2.1 pc = .ok (.lor, 1)) (h : stpI E cx (.lor) pc lo t G = some (.inl r))  (k : WP p l e R s m args below meth c Q E D Y nL N0 S0 r.1 r.2.1 r.2.2.1 r.2.2.2) : WP p l e R s m args below meth c Q E D Y nL N0 S0 pc lo t G := by
  obtain ⟨⟨hx, hb, hml, hr, hlk⟩, hown, hini, hts, hK⟩ := hM
  have h : p2l t _ = some (.inl r) := h
  unfold p2l at h
  split at h
  · next y x t' =>
    cases nx_inj h
    intro H locs ls hl hI hS g1 g2
    exact lv_lor hx hb hd (k H locs ls hl hI hS g1 g2)
  · cases h
theorem ss_ldiv  (hM : MC p s m args meth c E D Y cx nL) (hd : decode cx.2.1 pc = .ok (.ldiv, 1)) (h : stpI E cx (.ldiv) pc lo t G = some (.inl r))  (k : WP p l e R s m args below meth c Q E D Y nL N0 S0 r.1 r.2.1 r.2.2.1 r.2.2.2) : WP p l e R s m args below meth c Q E D Y nL N0 S0 pc lo t G := by
  obtain ⟨⟨hx, hb, hml, hr, hlk⟩, hown, hini, hts, hK⟩ := hM
  have h : p2l t _ = some (.inl r) := h
  unfold p2l at h
  split at h
  · next y x t' =>
    obtain ⟨h0, h⟩ := gd_inj h
    cases nx_inj h
    intro H locs ls hl hI hS g1 g2
    exact lv_ldiv hx hb hd h0 (k H locs ls hl hI hS g1 g2)
  · cases h
theorem ss_lrem  (hM : MC p s m args meth c E D Y cx nL) (hd : decode cx.2.1 pc = .ok (.lrem, 1)) (h : stpI E cx (.lrem) pc lo t G = some (.inl r))  (k : WP p l e R s m args below meth c Q E D Y nL N0 S0 r.1 r.2.1 r.2.2.1 r.2.2.2) : WP p l e R s m args below meth c Q E D Y nL N0 S0 pc lo t G := by
  obtain ⟨⟨hx, hb, hml, hr, hlk⟩, hown, hini, hts, hK⟩ := hM
  have h : p2l t _ = some (.inl r) := h
  unfold p2l at h
  split at h
  · next y x t' =>
    obtain ⟨h0, h⟩ := gd_inj h
    cases nx_inj h
    intro H locs ls hl hI hS g1 g2
    exact lv_lrem hx hb hd h0 (k H locs ls hl hI hS g1 g2)
  · cases h
theorem ss_lushr  (hM : MC p s m args meth c E D Y cx nL) (hd : decode cx.2.1 pc = .ok (.lushr, 1)) (h : stpI E cx (.lushr) pc lo t G = some (.inl r))  (k : WP p l e R s m args below meth c Q E D Y nL N0 S0 r.1 r.2.1 r.2.2.1 r.2.2.2) : WP p l e R s m args below meth c Q E D Y nL N0 S0 pc lo t G := by
  obtain ⟨⟨hx, hb, hml, hr, hlk⟩, hown, hini, hts, hK⟩ := hM
  have h : pli t _ = some (.inl r) := h
  unfold pli at h
  split at h
  · next y x t' =>
    cases nx_inj h
    intro H locs ls hl hI hS g1 g2
    exact lv_lushr hx hb hd rfl (k H locs ls hl hI hS g1 g2)
  · cases h
theorem ss_lshl  (hM : MC p s m args meth c E D Y cx nL) (hd : decode cx.2.1 pc = .ok (.lshl, 1)) (h : stpI E cx (.lshl) pc lo t G = some (.inl r))  (k : WP p l e R s m args below meth c Q E D Y nL N0 S0 r.1 r.2.1 r.2.2.1 r.2.2.2) : WP p l e R s m args below meth c Q E D Y nL N0 S0 pc lo t G := by
  obtain ⟨⟨hx, hb, hml, hr, hlk⟩, hown, hini, hts, hK⟩ := hM
  have h : pli t _ = some (.inl r) := h
  unfold pli at h
  split at h
  · next y x t' =>
    cases nx_inj h
    intro H locs ls hl hI hS g1 g2
    exact lv_lshl hx hb hd rfl (k H locs ls hl hI hS g1 g2)
  · cases h
theorem ss_lcmp  (hM : MC p s m args meth c E D Y cx nL) (hd : decode cx.2.1 pc = .ok (.lcmp, 1)) (h : stpI E cx (.lcmp) pc lo t G = some (.inl r))  (k : WP p l e R s m args below meth c Q E D Y nL N0 S0 r.1 r.2.1 r.2.2.1 r.2.2.2) : WP p l e R s m args below meth c Q E D Y nL N0 S0 pc lo t G := by
  obtain ⟨⟨hx, hb, hml, hr, hlk⟩, hown, hini, hts, hK⟩ := hM
  have h : p2l t _ = some (.inl r) := h
  unfold p2l at h
  split at h
  · next y x t' =>
    cases nx_inj h
    intro H locs ls hl hI hS g1 g2
    exact W.lcmp hx hb hd (k H locs ls hl hI hS g1 g2)
  · cases h
theorem ss_i2l  (hM : MC p s m args meth c E D Y cx nL) (hd : decode cx.2.1 pc = .ok (.i2l, 1)) (h : stpI E cx (.i2l) pc lo t G = some (.inl r))  (k : WP p l e R s m args below meth c Q E D Y nL N0 S0 r.1 r.2.1 r.2.2.1 r.2.2.2) : WP p l e R s m args below meth c Q E D Y nL N0 S0 pc lo t G := by
  obtain ⟨⟨hx, hb, hml, hr, hlk⟩, hown, hini, hts, hK⟩ := hM
  have h : p1i t _ = some (.inl r) := h
  unfold p1i at h
  split at h
  · next x t' =>
    cases nx_inj h
    intro H locs ls hl hI hS g1 g2
    exact lv_i2l hx hb hd rfl (k H locs ls hl hI hS g1 g2)
  · cases h
theorem ss_l2i  (hM : MC p s m args meth c E D Y cx nL) (hd : decode cx.2.1 pc = .ok (.l2i, 1)) (h : stpI E cx (.l2i) pc lo t G = some (.inl r))  (k : WP p l e R s m args below meth c Q E D Y nL N0 S0 r.1 r.2.1 r.2.2.1 r.2.2.2) : WP p l e R s m args below meth c Q E D Y nL N0 S0 pc lo t G := by
  obtain ⟨⟨hx, hb, hml, hr, hlk⟩, hown, hini, hts, hK⟩ := hM
  have h : p1l t _ = some (.inl r) := h
  unfold p1l at h
  split at h
  · next x t' =>
    cases nx_inj h
    intro H locs ls hl hI hS g1 g2
    exact lv_l2i hx hb hd rfl (k H locs ls hl hI hS g1 g2)
  · cases h
theorem ss_i2b  (hM : MC p s m args meth c E D Y cx nL) (hd : decode cx.2.1 pc = .ok (.i2b, 1)) (h : stpI E cx (.i2b) pc lo t G = some (.inl r))  (k : WP p l e R s m args below meth c Q E D Y nL N0 S0 r.1 r.2.1 r.2.2.1 r.2.2.2) : WP p l e R s m args below meth c Q E D Y nL N0 S0 pc lo t G := by
  obtain ⟨⟨hx, hb, hml, hr, hlk⟩, hown, hini, hts, hK⟩ := hM
  have h : p1i t _ = some (.inl r) := h
  unfold p1i at h
  split at h
  · next x t' =>
    cases nx_inj h
    intro H locs ls hl hI hS g1 g2
    exact lv_i2b hx hb hd rfl (k H locs ls hl hI hS g1 g2)
  · cases h
theorem ss_i2c  (hM : MC p s m args meth c E D Y cx nL) (hd : decode cx.2.1 pc = .ok (.i2c, 1)) (h : stpI E cx (.i2c) pc lo t G = some (.inl r))  (k : WP p l e R s m args below meth c Q E D Y nL N0 S0 r.1 r.2.1 r.2.2.1 r.2.2.2) : WP p l e R s m args below meth c Q E D Y nL N0 S0 pc lo t G := by
  obtain ⟨⟨hx, hb, hml, hr, hlk⟩, hown, hini, hts, hK⟩ := hM
  have h : p1i t _ = some (.inl r) := h
  unfold p1i at h
  split at h
  · next x t' =>
    cases nx_inj h
    intro H locs ls hl hI hS g1 g2
    exact lv_i2c hx hb hd rfl (k H locs ls hl hI hS g1 g2)
  · cases h
theorem ss_dup  (hM : MC p s m args meth c E D Y cx nL) (hd : decode cx.2.1 pc = .ok (.dup, 1)) (h : stpI E cx (.dup) pc lo t G = some (.inl r))  (k : WP p l e R s m args below meth c Q E D Y nL N0 S0 r.1 r.2.1 r.2.2.1 r.2.2.2) : WP p l e R s m args below meth c Q E D Y nL N0 S0 pc lo t G := by
  obtain ⟨⟨hx, hb, hml, hr, hlk⟩, hown, hini, hts, hK⟩ := hM
  cases t with
  | nil => cases h
  | cons v t' =>
    obtain ⟨h0, h⟩ := gd_inj h
    cases nx_inj h
    intro H locs ls hl hI hS g1 g2
    exact lv_dup hx hb hd h0 (k H locs ls hl hI hS g1 g2)
theorem ss_pop  (hM : MC p s m args meth c E D Y cx nL) (hd : decode cx.2.1 pc = .ok (.pop, 1)) (h : stpI E cx (.pop) pc lo t G = some (.inl r))  (k : WP p l e R s m args below meth c Q E D Y nL N0 S0 r.1 r.2.1 r.2.2.1 r.2.2.2) : WP p l e R s m args below meth c Q E D Y nL N0 S0 pc lo t G := by
  obtain ⟨⟨hx, hb, hml, hr, hlk⟩, hown, hini, hts, hK⟩ := hM
  cases t with
  | nil => cases h
  | cons v t' =>
    obtain ⟨h0, h⟩ := gd_inj h
    cases nx_inj h
    intro H locs ls hl hI hS g1 g2
    exact lv_pop hx hb hd h0 (k H locs ls hl hI hS g1 g2)
theorem ss_goto {off : Int} (hM : MC p s m args meth c E D Y cx nL) (hd : decode cx.2.1 pc = .ok (.goto off, 3)) (h : stpI E cx (.goto off) pc lo t G = some (.inl r))  (k : WP p l e R s m args below meth c Q E D Y nL N0 S0 r.1 r.2.1 r.2.2.1 r.2.2.2) : WP p l e R s m args below meth c Q E D Y nL N0 S0 pc lo t G := by
  obtain ⟨⟨hx, hb, hml, hr, hlk⟩, hown, hini, hts, hK⟩ := hM
  obtain ⟨tgt, h1, h2⟩ := jmp_inj h
  cases h2
  intro H locs ls hl hI hS g1 g2
  exact lv_goto hx hb hd h1 (k H locs ls hl hI hS g1 g2)
theorem ss_ifeq {off : Int} (hM : MC p s m args meth c E D Y cx nL) (hd : decode cx.2.1 pc = .ok (.ifCond .eq off, 3)) (h : stpI E cx (.ifCond .eq off) pc lo t G = some (.inl r))  (k : WP p l e R s m args below meth c Q E D Y nL N0 S0 r.1 r.2.1 r.2.2.1 r.2.2.2) : WP p l e R s m args below meth c Q E D Y nL N0 S0 pc lo t G := by
  obtain ⟨⟨hx, hb, hml, hr, hlk⟩, hown, hini, hts, hK⟩ := hM
  have h : p1i t _ = some (.inl r) := h
  unfold p1i at h
  split at h
  · next x t' =>
    obtain ⟨tgt, h1, ⟨hb1, h2⟩ | ⟨hb1, h2⟩⟩ := bra_inj h
    · have hb1 := of_decide_eq_true hb1
      cases h2
      intro H locs ls hl hI hS g1 g2
      exact lv_if_eq hx hb hd h1 (fun _ => k H locs ls hl hI hS g1 g2) (fun z => absurd hb1 z)
    · have hb1 := of_decide_eq_false hb1
      cases h2
      intro H locs ls hl hI hS g1 g2
      exact lv_if_eq hx hb hd h1 (fun z => absurd z hb1) (fun z => k H locs ls hl hI hS g1 g2)
  · cases h
theorem ss_ifne {off : Int} (hM : MC p s m args meth c E D Y cx nL) (hd : decode cx.2.1 pc = .ok (.ifCond .ne off, 3)) (h : stpI E cx (.ifCond .ne off) pc lo t G = some (.inl r))  (k : WP p l e R s m args below meth c Q E D Y nL N0 S0 r.1 r.2.1 r.2.2.1 r.2.2.2) : WP p l e R s m args below meth c Q E D Y nL N0 S0 pc lo t G := by
  obtain ⟨⟨hx, hb, hml, hr, hlk⟩, hown, hini, hts, hK⟩ := hM
  have h : p1i t _ = some (.inl r) := h
  unfold p1i at h
  split at h
  · next x t' =>
    obtain ⟨tgt, h1, ⟨hb1, h2⟩ | ⟨hb1, h2⟩⟩ := bra_inj h
    · have hb1 := of_decide_eq_true hb1
      cases h2
      intro H locs ls hl hI hS g1 g2
      exact lv_if_ne hx hb hd h1 (fun _ => k H locs ls hl hI hS g1 g2) (fun z => absurd z hb1)
    · have hb1 := of_decide_eq_false hb1
      cases h2
      intro H locs ls hl hI hS g1 g2
      exact lv_if_ne hx hb hd h1 (fun z => absurd z hb1) (fun z => k H locs ls hl hI hS g1 g2)
  · cases h
theorem ss_iflt {off : Int} (hM : MC p s m args meth c E D Y cx nL) (hd : decode cx.2.1 pc = .ok (.ifCond .lt off, 3)) (h : stpI E cx (.ifCond .lt off) pc lo t G = some (.inl r))  (k : WP p l e R s m args below meth c Q E D Y nL N0 S0 r.1 r.2.1 r.2.2.1 r.2.2.2) : WP p l e R s m args below meth c Q E D Y nL N0 S0 pc lo t G := by
  obtain ⟨⟨hx, hb, hml, hr, hlk⟩, hown, hini, hts, hK⟩ := hM
  have h : p1i t _ = some (.inl r) := h
  unfold p1i at h
  split at h
  · next x t' =>
    obtain ⟨tgt, h1, ⟨hb1, h2⟩ | ⟨hb1, h2⟩⟩ := bra_inj h
    · have hb1 := of_decide_eq_true hb1
      cases h2
      intro H locs ls hl hI hS g1 g2
      exact lv_if_lt hx hb hd h1 (fun _ => k H locs ls hl hI hS g1 g2) (fun z => absurd hb1 z)
    · have hb1 := of_decide_eq_false hb1
      cases h2
      intro H locs ls hl hI hS g1 g2
      exact lv_if_lt hx hb hd h1 (fun z => absurd z hb1) (fun z => k H locs ls hl hI hS g1 g2)
  · cases h
theorem ss_ifge {off : Int} (hM : MC p s m args meth c E D Y cx nL) (hd : decode cx.2.1 pc = .ok (.ifCond .ge off, 3)) (h : stpI E cx (.ifCond .ge off) pc lo t G = some (.inl r))  (k : WP p l e R s m args below meth c Q E D Y nL N0 S0 r.1 r.2.1 r.2.2.1 r.2.2.2) : WP p l e R s m args below meth c Q E D Y nL N0 S0 pc lo t G := by
  obtain ⟨⟨hx, hb, hml, hr, hlk⟩, hown, hini, hts, hK⟩ := hM
  have h : p1i t _ = some (.inl r) := h
  unfold p1i at h
  split at h
  · next x t' =>
    obtain ⟨tgt, h1, ⟨hb1, h2⟩ | ⟨hb1, h2⟩⟩ := bra_inj h
    · have hb1 := of_decide_eq_true hb1
      cases h2
      intro H locs ls hl hI hS g1 g2
      exact lv_if_ge hx hb hd h1 (fun _ => k H locs ls hl hI hS g1 g2) (fun z => absurd hb1 z)
    · have hb1 := of_decide_eq_false hb1
      cases h2
      intro H locs ls hl hI hS g1 g2
      exact lv_if_ge hx hb hd h1 (fun z => absurd z hb1) (fun z => k H locs ls hl hI hS g1 g2)
  · cases h
theorem ss_ifgt {off : Int} (hM : MC p s m args meth c E D Y cx nL) (hd : decode cx.2.1 pc = .ok (.ifCond .gt off, 3)) (h : stpI E cx (.ifCond .gt off) pc lo t G = some (.inl r))  (k : WP p l e R s m args below meth c Q E D Y nL N0 S0 r.1 r.2.1 r.2.2.1 r.2.2.2) : WP p l e R s m args below meth c Q E D Y nL N0 S0 pc lo t G := by
  obtain ⟨⟨hx, hb, hml, hr, hlk⟩, hown, hini, hts, hK⟩ := hM
  have h : p1i t _ = some (.inl r) := h
  unfold p1i at h
  split at h
  · next x t' =>
    obtain ⟨tgt, h1, ⟨hb1, h2⟩ | ⟨hb1, h2⟩⟩ := bra_inj h
    · have hb1 := of_decide_eq_true hb1
      cases h2
      intro H locs ls hl hI hS g1 g2
      exact lv_if_gt hx hb hd h1 (fun _ => k H locs ls hl hI hS g1 g2) (fun z => absurd hb1 z)
    · have hb1 := of_decide_eq_false hb1
      cases h2
      intro H locs ls hl hI hS g1 g2
      exact lv_if_gt hx hb hd h1 (fun z => absurd z hb1) (fun z => k H locs ls hl hI hS g1 g2)
  · cases h
theorem ss_ifle {off : Int} (hM : MC p s m args meth c E D Y cx nL) (hd : decode cx.2.1 pc = .ok (.ifCond .le off, 3)) (h : stpI E cx (.ifCond .le off) pc lo t G = some (.inl r))  (k : WP p l e R s m args below meth c Q E D Y nL N0 S0 r.1 r.2.1 r.2.2.1 r.2.2.2) : WP p l e R s m args below meth c Q E D Y nL N0 S0 pc lo t G := by
  obtain ⟨⟨hx, hb, hml, hr, hlk⟩, hown, hini, hts, hK⟩ := hM
  have h : p1i t _ = some (.inl r) := h
  unfold p1i at h
  split at h
  · next x t' =>
    obtain ⟨tgt, h1, ⟨hb1, h2⟩ | ⟨hb1, h2⟩⟩ := bra_inj h
    · have hb1 := of_decide_eq_true hb1
      cases h2
      intro H locs ls hl hI hS g1 g2
      exact lv_if_le hx hb hd h1 (fun _ => k H locs ls hl hI hS g1 g2) (fun z => absurd hb1 z)
    · have hb1 := of_decide_eq_false hb1
      cases h2
      intro H locs ls hl hI hS g1 g2
      exact lv_if_le hx hb hd h1 (fun z => absurd z hb1) (fun z => k H locs ls hl hI hS g1 g2)
  · cases h
theorem ss_ceq {off : Int} (hM : MC p s m args meth c E D Y cx nL) (hd : decode cx.2.1 pc = .ok (.if_icmp .eq off, 3)) (h : stpI E cx (.if_icmp .eq off) pc lo t G = some (.inl r))  (k : WP p l e R s m args below meth c Q E D Y nL N0 S0 r.1 r.2.1 r.2.2.1 r.2.2.2) : WP p l e R s m args below meth c Q E D Y nL N0 S0 pc lo t G := by
  obtain ⟨⟨hx, hb, hml, hr, hlk⟩, hown, hini, hts, hK⟩ := hM
  have h : p2i t _ = some (.inl r) := h
  unfold p2i at h
  split at h
  · next y x t' =>
    obtain ⟨tgt, h1, ⟨hb1, h2⟩ | ⟨hb1, h2⟩⟩ := bra_inj h
    · have hb1 := of_decide_eq_true hb1
      cases h2
      intro H locs ls hl hI hS g1 g2
      exact lv_icmp_eq hx hb hd h1 (fun _ => k H locs ls hl hI hS g1 g2) (fun z => absurd hb1 z)
    · have hb1 := of_decide_eq_false hb1
      cases h2
      intro H locs ls hl hI hS g1 g2
      exact lv_icmp_eq hx hb hd h1 (fun z => absurd z hb1) (fun z => k H locs ls hl hI hS g1 g2)
  · cases h
theorem ss_cne {off : Int} (hM : MC p s m args meth c E D Y cx nL) (hd : decode cx.2.1 pc = .ok (.if_icmp .ne off, 3)) (h : stpI E cx (.if_icmp .ne off) pc lo t G = some (.inl r))  (k : WP p l e R s m args below meth c Q E D Y nL N0 S0 r.1 r.2.1 r.2.2.1 r.2.2.2) : WP p l e R s m args below meth c Q E D Y nL N0 S0 pc lo t G := by
  obtain ⟨⟨hx, hb, hml, hr, hlk⟩, hown, hini, hts, hK⟩ := hM
  have h : p2i t _ = some (.inl r) := h
  unfold p2i at h
  split at h
  · next y x t' =>
    obtain ⟨tgt, h1, ⟨hb1, h2⟩ | ⟨hb1, h2⟩⟩ := bra_inj h
    · have hb1 := of_decide_eq_true hb1
      cases h2
      intro H locs ls hl hI hS g1 g2
      exact lv_icmp_ne hx hb hd h1 (fun _ => k H locs ls hl hI hS g1 g2) (fun z => absurd z hb1)
    · have hb1 := of_decide_eq_false hb1
      cases h2
      intro H locs ls hl hI hS g1 g2
      exact lv_icmp_ne hx hb hd h1 (fun z => absurd z hb1) (fun z => k H locs ls hl hI hS g1 g2)
  · cases h
theorem ss_clt {off : Int} (hM : MC p s m args meth c E D Y cx nL) (hd : decode cx.2.1 pc = .ok (.if_icmp .lt off, 3)) (h : stpI E cx (.if_icmp .lt off) pc lo t G = some (.inl r))  (k : WP p l e R s m args below meth c Q E D Y nL N0 S0 r.1 r.2.1 r.2.2.1 r.2.2.2) : WP p l e R s m args below meth c Q E D Y nL N0 S0 pc lo t G := by
  obtain ⟨⟨hx, hb, hml, hr, hlk⟩, hown, hini, hts, hK⟩ := hM
  have h : p2i t _ = some (.inl r) := h
  unfold p2i at h
  split at h
  · next y x t' =>
    obtain ⟨tgt, h1, ⟨hb1, h2⟩ | ⟨hb1, h2⟩⟩ := bra_inj h
    · have hb1 := of_decide_eq_true hb1
      cases h2
      intro H locs ls hl hI hS g1 g2
      exact lv_icmp_lt hx hb hd h1 (fun _ => k H locs ls hl hI hS g1 g2) (fun z => absurd hb1 z)
    · have hb1 := of_decide_eq_false hb1
      cases h2
      intro H locs ls hl hI hS g1 g2
      exact lv_icmp_lt hx hb hd h1 (fun z => absurd z hb1) (fun z => k H locs ls hl hI hS g1 g2)
  · cases h
theorem ss_cge {off : Int} (hM : MC p s m args meth c E D Y cx nL) (hd : decode cx.2.1 pc = .ok (.if_icmp .ge off, 3)) (h : stpI E cx (.if_icmp .ge off) pc lo t G = some (.inl r))  (k : WP p l e R s m args below meth c Q E D Y nL N0 S0 r.1 r.2.1 r.2.2.1 r.2.2.2) : WP p l e R s m args below meth c Q E D Y nL N0 S0 pc lo t G := by
  obtain ⟨⟨hx, hb, hml, hr, hlk⟩, hown, hini, hts, hK⟩ := hM
  have h : p2i t _ = some (.inl r) := h
  unfold p2i at h
  split at h
  · next y x t' =>
    obtain ⟨tgt, h1, ⟨hb1, h2⟩ | ⟨hb1, h2⟩⟩ := bra_inj h
    · have hb1 := of_decide_eq_true hb1
      cases h2
      intro H locs ls hl hI hS g1 g2
      exact lv_icmp_ge hx hb hd h1 (fun _ => k H locs ls hl hI hS g1 g2) (fun z => absurd hb1 z)
    · have hb1 := of_decide_eq_false hb1
      cases h2
      intro H locs ls hl hI hS g1 g2
      exact lv_icmp_ge hx hb hd h1 (fun z => absurd z hb1) (fun z => k H locs ls hl hI hS g1 g2)
  · cases h
theorem ss_cgt {off : Int} (hM : MC p s m args meth c E D Y cx nL) (hd : decode cx.2.1 pc = .ok (.if_icmp .gt off, 3)) (h : stpI E cx (.if_icmp .gt off) pc lo t G = some (.inl r))  (k : WP p l e R s m args below meth c Q E D Y nL N0 S0 r.1 r.2.1 r.2.2.1 r.2.2.2) : WP p l e R s m args below meth c Q E D Y nL N0 S0 pc lo t G := by
  obtain ⟨⟨hx, hb, hml, hr, hlk⟩, hown, hini, hts, hK⟩ := hM
  have h : p2i t _ = some (.inl r) := h
  unfold p2i at h
  split at h
  · next y x t' =>
    obtain ⟨tgt, h1, ⟨hb1, h2⟩ | ⟨hb1, h2⟩⟩ := bra_inj h
    · have hb1 := of_decide_eq_true hb1
      cases h2
      intro H locs ls hl hI hS g1 g2
      exact lv_icmp_gt hx hb hd h1 (fun _ => k H locs ls hl hI hS g1 g2) (fun z => absurd hb1 z)
    · have hb1 := of_decide_eq_false hb1
      cases h2
      intro H locs ls hl hI hS g1 g2
      exact lv_icmp_gt hx hb hd h1 (fun z => absurd z hb1) (fun z => k H locs ls hl hI hS g1 g2)
  · cases h
theorem ss_cle {off : Int} (hM : MC p s m args meth c E D Y cx nL) (hd : decode cx.2.1 pc = .ok (.if_icmp .le off, 3)) (h : stpI E cx (.if_icmp .le off) pc lo t G = some (.inl r))  (k : WP p l e R s m args below meth c Q E D Y nL N0 S0 r.1 r.2.1 r.2.2.1 r.2.2.2) : WP p l e R s m args below meth c Q E D Y nL N0 S0 pc lo t G := by
  obtain ⟨⟨hx, hb, hml, hr, hlk⟩, hown, hini, hts, hK⟩ := hM
  have h : p2i t _ = some (.inl r) := h
  unfold p2i at h
  split at h
  · next y x t' =>
    obtain ⟨tgt, h1, ⟨hb1, h2⟩ | ⟨hb1, h2⟩⟩ := bra_inj h
    · have hb1 := of_decide_eq_true hb1
      cases h2
      intro H locs ls hl hI hS g1 g2
      exact lv_icmp_le hx hb hd h1 (fun _ => k H locs ls hl hI hS g1 g2) (fun z => absurd hb1 z)
    · have hb1 := of_decide_eq_false hb1
      cases h2
      intro H locs ls hl hI hS g1 g2
      exact lv_icmp_le hx hb hd h1 (fun z => absurd z hb1) (fun z => k H locs ls hl hI hS g1 g2)
  · cases h
theorem ss_tsw {dflt lw hh : Int} {offs : Array Int} {n : Nat} (hM : MC p s m args meth c E D Y cx nL) (hd : decode cx.2.1 pc = .ok (.tableswitch dflt lw hh offs, n)) (h : stpI E cx (.tableswitch dflt lw hh offs) pc lo t G = some (.inl r))  (k : WP p l e R s m args below meth c Q E D Y nL N0 S0 r.1 r.2.1 r.2.2.1 r.2.2.2) : WP p l e R s m args below meth c Q E D Y nL N0 S0 pc lo t G := by
  obtain ⟨⟨hx, hb, hml, hr, hlk⟩, hown, hini, hts, hK⟩ := hM
  have h : p1i t _ = some (.inl r) := h
  unfold p1i at h
  split at h
  · next x t' =>
    dsimp only at h
    split at h
    · next hc =>
      obtain ⟨tgt, h1, h2⟩ := jmp_inj h
      cases h2
      intro H locs ls hl hI hS g1 g2
      exact lv_tableOut hx hb hd hc h1 (k H locs ls hl hI hS g1 g2)
    · next hc =>
      obtain ⟨off, h0, h⟩ := ov_inj h
      obtain ⟨tgt, h1, h2⟩ := jmp_inj h
      cases h2
      intro H locs ls hl hI hS g1 g2
      exact lv_tableIn hx hb hd (fun z => hc (Or.inl z)) (fun z => hc (Or.inr z)) h0 h1 (k H locs ls hl hI hS g1 g2)
  · cases h
end SND
end
section
/-! heap instructions -/
theorem lookup_mem {β : Type} : ∀ {l : List (Nat × β)} {k : Nat} {v : β}, l.lookup k = some v → (k, v) ∈ l := by
  intro l
  induction l with
  | nil => intro k v h; cases h
  | cons q l ih =>
    intro k v h
    obtain ⟨a, b⟩ := q
    rw [List.lookup_cons] at h
    by_cases e : k = a
    · subst e
      simp at h
      subst h
      exact List.mem_cons_self
    · have : (k == a) = false := beq_eq_false_iff_ne.mpr e
      rw [this] at h
      exact List.mem_cons_of_mem _ (ih h)
theorem look {β : Type} {l : List (Nat × β)} {o x : Nat} {v : β} (h : (if x < 10000 then l.lookup (o * 10000 + x) else none) = some v) : (o * 10000 + x, v) ∈ l ∧ (o * 10000 + x) / 10000 = o ∧ (o * 10000 + x) % 10000 = x := by
  split at h
  · exact ⟨lookup_mem h, by omega, by omega⟩
  · cases h
def okF (q : Nat × Nat × Nat × Nat) : Prop := tables_1[q.2.2.2]? = some (.fieldLink (tN (q.1 / 10000)) (q.1 % 10000) (tN q.2.1) (fTb q.2.1 q.2.2.1).2.1 (fTb q.2.1 q.2.2.1).2.2.1) ∧ q.2.2.1 < fSz q.2.1 ∧ q.2.1 < 8 ∧ (fTb q.2.1 q.2.2.1).1 = tN q.2.1

theorem okF_0 : okF (30009, 3, 0, 32) := ⟨by decide +kernel, by decide, by decide, by rfl⟩
theorem okF_1 : okF (30015, 3, 1, 33) := ⟨by decide +kernel, by decide, by decide, by rfl⟩
theorem okF_2 : okF (30019, 3, 2, 34) := ⟨by decide +kernel, by decide, by decide, by rfl⟩
theorem okF_3 : okF (20015, 2, 0, 59) := ⟨by decide +kernel, by decide, by decide, by rfl⟩
theorem okF_4 : okF (20021, 2, 1, 60) := ⟨by decide +kernel, by decide, by decide, by rfl⟩
theorem okF_5 : okF (10011, 1, 0, 82) := ⟨by decide +kernel, by decide, by decide, by rfl⟩
theorem okF_6 : okF (10020, 1, 1, 83) := ⟨by decide +kernel, by decide, by decide, by rfl⟩
theorem okF_7 : okF (10024, 1, 2, 84) := ⟨by decide +kernel, by decide, by decide, by rfl⟩
theorem okF_8 : okF (10027, 1, 3, 85) := ⟨by decide +kernel, by decide, by decide, by rfl⟩
theorem okF_9 : okF (40009, 4, 0, 103) := ⟨by decide +kernel, by decide, by decide, by rfl⟩
theorem okF_10 : okF (40017, 4, 1, 104) := ⟨by decide +kernel, by decide, by decide, by rfl⟩
theorem okF_11 : okF (40024, 4, 2, 105) := ⟨by decide +kernel, by decide, by decide, by rfl⟩
theorem okF_12 : okF (40028, 4, 3, 106) := ⟨by decide +kernel, by decide, by decide, by rfl⟩
theorem okF_13 : okF (40032, 4, 4, 107) := ⟨by decide +kernel, by decide, by decide, by rfl⟩
theorem okF_14 : okF (40035, 4, 5, 108) := ⟨by decide +kernel, by decide, by decide, by rfl⟩
theorem okF_15 : okF (40038, 4, 6, 109) := ⟨by decide +kernel, by decide, by decide, by rfl⟩
theorem okF_16 : okF (50009, 5, 0, 133) := ⟨by decide +kernel, by decide, by decide, by rfl⟩
theorem okF_17 : okF (50017, 5, 1, 134) := ⟨by decide +kernel, by decide, by decide, by rfl⟩
theorem okF_18 : okF (50020, 5, 2, 135) := ⟨by decide +kernel, by decide, by decide, by rfl⟩
theorem okF_19 : okF (50023, 5, 3, 136) := ⟨by decide +kernel, by decide, by decide, by rfl⟩
theorem okF_20 : okF (50027, 5, 4, 137) := ⟨by decide +kernel, by decide, by decide, by rfl⟩
theorem okF_21 : okF (50031, 5, 5, 138) := ⟨by decide +kernel, by decide, by decide, by rfl⟩
theorem okF_22 : okF (11, 0, 0, 161) := ⟨by decide +kernel, by decide, by decide, by rfl⟩
theorem okF_23 : okF (18, 0, 1, 162) := ⟨by decide +kernel, by decide, by decide, by rfl⟩
theorem okF_24 : okF (22, 0, 2, 163) := ⟨by decide +kernel, by decide, by decide, by rfl⟩
theorem okF_25 : okF (60010, 6, 0, 173) := ⟨by decide +kernel, by decide, by decide, by rfl⟩
theorem okF_26 : okF (60019, 6, 1, 174) := ⟨by decide +kernel, by decide, by decide, by rfl⟩
theorem okF_27 : okF (60028, 6, 2, 175) := ⟨by decide +kernel, by decide, by decide, by rfl⟩
theorem okF_28 : okF (60035, 6, 3, 176) := ⟨by decide +kernel, by decide, by decide, by rfl⟩
theorem okF_29 : okF (60042, 6, 4, 177) := ⟨by decide +kernel, by decide, by decide, by rfl⟩
theorem okF_30 : okF (60046, 6, 5, 178) := ⟨by decide +kernel, by decide, by decide, by rfl⟩
theorem okF_31 : okF (60050, 6, 6, 179) := ⟨by decide +kernel, by decide, by decide, by rfl⟩
theorem okF_32 : okF (60054, 6, 7, 180) := ⟨by decide +kernel, by decide, by decide, by rfl⟩
theorem okF_33 : okF (60062, 6, 8, 181) := ⟨by decide +kernel, by decide, by decide, by rfl⟩
theorem okF_34 : okF (60066, 6, 9, 182) := ⟨by decide +kernel, by decide, by decide, by rfl⟩
theorem okF_35 : okF (60069, 6, 10, 183) := ⟨by decide +kernel, by decide, by decide, by rfl⟩
theorem okF_36 : okF (70007, 7, 0, 805) := ⟨by decide +kernel, by decide, by decide, by rfl⟩
theorem okF_37 : okF (70081, 7, 1, 806) := ⟨by decide +kernel, by decide, by decide, by rfl⟩
theorem okF_38 : okF (70013, 7, 2, 807) := ⟨by decide +kernel, by decide, by decide, by rfl⟩
theorem okF_39 : okF (70016, 7, 3, 808) := ⟨by decide +kernel, by decide, by decide, by rfl⟩
theorem okF_40 : okF (70019, 7, 4, 809) := ⟨by decide +kernel, by decide, by decide, by rfl⟩
theorem okF_41 : okF (70022, 7, 5, 810) := ⟨by decide +kernel, by decide, by decide, by rfl⟩
theorem okF_42 : okF (70113, 7, 6, 811) := ⟨by decide +kernel, by decide, by decide, by rfl⟩
theorem okF_43 : okF (70132, 7, 7, 812) := ⟨by decide +kernel, by decide, by decide, by rfl⟩
theorem okF_44 : okF (70025, 7, 8, 813) := ⟨by decide +kernel, by decide, by decide, by rfl⟩
theorem okF_45 : okF (70028, 7, 9, 814) := ⟨by decide +kernel, by decide, by decide, by rfl⟩
theorem okF_46 : okF (70032, 7, 10, 815) := ⟨by decide +kernel, by decide, by decide, by rfl⟩
theorem okF_47 : okF (70157, 7, 11, 816) := ⟨by decide +kernel, by decide, by decide, by rfl⟩
theorem okF_48 : okF (70035, 7, 12, 817) := ⟨by decide +kernel, by decide, by decide, by rfl⟩
theorem okF_49 : okF (70142, 7, 13, 818) := ⟨by decide +kernel, by decide, by decide, by rfl⟩
theorem okF_50 : okF (70164, 7, 14, 819) := ⟨by decide +kernel, by decide, by decide, by rfl⟩
theorem okF_51 : okF (70167, 7, 15, 820) := ⟨by decide +kernel, by decide, by decide, by rfl⟩
theorem okF_52 : okF (70170, 7, 16, 821) := ⟨by decide +kernel, by decide, by decide, by rfl⟩
theorem okF_53 : okF (70038, 7, 17, 822) := ⟨by decide +kernel, by decide, by decide, by rfl⟩
theorem okF_54 : okF (70041, 7, 18, 823) := ⟨by decide +kernel, by decide, by decide, by rfl⟩
theorem okF_55 : okF (70044, 7, 19, 824) := ⟨by decide +kernel, by decide, by decide, by rfl⟩
theorem tF_ok : ∀ q ∈ tF, okF q := List.forall_mem_cons.mpr ⟨okF_0, List.forall_mem_cons.mpr ⟨okF_1, List.forall_mem_cons.mpr ⟨okF_2, List.forall_mem_cons.mpr ⟨okF_3, List.forall_mem_cons.mpr ⟨okF_4, List.forall_mem_cons.mpr ⟨okF_5, List.forall_mem_cons.mpr ⟨okF_6, List.forall_mem_cons.mpr ⟨okF_7, List.forall_mem_cons.mpr ⟨okF_8, List.forall_mem_cons.mpr ⟨okF_9, List.forall_mem_cons.mpr ⟨okF_10, List.forall_mem_cons.mpr ⟨okF_11, List.forall_mem_cons.mpr ⟨okF_12, List.forall_mem_cons.mpr ⟨okF_13, List.forall_mem_cons.mpr ⟨okF_14, List.forall_mem_cons.mpr ⟨okF_15, List.forall_mem_cons.mpr ⟨okF_16, List.forall_mem_cons.mpr ⟨okF_17, List.forall_mem_cons.mpr ⟨okF_18, List.forall_mem_cons.mpr ⟨okF_19, List.forall_mem_cons.mpr ⟨okF_20, List.forall_mem_cons.mpr ⟨okF_21, List.forall_mem_cons.mpr ⟨okF_22, List.forall_mem_cons.mpr ⟨okF_23, List.forall_mem_cons.mpr ⟨okF_24, List.forall_mem_cons.mpr ⟨okF_25, List.forall_mem_cons.mpr ⟨okF_26, List.forall_mem_cons.mpr ⟨okF_27, List.forall_mem_cons.mpr ⟨okF_28, List.forall_mem_cons.mpr ⟨okF_29, List.forall_mem_cons.mpr ⟨okF_30, List.forall_mem_cons.mpr ⟨okF_31, List.forall_mem_cons.mpr ⟨okF_32, List.forall_mem_cons.mpr ⟨okF_33, List.forall_mem_cons.mpr ⟨okF_34, List.forall_mem_cons.mpr ⟨okF_35, List.forall_mem_cons.mpr ⟨okF_36, List.forall_mem_cons.mpr ⟨okF_37, List.forall_mem_cons.mpr ⟨okF_38, List.forall_mem_cons.mpr ⟨okF_39, List.forall_mem_cons.mpr ⟨okF_40, List.forall_mem_cons.mpr ⟨okF_41, List.forall_mem_cons.mpr ⟨okF_42, List.forall_mem_cons.mpr ⟨okF_43, List.forall_mem_cons.mpr ⟨okF_44, List.forall_mem_cons.mpr ⟨okF_45, List.forall_mem_cons.mpr ⟨okF_46, List.forall_mem_cons.mpr ⟨okF_47, List.forall_mem_cons.mpr ⟨okF_48, List.forall_mem_cons.mpr ⟨okF_49, List.forall_mem_cons.mpr ⟨okF_50, List.forall_mem_cons.mpr ⟨okF_51, List.forall_mem_cons.mpr ⟨okF_52, List.forall_mem_cons.mpr ⟨okF_53, List.forall_mem_cons.mpr ⟨okF_54, List.forall_mem_cons.mpr ⟨okF_55, fun _ h => absurd h List.not_mem_nil⟩⟩⟩⟩⟩⟩⟩⟩⟩⟩⟩⟩⟩⟩⟩⟩⟩⟩⟩⟩⟩⟩⟩⟩⟩⟩⟩⟩⟩⟩⟩⟩⟩⟩⟩⟩⟩⟩⟩⟩⟩⟩⟩⟩⟩⟩⟩⟩⟩⟩⟩⟩⟩⟩⟩⟩
theorem fF_ok {o x : Nat} {q : Nat × Nat × Nat} (h : fF o x = some q) : tables_1[q.2.2]? = some (.fieldLink (tN o) x (tN q.1) (fTb q.1 q.2.1).2.1 (fTb q.1 q.2.1).2.2.1) ∧ q.2.1 < fSz q.1 ∧ q.1 < 8 ∧ (fTb q.1 q.2.1).1 = tN q.1 := by
  obtain ⟨h1, h2, h3⟩ := look h
  have h4 := tF_ok _ h1
  unfold okF at h4
  rw [h2, h3] at h4
  exact h4
theorem cls_at {ci : Nat} (h : ci < 8) : clsT[ci]? = some (tN ci, fTb ci, fSz ci) := by
  match ci, h with
  | 0, _ => rfl | 1, _ => rfl | 2, _ => rfl | 3, _ => rfl | 4, _ => rfl | 5, _ => rfl | 6, _ => rfl | 7, _ => rfl

theorem ul_0_0 : u_lay RX0 TX0 0 ∈ LW := LW_t 164 (by decide +kernel) (by rfl)
theorem ul_0_1 : u_lay RX0 TX0 1 ∈ LW := LW_t 166 (by decide +kernel) (by rfl)
theorem ul_0_2 : u_lay RX0 TX0 2 ∈ LW := LW_t 168 (by decide +kernel) (by rfl)
theorem ul_0 : ∀ w ∈ u_ws RX0 TX0 3, w ∈ LW := by
  intro w hw
  obtain ⟨k, hk, rfl⟩ := List.mem_map.mp hw
  have hk := List.mem_range.mp hk
  match k, hk with
  | 0, _ => exact ul_0_0
  | 1, _ => exact ul_0_1
  | 2, _ => exact ul_0_2
  | k + 3, hk => exact absurd hk (by omega)
theorem ul_1_0 : u_lay RX1 TX1 0 ∈ LW := LW_t 86 (by decide +kernel) (by rfl)
theorem ul_1_1 : u_lay RX1 TX1 1 ∈ LW := LW_t 88 (by decide +kernel) (by rfl)
theorem ul_1_2 : u_lay RX1 TX1 2 ∈ LW := LW_t 90 (by decide +kernel) (by rfl)
theorem ul_1_3 : u_lay RX1 TX1 3 ∈ LW := LW_t 92 (by decide +kernel) (by rfl)
theorem ul_1 : ∀ w ∈ u_ws RX1 TX1 4, w ∈ LW := by
  intro w hw
  obtain ⟨k, hk, rfl⟩ := List.mem_map.mp hw
  have hk := List.mem_range.mp hk
  match k, hk with
  | 0, _ => exact ul_1_0
  | 1, _ => exact ul_1_1
  | 2, _ => exact ul_1_2
  | 3, _ => exact ul_1_3
  | k + 4, hk => exact absurd hk (by omega)
theorem ul_2_0 : u_lay RX2 TX2 0 ∈ LW := LW_t 61 (by decide +kernel) (by rfl)
theorem ul_2_1 : u_lay RX2 TX2 1 ∈ LW := LW_t 63 (by decide +kernel) (by rfl)
theorem ul_2 : ∀ w ∈ u_ws RX2 TX2 2, w ∈ LW := by
  intro w hw
  obtain ⟨k, hk, rfl⟩ := List.mem_map.mp hw
  have hk := List.mem_range.mp hk
  match k, hk with
  | 0, _ => exact ul_2_0
  | 1, _ => exact ul_2_1
  | k + 2, hk => exact absurd hk (by omega)
theorem ul_3_0 : u_lay RX3 TX3 0 ∈ LW := LW_t 35 (by decide +kernel) (by rfl)
theorem ul_3_1 : u_lay RX3 TX3 1 ∈ LW := LW_t 37 (by decide +kernel) (by rfl)
theorem ul_3_2 : u_lay RX3 TX3 2 ∈ LW := LW_t 39 (by decide +kernel) (by rfl)
theorem ul_3 : ∀ w ∈ u_ws RX3 TX3 3, w ∈ LW := by
  intro w hw
  obtain ⟨k, hk, rfl⟩ := List.mem_map.mp hw
  have hk := List.mem_range.mp hk
  match k, hk with
  | 0, _ => exact ul_3_0
  | 1, _ => exact ul_3_1
  | 2, _ => exact ul_3_2
  | k + 3, hk => exact absurd hk (by omega)
theorem ul_4_0 : u_lay RX4 TX4 0 ∈ LW := LW_t 110 (by decide +kernel) (by rfl)
theorem ul_4_1 : u_lay RX4 TX4 1 ∈ LW := LW_t 112 (by decide +kernel) (by rfl)
theorem ul_4_2 : u_lay RX4 TX4 2 ∈ LW := LW_t 114 (by decide +kernel) (by rfl)
theorem ul_4_3 : u_lay RX4 TX4 3 ∈ LW := LW_t 116 (by decide +kernel) (by rfl)
theorem ul_4_4 : u_lay RX4 TX4 4 ∈ LW := LW_t 118 (by decide +kernel) (by rfl)
theorem ul_4_5 : u_lay RX4 TX4 5 ∈ LW := LW_t 120 (by decide +kernel) (by rfl)
theorem ul_4_6 : u_lay RX4 TX4 6 ∈ LW := LW_t 122 (by decide +kernel) (by rfl)
theorem ul_4 : ∀ w ∈ u_ws RX4 TX4 7, w ∈ LW := by
  intro w hw
  obtain ⟨k, hk, rfl⟩ := List.mem_map.mp hw
  have hk := List.mem_range.mp hk
  match k, hk with
  | 0, _ => exact ul_4_0
  | 1, _ => exact ul_4_1
  | 2, _ => exact ul_4_2
  | 3, _ => exact ul_4_3
  | 4, _ => exact ul_4_4
  | 5, _ => exact ul_4_5
  | 6, _ => exact ul_4_6
  | k + 7, hk => exact absurd hk (by omega)
theorem ul_5_0 : u_lay RX5 TX5 0 ∈ LW := LW_t 139 (by decide +kernel) (by rfl)
theorem ul_5_1 : u_lay RX5 TX5 1 ∈ LW := LW_t 141 (by decide +kernel) (by rfl)
theorem ul_5_2 : u_lay RX5 TX5 2 ∈ LW := LW_t 143 (by decide +kernel) (by rfl)
theorem ul_5_3 : u_lay RX5 TX5 3 ∈ LW := LW_t 145 (by decide +kernel) (by rfl)
theorem ul_5_4 : u_lay RX5 TX5 4 ∈ LW := LW_t 147 (by decide +kernel) (by rfl)
theorem ul_5_5 : u_lay RX5 TX5 5 ∈ LW := LW_t 149 (by decide +kernel) (by rfl)
theorem ul_5 : ∀ w ∈ u_ws RX5 TX5 6, w ∈ LW := by
  intro w hw
  obtain ⟨k, hk, rfl⟩ := List.mem_map.mp hw
  have hk := List.mem_range.mp hk
  match k, hk with
  | 0, _ => exact ul_5_0
  | 1, _ => exact ul_5_1
  | 2, _ => exact ul_5_2
  | 3, _ => exact ul_5_3
  | 4, _ => exact ul_5_4
  | 5, _ => exact ul_5_5
  | k + 6, hk => exact absurd hk (by omega)
theorem ul_6_0 : u_lay RX6 TX6 0 ∈ LW := LW_t 184 (by decide +kernel) (by rfl)
theorem ul_6_1 : u_lay RX6 TX6 1 ∈ LW := LW_t 186 (by decide +kernel) (by rfl)
theorem ul_6_2 : u_lay RX6 TX6 2 ∈ LW := LW_t 188 (by decide +kernel) (by rfl)
theorem ul_6_3 : u_lay RX6 TX6 3 ∈ LW := LW_t 190 (by decide +kernel) (by rfl)
theorem ul_6_4 : u_lay RX6 TX6 4 ∈ LW := LW_t 192 (by decide +kernel) (by rfl)
theorem ul_6_5 : u_lay RX6 TX6 5 ∈ LW := LW_t 194 (by decide +kernel) (by rfl)
theorem ul_6_6 : u_lay RX6 TX6 6 ∈ LW := LW_t 196 (by decide +kernel) (by rfl)
theorem ul_6_7 : u_lay RX6 TX6 7 ∈ LW := LW_t 198 (by decide +kernel) (by rfl)
theorem ul_6_8 : u_lay RX6 TX6 8 ∈ LW := LW_t 200 (by decide +kernel) (by rfl)
theorem ul_6_9 : u_lay RX6 TX6 9 ∈ LW := LW_t 202 (by decide +kernel) (by rfl)
theorem ul_6_10 : u_lay RX6 TX6 10 ∈ LW := LW_t 204 (by decide +kernel) (by rfl)
theorem ul_6 : ∀ w ∈ u_ws RX6 TX6 11, w ∈ LW := by
  intro w hw
  obtain ⟨k, hk, rfl⟩ := List.mem_map.mp hw
  have hk := List.mem_range.mp hk
  match k, hk with
  | 0, _ => exact ul_6_0
  | 1, _ => exact ul_6_1
  | 2, _ => exact ul_6_2
  | 3, _ => exact ul_6_3
  | 4, _ => exact ul_6_4
  | 5, _ => exact ul_6_5
  | 6, _ => exact ul_6_6
  | 7, _ => exact ul_6_7
  | 8, _ => exact ul_6_8
  | 9, _ => exact ul_6_9
  | 10, _ => exact ul_6_10
  | k + 11, hk => exact absurd hk (by omega)
theorem ul_7_0 : u_lay RX7 TX7 0 ∈ LW := LW_t 825 (by decide +kernel) (by rfl)
theorem ul_7_1 : u_lay RX7 TX7 1 ∈ LW := LW_t 827 (by decide +kernel) (by rfl)
theorem ul_7_2 : u_lay RX7 TX7 2 ∈ LW := LW_t 829 (by decide +kernel) (by rfl)
theorem ul_7_3 : u_lay RX7 TX7 3 ∈ LW := LW_t 831 (by decide +kernel) (by rfl)
theorem ul_7_4 : u_lay RX7 TX7 4 ∈ LW := LW_t 833 (by decide +kernel) (by rfl)
theorem ul_7_5 : u_lay RX7 TX7 5 ∈ LW := LW_t 835 (by decide +kernel) (by rfl)
theorem ul_7_6 : u_lay RX7 TX7 6 ∈ LW := LW_t 837 (by decide +kernel) (by rfl)
theorem ul_7_7 : u_lay RX7 TX7 7 ∈ LW := LW_t 839 (by decide +kernel) (by rfl)
theorem ul_7_8 : u_lay RX7 TX7 8 ∈ LW := LW_t 841 (by decide +kernel) (by rfl)
theorem ul_7_9 : u_lay RX7 TX7 9 ∈ LW := LW_t 843 (by decide +kernel) (by rfl)
theorem ul_7_10 : u_lay RX7 TX7 10 ∈ LW := LW_t 845 (by decide +kernel) (by rfl)
theorem ul_7_11 : u_lay RX7 TX7 11 ∈ LW := LW_t 847 (by decide +kernel) (by rfl)
theorem ul_7_12 : u_lay RX7 TX7 12 ∈ LW := LW_t 849 (by decide +kernel) (by rfl)
theorem ul_7_13 : u_lay RX7 TX7 13 ∈ LW := LW_t 851 (by decide +kernel) (by rfl)
theorem ul_7_14 : u_lay RX7 TX7 14 ∈ LW := LW_t 853 (by decide +kernel) (by rfl)
theorem ul_7_15 : u_lay RX7 TX7 15 ∈ LW := LW_t 855 (by decide +kernel) (by rfl)
theorem ul_7_16 : u_lay RX7 TX7 16 ∈ LW := LW_t 857 (by decide +kernel) (by rfl)
theorem ul_7_17 : u_lay RX7 TX7 17 ∈ LW := LW_t 859 (by decide +kernel) (by rfl)
theorem ul_7_18 : u_lay RX7 TX7 18 ∈ LW := LW_t 861 (by decide +kernel) (by rfl)
theorem ul_7_19 : u_lay RX7 TX7 19 ∈ LW := LW_t 863 (by decide +kernel) (by rfl)
theorem ul_7 : ∀ w ∈ u_ws RX7 TX7 20, w ∈ LW := by
  intro w hw
  obtain ⟨k, hk, rfl⟩ := List.mem_map.mp hw
  have hk := List.mem_range.mp hk
  match k, hk with
  | 0, _ => exact ul_7_0
  | 1, _ => exact ul_7_1
  | 2, _ => exact ul_7_2
  | 3, _ => exact ul_7_3
  | 4, _ => exact ul_7_4
  | 5, _ => exact ul_7_5
  | 6, _ => exact ul_7_6
  | 7, _ => exact ul_7_7
  | 8, _ => exact ul_7_8
  | 9, _ => exact ul_7_9
  | 10, _ => exact ul_7_10
  | 11, _ => exact ul_7_11
  | 12, _ => exact ul_7_12
  | 13, _ => exact ul_7_13
  | 14, _ => exact ul_7_14
  | 15, _ => exact ul_7_15
  | 16, _ => exact ul_7_16
  | 17, _ => exact ul_7_17
  | 18, _ => exact ul_7_18
  | 19, _ => exact ul_7_19
  | k + 20, hk => exact absurd hk (by omega)
theorem cls_in {ci : Nat} (h : ci < 8) : ∀ w ∈ u_ws (tN ci) (fTb ci) (fSz ci), w ∈ LW := by
  match ci, h with
  | 0, _ => exact ul_0
  | 1, _ => exact ul_1
  | 2, _ => exact ul_2
  | 3, _ => exact ul_3
  | 4, _ => exact ul_4
  | 5, _ => exact ul_5
  | 6, _ => exact ul_6
  | 7, _ => exact ul_7
theorem cls_ty {ci : Nat} (h : ci < 8) : ∀ k, k < fSz ci → parseFieldDescriptor (fTb ci k).2.2.1 = some (fTy ci k) := by
  match ci, h with
  | 0, _ => exact tyX0_ok
  | 1, _ => exact tyX1_ok
  | 2, _ => exact tyX2_ok
  | 3, _ => exact tyX3_ok
  | 4, _ => exact tyX4_ok
  | 5, _ => exact tyX5_ok
  | 6, _ => exact tyX6_ok
  | 7, _ => exact tyX7_ok
theorem cls_nm {ci : Nat} (h : ci < 8) : ∀ a, a < fSz ci → ∀ b, b < fSz ci → a ≠ b → (fTb ci a).2.1 ≠ (fTb ci b).2.1 := by
  match ci, h with
  | 0, _ => exact nmX0
  | 1, _ => exact nmX1
  | 2, _ => exact nmX2
  | 3, _ => exact nmX3
  | 4, _ => exact nmX4
  | 5, _ => exact nmX5
  | 6, _ => exact nmX6
  | 7, _ => exact nmX7
theorem okV_ok {t : FieldType} {v : Value} (h : okV t v = true) : narrow t v = v ∧ fits t v = true := by
  unfold okV at h
  split at h
  · exact ⟨rfl, rfl⟩
  · exact ⟨rfl, rfl⟩
  · exact ⟨rfl, rfl⟩
  · cases h
theorem IV.at {E : Ev} {D : va_G} {Y : Yc} {G : Hp} {H : Heap} (h : IV E D Y G H) {a : Nat} {c : Cl} (hg : gt E G a = some c) : va_at D clsT (a, tr Y c) H := h.1 _ _ (gt_at hg).1
theorem IV.put {E : Ev} {D : va_G} {Y : Yc} {G : Hp} {H H1 : Heap} (h : IV E D Y G H) {a : Nat} {c0 c : Cl} (hg : gt E G a = some c0) (he : va_at D clsT (a, tr Y c) H1) (hz : H1.size = H.size) (oq : ∀ q : Nat, q ≠ a → H1[q]? = H[q]?) : IV E D Y (st E G a c) H1 := by
  refine ⟨?_, by rw [hz, h.2, st_len.1]⟩
  rw [← st_tr (gt_at (Y := Y) hg).2]
  exact h.1.set (A := AA E) IV.D (gt_at hg).1 he oq
theorem nxA_eq {E : Ev} {D : va_G} {Y : Yc} {G : Hp} {H : Heap} (h : IV E D Y G H) : H.size = nxA E G := h.2
theorem IV.psh {E : Ev} {D : va_G} {Y : Yc} {G : Hp} {H H1 : Heap} (h : IV E D Y G H) {c : Cl} {n : Nat} (he : va_at D clsT (H.size, tr Y c) H1) (hz : H1.size = H.size + 1) (oq : ∀ q : Nat, q < H.size → H1[q]? = H[q]?) : IV E D Y (psh G c n) H1 := by
  refine ⟨?_, ?_⟩
  · show va_P D clsT (trW Y (eB E) (G.1 ++ [c])) H1
    rw [trW_app]
    refine (h.1.kept (fun k q hk => oq _ (h.1 k q hk).lt)).app ?_
    intro k q hk
    have hk0 : k < 1 := (List.getElem?_eq_some_iff.mp hk).1
    rw [show k = 0 by omega] at hk
    cases hk
    rw [← h.2]
    exact he
  · show H1.size = eB E + (G.1 ++ [c]).length
    rw [hz, h.2, List.length_append]
    rfl
theorem va_S.psh {A : Nat → Prop} {H0 H H1 : Heap} {locs : List Loc} (h : va_S A H0 H locs) (hz : H.size ≤ H1.size) (oq : ∀ q : Nat, q < H.size → H1[q]? = H[q]?) : va_S A H0 H1 locs :=
  ⟨Nat.le_trans h.1 hz, fun q g1 g2 => (oq q (Nat.lt_of_lt_of_le g1 h.1)).trans (h.2.1 q g1 g2), h.2.2⟩
theorem p1i_inj {t : List Value} {f : Int32 → List Value → Option Rs} {y : Rs} (h : p1i t f = some y) : ∃ x t', t = .int x :: t' ∧ f x t' = some y := by
  unfold p1i at h
  split at h
  · exact ⟨_, _, rfl, h⟩
  · cases h
theorem p2i_inj {t : List Value} {f : Int32 → Int32 → List Value → Option Rs} {y : Rs} (h : p2i t f = some y) : ∃ x z t', t = .int z :: .int x :: t' ∧ f x z t' = some y := by
  unfold p2i at h
  split at h
  · exact ⟨_, _, _, rfl, h⟩
  · cases h
theorem p1r_inj {t : List Value} {f : Nat → List Value → Option Rs} {y : Rs} (h : p1r t f = some y) : ∃ a t', t = .ref a :: t' ∧ f a t' = some y := by
  unfold p1r at h
  split at h
  · exact ⟨_, _, rfl, h⟩
  · cases h
theorem pir_inj {t : List Value} {f : Nat → Int32 → List Value → Option Rs} {y : Rs} (h : pir t f = some y) : ∃ a i t', t = .int i :: .ref a :: t' ∧ f a i t' = some y := by
  unfold pir at h
  split at h
  · exact ⟨_, _, _, rfl, h⟩
  · cases h
theorem piir_inj {t : List Value} {f : Nat → Int32 → Int32 → List Value → Option Rs} {y : Rs} (h : piir t f = some y) : ∃ a i x t', t = .int x :: .int i :: .ref a :: t' ∧ f a i x t' = some y := by
  unfold piir at h
  split at h
  · exact ⟨_, _, _, _, rfl, h⟩
  · cases h
theorem prir_inj {t : List Value} {f : Nat → Int32 → Nat → List Value → Option Rs} {y : Rs} (h : prir t f = some y) : ∃ a i v t', t = .ref v :: .int i :: .ref a :: t' ∧ f a i v t' = some y := by
  unfold prir at h
  split at h
  · exact ⟨_, _, _, _, rfl, h⟩
  · cases h
theorem pvr_inj {t : List Value} {f : Nat → Value → List Value → Option Rs} {y : Rs} (h : pvr t f = some y) : ∃ a v t', t = v :: .ref a :: t' ∧ f a v t' = some y := by
  unfold pvr at h
  split at h
  · exact ⟨_, _, _, rfl, h⟩
  · cases h
theorem pcp_inj {t : List Value} {f : Nat → Int32 → Nat → Int32 → Int32 → List Value → Option Rs} {y : Rs} (h : pcp t f = some y) : ∃ a0 sp a dp n t', t = .int n :: .int dp :: .ref a :: .int sp :: .ref a0 :: t' ∧ f a0 sp a dp n t' = some y := by
  unfold pcp at h
  split at h
  · exact ⟨_, _, _, _, _, _, rfl, h⟩
  · cases h
theorem gtA_inj {E : Ev} {G : Hp} {a : Nat} {f : Nat → Nat → (Nat → Int32) → Option Rs} {g : Option Rs} {y : Rs} (h : gtA E G a f g = some y) : (∃ k n v, gt E G a = some (cA k n v) ∧ f k n v = some y) ∨ (gt E G a = none ∧ g = some y) := by
  unfold gtA at h
  split at h
  · next hg => exact Or.inl ⟨_, _, _, hg, h⟩
  · next hg => exact Or.inr ⟨hg, h⟩
  · cases h
theorem gtR_inj {E : Ev} {G : Hp} {a : Nat} {f : Nat → Nat → (Nat → Option Nat) → Option Rs} {y : Rs} (h : gtR E G a f = some y) : ∃ k n v, gt E G a = some (cR k n v) ∧ f k n v = some y := by
  unfold gtR at h
  split at h
  · next hg => exact ⟨_, _, _, hg, h⟩
  · cases h
theorem gtO_inj {E : Ev} {G : Hp} {a : Nat} {f : Nat → List Value → Option Rs} {g : Option Rs} {y : Rs} (h : gtO E G a f g = some y) : (∃ c fs, gt E G a = some (cO c fs) ∧ f c fs = some y) ∨ (gt E G a = none ∧ g = some y) := by
  unfold gtO at h
  split at h
  · next hg => exact Or.inl ⟨_, _, hg, h⟩
  · next hg => exact Or.inr ⟨hg, h⟩
  · cases h
theorem iv1 : iv 1 = 1 := by decide
theorem iv0 : iv 0 = 0 := by decide
theorem tI_ok : ∀ q ∈ tI, tables_1[q.2.2]? = some (.constant (tN (q.1 / 10000)) (q.1 % 10000) q.2.1) := by decide +kernel
theorem tJ_ok : ∀ q ∈ tJ, tables_1[q.2.2]? = some (.constantLong (tN (q.1 / 10000)) (q.1 % 10000) q.2.1) := by decide +kernel
theorem tC_ok : ∀ q ∈ tC, tables_1[q.2.2]? = some (.classLink (tN (q.1 / 10000)) (q.1 % 10000) (tN q.2.1)) := by decide +kernel
theorem fI_ok {o x : Nat} {q : Int32 × Nat} (h : fI o x = some q) : Cond.constant (tN o) x q.1 ∈ LW := by
  obtain ⟨h1, h2, h3⟩ := look h
  have h4 := tI_ok _ h1
  dsimp only at h4
  rw [h2, h3] at h4
  exact LW_t _ h4 rfl
theorem fJ_ok {o x : Nat} {q : Int64 × Nat} (h : fJ o x = some q) : Cond.constantLong (tN o) x q.1 ∈ LW := by
  obtain ⟨h1, h2, h3⟩ := look h
  have h4 := tJ_ok _ h1
  dsimp only at h4
  rw [h2, h3] at h4
  exact LW_t _ h4 rfl
theorem fC_ok {o x : Nat} {q : Nat × Nat} (h : fC o x = some q) : Cond.classLink (tN o) x (tN q.1) ∈ LW := by
  obtain ⟨h1, h2, h3⟩ := look h
  have h4 := tC_ok _ h1
  dsimp only at h4
  rw [h2, h3] at h4
  exact LW_t _ h4 rfl
theorem cls_inst {ci : Nat} (h : ci < 8) : Cond.instantiable (tN ci) (fSz ci) ∈ LW := by
  match ci, h with
  | 0, _ => exact LW_t 153 (by decide +kernel) (by rfl)
  | 1, _ => exact LW_t 44 (by decide +kernel) (by rfl)
  | 2, _ => exact LW_t 51 (by decide +kernel) (by rfl)
  | 3, _ => exact LW_t 27 (by decide +kernel) (by rfl)
  | 4, _ => exact LW_t 96 (by decide +kernel) (by rfl)
  | 5, _ => exact LW_t 126 (by decide +kernel) (by rfl)
  | 6, _ => exact LW_t 19 (by decide +kernel) (by rfl)
  | 7, _ => exact LW_t 797 (by decide +kernel) (by rfl)
theorem cls_init {ci : Nat} (h : ci < 8) : Cond.initialized (tN ci) ∈ LW := by
  match ci, h with
  | 0, _ => exact LW_t 9 (by decide +kernel) (by rfl)
  | 1, _ => exact LW_t 3 (by decide +kernel) (by rfl)
  | 2, _ => exact LW_t 4 (by decide +kernel) (by rfl)
  | 3, _ => exact LW_t 2 (by decide +kernel) (by rfl)
  | 4, _ => exact LW_t 7 (by decide +kernel) (by rfl)
  | 5, _ => exact LW_t 8 (by decide +kernel) (by rfl)
  | 6, _ => exact LW_t 1 (by decide +kernel) (by rfl)
  | 7, _ => exact LW_t 10 (by decide +kernel) (by rfl)
section SNH
variable {p : Program} {l : Launch} {e : Env} {R : Room} {s : State} {m : MethodId} {args : Array Value} {below : List Frame} {meth : Method} {c : Code} {Q : State → Prop} {E : Ev} {D : va_G} {Y : Yc} {nL N0 S0 : Nat} {cx : Cx} {pc : Nat} {lo : Lo} {t : List Value} {G : Hp} {r : Nat × Lo × List Value × Hp}
theorem ss_ldc {x : Nat} (hM : MC p s m args meth c E D Y cx nL) (hd : decode cx.2.1 pc = .ok (.ldc x, 2)) (h : stpI E cx (.ldc x) pc lo t G = some (.inl r))  (k : WP p l e R s m args below meth c Q E D Y nL N0 S0 r.1 r.2.1 r.2.2.1 r.2.2.2) : WP p l e R s m args below meth c Q E D Y nL N0 S0 pc lo t G := by
  obtain ⟨⟨hx, hb, hml, hr, hlk⟩, hown, hini, hts, hK⟩ := hM
  have h : (match kS E cx.1 x with | some a => nx (pc + 2) lo (.ref a :: t) G | none => ov (fI cx.1 x) fun q => nx (pc + 2) lo (.int q.1 :: t) G) = some (.inl r) := h
  split at h
  · next a ha =>
    cases nx_inj h
    intro H locs ls hl hI hS g1 g2
    unfold kS at ha
    split at ha
    · next hc =>
      cases ha
      obtain ⟨o, cc⟩ := cx
      obtain ⟨e1, rfl⟩ := hc
      have e1 : o = 3 := e1
      subst e1
      exact va_ldcS hx hb hown hK.2.2.2.2.2.2.2.1.1 hd (k H locs ls hl hI hS g1 g2)
    · split at ha
      · next hc =>
        cases ha
        obtain ⟨o, cc⟩ := cx
        obtain ⟨e1, rfl⟩ := hc
        have e1 : o = 6 := e1
        subst e1
        exact va_ldcS hx hb hown hK.2.2.2.2.2.2.2.1.2 hd (k H locs ls hl hI hS g1 g2)
      · cases ha
  · obtain ⟨q, h1, h2⟩ := ov_inj h
    cases nx_inj h2
    intro H locs ls hl hI hS g1 g2
    exact lv_ldc hx hb hown (hts _ (fI_ok h1)) hd (k H locs ls hl hI hS g1 g2)
theorem ss_ldcw {x : Nat} (hM : MC p s m args meth c E D Y cx nL) (hd : decode cx.2.1 pc = .ok (.ldc_w x, 3)) (h : stpI E cx (.ldc_w x) pc lo t G = some (.inl r))  (k : WP p l e R s m args below meth c Q E D Y nL N0 S0 r.1 r.2.1 r.2.2.1 r.2.2.2) : WP p l e R s m args below meth c Q E D Y nL N0 S0 pc lo t G := by
  obtain ⟨⟨hx, hb, hml, hr, hlk⟩, hown, hini, hts, hK⟩ := hM
  obtain ⟨q, h1, h2⟩ := ov_inj h
  cases nx_inj h2
  intro H locs ls hl hI hS g1 g2
  exact lv_ldcw hx hb hown (hts _ (fI_ok h1)) hd (k H locs ls hl hI hS g1 g2)
theorem ss_ldc2 {x : Nat} (hM : MC p s m args meth c E D Y cx nL) (hd : decode cx.2.1 pc = .ok (.ldc2_w x, 3)) (h : stpI E cx (.ldc2_w x) pc lo t G = some (.inl r))  (k : WP p l e R s m args below meth c Q E D Y nL N0 S0 r.1 r.2.1 r.2.2.1 r.2.2.2) : WP p l e R s m args below meth c Q E D Y nL N0 S0 pc lo t G := by
  obtain ⟨⟨hx, hb, hml, hr, hlk⟩, hown, hini, hts, hK⟩ := hM
  obtain ⟨q, h1, h2⟩ := ov_inj h
  cases nx_inj h2
  intro H locs ls hl hI hS g1 g2
  exact lv_ldc2 hx hb hown (hts _ (fJ_ok h1)) hd (k H locs ls hl hI hS g1 g2)
theorem ss_getfield {x : Nat} (hM : MC p s m args meth c E D Y cx nL) (hd : decode cx.2.1 pc = .ok (.getfield x, 3)) (h : stpI E cx (.getfield x) pc lo t G = some (.inl r))  (k : WP p l e R s m args below meth c Q E D Y nL N0 S0 r.1 r.2.1 r.2.2.1 r.2.2.2) : WP p l e R s m args below meth c Q E D Y nL N0 S0 pc lo t G := by
  obtain ⟨⟨hx, hb, hml, hr, hlk⟩, hown, hini, hts, hK⟩ := hM
  obtain ⟨a, t', rfl, h2⟩ := p1r_inj h
  split at h2
  · next q hq =>
    rcases gtO_inj h2 with ⟨c0, fs, hg, h3⟩ | ⟨-, h3⟩
    · obtain ⟨e1, h4⟩ := gd_inj h3
      obtain ⟨v, h1, h5⟩ := ov_inj h4
      cases nx_inj h5
      obtain ⟨f1, f2, f3, f4⟩ := fF_ok hq
      rw [e1] at hg
      intro H locs ls hl hI hS g1 g2
      exact va_get (C := tN q.1) (T := fTb q.1) (N := fSz q.1) (own := tN cx.1) (ref := tN q.1) hx hb hts (cls_in f3) hown hK.1 hI.1 _ (gt_at hg).1 (cls_at f3) q.2.1 f2 (hts _ (LW_t _ f1 rfl)) (by rw [f4]; exact fun y z => z) h1 hd (k H locs ls hl hI hS g1 g2)
    · cases h3
  · rcases gtO_inj h2 with ⟨c0, fs, hg, h3⟩ | ⟨hg, h3⟩
    · cases h3
    · obtain ⟨v, h1, h4⟩ := ov_inj h3
      cases nx_inj h4
      intro H locs ls hl hI hS g1 g2
      unfold hT at h1
      split at h1
      · next hc =>
        cases h1
        obtain ⟨o, cc⟩ := cx
        obtain ⟨e1, rfl, rfl⟩ := hc
        have e1 : o = 9 := e1
        subst e1
        exact vk_getf (own := RJ0) (ref := RJ0) hx hb hK.2.2.2.2.2.2.1.2.2.1 hS hown (hts _ (LW_t 1145 (by decide +kernel) (by rfl))) (fun y z => z) hd (k H locs ls hl hI hS g1 g2)
      · split at h1
        · next hc =>
          cases h1
          obtain ⟨o, cc⟩ := cx
          obtain ⟨e1, rfl, rfl⟩ := hc
          have e1 : o = 9 := e1
          subst e1
          refine vk_getf (own := RJ0) (ref := RJ0) (v := .int 0) hx hb hK.2.2.2.2.2.2.1.2.1 hS hown (hts _ (LW_t 1144 (by decide +kernel) (by rfl))) (fun y z => z) hd ?_
          have kk := k H locs ls hl hI hS g1 g2
          rw [iv0] at kk
          exact kk
        · cases h1
theorem ss_putfield {x : Nat} (hM : MC p s m args meth c E D Y cx nL) (hd : decode cx.2.1 pc = .ok (.putfield x, 3)) (h : stpI E cx (.putfield x) pc lo t G = some (.inl r))  (k : WP p l e R s m args below meth c Q E D Y nL N0 S0 r.1 r.2.1 r.2.2.1 r.2.2.2) : WP p l e R s m args below meth c Q E D Y nL N0 S0 pc lo t G := by
  obtain ⟨⟨hx, hb, hml, hr, hlk⟩, hown, hini, hts, hK⟩ := hM
  obtain ⟨a, v, t', rfl, h2⟩ := pvr_inj h
  obtain ⟨q, hq, h3⟩ := ov_inj h2
  · rcases gtO_inj h3 with ⟨c0, fs, hg, h4⟩ | ⟨-, h4⟩
    · obtain ⟨⟨e1, e2, e3, e4⟩, h5⟩ := gd_inj h4
      rw [e1] at h5 hg
      cases nx_inj h5
      obtain ⟨f1, f2, f3, f4⟩ := fF_ok hq
      obtain ⟨n1, n2⟩ := okV_ok e3
      intro H locs ls hl hI hS g1 g2
      have hc := cls_at f3
      have hlink := hts _ (LW_t _ f1 rfl)
      have hap := va_apart (own := tN cx.1) hts (cls_in f3) (fTy q.1) (cls_ty f3) (cls_nm f3) hK.1 hc
      obtain ⟨r0, h1, cell, q1, q2, q3, q4⟩ := hI.at hg
      have hr0 : r0 = (tN q.1, fTb q.1, fSz q.1) := Option.some.inj (h1.symm.trans hc)
      subst hr0
      obtain ⟨hSl, hfc, kC, hkC, hkind⟩ := hK.1.1 q.1 _ hc
      obtain ⟨cf, kf, fi, f, hi, hsl⟩ := hSl q.2.1 f2
      have hst := (u_facts hfc hkC (u_lays hts (cls_in f3) f2) hi).1
      have hi2 : s.fieldFound? (tN q.1) (fTb q.1 q.2.1).2.1 (fTb q.1 q.2.1).2.2.1 = some (cf, kf, fi, f) := by rw [← f4]; exact hi
      have fin : ∀ (H1 : Heap) (sl : Nat), H1[a]? = some (cell.setSlot f.slot v) → H1.size = H.size → (∀ z, z ≠ a → H1[z]? = H[z]?) → W p l e R s m args below meth c H1 (locs ++ [⟨a, f.slot⟩]) (G.1.length - N0) (G.2 - S0) Q (F0 m (pc + 3) ls t') := by
        intro H1 _ e1 z1 o1
        have e1' := e1
        rw [hsl] at e1
        have kk := k H1 (locs ++ [⟨a, f.slot⟩]) ls hl (hI.put hg ⟨_, hc, t_OB.to (V := updV (vp_V fs) q.2.1 v) ⟨_, e1, q2, q3, t_set q4 hap f2 v⟩ (fun j _ => vp_updV_set e2 v j)⟩ z1 o1) (hS.put z1 o1 (gt_at (Y := Y) hg).2) (by rw [st_len.1]; exact g1) (by rw [st_len.2]; exact g2)
        dsimp only at kk
        rw [st_len.1, st_len.2] at kk
        exact kk
      by_cases hf : (fTb q.1 q.2.1).2.2.2 = true
      · obtain ⟨i1, i2⟩ := e4 hf
        have hlay := hts _ (cls_in f3 _ (u_in_lay f2))
        unfold u_lay at hlay
        rw [if_pos hf] at hlay
        have hcf : m.cls = cf := by
          obtain ⟨_, _, c', _, _, _, -, -, hf', -, -, -, hown2, -⟩ := Cond.laysFinal_spec hlay
          have e1 : c' = cf := by have := hi.symm.trans hf'; simp at this; exact this.1.symm
          rw [f4, ← i2] at hown2
          rw [← e1]
          exact Option.some.inj (hown.symm.trans hown2)
        have h6 := u_fits hfc hkC hkind (Or.inr hlay) hi (cls_ty f3 _ f2) n1 n2
        exact W.putFinK hx hb hown hlink hi2 hst hcf (hini i1) (by rw [q2]; exact h6) q1 q3 (by rw [hsl]; exact k2_hasslot (q4 _ f2)) rfl rfl hd fun H' e1 e2 e3 => fin H' 0 e1 e2 e3
      · have hlay := hts _ (cls_in f3 _ (u_in_lay f2))
        unfold u_lay at hlay
        rw [if_neg hf] at hlay
        have h6 := u_store hfc hkC hkind hlay hi (cls_ty f3 _ f2) n1 n2
        exact W.putK hx hb (f := f) ⟨hown, hlink, ⟨_, _, _, hi2⟩, hst⟩ (by rw [q2]; exact h6) q1 q3 (by rw [hsl]; exact k2_hasslot (q4 _ f2)) rfl rfl hd fun H' e1 e2 e3 => fin H' 0 e1 e2 e3
    · cases h4
theorem ss_getstatic {x : Nat} (hM : MC p s m args meth c E D Y cx nL) (hd : decode cx.2.1 pc = .ok (.getstatic x, 3)) (h : stpI E cx (.getstatic x) pc lo t G = some (.inl r))  (k : WP p l e R s m args below meth c Q E D Y nL N0 S0 r.1 r.2.1 r.2.2.1 r.2.2.2) : WP p l e R s m args below meth c Q E D Y nL N0 S0 pc lo t G := by
  obtain ⟨⟨hx, hb, hml, hr, hlk⟩, hown, hini, hts, hK⟩ := hM
  obtain ⟨v, h1, h2⟩ := ov_inj h
  cases nx_inj h2
  intro H locs ls hl hI hS g1 g2
  unfold gS at h1
  split at h1
  · next hc =>
    cases h1
    obtain ⟨o, cc⟩ := cx
    obtain ⟨e1, rfl⟩ := hc
    have e1 : o = 6 := e1
    subst e1
    exact va_gets (own := RX6) (ref := RX6) hx hb hK.2.2.2.1.1 hS hown (hts _ (LW_t 356 (by decide +kernel) (by rfl))) (fun y z => z) hd (k H locs ls hl hI hS g1 g2)
  · split at h1
    · next hc =>
      cases h1
      obtain ⟨o, cc⟩ := cx
      obtain ⟨e1, rfl⟩ := hc
      have e1 : o = 9 := e1
      subst e1
      refine va_gets (own := RJ0) (ref := RJ0) (v := .int 1) hx hb hK.2.2.2.2.1 hS hown (hts _ (LW_t 262 (by decide +kernel) (by rfl))) (fun y z => z) hd ?_
      have kk := k H locs ls hl hI hS g1 g2
      rw [iv1] at kk
      exact kk
    · split at h1
      · next hc =>
        cases h1
        obtain ⟨o, cc⟩ := cx
        obtain ⟨e1, rfl⟩ := hc
        have e1 : o = 9 := e1
        subst e1
        exact va_gets (own := RJ0) (ref := RJ3) hx hb hK.2.2.2.2.2.1 hS hown (hts _ (LW_t 303 (by decide +kernel) (by rfl))) (fun y z => z) hd (k H locs ls hl hI hS g1 g2)
      · cases h1
theorem ss_iaload  (hM : MC p s m args meth c E D Y cx nL) (hd : decode cx.2.1 pc = .ok (.iaload, 1)) (h : stpI E cx (.iaload) pc lo t G = some (.inl r))  (k : WP p l e R s m args below meth c Q E D Y nL N0 S0 r.1 r.2.1 r.2.2.1 r.2.2.2) : WP p l e R s m args below meth c Q E D Y nL N0 S0 pc lo t G := by
  obtain ⟨⟨hx, hb, hml, hr, hlk⟩, hown, hini, hts, hK⟩ := hM
  obtain ⟨a, i, t', rfl, h2⟩ := pir_inj h
  · rcases gtA_inj h2 with ⟨kd, n, f, hg, h3⟩ | ⟨hg, h3⟩
    · obtain ⟨⟨e1, e2⟩, h4⟩ := gd_inj h3
      subst e1
      cases nx_inj h4
      intro H locs ls hl hI hS g1 g2
      exact va_iald hx hb hK.1 hI.1 _ 0 (gt_at hg).1 rfl e2 hd (k H locs ls hl hI hS g1 g2)
    · obtain ⟨q, h1, h4⟩ := ov_inj h3
      obtain ⟨e2, h5⟩ := gd_inj h4
      cases nx_inj h5
      intro H locs ls hl hI hS g1 g2
      unfold oI at h1
      split at h1
      · split at h1
        · next ea =>
          cases h1
          subst ea
          exact va_sld hx hb hK.2.2.2.2.2.2.2.2.1 (Nat.lt_of_lt_of_le hK.2.2.2.2.2.2.2.2.2.1 hK.2.2.2.2.2.2.2.2.2.2) (Nat.not_le.mpr hK.2.2.2.2.2.2.2.2.2.1) hS e2 hd (k H locs ls hl hI hS g1 g2)
        · cases h1
      · split at h1
        · next ea =>
          cases h1
          subst ea
          exact va_ti (f := fun j => .int (arit j)) hx hb hK.2.2.2.1.2 hS e2 rfl hd (k H locs ls hl hI hS g1 g2)
        · cases h1
theorem ss_baload  (hM : MC p s m args meth c E D Y cx nL) (hd : decode cx.2.1 pc = .ok (.baload, 1)) (h : stpI E cx (.baload) pc lo t G = some (.inl r))  (k : WP p l e R s m args below meth c Q E D Y nL N0 S0 r.1 r.2.1 r.2.2.1 r.2.2.2) : WP p l e R s m args below meth c Q E D Y nL N0 S0 pc lo t G := by
  obtain ⟨⟨hx, hb, hml, hr, hlk⟩, hown, hini, hts, hK⟩ := hM
  obtain ⟨a, i, t', rfl, h2⟩ := pir_inj h
  · rcases gtA_inj h2 with ⟨kd, n, f, hg, h3⟩ | ⟨hg, h3⟩
    · obtain ⟨⟨e1, e2⟩, h4⟩ := gd_inj h3
      cases nx_inj h4
      intro H locs ls hl hI hS g1 g2
      rcases e1 with rfl | rfl
      · exact va_bald hx hb hK.1 hI.1 _ 1 (gt_at hg).1 rfl e2 hd (k H locs ls hl hI hS g1 g2)
      · exact va_zald hx hb hK.1 hI.1 _ 2 (gt_at hg).1 rfl e2 hd (k H locs ls hl hI hS g1 g2)
    · obtain ⟨q, h1, h4⟩ := ov_inj h3
      obtain ⟨e2, h5⟩ := gd_inj h4
      cases nx_inj h5
      intro H locs ls hl hI hS g1 g2
      unfold oB at h1
      split at h1
      · next ea =>
        cases h1
        subst ea
        exact va_tb (f := fun j => .int (byts j)) hx hb hK.2.2.2.2.2.2.1.2.2.2 hS e2 rfl hd (k H locs ls hl hI hS g1 g2)
      · cases h1
theorem ss_aaload  (hM : MC p s m args meth c E D Y cx nL) (hd : decode cx.2.1 pc = .ok (.aaload, 1)) (h : stpI E cx (.aaload) pc lo t G = some (.inl r))  (k : WP p l e R s m args below meth c Q E D Y nL N0 S0 r.1 r.2.1 r.2.2.1 r.2.2.2) : WP p l e R s m args below meth c Q E D Y nL N0 S0 pc lo t G := by
  obtain ⟨⟨hx, hb, hml, hr, hlk⟩, hown, hini, hts, hK⟩ := hM
  obtain ⟨a, i, t', rfl, h2⟩ := pir_inj h
  · obtain ⟨kd, n, f, hg, h3⟩ := gtR_inj h2
    · obtain ⟨⟨e1, e2⟩, h4⟩ := gd_inj h3
      obtain ⟨v, h1, h5⟩ := ov_inj h4
      cases nx_inj h5
      intro H locs ls hl hI hS g1 g2
      obtain ⟨t0, ht⟩ := ty_r Y kd
      have hlt : i.toNatClampNeg < n := Nat.not_le.mp fun q => e2 (Or.inr q)
      have hcell : H[a]? = some (vp_cell (yr Y kd) (n, .inr (.inr (.inr (.inr f))))) := hI.at hg
      refine W.aald (v := va_rf (f i.toNatClampNeg)) (ty := rT kd) hx hb hcell ((hK.1.2 t0 _ ht).1 n (fun j => va_rf (f j))) ?_ (fun q => by cases q) (by show ¬ (i < 0 ∨ (arrV _ _ _).slots.size ≤ _); rw [arrV_size]; exact e2) (by show (arrV _ _ _).slots[_]? = _; rw [arrV_read _ _ hlt]) rfl rfl hd ?_
      · match kd with
        | 0 => rfl
        | 1 => rfl
        | kd + 2 => rfl
      · rw [h1]
        exact k H locs ls hl hI hS g1 g2
theorem ss_iastore  (hM : MC p s m args meth c E D Y cx nL) (hd : decode cx.2.1 pc = .ok (.iastore, 1)) (h : stpI E cx (.iastore) pc lo t G = some (.inl r))  (k : WP p l e R s m args below meth c Q E D Y nL N0 S0 r.1 r.2.1 r.2.2.1 r.2.2.2) : WP p l e R s m args below meth c Q E D Y nL N0 S0 pc lo t G := by
  obtain ⟨⟨hx, hb, hml, hr, hlk⟩, hown, hini, hts, hK⟩ := hM
  obtain ⟨a, i, x, t', rfl, h2⟩ := piir_inj h
  · rcases gtA_inj h2 with ⟨kd, n, f, hg, h3⟩ | ⟨-, h3⟩
    · obtain ⟨⟨e1, e2⟩, h4⟩ := gd_inj h3
      cases nx_inj h4
      intro H locs ls hl hI hS g1 g2
      subst e1
      refine W.iast hx hb (show H[a]? = some (vp_cell (yk Y 0) (n, .inl f)) from hI.at hg) ((hK.1.2 0 _ rfl).1 n (fun j => .int (f j))) (fun q => by cases q) (by show ¬ (i < 0 ∨ (arrV _ _ _).slots.size ≤ _); rw [arrV_size]; exact e2) rfl rfl hd fun H1 e z oq => ?_
      have he : H1[a]? = some (vp_cell (yk Y 0) (n, .inl (upd f i.toNatClampNeg x))) := by
        rw [e]
        rw [vp_cell_i, vp_cell_i, arrV_store]
        congr 2
        funext q
        by_cases hq : q = i.toNatClampNeg
        · subst hq
          simp [updV, upd]
          try rfl
        · simp [updV, upd, hq]
      have kk := k H1 (locs ++ [⟨a, i.toNatClampNeg⟩]) ls hl (hI.put hg he z oq) (hS.put z oq (gt_at (Y := Y) hg).2) (by rw [st_len.1]; exact g1) (by rw [st_len.2]; exact g2)
      dsimp only at kk
      rw [st_len.1, st_len.2] at kk
      exact kk
    · cases h3
theorem ss_bastore  (hM : MC p s m args meth c E D Y cx nL) (hd : decode cx.2.1 pc = .ok (.bastore, 1)) (h : stpI E cx (.bastore) pc lo t G = some (.inl r))  (k : WP p l e R s m args below meth c Q E D Y nL N0 S0 r.1 r.2.1 r.2.2.1 r.2.2.2) : WP p l e R s m args below meth c Q E D Y nL N0 S0 pc lo t G := by
  obtain ⟨⟨hx, hb, hml, hr, hlk⟩, hown, hini, hts, hK⟩ := hM
  obtain ⟨a, i, x, t', rfl, h2⟩ := piir_inj h
  · rcases gtA_inj h2 with ⟨kd, n, f, hg, h3⟩ | ⟨-, h3⟩
    · obtain ⟨⟨e1, e2⟩, h4⟩ := gd_inj h3
      cases nx_inj h4
      intro H locs ls hl hI hS g1 g2
      rcases e1 with rfl | rfl
      · refine W.bast hx hb (show H[a]? = some (vp_cell (yk Y 1) (n, .inl f)) from hI.at hg) ((hK.1.2 1 _ rfl).1 n (fun j => .int (f j))) (fun q => by cases q) (by show ¬ (i < 0 ∨ (arrV _ _ _).slots.size ≤ _); rw [arrV_size]; exact e2) rfl rfl hd fun H1 e z oq => ?_
        have he : H1[a]? = some (vp_cell (yk Y 1) (n, .inl (upd f i.toNatClampNeg (vp_nar .byte x)))) := by
          rw [e]
          rw [vp_cell_i, vp_cell_i, arrV_store]
          congr 2
          funext q
          by_cases hq : q = i.toNatClampNeg
          · subst hq
            simp [updV, upd, vp_nar]
            try rfl
          · simp [updV, upd, hq]
        have kk := k H1 (locs ++ [⟨a, i.toNatClampNeg⟩]) ls hl (hI.put hg he z oq) (hS.put z oq (gt_at (Y := Y) hg).2) (by rw [st_len.1]; exact g1) (by rw [st_len.2]; exact g2)
        dsimp only at kk
        rw [st_len.1, st_len.2] at kk
        exact kk
      · refine W.zast hx hb (show H[a]? = some (vp_cell (yk Y 2) (n, .inl f)) from hI.at hg) ((hK.1.2 2 _ rfl).1 n (fun j => .int (f j))) (fun q => by cases q) (by show ¬ (i < 0 ∨ (arrV _ _ _).slots.size ≤ _); rw [arrV_size]; exact e2) rfl rfl hd fun H1 e z oq => ?_
        have he : H1[a]? = some (vp_cell (yk Y 2) (n, .inl (upd f i.toNatClampNeg (vp_nar .boolean x)))) := by
          rw [e]
          rw [vp_cell_i, vp_cell_i, arrV_store]
          congr 2
          funext q
          by_cases hq : q = i.toNatClampNeg
          · subst hq
            simp [updV, upd, vp_nar]
            try rfl
          · simp [updV, upd, hq]
        have kk := k H1 (locs ++ [⟨a, i.toNatClampNeg⟩]) ls hl (hI.put hg he z oq) (hS.put z oq (gt_at (Y := Y) hg).2) (by rw [st_len.1]; exact g1) (by rw [st_len.2]; exact g2)
        dsimp only at kk
        rw [st_len.1, st_len.2] at kk
        exact kk
    · cases h3
theorem ss_aastore  (hM : MC p s m args meth c E D Y cx nL) (hd : decode cx.2.1 pc = .ok (.aastore, 1)) (h : stpI E cx (.aastore) pc lo t G = some (.inl r))  (k : WP p l e R s m args below meth c Q E D Y nL N0 S0 r.1 r.2.1 r.2.2.1 r.2.2.2) : WP p l e R s m args below meth c Q E D Y nL N0 S0 pc lo t G := by
  obtain ⟨⟨hx, hb, hml, hr, hlk⟩, hown, hini, hts, hK⟩ := hM
  obtain ⟨a, i, v, t', rfl, h2⟩ := prir_inj h
  · obtain ⟨kd, n, f, hg, h3⟩ := gtR_inj h2
    · obtain ⟨⟨e1, e2⟩, h4⟩ := gd_inj h3
      rcases gtO_inj h4 with ⟨c0, vs, hv, h5⟩ | ⟨-, h5⟩
      · obtain ⟨e3, h6⟩ := gd_inj h5
        subst e3
        cases nx_inj h6
        intro H locs ls hl hI hS g1 g2
        have hlt : i.toNatClampNeg < n := Nat.not_le.mp fun q => e2 (Or.inr q)
        have h0 : ¬ i < 0 := fun q => e2 (Or.inl q)
        have hc8 : kd + 1 < 8 := by omega
        have hc := cls_at hc8
        obtain ⟨r', hr', cellV, w1, w2, w3, -⟩ := hI.at hv
        have hcls := (hK.1.1 (kd + 1) _ hc).2
        obtain ⟨t0, ht⟩ := ty_r Y kd
        have hRT : rT kd = .object (tN (kd + 1)) := by
          match kd, e1 with
          | 0, _ => rfl
          | 1, _ => rfl
        have hRA := (hK.1.2 t0 _ ht).2
        dsimp only at hRA
        rw [hRT] at hRA
        obtain ⟨kA, comp, k1, k2, k3, -⟩ := hRA
        have hcomp : comp = D.1 (kd + 1) := Option.some.inj (k3.symm.trans hcls.1)
        subst hcomp
        obtain ⟨kC, hkC, hkC2⟩ := hcls.2
        refine W.aast hx hb (show H[a]? = some (vp_cell (yr Y kd) (n, .inr (.inr (.inr (.inr f))))) from hI.at hg) (fun q h => by cases h) (fun h => by cases h) k1 k2 rfl hkC ⟨h0, by show _ < (arrV _ _ _).slots.size; rw [arrV_size]; exact hlt⟩ w1 (fun q h => by rw [w3] at h; cases h) (by rw [w2]; exact hkC) (by rw [w2]; exact va_assign hcls) rfl rfl hd fun H1 e z oq => ?_
        have he : H1[a]? = some (vp_cell (yr Y kd) (n, .inr (.inr (.inr (.inr (va_up f i.toNatClampNeg (some v))))))) := by
          rw [e]
          rw [vp_cell_q, vp_cell_q, arrV_store]
          congr 2
          funext q
          by_cases hq : q = i.toNatClampNeg
          · subst hq
            simp [updV, va_up, va_rf]
          · simp [updV, va_up, hq]
        have kk := k H1 (locs ++ [⟨a, i.toNatClampNeg⟩]) ls hl (hI.put hg he z oq) (hS.put z oq (gt_at (Y := Y) hg).2) (by rw [st_len.1]; exact g1) (by rw [st_len.2]; exact g2)
        dsimp only at kk
        rw [st_len.1, st_len.2] at kk
        exact kk
      · cases h5
theorem ss_alen  (hM : MC p s m args meth c E D Y cx nL) (hd : decode cx.2.1 pc = .ok (.arraylength, 1)) (h : stpI E cx (.arraylength) pc lo t G = some (.inl r))  (k : WP p l e R s m args below meth c Q E D Y nL N0 S0 r.1 r.2.1 r.2.2.1 r.2.2.2) : WP p l e R s m args below meth c Q E D Y nL N0 S0 pc lo t G := by
  obtain ⟨⟨hx, hb, hml, hr, hlk⟩, hown, hini, hts, hK⟩ := hM
  obtain ⟨a, t', rfl, h2⟩ := p1r_inj h
  · split at h2
    · next kd n f hg =>
      cases nx_inj h2
      intro H locs ls hl hI hS g1 g2
      obtain ⟨t0, ht⟩ := ty_k Y kd
      exact va_alen (x := (n, .inl f)) hx hb hK.1 hI.1 _ t0 (gt_at hg).1 ht rfl hd (k H locs ls hl hI hS g1 g2)
    · next kd n f hg =>
      obtain ⟨e1, h3⟩ := gd_inj h2
      cases nx_inj h3
      intro H locs ls hl hI hS g1 g2
      obtain ⟨t0, ht⟩ := ty_r Y kd
      exact va_alen (x := (n, .inr (.inr (.inr (.inr f))))) hx hb hK.1 hI.1 _ t0 (gt_at hg).1 ht rfl hd (k H locs ls hl hI hS g1 g2)
    · cases h2
    · obtain ⟨n, h1, h3⟩ := ov_inj h2
      cases nx_inj h3
      intro H locs ls hl hI hS g1 g2
      unfold oL at h1
      split at h1
      · split at h1
        · next ea =>
          cases h1
          subst ea
          exact va_slen hx hb hK.2.2.2.2.2.2.2.2.1 (Nat.lt_of_lt_of_le hK.2.2.2.2.2.2.2.2.2.1 hK.2.2.2.2.2.2.2.2.2.2) (Nat.not_le.mpr hK.2.2.2.2.2.2.2.2.2.1) hS hd (k H locs ls hl hI hS g1 g2)
        · cases h1
      · split at h1
        · next ea =>
          cases h1
          subst ea
          exact va_tlen hx hb hK.2.2.2.1.2 hS rfl hd (k H locs ls hl hI hS g1 g2)
        · split at h1
          · next ea =>
            cases h1
            subst ea
            exact va_tlen hx hb hK.2.2.2.2.2.2.1.2.2.2 hS rfl hd (k H locs ls hl hI hS g1 g2)
          · cases h1
abbrev ca (k n : Nat) (f : Nat → Int32) : Cl := .inl (k, n, f)
theorem ss_newarray {ty : ArrayType} (hM : MC p s m args meth c E D Y cx nL) (hd : decode cx.2.1 pc = .ok (.newarray ty, 2)) (h : stpI E cx (.newarray ty) pc lo t G = some (.inl r)) (hbd : r.2.2.2.1.length - N0 ≤ R.cells ∧ r.2.2.2.2 - S0 ≤ R.slots) (k : WP p l e R s m args below meth c Q E D Y nL N0 S0 r.1 r.2.1 r.2.2.1 r.2.2.2) : WP p l e R s m args below meth c Q E D Y nL N0 S0 pc lo t G := by
  obtain ⟨⟨hx, hb, hml, hr, hlk⟩, hown, hini, hts, hK⟩ := hM
  obtain ⟨n, t', rfl, h2⟩ := p1i_inj h
  · obtain ⟨⟨e1, e2⟩, h3⟩ := gd_inj h2
    split at h3
    · skip
      cases nx_inj h3
      intro H locs ls hl hI hS g1 g2
      have b1 : G.1.length + 1 - N0 ≤ R.cells := by
        have := hbd.1
        simp only [psh, List.length_append, List.length_cons, List.length_nil] at this
        exact this
      have b2 : G.2 + n.toNatClampNeg - S0 ≤ R.slots := hbd.2
      refine va_newaK (atype := .int) hx hb (hts _ (LW_t 42 (by decide +kernel) (by rfl))) rfl hd rfl e1 rfl (by show _ * 4 ≤ _; omega) (by omega) (by omega) rfl fun H1 cA he hz ho hAr hNm => ?_
      have hcA : cA = yk Y 0 := Option.some.inj (hNm.symm.trans (hK.1.2 0 _ rfl).2)
      subst hcA
      have kk := k H1 locs ls hl (hI.psh (c := ca 0 n.toNatClampNeg (fun _ => 0)) (n := n.toNatClampNeg) he hz ho) (hS.psh (by omega) ho) (by simp only [psh, List.length_append]; omega) (by simp only [psh]; omega)
      rw [nxA_eq hI]
      dsimp only at kk
      have c1 : (psh G (ca 0 n.toNatClampNeg (fun _ => 0)) n.toNatClampNeg).1.length - N0 = G.1.length - N0 + 1 := by simp only [psh, List.length_append, List.length_cons, List.length_nil]; omega
      have c2 : (psh G (ca 0 n.toNatClampNeg (fun _ => 0)) n.toNatClampNeg).2 - S0 = G.2 - S0 + n.toNatClampNeg := by simp only [psh]; omega
      rw [c1, c2] at kk
      exact kk
    · skip
      cases nx_inj h3
      intro H locs ls hl hI hS g1 g2
      have b1 : G.1.length + 1 - N0 ≤ R.cells := by
        have := hbd.1
        simp only [psh, List.length_append, List.length_cons, List.length_nil] at this
        exact this
      have b2 : G.2 + n.toNatClampNeg - S0 ≤ R.slots := hbd.2
      refine va_newaK (atype := .byte) hx hb (hts _ (LW_t 66 (by decide +kernel) (by rfl))) rfl hd rfl e1 rfl (by show _ * 1 ≤ _; omega) (by omega) (by omega) rfl fun H1 cA he hz ho hAr hNm => ?_
      have hcA : cA = yk Y 1 := Option.some.inj (hNm.symm.trans (hK.1.2 1 _ rfl).2)
      subst hcA
      have kk := k H1 locs ls hl (hI.psh (c := ca 1 n.toNatClampNeg (fun _ => 0)) (n := n.toNatClampNeg) he hz ho) (hS.psh (by omega) ho) (by simp only [psh, List.length_append]; omega) (by simp only [psh]; omega)
      rw [nxA_eq hI]
      dsimp only at kk
      have c1 : (psh G (ca 1 n.toNatClampNeg (fun _ => 0)) n.toNatClampNeg).1.length - N0 = G.1.length - N0 + 1 := by simp only [psh, List.length_append, List.length_cons, List.length_nil]; omega
      have c2 : (psh G (ca 1 n.toNatClampNeg (fun _ => 0)) n.toNatClampNeg).2 - S0 = G.2 - S0 + n.toNatClampNeg := by simp only [psh]; omega
      rw [c1, c2] at kk
      exact kk
    · skip
      cases nx_inj h3
      intro H locs ls hl hI hS g1 g2
      have b1 : G.1.length + 1 - N0 ≤ R.cells := by
        have := hbd.1
        simp only [psh, List.length_append, List.length_cons, List.length_nil] at this
        exact this
      have b2 : G.2 + n.toNatClampNeg - S0 ≤ R.slots := hbd.2
      refine va_newaK (atype := .boolean) hx hb (hts _ (LW_t 207 (by decide +kernel) (by rfl))) rfl hd rfl e1 rfl (by show _ * 1 ≤ _; omega) (by omega) (by omega) rfl fun H1 cA he hz ho hAr hNm => ?_
      have hcA : cA = yk Y 2 := Option.some.inj (hNm.symm.trans (hK.1.2 2 _ rfl).2)
      subst hcA
      have kk := k H1 locs ls hl (hI.psh (c := ca 2 n.toNatClampNeg (fun _ => 0)) (n := n.toNatClampNeg) he hz ho) (hS.psh (by omega) ho) (by simp only [psh, List.length_append]; omega) (by simp only [psh]; omega)
      rw [nxA_eq hI]
      dsimp only at kk
      have c1 : (psh G (ca 2 n.toNatClampNeg (fun _ => 0)) n.toNatClampNeg).1.length - N0 = G.1.length - N0 + 1 := by simp only [psh, List.length_append, List.length_cons, List.length_nil]; omega
      have c2 : (psh G (ca 2 n.toNatClampNeg (fun _ => 0)) n.toNatClampNeg).2 - S0 = G.2 - S0 + n.toNatClampNeg := by simp only [psh]; omega
      rw [c1, c2] at kk
      exact kk
    · cases h3
theorem ss_anewarray {x : Nat} (hM : MC p s m args meth c E D Y cx nL) (hd : decode cx.2.1 pc = .ok (.anewarray x, 3)) (h : stpI E cx (.anewarray x) pc lo t G = some (.inl r)) (hbd : r.2.2.2.1.length - N0 ≤ R.cells ∧ r.2.2.2.2 - S0 ≤ R.slots) (k : WP p l e R s m args below meth c Q E D Y nL N0 S0 r.1 r.2.1 r.2.2.1 r.2.2.2) : WP p l e R s m args below meth c Q E D Y nL N0 S0 pc lo t G := by
  obtain ⟨⟨hx, hb, hml, hr, hlk⟩, hown, hini, hts, hK⟩ := hM
  obtain ⟨n, t', rfl, h2⟩ := p1i_inj h
  · obtain ⟨q, hq, h3⟩ := ov_inj h2
    obtain ⟨⟨e0, e1, e2⟩, h4⟩ := gd_inj h3
    cases nx_inj h4
    intro H locs ls hl hI hS g1 g2
    have b1 : G.1.length + 1 - N0 ≤ R.cells := by
      have := hbd.1
      simp only [psh, List.length_append, List.length_cons, List.length_nil] at this
      exact this
    have b2 : G.2 + n.toNatClampNeg - S0 ≤ R.slots := hbd.2
    have hAO : va_AO (tN q.1) s := by
      rcases e0 with e0 | e0
      · rw [e0]; exact hK.2.2.1.1
      · rw [e0]; exact hK.2.2.1.2.1
    obtain ⟨t0, ht⟩ := ty_r Y (q.1 - 1)
    have hRT : rT (q.1 - 1) = .object (tN q.1) := by
      rcases e0 with e0 | e0
      · rw [e0]; rfl
      · rw [e0]; rfl
    refine W.anew hx hb hown (hts _ (fC_ok hq)) (va_AO.use hAO) rfl hd rfl e1 (by omega) (by omega) (by omega) fun cA kA comp f1 f2 f3 f4 => ?_
    generalize hH1 : H.push ({ cls := cA, slots := Array.replicate n.toNatClampNeg .null, vm := .none } : Cell) = H1
    have z1 : H1.size = H.size + 1 := by rw [← hH1, Array.size_push]
    have he : H1[H.size]? = some (arrV cA n.toNatClampNeg (fun _ => .null)) := by rw [← hH1, Array.getElem?_push_size, ← arrV_new]
    have ho : ∀ q : Nat, q < H.size → H1[q]? = H[q]? := fun q hq => by rw [← hH1, Array.getElem?_push, if_neg (Nat.ne_of_lt hq)]
    have hcA : cA = yr Y (q.1 - 1) := by
      have hRA := (hK.1.2 t0 _ ht).2
      dsimp only at hRA
      rw [hRT] at hRA
      obtain ⟨kA', comp', -, -, -, k4⟩ := hRA
      exact Option.some.inj (f1.symm.trans k4)
    subst hcA
    have hv : va_at D clsT (H.size, tr Y (cR (q.1 - 1) n.toNatClampNeg (fun _ => none))) H1 := by
      show H1[H.size]? = some (vp_cell (yr Y (q.1 - 1)) (n.toNatClampNeg, .inr (.inr (.inr (.inr (fun _ => none))))))
      rw [vp_cell_q]
      exact he
    have kk := k H1 locs ls hl (hI.psh (n := n.toNatClampNeg) hv z1 ho) (hS.psh (by omega) ho) (by simp only [psh, List.length_append]; omega) (by simp only [psh]; omega)
    rw [nxA_eq hI]
    dsimp only at kk
    have c1 : (psh G (cR (q.1 - 1) n.toNatClampNeg (fun _ => none)) n.toNatClampNeg).1.length - N0 = G.1.length - N0 + 1 := by simp only [psh, List.length_append, List.length_cons, List.length_nil]; omega
    have c2 : (psh G (cR (q.1 - 1) n.toNatClampNeg (fun _ => none)) n.toNatClampNeg).2 - S0 = G.2 - S0 + n.toNatClampNeg := by simp only [psh]; omega
    rw [c1, c2] at kk
    exact kk
theorem ss_new {x : Nat} (hM : MC p s m args meth c E D Y cx nL) (hd : decode cx.2.1 pc = .ok (.new x, 3)) (h : stpI E cx (.new x) pc lo t G = some (.inl r)) (hbd : r.2.2.2.1.length - N0 ≤ R.cells ∧ r.2.2.2.2 - S0 ≤ R.slots) (k : WP p l e R s m args below meth c Q E D Y nL N0 S0 r.1 r.2.1 r.2.2.1 r.2.2.2) : WP p l e R s m args below meth c Q E D Y nL N0 S0 pc lo t G := by
  obtain ⟨⟨hx, hb, hml, hr, hlk⟩, hown, hini, hts, hK⟩ := hM
  obtain ⟨q, hq, h2⟩ := ov_inj h
  obtain ⟨e0, h3⟩ := gd_inj h2
  cases nx_inj h3
  intro H locs ls hl hI hS g1 g2
  have b1 : G.1.length + 1 - N0 ≤ R.cells := by
    have := hbd.1
    simp only [psh, List.length_append, List.length_cons, List.length_nil] at this
    exact this
  have b2 : G.2 + fSz q.1 - S0 ≤ R.slots := hbd.2
  have hKn := hK.1.1 q.1 _ (cls_at e0)
  refine W.newcK hx hb hown (hts _ (fC_ok hq)) (hts _ (cls_inst e0)) (hts _ (cls_init e0)) rfl hd (by omega) (by omega) hKn.2.1 rfl fun H1 kC hkC he hz ho => ?_
  have hv : va_at D clsT (H.size, tr Y (cO q.1 (fDf q.1))) H1 := ⟨_, cls_at e0, (u_born (fTy q.1) hts (cls_in e0) hKn hkC he (cls_ty e0)).to (fun j hj => by
    show defaultValue (fTy q.1 j) = vp_V (fDf q.1) j
    unfold vp_V fDf
    simp [hj])⟩
  have kk := k H1 locs ls hl (hI.psh (n := fSz q.1) hv hz ho) (hS.psh (by omega) ho) (by simp only [psh, List.length_append]; omega) (by simp only [psh]; omega)
  rw [nxA_eq hI]
  dsimp only at kk
  have c1 : (psh G (cO q.1 (fDf q.1)) (fSz q.1)).1.length - N0 = G.1.length - N0 + 1 := by simp only [psh, List.length_append, List.length_cons, List.length_nil]; omega
  have c2 : (psh G (cO q.1 (fDf q.1)) (fSz q.1)).2 - S0 = G.2 - S0 + fSz q.1 := by simp only [psh]; omega
  rw [c1, c2] at kk
  exact kk
end SNH
end
section
/-! the methods' words -/
def GM (m : Mi) : Prop := Cond.code m.1 m.2.1 m.2.2.1 m.2.2.2.1 ∈ LW ∧ Cond.initialized m.1.cls ∈ LW ∧ ((m.2.2.2.2.2.1 = 14 ∨ plainName m.1.cls = true) ∧ m.1.cls ≠ "java/lang/invoke/MethodHandle" ∧ m.1.cls ≠ "java/lang/invoke/VarHandle" ∧ (parseMethodDescriptor m.1.desc).map (fun d => d.parameters.length) = some m.2.2.2.2.1) ∧ (m.1.cls = tN m.2.2.2.2.2.1 ∧ m.2.2.1 ≤ 40) ∧ (m.2.2.2.2.2.2.1 = true → m.1.name = "<init>" ∧ m.2.2.2.1 = none) ∧ (m.2.2.2.2.2.2.2 = true → Cond.static m.1 ∈ LW) ∧ (m.2.2.2.2.2.2.2 = false → Cond.instanceMethod m.1 ∈ LW ∧ (m.2.2.2.2.2.2.1 = false → Cond.selects m.1.cls m.1 m.1 ∈ LW))
theorem LW_p {w : Cond} (i : Nat) (h : (k2_sels lw_privs)[i]? = some w) (g : goodWord w = true) : w ∈ LW := LW_in (List.mem_append_left _ (List.mem_of_getElem? h)) g
theorem gm_0 : GM (yX0_init, cX0_init, 2, none, 0, 0, true, false) := ⟨LW_t 156 (by decide +kernel) rfl, LW_t 9 (by decide +kernel) rfl, ⟨Or.inr (by decide +kernel), by decide +kernel, by decide +kernel, by decide +kernel⟩, ⟨by decide +kernel, by decide⟩, (fun _ => ⟨rfl, rfl⟩), (fun h => by cases h), (fun _ => ⟨LW_t 155 (by decide +kernel) rfl, (fun h => by cases h)⟩)⟩
theorem gm_1 : GM (yX0_size, cX0_size, 1, some (.int), 0, 0, false, false) := ⟨LW_t 557 (by decide +kernel) rfl, LW_t 9 (by decide +kernel) rfl, ⟨Or.inr (by decide +kernel), by decide +kernel, by decide +kernel, by decide +kernel⟩, ⟨by decide +kernel, by decide⟩, (fun h => by cases h), (fun h => by cases h), (fun _ => ⟨LW_t 555 (by decide +kernel) rfl, fun _ => LW_t 556 (by decide +kernel) rfl⟩)⟩
theorem gm_2 : GM (yX0_forget, cX0_forget, 1, none, 0, 0, false, false) := ⟨LW_t 404 (by decide +kernel) rfl, LW_t 9 (by decide +kernel) rfl, ⟨Or.inr (by decide +kernel), by decide +kernel, by decide +kernel, by decide +kernel⟩, ⟨by decide +kernel, by decide⟩, (fun h => by cases h), (fun h => by cases h), (fun _ => ⟨LW_t 402 (by decide +kernel) rfl, fun _ => LW_t 403 (by decide +kernel) rfl⟩)⟩
theorem gm_3 : GM (yX0_remember, cX0_remember, 2, none, 1, 0, false, false) := ⟨LW_t 498 (by decide +kernel) rfl, LW_t 9 (by decide +kernel) rfl, ⟨Or.inr (by decide +kernel), by decide +kernel, by decide +kernel, by decide +kernel⟩, ⟨by decide +kernel, by decide⟩, (fun h => by cases h), (fun h => by cases h), (fun _ => ⟨LW_t 496 (by decide +kernel) rfl, fun _ => LW_t 497 (by decide +kernel) rfl⟩)⟩
theorem gm_4 : GM (yX0_takeBack, cX0_takeBack, 2, some (.boolean), 1, 0, false, false) := ⟨LW_t 553 (by decide +kernel) rfl, LW_t 9 (by decide +kernel) rfl, ⟨Or.inr (by decide +kernel), by decide +kernel, by decide +kernel, by decide +kernel⟩, ⟨by decide +kernel, by decide⟩, (fun h => by cases h), (fun h => by cases h), (fun _ => ⟨LW_t 551 (by decide +kernel) rfl, fun _ => LW_t 552 (by decide +kernel) rfl⟩)⟩
theorem gm_5 : GM (yX1_init, cX1_init, 2, none, 0, 1, true, false) := ⟨LW_t 47 (by decide +kernel) rfl, LW_t 3 (by decide +kernel) rfl, ⟨Or.inr (by decide +kernel), by decide +kernel, by decide +kernel, by decide +kernel⟩, ⟨by decide +kernel, by decide⟩, (fun _ => ⟨rfl, rfl⟩), (fun h => by cases h), (fun _ => ⟨LW_t 46 (by decide +kernel) rfl, (fun h => by cases h)⟩)⟩
theorem gm_6 : GM (yX1_edits, cX1_edits, 1, some (.int), 0, 1, false, false) := ⟨LW_t 577 (by decide +kernel) rfl, LW_t 3 (by decide +kernel) rfl, ⟨Or.inr (by decide +kernel), by decide +kernel, by decide +kernel, by decide +kernel⟩, ⟨by decide +kernel, by decide⟩, (fun h => by cases h), (fun h => by cases h), (fun _ => ⟨LW_t 575 (by decide +kernel) rfl, fun _ => LW_t 576 (by decide +kernel) rfl⟩)⟩
theorem gm_7 : GM (yX1_reset, cX1_reset, 2, none, 0, 1, false, false) := ⟨LW_t 70 (by decide +kernel) rfl, LW_t 3 (by decide +kernel) rfl, ⟨Or.inr (by decide +kernel), by decide +kernel, by decide +kernel, by decide +kernel⟩, ⟨by decide +kernel, by decide⟩, (fun h => by cases h), (fun h => by cases h), (fun _ => ⟨LW_t 68 (by decide +kernel) rfl, fun _ => LW_t 69 (by decide +kernel) rfl⟩)⟩
theorem gm_8 : GM (yX1_become, cX1_become, 3, none, 1, 1, false, false) := ⟨LW_t 399 (by decide +kernel) rfl, LW_t 3 (by decide +kernel) rfl, ⟨Or.inr (by decide +kernel), by decide +kernel, by decide +kernel, by decide +kernel⟩, ⟨by decide +kernel, by decide⟩, (fun h => by cases h), (fun h => by cases h), (fun _ => ⟨LW_t 397 (by decide +kernel) rfl, fun _ => LW_t 398 (by decide +kernel) rfl⟩)⟩
theorem gm_9 : GM (yX1_body, cX1_body, 2, some (.object "RecursionSchemes$Term"), 1, 1, false, false) := ⟨LW_t 417 (by decide +kernel) rfl, LW_t 3 (by decide +kernel) rfl, ⟨Or.inr (by decide +kernel), by decide +kernel, by decide +kernel, by decide +kernel⟩, ⟨by decide +kernel, by decide⟩, (fun h => by cases h), (fun h => by cases h), (fun _ => ⟨LW_t 415 (by decide +kernel) rfl, fun _ => LW_t 416 (by decide +kernel) rfl⟩)⟩
theorem gm_10 : GM (yX1_changeBody, cX1_changeBody, 3, none, 2, 1, false, false) := ⟨LW_t 362 (by decide +kernel) rfl, LW_t 3 (by decide +kernel) rfl, ⟨Or.inr (by decide +kernel), by decide +kernel, by decide +kernel, by decide +kernel⟩, ⟨by decide +kernel, by decide⟩, (fun h => by cases h), (fun h => by cases h), (fun _ => ⟨LW_t 360 (by decide +kernel) rfl, fun _ => LW_t 361 (by decide +kernel) rfl⟩)⟩
theorem gm_11 : GM (yX1_swapFAndG, cX1_swapFAndG, 3, some (.int), 0, 1, false, false) := ⟨LW_t 541 (by decide +kernel) rfl, LW_t 3 (by decide +kernel) rfl, ⟨Or.inr (by decide +kernel), by decide +kernel, by decide +kernel, by decide +kernel⟩, ⟨by decide +kernel, by decide⟩, (fun h => by cases h), (fun h => by cases h), (fun _ => ⟨LW_t 539 (by decide +kernel) rfl, fun _ => LW_t 540 (by decide +kernel) rfl⟩)⟩
theorem gm_12 : GM (yX1_canRead, cX1_canRead, 3, some (.boolean), 2, 1, false, false) := ⟨LW_t 469 (by decide +kernel) rfl, LW_t 3 (by decide +kernel) rfl, ⟨Or.inr (by decide +kernel), by decide +kernel, by decide +kernel, by decide +kernel⟩, ⟨by decide +kernel, by decide⟩, (fun h => by cases h), (fun h => by cases h), (fun _ => ⟨LW_t 467 (by decide +kernel) rfl, fun _ => LW_t 468 (by decide +kernel) rfl⟩)⟩
theorem gm_13 : GM (yX1_target, cX1_target, 4, some (.int), 3, 1, false, false) := ⟨LW_t 473 (by decide +kernel) rfl, LW_t 3 (by decide +kernel) rfl, ⟨Or.inr (by decide +kernel), by decide +kernel, by decide +kernel, by decide +kernel⟩, ⟨by decide +kernel, by decide⟩, (fun h => by cases h), (fun h => by cases h), (fun _ => ⟨LW_t 471 (by decide +kernel) rfl, fun _ => LW_t 472 (by decide +kernel) rfl⟩)⟩
theorem gm_14 : GM (yX1_putTransition, cX1_putTransition, 5, none, 4, 1, false, false) := ⟨LW_t 391 (by decide +kernel) rfl, LW_t 3 (by decide +kernel) rfl, ⟨Or.inr (by decide +kernel), by decide +kernel, by decide +kernel, by decide +kernel⟩, ⟨by decide +kernel, by decide⟩, (fun h => by cases h), (fun h => by cases h), (fun _ => ⟨LW_t 389 (by decide +kernel) rfl, fun _ => LW_t 390 (by decide +kernel) rfl⟩)⟩
theorem gm_15 : GM (yX1_dropTransition, cX1_dropTransition, 3, none, 2, 1, false, false) := ⟨LW_t 518 (by decide +kernel) rfl, LW_t 3 (by decide +kernel) rfl, ⟨Or.inr (by decide +kernel), by decide +kernel, by decide +kernel, by decide +kernel⟩, ⟨by decide +kernel, by decide⟩, (fun h => by cases h), (fun h => by cases h), (fun _ => ⟨LW_t 516 (by decide +kernel) rfl, fun _ => LW_t 517 (by decide +kernel) rfl⟩)⟩
theorem gm_16 : GM (yX1_transitionCount, cX1_transitionCount, 3, some (.int), 0, 1, false, false) := ⟨LW_t 408 (by decide +kernel) rfl, LW_t 3 (by decide +kernel) rfl, ⟨Or.inr (by decide +kernel), by decide +kernel, by decide +kernel, by decide +kernel⟩, ⟨by decide +kernel, by decide⟩, (fun h => by cases h), (fun h => by cases h), (fun _ => ⟨LW_t 406 (by decide +kernel) rfl, fun _ => LW_t 407 (by decide +kernel) rfl⟩)⟩
theorem gm_17 : GM (yX2_init, cX2_init, 2, none, 1, 2, true, false) := ⟨LW_t 54 (by decide +kernel) rfl, LW_t 4 (by decide +kernel) rfl, ⟨Or.inr (by decide +kernel), by decide +kernel, by decide +kernel, by decide +kernel⟩, ⟨by decide +kernel, by decide⟩, (fun _ => ⟨rfl, rfl⟩), (fun h => by cases h), (fun _ => ⟨LW_t 53 (by decide +kernel) rfl, (fun h => by cases h)⟩)⟩
theorem gm_18 : GM (yX2_size, cX2_size, 1, some (.int), 0, 2, false, false) := ⟨LW_t 421 (by decide +kernel) rfl, LW_t 4 (by decide +kernel) rfl, ⟨Or.inr (by decide +kernel), by decide +kernel, by decide +kernel, by decide +kernel⟩, ⟨by decide +kernel, by decide⟩, (fun h => by cases h), (fun h => by cases h), (fun _ => ⟨LW_t 419 (by decide +kernel) rfl, fun _ => LW_t 420 (by decide +kernel) rfl⟩)⟩
theorem gm_19 : GM (yX2_holds, cX2_holds, 2, some (.boolean), 1, 2, false, false) := ⟨LW_t 429 (by decide +kernel) rfl, LW_t 4 (by decide +kernel) rfl, ⟨Or.inr (by decide +kernel), by decide +kernel, by decide +kernel, by decide +kernel⟩, ⟨by decide +kernel, by decide⟩, (fun h => by cases h), (fun h => by cases h), (fun _ => ⟨LW_t 427 (by decide +kernel) rfl, fun _ => LW_t 428 (by decide +kernel) rfl⟩)⟩
theorem gm_20 : GM (yX2_symbol, cX2_symbol, 2, some (.int), 1, 2, false, false) := ⟨LW_t 433 (by decide +kernel) rfl, LW_t 4 (by decide +kernel) rfl, ⟨Or.inr (by decide +kernel), by decide +kernel, by decide +kernel, by decide +kernel⟩, ⟨by decide +kernel, by decide⟩, (fun h => by cases h), (fun h => by cases h), (fun _ => ⟨LW_t 431 (by decide +kernel) rfl, fun _ => LW_t 432 (by decide +kernel) rfl⟩)⟩
theorem gm_21 : GM (yX2_empty, cX2_empty, 1, none, 0, 2, false, false) := ⟨LW_t 74 (by decide +kernel) rfl, LW_t 4 (by decide +kernel) rfl, ⟨Or.inr (by decide +kernel), by decide +kernel, by decide +kernel, by decide +kernel⟩, ⟨by decide +kernel, by decide⟩, (fun h => by cases h), (fun h => by cases h), (fun _ => ⟨LW_t 72 (by decide +kernel) rfl, fun _ => LW_t 73 (by decide +kernel) rfl⟩)⟩
theorem gm_22 : GM (yX2_add, cX2_add, 2, some (.boolean), 1, 2, false, false) := ⟨LW_t 78 (by decide +kernel) rfl, LW_t 4 (by decide +kernel) rfl, ⟨Or.inr (by decide +kernel), by decide +kernel, by decide +kernel, by decide +kernel⟩, ⟨by decide +kernel, by decide⟩, (fun h => by cases h), (fun h => by cases h), (fun _ => ⟨LW_t 76 (by decide +kernel) rfl, fun _ => LW_t 77 (by decide +kernel) rfl⟩)⟩
theorem gm_23 : GM (yX2_addPart, cX2_addPart, 5, some (.boolean), 3, 2, false, false) := ⟨LW_t 370 (by decide +kernel) rfl, LW_t 4 (by decide +kernel) rfl, ⟨Or.inr (by decide +kernel), by decide +kernel, by decide +kernel, by decide +kernel⟩, ⟨by decide +kernel, by decide⟩, (fun h => by cases h), (fun h => by cases h), (fun _ => ⟨LW_t 368 (by decide +kernel) rfl, fun _ => LW_t 369 (by decide +kernel) rfl⟩)⟩
theorem gm_24 : GM (yX2_become, cX2_become, 2, none, 1, 2, false, false) := ⟨LW_t 366 (by decide +kernel) rfl, LW_t 4 (by decide +kernel) rfl, ⟨Or.inr (by decide +kernel), by decide +kernel, by decide +kernel, by decide +kernel⟩, ⟨by decide +kernel, by decide⟩, (fun h => by cases h), (fun h => by cases h), (fun _ => ⟨LW_t 364 (by decide +kernel) rfl, fun _ => LW_t 365 (by decide +kernel) rfl⟩)⟩
theorem gm_25 : GM (yX2_endOf, cX2_endOf, 4, some (.int), 1, 2, false, false) := ⟨LW_t 531 (by decide +kernel) rfl, LW_t 4 (by decide +kernel) rfl, ⟨Or.inr (by decide +kernel), by decide +kernel, by decide +kernel, by decide +kernel⟩, ⟨by decide +kernel, by decide⟩, (fun h => by cases h), (fun h => by cases h), (fun _ => ⟨LW_t 529 (by decide +kernel) rfl, fun _ => LW_t 530 (by decide +kernel) rfl⟩)⟩
theorem gm_26 : GM (yX2_expand, cX2_expand, 9, some (.boolean), 3, 2, false, false) := ⟨LW_t 527 (by decide +kernel) rfl, LW_t 4 (by decide +kernel) rfl, ⟨Or.inr (by decide +kernel), by decide +kernel, by decide +kernel, by decide +kernel⟩, ⟨by decide +kernel, by decide⟩, (fun h => by cases h), (fun h => by cases h), (fun _ => ⟨LW_t 525 (by decide +kernel) rfl, fun _ => LW_t 526 (by decide +kernel) rfl⟩)⟩
theorem gm_27 : GM (yX2_nonterminals, cX2_nonterminals, 4, some (.int), 0, 2, false, false) := ⟨LW_t 485 (by decide +kernel) rfl, LW_t 4 (by decide +kernel) rfl, ⟨Or.inr (by decide +kernel), by decide +kernel, by decide +kernel, by decide +kernel⟩, ⟨by decide +kernel, by decide⟩, (fun h => by cases h), (fun h => by cases h), (fun _ => ⟨LW_t 483 (by decide +kernel) rfl, fun _ => LW_t 484 (by decide +kernel) rfl⟩)⟩
theorem gm_28 : GM (yX2_swapSymbols, cX2_swapSymbols, 5, some (.int), 2, 2, false, false) := ⟨LW_t 545 (by decide +kernel) rfl, LW_t 4 (by decide +kernel) rfl, ⟨Or.inr (by decide +kernel), by decide +kernel, by decide +kernel, by decide +kernel⟩, ⟨by decide +kernel, by decide⟩, (fun h => by cases h), (fun h => by cases h), (fun _ => ⟨LW_t 543 (by decide +kernel) rfl, fun _ => LW_t 544 (by decide +kernel) rfl⟩)⟩
theorem gm_29 : GM (yX3_init, cX3_init, 1, none, 0, 3, true, false) := ⟨LW_t 30 (by decide +kernel) rfl, LW_t 2 (by decide +kernel) rfl, ⟨Or.inr (by decide +kernel), by decide +kernel, by decide +kernel, by decide +kernel⟩, ⟨by decide +kernel, by decide⟩, (fun _ => ⟨rfl, rfl⟩), (fun h => by cases h), (fun _ => ⟨LW_t 29 (by decide +kernel) rfl, (fun h => by cases h)⟩)⟩
theorem gm_30 : GM (yX3_size, cX3_size, 1, some (.int), 0, 3, false, false) := ⟨LW_t 219 (by decide +kernel) rfl, LW_t 2 (by decide +kernel) rfl, ⟨Or.inr (by decide +kernel), by decide +kernel, by decide +kernel, by decide +kernel⟩, ⟨by decide +kernel, by decide⟩, (fun h => by cases h), (fun h => by cases h), (fun _ => ⟨LW_t 217 (by decide +kernel) rfl, fun _ => LW_t 218 (by decide +kernel) rfl⟩)⟩
theorem gm_31 : GM (yX3_empty, cX3_empty, 1, none, 0, 3, false, false) := ⟨LW_t 227 (by decide +kernel) rfl, LW_t 2 (by decide +kernel) rfl, ⟨Or.inr (by decide +kernel), by decide +kernel, by decide +kernel, by decide +kernel⟩, ⟨by decide +kernel, by decide⟩, (fun h => by cases h), (fun h => by cases h), (fun _ => ⟨LW_t 225 (by decide +kernel) rfl, fun _ => LW_t 226 (by decide +kernel) rfl⟩)⟩
theorem gm_32 : GM (yX3_add, cX3_add, 2, some (.boolean), 1, 3, false, false) := ⟨LW_t 215 (by decide +kernel) rfl, LW_t 2 (by decide +kernel) rfl, ⟨Or.inr (by decide +kernel), by decide +kernel, by decide +kernel, by decide +kernel⟩, ⟨by decide +kernel, by decide⟩, (fun h => by cases h), (fun h => by cases h), (fun _ => ⟨LW_t 213 (by decide +kernel) rfl, fun _ => LW_t 214 (by decide +kernel) rfl⟩)⟩
theorem gm_33 : GM (yX3_readSetup, cX3_readSetup, 4, some (.int), 2, 3, false, false) := ⟨LW_t 235 (by decide +kernel) rfl, LW_t 2 (by decide +kernel) rfl, ⟨Or.inr (by decide +kernel), by decide +kernel, by decide +kernel, by decide +kernel⟩, ⟨by decide +kernel, by decide⟩, (fun h => by cases h), (fun h => by cases h), (fun _ => ⟨LW_t 233 (by decide +kernel) rfl, fun _ => LW_t 234 (by decide +kernel) rfl⟩)⟩
theorem gm_34 : GM (yX3_isBody, cX3_isBody, 3, some (.boolean), 2, 3, false, false) := ⟨LW_t 494 (by decide +kernel) rfl, LW_t 2 (by decide +kernel) rfl, ⟨Or.inr (by decide +kernel), by decide +kernel, by decide +kernel, by decide +kernel⟩, ⟨by decide +kernel, by decide⟩, (fun h => by cases h), (fun h => by cases h), (fun _ => ⟨LW_t 492 (by decide +kernel) rfl, fun _ => LW_t 493 (by decide +kernel) rfl⟩)⟩
theorem gm_35 : GM (yX3_readItem, cX3_readItem, 5, some (.boolean), 2, 3, false, false) := ⟨LW_t 240 (by decide +kernel) rfl, LW_t 2 (by decide +kernel) rfl, ⟨Or.inr (by decide +kernel), by decide +kernel, by decide +kernel, by decide +kernel⟩, ⟨by decide +kernel, by decide⟩, (fun h => by cases h), (fun h => by cases h), (fun _ => ⟨LW_t 239 (by decide +kernel) rfl, fun _ => LW_p 0 (by decide +kernel) rfl⟩)⟩
theorem gm_36 : GM (yX3_readRule, cX3_readRule, 4, some (.boolean), 3, 3, false, false) := ⟨LW_t 340 (by decide +kernel) rfl, LW_t 2 (by decide +kernel) rfl, ⟨Or.inr (by decide +kernel), by decide +kernel, by decide +kernel, by decide +kernel⟩, ⟨by decide +kernel, by decide⟩, (fun h => by cases h), (fun h => by cases h), (fun _ => ⟨LW_t 339 (by decide +kernel) rfl, fun _ => LW_p 3 (by decide +kernel) rfl⟩)⟩
theorem gm_37 : GM (yX3_readTransition, cX3_readTransition, 8, some (.boolean), 2, 3, false, false) := ⟨LW_t 384 (by decide +kernel) rfl, LW_t 2 (by decide +kernel) rfl, ⟨Or.inr (by decide +kernel), by decide +kernel, by decide +kernel, by decide +kernel⟩, ⟨by decide +kernel, by decide⟩, (fun h => by cases h), (fun h => by cases h), (fun _ => ⟨LW_t 383 (by decide +kernel) rfl, fun _ => LW_p 7 (by decide +kernel) rfl⟩)⟩
theorem gm_38 : GM (yX3_readBody, cX3_readBody, 6, some (.boolean), 2, 3, false, false) := ⟨LW_t 348 (by decide +kernel) rfl, LW_t 2 (by decide +kernel) rfl, ⟨Or.inr (by decide +kernel), by decide +kernel, by decide +kernel, by decide +kernel⟩, ⟨by decide +kernel, by decide⟩, (fun h => by cases h), (fun h => by cases h), (fun _ => ⟨LW_t 347 (by decide +kernel) rfl, fun _ => LW_p 5 (by decide +kernel) rfl⟩)⟩
theorem gm_39 : GM (yX3_mayContain, cX3_mayContain, 2, some (.boolean), 2, 3, false, true) := ⟨LW_t 352 (by decide +kernel) rfl, LW_t 2 (by decide +kernel) rfl, ⟨Or.inr (by decide +kernel), by decide +kernel, by decide +kernel, by decide +kernel⟩, ⟨by decide +kernel, by decide⟩, (fun h => by cases h), (fun _ => LW_t 351 (by decide +kernel) rfl), (fun h => by cases h)⟩
theorem gm_40 : GM (yX3_skip, cX3_skip, 2, some (.boolean), 1, 3, false, false) := ⟨LW_t 344 (by decide +kernel) rfl, LW_t 2 (by decide +kernel) rfl, ⟨Or.inr (by decide +kernel), by decide +kernel, by decide +kernel, by decide +kernel⟩, ⟨by decide +kernel, by decide⟩, (fun h => by cases h), (fun h => by cases h), (fun _ => ⟨LW_t 343 (by decide +kernel) rfl, fun _ => LW_p 4 (by decide +kernel) rfl⟩)⟩
theorem gm_41 : GM (yX3_characterHere, cX3_characterHere, 1, some (.int), 0, 3, false, false) := ⟨LW_t 248 (by decide +kernel) rfl, LW_t 2 (by decide +kernel) rfl, ⟨Or.inr (by decide +kernel), by decide +kernel, by decide +kernel, by decide +kernel⟩, ⟨by decide +kernel, by decide⟩, (fun h => by cases h), (fun h => by cases h), (fun _ => ⟨LW_t 247 (by decide +kernel) rfl, fun _ => LW_p 2 (by decide +kernel) rfl⟩)⟩
theorem gm_42 : GM (yX3_symbolHere, cX3_symbolHere, 2, some (.int), 0, 3, false, false) := ⟨LW_t 244 (by decide +kernel) rfl, LW_t 2 (by decide +kernel) rfl, ⟨Or.inr (by decide +kernel), by decide +kernel, by decide +kernel, by decide +kernel⟩, ⟨by decide +kernel, by decide⟩, (fun h => by cases h), (fun h => by cases h), (fun _ => ⟨LW_t 243 (by decide +kernel) rfl, fun _ => LW_p 1 (by decide +kernel) rfl⟩)⟩
theorem gm_43 : GM (yX3_stateHere, cX3_stateHere, 1, some (.int), 0, 3, false, false) := ⟨LW_t 377 (by decide +kernel) rfl, LW_t 2 (by decide +kernel) rfl, ⟨Or.inr (by decide +kernel), by decide +kernel, by decide +kernel, by decide +kernel⟩, ⟨by decide +kernel, by decide⟩, (fun h => by cases h), (fun h => by cases h), (fun _ => ⟨LW_t 376 (by decide +kernel) rfl, fun _ => LW_p 6 (by decide +kernel) rfl⟩)⟩
theorem gm_44 : GM (yX4_init, cX4_init, 3, none, 1, 4, true, false) := ⟨LW_t 99 (by decide +kernel) rfl, LW_t 7 (by decide +kernel) rfl, ⟨Or.inr (by decide +kernel), by decide +kernel, by decide +kernel, by decide +kernel⟩, ⟨by decide +kernel, by decide⟩, (fun _ => ⟨rfl, rfl⟩), (fun h => by cases h), (fun _ => ⟨LW_t 98 (by decide +kernel) rfl, (fun h => by cases h)⟩)⟩
theorem gm_45 : GM (yX4_upToDate, cX4_upToDate, 1, some (.object "RecursionSchemes$Tree"), 0, 4, false, false) := ⟨LW_t 573 (by decide +kernel) rfl, LW_t 7 (by decide +kernel) rfl, ⟨Or.inr (by decide +kernel), by decide +kernel, by decide +kernel, by decide +kernel⟩, ⟨by decide +kernel, by decide⟩, (fun h => by cases h), (fun h => by cases h), (fun _ => ⟨LW_t 571 (by decide +kernel) rfl, fun _ => LW_t 572 (by decide +kernel) rfl⟩)⟩
theorem gm_46 : GM (yX4_labelCode, cX4_labelCode, 2, some (.int), 1, 4, false, false) := ⟨LW_t 608 (by decide +kernel) rfl, LW_t 7 (by decide +kernel) rfl, ⟨Or.inr (by decide +kernel), by decide +kernel, by decide +kernel, by decide +kernel⟩, ⟨by decide +kernel, by decide⟩, (fun h => by cases h), (fun h => by cases h), (fun _ => ⟨LW_t 606 (by decide +kernel) rfl, fun _ => LW_t 607 (by decide +kernel) rfl⟩)⟩
theorem gm_47 : GM (yX4_expansionsTo, cX4_expansionsTo, 2, some (.int), 1, 4, false, false) := ⟨LW_t 621 (by decide +kernel) rfl, LW_t 7 (by decide +kernel) rfl, ⟨Or.inr (by decide +kernel), by decide +kernel, by decide +kernel, by decide +kernel⟩, ⟨by decide +kernel, by decide⟩, (fun h => by cases h), (fun h => by cases h), (fun _ => ⟨LW_t 619 (by decide +kernel) rfl, fun _ => LW_t 620 (by decide +kernel) rfl⟩)⟩
theorem gm_48 : GM (yX4_stateOf, cX4_stateOf, 2, some (.int), 1, 4, false, false) := ⟨LW_t 629 (by decide +kernel) rfl, LW_t 7 (by decide +kernel) rfl, ⟨Or.inr (by decide +kernel), by decide +kernel, by decide +kernel, by decide +kernel⟩, ⟨by decide +kernel, by decide⟩, (fun h => by cases h), (fun h => by cases h), (fun _ => ⟨LW_t 627 (by decide +kernel) rfl, fun _ => LW_t 628 (by decide +kernel) rfl⟩)⟩
theorem gm_49 : GM (yX4_childCount, cX4_childCount, 2, some (.int), 1, 4, false, false) := ⟨LW_t 785 (by decide +kernel) rfl, LW_t 7 (by decide +kernel) rfl, ⟨Or.inr (by decide +kernel), by decide +kernel, by decide +kernel, by decide +kernel⟩, ⟨by decide +kernel, by decide⟩, (fun h => by cases h), (fun h => by cases h), (fun _ => ⟨LW_t 783 (by decide +kernel) rfl, fun _ => LW_t 784 (by decide +kernel) rfl⟩)⟩
theorem gm_50 : GM (yX4_countAt, cX4_countAt, 4, some (.int), 1, 4, false, false) := ⟨LW_t 640 (by decide +kernel) rfl, LW_t 7 (by decide +kernel) rfl, ⟨Or.inr (by decide +kernel), by decide +kernel, by decide +kernel, by decide +kernel⟩, ⟨by decide +kernel, by decide⟩, (fun h => by cases h), (fun h => by cases h), (fun _ => ⟨LW_t 638 (by decide +kernel) rfl, fun _ => LW_t 639 (by decide +kernel) rfl⟩)⟩
theorem gm_51 : GM (yX4_firstWrong, cX4_firstWrong, 3, some (.int), 1, 4, false, false) := ⟨LW_t 648 (by decide +kernel) rfl, LW_t 7 (by decide +kernel) rfl, ⟨Or.inr (by decide +kernel), by decide +kernel, by decide +kernel, by decide +kernel⟩, ⟨by decide +kernel, by decide⟩, (fun h => by cases h), (fun h => by cases h), (fun _ => ⟨LW_t 646 (by decide +kernel) rfl, fun _ => LW_t 647 (by decide +kernel) rfl⟩)⟩
theorem gm_52 : GM (yX4_exists, cX4_exists, 2, some (.boolean), 1, 4, false, false) := ⟨LW_t 612 (by decide +kernel) rfl, LW_t 7 (by decide +kernel) rfl, ⟨Or.inr (by decide +kernel), by decide +kernel, by decide +kernel, by decide +kernel⟩, ⟨by decide +kernel, by decide⟩, (fun h => by cases h), (fun h => by cases h), (fun _ => ⟨LW_t 611 (by decide +kernel) rfl, fun _ => LW_p 10 (by decide +kernel) rfl⟩)⟩
theorem gm_53 : GM (yX4_isWrong, cX4_isWrong, 2, some (.boolean), 1, 4, false, false) := ⟨LW_t 652 (by decide +kernel) rfl, LW_t 7 (by decide +kernel) rfl, ⟨Or.inr (by decide +kernel), by decide +kernel, by decide +kernel, by decide +kernel⟩, ⟨by decide +kernel, by decide⟩, (fun h => by cases h), (fun h => by cases h), (fun _ => ⟨LW_t 651 (by decide +kernel) rfl, fun _ => LW_p 11 (by decide +kernel) rfl⟩)⟩
theorem gm_54 : GM (yX4_unfold, cX4_unfold, 10, none, 4, 4, false, true) := ⟨LW_t 583 (by decide +kernel) rfl, LW_t 7 (by decide +kernel) rfl, ⟨Or.inr (by decide +kernel), by decide +kernel, by decide +kernel, by decide +kernel⟩, ⟨by decide +kernel, by decide⟩, (fun h => by cases h), (fun _ => LW_t 582 (by decide +kernel) rfl), (fun h => by cases h)⟩
theorem gm_55 : GM (yX4_evaluate, cX4_evaluate, 4, some (.int), 1, 4, false, false) := ⟨LW_t 587 (by decide +kernel) rfl, LW_t 7 (by decide +kernel) rfl, ⟨Or.inr (by decide +kernel), by decide +kernel, by decide +kernel, by decide +kernel⟩, ⟨by decide +kernel, by decide⟩, (fun h => by cases h), (fun h => by cases h), (fun _ => ⟨LW_t 586 (by decide +kernel) rfl, fun _ => LW_p 8 (by decide +kernel) rfl⟩)⟩
theorem gm_56 : GM (yX4_runAutomaton, cX4_runAutomaton, 4, none, 0, 4, false, false) := ⟨LW_t 601 (by decide +kernel) rfl, LW_t 7 (by decide +kernel) rfl, ⟨Or.inr (by decide +kernel), by decide +kernel, by decide +kernel, by decide +kernel⟩, ⟨by decide +kernel, by decide⟩, (fun h => by cases h), (fun h => by cases h), (fun _ => ⟨LW_t 600 (by decide +kernel) rfl, fun _ => LW_p 9 (by decide +kernel) rfl⟩)⟩
theorem gm_57 : GM (yX5_init, cX5_init, 2, none, 1, 5, true, false) := ⟨LW_t 129 (by decide +kernel) rfl, LW_t 8 (by decide +kernel) rfl, ⟨Or.inr (by decide +kernel), by decide +kernel, by decide +kernel, by decide +kernel⟩, ⟨by decide +kernel, by decide⟩, (fun _ => ⟨rfl, rfl⟩), (fun h => by cases h), (fun _ => ⟨LW_t 128 (by decide +kernel) rfl, (fun h => by cases h)⟩)⟩
theorem gm_58 : GM (yX5_upToDate, cX5_upToDate, 2, some (.object "RecursionSchemes$TypeCheck"), 0, 5, false, false) := ⟨LW_t 663 (by decide +kernel) rfl, LW_t 8 (by decide +kernel) rfl, ⟨Or.inr (by decide +kernel), by decide +kernel, by decide +kernel, by decide +kernel⟩, ⟨by decide +kernel, by decide⟩, (fun h => by cases h), (fun h => by cases h), (fun _ => ⟨LW_t 661 (by decide +kernel) rfl, fun _ => LW_t 662 (by decide +kernel) rfl⟩)⟩
theorem gm_59 : GM (yX5_acceptance, cX5_acceptance, 1, some (.int), 0, 5, false, false) := ⟨LW_t 713 (by decide +kernel) rfl, LW_t 8 (by decide +kernel) rfl, ⟨Or.inr (by decide +kernel), by decide +kernel, by decide +kernel, by decide +kernel⟩, ⟨by decide +kernel, by decide⟩, (fun h => by cases h), (fun h => by cases h), (fun _ => ⟨LW_t 711 (by decide +kernel) rfl, fun _ => LW_t 712 (by decide +kernel) rfl⟩)⟩
theorem gm_60 : GM (yX5_roundCount, cX5_roundCount, 1, some (.int), 0, 5, false, false) := ⟨LW_t 725 (by decide +kernel) rfl, LW_t 8 (by decide +kernel) rfl, ⟨Or.inr (by decide +kernel), by decide +kernel, by decide +kernel, by decide +kernel⟩, ⟨by decide +kernel, by decide⟩, (fun h => by cases h), (fun h => by cases h), (fun _ => ⟨LW_t 723 (by decide +kernel) rfl, fun _ => LW_t 724 (by decide +kernel) rfl⟩)⟩
theorem gm_61 : GM (yX5_holds, cX5_holds, 4, some (.boolean), 3, 5, false, false) := ⟨LW_t 717 (by decide +kernel) rfl, LW_t 8 (by decide +kernel) rfl, ⟨Or.inr (by decide +kernel), by decide +kernel, by decide +kernel, by decide +kernel⟩, ⟨by decide +kernel, by decide⟩, (fun h => by cases h), (fun h => by cases h), (fun _ => ⟨LW_t 715 (by decide +kernel) rfl, fun _ => LW_t 716 (by decide +kernel) rfl⟩)⟩
theorem gm_62 : GM (yX5_validCount, cX5_validCount, 4, some (.int), 1, 5, false, false) := ⟨LW_t 733 (by decide +kernel) rfl, LW_t 8 (by decide +kernel) rfl, ⟨Or.inr (by decide +kernel), by decide +kernel, by decide +kernel, by decide +kernel⟩, ⟨by decide +kernel, by decide⟩, (fun h => by cases h), (fun h => by cases h), (fun _ => ⟨LW_t 731 (by decide +kernel) rfl, fun _ => LW_t 732 (by decide +kernel) rfl⟩)⟩
theorem gm_63 : GM (yX5_commonSet, cX5_commonSet, 7, some (.int), 3, 5, false, false) := ⟨LW_t 757 (by decide +kernel) rfl, LW_t 8 (by decide +kernel) rfl, ⟨Or.inr (by decide +kernel), by decide +kernel, by decide +kernel, by decide +kernel⟩, ⟨by decide +kernel, by decide⟩, (fun h => by cases h), (fun h => by cases h), (fun _ => ⟨LW_t 755 (by decide +kernel) rfl, fun _ => LW_t 756 (by decide +kernel) rfl⟩)⟩
theorem gm_64 : GM (yX5_settingsOf, cX5_settingsOf, 1, some (.int), 1, 5, false, true) := ⟨LW_t 691 (by decide +kernel) rfl, LW_t 8 (by decide +kernel) rfl, ⟨Or.inr (by decide +kernel), by decide +kernel, by decide +kernel, by decide +kernel⟩, ⟨by decide +kernel, by decide⟩, (fun h => by cases h), (fun _ => LW_t 690 (by decide +kernel) rfl), (fun h => by cases h)⟩
theorem gm_65 : GM (yX5_start, cX5_start, 3, none, 0, 5, false, false) := ⟨LW_t 668 (by decide +kernel) rfl, LW_t 8 (by decide +kernel) rfl, ⟨Or.inr (by decide +kernel), by decide +kernel, by decide +kernel, by decide +kernel⟩, ⟨by decide +kernel, by decide⟩, (fun h => by cases h), (fun h => by cases h), (fun _ => ⟨LW_t 667 (by decide +kernel) rfl, fun _ => LW_p 12 (by decide +kernel) rfl⟩)⟩
theorem gm_66 : GM (yX5_terminalTypes, cX5_terminalTypes, 6, some (.int), 2, 5, false, false) := ⟨LW_t 672 (by decide +kernel) rfl, LW_t 8 (by decide +kernel) rfl, ⟨Or.inr (by decide +kernel), by decide +kernel, by decide +kernel, by decide +kernel⟩, ⟨by decide +kernel, by decide⟩, (fun h => by cases h), (fun h => by cases h), (fun _ => ⟨LW_t 671 (by decide +kernel) rfl, fun _ => LW_p 13 (by decide +kernel) rfl⟩)⟩
theorem gm_67 : GM (yX5_removeUnjustified, cX5_removeUnjustified, 6, some (.boolean), 0, 5, false, false) := ⟨LW_t 688 (by decide +kernel) rfl, LW_t 8 (by decide +kernel) rfl, ⟨Or.inr (by decide +kernel), by decide +kernel, by decide +kernel, by decide +kernel⟩, ⟨by decide +kernel, by decide⟩, (fun h => by cases h), (fun h => by cases h), (fun _ => ⟨LW_t 687 (by decide +kernel) rfl, fun _ => LW_p 14 (by decide +kernel) rfl⟩)⟩
theorem gm_68 : GM (yX5_bodyTypes, cX5_bodyTypes, 9, some (.int), 2, 5, false, false) := ⟨LW_t 699 (by decide +kernel) rfl, LW_t 8 (by decide +kernel) rfl, ⟨Or.inr (by decide +kernel), by decide +kernel, by decide +kernel, by decide +kernel⟩, ⟨by decide +kernel, by decide⟩, (fun h => by cases h), (fun h => by cases h), (fun _ => ⟨LW_t 698 (by decide +kernel) rfl, fun _ => LW_p 15 (by decide +kernel) rfl⟩)⟩
theorem gm_69 : GM (yX5_symbolTypes, cX5_symbolTypes, 4, some (.int), 3, 5, false, false) := ⟨LW_t 708 (by decide +kernel) rfl, LW_t 8 (by decide +kernel) rfl, ⟨Or.inr (by decide +kernel), by decide +kernel, by decide +kernel, by decide +kernel⟩, ⟨by decide +kernel, by decide⟩, (fun h => by cases h), (fun h => by cases h), (fun _ => ⟨LW_t 707 (by decide +kernel) rfl, fun _ => LW_p 16 (by decide +kernel) rfl⟩)⟩
theorem gm_70 : GM (yX6_init, cX6_init, 2, none, 0, 6, true, false) := ⟨LW_t 22 (by decide +kernel) rfl, LW_t 1 (by decide +kernel) rfl, ⟨Or.inr (by decide +kernel), by decide +kernel, by decide +kernel, by decide +kernel⟩, ⟨by decide +kernel, by decide⟩, (fun _ => ⟨rfl, rfl⟩), (fun h => by cases h), (fun _ => ⟨LW_t 21 (by decide +kernel) rfl, (fun h => by cases h)⟩)⟩
theorem gm_71 : GM (yX6_append, cX6_append, 2, some (.int), 1, 6, false, false) := ⟨LW_t 211 (by decide +kernel) rfl, LW_t 1 (by decide +kernel) rfl, ⟨Or.inr (by decide +kernel), by decide +kernel, by decide +kernel, by decide +kernel⟩, ⟨by decide +kernel, by decide⟩, (fun h => by cases h), (fun h => by cases h), (fun _ => ⟨LW_t 209 (by decide +kernel) rfl, fun _ => LW_t 210 (by decide +kernel) rfl⟩)⟩
theorem gm_72 : GM (yX6_clearText, cX6_clearText, 2, some (.int), 0, 6, false, false) := ⟨LW_t 223 (by decide +kernel) rfl, LW_t 1 (by decide +kernel) rfl, ⟨Or.inr (by decide +kernel), by decide +kernel, by decide +kernel, by decide +kernel⟩, ⟨by decide +kernel, by decide⟩, (fun h => by cases h), (fun h => by cases h), (fun _ => ⟨LW_t 221 (by decide +kernel) rfl, fun _ => LW_t 222 (by decide +kernel) rfl⟩)⟩
theorem gm_73 : GM (yX6_errorPosition, cX6_errorPosition, 1, some (.int), 0, 6, false, false) := ⟨LW_t 231 (by decide +kernel) rfl, LW_t 1 (by decide +kernel) rfl, ⟨Or.inr (by decide +kernel), by decide +kernel, by decide +kernel, by decide +kernel⟩, ⟨by decide +kernel, by decide⟩, (fun h => by cases h), (fun h => by cases h), (fun _ => ⟨LW_t 229 (by decide +kernel) rfl, fun _ => LW_t 230 (by decide +kernel) rfl⟩)⟩
theorem gm_74 : GM (yX6_load, cX6_load, 2, some (.int), 0, 6, false, false) := ⟨LW_t 395 (by decide +kernel) rfl, LW_t 1 (by decide +kernel) rfl, ⟨Or.inr (by decide +kernel), by decide +kernel, by decide +kernel, by decide +kernel⟩, ⟨by decide +kernel, by decide⟩, (fun h => by cases h), (fun h => by cases h), (fun _ => ⟨LW_t 393 (by decide +kernel) rfl, fun _ => LW_t 394 (by decide +kernel) rfl⟩)⟩
theorem gm_75 : GM (yX6_bodyLength, cX6_bodyLength, 2, some (.int), 1, 6, false, false) := ⟨LW_t 412 (by decide +kernel) rfl, LW_t 1 (by decide +kernel) rfl, ⟨Or.inr (by decide +kernel), by decide +kernel, by decide +kernel, by decide +kernel⟩, ⟨by decide +kernel, by decide⟩, (fun h => by cases h), (fun h => by cases h), (fun _ => ⟨LW_t 410 (by decide +kernel) rfl, fun _ => LW_t 411 (by decide +kernel) rfl⟩)⟩
theorem gm_76 : GM (yX6_bodySymbol, cX6_bodySymbol, 3, some (.int), 2, 6, false, false) := ⟨LW_t 425 (by decide +kernel) rfl, LW_t 1 (by decide +kernel) rfl, ⟨Or.inr (by decide +kernel), by decide +kernel, by decide +kernel, by decide +kernel⟩, ⟨by decide +kernel, by decide⟩, (fun h => by cases h), (fun h => by cases h), (fun _ => ⟨LW_t 423 (by decide +kernel) rfl, fun _ => LW_t 424 (by decide +kernel) rfl⟩)⟩
theorem gm_77 : GM (yX6_transition, cX6_transition, 4, some (.int), 3, 6, false, false) := ⟨LW_t 463 (by decide +kernel) rfl, LW_t 1 (by decide +kernel) rfl, ⟨Or.inr (by decide +kernel), by decide +kernel, by decide +kernel, by decide +kernel⟩, ⟨by decide +kernel, by decide⟩, (fun h => by cases h), (fun h => by cases h), (fun _ => ⟨LW_t 461 (by decide +kernel) rfl, fun _ => LW_t 462 (by decide +kernel) rfl⟩)⟩
theorem gm_78 : GM (yX6_hasTransition, cX6_hasTransition, 3, some (.int), 2, 6, false, false) := ⟨LW_t 477 (by decide +kernel) rfl, LW_t 1 (by decide +kernel) rfl, ⟨Or.inr (by decide +kernel), by decide +kernel, by decide +kernel, by decide +kernel⟩, ⟨by decide +kernel, by decide⟩, (fun h => by cases h), (fun h => by cases h), (fun _ => ⟨LW_t 475 (by decide +kernel) rfl, fun _ => LW_t 476 (by decide +kernel) rfl⟩)⟩
theorem gm_79 : GM (yX6_reachable, cX6_reachable, 4, some (.int), 0, 6, false, false) := ⟨LW_t 481 (by decide +kernel) rfl, LW_t 1 (by decide +kernel) rfl, ⟨Or.inr (by decide +kernel), by decide +kernel, by decide +kernel, by decide +kernel⟩, ⟨by decide +kernel, by decide⟩, (fun h => by cases h), (fun h => by cases h), (fun _ => ⟨LW_t 479 (by decide +kernel) rfl, fun _ => LW_t 480 (by decide +kernel) rfl⟩)⟩
theorem gm_80 : GM (yX6_setBody, cX6_setBody, 2, some (.int), 1, 6, false, false) := ⟨LW_t 490 (by decide +kernel) rfl, LW_t 1 (by decide +kernel) rfl, ⟨Or.inr (by decide +kernel), by decide +kernel, by decide +kernel, by decide +kernel⟩, ⟨by decide +kernel, by decide⟩, (fun h => by cases h), (fun h => by cases h), (fun _ => ⟨LW_t 488 (by decide +kernel) rfl, fun _ => LW_t 489 (by decide +kernel) rfl⟩)⟩
theorem gm_81 : GM (yX6_setTransition, cX6_setTransition, 6, some (.int), 4, 6, false, false) := ⟨LW_t 505 (by decide +kernel) rfl, LW_t 1 (by decide +kernel) rfl, ⟨Or.inr (by decide +kernel), by decide +kernel, by decide +kernel, by decide +kernel⟩, ⟨by decide +kernel, by decide⟩, (fun h => by cases h), (fun h => by cases h), (fun _ => ⟨LW_t 503 (by decide +kernel) rfl, fun _ => LW_t 504 (by decide +kernel) rfl⟩)⟩
theorem gm_82 : GM (yX6_removeTransition, cX6_removeTransition, 3, some (.int), 2, 6, false, false) := ⟨LW_t 514 (by decide +kernel) rfl, LW_t 1 (by decide +kernel) rfl, ⟨Or.inr (by decide +kernel), by decide +kernel, by decide +kernel, by decide +kernel⟩, ⟨by decide +kernel, by decide⟩, (fun h => by cases h), (fun h => by cases h), (fun _ => ⟨LW_t 512 (by decide +kernel) rfl, fun _ => LW_t 513 (by decide +kernel) rfl⟩)⟩
theorem gm_83 : GM (yX6_inline, cX6_inline, 4, some (.int), 2, 6, false, false) := ⟨LW_t 523 (by decide +kernel) rfl, LW_t 1 (by decide +kernel) rfl, ⟨Or.inr (by decide +kernel), by decide +kernel, by decide +kernel, by decide +kernel⟩, ⟨by decide +kernel, by decide⟩, (fun h => by cases h), (fun h => by cases h), (fun _ => ⟨LW_t 521 (by decide +kernel) rfl, fun _ => LW_t 522 (by decide +kernel) rfl⟩)⟩
theorem gm_84 : GM (yX6_exchange, cX6_exchange, 1, some (.int), 0, 6, false, false) := ⟨LW_t 537 (by decide +kernel) rfl, LW_t 1 (by decide +kernel) rfl, ⟨Or.inr (by decide +kernel), by decide +kernel, by decide +kernel, by decide +kernel⟩, ⟨by decide +kernel, by decide⟩, (fun h => by cases h), (fun h => by cases h), (fun _ => ⟨LW_t 535 (by decide +kernel) rfl, fun _ => LW_t 536 (by decide +kernel) rfl⟩)⟩
theorem gm_85 : GM (yX6_undo, cX6_undo, 1, some (.int), 0, 6, false, false) := ⟨LW_t 549 (by decide +kernel) rfl, LW_t 1 (by decide +kernel) rfl, ⟨Or.inr (by decide +kernel), by decide +kernel, by decide +kernel, by decide +kernel⟩, ⟨by decide +kernel, by decide⟩, (fun h => by cases h), (fun h => by cases h), (fun _ => ⟨LW_t 547 (by decide +kernel) rfl, fun _ => LW_t 548 (by decide +kernel) rfl⟩)⟩
theorem gm_86 : GM (yX6_labelAt, cX6_labelAt, 3, some (.int), 1, 6, false, false) := ⟨LW_t 561 (by decide +kernel) rfl, LW_t 1 (by decide +kernel) rfl, ⟨Or.inr (by decide +kernel), by decide +kernel, by decide +kernel, by decide +kernel⟩, ⟨by decide +kernel, by decide⟩, (fun h => by cases h), (fun h => by cases h), (fun _ => ⟨LW_t 559 (by decide +kernel) rfl, fun _ => LW_t 560 (by decide +kernel) rfl⟩)⟩
theorem gm_87 : GM (yX6_expansionsAt, cX6_expansionsAt, 3, some (.int), 1, 6, false, false) := ⟨LW_t 617 (by decide +kernel) rfl, LW_t 1 (by decide +kernel) rfl, ⟨Or.inr (by decide +kernel), by decide +kernel, by decide +kernel, by decide +kernel⟩, ⟨by decide +kernel, by decide⟩, (fun h => by cases h), (fun h => by cases h), (fun _ => ⟨LW_t 615 (by decide +kernel) rfl, fun _ => LW_t 616 (by decide +kernel) rfl⟩)⟩
theorem gm_88 : GM (yX6_stateAt, cX6_stateAt, 3, some (.int), 1, 6, false, false) := ⟨LW_t 625 (by decide +kernel) rfl, LW_t 1 (by decide +kernel) rfl, ⟨Or.inr (by decide +kernel), by decide +kernel, by decide +kernel, by decide +kernel⟩, ⟨by decide +kernel, by decide⟩, (fun h => by cases h), (fun h => by cases h), (fun _ => ⟨LW_t 623 (by decide +kernel) rfl, fun _ => LW_t 624 (by decide +kernel) rfl⟩)⟩
theorem gm_89 : GM (yX6_nodesAtDepth, cX6_nodesAtDepth, 2, some (.int), 1, 6, false, false) := ⟨LW_t 633 (by decide +kernel) rfl, LW_t 1 (by decide +kernel) rfl, ⟨Or.inr (by decide +kernel), by decide +kernel, by decide +kernel, by decide +kernel⟩, ⟨by decide +kernel, by decide⟩, (fun h => by cases h), (fun h => by cases h), (fun _ => ⟨LW_t 631 (by decide +kernel) rfl, fun _ => LW_t 632 (by decide +kernel) rfl⟩)⟩
theorem gm_90 : GM (yX6_wrongBranch, cX6_wrongBranch, 3, some (.int), 1, 6, false, false) := ⟨LW_t 644 (by decide +kernel) rfl, LW_t 1 (by decide +kernel) rfl, ⟨Or.inr (by decide +kernel), by decide +kernel, by decide +kernel, by decide +kernel⟩, ⟨by decide +kernel, by decide⟩, (fun h => by cases h), (fun h => by cases h), (fun _ => ⟨LW_t 642 (by decide +kernel) rfl, fun _ => LW_t 643 (by decide +kernel) rfl⟩)⟩
theorem gm_91 : GM (yX6_accepts, cX6_accepts, 1, some (.int), 0, 6, false, false) := ⟨LW_t 659 (by decide +kernel) rfl, LW_t 1 (by decide +kernel) rfl, ⟨Or.inr (by decide +kernel), by decide +kernel, by decide +kernel, by decide +kernel⟩, ⟨by decide +kernel, by decide⟩, (fun h => by cases h), (fun h => by cases h), (fun _ => ⟨LW_t 657 (by decide +kernel) rfl, fun _ => LW_t 658 (by decide +kernel) rfl⟩)⟩
theorem gm_92 : GM (yX6_rounds, cX6_rounds, 1, some (.int), 0, 6, false, false) := ⟨LW_t 721 (by decide +kernel) rfl, LW_t 1 (by decide +kernel) rfl, ⟨Or.inr (by decide +kernel), by decide +kernel, by decide +kernel, by decide +kernel⟩, ⟨by decide +kernel, by decide⟩, (fun h => by cases h), (fun h => by cases h), (fun _ => ⟨LW_t 719 (by decide +kernel) rfl, fun _ => LW_t 720 (by decide +kernel) rfl⟩)⟩
theorem gm_93 : GM (yX6_typingCount, cX6_typingCount, 2, some (.int), 1, 6, false, false) := ⟨LW_t 729 (by decide +kernel) rfl, LW_t 1 (by decide +kernel) rfl, ⟨Or.inr (by decide +kernel), by decide +kernel, by decide +kernel, by decide +kernel⟩, ⟨by decide +kernel, by decide⟩, (fun h => by cases h), (fun h => by cases h), (fun _ => ⟨LW_t 727 (by decide +kernel) rfl, fun _ => LW_t 728 (by decide +kernel) rfl⟩)⟩
theorem gm_94 : GM (yX6_isValid, cX6_isValid, 5, some (.int), 4, 6, false, false) := ⟨LW_t 743 (by decide +kernel) rfl, LW_t 1 (by decide +kernel) rfl, ⟨Or.inr (by decide +kernel), by decide +kernel, by decide +kernel, by decide +kernel⟩, ⟨by decide +kernel, by decide⟩, (fun h => by cases h), (fun h => by cases h), (fun _ => ⟨LW_t 741 (by decide +kernel) rfl, fun _ => LW_t 742 (by decide +kernel) rfl⟩)⟩
theorem gm_95 : GM (yX6_demand, cX6_demand, 4, some (.int), 3, 6, false, false) := ⟨LW_t 753 (by decide +kernel) rfl, LW_t 1 (by decide +kernel) rfl, ⟨Or.inr (by decide +kernel), by decide +kernel, by decide +kernel, by decide +kernel⟩, ⟨by decide +kernel, by decide⟩, (fun h => by cases h), (fun h => by cases h), (fun _ => ⟨LW_t 751 (by decide +kernel) rfl, fun _ => LW_t 752 (by decide +kernel) rfl⟩)⟩
theorem gm_96 : GM (yX6_runScript, cX6_runScript, 6, some (.int), 2, 6, false, false) := ⟨LW_t 761 (by decide +kernel) rfl, LW_t 1 (by decide +kernel) rfl, ⟨Or.inr (by decide +kernel), by decide +kernel, by decide +kernel, by decide +kernel⟩, ⟨by decide +kernel, by decide⟩, (fun h => by cases h), (fun h => by cases h), (fun _ => ⟨LW_t 759 (by decide +kernel) rfl, fun _ => LW_t 760 (by decide +kernel) rfl⟩)⟩
theorem gm_97 : GM (yX6_descend, cX6_descend, 11, some (.int), 2, 6, false, false) := ⟨LW_t 781 (by decide +kernel) rfl, LW_t 1 (by decide +kernel) rfl, ⟨Or.inr (by decide +kernel), by decide +kernel, by decide +kernel, by decide +kernel⟩, ⟨by decide +kernel, by decide⟩, (fun h => by cases h), (fun h => by cases h), (fun _ => ⟨LW_t 779 (by decide +kernel) rfl, fun _ => LW_t 780 (by decide +kernel) rfl⟩)⟩
theorem gm_98 : GM (yX6_save, cX6_save, 2, some (.int), 1, 6, false, false) := ⟨LW_t 791 (by decide +kernel) rfl, LW_t 1 (by decide +kernel) rfl, ⟨Or.inr (by decide +kernel), by decide +kernel, by decide +kernel, by decide +kernel⟩, ⟨by decide +kernel, by decide⟩, (fun h => by cases h), (fun h => by cases h), (fun _ => ⟨LW_t 789 (by decide +kernel) rfl, fun _ => LW_t 790 (by decide +kernel) rfl⟩)⟩
theorem gm_99 : GM (yX6_restore, cX6_restore, 2, some (.int), 1, 6, false, false) := ⟨LW_t 795 (by decide +kernel) rfl, LW_t 1 (by decide +kernel) rfl, ⟨Or.inr (by decide +kernel), by decide +kernel, by decide +kernel, by decide +kernel⟩, ⟨by decide +kernel, by decide⟩, (fun h => by cases h), (fun h => by cases h), (fun _ => ⟨LW_t 793 (by decide +kernel) rfl, fun _ => LW_t 794 (by decide +kernel) rfl⟩)⟩
theorem gm_100 : GM (yX6_withoutLastGroups, cX6_withoutLastGroups, 6, some (.long), 2, 6, false, true) := ⟨LW_t 764 (by decide +kernel) rfl, LW_t 1 (by decide +kernel) rfl, ⟨Or.inr (by decide +kernel), by decide +kernel, by decide +kernel, by decide +kernel⟩, ⟨by decide +kernel, by decide⟩, (fun h => by cases h), (fun _ => LW_t 763 (by decide +kernel) rfl), (fun h => by cases h)⟩
theorem gm_101 : GM (yX6_commandSucceeds, cX6_commandSucceeds, 6, some (.boolean), 1, 6, false, false) := ⟨LW_t 769 (by decide +kernel) rfl, LW_t 1 (by decide +kernel) rfl, ⟨Or.inr (by decide +kernel), by decide +kernel, by decide +kernel, by decide +kernel⟩, ⟨by decide +kernel, by decide⟩, (fun h => by cases h), (fun h => by cases h), (fun _ => ⟨LW_t 768 (by decide +kernel) rfl, fun _ => LW_p 17 (by decide +kernel) rfl⟩)⟩
theorem gm_102 : GM (yX6_removeFromCopy, cX6_removeFromCopy, 3, some (.boolean), 2, 6, false, false) := ⟨LW_t 773 (by decide +kernel) rfl, LW_t 1 (by decide +kernel) rfl, ⟨Or.inr (by decide +kernel), by decide +kernel, by decide +kernel, by decide +kernel⟩, ⟨by decide +kernel, by decide⟩, (fun h => by cases h), (fun h => by cases h), (fun _ => ⟨LW_t 772 (by decide +kernel) rfl, fun _ => LW_p 18 (by decide +kernel) rfl⟩)⟩
theorem gm_103 : GM (yX6_setBInCopy, cX6_setBInCopy, 3, some (.boolean), 2, 6, false, false) := ⟨LW_t 777 (by decide +kernel) rfl, LW_t 1 (by decide +kernel) rfl, ⟨Or.inr (by decide +kernel), by decide +kernel, by decide +kernel, by decide +kernel⟩, ⟨by decide +kernel, by decide⟩, (fun h => by cases h), (fun h => by cases h), (fun _ => ⟨LW_t 776 (by decide +kernel) rfl, fun _ => LW_p 19 (by decide +kernel) rfl⟩)⟩
theorem gm_104 : GM (yX6_isNonterminal, cX6_isNonterminal, 1, some (.boolean), 1, 6, false, true) := ⟨LW_t 336 (by decide +kernel) rfl, LW_t 1 (by decide +kernel) rfl, ⟨Or.inr (by decide +kernel), by decide +kernel, by decide +kernel, by decide +kernel⟩, ⟨by decide +kernel, by decide⟩, (fun h => by cases h), (fun _ => LW_t 335 (by decide +kernel) rfl), (fun h => by cases h)⟩
theorem gm_105 : GM (yX6_isTerminal, cX6_isTerminal, 1, some (.boolean), 1, 6, false, true) := ⟨LW_t 387 (by decide +kernel) rfl, LW_t 1 (by decide +kernel) rfl, ⟨Or.inr (by decide +kernel), by decide +kernel, by decide +kernel, by decide +kernel⟩, ⟨by decide +kernel, by decide⟩, (fun h => by cases h), (fun _ => LW_t 386 (by decide +kernel) rfl), (fun h => by cases h)⟩
theorem gm_106 : GM (yX6_isState, cX6_isState, 1, some (.boolean), 1, 6, false, true) := ⟨LW_t 380 (by decide +kernel) rfl, LW_t 1 (by decide +kernel) rfl, ⟨Or.inr (by decide +kernel), by decide +kernel, by decide +kernel, by decide +kernel⟩, ⟨by decide +kernel, by decide⟩, (fun h => by cases h), (fun _ => LW_t 379 (by decide +kernel) rfl), (fun h => by cases h)⟩
theorem gm_107 : GM (yX6_isDepth, cX6_isDepth, 1, some (.boolean), 1, 6, false, true) := ⟨LW_t 636 (by decide +kernel) rfl, LW_t 1 (by decide +kernel) rfl, ⟨Or.inr (by decide +kernel), by decide +kernel, by decide +kernel, by decide +kernel⟩, ⟨by decide +kernel, by decide⟩, (fun h => by cases h), (fun _ => LW_t 635 (by decide +kernel) rfl), (fun h => by cases h)⟩
theorem gm_108 : GM (yX6_suitsChild, cX6_suitsChild, 3, some (.boolean), 3, 6, false, true) := ⟨LW_t 508 (by decide +kernel) rfl, LW_t 1 (by decide +kernel) rfl, ⟨Or.inr (by decide +kernel), by decide +kernel, by decide +kernel, by decide +kernel⟩, ⟨by decide +kernel, by decide⟩, (fun h => by cases h), (fun _ => LW_t 507 (by decide +kernel) rfl), (fun h => by cases h)⟩
theorem gm_109 : GM (yX6_suitsParameter, cX6_suitsParameter, 3, some (.boolean), 3, 6, false, true) := ⟨LW_t 746 (by decide +kernel) rfl, LW_t 1 (by decide +kernel) rfl, ⟨Or.inr (by decide +kernel), by decide +kernel, by decide +kernel, by decide +kernel⟩, ⟨by decide +kernel, by decide⟩, (fun h => by cases h), (fun _ => LW_t 745 (by decide +kernel) rfl), (fun h => by cases h)⟩
theorem gm_110 : GM (yX6_arityOf, cX6_arityOf, 1, some (.int), 1, 6, false, true) := ⟨LW_t 355 (by decide +kernel) rfl, LW_t 1 (by decide +kernel) rfl, ⟨Or.inr (by decide +kernel), by decide +kernel, by decide +kernel, by decide +kernel⟩, ⟨by decide +kernel, by decide⟩, (fun h => by cases h), (fun _ => LW_t 354 (by decide +kernel) rfl), (fun h => by cases h)⟩
theorem gm_111 : GM (yX6_arityOfNonterminal, cX6_arityOfNonterminal, 1, some (.int), 1, 6, false, true) := ⟨LW_t 694 (by decide +kernel) rfl, LW_t 1 (by decide +kernel) rfl, ⟨Or.inr (by decide +kernel), by decide +kernel, by decide +kernel, by decide +kernel⟩, ⟨by decide +kernel, by decide⟩, (fun h => by cases h), (fun _ => LW_t 693 (by decide +kernel) rfl), (fun h => by cases h)⟩
theorem gm_112 : GM (yX6_codeOf, cX6_codeOf, 1, some (.int), 1, 6, false, true) := ⟨LW_t 437 (by decide +kernel) rfl, LW_t 1 (by decide +kernel) rfl, ⟨Or.inr (by decide +kernel), by decide +kernel, by decide +kernel, by decide +kernel⟩, ⟨by decide +kernel, by decide⟩, (fun h => by cases h), (fun _ => LW_t 436 (by decide +kernel) rfl), (fun h => by cases h)⟩
theorem gm_113 : GM (yX6_setsOf, cX6_setsOf, 2, some (.int), 2, 6, false, true) := ⟨LW_t 704 (by decide +kernel) rfl, LW_t 1 (by decide +kernel) rfl, ⟨Or.inr (by decide +kernel), by decide +kernel, by decide +kernel, by decide +kernel⟩, ⟨by decide +kernel, by decide⟩, (fun h => by cases h), (fun _ => LW_t 703 (by decide +kernel) rfl), (fun h => by cases h)⟩
theorem gm_114 : GM (yX6_firstOf, cX6_firstOf, 1, some (.int), 1, 6, false, true) := ⟨LW_t 677 (by decide +kernel) rfl, LW_t 1 (by decide +kernel) rfl, ⟨Or.inr (by decide +kernel), by decide +kernel, by decide +kernel, by decide +kernel⟩, ⟨by decide +kernel, by decide⟩, (fun h => by cases h), (fun _ => LW_t 676 (by decide +kernel) rfl), (fun h => by cases h)⟩
theorem gm_115 : GM (yX6_secondOf, cX6_secondOf, 1, some (.int), 1, 6, false, true) := ⟨LW_t 681 (by decide +kernel) rfl, LW_t 1 (by decide +kernel) rfl, ⟨Or.inr (by decide +kernel), by decide +kernel, by decide +kernel, by decide +kernel⟩, ⟨by decide +kernel, by decide⟩, (fun h => by cases h), (fun _ => LW_t 680 (by decide +kernel) rfl), (fun h => by cases h)⟩
theorem gm_116 : GM (yX6_childOf, cX6_childOf, 2, some (.int), 2, 6, false, true) := ⟨LW_t 569 (by decide +kernel) rfl, LW_t 1 (by decide +kernel) rfl, ⟨Or.inr (by decide +kernel), by decide +kernel, by decide +kernel, by decide +kernel⟩, ⟨by decide +kernel, by decide⟩, (fun h => by cases h), (fun _ => LW_t 568 (by decide +kernel) rfl), (fun h => by cases h)⟩
theorem gm_117 : GM (yX6_nodeOf, cX6_nodeOf, 4, some (.int), 1, 6, false, true) := ⟨LW_t 564 (by decide +kernel) rfl, LW_t 1 (by decide +kernel) rfl, ⟨Or.inr (by decide +kernel), by decide +kernel, by decide +kernel, by decide +kernel⟩, ⟨by decide +kernel, by decide⟩, (fun h => by cases h), (fun _ => LW_t 563 (by decide +kernel) rfl), (fun h => by cases h)⟩
theorem gm_118 : GM (yX6_pathOf, cX6_pathOf, 4, some (.int), 1, 6, false, true) := ⟨LW_t 655 (by decide +kernel) rfl, LW_t 1 (by decide +kernel) rfl, ⟨Or.inr (by decide +kernel), by decide +kernel, by decide +kernel, by decide +kernel⟩, ⟨by decide +kernel, by decide⟩, (fun h => by cases h), (fun _ => LW_t 654 (by decide +kernel) rfl), (fun h => by cases h)⟩
theorem gm_119 : GM (yX7_init, cX7_init, 1, none, 0, 7, true, false) := ⟨LW_t 800 (by decide +kernel) rfl, LW_t 10 (by decide +kernel) rfl, ⟨Or.inr (by decide +kernel), by decide +kernel, by decide +kernel, by decide +kernel⟩, ⟨by decide +kernel, by decide⟩, (fun _ => ⟨rfl, rfl⟩), (fun h => by cases h), (fun _ => ⟨LW_t 799 (by decide +kernel) rfl, (fun h => by cases h)⟩)⟩
theorem gm_120 : GM (yX7_clear, cX7_clear, 2, none, 1, 7, false, true) := ⟨LW_t 804 (by decide +kernel) rfl, LW_t 10 (by decide +kernel) rfl, ⟨Or.inr (by decide +kernel), by decide +kernel, by decide +kernel, by decide +kernel⟩, ⟨by decide +kernel, by decide⟩, (fun h => by cases h), (fun _ => LW_t 803 (by decide +kernel) rfl), (fun h => by cases h)⟩
theorem gm_121 : GM (yX7_copy, cX7_copy, 3, none, 2, 7, false, true) := ⟨LW_t 929 (by decide +kernel) rfl, LW_t 10 (by decide +kernel) rfl, ⟨Or.inr (by decide +kernel), by decide +kernel, by decide +kernel, by decide +kernel⟩, ⟨by decide +kernel, by decide⟩, (fun h => by cases h), (fun _ => LW_t 928 (by decide +kernel) rfl), (fun h => by cases h)⟩
theorem gm_122 : GM (yX7_in, cX7_in, 6, some (.boolean), 3, 7, false, true) := ⟨LW_t 873 (by decide +kernel) rfl, LW_t 10 (by decide +kernel) rfl, ⟨Or.inr (by decide +kernel), by decide +kernel, by decide +kernel, by decide +kernel⟩, ⟨by decide +kernel, by decide⟩, (fun h => by cases h), (fun _ => LW_t 872 (by decide +kernel) rfl), (fun h => by cases h)⟩
theorem gm_123 : GM (yX7_nonterminal, cX7_nonterminal, 1, some (.int), 1, 7, false, true) := ⟨LW_t 892 (by decide +kernel) rfl, LW_t 10 (by decide +kernel) rfl, ⟨Or.inr (by decide +kernel), by decide +kernel, by decide +kernel, by decide +kernel⟩, ⟨by decide +kernel, by decide⟩, (fun h => by cases h), (fun _ => LW_t 891 (by decide +kernel) rfl), (fun h => by cases h)⟩
theorem gm_124 : GM (yX7_terminal, cX7_terminal, 1, some (.int), 1, 7, false, true) := ⟨LW_t 907 (by decide +kernel) rfl, LW_t 10 (by decide +kernel) rfl, ⟨Or.inr (by decide +kernel), by decide +kernel, by decide +kernel, by decide +kernel⟩, ⟨by decide +kernel, by decide⟩, (fun h => by cases h), (fun _ => LW_t 906 (by decide +kernel) rfl), (fun h => by cases h)⟩
theorem gm_125 : GM (yX7_places, cX7_places, 1, some (.int), 1, 7, false, true) := ⟨LW_t 912 (by decide +kernel) rfl, LW_t 10 (by decide +kernel) rfl, ⟨Or.inr (by decide +kernel), by decide +kernel, by decide +kernel, by decide +kernel⟩, ⟨by decide +kernel, by decide⟩, (fun h => by cases h), (fun _ => LW_t 911 (by decide +kernel) rfl), (fun h => by cases h)⟩
theorem gm_126 : GM (yX7_parameters, cX7_parameters, 1, some (.int), 1, 7, false, true) := ⟨LW_t 915 (by decide +kernel) rfl, LW_t 10 (by decide +kernel) rfl, ⟨Or.inr (by decide +kernel), by decide +kernel, by decide +kernel, by decide +kernel⟩, ⟨by decide +kernel, by decide⟩, (fun h => by cases h), (fun _ => LW_t 914 (by decide +kernel) rfl), (fun h => by cases h)⟩
theorem gm_127 : GM (yX7_wants, cX7_wants, 1, some (.int), 1, 7, false, true) := ⟨LW_t 904 (by decide +kernel) rfl, LW_t 10 (by decide +kernel) rfl, ⟨Or.inr (by decide +kernel), by decide +kernel, by decide +kernel, by decide +kernel⟩, ⟨by decide +kernel, by decide⟩, (fun h => by cases h), (fun _ => LW_t 903 (by decide +kernel) rfl), (fun h => by cases h)⟩
theorem gm_128 : GM (yX7_isAllowed, cX7_isAllowed, 3, some (.boolean), 2, 7, false, true) := ⟨LW_t 901 (by decide +kernel) rfl, LW_t 10 (by decide +kernel) rfl, ⟨Or.inr (by decide +kernel), by decide +kernel, by decide +kernel, by decide +kernel⟩, ⟨by decide +kernel, by decide⟩, (fun h => by cases h), (fun _ => LW_t 900 (by decide +kernel) rfl), (fun h => by cases h)⟩
theorem gm_129 : GM (yX7_endOf, cX7_endOf, 4, some (.int), 2, 7, false, true) := ⟨LW_t 1000 (by decide +kernel) rfl, LW_t 10 (by decide +kernel) rfl, ⟨Or.inr (by decide +kernel), by decide +kernel, by decide +kernel, by decide +kernel⟩, ⟨by decide +kernel, by decide⟩, (fun h => by cases h), (fun _ => LW_t 999 (by decide +kernel) rfl), (fun h => by cases h)⟩
theorem gm_130 : GM (yX7_append, cX7_append, 2, some (.int), 1, 7, false, false) := ⟨LW_t 869 (by decide +kernel) rfl, LW_t 10 (by decide +kernel) rfl, ⟨Or.inr (by decide +kernel), by decide +kernel, by decide +kernel, by decide +kernel⟩, ⟨by decide +kernel, by decide⟩, (fun h => by cases h), (fun h => by cases h), (fun _ => ⟨LW_t 867 (by decide +kernel) rfl, fun _ => LW_t 868 (by decide +kernel) rfl⟩)⟩
theorem gm_131 : GM (yX7_clearText, cX7_clearText, 2, some (.int), 0, 7, false, false) := ⟨LW_t 877 (by decide +kernel) rfl, LW_t 10 (by decide +kernel) rfl, ⟨Or.inr (by decide +kernel), by decide +kernel, by decide +kernel, by decide +kernel⟩, ⟨by decide +kernel, by decide⟩, (fun h => by cases h), (fun h => by cases h), (fun _ => ⟨LW_t 875 (by decide +kernel) rfl, fun _ => LW_t 876 (by decide +kernel) rfl⟩)⟩
theorem gm_132 : GM (yX7_readBody, cX7_readBody, 5, some (.int), 2, 7, false, false) := ⟨LW_t 898 (by decide +kernel) rfl, LW_t 10 (by decide +kernel) rfl, ⟨Or.inr (by decide +kernel), by decide +kernel, by decide +kernel, by decide +kernel⟩, ⟨by decide +kernel, by decide⟩, (fun h => by cases h), (fun h => by cases h), (fun _ => ⟨LW_t 897 (by decide +kernel) rfl, fun _ => LW_p 22 (by decide +kernel) rfl⟩)⟩
theorem gm_133 : GM (yX7_readStep, cX7_readStep, 8, some (.int), 1, 7, false, false) := ⟨LW_t 921 (by decide +kernel) rfl, LW_t 10 (by decide +kernel) rfl, ⟨Or.inr (by decide +kernel), by decide +kernel, by decide +kernel, by decide +kernel⟩, ⟨by decide +kernel, by decide⟩, (fun h => by cases h), (fun h => by cases h), (fun _ => ⟨LW_t 920 (by decide +kernel) rfl, fun _ => LW_p 23 (by decide +kernel) rfl⟩)⟩
theorem gm_134 : GM (yX7_readItem, cX7_readItem, 3, some (.int), 1, 7, false, false) := ⟨LW_t 889 (by decide +kernel) rfl, LW_t 10 (by decide +kernel) rfl, ⟨Or.inr (by decide +kernel), by decide +kernel, by decide +kernel, by decide +kernel⟩, ⟨by decide +kernel, by decide⟩, (fun h => by cases h), (fun h => by cases h), (fun _ => ⟨LW_t 888 (by decide +kernel) rfl, fun _ => LW_p 21 (by decide +kernel) rfl⟩)⟩
theorem gm_135 : GM (yX7_readText, cX7_readText, 2, some (.int), 0, 7, false, false) := ⟨LW_t 885 (by decide +kernel) rfl, LW_t 10 (by decide +kernel) rfl, ⟨Or.inr (by decide +kernel), by decide +kernel, by decide +kernel, by decide +kernel⟩, ⟨by decide +kernel, by decide⟩, (fun h => by cases h), (fun h => by cases h), (fun _ => ⟨LW_t 884 (by decide +kernel) rfl, fun _ => LW_p 20 (by decide +kernel) rfl⟩)⟩
theorem gm_136 : GM (yX7_errorPosition, cX7_errorPosition, 1, some (.int), 0, 7, false, false) := ⟨LW_t 881 (by decide +kernel) rfl, LW_t 10 (by decide +kernel) rfl, ⟨Or.inr (by decide +kernel), by decide +kernel, by decide +kernel, by decide +kernel⟩, ⟨by decide +kernel, by decide⟩, (fun h => by cases h), (fun h => by cases h), (fun _ => ⟨LW_t 879 (by decide +kernel) rfl, fun _ => LW_t 880 (by decide +kernel) rfl⟩)⟩
theorem gm_137 : GM (yX7_stepsOf, cX7_stepsOf, 3, some (.int), 1, 7, false, true) := ⟨LW_t 932 (by decide +kernel) rfl, LW_t 10 (by decide +kernel) rfl, ⟨Or.inr (by decide +kernel), by decide +kernel, by decide +kernel, by decide +kernel⟩, ⟨by decide +kernel, by decide⟩, (fun h => by cases h), (fun _ => LW_t 931 (by decide +kernel) rfl), (fun h => by cases h)⟩
theorem gm_138 : GM (yX7_load, cX7_load, 1, some (.int), 0, 7, false, false) := ⟨LW_t 926 (by decide +kernel) rfl, LW_t 10 (by decide +kernel) rfl, ⟨Or.inr (by decide +kernel), by decide +kernel, by decide +kernel, by decide +kernel⟩, ⟨by decide +kernel, by decide⟩, (fun h => by cases h), (fun h => by cases h), (fun _ => ⟨LW_t 924 (by decide +kernel) rfl, fun _ => LW_t 925 (by decide +kernel) rfl⟩)⟩
theorem gm_139 : GM (yX7_isNonterminal, cX7_isNonterminal, 1, some (.boolean), 1, 7, false, true) := ⟨LW_t 939 (by decide +kernel) rfl, LW_t 10 (by decide +kernel) rfl, ⟨Or.inr (by decide +kernel), by decide +kernel, by decide +kernel, by decide +kernel⟩, ⟨by decide +kernel, by decide⟩, (fun h => by cases h), (fun _ => LW_t 938 (by decide +kernel) rfl), (fun h => by cases h)⟩
theorem gm_140 : GM (yX7_isPair, cX7_isPair, 2, some (.boolean), 2, 7, false, true) := ⟨LW_t 951 (by decide +kernel) rfl, LW_t 10 (by decide +kernel) rfl, ⟨Or.inr (by decide +kernel), by decide +kernel, by decide +kernel, by decide +kernel⟩, ⟨by decide +kernel, by decide⟩, (fun h => by cases h), (fun _ => LW_t 950 (by decide +kernel) rfl), (fun h => by cases h)⟩
theorem gm_141 : GM (yX7_stepAt, cX7_stepAt, 2, some (.int), 2, 7, false, true) := ⟨LW_t 954 (by decide +kernel) rfl, LW_t 10 (by decide +kernel) rfl, ⟨Or.inr (by decide +kernel), by decide +kernel, by decide +kernel, by decide +kernel⟩, ⟨by decide +kernel, by decide⟩, (fun h => by cases h), (fun _ => LW_t 953 (by decide +kernel) rfl), (fun h => by cases h)⟩
theorem gm_142 : GM (yX7_bodyLength, cX7_bodyLength, 2, some (.int), 1, 7, false, false) := ⟨LW_t 936 (by decide +kernel) rfl, LW_t 10 (by decide +kernel) rfl, ⟨Or.inr (by decide +kernel), by decide +kernel, by decide +kernel, by decide +kernel⟩, ⟨by decide +kernel, by decide⟩, (fun h => by cases h), (fun h => by cases h), (fun _ => ⟨LW_t 934 (by decide +kernel) rfl, fun _ => LW_t 935 (by decide +kernel) rfl⟩)⟩
theorem gm_143 : GM (yX7_bodySymbol, cX7_bodySymbol, 3, some (.int), 2, 7, false, false) := ⟨LW_t 944 (by decide +kernel) rfl, LW_t 10 (by decide +kernel) rfl, ⟨Or.inr (by decide +kernel), by decide +kernel, by decide +kernel, by decide +kernel⟩, ⟨by decide +kernel, by decide⟩, (fun h => by cases h), (fun h => by cases h), (fun _ => ⟨LW_t 942 (by decide +kernel) rfl, fun _ => LW_t 943 (by decide +kernel) rfl⟩)⟩
theorem gm_144 : GM (yX7_transition, cX7_transition, 4, some (.int), 3, 7, false, false) := ⟨LW_t 948 (by decide +kernel) rfl, LW_t 10 (by decide +kernel) rfl, ⟨Or.inr (by decide +kernel), by decide +kernel, by decide +kernel, by decide +kernel⟩, ⟨by decide +kernel, by decide⟩, (fun h => by cases h), (fun h => by cases h), (fun _ => ⟨LW_t 946 (by decide +kernel) rfl, fun _ => LW_t 947 (by decide +kernel) rfl⟩)⟩
theorem gm_145 : GM (yX7_hasTransition, cX7_hasTransition, 3, some (.int), 2, 7, false, false) := ⟨LW_t 958 (by decide +kernel) rfl, LW_t 10 (by decide +kernel) rfl, ⟨Or.inr (by decide +kernel), by decide +kernel, by decide +kernel, by decide +kernel⟩, ⟨by decide +kernel, by decide⟩, (fun h => by cases h), (fun h => by cases h), (fun _ => ⟨LW_t 956 (by decide +kernel) rfl, fun _ => LW_t 957 (by decide +kernel) rfl⟩)⟩
theorem gm_146 : GM (yX7_reachable, cX7_reachable, 6, some (.int), 0, 7, false, false) := ⟨LW_t 962 (by decide +kernel) rfl, LW_t 10 (by decide +kernel) rfl, ⟨Or.inr (by decide +kernel), by decide +kernel, by decide +kernel, by decide +kernel⟩, ⟨by decide +kernel, by decide⟩, (fun h => by cases h), (fun h => by cases h), (fun _ => ⟨LW_t 960 (by decide +kernel) rfl, fun _ => LW_t 961 (by decide +kernel) rfl⟩)⟩
theorem gm_147 : GM (yX7_note, cX7_note, 2, none, 0, 7, false, false) := ⟨LW_t 970 (by decide +kernel) rfl, LW_t 10 (by decide +kernel) rfl, ⟨Or.inr (by decide +kernel), by decide +kernel, by decide +kernel, by decide +kernel⟩, ⟨by decide +kernel, by decide⟩, (fun h => by cases h), (fun h => by cases h), (fun _ => ⟨LW_t 969 (by decide +kernel) rfl, fun _ => LW_p 24 (by decide +kernel) rfl⟩)⟩
theorem gm_148 : GM (yX7_tidy, cX7_tidy, 3, none, 2, 7, false, true) := ⟨LW_t 973 (by decide +kernel) rfl, LW_t 10 (by decide +kernel) rfl, ⟨Or.inr (by decide +kernel), by decide +kernel, by decide +kernel, by decide +kernel⟩, ⟨by decide +kernel, by decide⟩, (fun h => by cases h), (fun _ => LW_t 972 (by decide +kernel) rfl), (fun h => by cases h)⟩
theorem gm_149 : GM (yX7_setBody, cX7_setBody, 3, some (.int), 1, 7, false, false) := ⟨LW_t 966 (by decide +kernel) rfl, LW_t 10 (by decide +kernel) rfl, ⟨Or.inr (by decide +kernel), by decide +kernel, by decide +kernel, by decide +kernel⟩, ⟨by decide +kernel, by decide⟩, (fun h => by cases h), (fun h => by cases h), (fun _ => ⟨LW_t 964 (by decide +kernel) rfl, fun _ => LW_t 965 (by decide +kernel) rfl⟩)⟩
theorem gm_150 : GM (yX7_setTransition, cX7_setTransition, 7, some (.int), 4, 7, false, false) := ⟨LW_t 977 (by decide +kernel) rfl, LW_t 10 (by decide +kernel) rfl, ⟨Or.inr (by decide +kernel), by decide +kernel, by decide +kernel, by decide +kernel⟩, ⟨by decide +kernel, by decide⟩, (fun h => by cases h), (fun h => by cases h), (fun _ => ⟨LW_t 975 (by decide +kernel) rfl, fun _ => LW_t 976 (by decide +kernel) rfl⟩)⟩
theorem gm_151 : GM (yX7_removeTransition, cX7_removeTransition, 3, some (.int), 2, 7, false, false) := ⟨LW_t 981 (by decide +kernel) rfl, LW_t 10 (by decide +kernel) rfl, ⟨Or.inr (by decide +kernel), by decide +kernel, by decide +kernel, by decide +kernel⟩, ⟨by decide +kernel, by decide⟩, (fun h => by cases h), (fun h => by cases h), (fun _ => ⟨LW_t 979 (by decide +kernel) rfl, fun _ => LW_t 980 (by decide +kernel) rfl⟩)⟩
theorem gm_152 : GM (yX7_put, cX7_put, 2, none, 1, 7, false, false) := ⟨LW_t 993 (by decide +kernel) rfl, LW_t 10 (by decide +kernel) rfl, ⟨Or.inr (by decide +kernel), by decide +kernel, by decide +kernel, by decide +kernel⟩, ⟨by decide +kernel, by decide⟩, (fun h => by cases h), (fun h => by cases h), (fun _ => ⟨LW_t 992 (by decide +kernel) rfl, fun _ => LW_p 26 (by decide +kernel) rfl⟩)⟩
theorem gm_153 : GM (yX7_putPart, cX7_putPart, 5, none, 3, 7, false, false) := ⟨LW_t 989 (by decide +kernel) rfl, LW_t 10 (by decide +kernel) rfl, ⟨Or.inr (by decide +kernel), by decide +kernel, by decide +kernel, by decide +kernel⟩, ⟨by decide +kernel, by decide⟩, (fun h => by cases h), (fun h => by cases h), (fun _ => ⟨LW_t 988 (by decide +kernel) rfl, fun _ => LW_p 25 (by decide +kernel) rfl⟩)⟩
theorem gm_154 : GM (yX7_putExpanded, cX7_putExpanded, 10, some (.int), 3, 7, false, false) := ⟨LW_t 997 (by decide +kernel) rfl, LW_t 10 (by decide +kernel) rfl, ⟨Or.inr (by decide +kernel), by decide +kernel, by decide +kernel, by decide +kernel⟩, ⟨by decide +kernel, by decide⟩, (fun h => by cases h), (fun h => by cases h), (fun _ => ⟨LW_t 996 (by decide +kernel) rfl, fun _ => LW_p 27 (by decide +kernel) rfl⟩)⟩
theorem gm_155 : GM (yX7_inline, cX7_inline, 5, some (.int), 2, 7, false, false) := ⟨LW_t 985 (by decide +kernel) rfl, LW_t 10 (by decide +kernel) rfl, ⟨Or.inr (by decide +kernel), by decide +kernel, by decide +kernel, by decide +kernel⟩, ⟨by decide +kernel, by decide⟩, (fun h => by cases h), (fun h => by cases h), (fun _ => ⟨LW_t 983 (by decide +kernel) rfl, fun _ => LW_t 984 (by decide +kernel) rfl⟩)⟩
theorem gm_156 : GM (yX7_exchange, cX7_exchange, 5, some (.int), 0, 7, false, false) := ⟨LW_t 1004 (by decide +kernel) rfl, LW_t 10 (by decide +kernel) rfl, ⟨Or.inr (by decide +kernel), by decide +kernel, by decide +kernel, by decide +kernel⟩, ⟨by decide +kernel, by decide⟩, (fun h => by cases h), (fun h => by cases h), (fun _ => ⟨LW_t 1002 (by decide +kernel) rfl, fun _ => LW_t 1003 (by decide +kernel) rfl⟩)⟩
theorem gm_157 : GM (yX7_undo, cX7_undo, 2, some (.int), 0, 7, false, false) := ⟨LW_t 1008 (by decide +kernel) rfl, LW_t 10 (by decide +kernel) rfl, ⟨Or.inr (by decide +kernel), by decide +kernel, by decide +kernel, by decide +kernel⟩, ⟨by decide +kernel, by decide⟩, (fun h => by cases h), (fun h => by cases h), (fun _ => ⟨LW_t 1006 (by decide +kernel) rfl, fun _ => LW_t 1007 (by decide +kernel) rfl⟩)⟩
theorem gm_158 : GM (yX7_evaluate, cX7_evaluate, 5, none, 1, 7, false, false) := ⟨LW_t 1027 (by decide +kernel) rfl, LW_t 10 (by decide +kernel) rfl, ⟨Or.inr (by decide +kernel), by decide +kernel, by decide +kernel, by decide +kernel⟩, ⟨by decide +kernel, by decide⟩, (fun h => by cases h), (fun h => by cases h), (fun _ => ⟨LW_t 1026 (by decide +kernel) rfl, fun _ => LW_p 30 (by decide +kernel) rfl⟩)⟩
theorem gm_159 : GM (yX7_childrenOf, cX7_childrenOf, 2, some (.int), 1, 7, false, false) := ⟨LW_t 1038 (by decide +kernel) rfl, LW_t 10 (by decide +kernel) rfl, ⟨Or.inr (by decide +kernel), by decide +kernel, by decide +kernel, by decide +kernel⟩, ⟨by decide +kernel, by decide⟩, (fun h => by cases h), (fun h => by cases h), (fun _ => ⟨LW_t 1037 (by decide +kernel) rfl, fun _ => LW_p 32 (by decide +kernel) rfl⟩)⟩
theorem gm_160 : GM (yX7_beginWalk, cX7_beginWalk, 2, none, 1, 7, false, false) := ⟨LW_t 1023 (by decide +kernel) rfl, LW_t 10 (by decide +kernel) rfl, ⟨Or.inr (by decide +kernel), by decide +kernel, by decide +kernel, by decide +kernel⟩, ⟨by decide +kernel, by decide⟩, (fun h => by cases h), (fun h => by cases h), (fun _ => ⟨LW_t 1022 (by decide +kernel) rfl, fun _ => LW_p 29 (by decide +kernel) rfl⟩)⟩
theorem gm_161 : GM (yX7_goDown, cX7_goDown, 8, some (.boolean), 2, 7, false, false) := ⟨LW_t 1034 (by decide +kernel) rfl, LW_t 10 (by decide +kernel) rfl, ⟨Or.inr (by decide +kernel), by decide +kernel, by decide +kernel, by decide +kernel⟩, ⟨by decide +kernel, by decide⟩, (fun h => by cases h), (fun h => by cases h), (fun _ => ⟨LW_t 1033 (by decide +kernel) rfl, fun _ => LW_p 31 (by decide +kernel) rfl⟩)⟩
theorem gm_162 : GM (yX7_tens, cX7_tens, 3, some (.int), 1, 7, false, true) := ⟨LW_t 1030 (by decide +kernel) rfl, LW_t 10 (by decide +kernel) rfl, ⟨Or.inr (by decide +kernel), by decide +kernel, by decide +kernel, by decide +kernel⟩, ⟨by decide +kernel, by decide⟩, (fun h => by cases h), (fun _ => LW_t 1029 (by decide +kernel) rfl), (fun h => by cases h)⟩
theorem gm_163 : GM (yX7_stepsOfPath, cX7_stepsOfPath, 3, some (.int), 1, 7, false, true) := ⟨LW_t 1015 (by decide +kernel) rfl, LW_t 10 (by decide +kernel) rfl, ⟨Or.inr (by decide +kernel), by decide +kernel, by decide +kernel, by decide +kernel⟩, ⟨by decide +kernel, by decide⟩, (fun h => by cases h), (fun _ => LW_t 1014 (by decide +kernel) rfl), (fun h => by cases h)⟩
theorem gm_164 : GM (yX7_walk, cX7_walk, 6, some (.boolean), 3, 7, false, false) := ⟨LW_t 1019 (by decide +kernel) rfl, LW_t 10 (by decide +kernel) rfl, ⟨Or.inr (by decide +kernel), by decide +kernel, by decide +kernel, by decide +kernel⟩, ⟨by decide +kernel, by decide⟩, (fun h => by cases h), (fun h => by cases h), (fun _ => ⟨LW_t 1018 (by decide +kernel) rfl, fun _ => LW_p 28 (by decide +kernel) rfl⟩)⟩
theorem gm_165 : GM (yX7_labelAt, cX7_labelAt, 3, some (.int), 1, 7, false, false) := ⟨LW_t 1012 (by decide +kernel) rfl, LW_t 10 (by decide +kernel) rfl, ⟨Or.inr (by decide +kernel), by decide +kernel, by decide +kernel, by decide +kernel⟩, ⟨by decide +kernel, by decide⟩, (fun h => by cases h), (fun h => by cases h), (fun _ => ⟨LW_t 1010 (by decide +kernel) rfl, fun _ => LW_t 1011 (by decide +kernel) rfl⟩)⟩
theorem gm_166 : GM (yX7_expansionsAt, cX7_expansionsAt, 3, some (.int), 1, 7, false, false) := ⟨LW_t 1042 (by decide +kernel) rfl, LW_t 10 (by decide +kernel) rfl, ⟨Or.inr (by decide +kernel), by decide +kernel, by decide +kernel, by decide +kernel⟩, ⟨by decide +kernel, by decide⟩, (fun h => by cases h), (fun h => by cases h), (fun _ => ⟨LW_t 1040 (by decide +kernel) rfl, fun _ => LW_t 1041 (by decide +kernel) rfl⟩)⟩
theorem gm_167 : GM (yX7_stateAt, cX7_stateAt, 3, some (.int), 1, 7, false, false) := ⟨LW_t 1046 (by decide +kernel) rfl, LW_t 10 (by decide +kernel) rfl, ⟨Or.inr (by decide +kernel), by decide +kernel, by decide +kernel, by decide +kernel⟩, ⟨by decide +kernel, by decide⟩, (fun h => by cases h), (fun h => by cases h), (fun _ => ⟨LW_t 1044 (by decide +kernel) rfl, fun _ => LW_t 1045 (by decide +kernel) rfl⟩)⟩
theorem gm_168 : GM (yX7_pathOf, cX7_pathOf, 4, some (.int), 2, 7, false, true) := ⟨LW_t 1058 (by decide +kernel) rfl, LW_t 10 (by decide +kernel) rfl, ⟨Or.inr (by decide +kernel), by decide +kernel, by decide +kernel, by decide +kernel⟩, ⟨by decide +kernel, by decide⟩, (fun h => by cases h), (fun _ => LW_t 1057 (by decide +kernel) rfl), (fun h => by cases h)⟩
theorem gm_169 : GM (yX7_nodesOf, cX7_nodesOf, 5, some (.int), 2, 7, false, false) := ⟨LW_t 1055 (by decide +kernel) rfl, LW_t 10 (by decide +kernel) rfl, ⟨Or.inr (by decide +kernel), by decide +kernel, by decide +kernel, by decide +kernel⟩, ⟨by decide +kernel, by decide⟩, (fun h => by cases h), (fun h => by cases h), (fun _ => ⟨LW_t 1054 (by decide +kernel) rfl, fun _ => LW_p 33 (by decide +kernel) rfl⟩)⟩
theorem gm_170 : GM (yX7_nodesAtDepth, cX7_nodesAtDepth, 2, some (.int), 1, 7, false, false) := ⟨LW_t 1050 (by decide +kernel) rfl, LW_t 10 (by decide +kernel) rfl, ⟨Or.inr (by decide +kernel), by decide +kernel, by decide +kernel, by decide +kernel⟩, ⟨by decide +kernel, by decide⟩, (fun h => by cases h), (fun h => by cases h), (fun _ => ⟨LW_t 1048 (by decide +kernel) rfl, fun _ => LW_t 1049 (by decide +kernel) rfl⟩)⟩
theorem gm_171 : GM (yX7_wrongBranch, cX7_wrongBranch, 5, some (.int), 1, 7, false, false) := ⟨LW_t 1062 (by decide +kernel) rfl, LW_t 10 (by decide +kernel) rfl, ⟨Or.inr (by decide +kernel), by decide +kernel, by decide +kernel, by decide +kernel⟩, ⟨by decide +kernel, by decide⟩, (fun h => by cases h), (fun h => by cases h), (fun _ => ⟨LW_t 1060 (by decide +kernel) rfl, fun _ => LW_t 1061 (by decide +kernel) rfl⟩)⟩
theorem gm_172 : GM (yX7_typingAt, cX7_typingAt, 4, some (.int), 4, 7, false, true) := ⟨LW_t 1093 (by decide +kernel) rfl, LW_t 10 (by decide +kernel) rfl, ⟨Or.inr (by decide +kernel), by decide +kernel, by decide +kernel, by decide +kernel⟩, ⟨by decide +kernel, by decide⟩, (fun h => by cases h), (fun _ => LW_t 1092 (by decide +kernel) rfl), (fun h => by cases h)⟩
theorem gm_173 : GM (yX7_appliedTypes, cX7_appliedTypes, 9, some (.int), 3, 7, false, false) := ⟨LW_t 1090 (by decide +kernel) rfl, LW_t 10 (by decide +kernel) rfl, ⟨Or.inr (by decide +kernel), by decide +kernel, by decide +kernel, by decide +kernel⟩, ⟨by decide +kernel, by decide⟩, (fun h => by cases h), (fun h => by cases h), (fun _ => ⟨LW_t 1089 (by decide +kernel) rfl, fun _ => LW_p 39 (by decide +kernel) rfl⟩)⟩
theorem gm_174 : GM (yX7_terminalTypes, cX7_terminalTypes, 9, some (.int), 4, 7, false, false) := ⟨LW_t 1086 (by decide +kernel) rfl, LW_t 10 (by decide +kernel) rfl, ⟨Or.inr (by decide +kernel), by decide +kernel, by decide +kernel, by decide +kernel⟩, ⟨by decide +kernel, by decide⟩, (fun h => by cases h), (fun h => by cases h), (fun _ => ⟨LW_t 1085 (by decide +kernel) rfl, fun _ => LW_p 38 (by decide +kernel) rfl⟩)⟩
theorem gm_175 : GM (yX7_bodyTypes, cX7_bodyTypes, 11, some (.int), 4, 7, false, false) := ⟨LW_t 1082 (by decide +kernel) rfl, LW_t 10 (by decide +kernel) rfl, ⟨Or.inr (by decide +kernel), by decide +kernel, by decide +kernel, by decide +kernel⟩, ⟨by decide +kernel, by decide⟩, (fun h => by cases h), (fun h => by cases h), (fun _ => ⟨LW_t 1081 (by decide +kernel) rfl, fun _ => LW_p 37 (by decide +kernel) rfl⟩)⟩
theorem gm_176 : GM (yX7_isRoundLess, cX7_isRoundLess, 7, some (.boolean), 1, 7, false, false) := ⟨LW_t 1078 (by decide +kernel) rfl, LW_t 10 (by decide +kernel) rfl, ⟨Or.inr (by decide +kernel), by decide +kernel, by decide +kernel, by decide +kernel⟩, ⟨by decide +kernel, by decide⟩, (fun h => by cases h), (fun h => by cases h), (fun _ => ⟨LW_t 1077 (by decide +kernel) rfl, fun _ => LW_p 36 (by decide +kernel) rfl⟩)⟩
theorem gm_177 : GM (yX7_check, cX7_check, 3, some (.int), 1, 7, false, false) := ⟨LW_t 1074 (by decide +kernel) rfl, LW_t 10 (by decide +kernel) rfl, ⟨Or.inr (by decide +kernel), by decide +kernel, by decide +kernel, by decide +kernel⟩, ⟨by decide +kernel, by decide⟩, (fun h => by cases h), (fun h => by cases h), (fun _ => ⟨LW_t 1073 (by decide +kernel) rfl, fun _ => LW_p 35 (by decide +kernel) rfl⟩)⟩
theorem gm_178 : GM (yX7_isAccepted, cX7_isAccepted, 3, some (.boolean), 1, 7, false, false) := ⟨LW_t 1070 (by decide +kernel) rfl, LW_t 10 (by decide +kernel) rfl, ⟨Or.inr (by decide +kernel), by decide +kernel, by decide +kernel, by decide +kernel⟩, ⟨by decide +kernel, by decide⟩, (fun h => by cases h), (fun h => by cases h), (fun _ => ⟨LW_t 1069 (by decide +kernel) rfl, fun _ => LW_p 34 (by decide +kernel) rfl⟩)⟩
theorem gm_179 : GM (yX7_accepts, cX7_accepts, 1, some (.int), 0, 7, false, false) := ⟨LW_t 1066 (by decide +kernel) rfl, LW_t 10 (by decide +kernel) rfl, ⟨Or.inr (by decide +kernel), by decide +kernel, by decide +kernel, by decide +kernel⟩, ⟨by decide +kernel, by decide⟩, (fun h => by cases h), (fun h => by cases h), (fun _ => ⟨LW_t 1064 (by decide +kernel) rfl, fun _ => LW_t 1065 (by decide +kernel) rfl⟩)⟩
theorem gm_180 : GM (yX7_rounds, cX7_rounds, 1, some (.int), 0, 7, false, false) := ⟨LW_t 1097 (by decide +kernel) rfl, LW_t 10 (by decide +kernel) rfl, ⟨Or.inr (by decide +kernel), by decide +kernel, by decide +kernel, by decide +kernel⟩, ⟨by decide +kernel, by decide⟩, (fun h => by cases h), (fun h => by cases h), (fun _ => ⟨LW_t 1095 (by decide +kernel) rfl, fun _ => LW_t 1096 (by decide +kernel) rfl⟩)⟩
theorem gm_181 : GM (yX7_typingsOf, cX7_typingsOf, 8, some (.int), 2, 7, false, false) := ⟨LW_t 1105 (by decide +kernel) rfl, LW_t 10 (by decide +kernel) rfl, ⟨Or.inr (by decide +kernel), by decide +kernel, by decide +kernel, by decide +kernel⟩, ⟨by decide +kernel, by decide⟩, (fun h => by cases h), (fun h => by cases h), (fun _ => ⟨LW_t 1104 (by decide +kernel) rfl, fun _ => LW_p 40 (by decide +kernel) rfl⟩)⟩
theorem gm_182 : GM (yX7_typingCount, cX7_typingCount, 2, some (.int), 1, 7, false, false) := ⟨LW_t 1101 (by decide +kernel) rfl, LW_t 10 (by decide +kernel) rfl, ⟨Or.inr (by decide +kernel), by decide +kernel, by decide +kernel, by decide +kernel⟩, ⟨by decide +kernel, by decide⟩, (fun h => by cases h), (fun h => by cases h), (fun _ => ⟨LW_t 1099 (by decide +kernel) rfl, fun _ => LW_t 1100 (by decide +kernel) rfl⟩)⟩
theorem gm_183 : GM (yX7_isValid, cX7_isValid, 6, some (.int), 4, 7, false, false) := ⟨LW_t 1109 (by decide +kernel) rfl, LW_t 10 (by decide +kernel) rfl, ⟨Or.inr (by decide +kernel), by decide +kernel, by decide +kernel, by decide +kernel⟩, ⟨by decide +kernel, by decide⟩, (fun h => by cases h), (fun h => by cases h), (fun _ => ⟨LW_t 1107 (by decide +kernel) rfl, fun _ => LW_t 1108 (by decide +kernel) rfl⟩)⟩
theorem gm_184 : GM (yX7_demand, cX7_demand, 9, some (.int), 3, 7, false, false) := ⟨LW_t 1114 (by decide +kernel) rfl, LW_t 10 (by decide +kernel) rfl, ⟨Or.inr (by decide +kernel), by decide +kernel, by decide +kernel, by decide +kernel⟩, ⟨by decide +kernel, by decide⟩, (fun h => by cases h), (fun h => by cases h), (fun _ => ⟨LW_t 1112 (by decide +kernel) rfl, fun _ => LW_t 1113 (by decide +kernel) rfl⟩)⟩
theorem gm_185 : GM (yX7_command, cX7_command, 5, some (.boolean), 4, 7, false, false) := ⟨LW_t 1127 (by decide +kernel) rfl, LW_t 10 (by decide +kernel) rfl, ⟨Or.inr (by decide +kernel), by decide +kernel, by decide +kernel, by decide +kernel⟩, ⟨by decide +kernel, by decide⟩, (fun h => by cases h), (fun h => by cases h), (fun _ => ⟨LW_t 1126 (by decide +kernel) rfl, fun _ => LW_p 41 (by decide +kernel) rfl⟩)⟩
theorem gm_186 : GM (yX7_tenThousands, cX7_tenThousands, 4, some (.long), 1, 7, false, true) := ⟨LW_t 1122 (by decide +kernel) rfl, LW_t 10 (by decide +kernel) rfl, ⟨Or.inr (by decide +kernel), by decide +kernel, by decide +kernel, by decide +kernel⟩, ⟨by decide +kernel, by decide⟩, (fun h => by cases h), (fun _ => LW_t 1121 (by decide +kernel) rfl), (fun h => by cases h)⟩
theorem gm_187 : GM (yX7_runScript, cX7_runScript, 6, some (.int), 2, 7, false, false) := ⟨LW_t 1118 (by decide +kernel) rfl, LW_t 10 (by decide +kernel) rfl, ⟨Or.inr (by decide +kernel), by decide +kernel, by decide +kernel, by decide +kernel⟩, ⟨by decide +kernel, by decide⟩, (fun h => by cases h), (fun h => by cases h), (fun _ => ⟨LW_t 1116 (by decide +kernel) rfl, fun _ => LW_t 1117 (by decide +kernel) rfl⟩)⟩
theorem gm_188 : GM (yX7_descend, cX7_descend, 10, some (.int), 2, 7, false, false) := ⟨LW_t 1131 (by decide +kernel) rfl, LW_t 10 (by decide +kernel) rfl, ⟨Or.inr (by decide +kernel), by decide +kernel, by decide +kernel, by decide +kernel⟩, ⟨by decide +kernel, by decide⟩, (fun h => by cases h), (fun h => by cases h), (fun _ => ⟨LW_t 1129 (by decide +kernel) rfl, fun _ => LW_t 1130 (by decide +kernel) rfl⟩)⟩
theorem gm_189 : GM (yX7_save, cX7_save, 3, some (.int), 1, 7, false, false) := ⟨LW_t 1138 (by decide +kernel) rfl, LW_t 10 (by decide +kernel) rfl, ⟨Or.inr (by decide +kernel), by decide +kernel, by decide +kernel, by decide +kernel⟩, ⟨by decide +kernel, by decide⟩, (fun h => by cases h), (fun h => by cases h), (fun _ => ⟨LW_t 1136 (by decide +kernel) rfl, fun _ => LW_t 1137 (by decide +kernel) rfl⟩)⟩
theorem gm_190 : GM (yX7_restore, cX7_restore, 3, some (.int), 1, 7, false, false) := ⟨LW_t 1142 (by decide +kernel) rfl, LW_t 10 (by decide +kernel) rfl, ⟨Or.inr (by decide +kernel), by decide +kernel, by decide +kernel, by decide +kernel⟩, ⟨by decide +kernel, by decide⟩, (fun h => by cases h), (fun h => by cases h), (fun _ => ⟨LW_t 1140 (by decide +kernel) rfl, fun _ => LW_t 1141 (by decide +kernel) rfl⟩)⟩
theorem gm_191 : GM (yJ6_bitCount_0f7a4, cJ6_bitCount_0f7a4, 1, some (.int), 1, 12, false, true) := ⟨LW_t 736 (by decide +kernel) rfl, LW_t 17 (by decide +kernel) rfl, ⟨Or.inr (by decide +kernel), by decide +kernel, by decide +kernel, by decide +kernel⟩, ⟨by decide +kernel, by decide⟩, (fun h => by cases h), (fun _ => LW_t 735 (by decide +kernel) rfl), (fun h => by cases h)⟩
theorem gm_192 : GM (yJ9_max_7cf53, cJ9_max_7cf53, 2, some (.int), 2, 14, false, true) := ⟨LW_t 58 (by decide +kernel) rfl, LW_t 5 (by decide +kernel) rfl, ⟨Or.inl rfl, by decide +kernel, by decide +kernel, by decide +kernel⟩, ⟨by decide +kernel, by decide⟩, (fun h => by cases h), (fun _ => LW_t 57 (by decide +kernel) rfl), (fun h => by cases h)⟩
theorem gm_193 : GM (yJ9_min_7cf53, cJ9_min_7cf53, 2, some (.int), 2, 14, false, true) := ⟨LW_t 281 (by decide +kernel) rfl, LW_t 5 (by decide +kernel) rfl, ⟨Or.inl rfl, by decide +kernel, by decide +kernel, by decide +kernel⟩, ⟨by decide +kernel, by decide⟩, (fun h => by cases h), (fun _ => LW_t 280 (by decide +kernel) rfl), (fun h => by cases h)⟩
theorem gm_194 : GM (yJ0_length_8abf5, cJ0_length_8abf5, 1, some (.int), 0, 9, false, false) := ⟨LW_t 267 (by decide +kernel) rfl, LW_t 11 (by decide +kernel) rfl, ⟨Or.inr (by decide +kernel), by decide +kernel, by decide +kernel, by decide +kernel⟩, ⟨by decide +kernel, by decide⟩, (fun h => by cases h), (fun h => by cases h), (fun _ => ⟨LW_t 265 (by decide +kernel) rfl, fun _ => LW_t 266 (by decide +kernel) rfl⟩)⟩
theorem gm_195 : GM (yJ0_charAt_5068e, cJ0_charAt_5068e, 2, some (.char), 1, 9, false, false) := ⟨LW_t 443 (by decide +kernel) rfl, LW_t 11 (by decide +kernel) rfl, ⟨Or.inr (by decide +kernel), by decide +kernel, by decide +kernel, by decide +kernel⟩, ⟨by decide +kernel, by decide⟩, (fun h => by cases h), (fun h => by cases h), (fun _ => ⟨LW_t 441 (by decide +kernel) rfl, fun _ => LW_t 442 (by decide +kernel) rfl⟩)⟩
theorem gm_196 : GM (yJ0_indexOf_0f7a4, cJ0_indexOf_0f7a4, 2, some (.int), 1, 9, false, false) := ⟨LW_t 253 (by decide +kernel) rfl, LW_t 11 (by decide +kernel) rfl, ⟨Or.inr (by decide +kernel), by decide +kernel, by decide +kernel, by decide +kernel⟩, ⟨by decide +kernel, by decide⟩, (fun h => by cases h), (fun h => by cases h), (fun _ => ⟨LW_t 251 (by decide +kernel) rfl, fun _ => LW_t 252 (by decide +kernel) rfl⟩)⟩
theorem gm_197 : GM (yJ0_indexOf_7cf53, cJ0_indexOf_7cf53, 3, some (.int), 2, 9, false, false) := ⟨LW_t 257 (by decide +kernel) rfl, LW_t 11 (by decide +kernel) rfl, ⟨Or.inr (by decide +kernel), by decide +kernel, by decide +kernel, by decide +kernel⟩, ⟨by decide +kernel, by decide⟩, (fun h => by cases h), (fun h => by cases h), (fun _ => ⟨LW_t 255 (by decide +kernel) rfl, fun _ => LW_t 256 (by decide +kernel) rfl⟩)⟩
theorem gm_198 : GM (yJ0_coder_7d493, cJ0_coder_7d493, 1, some (.byte), 0, 9, false, false) := ⟨LW_t 271 (by decide +kernel) rfl, LW_t 11 (by decide +kernel) rfl, ⟨Or.inr (by decide +kernel), by decide +kernel, by decide +kernel, by decide +kernel⟩, ⟨by decide +kernel, by decide⟩, (fun h => by cases h), (fun h => by cases h), (fun _ => ⟨LW_t 269 (by decide +kernel) rfl, fun _ => LW_t 270 (by decide +kernel) rfl⟩)⟩
theorem gm_199 : GM (yJ0_isLatin1_aae02, cJ0_isLatin1_aae02, 1, some (.boolean), 0, 9, false, false) := ⟨LW_t 261 (by decide +kernel) rfl, LW_t 11 (by decide +kernel) rfl, ⟨Or.inr (by decide +kernel), by decide +kernel, by decide +kernel, by decide +kernel⟩, ⟨by decide +kernel, by decide⟩, (fun h => by cases h), (fun h => by cases h), (fun _ => ⟨LW_t 259 (by decide +kernel) rfl, fun _ => LW_t 260 (by decide +kernel) rfl⟩)⟩
theorem gm_200 : GM (yJ0_checkIndex_df160, cJ0_checkIndex_df160, 2, none, 2, 9, false, true) := ⟨LW_t 449 (by decide +kernel) rfl, LW_t 11 (by decide +kernel) rfl, ⟨Or.inr (by decide +kernel), by decide +kernel, by decide +kernel, by decide +kernel⟩, ⟨by decide +kernel, by decide⟩, (fun h => by cases h), (fun _ => LW_t 448 (by decide +kernel) rfl), (fun h => by cases h)⟩
theorem gm_201 : GM (yJ0_checkBoundsBeginEnd_23922, cJ0_checkBoundsBeginEnd_23922, 3, none, 3, 9, false, true) := ⟨LW_t 302 (by decide +kernel) rfl, LW_t 11 (by decide +kernel) rfl, ⟨Or.inr (by decide +kernel), by decide +kernel, by decide +kernel, by decide +kernel⟩, ⟨by decide +kernel, by decide⟩, (fun h => by cases h), (fun _ => LW_t 301 (by decide +kernel) rfl), (fun h => by cases h)⟩
theorem gm_202 : GM (yJ1_charAt_3b067, cJ1_charAt_3b067, 2, some (.char), 2, 10, false, true) := ⟨LW_t 446 (by decide +kernel) rfl, LW_t 12 (by decide +kernel) rfl, ⟨Or.inr (by decide +kernel), by decide +kernel, by decide +kernel, by decide +kernel⟩, ⟨by decide +kernel, by decide⟩, (fun h => by cases h), (fun _ => LW_t 445 (by decide +kernel) rfl), (fun h => by cases h)⟩
theorem gm_203 : GM (yJ1_canEncode_9a6ad, cJ1_canEncode_9a6ad, 1, some (.boolean), 1, 10, false, true) := ⟨LW_t 277 (by decide +kernel) rfl, LW_t 12 (by decide +kernel) rfl, ⟨Or.inr (by decide +kernel), by decide +kernel, by decide +kernel, by decide +kernel⟩, ⟨by decide +kernel, by decide⟩, (fun h => by cases h), (fun _ => LW_t 276 (by decide +kernel) rfl), (fun h => by cases h)⟩
theorem gm_204 : GM (yJ1_indexOf_4cfef, cJ1_indexOf_4cfef, 4, some (.int), 4, 10, false, true) := ⟨LW_t 274 (by decide +kernel) rfl, LW_t 12 (by decide +kernel) rfl, ⟨Or.inr (by decide +kernel), by decide +kernel, by decide +kernel, by decide +kernel⟩, ⟨by decide +kernel, by decide⟩, (fun h => by cases h), (fun _ => LW_t 273 (by decide +kernel) rfl), (fun h => by cases h)⟩
theorem gm_205 : GM (yJ1_indexOfChar_4cfef, cJ1_indexOfChar_4cfef, 6, some (.int), 4, 10, false, true) := ⟨LW_t 284 (by decide +kernel) rfl, LW_t 12 (by decide +kernel) rfl, ⟨Or.inr (by decide +kernel), by decide +kernel, by decide +kernel, by decide +kernel⟩, ⟨by decide +kernel, by decide⟩, (fun h => by cases h), (fun _ => LW_t 283 (by decide +kernel) rfl), (fun h => by cases h)⟩
theorem gm_206 : GM (yJ7_fill_53178, cJ7_fill_53178, 4, none, 2, 13, false, true) := ⟨LW_t 81 (by decide +kernel) rfl, LW_t 6 (by decide +kernel) rfl, ⟨Or.inr (by decide +kernel), by decide +kernel, by decide +kernel, by decide +kernel⟩, ⟨by decide +kernel, by decide⟩, (fun h => by cases h), (fun _ => LW_t 80 (by decide +kernel) rfl), (fun h => by cases h)⟩
theorem gm_207 : GM (yJ7_fill_031fb, cJ7_fill_031fb, 4, none, 2, 13, false, true) := ⟨LW_t 684 (by decide +kernel) rfl, LW_t 6 (by decide +kernel) rfl, ⟨Or.inr (by decide +kernel), by decide +kernel, by decide +kernel, by decide +kernel⟩, ⟨by decide +kernel, by decide⟩, (fun h => by cases h), (fun _ => LW_t 683 (by decide +kernel) rfl), (fun h => by cases h)⟩
theorem gm_208 : GM (yJ3_checkIndex_8e157, cJ3_checkIndex_8e157, 3, some (.int), 3, 11, false, true) := ⟨LW_t 452 (by decide +kernel) rfl, LW_t 14 (by decide +kernel) rfl, ⟨Or.inr (by decide +kernel), by decide +kernel, by decide +kernel, by decide +kernel⟩, ⟨by decide +kernel, by decide⟩, (fun h => by cases h), (fun _ => LW_t 451 (by decide +kernel) rfl), (fun h => by cases h)⟩
theorem gm_209 : GM (yJ3_checkFromToIndex_8c36e, cJ3_checkFromToIndex_8c36e, 4, some (.int), 4, 11, false, true) := ⟨LW_t 307 (by decide +kernel) rfl, LW_t 14 (by decide +kernel) rfl, ⟨Or.inr (by decide +kernel), by decide +kernel, by decide +kernel, by decide +kernel⟩, ⟨by decide +kernel, by decide⟩, (fun h => by cases h), (fun _ => LW_t 306 (by decide +kernel) rfl), (fun h => by cases h)⟩
theorem gms_0 : ∀ m ∈ tY0, GM m := List.forall_mem_cons.mpr ⟨gm_0, List.forall_mem_cons.mpr ⟨gm_1, List.forall_mem_cons.mpr ⟨gm_2, List.forall_mem_cons.mpr ⟨gm_3, List.forall_mem_cons.mpr ⟨gm_4, List.forall_mem_cons.mpr ⟨gm_5, List.forall_mem_cons.mpr ⟨gm_6, List.forall_mem_cons.mpr ⟨gm_7, List.forall_mem_cons.mpr ⟨gm_8, List.forall_mem_cons.mpr ⟨gm_9, List.forall_mem_cons.mpr ⟨gm_10, List.forall_mem_cons.mpr ⟨gm_11, List.forall_mem_cons.mpr ⟨gm_12, List.forall_mem_cons.mpr ⟨gm_13, List.forall_mem_cons.mpr ⟨gm_14, List.forall_mem_cons.mpr ⟨gm_15, List.forall_mem_cons.mpr ⟨gm_16, List.forall_mem_cons.mpr ⟨gm_17, List.forall_mem_cons.mpr ⟨gm_18, List.forall_mem_cons.mpr ⟨gm_19, List.forall_mem_cons.mpr ⟨gm_20, List.forall_mem_cons.mpr ⟨gm_21, List.forall_mem_cons.mpr ⟨gm_22, List.forall_mem_cons.mpr ⟨gm_23, fun _ h => absurd h List.not_mem_nil⟩⟩⟩⟩⟩⟩⟩⟩⟩⟩⟩⟩⟩⟩⟩⟩⟩⟩⟩⟩⟩⟩⟩⟩
theorem gms_1 : ∀ m ∈ tY1, GM m := List.forall_mem_cons.mpr ⟨gm_24, List.forall_mem_cons.mpr ⟨gm_25, List.forall_mem_cons.mpr ⟨gm_26, List.forall_mem_cons.mpr ⟨gm_27, List.forall_mem_cons.mpr ⟨gm_28, List.forall_mem_cons.mpr ⟨gm_29, List.forall_mem_cons.mpr ⟨gm_30, List.forall_mem_cons.mpr ⟨gm_31, List.forall_mem_cons.mpr ⟨gm_32, List.forall_mem_cons.mpr ⟨gm_33, List.forall_mem_cons.mpr ⟨gm_34, List.forall_mem_cons.mpr ⟨gm_35, List.forall_mem_cons.mpr ⟨gm_36, List.forall_mem_cons.mpr ⟨gm_37, List.forall_mem_cons.mpr ⟨gm_38, List.forall_mem_cons.mpr ⟨gm_39, List.forall_mem_cons.mpr ⟨gm_40, List.forall_mem_cons.mpr ⟨gm_41, List.forall_mem_cons.mpr ⟨gm_42, List.forall_mem_cons.mpr ⟨gm_43, List.forall_mem_cons.mpr ⟨gm_44, List.forall_mem_cons.mpr ⟨gm_45, List.forall_mem_cons.mpr ⟨gm_46, List.forall_mem_cons.mpr ⟨gm_47, fun _ h => absurd h List.not_mem_nil⟩⟩⟩⟩⟩⟩⟩⟩⟩⟩⟩⟩⟩⟩⟩⟩⟩⟩⟩⟩⟩⟩⟩⟩
theorem gms_2 : ∀ m ∈ tY2, GM m := List.forall_mem_cons.mpr ⟨gm_48, List.forall_mem_cons.mpr ⟨gm_49, List.forall_mem_cons.mpr ⟨gm_50, List.forall_mem_cons.mpr ⟨gm_51, List.forall_mem_cons.mpr ⟨gm_52, List.forall_mem_cons.mpr ⟨gm_53, List.forall_mem_cons.mpr ⟨gm_54, List.forall_mem_cons.mpr ⟨gm_55, List.forall_mem_cons.mpr ⟨gm_56, List.forall_mem_cons.mpr ⟨gm_57, List.forall_mem_cons.mpr ⟨gm_58, List.forall_mem_cons.mpr ⟨gm_59, List.forall_mem_cons.mpr ⟨gm_60, List.forall_mem_cons.mpr ⟨gm_61, List.forall_mem_cons.mpr ⟨gm_62, List.forall_mem_cons.mpr ⟨gm_63, List.forall_mem_cons.mpr ⟨gm_64, List.forall_mem_cons.mpr ⟨gm_65, List.forall_mem_cons.mpr ⟨gm_66, List.forall_mem_cons.mpr ⟨gm_67, List.forall_mem_cons.mpr ⟨gm_68, List.forall_mem_cons.mpr ⟨gm_69, List.forall_mem_cons.mpr ⟨gm_70, List.forall_mem_cons.mpr ⟨gm_71, fun _ h => absurd h List.not_mem_nil⟩⟩⟩⟩⟩⟩⟩⟩⟩⟩⟩⟩⟩⟩⟩⟩⟩⟩⟩⟩⟩⟩⟩⟩
theorem gms_3 : ∀ m ∈ tY3, GM m := List.forall_mem_cons.mpr ⟨gm_72, List.forall_mem_cons.mpr ⟨gm_73, List.forall_mem_cons.mpr ⟨gm_74, List.forall_mem_cons.mpr ⟨gm_75, List.forall_mem_cons.mpr ⟨gm_76, List.forall_mem_cons.mpr ⟨gm_77, List.forall_mem_cons.mpr ⟨gm_78, List.forall_mem_cons.mpr ⟨gm_79, List.forall_mem_cons.mpr ⟨gm_80, List.forall_mem_cons.mpr ⟨gm_81, List.forall_mem_cons.mpr ⟨gm_82, List.forall_mem_cons.mpr ⟨gm_83, List.forall_mem_cons.mpr ⟨gm_84, List.forall_mem_cons.mpr ⟨gm_85, List.forall_mem_cons.mpr ⟨gm_86, List.forall_mem_cons.mpr ⟨gm_87, List.forall_mem_cons.mpr ⟨gm_88, List.forall_mem_cons.mpr ⟨gm_89, List.forall_mem_cons.mpr ⟨gm_90, List.forall_mem_cons.mpr ⟨gm_91, List.forall_mem_cons.mpr ⟨gm_92, List.forall_mem_cons.mpr ⟨gm_93, List.forall_mem_cons.mpr ⟨gm_94, List.forall_mem_cons.mpr ⟨gm_95, fun _ h => absurd h List.not_mem_nil⟩⟩⟩⟩⟩⟩⟩⟩⟩⟩⟩⟩⟩⟩⟩⟩⟩⟩⟩⟩⟩⟩⟩⟩
theorem gms_4 : ∀ m ∈ tY4, GM m := List.forall_mem_cons.mpr ⟨gm_96, List.forall_mem_cons.mpr ⟨gm_97, List.forall_mem_cons.mpr ⟨gm_98, List.forall_mem_cons.mpr ⟨gm_99, List.forall_mem_cons.mpr ⟨gm_100, List.forall_mem_cons.mpr ⟨gm_101, List.forall_mem_cons.mpr ⟨gm_102, List.forall_mem_cons.mpr ⟨gm_103, List.forall_mem_cons.mpr ⟨gm_104, List.forall_mem_cons.mpr ⟨gm_105, List.forall_mem_cons.mpr ⟨gm_106, List.forall_mem_cons.mpr ⟨gm_107, List.forall_mem_cons.mpr ⟨gm_108, List.forall_mem_cons.mpr ⟨gm_109, List.forall_mem_cons.mpr ⟨gm_110, List.forall_mem_cons.mpr ⟨gm_111, List.forall_mem_cons.mpr ⟨gm_112, List.forall_mem_cons.mpr ⟨gm_113, List.forall_mem_cons.mpr ⟨gm_114, List.forall_mem_cons.mpr ⟨gm_115, List.forall_mem_cons.mpr ⟨gm_116, List.forall_mem_cons.mpr ⟨gm_117, List.forall_mem_cons.mpr ⟨gm_118, List.forall_mem_cons.mpr ⟨gm_119, fun _ h => absurd h List.not_mem_nil⟩⟩⟩⟩⟩⟩⟩⟩⟩⟩⟩⟩⟩⟩⟩⟩⟩⟩⟩⟩⟩⟩⟩⟩
theorem gms_5 : ∀ m ∈ tY5, GM m := List.forall_mem_cons.mpr ⟨gm_120, List.forall_mem_cons.mpr ⟨gm_121, List.forall_mem_cons.mpr ⟨gm_122, List.forall_mem_cons.mpr ⟨gm_123, List.forall_mem_cons.mpr ⟨gm_124, List.forall_mem_cons.mpr ⟨gm_125, List.forall_mem_cons.mpr ⟨gm_126, List.forall_mem_cons.mpr ⟨gm_127, List.forall_mem_cons.mpr ⟨gm_128, List.forall_mem_cons.mpr ⟨gm_129, List.forall_mem_cons.mpr ⟨gm_130, List.forall_mem_cons.mpr ⟨gm_131, List.forall_mem_cons.mpr ⟨gm_132, List.forall_mem_cons.mpr ⟨gm_133, List.forall_mem_cons.mpr ⟨gm_134, List.forall_mem_cons.mpr ⟨gm_135, List.forall_mem_cons.mpr ⟨gm_136, List.forall_mem_cons.mpr ⟨gm_137, List.forall_mem_cons.mpr ⟨gm_138, List.forall_mem_cons.mpr ⟨gm_139, List.forall_mem_cons.mpr ⟨gm_140, List.forall_mem_cons.mpr ⟨gm_141, List.forall_mem_cons.mpr ⟨gm_142, List.forall_mem_cons.mpr ⟨gm_143, fun _ h => absurd h List.not_mem_nil⟩⟩⟩⟩⟩⟩⟩⟩⟩⟩⟩⟩⟩⟩⟩⟩⟩⟩⟩⟩⟩⟩⟩⟩
theorem gms_6 : ∀ m ∈ tY6, GM m := List.forall_mem_cons.mpr ⟨gm_144, List.forall_mem_cons.mpr ⟨gm_145, List.forall_mem_cons.mpr ⟨gm_146, List.forall_mem_cons.mpr ⟨gm_147, List.forall_mem_cons.mpr ⟨gm_148, List.forall_mem_cons.mpr ⟨gm_149, List.forall_mem_cons.mpr ⟨gm_150, List.forall_mem_cons.mpr ⟨gm_151, List.forall_mem_cons.mpr ⟨gm_152, List.forall_mem_cons.mpr ⟨gm_153, List.forall_mem_cons.mpr ⟨gm_154, List.forall_mem_cons.mpr ⟨gm_155, List.forall_mem_cons.mpr ⟨gm_156, List.forall_mem_cons.mpr ⟨gm_157, List.forall_mem_cons.mpr ⟨gm_158, List.forall_mem_cons.mpr ⟨gm_159, List.forall_mem_cons.mpr ⟨gm_160, List.forall_mem_cons.mpr ⟨gm_161, List.forall_mem_cons.mpr ⟨gm_162, List.forall_mem_cons.mpr ⟨gm_163, List.forall_mem_cons.mpr ⟨gm_164, List.forall_mem_cons.mpr ⟨gm_165, List.forall_mem_cons.mpr ⟨gm_166, List.forall_mem_cons.mpr ⟨gm_167, fun _ h => absurd h List.not_mem_nil⟩⟩⟩⟩⟩⟩⟩⟩⟩⟩⟩⟩⟩⟩⟩⟩⟩⟩⟩⟩⟩⟩⟩⟩
theorem gms_7 : ∀ m ∈ tY7, GM m := List.forall_mem_cons.mpr ⟨gm_168, List.forall_mem_cons.mpr ⟨gm_169, List.forall_mem_cons.mpr ⟨gm_170, List.forall_mem_cons.mpr ⟨gm_171, List.forall_mem_cons.mpr ⟨gm_172, List.forall_mem_cons.mpr ⟨gm_173, List.forall_mem_cons.mpr ⟨gm_174, List.forall_mem_cons.mpr ⟨gm_175, List.forall_mem_cons.mpr ⟨gm_176, List.forall_mem_cons.mpr ⟨gm_177, List.forall_mem_cons.mpr ⟨gm_178, List.forall_mem_cons.mpr ⟨gm_179, List.forall_mem_cons.mpr ⟨gm_180, List.forall_mem_cons.mpr ⟨gm_181, List.forall_mem_cons.mpr ⟨gm_182, List.forall_mem_cons.mpr ⟨gm_183, List.forall_mem_cons.mpr ⟨gm_184, List.forall_mem_cons.mpr ⟨gm_185, List.forall_mem_cons.mpr ⟨gm_186, List.forall_mem_cons.mpr ⟨gm_187, List.forall_mem_cons.mpr ⟨gm_188, List.forall_mem_cons.mpr ⟨gm_189, List.forall_mem_cons.mpr ⟨gm_190, List.forall_mem_cons.mpr ⟨gm_191, fun _ h => absurd h List.not_mem_nil⟩⟩⟩⟩⟩⟩⟩⟩⟩⟩⟩⟩⟩⟩⟩⟩⟩⟩⟩⟩⟩⟩⟩⟩
theorem gms_8 : ∀ m ∈ tY8, GM m := List.forall_mem_cons.mpr ⟨gm_192, List.forall_mem_cons.mpr ⟨gm_193, List.forall_mem_cons.mpr ⟨gm_194, List.forall_mem_cons.mpr ⟨gm_195, List.forall_mem_cons.mpr ⟨gm_196, List.forall_mem_cons.mpr ⟨gm_197, List.forall_mem_cons.mpr ⟨gm_198, List.forall_mem_cons.mpr ⟨gm_199, List.forall_mem_cons.mpr ⟨gm_200, List.forall_mem_cons.mpr ⟨gm_201, List.forall_mem_cons.mpr ⟨gm_202, List.forall_mem_cons.mpr ⟨gm_203, List.forall_mem_cons.mpr ⟨gm_204, List.forall_mem_cons.mpr ⟨gm_205, List.forall_mem_cons.mpr ⟨gm_206, List.forall_mem_cons.mpr ⟨gm_207, List.forall_mem_cons.mpr ⟨gm_208, List.forall_mem_cons.mpr ⟨gm_209, fun _ h => absurd h List.not_mem_nil⟩⟩⟩⟩⟩⟩⟩⟩⟩⟩⟩⟩⟩⟩⟩⟩⟩⟩
theorem gm_all : ∀ m ∈ tY, GM m := by
  unfold tY
  exact List.forall_mem_append.mpr ⟨gms_0, List.forall_mem_append.mpr ⟨gms_1, List.forall_mem_append.mpr ⟨gms_2, List.forall_mem_append.mpr ⟨gms_3, List.forall_mem_append.mpr ⟨gms_4, List.forall_mem_append.mpr ⟨gms_5, List.forall_mem_append.mpr ⟨gms_6, List.forall_mem_append.mpr ⟨gms_7, gms_8⟩⟩⟩⟩⟩⟩⟩⟩
end
section
theorem gm_at {id : Nat} {m : Mi} (h : tY[id]? = some m) : GM m := gm_all m (List.mem_of_getElem? h)
theorem yOf_at {id : Nat} {m : Mi} (h : tY[id]? = some m) : yOf id = m.1 := by
  unfold yOf
  rw [h]
  rfl
def okM (q : Nat × Nat × Nat × Nat) : Bool := match q.2.1 with
  | 3 => decide (tables_1[q.2.2.2]? = some (.methodLink (tN (q.1 / 10000)) (q.1 % 10000) arraycopyName))
  | 4 => decide (tables_1[q.2.2.2]? = some (.methodLink (tN (q.1 / 10000)) (q.1 % 10000) objectInit))
  | 6 => decide (tables_1[q.2.2.2]? = some (.methodLink (tN (q.1 / 10000)) (q.1 % 10000) Lib.Math.max.name))
  | 7 => decide (tables_1[q.2.2.2]? = some (.methodLink (tN (q.1 / 10000)) (q.1 % 10000) Lib.Math.min.name))
  | 5 => decide (tables_1[q.2.2.2]? = some (.methodLinkNest (tN (q.1 / 10000)) (q.1 % 10000) (yOf q.2.2.1) RX6))
  | _ => decide (tables_1[q.2.2.2]? = some (.methodLink (tN (q.1 / 10000)) (q.1 % 10000) (yOf q.2.2.1)))
set_option maxRecDepth 20000 in
theorem tM_ok : ∀ q ∈ tM, okM q = true := by decide +kernel
theorem fM_ok {o x : Nat} {q : Nat × Nat × Nat} (h : fM o x = some q) : (match q.1 with
  | 3 => tables_1[q.2.2]? = some (.methodLink (tN o) x arraycopyName)
  | 4 => tables_1[q.2.2]? = some (.methodLink (tN o) x objectInit)
  | 6 => tables_1[q.2.2]? = some (.methodLink (tN o) x Lib.Math.max.name)
  | 7 => tables_1[q.2.2]? = some (.methodLink (tN o) x Lib.Math.min.name)
  | 5 => tables_1[q.2.2]? = some (.methodLinkNest (tN o) x (yOf q.2.1) RX6)
  | _ => tables_1[q.2.2]? = some (.methodLink (tN o) x (yOf q.2.1))) := by
  obtain ⟨h1, h2, h3⟩ := look h
  have h4 := tM_ok _ h1
  unfold okM at h4
  rw [h2, h3] at h4
  split at h4
  all_goals
    dsimp only at *
    have h5 := of_decide_eq_true h4
    first
      | exact h5
      | (split
         all_goals first
           | exact h5
           | (exfalso; simp_all; done)
           | (simp_all; done))
def okN (q : Nat × Nat × Nat × Nat) : Bool := match q.2.1 with
  | 3 => true
  | 4 => true
  | 6 => true
  | 7 => true
  | _ => decide ((tY[q.2.2.1]?).map (fun m => m.2.2.2.2.2.1) ≠ some 14)
set_option maxRecDepth 20000 in
theorem tM_n : ∀ q ∈ tM, okN q = true := by decide +kernel
theorem fM_n {o x kind id p : Nat} {m : Mi} (h : fM o x = some (kind, id, p)) (hk : kind ≠ 3 ∧ kind ≠ 4 ∧ kind ≠ 6 ∧ kind ≠ 7) (hm : tY[id]? = some m) : m.2.2.2.2.2.1 ≠ 14 := by
  have h4 := tM_n _ (look h).1
  unfold okN at h4
  dsimp only at h4
  split at h4
  · exact absurd rfl hk.1
  · exact absurd rfl hk.2.1
  · exact absurd rfl hk.2.2.1
  · exact absurd rfl hk.2.2.2
  · have h5 := of_decide_eq_true h4
    rw [hm] at h5
    exact fun z => h5 (by rw [Option.map_some, z])
theorem cat_sum (l : List Value) : (l.map fun v => v.category).sum ≤ 2 * l.length := by
  induction l with
  | nil => simp
  | cons v l ih =>
    rw [List.map_cons, List.sum_cons, List.length_cons]
    rcases lv_cat v with h | h <;> omega
theorem cat_8 {l : List Value} (h : l.length ≤ 4) : (l.map fun v => v.category).sum ≤ 8 := by
  have := cat_sum l
  omega
theorem nfw : nativeFrameWords "java/lang/System" "arraycopy" 5 ≤ 30 := by decide +kernel
theorem callA_no {E : Ev} {kind id pc : Nat} {s : List Value} {G : Hp} {r} (h : callA E kind id pc s G = some (.inl r)) : False := by
  unfold callA at h
  obtain ⟨m, -, h⟩ := ov_inj h
  unfold callB at h
  obtain ⟨-, h⟩ := gd_inj h
  split at h
  · split at h
    · obtain ⟨-, h⟩ := gd_inj h
      cases h
    · cases h
  · split at h
    · obtain ⟨-, h⟩ := gd_inj h
      cases h
    · cases h
  · obtain ⟨-, h⟩ := gd_inj h
    cases h
section SNK
variable {p : Program} {l : Launch} {e : Env} {R : Room} {s : State} {m : MethodId} {args : Array Value} {below : List Frame} {meth : Method} {c : Code} {Q : State → Prop} {E : Ev} {D : va_G} {Y : Yc} {nL N0 S0 : Nat} {cx : Cx} {pc : Nat} {lo : Lo} {t : List Value} {G : Hp} {r : Nat × Lo × List Value × Hp}
theorem ss_invI {x : Nat} (hR : 1 ≤ R.frames ∧ 60 ≤ R.locals) (hM : MC p s m args meth c E D Y cx nL) (hd : decode cx.2.1 pc = .ok (.invokespecial x, 3)) (h : stpI E cx (.invokespecial x) pc lo t G = some (.inl r)) (k : WP p l e R s m args below meth c Q E D Y nL N0 S0 r.1 r.2.1 r.2.2.1 r.2.2.2) : WP p l e R s m args below meth c Q E D Y nL N0 S0 pc lo t G := by
  obtain ⟨⟨hx, hb, hml, hr, hlk⟩, hown, hini, hts, hK⟩ := hM
  have h : invI E cx.1 x pc lo t G = some (.inl r) := h
  unfold invI at h
  obtain ⟨q, hq, h2⟩ := ov_inj h
  have hf := fM_ok hq
  split at h2
  · exact (callA_no h2).elim
  · next e0 =>
    rw [e0] at hf
    obtain ⟨a, t', rfl, h3⟩ := p1r_inj h2
    obtain ⟨h4, h5⟩ := gd_inj h3
    cases nx_inj h5
    intro H locs ls hl hI hS g1 g2
    have hc := cat_8 h4
    exact W.objInit hx hb hown (hts _ (LW_t _ hf rfl)) (hts _ (LW_t 24 (by decide +kernel) rfl)) (hts _ (LW_t 25 (by decide +kernel) rfl)) rfl (hl.2.1.trans hml.symm) rfl hd hR.1 (by show 2 * 0 + _ + 12 ≤ _; omega) (k H locs ls hl hI hS g1 g2)
  · cases h2
theorem refK (k : Nat) : refKind (kT k) = false := by
  match k with
  | 0 => rfl
  | 1 => rfl
  | k + 2 => rfl
theorem ss_invS {x : Nat} (hR : 1 ≤ R.frames ∧ 60 ≤ R.locals) (hbd : r.2.2.2.1.length - N0 ≤ R.cells ∧ r.2.2.2.2 - S0 ≤ R.slots) (hM : MC p s m args meth c E D Y cx nL) (hd : decode cx.2.1 pc = .ok (.invokestatic x, 3)) (h : stpI E cx (.invokestatic x) pc lo t G = some (.inl r)) (k : WP p l e R s m args below meth c Q E D Y nL N0 S0 r.1 r.2.1 r.2.2.1 r.2.2.2) : WP p l e R s m args below meth c Q E D Y nL N0 S0 pc lo t G := by
  obtain ⟨⟨hx, hb, hml, hr, hlk⟩, hown, hini, hts, hK⟩ := hM
  have h : invS E cx.1 x pc lo t G = some (.inl r) := h
  unfold invS at h
  obtain ⟨q, hq, h2⟩ := ov_inj h
  have hf := fM_ok hq
  split at h2
  · exact (callA_no h2).elim
  · exact (callA_no h2).elim
  · next e0 =>
    rw [e0] at hf
    obtain ⟨a0, sp, a, dp, n, t', rfl, h3⟩ := pcp_inj h2
    rcases gtA_inj h3 with ⟨k0, n0, f, hg0, h4⟩ | ⟨-, h4⟩
    · rcases gtA_inj h4 with ⟨kd, n1, g, hg, h5⟩ | ⟨-, h5⟩
      · obtain ⟨⟨e1, e2, p1, p2, p3, p4, p5, p6⟩, h6⟩ := gd_inj h5
        cases nx_inj h6
        subst e1
        intro H locs ls hl hI hS g1 g2
        have hc8 := cat_8 e2
        have hnf := nfw
        have nn : ∀ z : Int32, ¬ z < 0 → z.toInt = (z.toNatClampNeg : Int) := by
          intro z hz
          have hz0 : (0 : Int) ≤ z.toInt := by
            have := Int32.not_lt.mp hz
            simpa using Int32.le_iff_toInt_le.mp this
          show z.toInt = ((z.toInt.toNat : Nat) : Int)
          omega
        obtain ⟨t0, ht⟩ := ty_k Y k0
        intro T hT X
        have hc0 : H[a0]? = some (vp_cell (yk Y k0) (n0, .inl f)) := hI.at hg0
        have hc1 : H[a]? = some (vp_cell (yk Y k0) (n1, .inl g)) := hI.at hg
        obtain ⟨-, kk0, hk0, cm0, hkk0⟩ := (hK.1.2 t0 _ ht).1 n0 (fun j => .int (f j))
        obtain ⟨-, kk1, hk1, cm1, hkk1⟩ := (hK.1.2 t0 _ ht).1 n1 (fun j => .int (g j))
        obtain ⟨vm', X', step⟩ := X.arraycopy hx hown (hts _ (LW_t _ hf rfl)) (hts _ (LW_t 373 (by decide +kernel) rfl)) (hts _ (LW_t 372 (by decide +kernel) rfl)) (hts _ (LW_t 16 (by decide +kernel) rfl)) (src := a0) (dst := a) (cs := vp_cell (yk Y k0) (n0, .inl f)) (cd := vp_cell (yk Y k0) (n1, .inl g)) (srcPos := sp) (destPos := dp) (n := n) (by rw [hT]; exact hc0) (by rw [hT]; exact hc1)
          (fun _ h => by cases h) (fun _ h => by cases h) (fun h => by cases h) (fun h => by cases h) hk0 hk1 hkk0 hkk1 (by simp [refK]) p1 p2 p3
          (by rw [nn sp p1, nn n p3]; show ¬ _ > ((arrV (yk Y k0) n0 (fun j => .int (f j))).slots.size : Int); rw [arrV_size]; omega)
          (by rw [nn dp p2, nn n p3]; show ¬ _ > ((arrV (yk Y k0) n1 (fun j => .int (g j))).slots.size : Int); rw [arrV_size]; omega)
          (fun vm₁ _ i hi => by
            have e : (vp_cell (yk Y k0) (n0, .inl f)).slots.getD (sp.toNatClampNeg + i) .null = .int (f (sp.toNatClampNeg + i)) := by
              show (arrV (yk Y k0) n0 (fun j => .int (f j))).slots.getD _ _ = _
              rw [Array.getD_eq_getD_getElem?, arrV_read _ _ (by omega)]
              rfl
            refine ⟨?_, ?_⟩
            · rw [e]
              exact p6 i hi
            · rw [e]
              exact trivial)
          (g := F0 m pc ls (.int n :: .int dp :: .ref a :: .int sp :: .ref a0 :: t')) rfl (by rw [hml]; exact hl.2.1) (rest := t') rfl (by rw [hb]; exact hd) hR.1 (by show 2 * 0 + _ + _ ≤ _; omega)
        have e1 : copied (vp_cell (yk Y k0) (n0, .inl f)) (vp_cell (yk Y k0) (n1, .inl g)) sp dp n = vp_cell (yk Y k0) (n1, .inl (va_cpy f g sp.toNatClampNeg dp.toNatClampNeg n.toNatClampNeg)) := va_copied (fun z => .int z) (yk Y k0) (yk Y k0) f g p4
        rw [e1] at X' step
        have hlt : a < H.size := (Array.getElem?_eq_some_iff.mp hc1).1
        have hheap : ((T.setVm vm').setCell a (vp_cell (yk Y k0) (n1, .inl (va_cpy f g sp.toNatClampNeg dp.toNatClampNeg n.toNatClampNeg)))).heap = H.setIfInBounds a (vp_cell (yk Y k0) (n1, .inl (va_cpy f g sp.toNatClampNeg dp.toNatClampNeg n.toNatClampNeg))) := by rw [← hT]; rfl
        have oq : ∀ q : Nat, q ≠ a → (H.setIfInBounds a (vp_cell (yk Y k0) (n1, .inl (va_cpy f g sp.toNatClampNeg dp.toNatClampNeg n.toNatClampNeg))))[q]? = H[q]? := fun q hq => by simp [Array.getElem?_setIfInBounds, Ne.symm hq]
        have hAa : AA E a := (gt_at (Y := Y) hg).2
        have hS2 : va_S (AA E) s.heap (H.setIfInBounds a (vp_cell (yk Y k0) (n1, .inl (va_cpy f g sp.toNatClampNeg dp.toNatClampNeg n.toNatClampNeg)))) (locs ++ ((vp_cell (yk Y k0) (n0, .inl f)).stretch sp.toNatClampNeg n.toNatClampNeg).zipIdx.map fun q => ⟨a, dp.toNatClampNeg + q.2⟩) := ⟨by simp; exact hS.1, fun q g1 g2 => by
            rw [oq q (fun e => g2 (by rw [e]; exact hAa))]
            exact hS.2.1 q g1 g2, fun q hq => by
            rcases List.mem_append.mp hq with h | h
            · exact hS.2.2 q h
            · obtain ⟨z, -, hz⟩ := List.mem_map.mp h
              rw [← hz]
              exact hAa⟩
        have hI2 : IV E D Y (st E G a (cA k0 n1 (va_cpy f g sp.toNatClampNeg dp.toNatClampNeg n.toNatClampNeg))) (H.setIfInBounds a (vp_cell (yk Y k0) (n1, .inl (va_cpy f g sp.toNatClampNeg dp.toNatClampNeg n.toNatClampNeg)))) := hI.put hg (show (H.setIfInBounds a _)[a]? = some _ by simp [Array.getElem?_setIfInBounds, hlt]) (by simp) oq
        have kk := k _ _ ls hl hI2 hS2 (by rw [st_len.1]; exact g1) (by rw [st_len.2]; exact g2)
        dsimp only at kk
        rw [st_len.1, st_len.2] at kk
        obtain ⟨t9, a1, b1⟩ := kk _ hheap X'
        exact ⟨t9, step t9 a1, b1⟩
      · cases h5
    · cases h4
  · next e0 =>
    rw [e0] at hf
    obtain ⟨a, b, t', rfl, h3⟩ := p2i_inj h2
    obtain ⟨h4, h5⟩ := gd_inj h3
    cases nx_inj h5
    intro H locs ls hl hI hS g1 g2
    have hc := cat_8 h4
    exact va_mmax hx hb (hml.trans hl.2.1.symm) hown (hts _ (LW_t _ hf rfl)) (hts _ (LW_t 57 (by decide +kernel) rfl)) (hts _ (LW_t 5 (by decide +kernel) rfl)) (hts _ (LW_t 58 (by decide +kernel) rfl)) hR.1 (by omega) hbd.1 hbd.2 hd (k H locs ls hl hI hS g1 g2)
  · next e0 =>
    rw [e0] at hf
    obtain ⟨a, b, t', rfl, h3⟩ := p2i_inj h2
    obtain ⟨h4, h5⟩ := gd_inj h3
    cases nx_inj h5
    intro H locs ls hl hI hS g1 g2
    have hc := cat_8 h4
    exact va_mmin hx hb (hml.trans hl.2.1.symm) hown (hts _ (LW_t _ hf rfl)) (hts _ (LW_t 280 (by decide +kernel) rfl)) (hts _ (LW_t 5 (by decide +kernel) rfl)) (hts _ (LW_t 281 (by decide +kernel) rfl)) hR.1 (by omega) hbd.1 hbd.2 hd (k H locs ls hl hI hS g1 g2)
  · cases h2
end SNK
end
section
theorem outer_eq (c : ClassId) (N h0 : Nat) : ∀ i : Nat, Jvm.Free.Multi.outerC c N h0 i = arrV c N (fun j => va_rf (if j < i then some (h0 + 1 + j) else none)) := by
  intro i
  induction i with
  | zero =>
    show ({ cls := c, slots := Array.replicate N .null, vm := .none } : Cell) = _
    rw [arrV_new]
    refine congrArg (arrV c N) (funext fun j => ?_)
    simp [va_rf]
  | succ i ih =>
    show (Jvm.Free.Multi.outerC c N h0 i).setSlot i (.ref (h0 + 1 + i)) = _
    rw [ih, arrV_store]
    refine congrArg (arrV c N) (funext fun j => ?_)
    by_cases e : j = i
    · subst e
      simp [updV, va_rf]
    · by_cases h : j < i
      · simp [updV, e, h, Nat.lt_succ_of_lt h]
      · simp [updV, e, h, show ¬ j < i + 1 by omega]
section SNM
variable {p : Program} {l : Launch} {e : Env} {R : Room} {s : State} {m : MethodId} {args : Array Value} {below : List Frame} {meth : Method} {c : Code} {Q : State → Prop} {E : Ev} {D : va_G} {Y : Yc} {nL N0 S0 : Nat} {cx : Cx} {pc : Nat} {lo : Lo} {t : List Value} {G : Hp} {r : Nat × Lo × List Value × Hp}
theorem ss_mna {x dm : Nat} (hM : MC p s m args meth c E D Y cx nL) (hd : decode cx.2.1 pc = .ok (.multianewarray x dm, 4)) (h : stpI E cx (.multianewarray x dm) pc lo t G = some (.inl r)) (hbd : r.2.2.2.1.length - N0 ≤ R.cells ∧ r.2.2.2.2 - S0 ≤ R.slots) (k : WP p l e R s m args below meth c Q E D Y nL N0 S0 r.1 r.2.1 r.2.2.1 r.2.2.2) : WP p l e R s m args below meth c Q E D Y nL N0 S0 pc lo t G := by
  obtain ⟨⟨hx, hb, hml, hr, hlk⟩, hown, hini, hts, hK⟩ := hM
  match dm, hd, h with
  | 0, _, h => cases h
  | 1, _, h => cases h
  | dm + 3, _, h => cases h
  | 2, hd, h =>
    obtain ⟨n, kz, t', rfl, h2⟩ := p2i_inj h
    obtain ⟨⟨ho, hxx, hn, hk, hn1, hk1⟩, h3⟩ := gd_inj h2
    cases nx_inj h3
    obtain ⟨o, cc⟩ := cx
    have ho : o = 5 := ho
    subst ho
    subst hxx
    intro H locs ls hl hI hS g1 g2
    have b1 : G.1.length + 1 + n.toNatClampNeg - N0 ≤ R.cells := by
      have := hbd.1
      simp only [psh, pshs, List.length_append, List.length_cons, List.length_nil, List.length_replicate] at this
      exact this
    have b2 : G.2 + n.toNatClampNeg + n.toNatClampNeg * kz.toNatClampNeg - S0 ≤ R.slots := by
      have := hbd.2
      simp only [psh, pshs] at this
      exact this
    intro T hT X
    obtain ⟨vm₁, cA, comp, -, fA, fC, -, -, X', step⟩ := X.multianewarray2F (ty := .byte) (own := RX5) (index := 15) hx hown (hts _ (LW_t 131 (by decide +kernel) rfl)) hK.2.2.1.2.2 (hts _ (LW_t 66 (by decide +kernel) rfl)) (g := F0 m pc ls (.int kz :: .int n :: t')) rfl (by rw [hb]; exact hd) rfl hn hk (by omega) (by show kz.toNatClampNeg * 1 ≤ _; omega) (by omega) rfl rfl (by omega) (by omega)
    have ecA : cA = yr Y 2 := Option.some.inj (fA.symm.trans (hK.1.2 5 _ rfl).2)
    have eco : comp = yk Y 1 := Option.some.inj (fC.symm.trans (hK.1.2 1 _ rfl).2)
    subst ecA
    subst eco
    generalize hF : Jvm.Free.Multi.fill (T.setVm vm₁) (yr Y 2) (yk Y 1) n.toNatClampNeg kz.toNatClampNeg (defaultValue .byte) n.toNatClampNeg = F at X' step
    have hTh : (T.setVm vm₁).heap = H := hT
    obtain ⟨f1, f2, -, -⟩ := Jvm.Free.Multi.fill_facts (T.setVm vm₁) (yr Y 2) (yk Y 1) n.toNatClampNeg kz.toNatClampNeg (defaultValue .byte) n.toNatClampNeg
    rw [hF, hTh] at f1 f2
    have hold : ∀ x : Nat, x < H.size → F.heap[x]? = H[x]? := fun x hx => by
      have := Jvm.Free.Multi.fill_old (T.setVm vm₁) (yr Y 2) (yk Y 1) n.toNatClampNeg kz.toNatClampNeg (defaultValue .byte) (a := x) (by rw [hTh]; exact hx) n.toNatClampNeg
      rw [hF, hTh] at this
      exact this
    have hrow : ∀ j : Nat, j < n.toNatClampNeg → F.heap[H.size + 1 + j]? = some (Jvm.Free.Multi.innerC (yk Y 1) kz.toNatClampNeg (defaultValue .byte)) := fun j hj => by
      have := Jvm.Free.Multi.fill_inner (T.setVm vm₁) (yr Y 2) (yk Y 1) n.toNatClampNeg kz.toNatClampNeg (defaultValue .byte) n.toNatClampNeg j hj
      rw [hF, hTh] at this
      exact this
    have hsz : H.size = eB E + G.1.length := hI.2
    have hI2 : IV E D Y (pshs (psh G (cR 2 n.toNatClampNeg (fun i => if i < n.toNatClampNeg then some (nxA E G + 1 + i) else none)) n.toNatClampNeg) n.toNatClampNeg kz.toNatClampNeg) F.heap := by
      refine ⟨?_, ?_⟩
      · intro i q hq
        rw [trW_get] at hq
        show va_at D clsT q F.heap
        simp only [psh, pshs] at hq
        by_cases h1 : i < G.1.length
        · rw [List.append_assoc, List.getElem?_append_left h1] at hq
          have hq2 : (trW Y (eB E) G.1)[i]? = some q := by rw [trW_get]; exact hq
          exact (hI.1 i q hq2).kept (hold _ (hI.1 i q hq2).lt)
        · by_cases h2 : i = G.1.length
          · subst h2
            rw [List.append_assoc, List.getElem?_append_right (Nat.le_refl _), Nat.sub_self] at hq
            cases hq
            show F.heap[eB E + G.1.length]? = some (vp_cell (yr Y 2) (n.toNatClampNeg, .inr (.inr (.inr (.inr (fun i => if i < n.toNatClampNeg then some (nxA E G + 1 + i) else none))))))
            rw [← hsz, f2, outer_eq, vp_cell_q, hsz]
            rfl
          · rw [List.getElem?_append_right (by simp; omega), List.getElem?_replicate] at hq
            split at hq
            · next hlt =>
              cases hq
              simp only [List.length_append, List.length_cons, List.length_nil] at hlt
              show F.heap[eB E + i]? = some (vp_cell (yk Y 1) (kz.toNatClampNeg, .inl (fun _ => 0)))
              have e1 : eB E + i = H.size + 1 + (i - (G.1.length + 1)) := by omega
              rw [e1, hrow _ hlt]
              show some ({ cls := _, slots := Array.replicate _ _, vm := .none } : Cell) = _
              rw [arrV_new]
              rfl
            · cases hq
      · rw [f1, hsz]
        simp only [psh, pshs, List.length_append, List.length_cons, List.length_nil, List.length_replicate]
        omega
    have kk := k F.heap locs ls hl hI2 (hS.psh (by omega) hold) (by simp only [psh, pshs, List.length_append]; omega) (by simp only [psh, pshs]; omega)
    dsimp only at kk
    have c1 : (pshs (psh G (cR 2 n.toNatClampNeg (fun i => if i < n.toNatClampNeg then some (nxA E G + 1 + i) else none)) n.toNatClampNeg) n.toNatClampNeg kz.toNatClampNeg).1.length - N0 = G.1.length - N0 + 1 + n.toNatClampNeg := by
      simp only [psh, pshs, List.length_append, List.length_cons, List.length_nil, List.length_replicate]
      omega
    have c2 : (pshs (psh G (cR 2 n.toNatClampNeg (fun i => if i < n.toNatClampNeg then some (nxA E G + 1 + i) else none)) n.toNatClampNeg) n.toNatClampNeg kz.toNatClampNeg).2 - S0 = G.2 - S0 + n.toNatClampNeg + n.toNatClampNeg * kz.toNatClampNeg := by
      simp only [psh, pshs]
      omega
    rw [c1, c2] at kk
    obtain ⟨t9, a1, b9⟩ := kk F rfl X'
    refine ⟨t9, step t9 ?_, b9⟩
    have e9 : T.heap.size = nxA E G := by rw [hT]; exact hI.2
    rw [e9]
    exact a1
end SNM
/-! THE WHOLE: a run of the abstract machine is one of the machine -/
section SNA
variable {p : Program} {l : Launch} {e : Env} {R : Room} {s : State} {m : MethodId} {args : Array Value} {below : List Frame} {meth : Method} {c : Code} {Q : State → Prop} {E : Ev} {D : va_G} {Y : Yc} {nL N0 S0 : Nat} {cx : Cx} {pc : Nat} {lo : Lo} {t : List Value} {G : Hp} {r : Nat × Lo × List Value × Hp}
set_option maxHeartbeats 4000000 in
theorem ss_all (hR : 1 ≤ R.frames ∧ 60 ≤ R.locals) (hM : MC p s m args meth c E D Y cx nL) {i : Instr} {n : Nat} (hd : decode cx.2.1 pc = .ok (i, n)) (hl : lenOk i n = true) (h : stpI E cx i pc lo t G = some (.inl r)) (hbd : r.2.2.2.1.length - N0 ≤ R.cells ∧ r.2.2.2.2 - S0 ≤ R.slots) (k : WP p l e R s m args below meth c Q E D Y nL N0 S0 r.1 r.2.1 r.2.2.1 r.2.2.2) : WP p l e R s m args below meth c Q E D Y nL N0 S0 pc lo t G := by
  cases i
  case iconst _ => cases (eq_of_beq hl : n = 1); exact ss_iconst hM hd h k
  case bipush _ => cases (eq_of_beq hl : n = 2); exact ss_bipush hM hd h k
  case sipush _ => cases (eq_of_beq hl : n = 3); exact ss_sipush hM hd h k
  case lconst _ => cases (eq_of_beq hl : n = 1); exact ss_lconst hM hd h k
  case ldc _ => cases (eq_of_beq hl : n = 2); exact ss_ldc hM hd h k
  case ldc_w _ => cases (eq_of_beq hl : n = 3); exact ss_ldcw hM hd h k
  case ldc2_w _ => cases (eq_of_beq hl : n = 3); exact ss_ldc2 hM hd h k
  case iload_n _ => cases (eq_of_beq hl : n = 1); exact ss_iload_n hM hd h k
  case iload _ => cases (eq_of_beq hl : n = 2); exact ss_iload hM hd h k
  case lload_n _ => cases (eq_of_beq hl : n = 1); exact ss_lload_n hM hd h k
  case lload _ => cases (eq_of_beq hl : n = 2); exact ss_lload hM hd h k
  case aload_n _ => cases (eq_of_beq hl : n = 1); exact ss_aload_n hM hd h k
  case aload _ => cases (eq_of_beq hl : n = 2); exact ss_aload hM hd h k
  case istore_n _ => cases (eq_of_beq hl : n = 1); exact ss_istore_n hM hd h k
  case istore _ => cases (eq_of_beq hl : n = 2); exact ss_istore hM hd h k
  case astore_n _ => cases (eq_of_beq hl : n = 1); exact ss_astore_n hM hd h k
  case astore _ => cases (eq_of_beq hl : n = 2); exact ss_astore hM hd h k
  case lstore_n _ => cases (eq_of_beq hl : n = 1); exact ss_lstore_n hM hd h k
  case lstore _ => cases (eq_of_beq hl : n = 2); exact ss_lstore hM hd h k
  case iinc _ _ => cases (eq_of_beq hl : n = 3); exact ss_iinc hM hd h k
  case goto _ => cases (eq_of_beq hl : n = 3); exact ss_goto hM hd h k
  case tableswitch _ _ _ _ => exact ss_tsw hM hd h k
  case getfield _ => cases (eq_of_beq hl : n = 3); exact ss_getfield hM hd h k
  case putfield _ => cases (eq_of_beq hl : n = 3); exact ss_putfield hM hd h k
  case getstatic _ => cases (eq_of_beq hl : n = 3); exact ss_getstatic hM hd h k
  case iadd  => cases (eq_of_beq hl : n = 1); exact ss_iadd hM hd h k
  case isub  => cases (eq_of_beq hl : n = 1); exact ss_isub hM hd h k
  case imul  => cases (eq_of_beq hl : n = 1); exact ss_imul hM hd h k
  case iand  => cases (eq_of_beq hl : n = 1); exact ss_iand hM hd h k
  case ior  => cases (eq_of_beq hl : n = 1); exact ss_ior hM hd h k
  case ixor  => cases (eq_of_beq hl : n = 1); exact ss_ixor hM hd h k
  case ishl  => cases (eq_of_beq hl : n = 1); exact ss_ishl hM hd h k
  case ishr  => cases (eq_of_beq hl : n = 1); exact ss_ishr hM hd h k
  case iushr  => cases (eq_of_beq hl : n = 1); exact ss_iushr hM hd h k
  case idiv  => cases (eq_of_beq hl : n = 1); exact ss_idiv hM hd h k
  case irem  => cases (eq_of_beq hl : n = 1); exact ss_irem hM hd h k
  case ladd  => cases (eq_of_beq hl : n = 1); exact ss_ladd hM hd h k
  case lsub  => cases (eq_of_beq hl : n = 1); exact ss_lsub hM hd h k
  case lmul  => cases (eq_of_beq hl : n = 1); exact ss_lmul hM hd h k
  case land  => cases (eq_of_beq hl : n = 1); exact ss_land hM hd h k
  case lor  => cases (eq_of_beq hl : n = 1); exact ss_lor hM hd h k
  case ldiv  => cases (eq_of_beq hl : n = 1); exact ss_ldiv hM hd h k
  case lrem  => cases (eq_of_beq hl : n = 1); exact ss_lrem hM hd h k
  case lushr  => cases (eq_of_beq hl : n = 1); exact ss_lushr hM hd h k
  case lshl  => cases (eq_of_beq hl : n = 1); exact ss_lshl hM hd h k
  case lcmp  => cases (eq_of_beq hl : n = 1); exact ss_lcmp hM hd h k
  case i2l  => cases (eq_of_beq hl : n = 1); exact ss_i2l hM hd h k
  case l2i  => cases (eq_of_beq hl : n = 1); exact ss_l2i hM hd h k
  case i2b  => cases (eq_of_beq hl : n = 1); exact ss_i2b hM hd h k
  case i2c  => cases (eq_of_beq hl : n = 1); exact ss_i2c hM hd h k
  case dup  => cases (eq_of_beq hl : n = 1); exact ss_dup hM hd h k
  case pop  => cases (eq_of_beq hl : n = 1); exact ss_pop hM hd h k
  case iaload  => cases (eq_of_beq hl : n = 1); exact ss_iaload hM hd h k
  case baload  => cases (eq_of_beq hl : n = 1); exact ss_baload hM hd h k
  case aaload  => cases (eq_of_beq hl : n = 1); exact ss_aaload hM hd h k
  case iastore  => cases (eq_of_beq hl : n = 1); exact ss_iastore hM hd h k
  case bastore  => cases (eq_of_beq hl : n = 1); exact ss_bastore hM hd h k
  case aastore  => cases (eq_of_beq hl : n = 1); exact ss_aastore hM hd h k
  case arraylength  => cases (eq_of_beq hl : n = 1); exact ss_alen hM hd h k
  case newarray _ => cases (eq_of_beq hl : n = 2); exact ss_newarray hM hd h hbd k
  case anewarray _ => cases (eq_of_beq hl : n = 3); exact ss_anewarray hM hd h hbd k
  case new _ => cases (eq_of_beq hl : n = 3); exact ss_new hM hd h hbd k
  case invokespecial _ => cases (eq_of_beq hl : n = 3); exact ss_invI hR hM hd h k
  case invokestatic _ => cases (eq_of_beq hl : n = 3); exact ss_invS hR hbd hM hd h k
  case ifCond cnd off =>
    cases (eq_of_beq hl : n = 3)
    cases cnd
    · exact ss_ifeq hM hd h k
    · exact ss_ifne hM hd h k
    · exact ss_iflt hM hd h k
    · exact ss_ifge hM hd h k
    · exact ss_ifgt hM hd h k
    · exact ss_ifle hM hd h k
  case if_icmp cnd off =>
    cases (eq_of_beq hl : n = 3)
    cases cnd
    · exact ss_ceq hM hd h k
    · exact ss_cne hM hd h k
    · exact ss_clt hM hd h k
    · exact ss_cge hM hd h k
    · exact ss_cgt hM hd h k
    · exact ss_cle hM hd h k
  case invokevirtual x =>
    exfalso
    have h : invV E cx.1 x pc t G = some (.inl r) := h
    unfold invV at h
    obtain ⟨q, -, h2⟩ := ov_inj h
    split at h2
    · exact callA_no h2
    · cases h2
  case multianewarray x dm =>
    cases (eq_of_beq hl : n = 4)
    exact ss_mna hM hd h hbd k
  case ireturn =>
    exfalso
    have h : (match (generalizing := false) t with | [.int v] => (match cx.2.2.2 with | some ty => gd (narrow ty (.int v) = .int v) inferInstance (some (Sum.inr (Sum.inr (some (Value.int v))))) | none => none) | _ => none) = some (Sum.inl r) := h
    repeat' split at h
    all_goals first | (cases h; done) | (have h2 := (gd_inj h).2; cases h2; done)
  case lreturn =>
    exfalso
    have h : (match (generalizing := false) t with | [.long v] => gd (cx.2.2.2 = some .long) inferInstance (some (Sum.inr (Sum.inr (some (Value.long v))))) | _ => none) = some (Sum.inl r) := h
    repeat' split at h
    all_goals first | (cases h; done) | (have h2 := (gd_inj h).2; cases h2; done)
  case areturn =>
    exfalso
    have h : ((match (generalizing := false) t with | [.ref v] => (match cx.2.2.2 with | some (.object _) => some (Sum.inr (Sum.inr (some (Value.ref v)))) | some (.array _) => some (Sum.inr (Sum.inr (some (Value.ref v)))) | _ => none) | _ => none) : Option Rs) = some (Sum.inl r) := h
    repeat' split at h
    all_goals cases h
  case return_ =>
    exfalso
    have h : ((match (generalizing := false) t with | [] => gd (cx.2.2.2 = none) inferInstance (some (Sum.inr (Sum.inr none))) | _ => none) : Option Rs) = some (Sum.inl r) := h
    repeat' split at h
    all_goals first | (cases h; done) | (have h2 := (gd_inj h).2; cases h2; done)
  all_goals
    exfalso
    cases h
end SNA
end
section
/-- a piece that is no call and no end -/
def isN (x : Option Rs) : Prop := ∀ q, x ≠ some (.inr q)
theorem isN_none : isN none := fun q h => by cases h
theorem isN_nx {pc lo s G} : isN (nx pc lo s G) := fun q h => by cases h
theorem isN_gd {c : Prop} {d : Decidable c} {x : Option Rs} (h : isN x) : isN (gd c d x) := fun q e => h q (gd_inj e).2
theorem isN_ov {α : Type} {x : Option α} {f : α → Option Rs} (h : ∀ v, isN (f v)) : isN (ov x f) := fun q e => by
  obtain ⟨v, -, h2⟩ := ov_inj e
  exact h v q h2
theorem isN_ite {c : Prop} [Decidable c] {x y : Option Rs} (h : isN x) (g : isN y) : isN (if c then x else y) := by
  by_cases hc : c
  · rw [if_pos hc]; exact h
  · rw [if_neg hc]; exact g
theorem isN_jmp {pc off lo s G} : isN (jmp pc off lo s G) := isN_gd isN_nx
theorem isN_bra {b pc off lo s G} : isN (bra b pc off lo s G) := by
  unfold bra
  refine isN_gd ?_
  cases b
  · exact isN_nx
  · exact isN_nx
theorem isN_p1i {s f} (h : ∀ x r, isN (f x r)) : isN (p1i s f) := by unfold p1i; split; exact h _ _; exact isN_none
theorem isN_p2i {s f} (h : ∀ x y r, isN (f x y r)) : isN (p2i s f) := by unfold p2i; split; exact h _ _ _; exact isN_none
theorem isN_p1l {s f} (h : ∀ x r, isN (f x r)) : isN (p1l s f) := by unfold p1l; split; exact h _ _; exact isN_none
theorem isN_p2l {s f} (h : ∀ x y r, isN (f x y r)) : isN (p2l s f) := by unfold p2l; split; exact h _ _ _; exact isN_none
theorem isN_pli {s f} (h : ∀ x y r, isN (f x y r)) : isN (pli s f) := by unfold pli; split; exact h _ _ _; exact isN_none
theorem isN_p1r {s f} (h : ∀ x r, isN (f x r)) : isN (p1r s f) := by unfold p1r; split; exact h _ _; exact isN_none
theorem isN_pir {s f} (h : ∀ x y r, isN (f x y r)) : isN (pir s f) := by unfold pir; split; exact h _ _ _; exact isN_none
theorem isN_piir {s f} (h : ∀ x y z r, isN (f x y z r)) : isN (piir s f) := by unfold piir; split; exact h _ _ _ _; exact isN_none
theorem isN_prir {s f} (h : ∀ x y z r, isN (f x y z r)) : isN (prir s f) := by unfold prir; split; exact h _ _ _ _; exact isN_none
theorem isN_pvr {s f} (h : ∀ x y r, isN (f x y r)) : isN (pvr s f) := by unfold pvr; split; exact h _ _ _; exact isN_none
theorem isN_gtA {E : Ev} {G : Hp} {a f g} (h : ∀ x y z, isN (f x y z)) (k : isN g) : isN (gtA E G a f g) := by unfold gtA; split; exact h _ _ _; exact k; exact isN_none
theorem isN_gtR {E : Ev} {G : Hp} {a f} (h : ∀ x y z, isN (f x y z)) : isN (gtR E G a f) := by unfold gtR; split; exact h _ _ _; exact isN_none
theorem isN_gtO {E : Ev} {G : Hp} {a f g} (h : ∀ x y, isN (f x y)) (k : isN g) : isN (gtO E G a f g) := by unfold gtO; split; exact h _ _; exact k; exact isN_none
theorem isN_ld {p pc i lo s G} : isN (ld p pc i lo s G) := isN_ov fun _ => isN_gd isN_nx
theorem isN_sto1 {p pc i lo s G} : isN (sto1 p pc i lo s G) := by unfold sto1; split; exact isN_gd (isN_ov fun _ => isN_nx); exact isN_none
theorem isN_sto2 {pc i lo s G} : isN (sto2 pc i lo s G) := isN_p1l fun _ _ => isN_ov fun _ => isN_nx
set_option maxHeartbeats 4000000 in
theorem inr_only {E : Ev} {cx : Cx} {i : Instr} {pc : Nat} {lo : Lo} {t : List Value} {G : Hp} : isN (stpI E cx i pc lo t G) ∨ (∃ x, i = .invokestatic x) ∨ (∃ x, i = .invokevirtual x) ∨ (∃ x, i = .invokespecial x) ∨ i = .ireturn ∨ i = .lreturn ∨ i = .areturn ∨ i = .return_ := by
  unfold stpI
  split
  all_goals first
    | exact Or.inr (Or.inl ⟨_, rfl⟩)
    | exact Or.inr (Or.inr (Or.inl ⟨_, rfl⟩))
    | exact Or.inr (Or.inr (Or.inr (Or.inl ⟨_, rfl⟩)))
    | exact Or.inr (Or.inr (Or.inr (Or.inr (Or.inl rfl))))
    | exact Or.inr (Or.inr (Or.inr (Or.inr (Or.inr (Or.inl rfl)))))
    | exact Or.inr (Or.inr (Or.inr (Or.inr (Or.inr (Or.inr (Or.inl rfl))))))
    | exact Or.inr (Or.inr (Or.inr (Or.inr (Or.inr (Or.inr (Or.inr rfl))))))
    | refine Or.inl ?_
  all_goals first
    | exact isN_none
    | exact isN_nx
    | exact isN_gd isN_nx
    | exact isN_ov fun _ => isN_nx
    | exact isN_ld
    | exact isN_sto1
    | exact isN_sto2
    | exact isN_jmp
    | exact isN_p2i fun _ _ _ => isN_nx
    | exact isN_p2i fun _ _ _ => isN_gd isN_nx
    | exact isN_p2l fun _ _ _ => isN_nx
    | exact isN_p2l fun _ _ _ => isN_gd isN_nx
    | exact isN_pli fun _ _ _ => isN_nx
    | exact isN_p1i fun _ _ => isN_nx
    | exact isN_p1l fun _ _ => isN_nx
    | exact isN_p1i fun _ _ => isN_bra
    | exact isN_p2i fun _ _ _ => isN_bra
    | exact isN_p1i fun _ _ => isN_ite isN_jmp (isN_ov fun _ => isN_jmp)
    | exact isN_pvr fun _ _ _ => isN_ov fun _ => isN_gtO (fun _ _ => isN_gd isN_nx) isN_none
    | exact isN_pir fun _ _ _ => isN_gtA (fun _ _ _ => isN_gd isN_nx) (isN_ov fun _ => isN_gd isN_nx)
    | exact isN_pir fun _ _ _ => isN_gtR fun _ _ _ => isN_gd (isN_ov fun _ => isN_nx)
    | exact isN_piir fun _ _ _ _ => isN_gtA (fun _ _ _ => isN_gd isN_nx) isN_none
    | exact isN_prir fun _ _ _ _ => isN_gtR fun _ _ _ => isN_gd (isN_gtO (fun _ _ => isN_gd isN_nx) isN_none)
    | exact isN_p1i fun _ _ => isN_ov fun _ => isN_gd isN_nx
    | exact isN_ov fun _ => isN_gd isN_nx
    | skip
  · split
    · exact isN_nx
    · exact isN_ov fun _ => isN_nx
  · refine isN_ov fun v => ?_
    split
    · exact isN_ov fun _ => isN_nx
    · exact isN_none
  · split
    · exact isN_gd isN_nx
    · exact isN_none
  · split
    · exact isN_gd isN_nx
    · exact isN_none
  · refine isN_p1r fun a r => ?_
    split
    · exact isN_gtO (fun _ _ => isN_gd (isN_ov fun _ => isN_nx)) isN_none
    · exact isN_gtO (fun _ _ => isN_none) (isN_ov fun _ => isN_nx)
  · refine isN_p1r fun a r => ?_
    split
    · exact isN_nx
    · exact isN_gd isN_nx
    · exact isN_none
    · exact isN_ov fun _ => isN_nx
  · refine isN_p1i fun n r => isN_gd ?_
    split
    · exact isN_nx
    · exact isN_nx
    · exact isN_nx
    · exact isN_none
theorem callA_nr {E : Ev} {kind id pc : Nat} {s : List Value} {G : Hp} {v} (h : callA E kind id pc s G = some (.inr (.inr v))) : False := by
  unfold callA at h
  obtain ⟨m, -, h⟩ := ov_inj h
  unfold callB at h
  obtain ⟨-, h⟩ := gd_inj h
  split at h
  · split at h
    · obtain ⟨-, h⟩ := gd_inj h
      cases h
    · cases h
  · split at h
    · obtain ⟨-, h⟩ := gd_inj h
      cases h
    · cases h
  · obtain ⟨-, h⟩ := gd_inj h
    cases h
theorem ret_nc {E : Ev} {cx : Cx} {i : Instr} {pc : Nat} {lo : Lo} {t : List Value} {G : Hp} {r : Nat × List Value × Nat × List Value} (hi : i = .ireturn ∨ i = .lreturn ∨ i = .areturn ∨ i = .return_) (h0 : stpI E cx i pc lo t G = some (.inr (.inl r))) : False := by
  rcases hi with rfl | rfl | rfl | rfl
  · have h : (match (generalizing := false) t with | [.int v] => (match cx.2.2.2 with | some ty => gd (narrow ty (.int v) = .int v) inferInstance (some (Sum.inr (Sum.inr (some (Value.int v))))) | none => none) | _ => none) = some (Sum.inr (Sum.inl r)) := h0
    clear h0
    repeat' split at h
    all_goals first | (cases h; done) | (have h2 := (gd_inj h).2; cases h2; done)
  · have h : (match (generalizing := false) t with | [.long v] => gd (cx.2.2.2 = some .long) inferInstance (some (Sum.inr (Sum.inr (some (Value.long v))))) | _ => none) = some (Sum.inr (Sum.inl r)) := h0
    clear h0
    repeat' split at h
    all_goals first | (cases h; done) | (have h2 := (gd_inj h).2; cases h2; done)
  · have h : ((match (generalizing := false) t with | [.ref v] => (match cx.2.2.2 with | some (.object _) => some (Sum.inr (Sum.inr (some (Value.ref v)))) | some (.array _) => some (Sum.inr (Sum.inr (some (Value.ref v)))) | _ => none) | _ => none) : Option Rs) = some (Sum.inr (Sum.inl r)) := h0
    clear h0
    repeat' split at h
    all_goals cases h
  · have h : ((match (generalizing := false) t with | [] => gd (cx.2.2.2 = none) inferInstance (some (Sum.inr (Sum.inr none))) | _ => none) : Option Rs) = some (Sum.inr (Sum.inl r)) := h0
    clear h0
    repeat' split at h
    all_goals first | (cases h; done) | (have h2 := (gd_inj h).2; cases h2; done)
theorem ret_only {E : Ev} {cx : Cx} {i : Instr} {pc : Nat} {lo : Lo} {t : List Value} {G : Hp} {v : Option Value} (h : stpI E cx i pc lo t G = some (.inr (.inr v))) : (i = .ireturn ∧ ∃ x ty, t = [.int x] ∧ v = some (.int x) ∧ cx.2.2.2 = some ty ∧ narrow ty (.int x) = .int x) ∨ (i = .lreturn ∧ ∃ x, t = [.long x] ∧ v = some (.long x) ∧ cx.2.2.2 = some .long) ∨ (i = .areturn ∧ ∃ x, t = [.ref x] ∧ v = some (.ref x) ∧ ((∃ n, cx.2.2.2 = some (.object n)) ∨ ∃ ty, cx.2.2.2 = some (.array ty))) ∨ (i = .return_ ∧ t = [] ∧ v = none ∧ cx.2.2.2 = none) := by
  rcases inr_only (E := E) (cx := cx) (pc := pc) (lo := lo) (t := t) (G := G) (i := i) with z | ⟨x, rfl⟩ | ⟨x, rfl⟩ | ⟨x, rfl⟩ | rfl | rfl | rfl | rfl
  · exact absurd h (z _)
  · exfalso
    have h : invS E cx.1 x pc lo t G = some (.inr (.inr v)) := h
    unfold invS at h
    obtain ⟨q, -, h2⟩ := ov_inj h
    split at h2
    · exact callA_nr h2
    · exact callA_nr h2
    · obtain ⟨a0, sp, a, dp, n, t', -, h3⟩ := pcp_inj h2
      rcases gtA_inj h3 with ⟨k0, n0, f, -, h4⟩ | ⟨-, h4⟩
      · rcases gtA_inj h4 with ⟨k0, n0, f, -, h5⟩ | ⟨-, h5⟩
        · obtain ⟨-, h6⟩ := gd_inj h5
          cases h6
        · cases h5
      · cases h4
    · obtain ⟨a, b, t', -, h3⟩ := p2i_inj h2
      obtain ⟨-, h4⟩ := gd_inj h3
      cases h4
    · obtain ⟨a, b, t', -, h3⟩ := p2i_inj h2
      obtain ⟨-, h4⟩ := gd_inj h3
      cases h4
    · cases h2
  · exfalso
    have h : invV E cx.1 x pc t G = some (.inr (.inr v)) := h
    unfold invV at h
    obtain ⟨q, -, h2⟩ := ov_inj h
    split at h2
    · exact callA_nr h2
    · cases h2
  · exfalso
    have h : invI E cx.1 x pc lo t G = some (.inr (.inr v)) := h
    unfold invI at h
    obtain ⟨q, -, h2⟩ := ov_inj h
    split at h2
    · exact callA_nr h2
    · obtain ⟨a, t', -, h3⟩ := p1r_inj h2
      obtain ⟨-, h4⟩ := gd_inj h3
      cases h4
    · cases h2
  · have h1 : (match (generalizing := false) t with | [.int v] => (match cx.2.2.2 with | some ty => gd (narrow ty (.int v) = .int v) inferInstance (some (Sum.inr (Sum.inr (some (Value.int v))))) | none => none) | _ => none) = some (Sum.inr (Sum.inr v)) := h
    clear h
    split at h1
    · split at h1
      · next ty hty =>
        obtain ⟨h2, h3⟩ := gd_inj h1
        cases h3
        exact Or.inl ⟨rfl, _, ty, rfl, rfl, hty, h2⟩
      · cases h1
    · cases h1
  · have h1 : (match (generalizing := false) t with | [.long v] => gd (cx.2.2.2 = some .long) inferInstance (some (Sum.inr (Sum.inr (some (Value.long v))))) | _ => none) = some (Sum.inr (Sum.inr v)) := h
    clear h
    split at h1
    · obtain ⟨h2, h3⟩ := gd_inj h1
      cases h3
      exact Or.inr (Or.inl ⟨rfl, _, rfl, rfl, h2⟩)
    · cases h1
  · have h1 : ((match (generalizing := false) t with | [.ref v] => (match cx.2.2.2 with | some (.object _) => some (Sum.inr (Sum.inr (some (Value.ref v)))) | some (.array _) => some (Sum.inr (Sum.inr (some (Value.ref v)))) | _ => none) | _ => none) : Option Rs) = some (Sum.inr (Sum.inr v)) := h
    clear h
    split at h1
    · split at h1
      · next n hn =>
        cases h1
        exact Or.inr (Or.inr (Or.inl ⟨rfl, _, rfl, rfl, Or.inl ⟨n, hn⟩⟩))
      · next n hn =>
        cases h1
        exact Or.inr (Or.inr (Or.inl ⟨rfl, _, rfl, rfl, Or.inr ⟨n, hn⟩⟩))
      · cases h1
    · cases h1
  · have h1 : ((match (generalizing := false) t with | [] => gd (cx.2.2.2 = none) inferInstance (some (Sum.inr (Sum.inr none))) | _ => none) : Option Rs) = some (Sum.inr (Sum.inr v)) := h
    clear h
    split at h1
    · obtain ⟨h2, h3⟩ := gd_inj h1
      cases h3
      exact Or.inr (Or.inr (Or.inr ⟨rfl, rfl, rfl, h2⟩))
    · cases h1
def rmD (d k n : Nat) : Room := { frames := d, cells := k, slots := n, locals := 100 * d }
def PcA (E : Ev) (D : va_G) (Y : Yc) (a : List Value) (G : Hp) : Array Value → State → Prop := fun v U => v = a.toArray ∧ IV E D Y G U.heap ∧ KN E D Y U
def QcA (E : Ev) (D : va_G) (Y : Yc) (v : Option Value) (G : Hp) : Array Value → State → Outcome → State → Prop := fun _ st oc t => oc = .returned v ∧ IV E D Y G t.heap ∧ va_F (AA E) st t
def wsM (m : Mi) : List Cond := Cond.code m.1 m.2.1 m.2.2.1 m.2.2.2.1 :: LW
theorem wsM_good {m : Mi} (h : GM m) : GoodIn LW (wsM m) := by
  intro w hw
  rcases List.mem_cons.mp hw with rfl | hw
  · exact ⟨h.1, LW_good h.1⟩
  · exact ⟨hw, LW_good hw⟩
def SDd (l : Launch) (E : Ev) (D : va_G) (Y : Yc) (d : Nat) : Prop := ∀ (id : Nat) (m : Mi) (a : List Value) (G : Hp) (v : Option Value) (G' : Hp), tY[id]? = some m → m.2.2.2.2.2.1 ≠ 14 → runs E d id a G (fun v' G'' => v' = v ∧ G'' = G') → Met l m.1 (wsM m) (rmD d (G'.1.length - G.1.length) (G'.2 - G.2)) (PcA E D Y a G) (QcA E D Y v G') (G'.1.length - G.1.length) (G'.2 - G.2) (AA E)
theorem KN_blind {E : Ev} {D : va_G} {Y : Yc} {a : List Value} {G : Hp} : FrameBlind (PcA E D Y a G) := by
  intro v U g mk h
  obtain ⟨h1, h2, h3⟩ := h
  exact ⟨h1, h2, h3.to (U := U.calling g mk v) (State.WarmedH.refl U) rfl (locs := []) va_S.rf⟩
section SNC
variable {p : Program} {l : Launch} {e : Env} {R : Room} {s : State} {m : MethodId} {args : Array Value} {below : List Frame} {meth : Method} {c : Code} {Q : State → Prop} {E : Ev} {D : va_G} {Y : Yc} {nL N0 S0 : Nat} {cx : Cx} {pc : Nat} {lo : Lo} {t : List Value} {G : Hp}
theorem callX {H : Heap} {locs : List Loc} {cells slots mc ms : Nat} {ls : Array Slot} {st0 rest : List Value} {v : Option Value} {G' : Hp} {a : Array Value} (hr : va_Run p l e R s m args below meth c H locs cells slots mc ms (F0 m pc ls st0) rest (QcA E D Y v G' a) (AA E)) (hS : va_S (AA E) s.heap H locs)
    (kk : ∀ (H1 : Heap) (locs1 : List Loc), IV E D Y G' H1 → va_S (AA E) s.heap H1 locs1 → W p l e R s m args below meth c H1 locs1 (cells + mc) (slots + ms) Q (F0 m (pc + 3) ls (v.toList ++ rest))) : W p l e R s m args below meth c H locs cells slots Q (F0 m pc ls st0) := by
  intro T hT X
  obtain ⟨v0, st₀, t, T', L, h0, X', hL, e1, e2, ⟨hv, hI, hz, hk⟩, st⟩ := hr T hT X
  cases hv
  rw [h0] at hz hk
  obtain ⟨t2, a1, b1⟩ := kk T'.heap (locs ++ L) (by rw [e1]; exact hI)
    ⟨Nat.le_trans hS.1 (by rw [e1]; exact hz), fun q h1 h2 => by rw [e1, hk q (Nat.lt_of_lt_of_le h1 hS.1) h2]; exact hS.2.1 q h1 h2, fun q hq => by
      rcases List.mem_append.mp hq with h | h
      · exact hS.2.2 q h
      · exact hL q h⟩ T' rfl X'
  exact ⟨t2, st t2 a1, b1⟩
theorem preA {H : Heap} {locs : List Loc} {a : List Value} (hK : KN E D Y s) (hI : IV E D Y G H) (hS : va_S (AA E) s.heap H locs) : PreS s H (PcA E D Y a G) a :=
  ⟨KN_blind, fun U hU hW => ⟨rfl, by rw [hU]; exact hI, hK.to hW hU hS⟩⟩
theorem rcv_at {H : Heap} {locs : List Loc} {b o : Nat} (hK : KN E D Y s) (hI : IV E D Y G H) (hS : va_S (AA E) s.heap H locs) (h : rcv E G b o = true) : ∃ cell : Cell, H[b]? = some cell ∧ cell.vm.isStatics = false ∧ s.vm.findClass (tN o) = some cell.cls := by
  unfold rcv at h
  split at h
  · next c0 fs hg =>
    have e0 : c0 = o := eq_of_beq h
    subst e0
    obtain ⟨q', h1, cell, g1, g2, g3, -⟩ := hI.at hg
    have hc : c0 < 8 := by
      have := (List.getElem?_eq_some_iff.mp h1).1
      exact this
    refine ⟨cell, g1, by rw [g3]; rfl, by rw [g2]; exact (hK.1.1 c0 _ (cls_at hc)).2.1⟩
  · rw [Bool.and_eq_true] at h
    have e1 : b = eS E := eq_of_beq h.1
    have e2 : o = 9 := eq_of_beq h.2
    subst e1; subst e2
    obtain ⟨cell, h1, h2, h3, -⟩ := hK.2.2.2.2.2.2.1.1.kept hS.2.1
    exact ⟨cell, h1, h2, h3⟩
  · cases h
/-- what a call of the abstract machine is -/
theorem call_inj {kind id0 : Nat} {r : Nat × List Value × Nat × List Value} (h : callA E kind id0 pc t G = some (.inr (.inl r))) : ∃ mi, tY[id0]? = some mi ∧ r = (id0, (t.take (nA mi)).reverse, pc + 3, t.drop (nA mi)) ∧ (t.take (nA mi)).reverse.length = nA mi ∧ (t.drop (nA mi)).length ≤ 4 ∧ (kind = 1 → ∃ b as, (t.take (nA mi)).reverse = .ref b :: as ∧ mi.2.2.2.2.2.2.2 = false ∧ mi.2.2.2.2.2.2.1 = false ∧ rcv E G b mi.2.2.2.2.2.1 = true) ∧ (kind = 2 → ∃ b as, (t.take (nA mi)).reverse = .ref b :: as ∧ mi.2.2.2.2.2.2.2 = false ∧ mi.2.2.2.2.2.2.1 = true) ∧ (kind ≠ 1 → kind ≠ 2 → mi.2.2.2.2.2.2.2 = true) := by
  unfold callA at h
  obtain ⟨mi, h1, h2⟩ := ov_inj h
  unfold callB at h2
  obtain ⟨h3, h4⟩ := gd_inj h2
  refine ⟨mi, h1, ?_⟩
  split at h4
  · split at h4
    · next b as he =>
      obtain ⟨h5, h6⟩ := gd_inj h4
      cases h6
      exact ⟨rfl, h3.1, h3.2, fun _ => ⟨b, as, he, h5⟩, (fun h => by cases h), fun h => absurd rfl h⟩
    · cases h4
  · split at h4
    · next b as he =>
      obtain ⟨h5, h6⟩ := gd_inj h4
      cases h6
      exact ⟨rfl, h3.1, h3.2, (fun h => by cases h), fun _ => ⟨b, as, he, h5⟩, fun _ h => absurd rfl h⟩
    · cases h4
  · next n1 n2 =>
    obtain ⟨h5, h6⟩ := gd_inj h4
    cases h6
    exact ⟨rfl, h3.1, h3.2, fun h => absurd h n1, fun h => absurd h n2, fun _ _ => h5⟩
theorem spl {n : Nat} (t : List Value) : t = (t.take n).reverse.reverse ++ t.drop n := by rw [List.reverse_reverse, List.take_append_drop]
set_option maxHeartbeats 4000000 in
theorem s_call {d : Nat} (IH : SDd l E D Y d) (hR : d + 1 ≤ R.frames ∧ 100 * d + 60 ≤ R.locals) (hM : MC p s m args meth c E D Y cx nL) {i : Instr} (hd : decode cx.2.1 pc = .ok (i, 3)) {r : Nat × List Value × Nat × List Value} (h : stpI E cx i pc lo t G = some (.inr (.inl r))) {v : Option Value} {G' : Hp} (hgr : grows G G') (hbd : G'.1.length - N0 ≤ R.cells ∧ G'.2 - S0 ≤ R.slots) (hrun : runs E d r.1 r.2.1 G (fun v' G'' => v' = v ∧ G'' = G'))
    (k : WP p l e R s m args below meth c Q E D Y nL N0 S0 r.2.2.1 lo (v.toList ++ r.2.2.2) G') : WP p l e R s m args below meth c Q E D Y nL N0 S0 pc lo t G := by
  obtain ⟨⟨hx, hb, hml, hr, hlk⟩, hown, hini, hts, hK⟩ := hM
  intro H locs ls hl hI hS g1 g2
  have fin : ∀ (H1 : Heap) (locs1 : List Loc), IV E D Y G' H1 → va_S (AA E) s.heap H1 locs1 → W p l e R s m args below meth c H1 locs1 (G.1.length - N0 + (G'.1.length - G.1.length)) (G.2 - S0 + (G'.2 - G.2)) Q (F0 m r.2.2.1 ls (v.toList ++ r.2.2.2)) := by
    intro H1 locs1 hI1 hS1
    have kk := k H1 locs1 ls hl hI1 hS1 (Nat.le_trans g1 hgr.1) (Nat.le_trans g2 hgr.2)
    have c1 : G'.1.length - N0 = G.1.length - N0 + (G'.1.length - G.1.length) := by have := hgr.1; omega
    have c2 : G'.2 - S0 = G.2 - S0 + (G'.2 - G.2) := by have := hgr.2; omega
    rw [c1, c2] at kk
    exact kk
  have hf : G.1.length - N0 + (G'.1.length - G.1.length) ≤ R.cells ∧ G.2 - S0 + (G'.2 - G.2) ≤ R.slots := by
    have := hgr.1
    have := hgr.2
    omega
  have hrm : ∀ q : Nat, q ≤ 40 → (rmD d (G'.1.length - G.1.length) (G'.2 - G.2)).frames + 1 ≤ R.frames ∧ 8 + (q + 11) + (rmD d (G'.1.length - G.1.length) (G'.2 - G.2)).locals ≤ R.locals := fun q hq => ⟨hR.1, by show 8 + (q + 11) + 100 * d ≤ _; omega⟩
  rcases inr_only (E := E) (cx := cx) (pc := pc) (lo := lo) (t := t) (G := G) (i := i) with z | ⟨x, rfl⟩ | ⟨x, rfl⟩ | ⟨x, rfl⟩ | z | z | z | z
  · exact absurd h (z _)
  · have h : invS E cx.1 x pc lo t G = some (.inr (.inl r)) := h
    unfold invS at h
    obtain ⟨q, hq, h2⟩ := ov_inj h
    have hf0 := fM_ok hq
    have go : ∀ kind : Nat, kind ≠ 1 → kind ≠ 2 → callA E kind q.2.1 pc t G = some (.inr (.inl r)) → (kind = 5 → va_Nw (.methodLinkNest (tN cx.1) x (yOf q.2.1) RX6) s) → (kind ≠ 5 → tables_1[q.2.2]? = some (.methodLink (tN cx.1) x (yOf q.2.1))) → (∀ mi, tY[q.2.1]? = some mi → mi.2.2.2.2.2.1 ≠ 14) → W p l e R s m args below meth c H locs (G.1.length - N0) (G.2 - S0) Q (F0 m pc ls t) := by
      intro kind n1 n2 h3 hN hL hn14
      obtain ⟨mi, hmi, hre, hla, hlr, -, -, hst⟩ := call_inj h3
      have hgm := gm_at hmi
      have hst := hst n1 n2
      have hyo := yOf_at hmi
      have hnp : nA mi = mi.2.2.2.2.1 := by unfold nA; rw [hst]; rfl
      subst hre
      dsimp only at hrun fin
      · have M := IH q.2.1 mi _ G v G' hmi (hn14 mi hmi) hrun
        by_cases hk5 : kind = 5
        · have cw := va_cnB (R := R) (own := tN cx.1) (host := RX6) (index := x) (y := mi.1) (bytes := mi.2.1) (maxL := mi.2.2.1) (ret := mi.2.2.2.1) (ws := wsM mi) (rm := rmD d (G'.1.length - G.1.length) (G'.2 - G.2)) (mc := G'.1.length - G.1.length) (ms := G'.2 - G.2) mi.2.2.2.2.1 hts (wsM_good hgm) rfl rfl rfl (by rw [← hyo]; exact hN hk5) (hts _ hgm.2.1) ⟨hgm.2.2.1.2.1, hgm.2.2.1.2.2.1, hgm.2.2.1.2.2.2⟩ (hrm _ hgm.2.2.2.1.2)
          exact callX (va_runSN (As := (t.take (nA mi)).reverse) (rest := t.drop (nA mi)) ⟨hx, hb, hml, hown, hts⟩ M ⟨cw, hts _ (hgm.2.2.2.2.2.1 hst), trivial⟩ (preA hK hI hS) rfl (hla.trans hnp) hl.2.1 (spl t) (lv_room (cat_8 hlr)) hd hf) hS fin
        · have cb := callB_of (R := R) (own := tN cx.1) (index := x) (y := mi.1) (bytes := mi.2.1) (maxL := mi.2.2.1) (ret := mi.2.2.2.1) (ws := wsM mi) (rm := rmD d (G'.1.length - G.1.length) (G'.2 - G.2)) (mc := G'.1.length - G.1.length) (ms := G'.2 - G.2) mi.2.2.2.2.1 hts (wsM_good hgm) rfl rfl rfl (hts _ hgm.2.1) (hts _ (LW_t _ (by rw [← hyo]; exact hL hk5) rfl)) ⟨hgm.2.2.1.2.1, hgm.2.2.1.2.2.1, hgm.2.2.1.2.2.2⟩ (hrm _ hgm.2.2.2.1.2)
          exact callX (va_runS (As := (t.take (nA mi)).reverse) (rest := t.drop (nA mi)) ⟨hx, hb, hml, hown, hts⟩ M ⟨cb, hts _ (hgm.2.2.2.2.2.1 hst)⟩ (preA hK hI hS) rfl (hla.trans hnp) hl.2.1 (spl t) (lv_room (cat_8 hlr)) hd hf) hS fin
    split at h2
    · next e0 =>
      obtain ⟨q1, q2, q3⟩ := q
      have e0 : q1 = 0 := e0
      subst e0
      exact go 0 (by decide) (by decide) h2 (fun h => by cases h) (fun _ => hf0) (fun mi hmi => fM_n hq (by decide) hmi)
    · next e0 =>
      obtain ⟨q1, q2, q3⟩ := q
      have e0 : q1 = 5 := e0
      subst e0
      exact go 5 (by decide) (by decide) h2 (fun _ => hK.2.1 cx.1 x q2 q3 hq) (fun h => absurd rfl h) (fun mi hmi => fM_n hq (by decide) hmi)
    · exfalso
      obtain ⟨a0, sp, a, dp, n, t', -, h3⟩ := pcp_inj h2
      rcases gtA_inj h3 with ⟨k0, n0, f, -, h4⟩ | ⟨-, h4⟩
      · rcases gtA_inj h4 with ⟨k0, n0, f, -, h5⟩ | ⟨-, h5⟩
        · obtain ⟨-, h6⟩ := gd_inj h5
          cases h6
        · cases h5
      · cases h4
    · exfalso
      obtain ⟨a, b, t', -, h3⟩ := p2i_inj h2
      obtain ⟨-, h4⟩ := gd_inj h3
      cases h4
    · exfalso
      obtain ⟨a, b, t', -, h3⟩ := p2i_inj h2
      obtain ⟨-, h4⟩ := gd_inj h3
      cases h4
    · cases h2
  · have h : invV E cx.1 x pc t G = some (.inr (.inl r)) := h
    unfold invV at h
    obtain ⟨q, hq, h2⟩ := ov_inj h
    have hf0 := fM_ok hq
    split at h2
    · next e0 =>
      obtain ⟨q1, q2, q3⟩ := q
      have e0 : q1 = 1 := e0
      subst e0
      obtain ⟨mi, hmi, hre, hla, hlr, hv1, -, -⟩ := call_inj h2
      obtain ⟨b, as, hba, hst, hin, hrc⟩ := hv1 rfl
      have hgm := gm_at hmi
      have hyo := yOf_at hmi
      have hnp : nA mi = mi.2.2.2.2.1 + 1 := by unfold nA; rw [hst]; rfl
      subst hre
      dsimp only at hrun fin
      have h14 : mi.2.2.2.2.2.1 ≠ 14 := fM_n hq (by decide) hmi
      have M := IH q2 mi _ G v G' hmi h14 hrun
      have cb := callB_of (R := R) (own := tN cx.1) (index := x) (y := mi.1) (bytes := mi.2.1) (maxL := mi.2.2.1) (ret := mi.2.2.2.1) (ws := wsM mi) (rm := rmD d (G'.1.length - G.1.length) (G'.2 - G.2)) (mc := G'.1.length - G.1.length) (ms := G'.2 - G.2) mi.2.2.2.2.1 hts (wsM_good hgm) rfl rfl rfl (hts _ hgm.2.1) (hts _ (LW_t _ (by rw [← hyo]; exact hf0) rfl)) ⟨hgm.2.2.1.2.1, hgm.2.2.1.2.2.1, hgm.2.2.1.2.2.2⟩ (hrm _ hgm.2.2.2.1.2)
      have hsel := hgm.2.2.2.2.2.2 hst
      have pre := preA (a := (t.take (nA mi)).reverse) hK hI hS
      rw [hba] at pre M
      refine callX (v := v) (G' := G') (va_runV (C := mi.1.cls) (b := b) (As := as) (rest := t.drop (nA mi)) ⟨hx, hb, hml, hown, hts⟩ M ⟨cb, hts _ hsel.1, hts _ (hsel.2 hin)⟩ ⟨pre.1, ?_, pre.2⟩ rfl ?_ hl.2.1 ?_ (lv_room (cat_8 hlr)) hd hf) hS fin
      · rw [hgm.2.2.2.1.1]
        exact rcv_at hK hI hS hrc
      · rw [hba, List.length_cons, hnp] at hla
        omega
      · have e := spl (n := nA mi) t
        rw [hba] at e
        show t = _
        rw [List.reverse_cons, List.append_assoc] at e
        exact e
    · cases h2
  · have h : invI E cx.1 x pc lo t G = some (.inr (.inl r)) := h
    unfold invI at h
    obtain ⟨q, hq, h2⟩ := ov_inj h
    have hf0 := fM_ok hq
    split at h2
    · next e0 =>
      obtain ⟨q1, q2, q3⟩ := q
      have e0 : q1 = 2 := e0
      subst e0
      obtain ⟨mi, hmi, hre, hla, hlr, -, hv1, -⟩ := call_inj h2
      obtain ⟨b, as, hba, hst, hin⟩ := hv1 rfl
      have hgm := gm_at hmi
      have hyo := yOf_at hmi
      have hnp : nA mi = mi.2.2.2.2.1 + 1 := by unfold nA; rw [hst]; rfl
      subst hre
      dsimp only at hrun fin
      have h14 : mi.2.2.2.2.2.1 ≠ 14 := fM_n hq (by decide) hmi
      have M := IH q2 mi _ G v G' hmi h14 hrun
      obtain ⟨hnm, hrt⟩ := hgm.2.2.2.2.1 hin
      have cb := callB_of (R := R) (own := tN cx.1) (index := x) (y := mi.1) (bytes := mi.2.1) (maxL := mi.2.2.1) (ret := none) (ws := wsM mi) (rm := rmD d (G'.1.length - G.1.length) (G'.2 - G.2)) (mc := G'.1.length - G.1.length) (ms := G'.2 - G.2) mi.2.2.2.2.1 hts (wsM_good hgm) (by unfold wsM; rw [hrt]) rfl rfl (hts _ hgm.2.1) (hts _ (LW_t _ (by rw [← hyo]; exact hf0) rfl)) ⟨hgm.2.2.1.2.1, hgm.2.2.1.2.2.1, hgm.2.2.1.2.2.2⟩ (hrm _ hgm.2.2.2.1.2)
      have hsel := hgm.2.2.2.2.2.2 hst
      have pre := preA (a := (t.take (nA mi)).reverse) hK hI hS
      rw [hba] at pre M
      refine callX (v := v) (G' := G') (va_runI (b := b) (As := as) (rest := t.drop (nA mi)) ⟨hx, hb, hml, hown, hts⟩ M ⟨cb, hnm, hts _ hsel.1⟩ pre rfl ?_ hl.2.1 ?_ (lv_room (cat_8 hlr)) hd hf) hS fin
      · rw [hba, List.length_cons, hnp] at hla
        omega
      · have e := spl (n := nA mi) t
        rw [hba] at e
        show t = _
        rw [List.reverse_cons, List.append_assoc] at e
        exact e
    · exfalso
      obtain ⟨a, t', -, h3⟩ := p1r_inj h2
      obtain ⟨-, h4⟩ := gd_inj h3
      cases h4
    · cases h2
  · exact (ret_nc (Or.inl z) h).elim
  · exact (ret_nc (Or.inr (Or.inl z)) h).elim
  · exact (ret_nc (Or.inr (Or.inr (Or.inl z))) h).elim
  · exact (ret_nc (Or.inr (Or.inr (Or.inr z))) h).elim
theorem dec_of {r : Rs} (h : stp E cx pc lo t G = some r) : ∃ i n, decode cx.2.1 pc = .ok (i, n) ∧ lenOk i n = true ∧ stpI E cx i pc lo t G = some r := by
  unfold stp at h
  split at h
  · next i n hd =>
    obtain ⟨h1, h2⟩ := gd_inj h
    exact ⟨i, n, hd, h1, h2⟩
  · cases h
theorem call_len {i : Instr} {n : Nat} {r : Nat × List Value × Nat × List Value} (hl : lenOk i n = true) (h : stpI E cx i pc lo t G = some (.inr (.inl r))) : n = 3 := by
  rcases inr_only (E := E) (cx := cx) (pc := pc) (lo := lo) (t := t) (G := G) (i := i) with z | ⟨x, rfl⟩ | ⟨x, rfl⟩ | ⟨x, rfl⟩ | z | z | z | z
  · exact absurd h (z _)
  · exact eq_of_beq hl
  · exact eq_of_beq hl
  · exact eq_of_beq hl
  · exact (ret_nc (Or.inl z) h).elim
  · exact (ret_nc (Or.inr (Or.inl z)) h).elim
  · exact (ret_nc (Or.inr (Or.inr (Or.inl z))) h).elim
  · exact (ret_nc (Or.inr (Or.inr (Or.inr z))) h).elim
/-- a run of a method's code -/
theorem s_X {d : Nat} (IH : SDd l E D Y d) (hR : d + 1 ≤ R.frames ∧ 100 * d + 60 ≤ R.locals) (hM : MC p s m args meth c E D Y cx nL) {v : Option Value} {G' : Hp} (hbd : G'.1.length - N0 ≤ R.cells ∧ G'.2 - S0 ≤ R.slots)
    (hret : ∀ (pc : Nat) (lo : Lo) (t : List Value) (i : Instr), decode cx.2.1 pc = .ok (i, 1) → stpI E cx i pc lo t G' = some (.inr (.inr v)) → WP p l e R s m args below meth c Q E D Y nL N0 S0 pc lo t G') :
    ∀ k pc lo t G, X (runs E d) E cx k pc lo t G (fun v' G'' => v' = v ∧ G'' = G') → WP p l e R s m args below meth c Q E D Y nL N0 S0 pc lo t G := by
  intro k
  induction k with
  | zero => intro pc lo t G h; exact h.elim
  | succ k ih =>
    intro pc lo t G h
    have h9 := h
    unfold X at h
    cases hs : stp E cx pc lo t G with
    | none => rw [hs] at h; exact h.elim
    | some r =>
      rw [hs] at h
      obtain ⟨i, n, hd, hl, hst⟩ := dec_of hs
      rcases r with r | r | w
      · obtain ⟨v1, G1, h1, h2, h3⟩ := X_res (runs_mono d) (runs_res d) _ _ _ _ _ _ h
        obtain ⟨rfl, rfl⟩ := h1
        have hb : r.2.2.2.1.length - N0 ≤ R.cells ∧ r.2.2.2.2 - S0 ≤ R.slots := by
          have := h3.1
          have := h3.2
          have := hbd.1
          have := hbd.2
          omega
        exact ss_all ⟨by omega, by omega⟩ hM hd hl hst hb (ih _ _ _ _ h)
      · have en := call_len hl hst
        subst en
        obtain ⟨v1, G1, h1, h2, h3⟩ := runs_res d _ _ _ _ h
        obtain ⟨v2, G2, e2, h4, h5⟩ := X_res (runs_mono d) (runs_res d) _ _ _ _ _ _ h1
        obtain ⟨rfl, rfl⟩ := e2
        have hb : G1.1.length - N0 ≤ R.cells ∧ G1.2 - S0 ≤ R.slots := by
          have := h5.1
          have := h5.2
          have := hbd.1
          have := hbd.2
          omega
        exact s_call IH hR hM hd hst h3 hb h2 (ih _ _ _ _ h1)
      · obtain ⟨rfl, rfl⟩ := h
        have en : n = 1 := by
          rcases ret_only hst with ⟨rfl, -⟩ | ⟨rfl, -⟩ | ⟨rfl, -⟩ | ⟨rfl, -⟩ <;> exact eq_of_beq hl
        subst en
        exact hret pc lo t i hd hst
end SNC
theorem sound (l : Launch) (E : Ev) (D : va_G) (Y : Yc) : ∀ d, SDd l E D Y d := by
  intro d
  induction d with
  | zero => intro id m a G v G' hm h14 h; exact h.elim
  | succ d IH =>
    intro id mi a G v G' hm h14 h
    have hgm := gm_at hm
    unfold runs at h
    rw [hm] at h
    obtain ⟨hes, k, hX⟩ := h
    have hplain : plainName mi.1.cls = true := by
      rcases hgm.2.2.1.1 with h | h
      · exact absurd h h14
      · exact h
    refine Met.ofW (cc := mi.2.1) (maxL := mi.2.2.1) (ret := mi.2.2.2.1) hplain rfl ?_
    intro p e s m args below meth c s₁ B hml hv
    obtain ⟨rfl, hI, hK⟩ := hv
    have hts : ∀ w ∈ LW, w.before a.toArray s = true := fun w hw => atoms_spec (ws := wsM mi) B.pre w (List.mem_cons_of_mem _ hw)
    have hown : s.vm.findClass (tN mi.2.2.2.2.2.1) = some m.cls := by
      rw [← hgm.2.2.2.1.1]
      exact findClass_of_methodNamed B.named
    have hM : MC p s m a.toArray meth c E D Y (cxM mi) mi.2.2.1 := ⟨⟨B.exec, B.bytes, hml, B.returns, B.notSynchronized⟩, hown, fun hi => by rw [(name_of_methodNamed B.named B.method).1]; exact (hgm.2.2.2.2.1 hi).1, hts, hK⟩
    rw [lg_entry_eq]
    obtain ⟨v1, G1, e1, -, hgr⟩ := X_res (runs_mono d) (runs_res d) _ _ _ _ _ _ hX
    obtain ⟨rfl, rfl⟩ := e1
    have key := s_X (R := rmD (d + 1) (G1.1.length - G.1.length) (G1.2 - G.2)) (p := p) (e := e) (below := below) (N0 := G.1.length) (S0 := G.2) (Q := MQ below (QcA E D Y v1 G1) a.toArray s (G1.1.length - G.1.length) (G1.2 - G.2) (AA E)) IH ⟨Nat.le_refl _, by show 100 * d + 60 ≤ 100 * (d + 1); omega⟩ hM (v := v1) (G' := G1) ⟨Nat.le_refl _, Nat.le_refl _⟩ ?_ k 0 (ent a mi.2.2.1) [] G hX
    · have kk := key s.heap [] _ (LR.ent hes) hI va_S.rf (Nat.le_refl _) (Nat.le_refl _)
      rw [Nat.sub_self, Nat.sub_self] at kk
      exact kk
    · intro pc lo t i hd hst
      obtain ⟨⟨hx, hb, hml2, hr, hlk⟩, -⟩ := hM
      intro H locs ls hl hI2 hS g1 g2
      rcases ret_only hst with ⟨rfl, x, ty, rfl, rfl, hty, hn⟩ | ⟨rfl, x, rfl, rfl, hty⟩ | ⟨rfl, x, rfl, rfl, hty⟩ | ⟨rfl, rfl, rfl, hty⟩
      · exact W.zret hx hb (hr.trans hty) hn (fun t ht _ => ⟨rfl, by rw [ht]; exact hI2, hS.F ht⟩) hS.2.2 hd hlk
      · exact W.lret hx hb (hr.trans hty) (fun t ht _ => ⟨rfl, by rw [ht]; exact hI2, hS.F ht⟩) hS.2.2 hd hlk
      · rcases hty with ⟨n, hty⟩ | ⟨n, hty⟩
        · exact W.aret hx hb (hr.trans hty) (Or.inl ⟨n, rfl⟩) (Or.inr ⟨x, rfl⟩) (fun t ht _ => ⟨rfl, by rw [ht]; exact hI2, hS.F ht⟩) hS.2.2 hd hlk
        · exact W.aret hx hb (hr.trans hty) (Or.inr ⟨n, rfl⟩) (Or.inr ⟨x, rfl⟩) (fun t ht _ => ⟨rfl, by rw [ht]; exact hI2, hS.F ht⟩) hS.2.2 hd hlk
      · exact W.vret hx hb (hr.trans hty) (fun t ht _ => ⟨rfl, by rw [ht]; exact hI2, hS.F ht⟩) hS.2.2 hd hlk
end
