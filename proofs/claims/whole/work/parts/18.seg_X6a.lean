/-! segments, by program (wip/whole/gen/seg.py) -/
theorem dX6_init_0 : decode cX6_init 0 = .ok (.aload_n 0, 1) := by decide +kernel
theorem dX6_init_1 : decode cX6_init 1 = .ok (.invokespecial 1, 3) := by decide +kernel
theorem dX6_init_4 : decode cX6_init 4 = .ok (.aload_n 0, 1) := by decide +kernel
theorem dX6_init_5 : decode cX6_init 5 = .ok (.new 7, 3) := by decide +kernel
theorem dX6_init_8 : decode cX6_init 8 = .ok (.dup, 1) := by decide +kernel
theorem dX6_init_9 : decode cX6_init 9 = .ok (.invokespecial 9, 3) := by decide +kernel
theorem dX6_init_12 : decode cX6_init 12 = .ok (.putfield 10, 3) := by decide +kernel
theorem dX6_init_15 : decode cX6_init 15 = .ok (.aload_n 0, 1) := by decide +kernel
theorem dX6_init_16 : decode cX6_init 16 = .ok (.new 16, 3) := by decide +kernel
theorem dX6_init_19 : decode cX6_init 19 = .ok (.dup, 1) := by decide +kernel
theorem dX6_init_20 : decode cX6_init 20 = .ok (.invokespecial 18, 3) := by decide +kernel
theorem dX6_init_23 : decode cX6_init 23 = .ok (.putfield 19, 3) := by decide +kernel
theorem dX6_init_26 : decode cX6_init 26 = .ok (.aload_n 0, 1) := by decide +kernel
theorem dX6_init_27 : decode cX6_init 27 = .ok (.new 23, 3) := by decide +kernel
theorem dX6_init_30 : decode cX6_init 30 = .ok (.dup, 1) := by decide +kernel
theorem dX6_init_31 : decode cX6_init 31 = .ok (.aload_n 0, 1) := by decide +kernel
theorem dX6_init_32 : decode cX6_init 32 = .ok (.getfield 19, 3) := by decide +kernel
theorem dX6_init_35 : decode cX6_init 35 = .ok (.invokespecial 25, 3) := by decide +kernel
theorem dX6_init_38 : decode cX6_init 38 = .ok (.putfield 28, 3) := by decide +kernel
theorem dX6_init_41 : decode cX6_init 41 = .ok (.aload_n 0, 1) := by decide +kernel
theorem dX6_init_42 : decode cX6_init 42 = .ok (.new 32, 3) := by decide +kernel
theorem dX6_init_45 : decode cX6_init 45 = .ok (.dup, 1) := by decide +kernel
theorem dX6_init_46 : decode cX6_init 46 = .ok (.aload_n 0, 1) := by decide +kernel
theorem dX6_init_47 : decode cX6_init 47 = .ok (.getfield 19, 3) := by decide +kernel
theorem dX6_init_50 : decode cX6_init 50 = .ok (.invokespecial 34, 3) := by decide +kernel
theorem dX6_init_53 : decode cX6_init 53 = .ok (.putfield 35, 3) := by decide +kernel
theorem dX6_init_56 : decode cX6_init 56 = .ok (.aload_n 0, 1) := by decide +kernel
theorem dX6_init_57 : decode cX6_init 57 = .ok (.new 39, 3) := by decide +kernel
theorem dX6_init_60 : decode cX6_init 60 = .ok (.dup, 1) := by decide +kernel
theorem dX6_init_61 : decode cX6_init 61 = .ok (.invokespecial 41, 3) := by decide +kernel
theorem dX6_init_64 : decode cX6_init 64 = .ok (.putfield 42, 3) := by decide +kernel
theorem dX6_init_67 : decode cX6_init 67 = .ok (.aload_n 0, 1) := by decide +kernel
theorem dX6_init_68 : decode cX6_init 68 = .ok (.iconst 2, 1) := by decide +kernel
theorem dX6_init_69 : decode cX6_init 69 = .ok (.anewarray 16, 3) := by decide +kernel
theorem dX6_init_72 : decode cX6_init 72 = .ok (.putfield 46, 3) := by decide +kernel
theorem dX6_init_75 : decode cX6_init 75 = .ok (.iconst 0, 1) := by decide +kernel
theorem dX6_init_76 : decode cX6_init 76 = .ok (.istore_n 1, 1) := by decide +kernel
theorem dX6_init_77 : decode cX6_init 77 = .ok (.iload_n 1, 1) := by decide +kernel
theorem dX6_init_78 : decode cX6_init 78 = .ok (.iconst 2, 1) := by decide +kernel
theorem dX6_init_79 : decode cX6_init 79 = .ok (.if_icmp .ge 22, 3) := by decide +kernel
theorem dX6_init_82 : decode cX6_init 82 = .ok (.aload_n 0, 1) := by decide +kernel
theorem dX6_init_83 : decode cX6_init 83 = .ok (.getfield 46, 3) := by decide +kernel
theorem dX6_init_86 : decode cX6_init 86 = .ok (.iload_n 1, 1) := by decide +kernel
theorem dX6_init_87 : decode cX6_init 87 = .ok (.new 16, 3) := by decide +kernel
theorem dX6_init_90 : decode cX6_init 90 = .ok (.dup, 1) := by decide +kernel
theorem dX6_init_91 : decode cX6_init 91 = .ok (.invokespecial 18, 3) := by decide +kernel
theorem dX6_init_94 : decode cX6_init 94 = .ok (.aastore, 1) := by decide +kernel
theorem dX6_init_95 : decode cX6_init 95 = .ok (.iinc 1 1, 3) := by decide +kernel
theorem dX6_init_98 : decode cX6_init 98 = .ok (.goto (-21), 3) := by decide +kernel
theorem dX6_init_101 : decode cX6_init 101 = .ok (.aload_n 0, 1) := by decide +kernel
theorem dX6_init_102 : decode cX6_init 102 = .ok (.iconst 2, 1) := by decide +kernel
theorem dX6_init_103 : decode cX6_init 103 = .ok (.newarray .boolean, 2) := by decide +kernel
theorem dX6_init_105 : decode cX6_init 105 = .ok (.putfield 50, 3) := by decide +kernel
theorem dX6_init_108 : decode cX6_init 108 = .ok (.aload_n 0, 1) := by decide +kernel
theorem dX6_init_109 : decode cX6_init 109 = .ok (.new 16, 3) := by decide +kernel
theorem dX6_init_112 : decode cX6_init 112 = .ok (.dup, 1) := by decide +kernel
theorem dX6_init_113 : decode cX6_init 113 = .ok (.invokespecial 18, 3) := by decide +kernel
theorem dX6_init_116 : decode cX6_init 116 = .ok (.putfield 54, 3) := by decide +kernel
theorem dX6_init_119 : decode cX6_init 119 = .ok (.aload_n 0, 1) := by decide +kernel
theorem dX6_init_120 : decode cX6_init 120 = .ok (.new 57, 3) := by decide +kernel
theorem dX6_init_123 : decode cX6_init 123 = .ok (.dup, 1) := by decide +kernel
theorem dX6_init_124 : decode cX6_init 124 = .ok (.bipush 30, 2) := by decide +kernel
theorem dX6_init_126 : decode cX6_init 126 = .ok (.invokespecial 59, 3) := by decide +kernel
theorem dX6_init_129 : decode cX6_init 129 = .ok (.putfield 62, 3) := by decide +kernel
theorem dX6_init_132 : decode cX6_init 132 = .ok (.aload_n 0, 1) := by decide +kernel
theorem dX6_init_133 : decode cX6_init 133 = .ok (.new 16, 3) := by decide +kernel
theorem dX6_init_136 : decode cX6_init 136 = .ok (.dup, 1) := by decide +kernel
theorem dX6_init_137 : decode cX6_init 137 = .ok (.invokespecial 18, 3) := by decide +kernel
theorem dX6_init_140 : decode cX6_init 140 = .ok (.putfield 66, 3) := by decide +kernel
theorem dX6_init_143 : decode cX6_init 143 = .ok (.aload_n 0, 1) := by decide +kernel
theorem dX6_init_144 : decode cX6_init 144 = .ok (.new 32, 3) := by decide +kernel
theorem dX6_init_147 : decode cX6_init 147 = .ok (.dup, 1) := by decide +kernel
theorem dX6_init_148 : decode cX6_init 148 = .ok (.aload_n 0, 1) := by decide +kernel
theorem dX6_init_149 : decode cX6_init 149 = .ok (.getfield 66, 3) := by decide +kernel
theorem dX6_init_152 : decode cX6_init 152 = .ok (.invokespecial 34, 3) := by decide +kernel
theorem dX6_init_155 : decode cX6_init 155 = .ok (.putfield 69, 3) := by decide +kernel
theorem dX6_init_158 : decode cX6_init 158 = .ok (.return_, 1) := by decide +kernel
abbrev x_X6_init : Cx := (6, cX6_init, true, none)
set_option maxRecDepth 10000 in
theorem g_X6_init_0 {E : Ev} {d : Nat} {G : Hp} {Q : Po} {x0 : Nat} (h : (qCV E d i_X3_init [.ref ((nxA E G))] (psh G (cO 3 (fDf 3)) (fSz 3)) fun G1 => (qP E G1 x0 6 0 (.ref ((nxA E G))) fun G2 => (qCV E d i_X1_init [.ref ((nxA E G2))] (psh G2 (cO 1 (fDf 1)) (fSz 1)) fun G3 => (qP E G3 x0 6 1 (.ref ((nxA E G2))) fun G4 => (qFR E (psh G4 (cO 4 (fDf 4)) (fSz 4)) x0 6 1 fun v5 => (qCV E d i_X4_init [.ref ((nxA E G4)), .ref v5] (psh G4 (cO 4 (fDf 4)) (fSz 4)) fun G6 => (qP E G6 x0 6 2 (.ref ((nxA E G4))) fun G7 => (qFR E (psh G7 (cO 5 (fDf 5)) (fSz 5)) x0 6 1 fun v8 => (qCV E d i_X5_init [.ref ((nxA E G7)), .ref v8] (psh G7 (cO 5 (fDf 5)) (fSz 5)) fun G9 => (qP E G9 x0 6 3 (.ref ((nxA E G7))) fun G10 => (qCV E d i_X0_init [.ref ((nxA E G10))] (psh G10 (cO 0 (fDf 0)) (fSz 0)) fun G11 => (qP E G11 x0 6 4 (.ref ((nxA E G10))) fun G12 => ((¬ (iv 2) < 0 ∧ ((iv 2)).toNatClampNeg ≤ 100000) ∧ (qP E (psh G12 (cR 0 ((iv 2)).toNatClampNeg (fun _ => none)) ((iv 2)).toNatClampNeg) x0 6 5 (.ref ((nxA E G12))) fun G13 => Xr E d x_X6_init 77 [some (.ref x0), some (.int ((iv 0)))] [] G13 Q))))))))))))))) : Xr E d x_X6_init 0 [some (.ref x0), none] [] G Q := by
  refine r_aload_n dX6_init_0 rfl ?_
  refine r_oinit dX6_init_1 rfl (Nat.le_of_ble_eq_true rfl) ?_
  refine r_aload_n dX6_init_4 rfl ?_
  refine r_new dX6_init_5 rfl (by decide) ?_
  refine r_dup dX6_init_8 rfl ?_
  refine r_cV dX6_init_9 rfl (invI_eq rfl rfl rfl rfl rfl rfl ⟨rfl, Nat.le_of_ble_eq_true rfl⟩) (qCV_imp (fun G1 h => ?_) h)
  refine r_put dX6_init_12 rfl rfl (by decide) (qP_imp (fun G2 h => ?_) h)
  refine r_aload_n dX6_init_15 rfl ?_
  refine r_new dX6_init_16 rfl (by decide) ?_
  refine r_dup dX6_init_19 rfl ?_
  refine r_cV dX6_init_20 rfl (invI_eq rfl rfl rfl rfl rfl rfl ⟨rfl, Nat.le_of_ble_eq_true rfl⟩) (qCV_imp (fun G3 h => ?_) h)
  refine r_put dX6_init_23 rfl rfl (by decide) (qP_imp (fun G4 h => ?_) h)
  refine r_aload_n dX6_init_26 rfl ?_
  refine r_new dX6_init_27 rfl (by decide) ?_
  refine r_dup dX6_init_30 rfl ?_
  refine r_aload_n dX6_init_31 rfl ?_
  refine r_getR dX6_init_32 rfl (qFR_imp (fun v5 h => ?_) h)
  refine r_cV dX6_init_35 rfl (invI_eq rfl rfl rfl rfl rfl rfl ⟨rfl, Nat.le_of_ble_eq_true rfl⟩) (qCV_imp (fun G6 h => ?_) h)
  refine r_put dX6_init_38 rfl rfl (by decide) (qP_imp (fun G7 h => ?_) h)
  refine r_aload_n dX6_init_41 rfl ?_
  refine r_new dX6_init_42 rfl (by decide) ?_
  refine r_dup dX6_init_45 rfl ?_
  refine r_aload_n dX6_init_46 rfl ?_
  refine r_getR dX6_init_47 rfl (qFR_imp (fun v8 h => ?_) h)
  refine r_cV dX6_init_50 rfl (invI_eq rfl rfl rfl rfl rfl rfl ⟨rfl, Nat.le_of_ble_eq_true rfl⟩) (qCV_imp (fun G9 h => ?_) h)
  refine r_put dX6_init_53 rfl rfl (by decide) (qP_imp (fun G10 h => ?_) h)
  refine r_aload_n dX6_init_56 rfl ?_
  refine r_new dX6_init_57 rfl (by decide) ?_
  refine r_dup dX6_init_60 rfl ?_
  refine r_cV dX6_init_61 rfl (invI_eq rfl rfl rfl rfl rfl rfl ⟨rfl, Nat.le_of_ble_eq_true rfl⟩) (qCV_imp (fun G11 h => ?_) h)
  refine r_put dX6_init_64 rfl rfl (by decide) (qP_imp (fun G12 h => ?_) h)
  refine r_aload_n dX6_init_67 rfl ?_
  refine r_iconst dX6_init_68 ?_
  refine r_newR dX6_init_69 rfl (by decide) ⟨h.1, ?_⟩
  replace h := h.2
  refine r_put dX6_init_72 rfl rfl (by decide) (qP_imp (fun G13 h => ?_) h)
  refine r_iconst dX6_init_75 ?_
  refine r_istore_n dX6_init_76 rfl ?_
  exact h
theorem e_X6_init {E : Ev} {d : Nat} {G : Hp} {Q : Po} {x0 : Nat} (h : (qCV E d i_X3_init [.ref ((nxA E G))] (psh G (cO 3 (fDf 3)) (fSz 3)) fun G1 => (qP E G1 x0 6 0 (.ref ((nxA E G))) fun G2 => (qCV E d i_X1_init [.ref ((nxA E G2))] (psh G2 (cO 1 (fDf 1)) (fSz 1)) fun G3 => (qP E G3 x0 6 1 (.ref ((nxA E G2))) fun G4 => (qFR E (psh G4 (cO 4 (fDf 4)) (fSz 4)) x0 6 1 fun v5 => (qCV E d i_X4_init [.ref ((nxA E G4)), .ref v5] (psh G4 (cO 4 (fDf 4)) (fSz 4)) fun G6 => (qP E G6 x0 6 2 (.ref ((nxA E G4))) fun G7 => (qFR E (psh G7 (cO 5 (fDf 5)) (fSz 5)) x0 6 1 fun v8 => (qCV E d i_X5_init [.ref ((nxA E G7)), .ref v8] (psh G7 (cO 5 (fDf 5)) (fSz 5)) fun G9 => (qP E G9 x0 6 3 (.ref ((nxA E G7))) fun G10 => (qCV E d i_X0_init [.ref ((nxA E G10))] (psh G10 (cO 0 (fDf 0)) (fSz 0)) fun G11 => (qP E G11 x0 6 4 (.ref ((nxA E G10))) fun G12 => ((¬ (iv 2) < 0 ∧ ((iv 2)).toNatClampNeg ≤ 100000) ∧ (qP E (psh G12 (cR 0 ((iv 2)).toNatClampNeg (fun _ => none)) ((iv 2)).toNatClampNeg) x0 6 5 (.ref ((nxA E G12))) fun G13 => Xr E d x_X6_init 77 [some (.ref x0), some (.int ((iv 0)))] [] G13 Q))))))))))))))) : runs E (d + 1) i_X6_init [.ref x0] G Q := by
  rw [runs_eq (m := (yX6_init, cX6_init, 2, none, 0, 6, true, false)) rfl (Nat.le_of_ble_eq_true rfl)]
  exact g_X6_init_0 h
set_option maxRecDepth 10000 in
theorem g_X6_init_77 {E : Ev} {d : Nat} {G : Hp} {Q : Po} {x0 : Nat} {x1 : Int32} (h : (if (iv 2) ≤ x1 then ((¬ (iv 2) < 0 ∧ ((iv 2)).toNatClampNeg ≤ 100000) ∧ (qP E (psh G (cA 2 ((iv 2)).toNatClampNeg (fun _ => 0)) ((iv 2)).toNatClampNeg) x0 6 6 (.ref ((nxA E G))) fun G1 => (qCV E d i_X1_init [.ref ((nxA E G1))] (psh G1 (cO 1 (fDf 1)) (fSz 1)) fun G2 => (qP E G2 x0 6 7 (.ref ((nxA E G1))) fun G3 => (qCV E d i_X2_init [.ref ((nxA E G3)), .int ((iv 30))] (psh G3 (cO 2 (fDf 2)) (fSz 2)) fun G4 => (qP E G4 x0 6 8 (.ref ((nxA E G3))) fun G5 => (qCV E d i_X1_init [.ref ((nxA E G5))] (psh G5 (cO 1 (fDf 1)) (fSz 1)) fun G6 => (qP E G6 x0 6 9 (.ref ((nxA E G5))) fun G7 => (qFR E (psh G7 (cO 5 (fDf 5)) (fSz 5)) x0 6 9 fun v8 => (qCV E d i_X5_init [.ref ((nxA E G7)), .ref v8] (psh G7 (cO 5 (fDf 5)) (fSz 5)) fun G9 => (qP E G9 x0 6 10 (.ref ((nxA E G7))) fun G10 => Q none G10))))))))))) else (qFR E G x0 6 5 fun v11 => (qCV E d i_X1_init [.ref ((nxA E G))] (psh G (cO 1 (fDf 1)) (fSz 1)) fun G12 => (qRS E G12 v11 x1 (nxA E G) fun G13 => Xr E d x_X6_init 77 [some (.ref x0), some (.int ((x1 + (iv 1))))] [] G13 Q))))) : Xr E d x_X6_init 77 [some (.ref x0), some (.int x1)] [] G Q := by
  refine r_iload_n dX6_init_77 rfl ?_
  refine r_iconst dX6_init_78 ?_
  refine r_cge (tgt := 101) dX6_init_79 (by decide) (ite_imp (fun h => ?_) (fun h => ?_) h)
  · refine r_aload_n dX6_init_101 rfl ?_
    refine r_iconst dX6_init_102 ?_
    refine r_newZ dX6_init_103 ⟨h.1, ?_⟩
    replace h := h.2
    refine r_put dX6_init_105 rfl rfl (by decide) (qP_imp (fun G1 h => ?_) h)
    refine r_aload_n dX6_init_108 rfl ?_
    refine r_new dX6_init_109 rfl (by decide) ?_
    refine r_dup dX6_init_112 rfl ?_
    refine r_cV dX6_init_113 rfl (invI_eq rfl rfl rfl rfl rfl rfl ⟨rfl, Nat.le_of_ble_eq_true rfl⟩) (qCV_imp (fun G2 h => ?_) h)
    refine r_put dX6_init_116 rfl rfl (by decide) (qP_imp (fun G3 h => ?_) h)
    refine r_aload_n dX6_init_119 rfl ?_
    refine r_new dX6_init_120 rfl (by decide) ?_
    refine r_dup dX6_init_123 rfl ?_
    refine r_bipush dX6_init_124 rfl ?_
    refine r_cV dX6_init_126 rfl (invI_eq rfl rfl rfl rfl rfl rfl ⟨rfl, Nat.le_of_ble_eq_true rfl⟩) (qCV_imp (fun G4 h => ?_) h)
    refine r_put dX6_init_129 rfl rfl (by decide) (qP_imp (fun G5 h => ?_) h)
    refine r_aload_n dX6_init_132 rfl ?_
    refine r_new dX6_init_133 rfl (by decide) ?_
    refine r_dup dX6_init_136 rfl ?_
    refine r_cV dX6_init_137 rfl (invI_eq rfl rfl rfl rfl rfl rfl ⟨rfl, Nat.le_of_ble_eq_true rfl⟩) (qCV_imp (fun G6 h => ?_) h)
    refine r_put dX6_init_140 rfl rfl (by decide) (qP_imp (fun G7 h => ?_) h)
    refine r_aload_n dX6_init_143 rfl ?_
    refine r_new dX6_init_144 rfl (by decide) ?_
    refine r_dup dX6_init_147 rfl ?_
    refine r_aload_n dX6_init_148 rfl ?_
    refine r_getR dX6_init_149 rfl (qFR_imp (fun v8 h => ?_) h)
    refine r_cV dX6_init_152 rfl (invI_eq rfl rfl rfl rfl rfl rfl ⟨rfl, Nat.le_of_ble_eq_true rfl⟩) (qCV_imp (fun G9 h => ?_) h)
    refine r_put dX6_init_155 rfl rfl (by decide) (qP_imp (fun G10 h => ?_) h)
    exact r_vret dX6_init_158 rfl h
  · refine r_aload_n dX6_init_82 rfl ?_
    refine r_getR dX6_init_83 rfl (qFR_imp (fun v11 h => ?_) h)
    refine r_iload_n dX6_init_86 rfl ?_
    refine r_new dX6_init_87 rfl (by decide) ?_
    refine r_dup dX6_init_90 rfl ?_
    refine r_cV dX6_init_91 rfl (invI_eq rfl rfl rfl rfl rfl rfl ⟨rfl, Nat.le_of_ble_eq_true rfl⟩) (qCV_imp (fun G12 h => ?_) h)
    refine r_aast dX6_init_94 (qRS_imp (fun G13 h => ?_) h)
    refine r_iinc dX6_init_95 rfl rfl ?_
    refine r_goto (tgt := 77) dX6_init_98 (by decide) ?_
    exact h
theorem dX6_append_0 : decode cX6_append 0 = .ok (.iload_n 1, 1) := by decide +kernel
theorem dX6_append_1 : decode cX6_append 1 = .ok (.ifCond .lt 10, 3) := by decide +kernel
theorem dX6_append_4 : decode cX6_append 4 = .ok (.iload_n 1, 1) := by decide +kernel
theorem dX6_append_5 : decode cX6_append 5 = .ok (.sipush 255, 3) := by decide +kernel
theorem dX6_append_8 : decode cX6_append 8 = .ok (.if_icmp .le 6, 3) := by decide +kernel
theorem dX6_append_11 : decode cX6_append 11 = .ok (.bipush (-2), 2) := by decide +kernel
theorem dX6_append_13 : decode cX6_append 13 = .ok (.ireturn, 1) := by decide +kernel
theorem dX6_append_14 : decode cX6_append 14 = .ok (.aload_n 0, 1) := by decide +kernel
theorem dX6_append_15 : decode cX6_append 15 = .ok (.getfield 10, 3) := by decide +kernel
theorem dX6_append_18 : decode cX6_append 18 = .ok (.iload_n 1, 1) := by decide +kernel
theorem dX6_append_19 : decode cX6_append 19 = .ok (.invokevirtual 72, 3) := by decide +kernel
theorem dX6_append_22 : decode cX6_append 22 = .ok (.ifCond .eq 13, 3) := by decide +kernel
theorem dX6_append_25 : decode cX6_append 25 = .ok (.aload_n 0, 1) := by decide +kernel
theorem dX6_append_26 : decode cX6_append 26 = .ok (.getfield 10, 3) := by decide +kernel
theorem dX6_append_29 : decode cX6_append 29 = .ok (.invokevirtual 76, 3) := by decide +kernel
theorem dX6_append_32 : decode cX6_append 32 = .ok (.goto 5, 3) := by decide +kernel
theorem dX6_append_35 : decode cX6_append 35 = .ok (.bipush (-4), 2) := by decide +kernel
theorem dX6_append_37 : decode cX6_append 37 = .ok (.ireturn, 1) := by decide +kernel
abbrev x_X6_append : Cx := (6, cX6_append, false, some (.int))
set_option maxRecDepth 10000 in
theorem g_X6_append_0 {E : Ev} {d : Nat} {G : Hp} {Q : Po} {x0 : Nat} {x1 : Int32} (h : (if x1 < 0 then Q (some (.int (iv (-2)))) G else (if x1 ≤ (iv 255) then (qFR E G x0 6 0 fun v1 => (rcv E G v1 3 = true ∧ (qCI E d i_X3_add [.ref v1, .int x1] G fun v3 G2 => (if v3 = 0 then Q (some (.int (iv (-4)))) G2 else (qFR E G2 x0 6 0 fun v4 => (rcv E G2 v4 3 = true ∧ (qCI E d i_X3_size [.ref v4] G2 fun v6 G5 => Q (some (.int v6)) G5))))))) else Q (some (.int (iv (-2)))) G))) : Xr E d x_X6_append 0 [some (.ref x0), some (.int x1)] [] G Q := by
  refine r_iload_n dX6_append_0 rfl ?_
  refine r_iflt (tgt := 11) dX6_append_1 (by decide) (ite_imp (fun h => ?_) (fun h => ?_) h)
  · refine r_bipush dX6_append_11 rfl ?_
    exact r_iret dX6_append_13 rfl ⟨rfl, h⟩
  · refine r_iload_n dX6_append_4 rfl ?_
    refine r_sipush dX6_append_5 rfl ?_
    refine r_cle (tgt := 14) dX6_append_8 (by decide) (ite_imp (fun h => ?_) (fun h => ?_) h)
    · refine r_aload_n dX6_append_14 rfl ?_
      refine r_getR dX6_append_15 rfl (qFR_imp (fun v1 h => ?_) h)
      refine r_iload_n dX6_append_18 rfl ?_
      refine r_cI dX6_append_19 rfl (invV_eq rfl rfl rfl rfl rfl rfl ⟨rfl, Nat.le_of_ble_eq_true rfl⟩ h.1) (qCI_imp (fun v3 G2 h => ?_) h.2)
      refine r_ifeq (tgt := 35) dX6_append_22 (by decide) (ite_imp (fun h => ?_) (fun h => ?_) h)
      · refine r_bipush dX6_append_35 rfl ?_
        exact r_iret dX6_append_37 rfl ⟨rfl, h⟩
      · refine r_aload_n dX6_append_25 rfl ?_
        refine r_getR dX6_append_26 rfl (qFR_imp (fun v4 h => ?_) h)
        refine r_cI dX6_append_29 rfl (invV_eq rfl rfl rfl rfl rfl rfl ⟨rfl, Nat.le_of_ble_eq_true rfl⟩ h.1) (qCI_imp (fun v6 G5 h => ?_) h.2)
        refine r_goto (tgt := 37) dX6_append_32 (by decide) ?_
        exact r_iret dX6_append_37 rfl ⟨rfl, h⟩
    · refine r_bipush dX6_append_11 rfl ?_
      exact r_iret dX6_append_13 rfl ⟨rfl, h⟩
theorem e_X6_append {E : Ev} {d : Nat} {G : Hp} {Q : Po} {x0 : Nat} {x1 : Int32} (h : (if x1 < 0 then Q (some (.int (iv (-2)))) G else (if x1 ≤ (iv 255) then (qFR E G x0 6 0 fun v1 => (rcv E G v1 3 = true ∧ (qCI E d i_X3_add [.ref v1, .int x1] G fun v3 G2 => (if v3 = 0 then Q (some (.int (iv (-4)))) G2 else (qFR E G2 x0 6 0 fun v4 => (rcv E G2 v4 3 = true ∧ (qCI E d i_X3_size [.ref v4] G2 fun v6 G5 => Q (some (.int v6)) G5))))))) else Q (some (.int (iv (-2)))) G))) : runs E (d + 1) i_X6_append [.ref x0, .int x1] G Q := by
  rw [runs_eq (m := (yX6_append, cX6_append, 2, some (.int), 1, 6, false, false)) rfl (Nat.le_of_ble_eq_true rfl)]
  exact g_X6_append_0 h
theorem dX6_clearText_0 : decode cX6_clearText 0 = .ok (.aload_n 0, 1) := by decide +kernel
theorem dX6_clearText_1 : decode cX6_clearText 1 = .ok (.getfield 10, 3) := by decide +kernel
theorem dX6_clearText_4 : decode cX6_clearText 4 = .ok (.invokevirtual 76, 3) := by decide +kernel
theorem dX6_clearText_7 : decode cX6_clearText 7 = .ok (.istore_n 1, 1) := by decide +kernel
theorem dX6_clearText_8 : decode cX6_clearText 8 = .ok (.aload_n 0, 1) := by decide +kernel
theorem dX6_clearText_9 : decode cX6_clearText 9 = .ok (.getfield 10, 3) := by decide +kernel
theorem dX6_clearText_12 : decode cX6_clearText 12 = .ok (.invokevirtual 80, 3) := by decide +kernel
theorem dX6_clearText_15 : decode cX6_clearText 15 = .ok (.iload_n 1, 1) := by decide +kernel
theorem dX6_clearText_16 : decode cX6_clearText 16 = .ok (.ireturn, 1) := by decide +kernel
abbrev x_X6_clearText : Cx := (6, cX6_clearText, false, some (.int))
set_option maxRecDepth 10000 in
theorem g_X6_clearText_0 {E : Ev} {d : Nat} {G : Hp} {Q : Po} {x0 : Nat} (h : (qFR E G x0 6 0 fun v1 => (rcv E G v1 3 = true ∧ (qCI E d i_X3_size [.ref v1] G fun v3 G2 => (qFR E G2 x0 6 0 fun v4 => (rcv E G2 v4 3 = true ∧ (qCV E d i_X3_empty [.ref v4] G2 fun G5 => Q (some (.int v3)) G5))))))) : Xr E d x_X6_clearText 0 [some (.ref x0), none] [] G Q := by
  refine r_aload_n dX6_clearText_0 rfl ?_
  refine r_getR dX6_clearText_1 rfl (qFR_imp (fun v1 h => ?_) h)
  refine r_cI dX6_clearText_4 rfl (invV_eq rfl rfl rfl rfl rfl rfl ⟨rfl, Nat.le_of_ble_eq_true rfl⟩ h.1) (qCI_imp (fun v3 G2 h => ?_) h.2)
  refine r_istore_n dX6_clearText_7 rfl ?_
  refine r_aload_n dX6_clearText_8 rfl ?_
  refine r_getR dX6_clearText_9 rfl (qFR_imp (fun v4 h => ?_) h)
  refine r_cV dX6_clearText_12 rfl (invV_eq rfl rfl rfl rfl rfl rfl ⟨rfl, Nat.le_of_ble_eq_true rfl⟩ h.1) (qCV_imp (fun G5 h => ?_) h.2)
  refine r_iload_n dX6_clearText_15 rfl ?_
  exact r_iret dX6_clearText_16 rfl ⟨rfl, h⟩
theorem e_X6_clearText {E : Ev} {d : Nat} {G : Hp} {Q : Po} {x0 : Nat} (h : (qFR E G x0 6 0 fun v1 => (rcv E G v1 3 = true ∧ (qCI E d i_X3_size [.ref v1] G fun v3 G2 => (qFR E G2 x0 6 0 fun v4 => (rcv E G2 v4 3 = true ∧ (qCV E d i_X3_empty [.ref v4] G2 fun G5 => Q (some (.int v3)) G5))))))) : runs E (d + 1) i_X6_clearText [.ref x0] G Q := by
  rw [runs_eq (m := (yX6_clearText, cX6_clearText, 2, some (.int), 0, 6, false, false)) rfl (Nat.le_of_ble_eq_true rfl)]
  exact g_X6_clearText_0 h
theorem dX6_errorPosition_0 : decode cX6_errorPosition 0 = .ok (.aload_n 0, 1) := by decide +kernel
theorem dX6_errorPosition_1 : decode cX6_errorPosition 1 = .ok (.getfield 10, 3) := by decide +kernel
theorem dX6_errorPosition_4 : decode cX6_errorPosition 4 = .ok (.aload_n 0, 1) := by decide +kernel
theorem dX6_errorPosition_5 : decode cX6_errorPosition 5 = .ok (.getfield 54, 3) := by decide +kernel
theorem dX6_errorPosition_8 : decode cX6_errorPosition 8 = .ok (.aload_n 0, 1) := by decide +kernel
theorem dX6_errorPosition_9 : decode cX6_errorPosition 9 = .ok (.getfield 62, 3) := by decide +kernel
theorem dX6_errorPosition_12 : decode cX6_errorPosition 12 = .ok (.invokevirtual 83, 3) := by decide +kernel
theorem dX6_errorPosition_15 : decode cX6_errorPosition 15 = .ok (.ireturn, 1) := by decide +kernel
abbrev x_X6_errorPosition : Cx := (6, cX6_errorPosition, false, some (.int))
set_option maxRecDepth 10000 in
theorem g_X6_errorPosition_0 {E : Ev} {d : Nat} {G : Hp} {Q : Po} {x0 : Nat} (h : (qFR E G x0 6 0 fun v1 => (qFR E G x0 6 7 fun v2 => (qFR E G x0 6 8 fun v3 => (rcv E G v1 3 = true ∧ (qCI E d i_X3_readSetup [.ref v1, .ref v2, .ref v3] G fun v5 G4 => Q (some (.int v5)) G4)))))) : Xr E d x_X6_errorPosition 0 [some (.ref x0)] [] G Q := by
  refine r_aload_n dX6_errorPosition_0 rfl ?_
  refine r_getR dX6_errorPosition_1 rfl (qFR_imp (fun v1 h => ?_) h)
  refine r_aload_n dX6_errorPosition_4 rfl ?_
  refine r_getR dX6_errorPosition_5 rfl (qFR_imp (fun v2 h => ?_) h)
  refine r_aload_n dX6_errorPosition_8 rfl ?_
  refine r_getR dX6_errorPosition_9 rfl (qFR_imp (fun v3 h => ?_) h)
  refine r_cI dX6_errorPosition_12 rfl (invV_eq rfl rfl rfl rfl rfl rfl ⟨rfl, Nat.le_of_ble_eq_true rfl⟩ h.1) (qCI_imp (fun v5 G4 h => ?_) h.2)
  exact r_iret dX6_errorPosition_15 rfl ⟨rfl, h⟩
theorem e_X6_errorPosition {E : Ev} {d : Nat} {G : Hp} {Q : Po} {x0 : Nat} (h : (qFR E G x0 6 0 fun v1 => (qFR E G x0 6 7 fun v2 => (qFR E G x0 6 8 fun v3 => (rcv E G v1 3 = true ∧ (qCI E d i_X3_readSetup [.ref v1, .ref v2, .ref v3] G fun v5 G4 => Q (some (.int v5)) G4)))))) : runs E (d + 1) i_X6_errorPosition [.ref x0] G Q := by
  rw [runs_eq (m := (yX6_errorPosition, cX6_errorPosition, 1, some (.int), 0, 6, false, false)) rfl (Nat.le_of_ble_eq_true rfl)]
  exact g_X6_errorPosition_0 h
theorem dX6_load_0 : decode cX6_load 0 = .ok (.aload_n 0, 1) := by decide +kernel
theorem dX6_load_1 : decode cX6_load 1 = .ok (.getfield 10, 3) := by decide +kernel
theorem dX6_load_4 : decode cX6_load 4 = .ok (.aload_n 0, 1) := by decide +kernel
theorem dX6_load_5 : decode cX6_load 5 = .ok (.getfield 54, 3) := by decide +kernel
theorem dX6_load_8 : decode cX6_load 8 = .ok (.aload_n 0, 1) := by decide +kernel
theorem dX6_load_9 : decode cX6_load 9 = .ok (.getfield 62, 3) := by decide +kernel
theorem dX6_load_12 : decode cX6_load 12 = .ok (.invokevirtual 83, 3) := by decide +kernel
theorem dX6_load_15 : decode cX6_load 15 = .ok (.bipush (-9), 2) := by decide +kernel
theorem dX6_load_17 : decode cX6_load 17 = .ok (.if_icmp .eq 6, 3) := by decide +kernel
theorem dX6_load_20 : decode cX6_load 20 = .ok (.bipush (-3), 2) := by decide +kernel
theorem dX6_load_22 : decode cX6_load 22 = .ok (.ireturn, 1) := by decide +kernel
theorem dX6_load_23 : decode cX6_load 23 = .ok (.aload_n 0, 1) := by decide +kernel
theorem dX6_load_24 : decode cX6_load 24 = .ok (.getfield 19, 3) := by decide +kernel
theorem dX6_load_27 : decode cX6_load 27 = .ok (.aload_n 0, 1) := by decide +kernel
theorem dX6_load_28 : decode cX6_load 28 = .ok (.getfield 54, 3) := by decide +kernel
theorem dX6_load_31 : decode cX6_load 31 = .ok (.invokevirtual 87, 3) := by decide +kernel
theorem dX6_load_34 : decode cX6_load 34 = .ok (.aload_n 0, 1) := by decide +kernel
theorem dX6_load_35 : decode cX6_load 35 = .ok (.getfield 42, 3) := by decide +kernel
theorem dX6_load_38 : decode cX6_load 38 = .ok (.invokevirtual 90, 3) := by decide +kernel
theorem dX6_load_41 : decode cX6_load 41 = .ok (.iconst 0, 1) := by decide +kernel
theorem dX6_load_42 : decode cX6_load 42 = .ok (.istore_n 1, 1) := by decide +kernel
theorem dX6_load_43 : decode cX6_load 43 = .ok (.iload_n 1, 1) := by decide +kernel
theorem dX6_load_44 : decode cX6_load 44 = .ok (.iconst 2, 1) := by decide +kernel
theorem dX6_load_45 : decode cX6_load 45 = .ok (.if_icmp .ge 16, 3) := by decide +kernel
theorem dX6_load_48 : decode cX6_load 48 = .ok (.aload_n 0, 1) := by decide +kernel
theorem dX6_load_49 : decode cX6_load 49 = .ok (.getfield 50, 3) := by decide +kernel
theorem dX6_load_52 : decode cX6_load 52 = .ok (.iload_n 1, 1) := by decide +kernel
theorem dX6_load_53 : decode cX6_load 53 = .ok (.iconst 0, 1) := by decide +kernel
theorem dX6_load_54 : decode cX6_load 54 = .ok (.bastore, 1) := by decide +kernel
theorem dX6_load_55 : decode cX6_load 55 = .ok (.iinc 1 1, 3) := by decide +kernel
theorem dX6_load_58 : decode cX6_load 58 = .ok (.goto (-15), 3) := by decide +kernel
theorem dX6_load_61 : decode cX6_load 61 = .ok (.aload_n 0, 1) := by decide +kernel
theorem dX6_load_62 : decode cX6_load 62 = .ok (.getfield 19, 3) := by decide +kernel
theorem dX6_load_65 : decode cX6_load 65 = .ok (.invokevirtual 93, 3) := by decide +kernel
theorem dX6_load_68 : decode cX6_load 68 = .ok (.ireturn, 1) := by decide +kernel
abbrev x_X6_load : Cx := (6, cX6_load, false, some (.int))
set_option maxRecDepth 10000 in
theorem g_X6_load_0 {E : Ev} {d : Nat} {G : Hp} {Q : Po} {x0 : Nat} (h : (qFR E G x0 6 0 fun v1 => (qFR E G x0 6 7 fun v2 => (qFR E G x0 6 8 fun v3 => (rcv E G v1 3 = true ∧ (qCI E d i_X3_readSetup [.ref v1, .ref v2, .ref v3] G fun v5 G4 => (if v5 = (iv (-9)) then (qFR E G4 x0 6 1 fun v6 => (qFR E G4 x0 6 7 fun v7 => (rcv E G4 v6 1 = true ∧ (qCV E d i_X1_become [.ref v6, .ref v7] G4 fun G8 => (qFR E G8 x0 6 4 fun v9 => (rcv E G8 v9 0 = true ∧ (qCV E d i_X0_forget [.ref v9] G8 fun G10 => Xr E d x_X6_load 43 [some (.ref x0), some (.int ((iv 0)))] [] G10 Q))))))) else Q (some (.int (iv (-3)))) G4))))))) : Xr E d x_X6_load 0 [some (.ref x0), none] [] G Q := by
  refine r_aload_n dX6_load_0 rfl ?_
  refine r_getR dX6_load_1 rfl (qFR_imp (fun v1 h => ?_) h)
  refine r_aload_n dX6_load_4 rfl ?_
  refine r_getR dX6_load_5 rfl (qFR_imp (fun v2 h => ?_) h)
  refine r_aload_n dX6_load_8 rfl ?_
  refine r_getR dX6_load_9 rfl (qFR_imp (fun v3 h => ?_) h)
  refine r_cI dX6_load_12 rfl (invV_eq rfl rfl rfl rfl rfl rfl ⟨rfl, Nat.le_of_ble_eq_true rfl⟩ h.1) (qCI_imp (fun v5 G4 h => ?_) h.2)
  refine r_bipush dX6_load_15 rfl ?_
  refine r_ceq (tgt := 23) dX6_load_17 (by decide) (ite_imp (fun h => ?_) (fun h => ?_) h)
  · refine r_aload_n dX6_load_23 rfl ?_
    refine r_getR dX6_load_24 rfl (qFR_imp (fun v6 h => ?_) h)
    refine r_aload_n dX6_load_27 rfl ?_
    refine r_getR dX6_load_28 rfl (qFR_imp (fun v7 h => ?_) h)
    refine r_cV dX6_load_31 rfl (invV_eq rfl rfl rfl rfl rfl rfl ⟨rfl, Nat.le_of_ble_eq_true rfl⟩ h.1) (qCV_imp (fun G8 h => ?_) h.2)
    refine r_aload_n dX6_load_34 rfl ?_
    refine r_getR dX6_load_35 rfl (qFR_imp (fun v9 h => ?_) h)
    refine r_cV dX6_load_38 rfl (invV_eq rfl rfl rfl rfl rfl rfl ⟨rfl, Nat.le_of_ble_eq_true rfl⟩ h.1) (qCV_imp (fun G10 h => ?_) h.2)
    refine r_iconst dX6_load_41 ?_
    refine r_istore_n dX6_load_42 rfl ?_
    exact h
  · refine r_bipush dX6_load_20 rfl ?_
    exact r_iret dX6_load_22 rfl ⟨rfl, h⟩
theorem e_X6_load {E : Ev} {d : Nat} {G : Hp} {Q : Po} {x0 : Nat} (h : (qFR E G x0 6 0 fun v1 => (qFR E G x0 6 7 fun v2 => (qFR E G x0 6 8 fun v3 => (rcv E G v1 3 = true ∧ (qCI E d i_X3_readSetup [.ref v1, .ref v2, .ref v3] G fun v5 G4 => (if v5 = (iv (-9)) then (qFR E G4 x0 6 1 fun v6 => (qFR E G4 x0 6 7 fun v7 => (rcv E G4 v6 1 = true ∧ (qCV E d i_X1_become [.ref v6, .ref v7] G4 fun G8 => (qFR E G8 x0 6 4 fun v9 => (rcv E G8 v9 0 = true ∧ (qCV E d i_X0_forget [.ref v9] G8 fun G10 => Xr E d x_X6_load 43 [some (.ref x0), some (.int ((iv 0)))] [] G10 Q))))))) else Q (some (.int (iv (-3)))) G4))))))) : runs E (d + 1) i_X6_load [.ref x0] G Q := by
  rw [runs_eq (m := (yX6_load, cX6_load, 2, some (.int), 0, 6, false, false)) rfl (Nat.le_of_ble_eq_true rfl)]
  exact g_X6_load_0 h
set_option maxRecDepth 10000 in
theorem g_X6_load_43 {E : Ev} {d : Nat} {G : Hp} {Q : Po} {x0 : Nat} {x1 : Int32} (h : (if (iv 2) ≤ x1 then (qFR E G x0 6 1 fun v1 => (rcv E G v1 1 = true ∧ (qCI E d i_X1_transitionCount [.ref v1] G fun v3 G2 => Q (some (.int v3)) G2))) else (qFR E G x0 6 6 fun v4 => (qBS E G v4 x1 (iv 0) fun G5 => Xr E d x_X6_load 43 [some (.ref x0), some (.int ((x1 + (iv 1))))] [] G5 Q)))) : Xr E d x_X6_load 43 [some (.ref x0), some (.int x1)] [] G Q := by
  refine r_iload_n dX6_load_43 rfl ?_
  refine r_iconst dX6_load_44 ?_
  refine r_cge (tgt := 61) dX6_load_45 (by decide) (ite_imp (fun h => ?_) (fun h => ?_) h)
  · refine r_aload_n dX6_load_61 rfl ?_
    refine r_getR dX6_load_62 rfl (qFR_imp (fun v1 h => ?_) h)
    refine r_cI dX6_load_65 rfl (invV_eq rfl rfl rfl rfl rfl rfl ⟨rfl, Nat.le_of_ble_eq_true rfl⟩ h.1) (qCI_imp (fun v3 G2 h => ?_) h.2)
    exact r_iret dX6_load_68 rfl ⟨rfl, h⟩
  · refine r_aload_n dX6_load_48 rfl ?_
    refine r_getR dX6_load_49 rfl (qFR_imp (fun v4 h => ?_) h)
    refine r_iload_n dX6_load_52 rfl ?_
    refine r_iconst dX6_load_53 ?_
    refine r_bast dX6_load_54 (qBS_imp (fun G5 h => ?_) h)
    refine r_iinc dX6_load_55 rfl rfl ?_
    refine r_goto (tgt := 43) dX6_load_58 (by decide) ?_
    exact h
theorem dX6_bodyLength_0 : decode cX6_bodyLength 0 = .ok (.iload_n 1, 1) := by decide +kernel
theorem dX6_bodyLength_1 : decode cX6_bodyLength 1 = .ok (.invokestatic 96, 3) := by decide +kernel
theorem dX6_bodyLength_4 : decode cX6_bodyLength 4 = .ok (.ifCond .eq 17, 3) := by decide +kernel
theorem dX6_bodyLength_7 : decode cX6_bodyLength 7 = .ok (.aload_n 0, 1) := by decide +kernel
theorem dX6_bodyLength_8 : decode cX6_bodyLength 8 = .ok (.getfield 19, 3) := by decide +kernel
theorem dX6_bodyLength_11 : decode cX6_bodyLength 11 = .ok (.iload_n 1, 1) := by decide +kernel
theorem dX6_bodyLength_12 : decode cX6_bodyLength 12 = .ok (.invokevirtual 99, 3) := by decide +kernel
theorem dX6_bodyLength_15 : decode cX6_bodyLength 15 = .ok (.invokevirtual 103, 3) := by decide +kernel
theorem dX6_bodyLength_18 : decode cX6_bodyLength 18 = .ok (.goto 4, 3) := by decide +kernel
theorem dX6_bodyLength_21 : decode cX6_bodyLength 21 = .ok (.iconst (-1), 1) := by decide +kernel
theorem dX6_bodyLength_22 : decode cX6_bodyLength 22 = .ok (.ireturn, 1) := by decide +kernel
abbrev x_X6_bodyLength : Cx := (6, cX6_bodyLength, false, some (.int))
set_option maxRecDepth 10000 in
theorem g_X6_bodyLength_0 {E : Ev} {d : Nat} {G : Hp} {Q : Po} {x0 : Nat} {x1 : Int32} (h : (qCI E d i_X6_isNonterminal [.int x1] G fun v2 G1 => (if v2 = 0 then Q (some (.int (iv (-1)))) G1 else (qFR E G1 x0 6 1 fun v3 => (rcv E G1 v3 1 = true ∧ (qCR E d i_X1_body [.ref v3, .int x1] G1 fun v5 G4 => (rcv E G4 v5 2 = true ∧ (qCI E d i_X2_size [.ref v5] G4 fun v7 G6 => Q (some (.int v7)) G6)))))))) : Xr E d x_X6_bodyLength 0 [some (.ref x0), some (.int x1)] [] G Q := by
  refine r_iload_n dX6_bodyLength_0 rfl ?_
  refine r_cI dX6_bodyLength_1 rfl (invS_eq rfl (by decide) rfl rfl rfl rfl ⟨rfl, Nat.le_of_ble_eq_true rfl⟩) (qCI_imp (fun v2 G1 h => ?_) h)
  refine r_ifeq (tgt := 21) dX6_bodyLength_4 (by decide) (ite_imp (fun h => ?_) (fun h => ?_) h)
  · refine r_iconst dX6_bodyLength_21 ?_
    exact r_iret dX6_bodyLength_22 rfl ⟨rfl, h⟩
  · refine r_aload_n dX6_bodyLength_7 rfl ?_
    refine r_getR dX6_bodyLength_8 rfl (qFR_imp (fun v3 h => ?_) h)
    refine r_iload_n dX6_bodyLength_11 rfl ?_
    refine r_cR dX6_bodyLength_12 rfl (invV_eq rfl rfl rfl rfl rfl rfl ⟨rfl, Nat.le_of_ble_eq_true rfl⟩ h.1) (qCR_imp (fun v5 G4 h => ?_) h.2)
    refine r_cI dX6_bodyLength_15 rfl (invV_eq rfl rfl rfl rfl rfl rfl ⟨rfl, Nat.le_of_ble_eq_true rfl⟩ h.1) (qCI_imp (fun v7 G6 h => ?_) h.2)
    refine r_goto (tgt := 22) dX6_bodyLength_18 (by decide) ?_
    exact r_iret dX6_bodyLength_22 rfl ⟨rfl, h⟩
theorem e_X6_bodyLength {E : Ev} {d : Nat} {G : Hp} {Q : Po} {x0 : Nat} {x1 : Int32} (h : (qCI E d i_X6_isNonterminal [.int x1] G fun v2 G1 => (if v2 = 0 then Q (some (.int (iv (-1)))) G1 else (qFR E G1 x0 6 1 fun v3 => (rcv E G1 v3 1 = true ∧ (qCR E d i_X1_body [.ref v3, .int x1] G1 fun v5 G4 => (rcv E G4 v5 2 = true ∧ (qCI E d i_X2_size [.ref v5] G4 fun v7 G6 => Q (some (.int v7)) G6)))))))) : runs E (d + 1) i_X6_bodyLength [.ref x0, .int x1] G Q := by
  rw [runs_eq (m := (yX6_bodyLength, cX6_bodyLength, 2, some (.int), 1, 6, false, false)) rfl (Nat.le_of_ble_eq_true rfl)]
  exact g_X6_bodyLength_0 h
theorem dX6_bodySymbol_0 : decode cX6_bodySymbol 0 = .ok (.iload_n 1, 1) := by decide +kernel
theorem dX6_bodySymbol_1 : decode cX6_bodySymbol 1 = .ok (.invokestatic 96, 3) := by decide +kernel
theorem dX6_bodySymbol_4 : decode cX6_bodySymbol 4 = .ok (.ifCond .eq 18, 3) := by decide +kernel
theorem dX6_bodySymbol_7 : decode cX6_bodySymbol 7 = .ok (.aload_n 0, 1) := by decide +kernel
theorem dX6_bodySymbol_8 : decode cX6_bodySymbol 8 = .ok (.getfield 19, 3) := by decide +kernel
theorem dX6_bodySymbol_11 : decode cX6_bodySymbol 11 = .ok (.iload_n 1, 1) := by decide +kernel
theorem dX6_bodySymbol_12 : decode cX6_bodySymbol 12 = .ok (.invokevirtual 99, 3) := by decide +kernel
theorem dX6_bodySymbol_15 : decode cX6_bodySymbol 15 = .ok (.iload_n 2, 1) := by decide +kernel
theorem dX6_bodySymbol_16 : decode cX6_bodySymbol 16 = .ok (.invokevirtual 104, 3) := by decide +kernel
theorem dX6_bodySymbol_19 : decode cX6_bodySymbol 19 = .ok (.ifCond .ne 5, 3) := by decide +kernel
theorem dX6_bodySymbol_22 : decode cX6_bodySymbol 22 = .ok (.iconst (-1), 1) := by decide +kernel
theorem dX6_bodySymbol_23 : decode cX6_bodySymbol 23 = .ok (.ireturn, 1) := by decide +kernel
theorem dX6_bodySymbol_24 : decode cX6_bodySymbol 24 = .ok (.aload_n 0, 1) := by decide +kernel
theorem dX6_bodySymbol_25 : decode cX6_bodySymbol 25 = .ok (.getfield 19, 3) := by decide +kernel
theorem dX6_bodySymbol_28 : decode cX6_bodySymbol 28 = .ok (.iload_n 1, 1) := by decide +kernel
theorem dX6_bodySymbol_29 : decode cX6_bodySymbol 29 = .ok (.invokevirtual 99, 3) := by decide +kernel
theorem dX6_bodySymbol_32 : decode cX6_bodySymbol 32 = .ok (.iload_n 2, 1) := by decide +kernel
theorem dX6_bodySymbol_33 : decode cX6_bodySymbol 33 = .ok (.invokevirtual 107, 3) := by decide +kernel
theorem dX6_bodySymbol_36 : decode cX6_bodySymbol 36 = .ok (.invokestatic 111, 3) := by decide +kernel
theorem dX6_bodySymbol_39 : decode cX6_bodySymbol 39 = .ok (.ireturn, 1) := by decide +kernel
abbrev x_X6_bodySymbol : Cx := (6, cX6_bodySymbol, false, some (.int))
set_option maxRecDepth 10000 in
theorem g_X6_bodySymbol_0 {E : Ev} {d : Nat} {G : Hp} {Q : Po} {x0 : Nat} {x1 : Int32} {x2 : Int32} (h : (qCI E d i_X6_isNonterminal [.int x1] G fun v2 G1 => (if v2 = 0 then Q (some (.int (iv (-1)))) G1 else (qFR E G1 x0 6 1 fun v3 => (rcv E G1 v3 1 = true ∧ (qCR E d i_X1_body [.ref v3, .int x1] G1 fun v5 G4 => (rcv E G4 v5 2 = true ∧ (qCI E d i_X2_holds [.ref v5, .int x2] G4 fun v7 G6 => (if ¬ v7 = 0 then (qFR E G6 x0 6 1 fun v8 => (rcv E G6 v8 1 = true ∧ (qCR E d i_X1_body [.ref v8, .int x1] G6 fun v10 G9 => (rcv E G9 v10 2 = true ∧ (qCI E d i_X2_symbol [.ref v10, .int x2] G9 fun v12 G11 => (qCI E d i_X6_codeOf [.int v12] G11 fun v14 G13 => Q (some (.int v14)) G13)))))) else Q (some (.int (iv (-1)))) G6))))))))) : Xr E d x_X6_bodySymbol 0 [some (.ref x0), some (.int x1), some (.int x2)] [] G Q := by
  refine r_iload_n dX6_bodySymbol_0 rfl ?_
  refine r_cI dX6_bodySymbol_1 rfl (invS_eq rfl (by decide) rfl rfl rfl rfl ⟨rfl, Nat.le_of_ble_eq_true rfl⟩) (qCI_imp (fun v2 G1 h => ?_) h)
  refine r_ifeq (tgt := 22) dX6_bodySymbol_4 (by decide) (ite_imp (fun h => ?_) (fun h => ?_) h)
  · refine r_iconst dX6_bodySymbol_22 ?_
    exact r_iret dX6_bodySymbol_23 rfl ⟨rfl, h⟩
  · refine r_aload_n dX6_bodySymbol_7 rfl ?_
    refine r_getR dX6_bodySymbol_8 rfl (qFR_imp (fun v3 h => ?_) h)
    refine r_iload_n dX6_bodySymbol_11 rfl ?_
    refine r_cR dX6_bodySymbol_12 rfl (invV_eq rfl rfl rfl rfl rfl rfl ⟨rfl, Nat.le_of_ble_eq_true rfl⟩ h.1) (qCR_imp (fun v5 G4 h => ?_) h.2)
    refine r_iload_n dX6_bodySymbol_15 rfl ?_
    refine r_cI dX6_bodySymbol_16 rfl (invV_eq rfl rfl rfl rfl rfl rfl ⟨rfl, Nat.le_of_ble_eq_true rfl⟩ h.1) (qCI_imp (fun v7 G6 h => ?_) h.2)
    refine r_ifne (tgt := 24) dX6_bodySymbol_19 (by decide) (ite_imp (fun h => ?_) (fun h => ?_) h)
    · refine r_aload_n dX6_bodySymbol_24 rfl ?_
      refine r_getR dX6_bodySymbol_25 rfl (qFR_imp (fun v8 h => ?_) h)
      refine r_iload_n dX6_bodySymbol_28 rfl ?_
      refine r_cR dX6_bodySymbol_29 rfl (invV_eq rfl rfl rfl rfl rfl rfl ⟨rfl, Nat.le_of_ble_eq_true rfl⟩ h.1) (qCR_imp (fun v10 G9 h => ?_) h.2)
      refine r_iload_n dX6_bodySymbol_32 rfl ?_
      refine r_cI dX6_bodySymbol_33 rfl (invV_eq rfl rfl rfl rfl rfl rfl ⟨rfl, Nat.le_of_ble_eq_true rfl⟩ h.1) (qCI_imp (fun v12 G11 h => ?_) h.2)
      refine r_cI dX6_bodySymbol_36 rfl (invS_eq rfl (by decide) rfl rfl rfl rfl ⟨rfl, Nat.le_of_ble_eq_true rfl⟩) (qCI_imp (fun v14 G13 h => ?_) h)
      exact r_iret dX6_bodySymbol_39 rfl ⟨rfl, h⟩
    · refine r_iconst dX6_bodySymbol_22 ?_
      exact r_iret dX6_bodySymbol_23 rfl ⟨rfl, h⟩
theorem e_X6_bodySymbol {E : Ev} {d : Nat} {G : Hp} {Q : Po} {x0 : Nat} {x1 : Int32} {x2 : Int32} (h : (qCI E d i_X6_isNonterminal [.int x1] G fun v2 G1 => (if v2 = 0 then Q (some (.int (iv (-1)))) G1 else (qFR E G1 x0 6 1 fun v3 => (rcv E G1 v3 1 = true ∧ (qCR E d i_X1_body [.ref v3, .int x1] G1 fun v5 G4 => (rcv E G4 v5 2 = true ∧ (qCI E d i_X2_holds [.ref v5, .int x2] G4 fun v7 G6 => (if ¬ v7 = 0 then (qFR E G6 x0 6 1 fun v8 => (rcv E G6 v8 1 = true ∧ (qCR E d i_X1_body [.ref v8, .int x1] G6 fun v10 G9 => (rcv E G9 v10 2 = true ∧ (qCI E d i_X2_symbol [.ref v10, .int x2] G9 fun v12 G11 => (qCI E d i_X6_codeOf [.int v12] G11 fun v14 G13 => Q (some (.int v14)) G13)))))) else Q (some (.int (iv (-1)))) G6))))))))) : runs E (d + 1) i_X6_bodySymbol [.ref x0, .int x1, .int x2] G Q := by
  rw [runs_eq (m := (yX6_bodySymbol, cX6_bodySymbol, 3, some (.int), 2, 6, false, false)) rfl (Nat.le_of_ble_eq_true rfl)]
  exact g_X6_bodySymbol_0 h
theorem dX6_transition_0 : decode cX6_transition 0 = .ok (.iload_n 1, 1) := by decide +kernel
theorem dX6_transition_1 : decode cX6_transition 1 = .ok (.invokestatic 114, 3) := by decide +kernel
theorem dX6_transition_4 : decode cX6_transition 4 = .ok (.ifCond .eq 10, 3) := by decide +kernel
theorem dX6_transition_7 : decode cX6_transition 7 = .ok (.iload_n 2, 1) := by decide +kernel
theorem dX6_transition_8 : decode cX6_transition 8 = .ok (.invokestatic 117, 3) := by decide +kernel
theorem dX6_transition_11 : decode cX6_transition 11 = .ok (.ifCond .ne 5, 3) := by decide +kernel
theorem dX6_transition_14 : decode cX6_transition 14 = .ok (.iconst (-1), 1) := by decide +kernel
theorem dX6_transition_15 : decode cX6_transition 15 = .ok (.ireturn, 1) := by decide +kernel
theorem dX6_transition_16 : decode cX6_transition 16 = .ok (.iload_n 3, 1) := by decide +kernel
theorem dX6_transition_17 : decode cX6_transition 17 = .ok (.iconst 1, 1) := by decide +kernel
theorem dX6_transition_18 : decode cX6_transition 18 = .ok (.if_icmp .lt 12, 3) := by decide +kernel
theorem dX6_transition_21 : decode cX6_transition 21 = .ok (.iload_n 3, 1) := by decide +kernel
theorem dX6_transition_22 : decode cX6_transition 22 = .ok (.getstatic 120, 3) := by decide +kernel
theorem dX6_transition_25 : decode cX6_transition 25 = .ok (.iload_n 2, 1) := by decide +kernel
theorem dX6_transition_26 : decode cX6_transition 26 = .ok (.iaload, 1) := by decide +kernel
theorem dX6_transition_27 : decode cX6_transition 27 = .ok (.if_icmp .le 6, 3) := by decide +kernel
theorem dX6_transition_30 : decode cX6_transition 30 = .ok (.bipush (-2), 2) := by decide +kernel
theorem dX6_transition_32 : decode cX6_transition 32 = .ok (.ireturn, 1) := by decide +kernel
theorem dX6_transition_33 : decode cX6_transition 33 = .ok (.aload_n 0, 1) := by decide +kernel
theorem dX6_transition_34 : decode cX6_transition 34 = .ok (.getfield 19, 3) := by decide +kernel
theorem dX6_transition_37 : decode cX6_transition 37 = .ok (.iload_n 1, 1) := by decide +kernel
theorem dX6_transition_38 : decode cX6_transition 38 = .ok (.iload_n 2, 1) := by decide +kernel
theorem dX6_transition_39 : decode cX6_transition 39 = .ok (.invokevirtual 124, 3) := by decide +kernel
theorem dX6_transition_42 : decode cX6_transition 42 = .ok (.ifCond .eq 16, 3) := by decide +kernel
theorem dX6_transition_45 : decode cX6_transition 45 = .ok (.aload_n 0, 1) := by decide +kernel
theorem dX6_transition_46 : decode cX6_transition 46 = .ok (.getfield 19, 3) := by decide +kernel
theorem dX6_transition_49 : decode cX6_transition 49 = .ok (.iload_n 1, 1) := by decide +kernel
theorem dX6_transition_50 : decode cX6_transition 50 = .ok (.iload_n 2, 1) := by decide +kernel
theorem dX6_transition_51 : decode cX6_transition 51 = .ok (.iload_n 3, 1) := by decide +kernel
theorem dX6_transition_52 : decode cX6_transition 52 = .ok (.invokevirtual 128, 3) := by decide +kernel
theorem dX6_transition_55 : decode cX6_transition 55 = .ok (.goto 5, 3) := by decide +kernel
theorem dX6_transition_58 : decode cX6_transition 58 = .ok (.bipush (-9), 2) := by decide +kernel
theorem dX6_transition_60 : decode cX6_transition 60 = .ok (.ireturn, 1) := by decide +kernel
abbrev x_X6_transition : Cx := (6, cX6_transition, false, some (.int))
set_option maxRecDepth 10000 in
theorem g_X6_transition_0 {E : Ev} {d : Nat} {G : Hp} {Q : Po} {x0 : Nat} {x1 : Int32} {x2 : Int32} {x3 : Int32} (h : (qCI E d i_X6_isState [.int x1] G fun v2 G1 => (if v2 = 0 then Q (some (.int (iv (-1)))) G1 else (qCI E d i_X6_isTerminal [.int x2] G1 fun v4 G3 => (if ¬ v4 = 0 then (if x3 < (iv 1) then Q (some (.int (iv (-2)))) G3 else (qIA 6 E G3 (eA E) x2 fun v5 => (if x3 ≤ v5 then (qFR E G3 x0 6 1 fun v6 => (rcv E G3 v6 1 = true ∧ (qCI E d i_X1_canRead [.ref v6, .int x1, .int x2] G3 fun v8 G7 => (if v8 = 0 then Q (some (.int (iv (-9)))) G7 else (qFR E G7 x0 6 1 fun v9 => (rcv E G7 v9 1 = true ∧ (qCI E d i_X1_target [.ref v9, .int x1, .int x2, .int x3] G7 fun v11 G10 => Q (some (.int v11)) G10))))))) else Q (some (.int (iv (-2)))) G3))) else Q (some (.int (iv (-1)))) G3))))) : Xr E d x_X6_transition 0 [some (.ref x0), some (.int x1), some (.int x2), some (.int x3)] [] G Q := by
  refine r_iload_n dX6_transition_0 rfl ?_
  refine r_cI dX6_transition_1 rfl (invS_eq rfl (by decide) rfl rfl rfl rfl ⟨rfl, Nat.le_of_ble_eq_true rfl⟩) (qCI_imp (fun v2 G1 h => ?_) h)
  refine r_ifeq (tgt := 14) dX6_transition_4 (by decide) (ite_imp (fun h => ?_) (fun h => ?_) h)
  · refine r_iconst dX6_transition_14 ?_
    exact r_iret dX6_transition_15 rfl ⟨rfl, h⟩
  · refine r_iload_n dX6_transition_7 rfl ?_
    refine r_cI dX6_transition_8 rfl (invS_eq rfl (by decide) rfl rfl rfl rfl ⟨rfl, Nat.le_of_ble_eq_true rfl⟩) (qCI_imp (fun v4 G3 h => ?_) h)
    refine r_ifne (tgt := 16) dX6_transition_11 (by decide) (ite_imp (fun h => ?_) (fun h => ?_) h)
    · refine r_iload_n dX6_transition_16 rfl ?_
      refine r_iconst dX6_transition_17 ?_
      refine r_clt (tgt := 30) dX6_transition_18 (by decide) (ite_imp (fun h => ?_) (fun h => ?_) h)
      · refine r_bipush dX6_transition_30 rfl ?_
        exact r_iret dX6_transition_32 rfl ⟨rfl, h⟩
      · refine r_iload_n dX6_transition_21 rfl ?_
        refine r_gets dX6_transition_22 rfl ?_
        refine r_iload_n dX6_transition_25 rfl ?_
        refine r_iald dX6_transition_26 (qIA_imp (fun v5 h => ?_) h)
        refine r_cle (tgt := 33) dX6_transition_27 (by decide) (ite_imp (fun h => ?_) (fun h => ?_) h)
        · refine r_aload_n dX6_transition_33 rfl ?_
          refine r_getR dX6_transition_34 rfl (qFR_imp (fun v6 h => ?_) h)
          refine r_iload_n dX6_transition_37 rfl ?_
          refine r_iload_n dX6_transition_38 rfl ?_
          refine r_cI dX6_transition_39 rfl (invV_eq rfl rfl rfl rfl rfl rfl ⟨rfl, Nat.le_of_ble_eq_true rfl⟩ h.1) (qCI_imp (fun v8 G7 h => ?_) h.2)
          refine r_ifeq (tgt := 58) dX6_transition_42 (by decide) (ite_imp (fun h => ?_) (fun h => ?_) h)
          · refine r_bipush dX6_transition_58 rfl ?_
            exact r_iret dX6_transition_60 rfl ⟨rfl, h⟩
          · refine r_aload_n dX6_transition_45 rfl ?_
            refine r_getR dX6_transition_46 rfl (qFR_imp (fun v9 h => ?_) h)
            refine r_iload_n dX6_transition_49 rfl ?_
            refine r_iload_n dX6_transition_50 rfl ?_
            refine r_iload_n dX6_transition_51 rfl ?_
            refine r_cI dX6_transition_52 rfl (invV_eq rfl rfl rfl rfl rfl rfl ⟨rfl, Nat.le_of_ble_eq_true rfl⟩ h.1) (qCI_imp (fun v11 G10 h => ?_) h.2)
            refine r_goto (tgt := 60) dX6_transition_55 (by decide) ?_
            exact r_iret dX6_transition_60 rfl ⟨rfl, h⟩
        · refine r_bipush dX6_transition_30 rfl ?_
          exact r_iret dX6_transition_32 rfl ⟨rfl, h⟩
    · refine r_iconst dX6_transition_14 ?_
      exact r_iret dX6_transition_15 rfl ⟨rfl, h⟩
theorem e_X6_transition {E : Ev} {d : Nat} {G : Hp} {Q : Po} {x0 : Nat} {x1 : Int32} {x2 : Int32} {x3 : Int32} (h : (qCI E d i_X6_isState [.int x1] G fun v2 G1 => (if v2 = 0 then Q (some (.int (iv (-1)))) G1 else (qCI E d i_X6_isTerminal [.int x2] G1 fun v4 G3 => (if ¬ v4 = 0 then (if x3 < (iv 1) then Q (some (.int (iv (-2)))) G3 else (qIA 6 E G3 (eA E) x2 fun v5 => (if x3 ≤ v5 then (qFR E G3 x0 6 1 fun v6 => (rcv E G3 v6 1 = true ∧ (qCI E d i_X1_canRead [.ref v6, .int x1, .int x2] G3 fun v8 G7 => (if v8 = 0 then Q (some (.int (iv (-9)))) G7 else (qFR E G7 x0 6 1 fun v9 => (rcv E G7 v9 1 = true ∧ (qCI E d i_X1_target [.ref v9, .int x1, .int x2, .int x3] G7 fun v11 G10 => Q (some (.int v11)) G10))))))) else Q (some (.int (iv (-2)))) G3))) else Q (some (.int (iv (-1)))) G3))))) : runs E (d + 1) i_X6_transition [.ref x0, .int x1, .int x2, .int x3] G Q := by
  rw [runs_eq (m := (yX6_transition, cX6_transition, 4, some (.int), 3, 6, false, false)) rfl (Nat.le_of_ble_eq_true rfl)]
  exact g_X6_transition_0 h
theorem dX6_hasTransition_0 : decode cX6_hasTransition 0 = .ok (.iload_n 1, 1) := by decide +kernel
theorem dX6_hasTransition_1 : decode cX6_hasTransition 1 = .ok (.invokestatic 114, 3) := by decide +kernel
theorem dX6_hasTransition_4 : decode cX6_hasTransition 4 = .ok (.ifCond .eq 10, 3) := by decide +kernel
theorem dX6_hasTransition_7 : decode cX6_hasTransition 7 = .ok (.iload_n 2, 1) := by decide +kernel
theorem dX6_hasTransition_8 : decode cX6_hasTransition 8 = .ok (.invokestatic 117, 3) := by decide +kernel
theorem dX6_hasTransition_11 : decode cX6_hasTransition 11 = .ok (.ifCond .ne 5, 3) := by decide +kernel
theorem dX6_hasTransition_14 : decode cX6_hasTransition 14 = .ok (.iconst (-1), 1) := by decide +kernel
theorem dX6_hasTransition_15 : decode cX6_hasTransition 15 = .ok (.ireturn, 1) := by decide +kernel
theorem dX6_hasTransition_16 : decode cX6_hasTransition 16 = .ok (.aload_n 0, 1) := by decide +kernel
theorem dX6_hasTransition_17 : decode cX6_hasTransition 17 = .ok (.getfield 19, 3) := by decide +kernel
theorem dX6_hasTransition_20 : decode cX6_hasTransition 20 = .ok (.iload_n 1, 1) := by decide +kernel
theorem dX6_hasTransition_21 : decode cX6_hasTransition 21 = .ok (.iload_n 2, 1) := by decide +kernel
theorem dX6_hasTransition_22 : decode cX6_hasTransition 22 = .ok (.invokevirtual 124, 3) := by decide +kernel
theorem dX6_hasTransition_25 : decode cX6_hasTransition 25 = .ok (.ifCond .eq 7, 3) := by decide +kernel
theorem dX6_hasTransition_28 : decode cX6_hasTransition 28 = .ok (.iconst 1, 1) := by decide +kernel
theorem dX6_hasTransition_29 : decode cX6_hasTransition 29 = .ok (.goto 4, 3) := by decide +kernel
theorem dX6_hasTransition_32 : decode cX6_hasTransition 32 = .ok (.iconst 0, 1) := by decide +kernel
theorem dX6_hasTransition_33 : decode cX6_hasTransition 33 = .ok (.ireturn, 1) := by decide +kernel
abbrev x_X6_hasTransition : Cx := (6, cX6_hasTransition, false, some (.int))
set_option maxRecDepth 10000 in
theorem g_X6_hasTransition_0 {E : Ev} {d : Nat} {G : Hp} {Q : Po} {x0 : Nat} {x1 : Int32} {x2 : Int32} (h : (qCI E d i_X6_isState [.int x1] G fun v2 G1 => (if v2 = 0 then Q (some (.int (iv (-1)))) G1 else (qCI E d i_X6_isTerminal [.int x2] G1 fun v4 G3 => (if ¬ v4 = 0 then (qFR E G3 x0 6 1 fun v5 => (rcv E G3 v5 1 = true ∧ (qCI E d i_X1_canRead [.ref v5, .int x1, .int x2] G3 fun v7 G6 => (if v7 = 0 then Q (some (.int (iv 0))) G6 else Q (some (.int (iv 1))) G6)))) else Q (some (.int (iv (-1)))) G3))))) : Xr E d x_X6_hasTransition 0 [some (.ref x0), some (.int x1), some (.int x2)] [] G Q := by
  refine r_iload_n dX6_hasTransition_0 rfl ?_
  refine r_cI dX6_hasTransition_1 rfl (invS_eq rfl (by decide) rfl rfl rfl rfl ⟨rfl, Nat.le_of_ble_eq_true rfl⟩) (qCI_imp (fun v2 G1 h => ?_) h)
  refine r_ifeq (tgt := 14) dX6_hasTransition_4 (by decide) (ite_imp (fun h => ?_) (fun h => ?_) h)
  · refine r_iconst dX6_hasTransition_14 ?_
    exact r_iret dX6_hasTransition_15 rfl ⟨rfl, h⟩
  · refine r_iload_n dX6_hasTransition_7 rfl ?_
    refine r_cI dX6_hasTransition_8 rfl (invS_eq rfl (by decide) rfl rfl rfl rfl ⟨rfl, Nat.le_of_ble_eq_true rfl⟩) (qCI_imp (fun v4 G3 h => ?_) h)
    refine r_ifne (tgt := 16) dX6_hasTransition_11 (by decide) (ite_imp (fun h => ?_) (fun h => ?_) h)
    · refine r_aload_n dX6_hasTransition_16 rfl ?_
      refine r_getR dX6_hasTransition_17 rfl (qFR_imp (fun v5 h => ?_) h)
      refine r_iload_n dX6_hasTransition_20 rfl ?_
      refine r_iload_n dX6_hasTransition_21 rfl ?_
      refine r_cI dX6_hasTransition_22 rfl (invV_eq rfl rfl rfl rfl rfl rfl ⟨rfl, Nat.le_of_ble_eq_true rfl⟩ h.1) (qCI_imp (fun v7 G6 h => ?_) h.2)
      refine r_ifeq (tgt := 32) dX6_hasTransition_25 (by decide) (ite_imp (fun h => ?_) (fun h => ?_) h)
      · refine r_iconst dX6_hasTransition_32 ?_
        exact r_iret dX6_hasTransition_33 rfl ⟨rfl, h⟩
      · refine r_iconst dX6_hasTransition_28 ?_
        refine r_goto (tgt := 33) dX6_hasTransition_29 (by decide) ?_
        exact r_iret dX6_hasTransition_33 rfl ⟨rfl, h⟩
    · refine r_iconst dX6_hasTransition_14 ?_
      exact r_iret dX6_hasTransition_15 rfl ⟨rfl, h⟩
theorem e_X6_hasTransition {E : Ev} {d : Nat} {G : Hp} {Q : Po} {x0 : Nat} {x1 : Int32} {x2 : Int32} (h : (qCI E d i_X6_isState [.int x1] G fun v2 G1 => (if v2 = 0 then Q (some (.int (iv (-1)))) G1 else (qCI E d i_X6_isTerminal [.int x2] G1 fun v4 G3 => (if ¬ v4 = 0 then (qFR E G3 x0 6 1 fun v5 => (rcv E G3 v5 1 = true ∧ (qCI E d i_X1_canRead [.ref v5, .int x1, .int x2] G3 fun v7 G6 => (if v7 = 0 then Q (some (.int (iv 0))) G6 else Q (some (.int (iv 1))) G6)))) else Q (some (.int (iv (-1)))) G3))))) : runs E (d + 1) i_X6_hasTransition [.ref x0, .int x1, .int x2] G Q := by
  rw [runs_eq (m := (yX6_hasTransition, cX6_hasTransition, 3, some (.int), 2, 6, false, false)) rfl (Nat.le_of_ble_eq_true rfl)]
  exact g_X6_hasTransition_0 h
theorem dX6_reachable_0 : decode cX6_reachable 0 = .ok (.iconst 1, 1) := by decide +kernel
theorem dX6_reachable_1 : decode cX6_reachable 1 = .ok (.istore_n 1, 1) := by decide +kernel
theorem dX6_reachable_2 : decode cX6_reachable 2 = .ok (.iconst 0, 1) := by decide +kernel
theorem dX6_reachable_3 : decode cX6_reachable 3 = .ok (.istore_n 2, 1) := by decide +kernel
theorem dX6_reachable_4 : decode cX6_reachable 4 = .ok (.iload_n 2, 1) := by decide +kernel
theorem dX6_reachable_5 : decode cX6_reachable 5 = .ok (.iconst 4, 1) := by decide +kernel
theorem dX6_reachable_6 : decode cX6_reachable 6 = .ok (.if_icmp .ge 44, 3) := by decide +kernel
theorem dX6_reachable_9 : decode cX6_reachable 9 = .ok (.iconst 0, 1) := by decide +kernel
theorem dX6_reachable_10 : decode cX6_reachable 10 = .ok (.istore_n 3, 1) := by decide +kernel
theorem dX6_reachable_11 : decode cX6_reachable 11 = .ok (.iload_n 3, 1) := by decide +kernel
theorem dX6_reachable_12 : decode cX6_reachable 12 = .ok (.iconst 4, 1) := by decide +kernel
theorem dX6_reachable_13 : decode cX6_reachable 13 = .ok (.if_icmp .ge 31, 3) := by decide +kernel
theorem dX6_reachable_16 : decode cX6_reachable 16 = .ok (.iload_n 1, 1) := by decide +kernel
theorem dX6_reachable_17 : decode cX6_reachable 17 = .ok (.iload_n 3, 1) := by decide +kernel
theorem dX6_reachable_18 : decode cX6_reachable 18 = .ok (.ishr, 1) := by decide +kernel
theorem dX6_reachable_19 : decode cX6_reachable 19 = .ok (.iconst 1, 1) := by decide +kernel
theorem dX6_reachable_20 : decode cX6_reachable 20 = .ok (.iand, 1) := by decide +kernel
theorem dX6_reachable_21 : decode cX6_reachable 21 = .ok (.ifCond .eq 17, 3) := by decide +kernel
theorem dX6_reachable_24 : decode cX6_reachable 24 = .ok (.iload_n 1, 1) := by decide +kernel
theorem dX6_reachable_25 : decode cX6_reachable 25 = .ok (.aload_n 0, 1) := by decide +kernel
theorem dX6_reachable_26 : decode cX6_reachable 26 = .ok (.getfield 19, 3) := by decide +kernel
theorem dX6_reachable_29 : decode cX6_reachable 29 = .ok (.iload_n 3, 1) := by decide +kernel
theorem dX6_reachable_30 : decode cX6_reachable 30 = .ok (.invokevirtual 99, 3) := by decide +kernel
theorem dX6_reachable_33 : decode cX6_reachable 33 = .ok (.invokevirtual 132, 3) := by decide +kernel
theorem dX6_reachable_36 : decode cX6_reachable 36 = .ok (.ior, 1) := by decide +kernel
theorem dX6_reachable_37 : decode cX6_reachable 37 = .ok (.istore_n 1, 1) := by decide +kernel
theorem dX6_reachable_38 : decode cX6_reachable 38 = .ok (.iinc 3 1, 3) := by decide +kernel
theorem dX6_reachable_41 : decode cX6_reachable 41 = .ok (.goto (-30), 3) := by decide +kernel
theorem dX6_reachable_44 : decode cX6_reachable 44 = .ok (.iinc 2 1, 3) := by decide +kernel
theorem dX6_reachable_47 : decode cX6_reachable 47 = .ok (.goto (-43), 3) := by decide +kernel
theorem dX6_reachable_50 : decode cX6_reachable 50 = .ok (.iload_n 1, 1) := by decide +kernel
theorem dX6_reachable_51 : decode cX6_reachable 51 = .ok (.ireturn, 1) := by decide +kernel
abbrev x_X6_reachable : Cx := (6, cX6_reachable, false, some (.int))
set_option maxRecDepth 10000 in
theorem g_X6_reachable_0 {E : Ev} {d : Nat} {G : Hp} {Q : Po} {x0 : Nat} (h : Xr E d x_X6_reachable 4 [some (.ref x0), some (.int ((iv 1))), some (.int ((iv 0))), none] [] G Q) : Xr E d x_X6_reachable 0 [some (.ref x0), none, none, none] [] G Q := by
  refine r_iconst dX6_reachable_0 ?_
  refine r_istore_n dX6_reachable_1 rfl ?_
  refine r_iconst dX6_reachable_2 ?_
  refine r_istore_n dX6_reachable_3 rfl ?_
  exact h
theorem e_X6_reachable {E : Ev} {d : Nat} {G : Hp} {Q : Po} {x0 : Nat} (h : Xr E d x_X6_reachable 4 [some (.ref x0), some (.int ((iv 1))), some (.int ((iv 0))), none] [] G Q) : runs E (d + 1) i_X6_reachable [.ref x0] G Q := by
  rw [runs_eq (m := (yX6_reachable, cX6_reachable, 4, some (.int), 0, 6, false, false)) rfl (Nat.le_of_ble_eq_true rfl)]
  exact g_X6_reachable_0 h
set_option maxRecDepth 10000 in
theorem g_X6_reachable_4 {E : Ev} {d : Nat} {G : Hp} {Q : Po} {x0 : Nat} {x1 : Int32} {x2 : Int32} {l3 : Option Value} (h : (if (iv 4) ≤ x2 then Q (some (.int x1)) G else Xr E d x_X6_reachable 11 [some (.ref x0), some (.int x1), some (.int x2), some (.int ((iv 0)))] [] G Q)) : Xr E d x_X6_reachable 4 [some (.ref x0), some (.int x1), some (.int x2), l3] [] G Q := by
  refine r_iload_n dX6_reachable_4 rfl ?_
  refine r_iconst dX6_reachable_5 ?_
  refine r_cge (tgt := 50) dX6_reachable_6 (by decide) (ite_imp (fun h => ?_) (fun h => ?_) h)
  · refine r_iload_n dX6_reachable_50 rfl ?_
    exact r_iret dX6_reachable_51 rfl ⟨rfl, h⟩
  · refine r_iconst dX6_reachable_9 ?_
    refine r_istore_n dX6_reachable_10 rfl ?_
    exact h
set_option maxRecDepth 10000 in
theorem g_X6_reachable_11 {E : Ev} {d : Nat} {G : Hp} {Q : Po} {x0 : Nat} {x1 : Int32} {x2 : Int32} {x3 : Int32} (h : (if (iv 4) ≤ x3 then Xr E d x_X6_reachable 4 [some (.ref x0), some (.int x1), some (.int ((x2 + (iv 1)))), some (.int x3)] [] G Q else (if ((x1 >>> (x3 &&& 31)) &&& (iv 1)) = 0 then Xr E d x_X6_reachable 11 [some (.ref x0), some (.int x1), some (.int x2), some (.int ((x3 + (iv 1))))] [] G Q else (qFR E G x0 6 1 fun v1 => (rcv E G v1 1 = true ∧ (qCR E d i_X1_body [.ref v1, .int x3] G fun v3 G2 => (rcv E G2 v3 2 = true ∧ (qCI E d i_X2_nonterminals [.ref v3] G2 fun v5 G4 => Xr E d x_X6_reachable 11 [some (.ref x0), some (.int ((x1 ||| v5))), some (.int x2), some (.int ((x3 + (iv 1))))] [] G4 Q)))))))) : Xr E d x_X6_reachable 11 [some (.ref x0), some (.int x1), some (.int x2), some (.int x3)] [] G Q := by
  refine r_iload_n dX6_reachable_11 rfl ?_
  refine r_iconst dX6_reachable_12 ?_
  refine r_cge (tgt := 44) dX6_reachable_13 (by decide) (ite_imp (fun h => ?_) (fun h => ?_) h)
  · refine r_iinc dX6_reachable_44 rfl rfl ?_
    refine r_goto (tgt := 4) dX6_reachable_47 (by decide) ?_
    exact h
  · refine r_iload_n dX6_reachable_16 rfl ?_
    refine r_iload_n dX6_reachable_17 rfl ?_
    refine r_ishr dX6_reachable_18 ?_
    refine r_iconst dX6_reachable_19 ?_
    refine r_iand dX6_reachable_20 ?_
    refine r_ifeq (tgt := 38) dX6_reachable_21 (by decide) (ite_imp (fun h => ?_) (fun h => ?_) h)
    · refine r_iinc dX6_reachable_38 rfl rfl ?_
      refine r_goto (tgt := 11) dX6_reachable_41 (by decide) ?_
      exact h
    · refine r_iload_n dX6_reachable_24 rfl ?_
      refine r_aload_n dX6_reachable_25 rfl ?_
      refine r_getR dX6_reachable_26 rfl (qFR_imp (fun v1 h => ?_) h)
      refine r_iload_n dX6_reachable_29 rfl ?_
      refine r_cR dX6_reachable_30 rfl (invV_eq rfl rfl rfl rfl rfl rfl ⟨rfl, Nat.le_of_ble_eq_true rfl⟩ h.1) (qCR_imp (fun v3 G2 h => ?_) h.2)
      refine r_cI dX6_reachable_33 rfl (invV_eq rfl rfl rfl rfl rfl rfl ⟨rfl, Nat.le_of_ble_eq_true rfl⟩ h.1) (qCI_imp (fun v5 G4 h => ?_) h.2)
      refine r_ior dX6_reachable_36 ?_
      refine r_istore_n dX6_reachable_37 rfl ?_
      refine r_iinc dX6_reachable_38 rfl rfl ?_
      refine r_goto (tgt := 11) dX6_reachable_41 (by decide) ?_
      exact h
theorem dX6_setBody_0 : decode cX6_setBody 0 = .ok (.iload_n 1, 1) := by decide +kernel
theorem dX6_setBody_1 : decode cX6_setBody 1 = .ok (.invokestatic 96, 3) := by decide +kernel
theorem dX6_setBody_4 : decode cX6_setBody 4 = .ok (.ifCond .ne 5, 3) := by decide +kernel
theorem dX6_setBody_7 : decode cX6_setBody 7 = .ok (.iconst (-1), 1) := by decide +kernel
theorem dX6_setBody_8 : decode cX6_setBody 8 = .ok (.ireturn, 1) := by decide +kernel
theorem dX6_setBody_9 : decode cX6_setBody 9 = .ok (.aload_n 0, 1) := by decide +kernel
theorem dX6_setBody_10 : decode cX6_setBody 10 = .ok (.getfield 10, 3) := by decide +kernel
theorem dX6_setBody_13 : decode cX6_setBody 13 = .ok (.iload_n 1, 1) := by decide +kernel
theorem dX6_setBody_14 : decode cX6_setBody 14 = .ok (.aload_n 0, 1) := by decide +kernel
theorem dX6_setBody_15 : decode cX6_setBody 15 = .ok (.getfield 62, 3) := by decide +kernel
theorem dX6_setBody_18 : decode cX6_setBody 18 = .ok (.invokevirtual 135, 3) := by decide +kernel
theorem dX6_setBody_21 : decode cX6_setBody 21 = .ok (.ifCond .ne 6, 3) := by decide +kernel
theorem dX6_setBody_24 : decode cX6_setBody 24 = .ok (.bipush (-3), 2) := by decide +kernel
theorem dX6_setBody_26 : decode cX6_setBody 26 = .ok (.ireturn, 1) := by decide +kernel
theorem dX6_setBody_27 : decode cX6_setBody 27 = .ok (.aload_n 0, 1) := by decide +kernel
theorem dX6_setBody_28 : decode cX6_setBody 28 = .ok (.getfield 42, 3) := by decide +kernel
theorem dX6_setBody_31 : decode cX6_setBody 31 = .ok (.aload_n 0, 1) := by decide +kernel
theorem dX6_setBody_32 : decode cX6_setBody 32 = .ok (.getfield 19, 3) := by decide +kernel
theorem dX6_setBody_35 : decode cX6_setBody 35 = .ok (.invokevirtual 139, 3) := by decide +kernel
theorem dX6_setBody_38 : decode cX6_setBody 38 = .ok (.aload_n 0, 1) := by decide +kernel
theorem dX6_setBody_39 : decode cX6_setBody 39 = .ok (.getfield 19, 3) := by decide +kernel
theorem dX6_setBody_42 : decode cX6_setBody 42 = .ok (.iload_n 1, 1) := by decide +kernel
theorem dX6_setBody_43 : decode cX6_setBody 43 = .ok (.aload_n 0, 1) := by decide +kernel
theorem dX6_setBody_44 : decode cX6_setBody 44 = .ok (.getfield 62, 3) := by decide +kernel
theorem dX6_setBody_47 : decode cX6_setBody 47 = .ok (.invokevirtual 142, 3) := by decide +kernel
theorem dX6_setBody_50 : decode cX6_setBody 50 = .ok (.aload_n 0, 1) := by decide +kernel
theorem dX6_setBody_51 : decode cX6_setBody 51 = .ok (.getfield 62, 3) := by decide +kernel
theorem dX6_setBody_54 : decode cX6_setBody 54 = .ok (.invokevirtual 103, 3) := by decide +kernel
theorem dX6_setBody_57 : decode cX6_setBody 57 = .ok (.ireturn, 1) := by decide +kernel
abbrev x_X6_setBody : Cx := (6, cX6_setBody, false, some (.int))
set_option maxRecDepth 10000 in
theorem g_X6_setBody_0 {E : Ev} {d : Nat} {G : Hp} {Q : Po} {x0 : Nat} {x1 : Int32} (h : (qCI E d i_X6_isNonterminal [.int x1] G fun v2 G1 => (if ¬ v2 = 0 then (qFR E G1 x0 6 0 fun v3 => (qFR E G1 x0 6 8 fun v4 => (rcv E G1 v3 3 = true ∧ (qCI E d i_X3_isBody [.ref v3, .int x1, .ref v4] G1 fun v6 G5 => (if ¬ v6 = 0 then (qFR E G5 x0 6 4 fun v7 => (qFR E G5 x0 6 1 fun v8 => (rcv E G5 v7 0 = true ∧ (qCV E d i_X0_remember [.ref v7, .ref v8] G5 fun G9 => (qFR E G9 x0 6 1 fun v10 => (qFR E G9 x0 6 8 fun v11 => (rcv E G9 v10 1 = true ∧ (qCV E d i_X1_changeBody [.ref v10, .int x1, .ref v11] G9 fun G12 => (qFR E G12 x0 6 8 fun v13 => (rcv E G12 v13 2 = true ∧ (qCI E d i_X2_size [.ref v13] G12 fun v15 G14 => Q (some (.int v15)) G14))))))))))) else Q (some (.int (iv (-3)))) G5))))) else Q (some (.int (iv (-1)))) G1))) : Xr E d x_X6_setBody 0 [some (.ref x0), some (.int x1)] [] G Q := by
  refine r_iload_n dX6_setBody_0 rfl ?_
  refine r_cI dX6_setBody_1 rfl (invS_eq rfl (by decide) rfl rfl rfl rfl ⟨rfl, Nat.le_of_ble_eq_true rfl⟩) (qCI_imp (fun v2 G1 h => ?_) h)
  refine r_ifne (tgt := 9) dX6_setBody_4 (by decide) (ite_imp (fun h => ?_) (fun h => ?_) h)
  · refine r_aload_n dX6_setBody_9 rfl ?_
    refine r_getR dX6_setBody_10 rfl (qFR_imp (fun v3 h => ?_) h)
    refine r_iload_n dX6_setBody_13 rfl ?_
    refine r_aload_n dX6_setBody_14 rfl ?_
    refine r_getR dX6_setBody_15 rfl (qFR_imp (fun v4 h => ?_) h)
    refine r_cI dX6_setBody_18 rfl (invV_eq rfl rfl rfl rfl rfl rfl ⟨rfl, Nat.le_of_ble_eq_true rfl⟩ h.1) (qCI_imp (fun v6 G5 h => ?_) h.2)
    refine r_ifne (tgt := 27) dX6_setBody_21 (by decide) (ite_imp (fun h => ?_) (fun h => ?_) h)
    · refine r_aload_n dX6_setBody_27 rfl ?_
      refine r_getR dX6_setBody_28 rfl (qFR_imp (fun v7 h => ?_) h)
      refine r_aload_n dX6_setBody_31 rfl ?_
      refine r_getR dX6_setBody_32 rfl (qFR_imp (fun v8 h => ?_) h)
      refine r_cV dX6_setBody_35 rfl (invV_eq rfl rfl rfl rfl rfl rfl ⟨rfl, Nat.le_of_ble_eq_true rfl⟩ h.1) (qCV_imp (fun G9 h => ?_) h.2)
      refine r_aload_n dX6_setBody_38 rfl ?_
      refine r_getR dX6_setBody_39 rfl (qFR_imp (fun v10 h => ?_) h)
      refine r_iload_n dX6_setBody_42 rfl ?_
      refine r_aload_n dX6_setBody_43 rfl ?_
      refine r_getR dX6_setBody_44 rfl (qFR_imp (fun v11 h => ?_) h)
      refine r_cV dX6_setBody_47 rfl (invV_eq rfl rfl rfl rfl rfl rfl ⟨rfl, Nat.le_of_ble_eq_true rfl⟩ h.1) (qCV_imp (fun G12 h => ?_) h.2)
      refine r_aload_n dX6_setBody_50 rfl ?_
      refine r_getR dX6_setBody_51 rfl (qFR_imp (fun v13 h => ?_) h)
      refine r_cI dX6_setBody_54 rfl (invV_eq rfl rfl rfl rfl rfl rfl ⟨rfl, Nat.le_of_ble_eq_true rfl⟩ h.1) (qCI_imp (fun v15 G14 h => ?_) h.2)
      exact r_iret dX6_setBody_57 rfl ⟨rfl, h⟩
    · refine r_bipush dX6_setBody_24 rfl ?_
      exact r_iret dX6_setBody_26 rfl ⟨rfl, h⟩
  · refine r_iconst dX6_setBody_7 ?_
    exact r_iret dX6_setBody_8 rfl ⟨rfl, h⟩
theorem e_X6_setBody {E : Ev} {d : Nat} {G : Hp} {Q : Po} {x0 : Nat} {x1 : Int32} (h : (qCI E d i_X6_isNonterminal [.int x1] G fun v2 G1 => (if ¬ v2 = 0 then (qFR E G1 x0 6 0 fun v3 => (qFR E G1 x0 6 8 fun v4 => (rcv E G1 v3 3 = true ∧ (qCI E d i_X3_isBody [.ref v3, .int x1, .ref v4] G1 fun v6 G5 => (if ¬ v6 = 0 then (qFR E G5 x0 6 4 fun v7 => (qFR E G5 x0 6 1 fun v8 => (rcv E G5 v7 0 = true ∧ (qCV E d i_X0_remember [.ref v7, .ref v8] G5 fun G9 => (qFR E G9 x0 6 1 fun v10 => (qFR E G9 x0 6 8 fun v11 => (rcv E G9 v10 1 = true ∧ (qCV E d i_X1_changeBody [.ref v10, .int x1, .ref v11] G9 fun G12 => (qFR E G12 x0 6 8 fun v13 => (rcv E G12 v13 2 = true ∧ (qCI E d i_X2_size [.ref v13] G12 fun v15 G14 => Q (some (.int v15)) G14))))))))))) else Q (some (.int (iv (-3)))) G5))))) else Q (some (.int (iv (-1)))) G1))) : runs E (d + 1) i_X6_setBody [.ref x0, .int x1] G Q := by
  rw [runs_eq (m := (yX6_setBody, cX6_setBody, 2, some (.int), 1, 6, false, false)) rfl (Nat.le_of_ble_eq_true rfl)]
  exact g_X6_setBody_0 h
theorem dX6_setTransition_0 : decode cX6_setTransition 0 = .ok (.iload_n 1, 1) := by decide +kernel
theorem dX6_setTransition_1 : decode cX6_setTransition 1 = .ok (.invokestatic 114, 3) := by decide +kernel
theorem dX6_setTransition_4 : decode cX6_setTransition 4 = .ok (.ifCond .eq 10, 3) := by decide +kernel
theorem dX6_setTransition_7 : decode cX6_setTransition 7 = .ok (.iload_n 2, 1) := by decide +kernel
theorem dX6_setTransition_8 : decode cX6_setTransition 8 = .ok (.invokestatic 117, 3) := by decide +kernel
theorem dX6_setTransition_11 : decode cX6_setTransition 11 = .ok (.ifCond .ne 5, 3) := by decide +kernel
theorem dX6_setTransition_14 : decode cX6_setTransition 14 = .ok (.iconst (-1), 1) := by decide +kernel
theorem dX6_setTransition_15 : decode cX6_setTransition 15 = .ok (.ireturn, 1) := by decide +kernel
theorem dX6_setTransition_16 : decode cX6_setTransition 16 = .ok (.iload_n 2, 1) := by decide +kernel
theorem dX6_setTransition_17 : decode cX6_setTransition 17 = .ok (.iconst 1, 1) := by decide +kernel
theorem dX6_setTransition_18 : decode cX6_setTransition 18 = .ok (.iload_n 3, 1) := by decide +kernel
theorem dX6_setTransition_19 : decode cX6_setTransition 19 = .ok (.invokestatic 146, 3) := by decide +kernel
theorem dX6_setTransition_22 : decode cX6_setTransition 22 = .ok (.ifCond .eq 13, 3) := by decide +kernel
theorem dX6_setTransition_25 : decode cX6_setTransition 25 = .ok (.iload_n 2, 1) := by decide +kernel
theorem dX6_setTransition_26 : decode cX6_setTransition 26 = .ok (.iconst 2, 1) := by decide +kernel
theorem dX6_setTransition_27 : decode cX6_setTransition 27 = .ok (.iload 4, 2) := by decide +kernel
theorem dX6_setTransition_29 : decode cX6_setTransition 29 = .ok (.invokestatic 146, 3) := by decide +kernel
theorem dX6_setTransition_32 : decode cX6_setTransition 32 = .ok (.ifCond .ne 6, 3) := by decide +kernel
theorem dX6_setTransition_35 : decode cX6_setTransition 35 = .ok (.bipush (-2), 2) := by decide +kernel
theorem dX6_setTransition_37 : decode cX6_setTransition 37 = .ok (.ireturn, 1) := by decide +kernel
theorem dX6_setTransition_38 : decode cX6_setTransition 38 = .ok (.aload_n 0, 1) := by decide +kernel
theorem dX6_setTransition_39 : decode cX6_setTransition 39 = .ok (.getfield 19, 3) := by decide +kernel
theorem dX6_setTransition_42 : decode cX6_setTransition 42 = .ok (.iload_n 1, 1) := by decide +kernel
theorem dX6_setTransition_43 : decode cX6_setTransition 43 = .ok (.iload_n 2, 1) := by decide +kernel
theorem dX6_setTransition_44 : decode cX6_setTransition 44 = .ok (.invokevirtual 124, 3) := by decide +kernel
theorem dX6_setTransition_47 : decode cX6_setTransition 47 = .ok (.ifCond .eq 7, 3) := by decide +kernel
theorem dX6_setTransition_50 : decode cX6_setTransition 50 = .ok (.iconst 1, 1) := by decide +kernel
theorem dX6_setTransition_51 : decode cX6_setTransition 51 = .ok (.goto 4, 3) := by decide +kernel
theorem dX6_setTransition_54 : decode cX6_setTransition 54 = .ok (.iconst 0, 1) := by decide +kernel
theorem dX6_setTransition_55 : decode cX6_setTransition 55 = .ok (.istore 5, 2) := by decide +kernel
theorem dX6_setTransition_57 : decode cX6_setTransition 57 = .ok (.aload_n 0, 1) := by decide +kernel
theorem dX6_setTransition_58 : decode cX6_setTransition 58 = .ok (.getfield 42, 3) := by decide +kernel
theorem dX6_setTransition_61 : decode cX6_setTransition 61 = .ok (.aload_n 0, 1) := by decide +kernel
theorem dX6_setTransition_62 : decode cX6_setTransition 62 = .ok (.getfield 19, 3) := by decide +kernel
theorem dX6_setTransition_65 : decode cX6_setTransition 65 = .ok (.invokevirtual 139, 3) := by decide +kernel
theorem dX6_setTransition_68 : decode cX6_setTransition 68 = .ok (.aload_n 0, 1) := by decide +kernel
theorem dX6_setTransition_69 : decode cX6_setTransition 69 = .ok (.getfield 19, 3) := by decide +kernel
theorem dX6_setTransition_72 : decode cX6_setTransition 72 = .ok (.iload_n 1, 1) := by decide +kernel
theorem dX6_setTransition_73 : decode cX6_setTransition 73 = .ok (.iload_n 2, 1) := by decide +kernel
theorem dX6_setTransition_74 : decode cX6_setTransition 74 = .ok (.iload_n 3, 1) := by decide +kernel
theorem dX6_setTransition_75 : decode cX6_setTransition 75 = .ok (.iload 4, 2) := by decide +kernel
theorem dX6_setTransition_77 : decode cX6_setTransition 77 = .ok (.invokevirtual 150, 3) := by decide +kernel
theorem dX6_setTransition_80 : decode cX6_setTransition 80 = .ok (.iload 5, 2) := by decide +kernel
theorem dX6_setTransition_82 : decode cX6_setTransition 82 = .ok (.ireturn, 1) := by decide +kernel
abbrev x_X6_setTransition : Cx := (6, cX6_setTransition, false, some (.int))
set_option maxRecDepth 10000 in
theorem g_X6_setTransition_0 {E : Ev} {d : Nat} {G : Hp} {Q : Po} {x0 : Nat} {x1 : Int32} {x2 : Int32} {x3 : Int32} {x4 : Int32} (h : (qCI E d i_X6_isState [.int x1] G fun v2 G1 => (if v2 = 0 then Q (some (.int (iv (-1)))) G1 else (qCI E d i_X6_isTerminal [.int x2] G1 fun v4 G3 => (if ¬ v4 = 0 then (qCI E d i_X6_suitsChild [.int x2, .int ((iv 1)), .int x3] G3 fun v6 G5 => (if v6 = 0 then Q (some (.int (iv (-2)))) G5 else (qCI E d i_X6_suitsChild [.int x2, .int ((iv 2)), .int x4] G5 fun v8 G7 => (if ¬ v8 = 0 then (qFR E G7 x0 6 1 fun v9 => (rcv E G7 v9 1 = true ∧ (qCI E d i_X1_canRead [.ref v9, .int x1, .int x2] G7 fun v11 G10 => (if v11 = 0 then (qFR E G10 x0 6 4 fun v12 => (qFR E G10 x0 6 1 fun v13 => (rcv E G10 v12 0 = true ∧ (qCV E d i_X0_remember [.ref v12, .ref v13] G10 fun G14 => (qFR E G14 x0 6 1 fun v15 => (rcv E G14 v15 1 = true ∧ (qCV E d i_X1_putTransition [.ref v15, .int x1, .int x2, .int x3, .int x4] G14 fun G16 => Q (some (.int (iv 0))) G16))))))) else (qFR E G10 x0 6 4 fun v17 => (qFR E G10 x0 6 1 fun v18 => (rcv E G10 v17 0 = true ∧ (qCV E d i_X0_remember [.ref v17, .ref v18] G10 fun G19 => (qFR E G19 x0 6 1 fun v20 => (rcv E G19 v20 1 = true ∧ (qCV E d i_X1_putTransition [.ref v20, .int x1, .int x2, .int x3, .int x4] G19 fun G21 => Q (some (.int (iv 1))) G21))))))))))) else Q (some (.int (iv (-2)))) G7)))) else Q (some (.int (iv (-1)))) G3))))) : Xr E d x_X6_setTransition 0 [some (.ref x0), some (.int x1), some (.int x2), some (.int x3), some (.int x4), none] [] G Q := by
  refine r_iload_n dX6_setTransition_0 rfl ?_
  refine r_cI dX6_setTransition_1 rfl (invS_eq rfl (by decide) rfl rfl rfl rfl ⟨rfl, Nat.le_of_ble_eq_true rfl⟩) (qCI_imp (fun v2 G1 h => ?_) h)
  refine r_ifeq (tgt := 14) dX6_setTransition_4 (by decide) (ite_imp (fun h => ?_) (fun h => ?_) h)
  · refine r_iconst dX6_setTransition_14 ?_
    exact r_iret dX6_setTransition_15 rfl ⟨rfl, h⟩
  · refine r_iload_n dX6_setTransition_7 rfl ?_
    refine r_cI dX6_setTransition_8 rfl (invS_eq rfl (by decide) rfl rfl rfl rfl ⟨rfl, Nat.le_of_ble_eq_true rfl⟩) (qCI_imp (fun v4 G3 h => ?_) h)
    refine r_ifne (tgt := 16) dX6_setTransition_11 (by decide) (ite_imp (fun h => ?_) (fun h => ?_) h)
    · refine r_iload_n dX6_setTransition_16 rfl ?_
      refine r_iconst dX6_setTransition_17 ?_
      refine r_iload_n dX6_setTransition_18 rfl ?_
      refine r_cI dX6_setTransition_19 rfl (invS_eq rfl (by decide) rfl rfl rfl rfl ⟨rfl, Nat.le_of_ble_eq_true rfl⟩) (qCI_imp (fun v6 G5 h => ?_) h)
      refine r_ifeq (tgt := 35) dX6_setTransition_22 (by decide) (ite_imp (fun h => ?_) (fun h => ?_) h)
      · refine r_bipush dX6_setTransition_35 rfl ?_
        exact r_iret dX6_setTransition_37 rfl ⟨rfl, h⟩
      · refine r_iload_n dX6_setTransition_25 rfl ?_
        refine r_iconst dX6_setTransition_26 ?_
        refine r_iload dX6_setTransition_27 rfl ?_
        refine r_cI dX6_setTransition_29 rfl (invS_eq rfl (by decide) rfl rfl rfl rfl ⟨rfl, Nat.le_of_ble_eq_true rfl⟩) (qCI_imp (fun v8 G7 h => ?_) h)
        refine r_ifne (tgt := 38) dX6_setTransition_32 (by decide) (ite_imp (fun h => ?_) (fun h => ?_) h)
        · refine r_aload_n dX6_setTransition_38 rfl ?_
          refine r_getR dX6_setTransition_39 rfl (qFR_imp (fun v9 h => ?_) h)
          refine r_iload_n dX6_setTransition_42 rfl ?_
          refine r_iload_n dX6_setTransition_43 rfl ?_
          refine r_cI dX6_setTransition_44 rfl (invV_eq rfl rfl rfl rfl rfl rfl ⟨rfl, Nat.le_of_ble_eq_true rfl⟩ h.1) (qCI_imp (fun v11 G10 h => ?_) h.2)
          refine r_ifeq (tgt := 54) dX6_setTransition_47 (by decide) (ite_imp (fun h => ?_) (fun h => ?_) h)
          · refine r_iconst dX6_setTransition_54 ?_
            refine r_istore dX6_setTransition_55 rfl ?_
            refine r_aload_n dX6_setTransition_57 rfl ?_
            refine r_getR dX6_setTransition_58 rfl (qFR_imp (fun v12 h => ?_) h)
            refine r_aload_n dX6_setTransition_61 rfl ?_
            refine r_getR dX6_setTransition_62 rfl (qFR_imp (fun v13 h => ?_) h)
            refine r_cV dX6_setTransition_65 rfl (invV_eq rfl rfl rfl rfl rfl rfl ⟨rfl, Nat.le_of_ble_eq_true rfl⟩ h.1) (qCV_imp (fun G14 h => ?_) h.2)
            refine r_aload_n dX6_setTransition_68 rfl ?_
            refine r_getR dX6_setTransition_69 rfl (qFR_imp (fun v15 h => ?_) h)
            refine r_iload_n dX6_setTransition_72 rfl ?_
            refine r_iload_n dX6_setTransition_73 rfl ?_
            refine r_iload_n dX6_setTransition_74 rfl ?_
            refine r_iload dX6_setTransition_75 rfl ?_
            refine r_cV dX6_setTransition_77 rfl (invV_eq rfl rfl rfl rfl rfl rfl ⟨rfl, Nat.le_of_ble_eq_true rfl⟩ h.1) (qCV_imp (fun G16 h => ?_) h.2)
            refine r_iload dX6_setTransition_80 rfl ?_
            exact r_iret dX6_setTransition_82 rfl ⟨rfl, h⟩
          · refine r_iconst dX6_setTransition_50 ?_
            refine r_goto (tgt := 55) dX6_setTransition_51 (by decide) ?_
            refine r_istore dX6_setTransition_55 rfl ?_
            refine r_aload_n dX6_setTransition_57 rfl ?_
            refine r_getR dX6_setTransition_58 rfl (qFR_imp (fun v17 h => ?_) h)
            refine r_aload_n dX6_setTransition_61 rfl ?_
            refine r_getR dX6_setTransition_62 rfl (qFR_imp (fun v18 h => ?_) h)
            refine r_cV dX6_setTransition_65 rfl (invV_eq rfl rfl rfl rfl rfl rfl ⟨rfl, Nat.le_of_ble_eq_true rfl⟩ h.1) (qCV_imp (fun G19 h => ?_) h.2)
            refine r_aload_n dX6_setTransition_68 rfl ?_
            refine r_getR dX6_setTransition_69 rfl (qFR_imp (fun v20 h => ?_) h)
            refine r_iload_n dX6_setTransition_72 rfl ?_
            refine r_iload_n dX6_setTransition_73 rfl ?_
            refine r_iload_n dX6_setTransition_74 rfl ?_
            refine r_iload dX6_setTransition_75 rfl ?_
            refine r_cV dX6_setTransition_77 rfl (invV_eq rfl rfl rfl rfl rfl rfl ⟨rfl, Nat.le_of_ble_eq_true rfl⟩ h.1) (qCV_imp (fun G21 h => ?_) h.2)
            refine r_iload dX6_setTransition_80 rfl ?_
            exact r_iret dX6_setTransition_82 rfl ⟨rfl, h⟩
        · refine r_bipush dX6_setTransition_35 rfl ?_
          exact r_iret dX6_setTransition_37 rfl ⟨rfl, h⟩
    · refine r_iconst dX6_setTransition_14 ?_
      exact r_iret dX6_setTransition_15 rfl ⟨rfl, h⟩
theorem e_X6_setTransition {E : Ev} {d : Nat} {G : Hp} {Q : Po} {x0 : Nat} {x1 : Int32} {x2 : Int32} {x3 : Int32} {x4 : Int32} (h : (qCI E d i_X6_isState [.int x1] G fun v2 G1 => (if v2 = 0 then Q (some (.int (iv (-1)))) G1 else (qCI E d i_X6_isTerminal [.int x2] G1 fun v4 G3 => (if ¬ v4 = 0 then (qCI E d i_X6_suitsChild [.int x2, .int ((iv 1)), .int x3] G3 fun v6 G5 => (if v6 = 0 then Q (some (.int (iv (-2)))) G5 else (qCI E d i_X6_suitsChild [.int x2, .int ((iv 2)), .int x4] G5 fun v8 G7 => (if ¬ v8 = 0 then (qFR E G7 x0 6 1 fun v9 => (rcv E G7 v9 1 = true ∧ (qCI E d i_X1_canRead [.ref v9, .int x1, .int x2] G7 fun v11 G10 => (if v11 = 0 then (qFR E G10 x0 6 4 fun v12 => (qFR E G10 x0 6 1 fun v13 => (rcv E G10 v12 0 = true ∧ (qCV E d i_X0_remember [.ref v12, .ref v13] G10 fun G14 => (qFR E G14 x0 6 1 fun v15 => (rcv E G14 v15 1 = true ∧ (qCV E d i_X1_putTransition [.ref v15, .int x1, .int x2, .int x3, .int x4] G14 fun G16 => Q (some (.int (iv 0))) G16))))))) else (qFR E G10 x0 6 4 fun v17 => (qFR E G10 x0 6 1 fun v18 => (rcv E G10 v17 0 = true ∧ (qCV E d i_X0_remember [.ref v17, .ref v18] G10 fun G19 => (qFR E G19 x0 6 1 fun v20 => (rcv E G19 v20 1 = true ∧ (qCV E d i_X1_putTransition [.ref v20, .int x1, .int x2, .int x3, .int x4] G19 fun G21 => Q (some (.int (iv 1))) G21))))))))))) else Q (some (.int (iv (-2)))) G7)))) else Q (some (.int (iv (-1)))) G3))))) : runs E (d + 1) i_X6_setTransition [.ref x0, .int x1, .int x2, .int x3, .int x4] G Q := by
  rw [runs_eq (m := (yX6_setTransition, cX6_setTransition, 6, some (.int), 4, 6, false, false)) rfl (Nat.le_of_ble_eq_true rfl)]
  exact g_X6_setTransition_0 h
theorem dX6_removeTransition_0 : decode cX6_removeTransition 0 = .ok (.iload_n 1, 1) := by decide +kernel
theorem dX6_removeTransition_1 : decode cX6_removeTransition 1 = .ok (.invokestatic 114, 3) := by decide +kernel
theorem dX6_removeTransition_4 : decode cX6_removeTransition 4 = .ok (.ifCond .eq 10, 3) := by decide +kernel
theorem dX6_removeTransition_7 : decode cX6_removeTransition 7 = .ok (.iload_n 2, 1) := by decide +kernel
theorem dX6_removeTransition_8 : decode cX6_removeTransition 8 = .ok (.invokestatic 117, 3) := by decide +kernel
theorem dX6_removeTransition_11 : decode cX6_removeTransition 11 = .ok (.ifCond .ne 5, 3) := by decide +kernel
theorem dX6_removeTransition_14 : decode cX6_removeTransition 14 = .ok (.iconst (-1), 1) := by decide +kernel
theorem dX6_removeTransition_15 : decode cX6_removeTransition 15 = .ok (.ireturn, 1) := by decide +kernel
theorem dX6_removeTransition_16 : decode cX6_removeTransition 16 = .ok (.aload_n 0, 1) := by decide +kernel
theorem dX6_removeTransition_17 : decode cX6_removeTransition 17 = .ok (.getfield 19, 3) := by decide +kernel
theorem dX6_removeTransition_20 : decode cX6_removeTransition 20 = .ok (.iload_n 1, 1) := by decide +kernel
theorem dX6_removeTransition_21 : decode cX6_removeTransition 21 = .ok (.iload_n 2, 1) := by decide +kernel
theorem dX6_removeTransition_22 : decode cX6_removeTransition 22 = .ok (.invokevirtual 124, 3) := by decide +kernel
theorem dX6_removeTransition_25 : decode cX6_removeTransition 25 = .ok (.ifCond .ne 6, 3) := by decide +kernel
theorem dX6_removeTransition_28 : decode cX6_removeTransition 28 = .ok (.bipush (-3), 2) := by decide +kernel
theorem dX6_removeTransition_30 : decode cX6_removeTransition 30 = .ok (.ireturn, 1) := by decide +kernel
theorem dX6_removeTransition_31 : decode cX6_removeTransition 31 = .ok (.aload_n 0, 1) := by decide +kernel
theorem dX6_removeTransition_32 : decode cX6_removeTransition 32 = .ok (.getfield 42, 3) := by decide +kernel
theorem dX6_removeTransition_35 : decode cX6_removeTransition 35 = .ok (.aload_n 0, 1) := by decide +kernel
theorem dX6_removeTransition_36 : decode cX6_removeTransition 36 = .ok (.getfield 19, 3) := by decide +kernel
theorem dX6_removeTransition_39 : decode cX6_removeTransition 39 = .ok (.invokevirtual 139, 3) := by decide +kernel
theorem dX6_removeTransition_42 : decode cX6_removeTransition 42 = .ok (.aload_n 0, 1) := by decide +kernel
theorem dX6_removeTransition_43 : decode cX6_removeTransition 43 = .ok (.getfield 19, 3) := by decide +kernel
theorem dX6_removeTransition_46 : decode cX6_removeTransition 46 = .ok (.iload_n 1, 1) := by decide +kernel
theorem dX6_removeTransition_47 : decode cX6_removeTransition 47 = .ok (.iload_n 2, 1) := by decide +kernel
theorem dX6_removeTransition_48 : decode cX6_removeTransition 48 = .ok (.invokevirtual 154, 3) := by decide +kernel
theorem dX6_removeTransition_51 : decode cX6_removeTransition 51 = .ok (.aload_n 0, 1) := by decide +kernel
theorem dX6_removeTransition_52 : decode cX6_removeTransition 52 = .ok (.getfield 19, 3) := by decide +kernel
theorem dX6_removeTransition_55 : decode cX6_removeTransition 55 = .ok (.invokevirtual 93, 3) := by decide +kernel
theorem dX6_removeTransition_58 : decode cX6_removeTransition 58 = .ok (.ireturn, 1) := by decide +kernel
abbrev x_X6_removeTransition : Cx := (6, cX6_removeTransition, false, some (.int))
set_option maxRecDepth 10000 in
theorem g_X6_removeTransition_0 {E : Ev} {d : Nat} {G : Hp} {Q : Po} {x0 : Nat} {x1 : Int32} {x2 : Int32} (h : (qCI E d i_X6_isState [.int x1] G fun v2 G1 => (if v2 = 0 then Q (some (.int (iv (-1)))) G1 else (qCI E d i_X6_isTerminal [.int x2] G1 fun v4 G3 => (if ¬ v4 = 0 then (qFR E G3 x0 6 1 fun v5 => (rcv E G3 v5 1 = true ∧ (qCI E d i_X1_canRead [.ref v5, .int x1, .int x2] G3 fun v7 G6 => (if ¬ v7 = 0 then (qFR E G6 x0 6 4 fun v8 => (qFR E G6 x0 6 1 fun v9 => (rcv E G6 v8 0 = true ∧ (qCV E d i_X0_remember [.ref v8, .ref v9] G6 fun G10 => (qFR E G10 x0 6 1 fun v11 => (rcv E G10 v11 1 = true ∧ (qCV E d i_X1_dropTransition [.ref v11, .int x1, .int x2] G10 fun G12 => (qFR E G12 x0 6 1 fun v13 => (rcv E G12 v13 1 = true ∧ (qCI E d i_X1_transitionCount [.ref v13] G12 fun v15 G14 => Q (some (.int v15)) G14)))))))))) else Q (some (.int (iv (-3)))) G6)))) else Q (some (.int (iv (-1)))) G3))))) : Xr E d x_X6_removeTransition 0 [some (.ref x0), some (.int x1), some (.int x2)] [] G Q := by
  refine r_iload_n dX6_removeTransition_0 rfl ?_
  refine r_cI dX6_removeTransition_1 rfl (invS_eq rfl (by decide) rfl rfl rfl rfl ⟨rfl, Nat.le_of_ble_eq_true rfl⟩) (qCI_imp (fun v2 G1 h => ?_) h)
  refine r_ifeq (tgt := 14) dX6_removeTransition_4 (by decide) (ite_imp (fun h => ?_) (fun h => ?_) h)
  · refine r_iconst dX6_removeTransition_14 ?_
    exact r_iret dX6_removeTransition_15 rfl ⟨rfl, h⟩
  · refine r_iload_n dX6_removeTransition_7 rfl ?_
    refine r_cI dX6_removeTransition_8 rfl (invS_eq rfl (by decide) rfl rfl rfl rfl ⟨rfl, Nat.le_of_ble_eq_true rfl⟩) (qCI_imp (fun v4 G3 h => ?_) h)
    refine r_ifne (tgt := 16) dX6_removeTransition_11 (by decide) (ite_imp (fun h => ?_) (fun h => ?_) h)
    · refine r_aload_n dX6_removeTransition_16 rfl ?_
      refine r_getR dX6_removeTransition_17 rfl (qFR_imp (fun v5 h => ?_) h)
      refine r_iload_n dX6_removeTransition_20 rfl ?_
      refine r_iload_n dX6_removeTransition_21 rfl ?_
      refine r_cI dX6_removeTransition_22 rfl (invV_eq rfl rfl rfl rfl rfl rfl ⟨rfl, Nat.le_of_ble_eq_true rfl⟩ h.1) (qCI_imp (fun v7 G6 h => ?_) h.2)
      refine r_ifne (tgt := 31) dX6_removeTransition_25 (by decide) (ite_imp (fun h => ?_) (fun h => ?_) h)
      · refine r_aload_n dX6_removeTransition_31 rfl ?_
        refine r_getR dX6_removeTransition_32 rfl (qFR_imp (fun v8 h => ?_) h)
        refine r_aload_n dX6_removeTransition_35 rfl ?_
        refine r_getR dX6_removeTransition_36 rfl (qFR_imp (fun v9 h => ?_) h)
        refine r_cV dX6_removeTransition_39 rfl (invV_eq rfl rfl rfl rfl rfl rfl ⟨rfl, Nat.le_of_ble_eq_true rfl⟩ h.1) (qCV_imp (fun G10 h => ?_) h.2)
        refine r_aload_n dX6_removeTransition_42 rfl ?_
        refine r_getR dX6_removeTransition_43 rfl (qFR_imp (fun v11 h => ?_) h)
        refine r_iload_n dX6_removeTransition_46 rfl ?_
        refine r_iload_n dX6_removeTransition_47 rfl ?_
        refine r_cV dX6_removeTransition_48 rfl (invV_eq rfl rfl rfl rfl rfl rfl ⟨rfl, Nat.le_of_ble_eq_true rfl⟩ h.1) (qCV_imp (fun G12 h => ?_) h.2)
        refine r_aload_n dX6_removeTransition_51 rfl ?_
        refine r_getR dX6_removeTransition_52 rfl (qFR_imp (fun v13 h => ?_) h)
        refine r_cI dX6_removeTransition_55 rfl (invV_eq rfl rfl rfl rfl rfl rfl ⟨rfl, Nat.le_of_ble_eq_true rfl⟩ h.1) (qCI_imp (fun v15 G14 h => ?_) h.2)
        exact r_iret dX6_removeTransition_58 rfl ⟨rfl, h⟩
      · refine r_bipush dX6_removeTransition_28 rfl ?_
        exact r_iret dX6_removeTransition_30 rfl ⟨rfl, h⟩
    · refine r_iconst dX6_removeTransition_14 ?_
      exact r_iret dX6_removeTransition_15 rfl ⟨rfl, h⟩
theorem e_X6_removeTransition {E : Ev} {d : Nat} {G : Hp} {Q : Po} {x0 : Nat} {x1 : Int32} {x2 : Int32} (h : (qCI E d i_X6_isState [.int x1] G fun v2 G1 => (if v2 = 0 then Q (some (.int (iv (-1)))) G1 else (qCI E d i_X6_isTerminal [.int x2] G1 fun v4 G3 => (if ¬ v4 = 0 then (qFR E G3 x0 6 1 fun v5 => (rcv E G3 v5 1 = true ∧ (qCI E d i_X1_canRead [.ref v5, .int x1, .int x2] G3 fun v7 G6 => (if ¬ v7 = 0 then (qFR E G6 x0 6 4 fun v8 => (qFR E G6 x0 6 1 fun v9 => (rcv E G6 v8 0 = true ∧ (qCV E d i_X0_remember [.ref v8, .ref v9] G6 fun G10 => (qFR E G10 x0 6 1 fun v11 => (rcv E G10 v11 1 = true ∧ (qCV E d i_X1_dropTransition [.ref v11, .int x1, .int x2] G10 fun G12 => (qFR E G12 x0 6 1 fun v13 => (rcv E G12 v13 1 = true ∧ (qCI E d i_X1_transitionCount [.ref v13] G12 fun v15 G14 => Q (some (.int v15)) G14)))))))))) else Q (some (.int (iv (-3)))) G6)))) else Q (some (.int (iv (-1)))) G3))))) : runs E (d + 1) i_X6_removeTransition [.ref x0, .int x1, .int x2] G Q := by
  rw [runs_eq (m := (yX6_removeTransition, cX6_removeTransition, 3, some (.int), 2, 6, false, false)) rfl (Nat.le_of_ble_eq_true rfl)]
  exact g_X6_removeTransition_0 h
theorem dX6_inline_0 : decode cX6_inline 0 = .ok (.iload_n 1, 1) := by decide +kernel
theorem dX6_inline_1 : decode cX6_inline 1 = .ok (.invokestatic 96, 3) := by decide +kernel
theorem dX6_inline_4 : decode cX6_inline 4 = .ok (.ifCond .eq 18, 3) := by decide +kernel
theorem dX6_inline_7 : decode cX6_inline 7 = .ok (.aload_n 0, 1) := by decide +kernel
theorem dX6_inline_8 : decode cX6_inline 8 = .ok (.getfield 19, 3) := by decide +kernel
theorem dX6_inline_11 : decode cX6_inline 11 = .ok (.iload_n 1, 1) := by decide +kernel
theorem dX6_inline_12 : decode cX6_inline 12 = .ok (.invokevirtual 99, 3) := by decide +kernel
theorem dX6_inline_15 : decode cX6_inline 15 = .ok (.iload_n 2, 1) := by decide +kernel
theorem dX6_inline_16 : decode cX6_inline 16 = .ok (.invokevirtual 104, 3) := by decide +kernel
theorem dX6_inline_19 : decode cX6_inline 19 = .ok (.ifCond .ne 5, 3) := by decide +kernel
theorem dX6_inline_22 : decode cX6_inline 22 = .ok (.iconst (-1), 1) := by decide +kernel
theorem dX6_inline_23 : decode cX6_inline 23 = .ok (.ireturn, 1) := by decide +kernel
theorem dX6_inline_24 : decode cX6_inline 24 = .ok (.aload_n 0, 1) := by decide +kernel
theorem dX6_inline_25 : decode cX6_inline 25 = .ok (.getfield 19, 3) := by decide +kernel
theorem dX6_inline_28 : decode cX6_inline 28 = .ok (.iload_n 1, 1) := by decide +kernel
theorem dX6_inline_29 : decode cX6_inline 29 = .ok (.invokevirtual 99, 3) := by decide +kernel
theorem dX6_inline_32 : decode cX6_inline 32 = .ok (.iload_n 2, 1) := by decide +kernel
theorem dX6_inline_33 : decode cX6_inline 33 = .ok (.invokevirtual 107, 3) := by decide +kernel
theorem dX6_inline_36 : decode cX6_inline 36 = .ok (.iconst 4, 1) := by decide +kernel
theorem dX6_inline_37 : decode cX6_inline 37 = .ok (.isub, 1) := by decide +kernel
theorem dX6_inline_38 : decode cX6_inline 38 = .ok (.istore_n 3, 1) := by decide +kernel
theorem dX6_inline_39 : decode cX6_inline 39 = .ok (.iload_n 3, 1) := by decide +kernel
theorem dX6_inline_40 : decode cX6_inline 40 = .ok (.invokestatic 96, 3) := by decide +kernel
theorem dX6_inline_43 : decode cX6_inline 43 = .ok (.ifCond .ne 6, 3) := by decide +kernel
theorem dX6_inline_46 : decode cX6_inline 46 = .ok (.bipush (-3), 2) := by decide +kernel
theorem dX6_inline_48 : decode cX6_inline 48 = .ok (.ireturn, 1) := by decide +kernel
theorem dX6_inline_49 : decode cX6_inline 49 = .ok (.aload_n 0, 1) := by decide +kernel
theorem dX6_inline_50 : decode cX6_inline 50 = .ok (.getfield 62, 3) := by decide +kernel
theorem dX6_inline_53 : decode cX6_inline 53 = .ok (.aload_n 0, 1) := by decide +kernel
theorem dX6_inline_54 : decode cX6_inline 54 = .ok (.getfield 19, 3) := by decide +kernel
theorem dX6_inline_57 : decode cX6_inline 57 = .ok (.iload_n 1, 1) := by decide +kernel
theorem dX6_inline_58 : decode cX6_inline 58 = .ok (.invokevirtual 99, 3) := by decide +kernel
theorem dX6_inline_61 : decode cX6_inline 61 = .ok (.iload_n 2, 1) := by decide +kernel
theorem dX6_inline_62 : decode cX6_inline 62 = .ok (.aload_n 0, 1) := by decide +kernel
theorem dX6_inline_63 : decode cX6_inline 63 = .ok (.getfield 19, 3) := by decide +kernel
theorem dX6_inline_66 : decode cX6_inline 66 = .ok (.iload_n 3, 1) := by decide +kernel
theorem dX6_inline_67 : decode cX6_inline 67 = .ok (.invokevirtual 99, 3) := by decide +kernel
theorem dX6_inline_70 : decode cX6_inline 70 = .ok (.invokevirtual 158, 3) := by decide +kernel
theorem dX6_inline_73 : decode cX6_inline 73 = .ok (.ifCond .ne 6, 3) := by decide +kernel
theorem dX6_inline_76 : decode cX6_inline 76 = .ok (.bipush (-4), 2) := by decide +kernel
theorem dX6_inline_78 : decode cX6_inline 78 = .ok (.ireturn, 1) := by decide +kernel
theorem dX6_inline_79 : decode cX6_inline 79 = .ok (.aload_n 0, 1) := by decide +kernel
theorem dX6_inline_80 : decode cX6_inline 80 = .ok (.getfield 42, 3) := by decide +kernel
theorem dX6_inline_83 : decode cX6_inline 83 = .ok (.aload_n 0, 1) := by decide +kernel
theorem dX6_inline_84 : decode cX6_inline 84 = .ok (.getfield 19, 3) := by decide +kernel
theorem dX6_inline_87 : decode cX6_inline 87 = .ok (.invokevirtual 139, 3) := by decide +kernel
theorem dX6_inline_90 : decode cX6_inline 90 = .ok (.aload_n 0, 1) := by decide +kernel
theorem dX6_inline_91 : decode cX6_inline 91 = .ok (.getfield 19, 3) := by decide +kernel
theorem dX6_inline_94 : decode cX6_inline 94 = .ok (.iload_n 1, 1) := by decide +kernel
theorem dX6_inline_95 : decode cX6_inline 95 = .ok (.aload_n 0, 1) := by decide +kernel
theorem dX6_inline_96 : decode cX6_inline 96 = .ok (.getfield 62, 3) := by decide +kernel
theorem dX6_inline_99 : decode cX6_inline 99 = .ok (.invokevirtual 142, 3) := by decide +kernel
theorem dX6_inline_102 : decode cX6_inline 102 = .ok (.aload_n 0, 1) := by decide +kernel
theorem dX6_inline_103 : decode cX6_inline 103 = .ok (.getfield 62, 3) := by decide +kernel
theorem dX6_inline_106 : decode cX6_inline 106 = .ok (.invokevirtual 103, 3) := by decide +kernel
theorem dX6_inline_109 : decode cX6_inline 109 = .ok (.ireturn, 1) := by decide +kernel
abbrev x_X6_inline : Cx := (6, cX6_inline, false, some (.int))
set_option maxRecDepth 10000 in
theorem g_X6_inline_0 {E : Ev} {d : Nat} {G : Hp} {Q : Po} {x0 : Nat} {x1 : Int32} {x2 : Int32} (h : (qCI E d i_X6_isNonterminal [.int x1] G fun v2 G1 => (if v2 = 0 then Q (some (.int (iv (-1)))) G1 else (qFR E G1 x0 6 1 fun v3 => (rcv E G1 v3 1 = true ∧ (qCR E d i_X1_body [.ref v3, .int x1] G1 fun v5 G4 => (rcv E G4 v5 2 = true ∧ (qCI E d i_X2_holds [.ref v5, .int x2] G4 fun v7 G6 => (if ¬ v7 = 0 then (qFR E G6 x0 6 1 fun v8 => (rcv E G6 v8 1 = true ∧ (qCR E d i_X1_body [.ref v8, .int x1] G6 fun v10 G9 => (rcv E G9 v10 2 = true ∧ (qCI E d i_X2_symbol [.ref v10, .int x2] G9 fun v12 G11 => (qCI E d i_X6_isNonterminal [.int ((v12 - (iv 4)))] G11 fun v14 G13 => (if ¬ v14 = 0 then (qFR E G13 x0 6 8 fun v15 => (qFR E G13 x0 6 1 fun v16 => (rcv E G13 v16 1 = true ∧ (qCR E d i_X1_body [.ref v16, .int x1] G13 fun v18 G17 => (qFR E G17 x0 6 1 fun v19 => (rcv E G17 v19 1 = true ∧ (qCR E d i_X1_body [.ref v19, .int ((v12 - (iv 4)))] G17 fun v21 G20 => (rcv E G20 v15 2 = true ∧ (qCI E d i_X2_expand [.ref v15, .ref v18, .int x2, .ref v21] G20 fun v23 G22 => (if ¬ v23 = 0 then (qFR E G22 x0 6 4 fun v24 => (qFR E G22 x0 6 1 fun v25 => (rcv E G22 v24 0 = true ∧ (qCV E d i_X0_remember [.ref v24, .ref v25] G22 fun G26 => (qFR E G26 x0 6 1 fun v27 => (qFR E G26 x0 6 8 fun v28 => (rcv E G26 v27 1 = true ∧ (qCV E d i_X1_changeBody [.ref v27, .int x1, .ref v28] G26 fun G29 => (qFR E G29 x0 6 8 fun v30 => (rcv E G29 v30 2 = true ∧ (qCI E d i_X2_size [.ref v30] G29 fun v32 G31 => Q (some (.int v32)) G31))))))))))) else Q (some (.int (iv (-4)))) G22)))))))))) else Q (some (.int (iv (-3)))) G13))))))) else Q (some (.int (iv (-1)))) G6))))))))) : Xr E d x_X6_inline 0 [some (.ref x0), some (.int x1), some (.int x2), none] [] G Q := by
  refine r_iload_n dX6_inline_0 rfl ?_
  refine r_cI dX6_inline_1 rfl (invS_eq rfl (by decide) rfl rfl rfl rfl ⟨rfl, Nat.le_of_ble_eq_true rfl⟩) (qCI_imp (fun v2 G1 h => ?_) h)
  refine r_ifeq (tgt := 22) dX6_inline_4 (by decide) (ite_imp (fun h => ?_) (fun h => ?_) h)
  · refine r_iconst dX6_inline_22 ?_
    exact r_iret dX6_inline_23 rfl ⟨rfl, h⟩
  · refine r_aload_n dX6_inline_7 rfl ?_
    refine r_getR dX6_inline_8 rfl (qFR_imp (fun v3 h => ?_) h)
    refine r_iload_n dX6_inline_11 rfl ?_
    refine r_cR dX6_inline_12 rfl (invV_eq rfl rfl rfl rfl rfl rfl ⟨rfl, Nat.le_of_ble_eq_true rfl⟩ h.1) (qCR_imp (fun v5 G4 h => ?_) h.2)
    refine r_iload_n dX6_inline_15 rfl ?_
    refine r_cI dX6_inline_16 rfl (invV_eq rfl rfl rfl rfl rfl rfl ⟨rfl, Nat.le_of_ble_eq_true rfl⟩ h.1) (qCI_imp (fun v7 G6 h => ?_) h.2)
    refine r_ifne (tgt := 24) dX6_inline_19 (by decide) (ite_imp (fun h => ?_) (fun h => ?_) h)
    · refine r_aload_n dX6_inline_24 rfl ?_
      refine r_getR dX6_inline_25 rfl (qFR_imp (fun v8 h => ?_) h)
      refine r_iload_n dX6_inline_28 rfl ?_
      refine r_cR dX6_inline_29 rfl (invV_eq rfl rfl rfl rfl rfl rfl ⟨rfl, Nat.le_of_ble_eq_true rfl⟩ h.1) (qCR_imp (fun v10 G9 h => ?_) h.2)
      refine r_iload_n dX6_inline_32 rfl ?_
      refine r_cI dX6_inline_33 rfl (invV_eq rfl rfl rfl rfl rfl rfl ⟨rfl, Nat.le_of_ble_eq_true rfl⟩ h.1) (qCI_imp (fun v12 G11 h => ?_) h.2)
      refine r_iconst dX6_inline_36 ?_
      refine r_isub dX6_inline_37 ?_
      refine r_istore_n dX6_inline_38 rfl ?_
      refine r_iload_n dX6_inline_39 rfl ?_
      refine r_cI dX6_inline_40 rfl (invS_eq rfl (by decide) rfl rfl rfl rfl ⟨rfl, Nat.le_of_ble_eq_true rfl⟩) (qCI_imp (fun v14 G13 h => ?_) h)
      refine r_ifne (tgt := 49) dX6_inline_43 (by decide) (ite_imp (fun h => ?_) (fun h => ?_) h)
      · refine r_aload_n dX6_inline_49 rfl ?_
        refine r_getR dX6_inline_50 rfl (qFR_imp (fun v15 h => ?_) h)
        refine r_aload_n dX6_inline_53 rfl ?_
        refine r_getR dX6_inline_54 rfl (qFR_imp (fun v16 h => ?_) h)
        refine r_iload_n dX6_inline_57 rfl ?_
        refine r_cR dX6_inline_58 rfl (invV_eq rfl rfl rfl rfl rfl rfl ⟨rfl, Nat.le_of_ble_eq_true rfl⟩ h.1) (qCR_imp (fun v18 G17 h => ?_) h.2)
        refine r_iload_n dX6_inline_61 rfl ?_
        refine r_aload_n dX6_inline_62 rfl ?_
        refine r_getR dX6_inline_63 rfl (qFR_imp (fun v19 h => ?_) h)
        refine r_iload_n dX6_inline_66 rfl ?_
        refine r_cR dX6_inline_67 rfl (invV_eq rfl rfl rfl rfl rfl rfl ⟨rfl, Nat.le_of_ble_eq_true rfl⟩ h.1) (qCR_imp (fun v21 G20 h => ?_) h.2)
        refine r_cI dX6_inline_70 rfl (invV_eq rfl rfl rfl rfl rfl rfl ⟨rfl, Nat.le_of_ble_eq_true rfl⟩ h.1) (qCI_imp (fun v23 G22 h => ?_) h.2)
        refine r_ifne (tgt := 79) dX6_inline_73 (by decide) (ite_imp (fun h => ?_) (fun h => ?_) h)
        · refine r_aload_n dX6_inline_79 rfl ?_
          refine r_getR dX6_inline_80 rfl (qFR_imp (fun v24 h => ?_) h)
          refine r_aload_n dX6_inline_83 rfl ?_
          refine r_getR dX6_inline_84 rfl (qFR_imp (fun v25 h => ?_) h)
          refine r_cV dX6_inline_87 rfl (invV_eq rfl rfl rfl rfl rfl rfl ⟨rfl, Nat.le_of_ble_eq_true rfl⟩ h.1) (qCV_imp (fun G26 h => ?_) h.2)
          refine r_aload_n dX6_inline_90 rfl ?_
          refine r_getR dX6_inline_91 rfl (qFR_imp (fun v27 h => ?_) h)
          refine r_iload_n dX6_inline_94 rfl ?_
          refine r_aload_n dX6_inline_95 rfl ?_
          refine r_getR dX6_inline_96 rfl (qFR_imp (fun v28 h => ?_) h)
          refine r_cV dX6_inline_99 rfl (invV_eq rfl rfl rfl rfl rfl rfl ⟨rfl, Nat.le_of_ble_eq_true rfl⟩ h.1) (qCV_imp (fun G29 h => ?_) h.2)
          refine r_aload_n dX6_inline_102 rfl ?_
          refine r_getR dX6_inline_103 rfl (qFR_imp (fun v30 h => ?_) h)
          refine r_cI dX6_inline_106 rfl (invV_eq rfl rfl rfl rfl rfl rfl ⟨rfl, Nat.le_of_ble_eq_true rfl⟩ h.1) (qCI_imp (fun v32 G31 h => ?_) h.2)
          exact r_iret dX6_inline_109 rfl ⟨rfl, h⟩
        · refine r_bipush dX6_inline_76 rfl ?_
          exact r_iret dX6_inline_78 rfl ⟨rfl, h⟩
      · refine r_bipush dX6_inline_46 rfl ?_
        exact r_iret dX6_inline_48 rfl ⟨rfl, h⟩
    · refine r_iconst dX6_inline_22 ?_
      exact r_iret dX6_inline_23 rfl ⟨rfl, h⟩
theorem e_X6_inline {E : Ev} {d : Nat} {G : Hp} {Q : Po} {x0 : Nat} {x1 : Int32} {x2 : Int32} (h : (qCI E d i_X6_isNonterminal [.int x1] G fun v2 G1 => (if v2 = 0 then Q (some (.int (iv (-1)))) G1 else (qFR E G1 x0 6 1 fun v3 => (rcv E G1 v3 1 = true ∧ (qCR E d i_X1_body [.ref v3, .int x1] G1 fun v5 G4 => (rcv E G4 v5 2 = true ∧ (qCI E d i_X2_holds [.ref v5, .int x2] G4 fun v7 G6 => (if ¬ v7 = 0 then (qFR E G6 x0 6 1 fun v8 => (rcv E G6 v8 1 = true ∧ (qCR E d i_X1_body [.ref v8, .int x1] G6 fun v10 G9 => (rcv E G9 v10 2 = true ∧ (qCI E d i_X2_symbol [.ref v10, .int x2] G9 fun v12 G11 => (qCI E d i_X6_isNonterminal [.int ((v12 - (iv 4)))] G11 fun v14 G13 => (if ¬ v14 = 0 then (qFR E G13 x0 6 8 fun v15 => (qFR E G13 x0 6 1 fun v16 => (rcv E G13 v16 1 = true ∧ (qCR E d i_X1_body [.ref v16, .int x1] G13 fun v18 G17 => (qFR E G17 x0 6 1 fun v19 => (rcv E G17 v19 1 = true ∧ (qCR E d i_X1_body [.ref v19, .int ((v12 - (iv 4)))] G17 fun v21 G20 => (rcv E G20 v15 2 = true ∧ (qCI E d i_X2_expand [.ref v15, .ref v18, .int x2, .ref v21] G20 fun v23 G22 => (if ¬ v23 = 0 then (qFR E G22 x0 6 4 fun v24 => (qFR E G22 x0 6 1 fun v25 => (rcv E G22 v24 0 = true ∧ (qCV E d i_X0_remember [.ref v24, .ref v25] G22 fun G26 => (qFR E G26 x0 6 1 fun v27 => (qFR E G26 x0 6 8 fun v28 => (rcv E G26 v27 1 = true ∧ (qCV E d i_X1_changeBody [.ref v27, .int x1, .ref v28] G26 fun G29 => (qFR E G29 x0 6 8 fun v30 => (rcv E G29 v30 2 = true ∧ (qCI E d i_X2_size [.ref v30] G29 fun v32 G31 => Q (some (.int v32)) G31))))))))))) else Q (some (.int (iv (-4)))) G22)))))))))) else Q (some (.int (iv (-3)))) G13))))))) else Q (some (.int (iv (-1)))) G6))))))))) : runs E (d + 1) i_X6_inline [.ref x0, .int x1, .int x2] G Q := by
  rw [runs_eq (m := (yX6_inline, cX6_inline, 4, some (.int), 2, 6, false, false)) rfl (Nat.le_of_ble_eq_true rfl)]
  exact g_X6_inline_0 h
theorem dX6_exchange_0 : decode cX6_exchange 0 = .ok (.aload_n 0, 1) := by decide +kernel
theorem dX6_exchange_1 : decode cX6_exchange 1 = .ok (.getfield 42, 3) := by decide +kernel
theorem dX6_exchange_4 : decode cX6_exchange 4 = .ok (.aload_n 0, 1) := by decide +kernel
theorem dX6_exchange_5 : decode cX6_exchange 5 = .ok (.getfield 19, 3) := by decide +kernel
theorem dX6_exchange_8 : decode cX6_exchange 8 = .ok (.invokevirtual 139, 3) := by decide +kernel
theorem dX6_exchange_11 : decode cX6_exchange 11 = .ok (.aload_n 0, 1) := by decide +kernel
theorem dX6_exchange_12 : decode cX6_exchange 12 = .ok (.getfield 19, 3) := by decide +kernel
theorem dX6_exchange_15 : decode cX6_exchange 15 = .ok (.invokevirtual 162, 3) := by decide +kernel
theorem dX6_exchange_18 : decode cX6_exchange 18 = .ok (.ireturn, 1) := by decide +kernel
abbrev x_X6_exchange : Cx := (6, cX6_exchange, false, some (.int))
set_option maxRecDepth 10000 in
theorem g_X6_exchange_0 {E : Ev} {d : Nat} {G : Hp} {Q : Po} {x0 : Nat} (h : (qFR E G x0 6 4 fun v1 => (qFR E G x0 6 1 fun v2 => (rcv E G v1 0 = true ∧ (qCV E d i_X0_remember [.ref v1, .ref v2] G fun G3 => (qFR E G3 x0 6 1 fun v4 => (rcv E G3 v4 1 = true ∧ (qCI E d i_X1_swapFAndG [.ref v4] G3 fun v6 G5 => Q (some (.int v6)) G5)))))))) : Xr E d x_X6_exchange 0 [some (.ref x0)] [] G Q := by
  refine r_aload_n dX6_exchange_0 rfl ?_
  refine r_getR dX6_exchange_1 rfl (qFR_imp (fun v1 h => ?_) h)
  refine r_aload_n dX6_exchange_4 rfl ?_
  refine r_getR dX6_exchange_5 rfl (qFR_imp (fun v2 h => ?_) h)
  refine r_cV dX6_exchange_8 rfl (invV_eq rfl rfl rfl rfl rfl rfl ⟨rfl, Nat.le_of_ble_eq_true rfl⟩ h.1) (qCV_imp (fun G3 h => ?_) h.2)
  refine r_aload_n dX6_exchange_11 rfl ?_
  refine r_getR dX6_exchange_12 rfl (qFR_imp (fun v4 h => ?_) h)
  refine r_cI dX6_exchange_15 rfl (invV_eq rfl rfl rfl rfl rfl rfl ⟨rfl, Nat.le_of_ble_eq_true rfl⟩ h.1) (qCI_imp (fun v6 G5 h => ?_) h.2)
  exact r_iret dX6_exchange_18 rfl ⟨rfl, h⟩
theorem e_X6_exchange {E : Ev} {d : Nat} {G : Hp} {Q : Po} {x0 : Nat} (h : (qFR E G x0 6 4 fun v1 => (qFR E G x0 6 1 fun v2 => (rcv E G v1 0 = true ∧ (qCV E d i_X0_remember [.ref v1, .ref v2] G fun G3 => (qFR E G3 x0 6 1 fun v4 => (rcv E G3 v4 1 = true ∧ (qCI E d i_X1_swapFAndG [.ref v4] G3 fun v6 G5 => Q (some (.int v6)) G5)))))))) : runs E (d + 1) i_X6_exchange [.ref x0] G Q := by
  rw [runs_eq (m := (yX6_exchange, cX6_exchange, 1, some (.int), 0, 6, false, false)) rfl (Nat.le_of_ble_eq_true rfl)]
  exact g_X6_exchange_0 h
theorem dX6_undo_0 : decode cX6_undo 0 = .ok (.aload_n 0, 1) := by decide +kernel
theorem dX6_undo_1 : decode cX6_undo 1 = .ok (.getfield 42, 3) := by decide +kernel
theorem dX6_undo_4 : decode cX6_undo 4 = .ok (.aload_n 0, 1) := by decide +kernel
theorem dX6_undo_5 : decode cX6_undo 5 = .ok (.getfield 19, 3) := by decide +kernel
theorem dX6_undo_8 : decode cX6_undo 8 = .ok (.invokevirtual 165, 3) := by decide +kernel
theorem dX6_undo_11 : decode cX6_undo 11 = .ok (.ifCond .eq 13, 3) := by decide +kernel
theorem dX6_undo_14 : decode cX6_undo 14 = .ok (.aload_n 0, 1) := by decide +kernel
theorem dX6_undo_15 : decode cX6_undo 15 = .ok (.getfield 42, 3) := by decide +kernel
theorem dX6_undo_18 : decode cX6_undo 18 = .ok (.invokevirtual 169, 3) := by decide +kernel
theorem dX6_undo_21 : decode cX6_undo 21 = .ok (.goto 5, 3) := by decide +kernel
theorem dX6_undo_24 : decode cX6_undo 24 = .ok (.bipush (-3), 2) := by decide +kernel
theorem dX6_undo_26 : decode cX6_undo 26 = .ok (.ireturn, 1) := by decide +kernel
abbrev x_X6_undo : Cx := (6, cX6_undo, false, some (.int))
set_option maxRecDepth 10000 in
theorem g_X6_undo_0 {E : Ev} {d : Nat} {G : Hp} {Q : Po} {x0 : Nat} (h : (qFR E G x0 6 4 fun v1 => (qFR E G x0 6 1 fun v2 => (rcv E G v1 0 = true ∧ (qCI E d i_X0_takeBack [.ref v1, .ref v2] G fun v4 G3 => (if v4 = 0 then Q (some (.int (iv (-3)))) G3 else (qFR E G3 x0 6 4 fun v5 => (rcv E G3 v5 0 = true ∧ (qCI E d i_X0_size [.ref v5] G3 fun v7 G6 => Q (some (.int v7)) G6))))))))) : Xr E d x_X6_undo 0 [some (.ref x0)] [] G Q := by
  refine r_aload_n dX6_undo_0 rfl ?_
  refine r_getR dX6_undo_1 rfl (qFR_imp (fun v1 h => ?_) h)
  refine r_aload_n dX6_undo_4 rfl ?_
  refine r_getR dX6_undo_5 rfl (qFR_imp (fun v2 h => ?_) h)
  refine r_cI dX6_undo_8 rfl (invV_eq rfl rfl rfl rfl rfl rfl ⟨rfl, Nat.le_of_ble_eq_true rfl⟩ h.1) (qCI_imp (fun v4 G3 h => ?_) h.2)
  refine r_ifeq (tgt := 24) dX6_undo_11 (by decide) (ite_imp (fun h => ?_) (fun h => ?_) h)
  · refine r_bipush dX6_undo_24 rfl ?_
    exact r_iret dX6_undo_26 rfl ⟨rfl, h⟩
  · refine r_aload_n dX6_undo_14 rfl ?_
    refine r_getR dX6_undo_15 rfl (qFR_imp (fun v5 h => ?_) h)
    refine r_cI dX6_undo_18 rfl (invV_eq rfl rfl rfl rfl rfl rfl ⟨rfl, Nat.le_of_ble_eq_true rfl⟩ h.1) (qCI_imp (fun v7 G6 h => ?_) h.2)
    refine r_goto (tgt := 26) dX6_undo_21 (by decide) ?_
    exact r_iret dX6_undo_26 rfl ⟨rfl, h⟩
theorem e_X6_undo {E : Ev} {d : Nat} {G : Hp} {Q : Po} {x0 : Nat} (h : (qFR E G x0 6 4 fun v1 => (qFR E G x0 6 1 fun v2 => (rcv E G v1 0 = true ∧ (qCI E d i_X0_takeBack [.ref v1, .ref v2] G fun v4 G3 => (if v4 = 0 then Q (some (.int (iv (-3)))) G3 else (qFR E G3 x0 6 4 fun v5 => (rcv E G3 v5 0 = true ∧ (qCI E d i_X0_size [.ref v5] G3 fun v7 G6 => Q (some (.int v7)) G6))))))))) : runs E (d + 1) i_X6_undo [.ref x0] G Q := by
  rw [runs_eq (m := (yX6_undo, cX6_undo, 1, some (.int), 0, 6, false, false)) rfl (Nat.le_of_ble_eq_true rfl)]
  exact g_X6_undo_0 h
theorem dX6_labelAt_0 : decode cX6_labelAt 0 = .ok (.iload_n 1, 1) := by decide +kernel
theorem dX6_labelAt_1 : decode cX6_labelAt 1 = .ok (.invokestatic 170, 3) := by decide +kernel
theorem dX6_labelAt_4 : decode cX6_labelAt 4 = .ok (.istore_n 2, 1) := by decide +kernel
theorem dX6_labelAt_5 : decode cX6_labelAt 5 = .ok (.iload_n 2, 1) := by decide +kernel
theorem dX6_labelAt_6 : decode cX6_labelAt 6 = .ok (.ifCond .ne 6, 3) := by decide +kernel
theorem dX6_labelAt_9 : decode cX6_labelAt 9 = .ok (.bipush (-2), 2) := by decide +kernel
theorem dX6_labelAt_11 : decode cX6_labelAt 11 = .ok (.ireturn, 1) := by decide +kernel
theorem dX6_labelAt_12 : decode cX6_labelAt 12 = .ok (.aload_n 0, 1) := by decide +kernel
theorem dX6_labelAt_13 : decode cX6_labelAt 13 = .ok (.getfield 28, 3) := by decide +kernel
theorem dX6_labelAt_16 : decode cX6_labelAt 16 = .ok (.invokevirtual 173, 3) := by decide +kernel
theorem dX6_labelAt_19 : decode cX6_labelAt 19 = .ok (.iload_n 2, 1) := by decide +kernel
theorem dX6_labelAt_20 : decode cX6_labelAt 20 = .ok (.invokevirtual 177, 3) := by decide +kernel
theorem dX6_labelAt_23 : decode cX6_labelAt 23 = .ok (.ireturn, 1) := by decide +kernel
abbrev x_X6_labelAt : Cx := (6, cX6_labelAt, false, some (.int))
set_option maxRecDepth 10000 in
theorem g_X6_labelAt_0 {E : Ev} {d : Nat} {G : Hp} {Q : Po} {x0 : Nat} {x1 : Int32} (h : (qCI E d i_X6_nodeOf [.int x1] G fun v2 G1 => (if ¬ v2 = 0 then (qFR E G1 x0 6 2 fun v3 => (rcv E G1 v3 4 = true ∧ (qCR E d i_X4_upToDate [.ref v3] G1 fun v5 G4 => (rcv E G4 v5 4 = true ∧ (qCI E d i_X4_labelCode [.ref v5, .int v2] G4 fun v7 G6 => Q (some (.int v7)) G6))))) else Q (some (.int (iv (-2)))) G1))) : Xr E d x_X6_labelAt 0 [some (.ref x0), some (.int x1), none] [] G Q := by
  refine r_iload_n dX6_labelAt_0 rfl ?_
  refine r_cI dX6_labelAt_1 rfl (invS_eq rfl (by decide) rfl rfl rfl rfl ⟨rfl, Nat.le_of_ble_eq_true rfl⟩) (qCI_imp (fun v2 G1 h => ?_) h)
  refine r_istore_n dX6_labelAt_4 rfl ?_
  refine r_iload_n dX6_labelAt_5 rfl ?_
  refine r_ifne (tgt := 12) dX6_labelAt_6 (by decide) (ite_imp (fun h => ?_) (fun h => ?_) h)
  · refine r_aload_n dX6_labelAt_12 rfl ?_
    refine r_getR dX6_labelAt_13 rfl (qFR_imp (fun v3 h => ?_) h)
    refine r_cR dX6_labelAt_16 rfl (invV_eq rfl rfl rfl rfl rfl rfl ⟨rfl, Nat.le_of_ble_eq_true rfl⟩ h.1) (qCR_imp (fun v5 G4 h => ?_) h.2)
    refine r_iload_n dX6_labelAt_19 rfl ?_
    refine r_cI dX6_labelAt_20 rfl (invV_eq rfl rfl rfl rfl rfl rfl ⟨rfl, Nat.le_of_ble_eq_true rfl⟩ h.1) (qCI_imp (fun v7 G6 h => ?_) h.2)
    exact r_iret dX6_labelAt_23 rfl ⟨rfl, h⟩
  · refine r_bipush dX6_labelAt_9 rfl ?_
    exact r_iret dX6_labelAt_11 rfl ⟨rfl, h⟩
theorem e_X6_labelAt {E : Ev} {d : Nat} {G : Hp} {Q : Po} {x0 : Nat} {x1 : Int32} (h : (qCI E d i_X6_nodeOf [.int x1] G fun v2 G1 => (if ¬ v2 = 0 then (qFR E G1 x0 6 2 fun v3 => (rcv E G1 v3 4 = true ∧ (qCR E d i_X4_upToDate [.ref v3] G1 fun v5 G4 => (rcv E G4 v5 4 = true ∧ (qCI E d i_X4_labelCode [.ref v5, .int v2] G4 fun v7 G6 => Q (some (.int v7)) G6))))) else Q (some (.int (iv (-2)))) G1))) : runs E (d + 1) i_X6_labelAt [.ref x0, .int x1] G Q := by
  rw [runs_eq (m := (yX6_labelAt, cX6_labelAt, 3, some (.int), 1, 6, false, false)) rfl (Nat.le_of_ble_eq_true rfl)]
  exact g_X6_labelAt_0 h
theorem dX6_expansionsAt_0 : decode cX6_expansionsAt 0 = .ok (.iload_n 1, 1) := by decide +kernel
theorem dX6_expansionsAt_1 : decode cX6_expansionsAt 1 = .ok (.invokestatic 170, 3) := by decide +kernel
theorem dX6_expansionsAt_4 : decode cX6_expansionsAt 4 = .ok (.istore_n 2, 1) := by decide +kernel
theorem dX6_expansionsAt_5 : decode cX6_expansionsAt 5 = .ok (.iload_n 2, 1) := by decide +kernel
theorem dX6_expansionsAt_6 : decode cX6_expansionsAt 6 = .ok (.ifCond .ne 6, 3) := by decide +kernel
theorem dX6_expansionsAt_9 : decode cX6_expansionsAt 9 = .ok (.bipush (-2), 2) := by decide +kernel
theorem dX6_expansionsAt_11 : decode cX6_expansionsAt 11 = .ok (.ireturn, 1) := by decide +kernel
theorem dX6_expansionsAt_12 : decode cX6_expansionsAt 12 = .ok (.aload_n 0, 1) := by decide +kernel
theorem dX6_expansionsAt_13 : decode cX6_expansionsAt 13 = .ok (.getfield 28, 3) := by decide +kernel
theorem dX6_expansionsAt_16 : decode cX6_expansionsAt 16 = .ok (.invokevirtual 173, 3) := by decide +kernel
theorem dX6_expansionsAt_19 : decode cX6_expansionsAt 19 = .ok (.iload_n 2, 1) := by decide +kernel
theorem dX6_expansionsAt_20 : decode cX6_expansionsAt 20 = .ok (.invokevirtual 180, 3) := by decide +kernel
theorem dX6_expansionsAt_23 : decode cX6_expansionsAt 23 = .ok (.ireturn, 1) := by decide +kernel
abbrev x_X6_expansionsAt : Cx := (6, cX6_expansionsAt, false, some (.int))
set_option maxRecDepth 10000 in
theorem g_X6_expansionsAt_0 {E : Ev} {d : Nat} {G : Hp} {Q : Po} {x0 : Nat} {x1 : Int32} (h : (qCI E d i_X6_nodeOf [.int x1] G fun v2 G1 => (if ¬ v2 = 0 then (qFR E G1 x0 6 2 fun v3 => (rcv E G1 v3 4 = true ∧ (qCR E d i_X4_upToDate [.ref v3] G1 fun v5 G4 => (rcv E G4 v5 4 = true ∧ (qCI E d i_X4_expansionsTo [.ref v5, .int v2] G4 fun v7 G6 => Q (some (.int v7)) G6))))) else Q (some (.int (iv (-2)))) G1))) : Xr E d x_X6_expansionsAt 0 [some (.ref x0), some (.int x1), none] [] G Q := by
  refine r_iload_n dX6_expansionsAt_0 rfl ?_
  refine r_cI dX6_expansionsAt_1 rfl (invS_eq rfl (by decide) rfl rfl rfl rfl ⟨rfl, Nat.le_of_ble_eq_true rfl⟩) (qCI_imp (fun v2 G1 h => ?_) h)
  refine r_istore_n dX6_expansionsAt_4 rfl ?_
  refine r_iload_n dX6_expansionsAt_5 rfl ?_
  refine r_ifne (tgt := 12) dX6_expansionsAt_6 (by decide) (ite_imp (fun h => ?_) (fun h => ?_) h)
  · refine r_aload_n dX6_expansionsAt_12 rfl ?_
    refine r_getR dX6_expansionsAt_13 rfl (qFR_imp (fun v3 h => ?_) h)
    refine r_cR dX6_expansionsAt_16 rfl (invV_eq rfl rfl rfl rfl rfl rfl ⟨rfl, Nat.le_of_ble_eq_true rfl⟩ h.1) (qCR_imp (fun v5 G4 h => ?_) h.2)
    refine r_iload_n dX6_expansionsAt_19 rfl ?_
    refine r_cI dX6_expansionsAt_20 rfl (invV_eq rfl rfl rfl rfl rfl rfl ⟨rfl, Nat.le_of_ble_eq_true rfl⟩ h.1) (qCI_imp (fun v7 G6 h => ?_) h.2)
    exact r_iret dX6_expansionsAt_23 rfl ⟨rfl, h⟩
  · refine r_bipush dX6_expansionsAt_9 rfl ?_
    exact r_iret dX6_expansionsAt_11 rfl ⟨rfl, h⟩
theorem e_X6_expansionsAt {E : Ev} {d : Nat} {G : Hp} {Q : Po} {x0 : Nat} {x1 : Int32} (h : (qCI E d i_X6_nodeOf [.int x1] G fun v2 G1 => (if ¬ v2 = 0 then (qFR E G1 x0 6 2 fun v3 => (rcv E G1 v3 4 = true ∧ (qCR E d i_X4_upToDate [.ref v3] G1 fun v5 G4 => (rcv E G4 v5 4 = true ∧ (qCI E d i_X4_expansionsTo [.ref v5, .int v2] G4 fun v7 G6 => Q (some (.int v7)) G6))))) else Q (some (.int (iv (-2)))) G1))) : runs E (d + 1) i_X6_expansionsAt [.ref x0, .int x1] G Q := by
  rw [runs_eq (m := (yX6_expansionsAt, cX6_expansionsAt, 3, some (.int), 1, 6, false, false)) rfl (Nat.le_of_ble_eq_true rfl)]
  exact g_X6_expansionsAt_0 h
theorem dX6_stateAt_0 : decode cX6_stateAt 0 = .ok (.iload_n 1, 1) := by decide +kernel
theorem dX6_stateAt_1 : decode cX6_stateAt 1 = .ok (.invokestatic 170, 3) := by decide +kernel
theorem dX6_stateAt_4 : decode cX6_stateAt 4 = .ok (.istore_n 2, 1) := by decide +kernel
theorem dX6_stateAt_5 : decode cX6_stateAt 5 = .ok (.iload_n 2, 1) := by decide +kernel
theorem dX6_stateAt_6 : decode cX6_stateAt 6 = .ok (.ifCond .ne 6, 3) := by decide +kernel
theorem dX6_stateAt_9 : decode cX6_stateAt 9 = .ok (.bipush (-2), 2) := by decide +kernel
theorem dX6_stateAt_11 : decode cX6_stateAt 11 = .ok (.ireturn, 1) := by decide +kernel
theorem dX6_stateAt_12 : decode cX6_stateAt 12 = .ok (.aload_n 0, 1) := by decide +kernel
theorem dX6_stateAt_13 : decode cX6_stateAt 13 = .ok (.getfield 28, 3) := by decide +kernel
theorem dX6_stateAt_16 : decode cX6_stateAt 16 = .ok (.invokevirtual 173, 3) := by decide +kernel
theorem dX6_stateAt_19 : decode cX6_stateAt 19 = .ok (.iload_n 2, 1) := by decide +kernel
theorem dX6_stateAt_20 : decode cX6_stateAt 20 = .ok (.invokevirtual 183, 3) := by decide +kernel
theorem dX6_stateAt_23 : decode cX6_stateAt 23 = .ok (.ireturn, 1) := by decide +kernel
abbrev x_X6_stateAt : Cx := (6, cX6_stateAt, false, some (.int))
set_option maxRecDepth 10000 in
theorem g_X6_stateAt_0 {E : Ev} {d : Nat} {G : Hp} {Q : Po} {x0 : Nat} {x1 : Int32} (h : (qCI E d i_X6_nodeOf [.int x1] G fun v2 G1 => (if ¬ v2 = 0 then (qFR E G1 x0 6 2 fun v3 => (rcv E G1 v3 4 = true ∧ (qCR E d i_X4_upToDate [.ref v3] G1 fun v5 G4 => (rcv E G4 v5 4 = true ∧ (qCI E d i_X4_stateOf [.ref v5, .int v2] G4 fun v7 G6 => Q (some (.int v7)) G6))))) else Q (some (.int (iv (-2)))) G1))) : Xr E d x_X6_stateAt 0 [some (.ref x0), some (.int x1), none] [] G Q := by
  refine r_iload_n dX6_stateAt_0 rfl ?_
  refine r_cI dX6_stateAt_1 rfl (invS_eq rfl (by decide) rfl rfl rfl rfl ⟨rfl, Nat.le_of_ble_eq_true rfl⟩) (qCI_imp (fun v2 G1 h => ?_) h)
  refine r_istore_n dX6_stateAt_4 rfl ?_
  refine r_iload_n dX6_stateAt_5 rfl ?_
  refine r_ifne (tgt := 12) dX6_stateAt_6 (by decide) (ite_imp (fun h => ?_) (fun h => ?_) h)
  · refine r_aload_n dX6_stateAt_12 rfl ?_
    refine r_getR dX6_stateAt_13 rfl (qFR_imp (fun v3 h => ?_) h)
    refine r_cR dX6_stateAt_16 rfl (invV_eq rfl rfl rfl rfl rfl rfl ⟨rfl, Nat.le_of_ble_eq_true rfl⟩ h.1) (qCR_imp (fun v5 G4 h => ?_) h.2)
    refine r_iload_n dX6_stateAt_19 rfl ?_
    refine r_cI dX6_stateAt_20 rfl (invV_eq rfl rfl rfl rfl rfl rfl ⟨rfl, Nat.le_of_ble_eq_true rfl⟩ h.1) (qCI_imp (fun v7 G6 h => ?_) h.2)
    exact r_iret dX6_stateAt_23 rfl ⟨rfl, h⟩
  · refine r_bipush dX6_stateAt_9 rfl ?_
    exact r_iret dX6_stateAt_11 rfl ⟨rfl, h⟩
theorem e_X6_stateAt {E : Ev} {d : Nat} {G : Hp} {Q : Po} {x0 : Nat} {x1 : Int32} (h : (qCI E d i_X6_nodeOf [.int x1] G fun v2 G1 => (if ¬ v2 = 0 then (qFR E G1 x0 6 2 fun v3 => (rcv E G1 v3 4 = true ∧ (qCR E d i_X4_upToDate [.ref v3] G1 fun v5 G4 => (rcv E G4 v5 4 = true ∧ (qCI E d i_X4_stateOf [.ref v5, .int v2] G4 fun v7 G6 => Q (some (.int v7)) G6))))) else Q (some (.int (iv (-2)))) G1))) : runs E (d + 1) i_X6_stateAt [.ref x0, .int x1] G Q := by
  rw [runs_eq (m := (yX6_stateAt, cX6_stateAt, 3, some (.int), 1, 6, false, false)) rfl (Nat.le_of_ble_eq_true rfl)]
  exact g_X6_stateAt_0 h
theorem dX6_nodesAtDepth_0 : decode cX6_nodesAtDepth 0 = .ok (.iload_n 1, 1) := by decide +kernel
theorem dX6_nodesAtDepth_1 : decode cX6_nodesAtDepth 1 = .ok (.invokestatic 186, 3) := by decide +kernel
theorem dX6_nodesAtDepth_4 : decode cX6_nodesAtDepth 4 = .ok (.ifCond .eq 17, 3) := by decide +kernel
theorem dX6_nodesAtDepth_7 : decode cX6_nodesAtDepth 7 = .ok (.aload_n 0, 1) := by decide +kernel
theorem dX6_nodesAtDepth_8 : decode cX6_nodesAtDepth 8 = .ok (.getfield 28, 3) := by decide +kernel
theorem dX6_nodesAtDepth_11 : decode cX6_nodesAtDepth 11 = .ok (.invokevirtual 173, 3) := by decide +kernel
theorem dX6_nodesAtDepth_14 : decode cX6_nodesAtDepth 14 = .ok (.iload_n 1, 1) := by decide +kernel
theorem dX6_nodesAtDepth_15 : decode cX6_nodesAtDepth 15 = .ok (.invokevirtual 189, 3) := by decide +kernel
theorem dX6_nodesAtDepth_18 : decode cX6_nodesAtDepth 18 = .ok (.goto 5, 3) := by decide +kernel
theorem dX6_nodesAtDepth_21 : decode cX6_nodesAtDepth 21 = .ok (.bipush (-2), 2) := by decide +kernel
theorem dX6_nodesAtDepth_23 : decode cX6_nodesAtDepth 23 = .ok (.ireturn, 1) := by decide +kernel
abbrev x_X6_nodesAtDepth : Cx := (6, cX6_nodesAtDepth, false, some (.int))
set_option maxRecDepth 10000 in
theorem g_X6_nodesAtDepth_0 {E : Ev} {d : Nat} {G : Hp} {Q : Po} {x0 : Nat} {x1 : Int32} (h : (qCI E d i_X6_isDepth [.int x1] G fun v2 G1 => (if v2 = 0 then Q (some (.int (iv (-2)))) G1 else (qFR E G1 x0 6 2 fun v3 => (rcv E G1 v3 4 = true ∧ (qCR E d i_X4_upToDate [.ref v3] G1 fun v5 G4 => (rcv E G4 v5 4 = true ∧ (qCI E d i_X4_countAt [.ref v5, .int x1] G4 fun v7 G6 => Q (some (.int v7)) G6)))))))) : Xr E d x_X6_nodesAtDepth 0 [some (.ref x0), some (.int x1)] [] G Q := by
  refine r_iload_n dX6_nodesAtDepth_0 rfl ?_
  refine r_cI dX6_nodesAtDepth_1 rfl (invS_eq rfl (by decide) rfl rfl rfl rfl ⟨rfl, Nat.le_of_ble_eq_true rfl⟩) (qCI_imp (fun v2 G1 h => ?_) h)
  refine r_ifeq (tgt := 21) dX6_nodesAtDepth_4 (by decide) (ite_imp (fun h => ?_) (fun h => ?_) h)
  · refine r_bipush dX6_nodesAtDepth_21 rfl ?_
    exact r_iret dX6_nodesAtDepth_23 rfl ⟨rfl, h⟩
  · refine r_aload_n dX6_nodesAtDepth_7 rfl ?_
    refine r_getR dX6_nodesAtDepth_8 rfl (qFR_imp (fun v3 h => ?_) h)
    refine r_cR dX6_nodesAtDepth_11 rfl (invV_eq rfl rfl rfl rfl rfl rfl ⟨rfl, Nat.le_of_ble_eq_true rfl⟩ h.1) (qCR_imp (fun v5 G4 h => ?_) h.2)
    refine r_iload_n dX6_nodesAtDepth_14 rfl ?_
    refine r_cI dX6_nodesAtDepth_15 rfl (invV_eq rfl rfl rfl rfl rfl rfl ⟨rfl, Nat.le_of_ble_eq_true rfl⟩ h.1) (qCI_imp (fun v7 G6 h => ?_) h.2)
    refine r_goto (tgt := 23) dX6_nodesAtDepth_18 (by decide) ?_
    exact r_iret dX6_nodesAtDepth_23 rfl ⟨rfl, h⟩
theorem e_X6_nodesAtDepth {E : Ev} {d : Nat} {G : Hp} {Q : Po} {x0 : Nat} {x1 : Int32} (h : (qCI E d i_X6_isDepth [.int x1] G fun v2 G1 => (if v2 = 0 then Q (some (.int (iv (-2)))) G1 else (qFR E G1 x0 6 2 fun v3 => (rcv E G1 v3 4 = true ∧ (qCR E d i_X4_upToDate [.ref v3] G1 fun v5 G4 => (rcv E G4 v5 4 = true ∧ (qCI E d i_X4_countAt [.ref v5, .int x1] G4 fun v7 G6 => Q (some (.int v7)) G6)))))))) : runs E (d + 1) i_X6_nodesAtDepth [.ref x0, .int x1] G Q := by
  rw [runs_eq (m := (yX6_nodesAtDepth, cX6_nodesAtDepth, 2, some (.int), 1, 6, false, false)) rfl (Nat.le_of_ble_eq_true rfl)]
  exact g_X6_nodesAtDepth_0 h
theorem dX6_wrongBranch_0 : decode cX6_wrongBranch 0 = .ok (.iload_n 1, 1) := by decide +kernel
theorem dX6_wrongBranch_1 : decode cX6_wrongBranch 1 = .ok (.invokestatic 186, 3) := by decide +kernel
theorem dX6_wrongBranch_4 : decode cX6_wrongBranch 4 = .ok (.ifCond .ne 6, 3) := by decide +kernel
theorem dX6_wrongBranch_7 : decode cX6_wrongBranch 7 = .ok (.bipush (-2), 2) := by decide +kernel
theorem dX6_wrongBranch_9 : decode cX6_wrongBranch 9 = .ok (.ireturn, 1) := by decide +kernel
theorem dX6_wrongBranch_10 : decode cX6_wrongBranch 10 = .ok (.aload_n 0, 1) := by decide +kernel
theorem dX6_wrongBranch_11 : decode cX6_wrongBranch 11 = .ok (.getfield 28, 3) := by decide +kernel
theorem dX6_wrongBranch_14 : decode cX6_wrongBranch 14 = .ok (.invokevirtual 173, 3) := by decide +kernel
theorem dX6_wrongBranch_17 : decode cX6_wrongBranch 17 = .ok (.iload_n 1, 1) := by decide +kernel
theorem dX6_wrongBranch_18 : decode cX6_wrongBranch 18 = .ok (.invokevirtual 192, 3) := by decide +kernel
theorem dX6_wrongBranch_21 : decode cX6_wrongBranch 21 = .ok (.istore_n 2, 1) := by decide +kernel
theorem dX6_wrongBranch_22 : decode cX6_wrongBranch 22 = .ok (.iload_n 2, 1) := by decide +kernel
theorem dX6_wrongBranch_23 : decode cX6_wrongBranch 23 = .ok (.ifCond .ne 8, 3) := by decide +kernel
theorem dX6_wrongBranch_26 : decode cX6_wrongBranch 26 = .ok (.bipush (-9), 2) := by decide +kernel
theorem dX6_wrongBranch_28 : decode cX6_wrongBranch 28 = .ok (.goto 7, 3) := by decide +kernel
theorem dX6_wrongBranch_31 : decode cX6_wrongBranch 31 = .ok (.iload_n 2, 1) := by decide +kernel
theorem dX6_wrongBranch_32 : decode cX6_wrongBranch 32 = .ok (.invokestatic 195, 3) := by decide +kernel
theorem dX6_wrongBranch_35 : decode cX6_wrongBranch 35 = .ok (.ireturn, 1) := by decide +kernel
abbrev x_X6_wrongBranch : Cx := (6, cX6_wrongBranch, false, some (.int))
set_option maxRecDepth 10000 in
theorem g_X6_wrongBranch_0 {E : Ev} {d : Nat} {G : Hp} {Q : Po} {x0 : Nat} {x1 : Int32} (h : (qCI E d i_X6_isDepth [.int x1] G fun v2 G1 => (if ¬ v2 = 0 then (qFR E G1 x0 6 2 fun v3 => (rcv E G1 v3 4 = true ∧ (qCR E d i_X4_upToDate [.ref v3] G1 fun v5 G4 => (rcv E G4 v5 4 = true ∧ (qCI E d i_X4_firstWrong [.ref v5, .int x1] G4 fun v7 G6 => (if ¬ v7 = 0 then (qCI E d i_X6_pathOf [.int v7] G6 fun v9 G8 => Q (some (.int v9)) G8) else Q (some (.int (iv (-9)))) G6)))))) else Q (some (.int (iv (-2)))) G1))) : Xr E d x_X6_wrongBranch 0 [some (.ref x0), some (.int x1), none] [] G Q := by
  refine r_iload_n dX6_wrongBranch_0 rfl ?_
  refine r_cI dX6_wrongBranch_1 rfl (invS_eq rfl (by decide) rfl rfl rfl rfl ⟨rfl, Nat.le_of_ble_eq_true rfl⟩) (qCI_imp (fun v2 G1 h => ?_) h)
  refine r_ifne (tgt := 10) dX6_wrongBranch_4 (by decide) (ite_imp (fun h => ?_) (fun h => ?_) h)
  · refine r_aload_n dX6_wrongBranch_10 rfl ?_
    refine r_getR dX6_wrongBranch_11 rfl (qFR_imp (fun v3 h => ?_) h)
    refine r_cR dX6_wrongBranch_14 rfl (invV_eq rfl rfl rfl rfl rfl rfl ⟨rfl, Nat.le_of_ble_eq_true rfl⟩ h.1) (qCR_imp (fun v5 G4 h => ?_) h.2)
    refine r_iload_n dX6_wrongBranch_17 rfl ?_
    refine r_cI dX6_wrongBranch_18 rfl (invV_eq rfl rfl rfl rfl rfl rfl ⟨rfl, Nat.le_of_ble_eq_true rfl⟩ h.1) (qCI_imp (fun v7 G6 h => ?_) h.2)
    refine r_istore_n dX6_wrongBranch_21 rfl ?_
    refine r_iload_n dX6_wrongBranch_22 rfl ?_
    refine r_ifne (tgt := 31) dX6_wrongBranch_23 (by decide) (ite_imp (fun h => ?_) (fun h => ?_) h)
    · refine r_iload_n dX6_wrongBranch_31 rfl ?_
      refine r_cI dX6_wrongBranch_32 rfl (invS_eq rfl (by decide) rfl rfl rfl rfl ⟨rfl, Nat.le_of_ble_eq_true rfl⟩) (qCI_imp (fun v9 G8 h => ?_) h)
      exact r_iret dX6_wrongBranch_35 rfl ⟨rfl, h⟩
    · refine r_bipush dX6_wrongBranch_26 rfl ?_
      refine r_goto (tgt := 35) dX6_wrongBranch_28 (by decide) ?_
      exact r_iret dX6_wrongBranch_35 rfl ⟨rfl, h⟩
  · refine r_bipush dX6_wrongBranch_7 rfl ?_
    exact r_iret dX6_wrongBranch_9 rfl ⟨rfl, h⟩
theorem e_X6_wrongBranch {E : Ev} {d : Nat} {G : Hp} {Q : Po} {x0 : Nat} {x1 : Int32} (h : (qCI E d i_X6_isDepth [.int x1] G fun v2 G1 => (if ¬ v2 = 0 then (qFR E G1 x0 6 2 fun v3 => (rcv E G1 v3 4 = true ∧ (qCR E d i_X4_upToDate [.ref v3] G1 fun v5 G4 => (rcv E G4 v5 4 = true ∧ (qCI E d i_X4_firstWrong [.ref v5, .int x1] G4 fun v7 G6 => (if ¬ v7 = 0 then (qCI E d i_X6_pathOf [.int v7] G6 fun v9 G8 => Q (some (.int v9)) G8) else Q (some (.int (iv (-9)))) G6)))))) else Q (some (.int (iv (-2)))) G1))) : runs E (d + 1) i_X6_wrongBranch [.ref x0, .int x1] G Q := by
  rw [runs_eq (m := (yX6_wrongBranch, cX6_wrongBranch, 3, some (.int), 1, 6, false, false)) rfl (Nat.le_of_ble_eq_true rfl)]
  exact g_X6_wrongBranch_0 h
theorem dX6_accepts_0 : decode cX6_accepts 0 = .ok (.aload_n 0, 1) := by decide +kernel
theorem dX6_accepts_1 : decode cX6_accepts 1 = .ok (.getfield 35, 3) := by decide +kernel
theorem dX6_accepts_4 : decode cX6_accepts 4 = .ok (.invokevirtual 198, 3) := by decide +kernel
theorem dX6_accepts_7 : decode cX6_accepts 7 = .ok (.invokevirtual 201, 3) := by decide +kernel
theorem dX6_accepts_10 : decode cX6_accepts 10 = .ok (.ireturn, 1) := by decide +kernel
abbrev x_X6_accepts : Cx := (6, cX6_accepts, false, some (.int))
set_option maxRecDepth 10000 in
theorem g_X6_accepts_0 {E : Ev} {d : Nat} {G : Hp} {Q : Po} {x0 : Nat} (h : (qFR E G x0 6 3 fun v1 => (rcv E G v1 5 = true ∧ (qCR E d i_X5_upToDate [.ref v1] G fun v3 G2 => (rcv E G2 v3 5 = true ∧ (qCI E d i_X5_acceptance [.ref v3] G2 fun v5 G4 => Q (some (.int v5)) G4)))))) : Xr E d x_X6_accepts 0 [some (.ref x0)] [] G Q := by
  refine r_aload_n dX6_accepts_0 rfl ?_
  refine r_getR dX6_accepts_1 rfl (qFR_imp (fun v1 h => ?_) h)
  refine r_cR dX6_accepts_4 rfl (invV_eq rfl rfl rfl rfl rfl rfl ⟨rfl, Nat.le_of_ble_eq_true rfl⟩ h.1) (qCR_imp (fun v3 G2 h => ?_) h.2)
  refine r_cI dX6_accepts_7 rfl (invV_eq rfl rfl rfl rfl rfl rfl ⟨rfl, Nat.le_of_ble_eq_true rfl⟩ h.1) (qCI_imp (fun v5 G4 h => ?_) h.2)
  exact r_iret dX6_accepts_10 rfl ⟨rfl, h⟩
theorem e_X6_accepts {E : Ev} {d : Nat} {G : Hp} {Q : Po} {x0 : Nat} (h : (qFR E G x0 6 3 fun v1 => (rcv E G v1 5 = true ∧ (qCR E d i_X5_upToDate [.ref v1] G fun v3 G2 => (rcv E G2 v3 5 = true ∧ (qCI E d i_X5_acceptance [.ref v3] G2 fun v5 G4 => Q (some (.int v5)) G4)))))) : runs E (d + 1) i_X6_accepts [.ref x0] G Q := by
  rw [runs_eq (m := (yX6_accepts, cX6_accepts, 1, some (.int), 0, 6, false, false)) rfl (Nat.le_of_ble_eq_true rfl)]
  exact g_X6_accepts_0 h
theorem dX6_rounds_0 : decode cX6_rounds 0 = .ok (.aload_n 0, 1) := by decide +kernel
theorem dX6_rounds_1 : decode cX6_rounds 1 = .ok (.getfield 35, 3) := by decide +kernel
theorem dX6_rounds_4 : decode cX6_rounds 4 = .ok (.invokevirtual 198, 3) := by decide +kernel
theorem dX6_rounds_7 : decode cX6_rounds 7 = .ok (.invokevirtual 204, 3) := by decide +kernel
theorem dX6_rounds_10 : decode cX6_rounds 10 = .ok (.ireturn, 1) := by decide +kernel
abbrev x_X6_rounds : Cx := (6, cX6_rounds, false, some (.int))
set_option maxRecDepth 10000 in
theorem g_X6_rounds_0 {E : Ev} {d : Nat} {G : Hp} {Q : Po} {x0 : Nat} (h : (qFR E G x0 6 3 fun v1 => (rcv E G v1 5 = true ∧ (qCR E d i_X5_upToDate [.ref v1] G fun v3 G2 => (rcv E G2 v3 5 = true ∧ (qCI E d i_X5_roundCount [.ref v3] G2 fun v5 G4 => Q (some (.int v5)) G4)))))) : Xr E d x_X6_rounds 0 [some (.ref x0)] [] G Q := by
  refine r_aload_n dX6_rounds_0 rfl ?_
  refine r_getR dX6_rounds_1 rfl (qFR_imp (fun v1 h => ?_) h)
  refine r_cR dX6_rounds_4 rfl (invV_eq rfl rfl rfl rfl rfl rfl ⟨rfl, Nat.le_of_ble_eq_true rfl⟩ h.1) (qCR_imp (fun v3 G2 h => ?_) h.2)
  refine r_cI dX6_rounds_7 rfl (invV_eq rfl rfl rfl rfl rfl rfl ⟨rfl, Nat.le_of_ble_eq_true rfl⟩ h.1) (qCI_imp (fun v5 G4 h => ?_) h.2)
  exact r_iret dX6_rounds_10 rfl ⟨rfl, h⟩
theorem e_X6_rounds {E : Ev} {d : Nat} {G : Hp} {Q : Po} {x0 : Nat} (h : (qFR E G x0 6 3 fun v1 => (rcv E G v1 5 = true ∧ (qCR E d i_X5_upToDate [.ref v1] G fun v3 G2 => (rcv E G2 v3 5 = true ∧ (qCI E d i_X5_roundCount [.ref v3] G2 fun v5 G4 => Q (some (.int v5)) G4)))))) : runs E (d + 1) i_X6_rounds [.ref x0] G Q := by
  rw [runs_eq (m := (yX6_rounds, cX6_rounds, 1, some (.int), 0, 6, false, false)) rfl (Nat.le_of_ble_eq_true rfl)]
  exact g_X6_rounds_0 h
theorem dX6_typingCount_0 : decode cX6_typingCount 0 = .ok (.iload_n 1, 1) := by decide +kernel
theorem dX6_typingCount_1 : decode cX6_typingCount 1 = .ok (.invokestatic 96, 3) := by decide +kernel
theorem dX6_typingCount_4 : decode cX6_typingCount 4 = .ok (.ifCond .eq 17, 3) := by decide +kernel
theorem dX6_typingCount_7 : decode cX6_typingCount 7 = .ok (.aload_n 0, 1) := by decide +kernel
theorem dX6_typingCount_8 : decode cX6_typingCount 8 = .ok (.getfield 35, 3) := by decide +kernel
theorem dX6_typingCount_11 : decode cX6_typingCount 11 = .ok (.invokevirtual 198, 3) := by decide +kernel
theorem dX6_typingCount_14 : decode cX6_typingCount 14 = .ok (.iload_n 1, 1) := by decide +kernel
theorem dX6_typingCount_15 : decode cX6_typingCount 15 = .ok (.invokevirtual 207, 3) := by decide +kernel
theorem dX6_typingCount_18 : decode cX6_typingCount 18 = .ok (.goto 4, 3) := by decide +kernel
theorem dX6_typingCount_21 : decode cX6_typingCount 21 = .ok (.iconst (-1), 1) := by decide +kernel
theorem dX6_typingCount_22 : decode cX6_typingCount 22 = .ok (.ireturn, 1) := by decide +kernel
abbrev x_X6_typingCount : Cx := (6, cX6_typingCount, false, some (.int))
set_option maxRecDepth 10000 in
theorem g_X6_typingCount_0 {E : Ev} {d : Nat} {G : Hp} {Q : Po} {x0 : Nat} {x1 : Int32} (h : (qCI E d i_X6_isNonterminal [.int x1] G fun v2 G1 => (if v2 = 0 then Q (some (.int (iv (-1)))) G1 else (qFR E G1 x0 6 3 fun v3 => (rcv E G1 v3 5 = true ∧ (qCR E d i_X5_upToDate [.ref v3] G1 fun v5 G4 => (rcv E G4 v5 5 = true ∧ (qCI E d i_X5_validCount [.ref v5, .int x1] G4 fun v7 G6 => Q (some (.int v7)) G6)))))))) : Xr E d x_X6_typingCount 0 [some (.ref x0), some (.int x1)] [] G Q := by
  refine r_iload_n dX6_typingCount_0 rfl ?_
  refine r_cI dX6_typingCount_1 rfl (invS_eq rfl (by decide) rfl rfl rfl rfl ⟨rfl, Nat.le_of_ble_eq_true rfl⟩) (qCI_imp (fun v2 G1 h => ?_) h)
  refine r_ifeq (tgt := 21) dX6_typingCount_4 (by decide) (ite_imp (fun h => ?_) (fun h => ?_) h)
  · refine r_iconst dX6_typingCount_21 ?_
    exact r_iret dX6_typingCount_22 rfl ⟨rfl, h⟩
  · refine r_aload_n dX6_typingCount_7 rfl ?_
    refine r_getR dX6_typingCount_8 rfl (qFR_imp (fun v3 h => ?_) h)
    refine r_cR dX6_typingCount_11 rfl (invV_eq rfl rfl rfl rfl rfl rfl ⟨rfl, Nat.le_of_ble_eq_true rfl⟩ h.1) (qCR_imp (fun v5 G4 h => ?_) h.2)
    refine r_iload_n dX6_typingCount_14 rfl ?_
    refine r_cI dX6_typingCount_15 rfl (invV_eq rfl rfl rfl rfl rfl rfl ⟨rfl, Nat.le_of_ble_eq_true rfl⟩ h.1) (qCI_imp (fun v7 G6 h => ?_) h.2)
    refine r_goto (tgt := 22) dX6_typingCount_18 (by decide) ?_
    exact r_iret dX6_typingCount_22 rfl ⟨rfl, h⟩
theorem e_X6_typingCount {E : Ev} {d : Nat} {G : Hp} {Q : Po} {x0 : Nat} {x1 : Int32} (h : (qCI E d i_X6_isNonterminal [.int x1] G fun v2 G1 => (if v2 = 0 then Q (some (.int (iv (-1)))) G1 else (qFR E G1 x0 6 3 fun v3 => (rcv E G1 v3 5 = true ∧ (qCR E d i_X5_upToDate [.ref v3] G1 fun v5 G4 => (rcv E G4 v5 5 = true ∧ (qCI E d i_X5_validCount [.ref v5, .int x1] G4 fun v7 G6 => Q (some (.int v7)) G6)))))))) : runs E (d + 1) i_X6_typingCount [.ref x0, .int x1] G Q := by
  rw [runs_eq (m := (yX6_typingCount, cX6_typingCount, 2, some (.int), 1, 6, false, false)) rfl (Nat.le_of_ble_eq_true rfl)]
  exact g_X6_typingCount_0 h
theorem dX6_isValid_0 : decode cX6_isValid 0 = .ok (.iload_n 1, 1) := by decide +kernel
theorem dX6_isValid_1 : decode cX6_isValid 1 = .ok (.invokestatic 96, 3) := by decide +kernel
theorem dX6_isValid_4 : decode cX6_isValid 4 = .ok (.ifCond .eq 10, 3) := by decide +kernel
theorem dX6_isValid_7 : decode cX6_isValid 7 = .ok (.iload_n 2, 1) := by decide +kernel
theorem dX6_isValid_8 : decode cX6_isValid 8 = .ok (.invokestatic 114, 3) := by decide +kernel
theorem dX6_isValid_11 : decode cX6_isValid 11 = .ok (.ifCond .ne 5, 3) := by decide +kernel
theorem dX6_isValid_14 : decode cX6_isValid 14 = .ok (.iconst (-1), 1) := by decide +kernel
theorem dX6_isValid_15 : decode cX6_isValid 15 = .ok (.ireturn, 1) := by decide +kernel
theorem dX6_isValid_16 : decode cX6_isValid 16 = .ok (.iload_n 1, 1) := by decide +kernel
theorem dX6_isValid_17 : decode cX6_isValid 17 = .ok (.iconst 1, 1) := by decide +kernel
theorem dX6_isValid_18 : decode cX6_isValid 18 = .ok (.iload_n 3, 1) := by decide +kernel
theorem dX6_isValid_19 : decode cX6_isValid 19 = .ok (.invokestatic 210, 3) := by decide +kernel
theorem dX6_isValid_22 : decode cX6_isValid 22 = .ok (.ifCond .eq 13, 3) := by decide +kernel
theorem dX6_isValid_25 : decode cX6_isValid 25 = .ok (.iload_n 1, 1) := by decide +kernel
theorem dX6_isValid_26 : decode cX6_isValid 26 = .ok (.iconst 2, 1) := by decide +kernel
theorem dX6_isValid_27 : decode cX6_isValid 27 = .ok (.iload 4, 2) := by decide +kernel
theorem dX6_isValid_29 : decode cX6_isValid 29 = .ok (.invokestatic 210, 3) := by decide +kernel
theorem dX6_isValid_32 : decode cX6_isValid 32 = .ok (.ifCond .ne 6, 3) := by decide +kernel
theorem dX6_isValid_35 : decode cX6_isValid 35 = .ok (.bipush (-2), 2) := by decide +kernel
theorem dX6_isValid_37 : decode cX6_isValid 37 = .ok (.ireturn, 1) := by decide +kernel
theorem dX6_isValid_38 : decode cX6_isValid 38 = .ok (.aload_n 0, 1) := by decide +kernel
theorem dX6_isValid_39 : decode cX6_isValid 39 = .ok (.getfield 35, 3) := by decide +kernel
theorem dX6_isValid_42 : decode cX6_isValid 42 = .ok (.invokevirtual 198, 3) := by decide +kernel
theorem dX6_isValid_45 : decode cX6_isValid 45 = .ok (.iload_n 1, 1) := by decide +kernel
theorem dX6_isValid_46 : decode cX6_isValid 46 = .ok (.iload_n 2, 1) := by decide +kernel
theorem dX6_isValid_47 : decode cX6_isValid 47 = .ok (.iload_n 3, 1) := by decide +kernel
theorem dX6_isValid_48 : decode cX6_isValid 48 = .ok (.iload 4, 2) := by decide +kernel
theorem dX6_isValid_50 : decode cX6_isValid 50 = .ok (.invokestatic 213, 3) := by decide +kernel
theorem dX6_isValid_53 : decode cX6_isValid 53 = .ok (.invokevirtual 217, 3) := by decide +kernel
theorem dX6_isValid_56 : decode cX6_isValid 56 = .ok (.ifCond .eq 7, 3) := by decide +kernel
theorem dX6_isValid_59 : decode cX6_isValid 59 = .ok (.iconst 1, 1) := by decide +kernel
theorem dX6_isValid_60 : decode cX6_isValid 60 = .ok (.goto 4, 3) := by decide +kernel
theorem dX6_isValid_63 : decode cX6_isValid 63 = .ok (.iconst 0, 1) := by decide +kernel
theorem dX6_isValid_64 : decode cX6_isValid 64 = .ok (.ireturn, 1) := by decide +kernel
abbrev x_X6_isValid : Cx := (6, cX6_isValid, false, some (.int))
set_option maxRecDepth 10000 in
theorem g_X6_isValid_0 {E : Ev} {d : Nat} {G : Hp} {Q : Po} {x0 : Nat} {x1 : Int32} {x2 : Int32} {x3 : Int32} {x4 : Int32} (h : (qCI E d i_X6_isNonterminal [.int x1] G fun v2 G1 => (if v2 = 0 then Q (some (.int (iv (-1)))) G1 else (qCI E d i_X6_isState [.int x2] G1 fun v4 G3 => (if ¬ v4 = 0 then (qCI E d i_X6_suitsParameter [.int x1, .int ((iv 1)), .int x3] G3 fun v6 G5 => (if v6 = 0 then Q (some (.int (iv (-2)))) G5 else (qCI E d i_X6_suitsParameter [.int x1, .int ((iv 2)), .int x4] G5 fun v8 G7 => (if ¬ v8 = 0 then (qFR E G7 x0 6 3 fun v9 => (rcv E G7 v9 5 = true ∧ (qCR E d i_X5_upToDate [.ref v9] G7 fun v11 G10 => (qCI E d i_X6_setsOf [.int x3, .int x4] G10 fun v13 G12 => (rcv E G12 v11 5 = true ∧ (qCI E d i_X5_holds [.ref v11, .int x1, .int x2, .int v13] G12 fun v15 G14 => (if v15 = 0 then Q (some (.int (iv 0))) G14 else Q (some (.int (iv 1))) G14))))))) else Q (some (.int (iv (-2)))) G7)))) else Q (some (.int (iv (-1)))) G3))))) : Xr E d x_X6_isValid 0 [some (.ref x0), some (.int x1), some (.int x2), some (.int x3), some (.int x4)] [] G Q := by
  refine r_iload_n dX6_isValid_0 rfl ?_
  refine r_cI dX6_isValid_1 rfl (invS_eq rfl (by decide) rfl rfl rfl rfl ⟨rfl, Nat.le_of_ble_eq_true rfl⟩) (qCI_imp (fun v2 G1 h => ?_) h)
  refine r_ifeq (tgt := 14) dX6_isValid_4 (by decide) (ite_imp (fun h => ?_) (fun h => ?_) h)
  · refine r_iconst dX6_isValid_14 ?_
    exact r_iret dX6_isValid_15 rfl ⟨rfl, h⟩
  · refine r_iload_n dX6_isValid_7 rfl ?_
    refine r_cI dX6_isValid_8 rfl (invS_eq rfl (by decide) rfl rfl rfl rfl ⟨rfl, Nat.le_of_ble_eq_true rfl⟩) (qCI_imp (fun v4 G3 h => ?_) h)
    refine r_ifne (tgt := 16) dX6_isValid_11 (by decide) (ite_imp (fun h => ?_) (fun h => ?_) h)
    · refine r_iload_n dX6_isValid_16 rfl ?_
      refine r_iconst dX6_isValid_17 ?_
      refine r_iload_n dX6_isValid_18 rfl ?_
      refine r_cI dX6_isValid_19 rfl (invS_eq rfl (by decide) rfl rfl rfl rfl ⟨rfl, Nat.le_of_ble_eq_true rfl⟩) (qCI_imp (fun v6 G5 h => ?_) h)
      refine r_ifeq (tgt := 35) dX6_isValid_22 (by decide) (ite_imp (fun h => ?_) (fun h => ?_) h)
      · refine r_bipush dX6_isValid_35 rfl ?_
        exact r_iret dX6_isValid_37 rfl ⟨rfl, h⟩
      · refine r_iload_n dX6_isValid_25 rfl ?_
        refine r_iconst dX6_isValid_26 ?_
        refine r_iload dX6_isValid_27 rfl ?_
        refine r_cI dX6_isValid_29 rfl (invS_eq rfl (by decide) rfl rfl rfl rfl ⟨rfl, Nat.le_of_ble_eq_true rfl⟩) (qCI_imp (fun v8 G7 h => ?_) h)
        refine r_ifne (tgt := 38) dX6_isValid_32 (by decide) (ite_imp (fun h => ?_) (fun h => ?_) h)
        · refine r_aload_n dX6_isValid_38 rfl ?_
          refine r_getR dX6_isValid_39 rfl (qFR_imp (fun v9 h => ?_) h)
          refine r_cR dX6_isValid_42 rfl (invV_eq rfl rfl rfl rfl rfl rfl ⟨rfl, Nat.le_of_ble_eq_true rfl⟩ h.1) (qCR_imp (fun v11 G10 h => ?_) h.2)
          refine r_iload_n dX6_isValid_45 rfl ?_
          refine r_iload_n dX6_isValid_46 rfl ?_
          refine r_iload_n dX6_isValid_47 rfl ?_
          refine r_iload dX6_isValid_48 rfl ?_
          refine r_cI dX6_isValid_50 rfl (invS_eq rfl (by decide) rfl rfl rfl rfl ⟨rfl, Nat.le_of_ble_eq_true rfl⟩) (qCI_imp (fun v13 G12 h => ?_) h)
          refine r_cI dX6_isValid_53 rfl (invV_eq rfl rfl rfl rfl rfl rfl ⟨rfl, Nat.le_of_ble_eq_true rfl⟩ h.1) (qCI_imp (fun v15 G14 h => ?_) h.2)
          refine r_ifeq (tgt := 63) dX6_isValid_56 (by decide) (ite_imp (fun h => ?_) (fun h => ?_) h)
          · refine r_iconst dX6_isValid_63 ?_
            exact r_iret dX6_isValid_64 rfl ⟨rfl, h⟩
          · refine r_iconst dX6_isValid_59 ?_
            refine r_goto (tgt := 64) dX6_isValid_60 (by decide) ?_
            exact r_iret dX6_isValid_64 rfl ⟨rfl, h⟩
        · refine r_bipush dX6_isValid_35 rfl ?_
          exact r_iret dX6_isValid_37 rfl ⟨rfl, h⟩
    · refine r_iconst dX6_isValid_14 ?_
      exact r_iret dX6_isValid_15 rfl ⟨rfl, h⟩
theorem e_X6_isValid {E : Ev} {d : Nat} {G : Hp} {Q : Po} {x0 : Nat} {x1 : Int32} {x2 : Int32} {x3 : Int32} {x4 : Int32} (h : (qCI E d i_X6_isNonterminal [.int x1] G fun v2 G1 => (if v2 = 0 then Q (some (.int (iv (-1)))) G1 else (qCI E d i_X6_isState [.int x2] G1 fun v4 G3 => (if ¬ v4 = 0 then (qCI E d i_X6_suitsParameter [.int x1, .int ((iv 1)), .int x3] G3 fun v6 G5 => (if v6 = 0 then Q (some (.int (iv (-2)))) G5 else (qCI E d i_X6_suitsParameter [.int x1, .int ((iv 2)), .int x4] G5 fun v8 G7 => (if ¬ v8 = 0 then (qFR E G7 x0 6 3 fun v9 => (rcv E G7 v9 5 = true ∧ (qCR E d i_X5_upToDate [.ref v9] G7 fun v11 G10 => (qCI E d i_X6_setsOf [.int x3, .int x4] G10 fun v13 G12 => (rcv E G12 v11 5 = true ∧ (qCI E d i_X5_holds [.ref v11, .int x1, .int x2, .int v13] G12 fun v15 G14 => (if v15 = 0 then Q (some (.int (iv 0))) G14 else Q (some (.int (iv 1))) G14))))))) else Q (some (.int (iv (-2)))) G7)))) else Q (some (.int (iv (-1)))) G3))))) : runs E (d + 1) i_X6_isValid [.ref x0, .int x1, .int x2, .int x3, .int x4] G Q := by
  rw [runs_eq (m := (yX6_isValid, cX6_isValid, 5, some (.int), 4, 6, false, false)) rfl (Nat.le_of_ble_eq_true rfl)]
  exact g_X6_isValid_0 h
theorem dX6_demand_0 : decode cX6_demand 0 = .ok (.iload_n 1, 1) := by decide +kernel
theorem dX6_demand_1 : decode cX6_demand 1 = .ok (.invokestatic 96, 3) := by decide +kernel
theorem dX6_demand_4 : decode cX6_demand 4 = .ok (.ifCond .eq 10, 3) := by decide +kernel
theorem dX6_demand_7 : decode cX6_demand 7 = .ok (.iload_n 2, 1) := by decide +kernel
theorem dX6_demand_8 : decode cX6_demand 8 = .ok (.invokestatic 114, 3) := by decide +kernel
theorem dX6_demand_11 : decode cX6_demand 11 = .ok (.ifCond .ne 5, 3) := by decide +kernel
theorem dX6_demand_14 : decode cX6_demand 14 = .ok (.iconst (-1), 1) := by decide +kernel
theorem dX6_demand_15 : decode cX6_demand 15 = .ok (.ireturn, 1) := by decide +kernel
theorem dX6_demand_16 : decode cX6_demand 16 = .ok (.iload_n 3, 1) := by decide +kernel
theorem dX6_demand_17 : decode cX6_demand 17 = .ok (.iconst 1, 1) := by decide +kernel
theorem dX6_demand_18 : decode cX6_demand 18 = .ok (.if_icmp .lt 11, 3) := by decide +kernel
theorem dX6_demand_21 : decode cX6_demand 21 = .ok (.iload_n 3, 1) := by decide +kernel
theorem dX6_demand_22 : decode cX6_demand 22 = .ok (.iload_n 1, 1) := by decide +kernel
theorem dX6_demand_23 : decode cX6_demand 23 = .ok (.invokestatic 219, 3) := by decide +kernel
theorem dX6_demand_26 : decode cX6_demand 26 = .ok (.if_icmp .le 6, 3) := by decide +kernel
theorem dX6_demand_29 : decode cX6_demand 29 = .ok (.bipush (-2), 2) := by decide +kernel
theorem dX6_demand_31 : decode cX6_demand 31 = .ok (.ireturn, 1) := by decide +kernel
theorem dX6_demand_32 : decode cX6_demand 32 = .ok (.aload_n 0, 1) := by decide +kernel
theorem dX6_demand_33 : decode cX6_demand 33 = .ok (.getfield 35, 3) := by decide +kernel
theorem dX6_demand_36 : decode cX6_demand 36 = .ok (.invokevirtual 198, 3) := by decide +kernel
theorem dX6_demand_39 : decode cX6_demand 39 = .ok (.iload_n 1, 1) := by decide +kernel
theorem dX6_demand_40 : decode cX6_demand 40 = .ok (.iload_n 2, 1) := by decide +kernel
theorem dX6_demand_41 : decode cX6_demand 41 = .ok (.iload_n 3, 1) := by decide +kernel
theorem dX6_demand_42 : decode cX6_demand 42 = .ok (.invokevirtual 222, 3) := by decide +kernel
theorem dX6_demand_45 : decode cX6_demand 45 = .ok (.ireturn, 1) := by decide +kernel
abbrev x_X6_demand : Cx := (6, cX6_demand, false, some (.int))
set_option maxRecDepth 10000 in
theorem g_X6_demand_0 {E : Ev} {d : Nat} {G : Hp} {Q : Po} {x0 : Nat} {x1 : Int32} {x2 : Int32} {x3 : Int32} (h : (qCI E d i_X6_isNonterminal [.int x1] G fun v2 G1 => (if v2 = 0 then Q (some (.int (iv (-1)))) G1 else (qCI E d i_X6_isState [.int x2] G1 fun v4 G3 => (if ¬ v4 = 0 then (if x3 < (iv 1) then Q (some (.int (iv (-2)))) G3 else (qCI E d i_X6_arityOfNonterminal [.int x1] G3 fun v6 G5 => (if x3 ≤ v6 then (qFR E G5 x0 6 3 fun v7 => (rcv E G5 v7 5 = true ∧ (qCR E d i_X5_upToDate [.ref v7] G5 fun v9 G8 => (rcv E G8 v9 5 = true ∧ (qCI E d i_X5_commonSet [.ref v9, .int x1, .int x2, .int x3] G8 fun v11 G10 => Q (some (.int v11)) G10))))) else Q (some (.int (iv (-2)))) G5))) else Q (some (.int (iv (-1)))) G3))))) : Xr E d x_X6_demand 0 [some (.ref x0), some (.int x1), some (.int x2), some (.int x3)] [] G Q := by
  refine r_iload_n dX6_demand_0 rfl ?_
  refine r_cI dX6_demand_1 rfl (invS_eq rfl (by decide) rfl rfl rfl rfl ⟨rfl, Nat.le_of_ble_eq_true rfl⟩) (qCI_imp (fun v2 G1 h => ?_) h)
  refine r_ifeq (tgt := 14) dX6_demand_4 (by decide) (ite_imp (fun h => ?_) (fun h => ?_) h)
  · refine r_iconst dX6_demand_14 ?_
    exact r_iret dX6_demand_15 rfl ⟨rfl, h⟩
  · refine r_iload_n dX6_demand_7 rfl ?_
    refine r_cI dX6_demand_8 rfl (invS_eq rfl (by decide) rfl rfl rfl rfl ⟨rfl, Nat.le_of_ble_eq_true rfl⟩) (qCI_imp (fun v4 G3 h => ?_) h)
    refine r_ifne (tgt := 16) dX6_demand_11 (by decide) (ite_imp (fun h => ?_) (fun h => ?_) h)
    · refine r_iload_n dX6_demand_16 rfl ?_
      refine r_iconst dX6_demand_17 ?_
      refine r_clt (tgt := 29) dX6_demand_18 (by decide) (ite_imp (fun h => ?_) (fun h => ?_) h)
      · refine r_bipush dX6_demand_29 rfl ?_
        exact r_iret dX6_demand_31 rfl ⟨rfl, h⟩
      · refine r_iload_n dX6_demand_21 rfl ?_
        refine r_iload_n dX6_demand_22 rfl ?_
        refine r_cI dX6_demand_23 rfl (invS_eq rfl (by decide) rfl rfl rfl rfl ⟨rfl, Nat.le_of_ble_eq_true rfl⟩) (qCI_imp (fun v6 G5 h => ?_) h)
        refine r_cle (tgt := 32) dX6_demand_26 (by decide) (ite_imp (fun h => ?_) (fun h => ?_) h)
        · refine r_aload_n dX6_demand_32 rfl ?_
          refine r_getR dX6_demand_33 rfl (qFR_imp (fun v7 h => ?_) h)
          refine r_cR dX6_demand_36 rfl (invV_eq rfl rfl rfl rfl rfl rfl ⟨rfl, Nat.le_of_ble_eq_true rfl⟩ h.1) (qCR_imp (fun v9 G8 h => ?_) h.2)
          refine r_iload_n dX6_demand_39 rfl ?_
          refine r_iload_n dX6_demand_40 rfl ?_
          refine r_iload_n dX6_demand_41 rfl ?_
          refine r_cI dX6_demand_42 rfl (invV_eq rfl rfl rfl rfl rfl rfl ⟨rfl, Nat.le_of_ble_eq_true rfl⟩ h.1) (qCI_imp (fun v11 G10 h => ?_) h.2)
          exact r_iret dX6_demand_45 rfl ⟨rfl, h⟩
        · refine r_bipush dX6_demand_29 rfl ?_
          exact r_iret dX6_demand_31 rfl ⟨rfl, h⟩
    · refine r_iconst dX6_demand_14 ?_
      exact r_iret dX6_demand_15 rfl ⟨rfl, h⟩
theorem e_X6_demand {E : Ev} {d : Nat} {G : Hp} {Q : Po} {x0 : Nat} {x1 : Int32} {x2 : Int32} {x3 : Int32} (h : (qCI E d i_X6_isNonterminal [.int x1] G fun v2 G1 => (if v2 = 0 then Q (some (.int (iv (-1)))) G1 else (qCI E d i_X6_isState [.int x2] G1 fun v4 G3 => (if ¬ v4 = 0 then (if x3 < (iv 1) then Q (some (.int (iv (-2)))) G3 else (qCI E d i_X6_arityOfNonterminal [.int x1] G3 fun v6 G5 => (if x3 ≤ v6 then (qFR E G5 x0 6 3 fun v7 => (rcv E G5 v7 5 = true ∧ (qCR E d i_X5_upToDate [.ref v7] G5 fun v9 G8 => (rcv E G8 v9 5 = true ∧ (qCI E d i_X5_commonSet [.ref v9, .int x1, .int x2, .int x3] G8 fun v11 G10 => Q (some (.int v11)) G10))))) else Q (some (.int (iv (-2)))) G5))) else Q (some (.int (iv (-1)))) G3))))) : runs E (d + 1) i_X6_demand [.ref x0, .int x1, .int x2, .int x3] G Q := by
  rw [runs_eq (m := (yX6_demand, cX6_demand, 4, some (.int), 3, 6, false, false)) rfl (Nat.le_of_ble_eq_true rfl)]
  exact g_X6_demand_0 h
