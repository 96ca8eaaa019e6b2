/-! segments, by program (wip/whole/gen/seg.py) -/
theorem dX7_bodySymbol_0 : decode cX7_bodySymbol 0 = .ok (.iload_n 1, 1) := by decide +kernel
theorem dX7_bodySymbol_1 : decode cX7_bodySymbol 1 = .ok (.invokestatic 122, 3) := by decide +kernel
theorem dX7_bodySymbol_4 : decode cX7_bodySymbol 4 = .ok (.ifCond .eq 40, 3) := by decide +kernel
theorem dX7_bodySymbol_7 : decode cX7_bodySymbol 7 = .ok (.iload_n 2, 1) := by decide +kernel
theorem dX7_bodySymbol_8 : decode cX7_bodySymbol 8 = .ok (.i2l, 1) := by decide +kernel
theorem dX7_bodySymbol_9 : decode cX7_bodySymbol 9 = .ok (.lconst 0, 1) := by decide +kernel
theorem dX7_bodySymbol_10 : decode cX7_bodySymbol 10 = .ok (.aload_n 0, 1) := by decide +kernel
theorem dX7_bodySymbol_11 : decode cX7_bodySymbol 11 = .ok (.getfield 13, 3) := by decide +kernel
theorem dX7_bodySymbol_14 : decode cX7_bodySymbol 14 = .ok (.bipush 31, 2) := by decide +kernel
theorem dX7_bodySymbol_16 : decode cX7_bodySymbol 16 = .ok (.iload_n 1, 1) := by decide +kernel
theorem dX7_bodySymbol_17 : decode cX7_bodySymbol 17 = .ok (.imul, 1) := by decide +kernel
theorem dX7_bodySymbol_18 : decode cX7_bodySymbol 18 = .ok (.iaload, 1) := by decide +kernel
theorem dX7_bodySymbol_19 : decode cX7_bodySymbol 19 = .ok (.iconst 1, 1) := by decide +kernel
theorem dX7_bodySymbol_20 : decode cX7_bodySymbol 20 = .ok (.isub, 1) := by decide +kernel
theorem dX7_bodySymbol_21 : decode cX7_bodySymbol 21 = .ok (.i2l, 1) := by decide +kernel
theorem dX7_bodySymbol_22 : decode cX7_bodySymbol 22 = .ok (.invokestatic 55, 3) := by decide +kernel
theorem dX7_bodySymbol_25 : decode cX7_bodySymbol 25 = .ok (.ifCond .eq 19, 3) := by decide +kernel
theorem dX7_bodySymbol_28 : decode cX7_bodySymbol 28 = .ok (.aload_n 0, 1) := by decide +kernel
theorem dX7_bodySymbol_29 : decode cX7_bodySymbol 29 = .ok (.getfield 13, 3) := by decide +kernel
theorem dX7_bodySymbol_32 : decode cX7_bodySymbol 32 = .ok (.bipush 31, 2) := by decide +kernel
theorem dX7_bodySymbol_34 : decode cX7_bodySymbol 34 = .ok (.iload_n 1, 1) := by decide +kernel
theorem dX7_bodySymbol_35 : decode cX7_bodySymbol 35 = .ok (.imul, 1) := by decide +kernel
theorem dX7_bodySymbol_36 : decode cX7_bodySymbol 36 = .ok (.iconst 1, 1) := by decide +kernel
theorem dX7_bodySymbol_37 : decode cX7_bodySymbol 37 = .ok (.iadd, 1) := by decide +kernel
theorem dX7_bodySymbol_38 : decode cX7_bodySymbol 38 = .ok (.iload_n 2, 1) := by decide +kernel
theorem dX7_bodySymbol_39 : decode cX7_bodySymbol 39 = .ok (.iadd, 1) := by decide +kernel
theorem dX7_bodySymbol_40 : decode cX7_bodySymbol 40 = .ok (.iaload, 1) := by decide +kernel
theorem dX7_bodySymbol_41 : decode cX7_bodySymbol 41 = .ok (.goto 4, 3) := by decide +kernel
theorem dX7_bodySymbol_44 : decode cX7_bodySymbol 44 = .ok (.iconst (-1), 1) := by decide +kernel
theorem dX7_bodySymbol_45 : decode cX7_bodySymbol 45 = .ok (.ireturn, 1) := by decide +kernel
abbrev x_X7_bodySymbol : Cx := (7, cX7_bodySymbol, false, some (.int))
set_option maxRecDepth 10000 in
theorem g_X7_bodySymbol_0 {E : Ev} {d : Nat} {G : Hp} {Q : Po} {x0 : Nat} {x1 : Int32} {x2 : Int32} (h : (qCI E d i_X7_isNonterminal [.int x1] G fun v2 G1 => (if v2 = 0 then Q (some (.int (iv (-1)))) G1 else (qFR E G1 x0 7 2 fun v3 => (qIA 7 E G1 v3 ((iv 31) * x1) fun v4 => (qCI E d i_X7_in [.long (((x2).toInt64)), .long 0, .long ((((v4 - (iv 1))).toInt64))] G1 fun v6 G5 => (if v6 = 0 then Q (some (.int (iv (-1)))) G5 else (qFR E G5 x0 7 2 fun v7 => (qIA 7 E G5 v7 ((((iv 31) * x1) + (iv 1)) + x2) fun v8 => Q (some (.int v8)) G5))))))))) : Xr E d x_X7_bodySymbol 0 [some (.ref x0), some (.int x1), some (.int x2)] [] G Q := by
  refine r_iload_n dX7_bodySymbol_0 rfl ?_
  refine r_cI dX7_bodySymbol_1 rfl (invS_eq rfl (by decide) rfl rfl rfl rfl ⟨rfl, Nat.le_of_ble_eq_true rfl⟩) (qCI_imp (fun v2 G1 h => ?_) h)
  refine r_ifeq (tgt := 44) dX7_bodySymbol_4 (by decide) (ite_imp (fun h => ?_) (fun h => ?_) h)
  · refine r_iconst dX7_bodySymbol_44 ?_
    exact r_iret dX7_bodySymbol_45 rfl ⟨rfl, h⟩
  · refine r_iload_n dX7_bodySymbol_7 rfl ?_
    refine r_i2l dX7_bodySymbol_8 ?_
    refine r_lconst (v := 0) dX7_bodySymbol_9 rfl ?_
    refine r_aload_n dX7_bodySymbol_10 rfl ?_
    refine r_getR dX7_bodySymbol_11 rfl (qFR_imp (fun v3 h => ?_) h)
    refine r_bipush dX7_bodySymbol_14 rfl ?_
    refine r_iload_n dX7_bodySymbol_16 rfl ?_
    refine r_imul dX7_bodySymbol_17 ?_
    refine r_iald dX7_bodySymbol_18 (qIA_imp (fun v4 h => ?_) h)
    refine r_iconst dX7_bodySymbol_19 ?_
    refine r_isub dX7_bodySymbol_20 ?_
    refine r_i2l dX7_bodySymbol_21 ?_
    refine r_cI dX7_bodySymbol_22 rfl (invS_eq rfl (by decide) rfl rfl rfl rfl ⟨rfl, Nat.le_of_ble_eq_true rfl⟩) (qCI_imp (fun v6 G5 h => ?_) h)
    refine r_ifeq (tgt := 44) dX7_bodySymbol_25 (by decide) (ite_imp (fun h => ?_) (fun h => ?_) h)
    · refine r_iconst dX7_bodySymbol_44 ?_
      exact r_iret dX7_bodySymbol_45 rfl ⟨rfl, h⟩
    · refine r_aload_n dX7_bodySymbol_28 rfl ?_
      refine r_getR dX7_bodySymbol_29 rfl (qFR_imp (fun v7 h => ?_) h)
      refine r_bipush dX7_bodySymbol_32 rfl ?_
      refine r_iload_n dX7_bodySymbol_34 rfl ?_
      refine r_imul dX7_bodySymbol_35 ?_
      refine r_iconst dX7_bodySymbol_36 ?_
      refine r_iadd dX7_bodySymbol_37 ?_
      refine r_iload_n dX7_bodySymbol_38 rfl ?_
      refine r_iadd dX7_bodySymbol_39 ?_
      refine r_iald dX7_bodySymbol_40 (qIA_imp (fun v8 h => ?_) h)
      refine r_goto (tgt := 45) dX7_bodySymbol_41 (by decide) ?_
      exact r_iret dX7_bodySymbol_45 rfl ⟨rfl, h⟩
theorem e_X7_bodySymbol {E : Ev} {d : Nat} {G : Hp} {Q : Po} {x0 : Nat} {x1 : Int32} {x2 : Int32} (h : (qCI E d i_X7_isNonterminal [.int x1] G fun v2 G1 => (if v2 = 0 then Q (some (.int (iv (-1)))) G1 else (qFR E G1 x0 7 2 fun v3 => (qIA 7 E G1 v3 ((iv 31) * x1) fun v4 => (qCI E d i_X7_in [.long (((x2).toInt64)), .long 0, .long ((((v4 - (iv 1))).toInt64))] G1 fun v6 G5 => (if v6 = 0 then Q (some (.int (iv (-1)))) G5 else (qFR E G5 x0 7 2 fun v7 => (qIA 7 E G5 v7 ((((iv 31) * x1) + (iv 1)) + x2) fun v8 => Q (some (.int v8)) G5))))))))) : runs E (d + 1) i_X7_bodySymbol [.ref x0, .int x1, .int x2] G Q := by
  rw [runs_eq (m := (yX7_bodySymbol, cX7_bodySymbol, 3, some (.int), 2, 7, false, false)) rfl (Nat.le_of_ble_eq_true rfl)]
  exact g_X7_bodySymbol_0 h
theorem dX7_transition_0 : decode cX7_transition 0 = .ok (.iload_n 1, 1) := by decide +kernel
theorem dX7_transition_1 : decode cX7_transition 1 = .ok (.iload_n 2, 1) := by decide +kernel
theorem dX7_transition_2 : decode cX7_transition 2 = .ok (.invokestatic 126, 3) := by decide +kernel
theorem dX7_transition_5 : decode cX7_transition 5 = .ok (.ifCond .ne 5, 3) := by decide +kernel
theorem dX7_transition_8 : decode cX7_transition 8 = .ok (.iconst (-1), 1) := by decide +kernel
theorem dX7_transition_9 : decode cX7_transition 9 = .ok (.ireturn, 1) := by decide +kernel
theorem dX7_transition_10 : decode cX7_transition 10 = .ok (.iload_n 3, 1) := by decide +kernel
theorem dX7_transition_11 : decode cX7_transition 11 = .ok (.i2l, 1) := by decide +kernel
theorem dX7_transition_12 : decode cX7_transition 12 = .ok (.lconst 1, 1) := by decide +kernel
theorem dX7_transition_13 : decode cX7_transition 13 = .ok (.iload_n 2, 1) := by decide +kernel
theorem dX7_transition_14 : decode cX7_transition 14 = .ok (.invokestatic 67, 3) := by decide +kernel
theorem dX7_transition_17 : decode cX7_transition 17 = .ok (.i2l, 1) := by decide +kernel
theorem dX7_transition_18 : decode cX7_transition 18 = .ok (.invokestatic 55, 3) := by decide +kernel
theorem dX7_transition_21 : decode cX7_transition 21 = .ok (.ifCond .ne 6, 3) := by decide +kernel
theorem dX7_transition_24 : decode cX7_transition 24 = .ok (.bipush (-2), 2) := by decide +kernel
theorem dX7_transition_26 : decode cX7_transition 26 = .ok (.ireturn, 1) := by decide +kernel
theorem dX7_transition_27 : decode cX7_transition 27 = .ok (.aload_n 0, 1) := by decide +kernel
theorem dX7_transition_28 : decode cX7_transition 28 = .ok (.getfield 13, 3) := by decide +kernel
theorem dX7_transition_31 : decode cX7_transition 31 = .ok (.iload_n 1, 1) := by decide +kernel
theorem dX7_transition_32 : decode cX7_transition 32 = .ok (.iload_n 2, 1) := by decide +kernel
theorem dX7_transition_33 : decode cX7_transition 33 = .ok (.invokestatic 129, 3) := by decide +kernel
theorem dX7_transition_36 : decode cX7_transition 36 = .ok (.iaload, 1) := by decide +kernel
theorem dX7_transition_37 : decode cX7_transition 37 = .ok (.iconst 1, 1) := by decide +kernel
theorem dX7_transition_38 : decode cX7_transition 38 = .ok (.if_icmp .ne 18, 3) := by decide +kernel
theorem dX7_transition_41 : decode cX7_transition 41 = .ok (.aload_n 0, 1) := by decide +kernel
theorem dX7_transition_42 : decode cX7_transition 42 = .ok (.getfield 13, 3) := by decide +kernel
theorem dX7_transition_45 : decode cX7_transition 45 = .ok (.iload_n 1, 1) := by decide +kernel
theorem dX7_transition_46 : decode cX7_transition 46 = .ok (.iload_n 2, 1) := by decide +kernel
theorem dX7_transition_47 : decode cX7_transition 47 = .ok (.invokestatic 129, 3) := by decide +kernel
theorem dX7_transition_50 : decode cX7_transition 50 = .ok (.iload_n 3, 1) := by decide +kernel
theorem dX7_transition_51 : decode cX7_transition 51 = .ok (.iadd, 1) := by decide +kernel
theorem dX7_transition_52 : decode cX7_transition 52 = .ok (.iaload, 1) := by decide +kernel
theorem dX7_transition_53 : decode cX7_transition 53 = .ok (.goto 5, 3) := by decide +kernel
theorem dX7_transition_56 : decode cX7_transition 56 = .ok (.bipush (-9), 2) := by decide +kernel
theorem dX7_transition_58 : decode cX7_transition 58 = .ok (.ireturn, 1) := by decide +kernel
abbrev x_X7_transition : Cx := (7, cX7_transition, false, some (.int))
set_option maxRecDepth 10000 in
theorem g_X7_transition_0 {E : Ev} {d : Nat} {G : Hp} {Q : Po} {x0 : Nat} {x1 : Int32} {x2 : Int32} {x3 : Int32} (h : (qCI E d i_X7_isPair [.int x1, .int x2] G fun v2 G1 => (if ¬ v2 = 0 then (qCI E d i_X7_places [.int x2] G1 fun v4 G3 => (qCI E d i_X7_in [.long (((x3).toInt64)), .long 1, .long (((v4).toInt64))] G3 fun v6 G5 => (if ¬ v6 = 0 then (qFR E G5 x0 7 2 fun v7 => (qCI E d i_X7_stepAt [.int x1, .int x2] G5 fun v9 G8 => (qIA 7 E G8 v7 v9 fun v10 => (if ¬ v10 = (iv 1) then Q (some (.int (iv (-9)))) G8 else (qFR E G8 x0 7 2 fun v11 => (qCI E d i_X7_stepAt [.int x1, .int x2] G8 fun v13 G12 => (qIA 7 E G12 v11 (v13 + x3) fun v14 => Q (some (.int v14)) G12))))))) else Q (some (.int (iv (-2)))) G5))) else Q (some (.int (iv (-1)))) G1))) : Xr E d x_X7_transition 0 [some (.ref x0), some (.int x1), some (.int x2), some (.int x3)] [] G Q := by
  refine r_iload_n dX7_transition_0 rfl ?_
  refine r_iload_n dX7_transition_1 rfl ?_
  refine r_cI dX7_transition_2 rfl (invS_eq rfl (by decide) rfl rfl rfl rfl ⟨rfl, Nat.le_of_ble_eq_true rfl⟩) (qCI_imp (fun v2 G1 h => ?_) h)
  refine r_ifne (tgt := 10) dX7_transition_5 (by decide) (ite_imp (fun h => ?_) (fun h => ?_) h)
  · refine r_iload_n dX7_transition_10 rfl ?_
    refine r_i2l dX7_transition_11 ?_
    refine r_lconst (v := 1) dX7_transition_12 rfl ?_
    refine r_iload_n dX7_transition_13 rfl ?_
    refine r_cI dX7_transition_14 rfl (invS_eq rfl (by decide) rfl rfl rfl rfl ⟨rfl, Nat.le_of_ble_eq_true rfl⟩) (qCI_imp (fun v4 G3 h => ?_) h)
    refine r_i2l dX7_transition_17 ?_
    refine r_cI dX7_transition_18 rfl (invS_eq rfl (by decide) rfl rfl rfl rfl ⟨rfl, Nat.le_of_ble_eq_true rfl⟩) (qCI_imp (fun v6 G5 h => ?_) h)
    refine r_ifne (tgt := 27) dX7_transition_21 (by decide) (ite_imp (fun h => ?_) (fun h => ?_) h)
    · refine r_aload_n dX7_transition_27 rfl ?_
      refine r_getR dX7_transition_28 rfl (qFR_imp (fun v7 h => ?_) h)
      refine r_iload_n dX7_transition_31 rfl ?_
      refine r_iload_n dX7_transition_32 rfl ?_
      refine r_cI dX7_transition_33 rfl (invS_eq rfl (by decide) rfl rfl rfl rfl ⟨rfl, Nat.le_of_ble_eq_true rfl⟩) (qCI_imp (fun v9 G8 h => ?_) h)
      refine r_iald dX7_transition_36 (qIA_imp (fun v10 h => ?_) h)
      refine r_iconst dX7_transition_37 ?_
      refine r_cne (tgt := 56) dX7_transition_38 (by decide) (ite_imp (fun h => ?_) (fun h => ?_) h)
      · refine r_bipush dX7_transition_56 rfl ?_
        exact r_iret dX7_transition_58 rfl ⟨rfl, h⟩
      · refine r_aload_n dX7_transition_41 rfl ?_
        refine r_getR dX7_transition_42 rfl (qFR_imp (fun v11 h => ?_) h)
        refine r_iload_n dX7_transition_45 rfl ?_
        refine r_iload_n dX7_transition_46 rfl ?_
        refine r_cI dX7_transition_47 rfl (invS_eq rfl (by decide) rfl rfl rfl rfl ⟨rfl, Nat.le_of_ble_eq_true rfl⟩) (qCI_imp (fun v13 G12 h => ?_) h)
        refine r_iload_n dX7_transition_50 rfl ?_
        refine r_iadd dX7_transition_51 ?_
        refine r_iald dX7_transition_52 (qIA_imp (fun v14 h => ?_) h)
        refine r_goto (tgt := 58) dX7_transition_53 (by decide) ?_
        exact r_iret dX7_transition_58 rfl ⟨rfl, h⟩
    · refine r_bipush dX7_transition_24 rfl ?_
      exact r_iret dX7_transition_26 rfl ⟨rfl, h⟩
  · refine r_iconst dX7_transition_8 ?_
    exact r_iret dX7_transition_9 rfl ⟨rfl, h⟩
theorem e_X7_transition {E : Ev} {d : Nat} {G : Hp} {Q : Po} {x0 : Nat} {x1 : Int32} {x2 : Int32} {x3 : Int32} (h : (qCI E d i_X7_isPair [.int x1, .int x2] G fun v2 G1 => (if ¬ v2 = 0 then (qCI E d i_X7_places [.int x2] G1 fun v4 G3 => (qCI E d i_X7_in [.long (((x3).toInt64)), .long 1, .long (((v4).toInt64))] G3 fun v6 G5 => (if ¬ v6 = 0 then (qFR E G5 x0 7 2 fun v7 => (qCI E d i_X7_stepAt [.int x1, .int x2] G5 fun v9 G8 => (qIA 7 E G8 v7 v9 fun v10 => (if ¬ v10 = (iv 1) then Q (some (.int (iv (-9)))) G8 else (qFR E G8 x0 7 2 fun v11 => (qCI E d i_X7_stepAt [.int x1, .int x2] G8 fun v13 G12 => (qIA 7 E G12 v11 (v13 + x3) fun v14 => Q (some (.int v14)) G12))))))) else Q (some (.int (iv (-2)))) G5))) else Q (some (.int (iv (-1)))) G1))) : runs E (d + 1) i_X7_transition [.ref x0, .int x1, .int x2, .int x3] G Q := by
  rw [runs_eq (m := (yX7_transition, cX7_transition, 4, some (.int), 3, 7, false, false)) rfl (Nat.le_of_ble_eq_true rfl)]
  exact g_X7_transition_0 h
theorem dX7_hasTransition_0 : decode cX7_hasTransition 0 = .ok (.iload_n 1, 1) := by decide +kernel
theorem dX7_hasTransition_1 : decode cX7_hasTransition 1 = .ok (.iload_n 2, 1) := by decide +kernel
theorem dX7_hasTransition_2 : decode cX7_hasTransition 2 = .ok (.invokestatic 126, 3) := by decide +kernel
theorem dX7_hasTransition_5 : decode cX7_hasTransition 5 = .ok (.ifCond .eq 16, 3) := by decide +kernel
theorem dX7_hasTransition_8 : decode cX7_hasTransition 8 = .ok (.aload_n 0, 1) := by decide +kernel
theorem dX7_hasTransition_9 : decode cX7_hasTransition 9 = .ok (.getfield 13, 3) := by decide +kernel
theorem dX7_hasTransition_12 : decode cX7_hasTransition 12 = .ok (.iload_n 1, 1) := by decide +kernel
theorem dX7_hasTransition_13 : decode cX7_hasTransition 13 = .ok (.iload_n 2, 1) := by decide +kernel
theorem dX7_hasTransition_14 : decode cX7_hasTransition 14 = .ok (.invokestatic 129, 3) := by decide +kernel
theorem dX7_hasTransition_17 : decode cX7_hasTransition 17 = .ok (.iaload, 1) := by decide +kernel
theorem dX7_hasTransition_18 : decode cX7_hasTransition 18 = .ok (.goto 4, 3) := by decide +kernel
theorem dX7_hasTransition_21 : decode cX7_hasTransition 21 = .ok (.iconst (-1), 1) := by decide +kernel
theorem dX7_hasTransition_22 : decode cX7_hasTransition 22 = .ok (.ireturn, 1) := by decide +kernel
abbrev x_X7_hasTransition : Cx := (7, cX7_hasTransition, false, some (.int))
set_option maxRecDepth 10000 in
theorem g_X7_hasTransition_0 {E : Ev} {d : Nat} {G : Hp} {Q : Po} {x0 : Nat} {x1 : Int32} {x2 : Int32} (h : (qCI E d i_X7_isPair [.int x1, .int x2] G fun v2 G1 => (if v2 = 0 then Q (some (.int (iv (-1)))) G1 else (qFR E G1 x0 7 2 fun v3 => (qCI E d i_X7_stepAt [.int x1, .int x2] G1 fun v5 G4 => (qIA 7 E G4 v3 v5 fun v6 => Q (some (.int v6)) G4)))))) : Xr E d x_X7_hasTransition 0 [some (.ref x0), some (.int x1), some (.int x2)] [] G Q := by
  refine r_iload_n dX7_hasTransition_0 rfl ?_
  refine r_iload_n dX7_hasTransition_1 rfl ?_
  refine r_cI dX7_hasTransition_2 rfl (invS_eq rfl (by decide) rfl rfl rfl rfl ⟨rfl, Nat.le_of_ble_eq_true rfl⟩) (qCI_imp (fun v2 G1 h => ?_) h)
  refine r_ifeq (tgt := 21) dX7_hasTransition_5 (by decide) (ite_imp (fun h => ?_) (fun h => ?_) h)
  · refine r_iconst dX7_hasTransition_21 ?_
    exact r_iret dX7_hasTransition_22 rfl ⟨rfl, h⟩
  · refine r_aload_n dX7_hasTransition_8 rfl ?_
    refine r_getR dX7_hasTransition_9 rfl (qFR_imp (fun v3 h => ?_) h)
    refine r_iload_n dX7_hasTransition_12 rfl ?_
    refine r_iload_n dX7_hasTransition_13 rfl ?_
    refine r_cI dX7_hasTransition_14 rfl (invS_eq rfl (by decide) rfl rfl rfl rfl ⟨rfl, Nat.le_of_ble_eq_true rfl⟩) (qCI_imp (fun v5 G4 h => ?_) h)
    refine r_iald dX7_hasTransition_17 (qIA_imp (fun v6 h => ?_) h)
    refine r_goto (tgt := 22) dX7_hasTransition_18 (by decide) ?_
    exact r_iret dX7_hasTransition_22 rfl ⟨rfl, h⟩
theorem e_X7_hasTransition {E : Ev} {d : Nat} {G : Hp} {Q : Po} {x0 : Nat} {x1 : Int32} {x2 : Int32} (h : (qCI E d i_X7_isPair [.int x1, .int x2] G fun v2 G1 => (if v2 = 0 then Q (some (.int (iv (-1)))) G1 else (qFR E G1 x0 7 2 fun v3 => (qCI E d i_X7_stepAt [.int x1, .int x2] G1 fun v5 G4 => (qIA 7 E G4 v3 v5 fun v6 => Q (some (.int v6)) G4)))))) : runs E (d + 1) i_X7_hasTransition [.ref x0, .int x1, .int x2] G Q := by
  rw [runs_eq (m := (yX7_hasTransition, cX7_hasTransition, 3, some (.int), 2, 7, false, false)) rfl (Nat.le_of_ble_eq_true rfl)]
  exact g_X7_hasTransition_0 h
theorem dX7_reachable_0 : decode cX7_reachable 0 = .ok (.iconst 1, 1) := by decide +kernel
theorem dX7_reachable_1 : decode cX7_reachable 1 = .ok (.istore_n 1, 1) := by decide +kernel
theorem dX7_reachable_2 : decode cX7_reachable 2 = .ok (.iconst 0, 1) := by decide +kernel
theorem dX7_reachable_3 : decode cX7_reachable 3 = .ok (.istore_n 2, 1) := by decide +kernel
theorem dX7_reachable_4 : decode cX7_reachable 4 = .ok (.iload_n 2, 1) := by decide +kernel
theorem dX7_reachable_5 : decode cX7_reachable 5 = .ok (.iconst 4, 1) := by decide +kernel
theorem dX7_reachable_6 : decode cX7_reachable 6 = .ok (.if_icmp .ge 91, 3) := by decide +kernel
theorem dX7_reachable_9 : decode cX7_reachable 9 = .ok (.iconst 0, 1) := by decide +kernel
theorem dX7_reachable_10 : decode cX7_reachable 10 = .ok (.istore_n 3, 1) := by decide +kernel
theorem dX7_reachable_11 : decode cX7_reachable 11 = .ok (.iload_n 3, 1) := by decide +kernel
theorem dX7_reachable_12 : decode cX7_reachable 12 = .ok (.iconst 4, 1) := by decide +kernel
theorem dX7_reachable_13 : decode cX7_reachable 13 = .ok (.if_icmp .ge 78, 3) := by decide +kernel
theorem dX7_reachable_16 : decode cX7_reachable 16 = .ok (.iconst 0, 1) := by decide +kernel
theorem dX7_reachable_17 : decode cX7_reachable 17 = .ok (.istore 4, 2) := by decide +kernel
theorem dX7_reachable_19 : decode cX7_reachable 19 = .ok (.iload 4, 2) := by decide +kernel
theorem dX7_reachable_21 : decode cX7_reachable 21 = .ok (.aload_n 0, 1) := by decide +kernel
theorem dX7_reachable_22 : decode cX7_reachable 22 = .ok (.getfield 13, 3) := by decide +kernel
theorem dX7_reachable_25 : decode cX7_reachable 25 = .ok (.bipush 31, 2) := by decide +kernel
theorem dX7_reachable_27 : decode cX7_reachable 27 = .ok (.iload_n 3, 1) := by decide +kernel
theorem dX7_reachable_28 : decode cX7_reachable 28 = .ok (.imul, 1) := by decide +kernel
theorem dX7_reachable_29 : decode cX7_reachable 29 = .ok (.iaload, 1) := by decide +kernel
theorem dX7_reachable_30 : decode cX7_reachable 30 = .ok (.if_icmp .ge 55, 3) := by decide +kernel
theorem dX7_reachable_33 : decode cX7_reachable 33 = .ok (.iload_n 1, 1) := by decide +kernel
theorem dX7_reachable_34 : decode cX7_reachable 34 = .ok (.iload_n 3, 1) := by decide +kernel
theorem dX7_reachable_35 : decode cX7_reachable 35 = .ok (.ishr, 1) := by decide +kernel
theorem dX7_reachable_36 : decode cX7_reachable 36 = .ok (.iconst 1, 1) := by decide +kernel
theorem dX7_reachable_37 : decode cX7_reachable 37 = .ok (.iand, 1) := by decide +kernel
theorem dX7_reachable_38 : decode cX7_reachable 38 = .ok (.iconst 1, 1) := by decide +kernel
theorem dX7_reachable_39 : decode cX7_reachable 39 = .ok (.if_icmp .ne 46, 3) := by decide +kernel
theorem dX7_reachable_42 : decode cX7_reachable 42 = .ok (.aload_n 0, 1) := by decide +kernel
theorem dX7_reachable_43 : decode cX7_reachable 43 = .ok (.getfield 13, 3) := by decide +kernel
theorem dX7_reachable_46 : decode cX7_reachable 46 = .ok (.bipush 31, 2) := by decide +kernel
theorem dX7_reachable_48 : decode cX7_reachable 48 = .ok (.iload_n 3, 1) := by decide +kernel
theorem dX7_reachable_49 : decode cX7_reachable 49 = .ok (.imul, 1) := by decide +kernel
theorem dX7_reachable_50 : decode cX7_reachable 50 = .ok (.iconst 1, 1) := by decide +kernel
theorem dX7_reachable_51 : decode cX7_reachable 51 = .ok (.iadd, 1) := by decide +kernel
theorem dX7_reachable_52 : decode cX7_reachable 52 = .ok (.iload 4, 2) := by decide +kernel
theorem dX7_reachable_54 : decode cX7_reachable 54 = .ok (.iadd, 1) := by decide +kernel
theorem dX7_reachable_55 : decode cX7_reachable 55 = .ok (.iaload, 1) := by decide +kernel
theorem dX7_reachable_56 : decode cX7_reachable 56 = .ok (.invokestatic 70, 3) := by decide +kernel
theorem dX7_reachable_59 : decode cX7_reachable 59 = .ok (.istore 5, 2) := by decide +kernel
theorem dX7_reachable_61 : decode cX7_reachable 61 = .ok (.iload_n 1, 1) := by decide +kernel
theorem dX7_reachable_62 : decode cX7_reachable 62 = .ok (.iload 5, 2) := by decide +kernel
theorem dX7_reachable_64 : decode cX7_reachable 64 = .ok (.bipush (-9), 2) := by decide +kernel
theorem dX7_reachable_66 : decode cX7_reachable 66 = .ok (.if_icmp .eq 10, 3) := by decide +kernel
theorem dX7_reachable_69 : decode cX7_reachable 69 = .ok (.iconst 1, 1) := by decide +kernel
theorem dX7_reachable_70 : decode cX7_reachable 70 = .ok (.iload 5, 2) := by decide +kernel
theorem dX7_reachable_72 : decode cX7_reachable 72 = .ok (.ishl, 1) := by decide +kernel
theorem dX7_reachable_73 : decode cX7_reachable 73 = .ok (.goto 4, 3) := by decide +kernel
theorem dX7_reachable_76 : decode cX7_reachable 76 = .ok (.iconst 0, 1) := by decide +kernel
theorem dX7_reachable_77 : decode cX7_reachable 77 = .ok (.ior, 1) := by decide +kernel
theorem dX7_reachable_78 : decode cX7_reachable 78 = .ok (.istore_n 1, 1) := by decide +kernel
theorem dX7_reachable_79 : decode cX7_reachable 79 = .ok (.iinc 4 1, 3) := by decide +kernel
theorem dX7_reachable_82 : decode cX7_reachable 82 = .ok (.goto (-63), 3) := by decide +kernel
theorem dX7_reachable_85 : decode cX7_reachable 85 = .ok (.iinc 3 1, 3) := by decide +kernel
theorem dX7_reachable_88 : decode cX7_reachable 88 = .ok (.goto (-77), 3) := by decide +kernel
theorem dX7_reachable_91 : decode cX7_reachable 91 = .ok (.iinc 2 1, 3) := by decide +kernel
theorem dX7_reachable_94 : decode cX7_reachable 94 = .ok (.goto (-90), 3) := by decide +kernel
theorem dX7_reachable_97 : decode cX7_reachable 97 = .ok (.iload_n 1, 1) := by decide +kernel
theorem dX7_reachable_98 : decode cX7_reachable 98 = .ok (.ireturn, 1) := by decide +kernel
abbrev x_X7_reachable : Cx := (7, cX7_reachable, false, some (.int))
set_option maxRecDepth 10000 in
theorem g_X7_reachable_0 {E : Ev} {d : Nat} {G : Hp} {Q : Po} {x0 : Nat} (h : Xr E d x_X7_reachable 4 [some (.ref x0), some (.int ((iv 1))), some (.int ((iv 0))), none, none, none] [] G Q) : Xr E d x_X7_reachable 0 [some (.ref x0), none, none, none, none, none] [] G Q := by
  refine r_iconst dX7_reachable_0 ?_
  refine r_istore_n dX7_reachable_1 rfl ?_
  refine r_iconst dX7_reachable_2 ?_
  refine r_istore_n dX7_reachable_3 rfl ?_
  exact h
theorem e_X7_reachable {E : Ev} {d : Nat} {G : Hp} {Q : Po} {x0 : Nat} (h : Xr E d x_X7_reachable 4 [some (.ref x0), some (.int ((iv 1))), some (.int ((iv 0))), none, none, none] [] G Q) : runs E (d + 1) i_X7_reachable [.ref x0] G Q := by
  rw [runs_eq (m := (yX7_reachable, cX7_reachable, 6, some (.int), 0, 7, false, false)) rfl (Nat.le_of_ble_eq_true rfl)]
  exact g_X7_reachable_0 h
set_option maxRecDepth 10000 in
theorem g_X7_reachable_4 {E : Ev} {d : Nat} {G : Hp} {Q : Po} {x0 : Nat} {x1 : Int32} {x2 : Int32} {l3 : Option Value} {l4 : Option Value} {l5 : Option Value} (h : (if (iv 4) ≤ x2 then Q (some (.int x1)) G else Xr E d x_X7_reachable 11 [some (.ref x0), some (.int x1), some (.int x2), some (.int ((iv 0))), l4, l5] [] G Q)) : Xr E d x_X7_reachable 4 [some (.ref x0), some (.int x1), some (.int x2), l3, l4, l5] [] G Q := by
  refine r_iload_n dX7_reachable_4 rfl ?_
  refine r_iconst dX7_reachable_5 ?_
  refine r_cge (tgt := 97) dX7_reachable_6 (by decide) (ite_imp (fun h => ?_) (fun h => ?_) h)
  · refine r_iload_n dX7_reachable_97 rfl ?_
    exact r_iret dX7_reachable_98 rfl ⟨rfl, h⟩
  · refine r_iconst dX7_reachable_9 ?_
    refine r_istore_n dX7_reachable_10 rfl ?_
    exact h
set_option maxRecDepth 10000 in
theorem g_X7_reachable_11 {E : Ev} {d : Nat} {G : Hp} {Q : Po} {x0 : Nat} {x1 : Int32} {x2 : Int32} {x3 : Int32} {l4 : Option Value} {l5 : Option Value} (h : (if (iv 4) ≤ x3 then Xr E d x_X7_reachable 4 [some (.ref x0), some (.int x1), some (.int ((x2 + (iv 1)))), some (.int x3), l4, l5] [] G Q else Xr E d x_X7_reachable 19 [some (.ref x0), some (.int x1), some (.int x2), some (.int x3), some (.int ((iv 0))), l5] [] G Q)) : Xr E d x_X7_reachable 11 [some (.ref x0), some (.int x1), some (.int x2), some (.int x3), l4, l5] [] G Q := by
  refine r_iload_n dX7_reachable_11 rfl ?_
  refine r_iconst dX7_reachable_12 ?_
  refine r_cge (tgt := 91) dX7_reachable_13 (by decide) (ite_imp (fun h => ?_) (fun h => ?_) h)
  · refine r_iinc dX7_reachable_91 rfl rfl ?_
    refine r_goto (tgt := 4) dX7_reachable_94 (by decide) ?_
    exact h
  · refine r_iconst dX7_reachable_16 ?_
    refine r_istore dX7_reachable_17 rfl ?_
    exact h
set_option maxRecDepth 10000 in
theorem g_X7_reachable_19 {E : Ev} {d : Nat} {G : Hp} {Q : Po} {x0 : Nat} {x1 : Int32} {x2 : Int32} {x3 : Int32} {x4 : Int32} {l5 : Option Value} (h : (qFR E G x0 7 2 fun v1 => (qIA 7 E G v1 ((iv 31) * x3) fun v2 => (if v2 ≤ x4 then Xr E d x_X7_reachable 11 [some (.ref x0), some (.int x1), some (.int x2), some (.int ((x3 + (iv 1)))), some (.int x4), l5] [] G Q else (if ¬ ((x1 >>> (x3 &&& 31)) &&& (iv 1)) = (iv 1) then Xr E d x_X7_reachable 11 [some (.ref x0), some (.int x1), some (.int x2), some (.int ((x3 + (iv 1)))), some (.int x4), l5] [] G Q else (qFR E G x0 7 2 fun v3 => (qIA 7 E G v3 ((((iv 31) * x3) + (iv 1)) + x4) fun v4 => (qCI E d i_X7_nonterminal [.int v4] G fun v6 G5 => (if v6 = (iv (-9)) then Xr E d x_X7_reachable 19 [some (.ref x0), some (.int ((x1 ||| (iv 0)))), some (.int x2), some (.int x3), some (.int ((x4 + (iv 1)))), some (.int v6)] [] G5 Q else Xr E d x_X7_reachable 19 [some (.ref x0), some (.int ((x1 ||| ((iv 1) <<< (v6 &&& 31))))), some (.int x2), some (.int x3), some (.int ((x4 + (iv 1)))), some (.int v6)] [] G5 Q))))))))) : Xr E d x_X7_reachable 19 [some (.ref x0), some (.int x1), some (.int x2), some (.int x3), some (.int x4), l5] [] G Q := by
  refine r_iload dX7_reachable_19 rfl ?_
  refine r_aload_n dX7_reachable_21 rfl ?_
  refine r_getR dX7_reachable_22 rfl (qFR_imp (fun v1 h => ?_) h)
  refine r_bipush dX7_reachable_25 rfl ?_
  refine r_iload_n dX7_reachable_27 rfl ?_
  refine r_imul dX7_reachable_28 ?_
  refine r_iald dX7_reachable_29 (qIA_imp (fun v2 h => ?_) h)
  refine r_cge (tgt := 85) dX7_reachable_30 (by decide) (ite_imp (fun h => ?_) (fun h => ?_) h)
  · refine r_iinc dX7_reachable_85 rfl rfl ?_
    refine r_goto (tgt := 11) dX7_reachable_88 (by decide) ?_
    exact h
  · refine r_iload_n dX7_reachable_33 rfl ?_
    refine r_iload_n dX7_reachable_34 rfl ?_
    refine r_ishr dX7_reachable_35 ?_
    refine r_iconst dX7_reachable_36 ?_
    refine r_iand dX7_reachable_37 ?_
    refine r_iconst dX7_reachable_38 ?_
    refine r_cne (tgt := 85) dX7_reachable_39 (by decide) (ite_imp (fun h => ?_) (fun h => ?_) h)
    · refine r_iinc dX7_reachable_85 rfl rfl ?_
      refine r_goto (tgt := 11) dX7_reachable_88 (by decide) ?_
      exact h
    · refine r_aload_n dX7_reachable_42 rfl ?_
      refine r_getR dX7_reachable_43 rfl (qFR_imp (fun v3 h => ?_) h)
      refine r_bipush dX7_reachable_46 rfl ?_
      refine r_iload_n dX7_reachable_48 rfl ?_
      refine r_imul dX7_reachable_49 ?_
      refine r_iconst dX7_reachable_50 ?_
      refine r_iadd dX7_reachable_51 ?_
      refine r_iload dX7_reachable_52 rfl ?_
      refine r_iadd dX7_reachable_54 ?_
      refine r_iald dX7_reachable_55 (qIA_imp (fun v4 h => ?_) h)
      refine r_cI dX7_reachable_56 rfl (invS_eq rfl (by decide) rfl rfl rfl rfl ⟨rfl, Nat.le_of_ble_eq_true rfl⟩) (qCI_imp (fun v6 G5 h => ?_) h)
      refine r_istore dX7_reachable_59 rfl ?_
      refine r_iload_n dX7_reachable_61 rfl ?_
      refine r_iload dX7_reachable_62 rfl ?_
      refine r_bipush dX7_reachable_64 rfl ?_
      refine r_ceq (tgt := 76) dX7_reachable_66 (by decide) (ite_imp (fun h => ?_) (fun h => ?_) h)
      · refine r_iconst dX7_reachable_76 ?_
        refine r_ior dX7_reachable_77 ?_
        refine r_istore_n dX7_reachable_78 rfl ?_
        refine r_iinc dX7_reachable_79 rfl rfl ?_
        refine r_goto (tgt := 19) dX7_reachable_82 (by decide) ?_
        exact h
      · refine r_iconst dX7_reachable_69 ?_
        refine r_iload dX7_reachable_70 rfl ?_
        refine r_ishl dX7_reachable_72 ?_
        refine r_goto (tgt := 77) dX7_reachable_73 (by decide) ?_
        refine r_ior dX7_reachable_77 ?_
        refine r_istore_n dX7_reachable_78 rfl ?_
        refine r_iinc dX7_reachable_79 rfl rfl ?_
        refine r_goto (tgt := 19) dX7_reachable_82 (by decide) ?_
        exact h
theorem dX7_note_0 : decode cX7_note 0 = .ok (.iconst 0, 1) := by decide +kernel
theorem dX7_note_1 : decode cX7_note 1 = .ok (.istore_n 1, 1) := by decide +kernel
theorem dX7_note_2 : decode cX7_note 2 = .ok (.iload_n 1, 1) := by decide +kernel
theorem dX7_note_3 : decode cX7_note 3 = .ok (.sipush 160, 3) := by decide +kernel
theorem dX7_note_6 : decode cX7_note 6 = .ok (.if_icmp .ge 30, 3) := by decide +kernel
theorem dX7_note_9 : decode cX7_note 9 = .ok (.aload_n 0, 1) := by decide +kernel
theorem dX7_note_10 : decode cX7_note 10 = .ok (.getfield 22, 3) := by decide +kernel
theorem dX7_note_13 : decode cX7_note 13 = .ok (.sipush 160, 3) := by decide +kernel
theorem dX7_note_16 : decode cX7_note 16 = .ok (.aload_n 0, 1) := by decide +kernel
theorem dX7_note_17 : decode cX7_note 17 = .ok (.getfield 132, 3) := by decide +kernel
theorem dX7_note_20 : decode cX7_note 20 = .ok (.imul, 1) := by decide +kernel
theorem dX7_note_21 : decode cX7_note 21 = .ok (.iload_n 1, 1) := by decide +kernel
theorem dX7_note_22 : decode cX7_note 22 = .ok (.iadd, 1) := by decide +kernel
theorem dX7_note_23 : decode cX7_note 23 = .ok (.aload_n 0, 1) := by decide +kernel
theorem dX7_note_24 : decode cX7_note 24 = .ok (.getfield 13, 3) := by decide +kernel
theorem dX7_note_27 : decode cX7_note 27 = .ok (.iload_n 1, 1) := by decide +kernel
theorem dX7_note_28 : decode cX7_note 28 = .ok (.iaload, 1) := by decide +kernel
theorem dX7_note_29 : decode cX7_note 29 = .ok (.iastore, 1) := by decide +kernel
theorem dX7_note_30 : decode cX7_note 30 = .ok (.iinc 1 1, 3) := by decide +kernel
theorem dX7_note_33 : decode cX7_note 33 = .ok (.goto (-31), 3) := by decide +kernel
theorem dX7_note_36 : decode cX7_note 36 = .ok (.aload_n 0, 1) := by decide +kernel
theorem dX7_note_37 : decode cX7_note 37 = .ok (.aload_n 0, 1) := by decide +kernel
theorem dX7_note_38 : decode cX7_note 38 = .ok (.getfield 132, 3) := by decide +kernel
theorem dX7_note_41 : decode cX7_note 41 = .ok (.iconst 1, 1) := by decide +kernel
theorem dX7_note_42 : decode cX7_note 42 = .ok (.iadd, 1) := by decide +kernel
theorem dX7_note_43 : decode cX7_note 43 = .ok (.bipush 14, 2) := by decide +kernel
theorem dX7_note_45 : decode cX7_note 45 = .ok (.irem, 1) := by decide +kernel
theorem dX7_note_46 : decode cX7_note 46 = .ok (.putfield 132, 3) := by decide +kernel
theorem dX7_note_49 : decode cX7_note 49 = .ok (.aload_n 0, 1) := by decide +kernel
theorem dX7_note_50 : decode cX7_note 50 = .ok (.aload_n 0, 1) := by decide +kernel
theorem dX7_note_51 : decode cX7_note 51 = .ok (.getfield 113, 3) := by decide +kernel
theorem dX7_note_54 : decode cX7_note 54 = .ok (.bipush 14, 2) := by decide +kernel
theorem dX7_note_56 : decode cX7_note 56 = .ok (.if_icmp .ge 12, 3) := by decide +kernel
theorem dX7_note_59 : decode cX7_note 59 = .ok (.aload_n 0, 1) := by decide +kernel
theorem dX7_note_60 : decode cX7_note 60 = .ok (.getfield 113, 3) := by decide +kernel
theorem dX7_note_63 : decode cX7_note 63 = .ok (.iconst 1, 1) := by decide +kernel
theorem dX7_note_64 : decode cX7_note 64 = .ok (.iadd, 1) := by decide +kernel
theorem dX7_note_65 : decode cX7_note 65 = .ok (.goto 5, 3) := by decide +kernel
theorem dX7_note_68 : decode cX7_note 68 = .ok (.bipush 14, 2) := by decide +kernel
theorem dX7_note_70 : decode cX7_note 70 = .ok (.putfield 113, 3) := by decide +kernel
theorem dX7_note_73 : decode cX7_note 73 = .ok (.return_, 1) := by decide +kernel
abbrev x_X7_note : Cx := (7, cX7_note, false, none)
set_option maxRecDepth 10000 in
theorem g_X7_note_0 {E : Ev} {d : Nat} {G : Hp} {Q : Po} {x0 : Nat} (h : Xr E d x_X7_note 2 [some (.ref x0), some (.int ((iv 0)))] [] G Q) : Xr E d x_X7_note 0 [some (.ref x0), none] [] G Q := by
  refine r_iconst dX7_note_0 ?_
  refine r_istore_n dX7_note_1 rfl ?_
  exact h
theorem e_X7_note {E : Ev} {d : Nat} {G : Hp} {Q : Po} {x0 : Nat} (h : Xr E d x_X7_note 2 [some (.ref x0), some (.int ((iv 0)))] [] G Q) : runs E (d + 1) i_X7_note [.ref x0] G Q := by
  rw [runs_eq (m := (yX7_note, cX7_note, 2, none, 0, 7, false, false)) rfl (Nat.le_of_ble_eq_true rfl)]
  exact g_X7_note_0 h
set_option maxRecDepth 10000 in
theorem g_X7_note_2 {E : Ev} {d : Nat} {G : Hp} {Q : Po} {x0 : Nat} {x1 : Int32} (h : (if (iv 160) ≤ x1 then (qFI E G x0 7 7 fun v1 => (qP E G x0 7 7 (.int (((v1 + (iv 1)) - (v1 + (iv 1)) / (iv 14) * (iv 14)))) fun G2 => (qFI E G2 x0 7 6 fun v3 => (if (iv 14) ≤ v3 then (qP E G2 x0 7 6 (.int ((iv 14))) fun G4 => Q none G4) else (qFI E G2 x0 7 6 fun v5 => (qP E G2 x0 7 6 (.int ((v5 + (iv 1)))) fun G6 => Q none G6)))))) else (qFR E G x0 7 5 fun v7 => (qFI E G x0 7 7 fun v8 => (qFR E G x0 7 2 fun v9 => (qIA 7 E G v9 x1 fun v10 => (qIS E G v7 (((iv 160) * v8) + x1) v10 fun G11 => Xr E d x_X7_note 2 [some (.ref x0), some (.int ((x1 + (iv 1))))] [] G11 Q))))))) : Xr E d x_X7_note 2 [some (.ref x0), some (.int x1)] [] G Q := by
  refine r_iload_n dX7_note_2 rfl ?_
  refine r_sipush dX7_note_3 rfl ?_
  refine r_cge (tgt := 36) dX7_note_6 (by decide) (ite_imp (fun h => ?_) (fun h => ?_) h)
  · refine r_aload_n dX7_note_36 rfl ?_
    refine r_aload_n dX7_note_37 rfl ?_
    refine r_getI dX7_note_38 rfl (qFI_imp (fun v1 h => ?_) h)
    refine r_iconst dX7_note_41 ?_
    refine r_iadd dX7_note_42 ?_
    refine r_bipush dX7_note_43 rfl ?_
    refine r_irem dX7_note_45 ⟨by decide, ?_⟩
    refine r_put dX7_note_46 rfl rfl (by decide) (qP_imp (fun G2 h => ?_) h)
    refine r_aload_n dX7_note_49 rfl ?_
    refine r_aload_n dX7_note_50 rfl ?_
    refine r_getI dX7_note_51 rfl (qFI_imp (fun v3 h => ?_) h)
    refine r_bipush dX7_note_54 rfl ?_
    refine r_cge (tgt := 68) dX7_note_56 (by decide) (ite_imp (fun h => ?_) (fun h => ?_) h)
    · refine r_bipush dX7_note_68 rfl ?_
      refine r_put dX7_note_70 rfl rfl (by decide) (qP_imp (fun G4 h => ?_) h)
      exact r_vret dX7_note_73 rfl h
    · refine r_aload_n dX7_note_59 rfl ?_
      refine r_getI dX7_note_60 rfl (qFI_imp (fun v5 h => ?_) h)
      refine r_iconst dX7_note_63 ?_
      refine r_iadd dX7_note_64 ?_
      refine r_goto (tgt := 70) dX7_note_65 (by decide) ?_
      refine r_put dX7_note_70 rfl rfl (by decide) (qP_imp (fun G6 h => ?_) h)
      exact r_vret dX7_note_73 rfl h
  · refine r_aload_n dX7_note_9 rfl ?_
    refine r_getR dX7_note_10 rfl (qFR_imp (fun v7 h => ?_) h)
    refine r_sipush dX7_note_13 rfl ?_
    refine r_aload_n dX7_note_16 rfl ?_
    refine r_getI dX7_note_17 rfl (qFI_imp (fun v8 h => ?_) h)
    refine r_imul dX7_note_20 ?_
    refine r_iload_n dX7_note_21 rfl ?_
    refine r_iadd dX7_note_22 ?_
    refine r_aload_n dX7_note_23 rfl ?_
    refine r_getR dX7_note_24 rfl (qFR_imp (fun v9 h => ?_) h)
    refine r_iload_n dX7_note_27 rfl ?_
    refine r_iald dX7_note_28 (qIA_imp (fun v10 h => ?_) h)
    refine r_iast dX7_note_29 (qIS_imp (fun G11 h => ?_) h)
    refine r_iinc dX7_note_30 rfl rfl ?_
    refine r_goto (tgt := 2) dX7_note_33 (by decide) ?_
    exact h
theorem dX7_tidy_0 : decode cX7_tidy 0 = .ok (.aload_n 0, 1) := by decide +kernel
theorem dX7_tidy_1 : decode cX7_tidy 1 = .ok (.bipush 31, 2) := by decide +kernel
theorem dX7_tidy_3 : decode cX7_tidy 3 = .ok (.iload_n 1, 1) := by decide +kernel
theorem dX7_tidy_4 : decode cX7_tidy 4 = .ok (.imul, 1) := by decide +kernel
theorem dX7_tidy_5 : decode cX7_tidy 5 = .ok (.iaload, 1) := by decide +kernel
theorem dX7_tidy_6 : decode cX7_tidy 6 = .ok (.istore_n 2, 1) := by decide +kernel
theorem dX7_tidy_7 : decode cX7_tidy 7 = .ok (.iload_n 2, 1) := by decide +kernel
theorem dX7_tidy_8 : decode cX7_tidy 8 = .ok (.bipush 30, 2) := by decide +kernel
theorem dX7_tidy_10 : decode cX7_tidy 10 = .ok (.if_icmp .ge 20, 3) := by decide +kernel
theorem dX7_tidy_13 : decode cX7_tidy 13 = .ok (.aload_n 0, 1) := by decide +kernel
theorem dX7_tidy_14 : decode cX7_tidy 14 = .ok (.bipush 31, 2) := by decide +kernel
theorem dX7_tidy_16 : decode cX7_tidy 16 = .ok (.iload_n 1, 1) := by decide +kernel
theorem dX7_tidy_17 : decode cX7_tidy 17 = .ok (.imul, 1) := by decide +kernel
theorem dX7_tidy_18 : decode cX7_tidy 18 = .ok (.iconst 1, 1) := by decide +kernel
theorem dX7_tidy_19 : decode cX7_tidy 19 = .ok (.iadd, 1) := by decide +kernel
theorem dX7_tidy_20 : decode cX7_tidy 20 = .ok (.iload_n 2, 1) := by decide +kernel
theorem dX7_tidy_21 : decode cX7_tidy 21 = .ok (.iadd, 1) := by decide +kernel
theorem dX7_tidy_22 : decode cX7_tidy 22 = .ok (.iconst 0, 1) := by decide +kernel
theorem dX7_tidy_23 : decode cX7_tidy 23 = .ok (.iastore, 1) := by decide +kernel
theorem dX7_tidy_24 : decode cX7_tidy 24 = .ok (.iinc 2 1, 3) := by decide +kernel
theorem dX7_tidy_27 : decode cX7_tidy 27 = .ok (.goto (-20), 3) := by decide +kernel
theorem dX7_tidy_30 : decode cX7_tidy 30 = .ok (.return_, 1) := by decide +kernel
abbrev x_X7_tidy : Cx := (7, cX7_tidy, false, none)
set_option maxRecDepth 10000 in
theorem g_X7_tidy_0 {E : Ev} {d : Nat} {G : Hp} {Q : Po} {x0 : Nat} {x1 : Int32} (h : (qIA 7 E G x0 ((iv 31) * x1) fun v1 => Xr E d x_X7_tidy 7 [some (.ref x0), some (.int x1), some (.int v1)] [] G Q)) : Xr E d x_X7_tidy 0 [some (.ref x0), some (.int x1), none] [] G Q := by
  refine r_aload_n dX7_tidy_0 rfl ?_
  refine r_bipush dX7_tidy_1 rfl ?_
  refine r_iload_n dX7_tidy_3 rfl ?_
  refine r_imul dX7_tidy_4 ?_
  refine r_iald dX7_tidy_5 (qIA_imp (fun v1 h => ?_) h)
  refine r_istore_n dX7_tidy_6 rfl ?_
  exact h
theorem e_X7_tidy {E : Ev} {d : Nat} {G : Hp} {Q : Po} {x0 : Nat} {x1 : Int32} (h : (qIA 7 E G x0 ((iv 31) * x1) fun v1 => Xr E d x_X7_tidy 7 [some (.ref x0), some (.int x1), some (.int v1)] [] G Q)) : runs E (d + 1) i_X7_tidy [.ref x0, .int x1] G Q := by
  rw [runs_eq (m := (yX7_tidy, cX7_tidy, 3, none, 2, 7, false, true)) rfl (Nat.le_of_ble_eq_true rfl)]
  exact g_X7_tidy_0 h
set_option maxRecDepth 10000 in
theorem g_X7_tidy_7 {E : Ev} {d : Nat} {G : Hp} {Q : Po} {x0 : Nat} {x1 : Int32} {x2 : Int32} (h : (if (iv 30) ≤ x2 then Q none G else (qIS E G x0 ((((iv 31) * x1) + (iv 1)) + x2) (iv 0) fun G1 => Xr E d x_X7_tidy 7 [some (.ref x0), some (.int x1), some (.int ((x2 + (iv 1))))] [] G1 Q))) : Xr E d x_X7_tidy 7 [some (.ref x0), some (.int x1), some (.int x2)] [] G Q := by
  refine r_iload_n dX7_tidy_7 rfl ?_
  refine r_bipush dX7_tidy_8 rfl ?_
  refine r_cge (tgt := 30) dX7_tidy_10 (by decide) (ite_imp (fun h => ?_) (fun h => ?_) h)
  · exact r_vret dX7_tidy_30 rfl h
  · refine r_aload_n dX7_tidy_13 rfl ?_
    refine r_bipush dX7_tidy_14 rfl ?_
    refine r_iload_n dX7_tidy_16 rfl ?_
    refine r_imul dX7_tidy_17 ?_
    refine r_iconst dX7_tidy_18 ?_
    refine r_iadd dX7_tidy_19 ?_
    refine r_iload_n dX7_tidy_20 rfl ?_
    refine r_iadd dX7_tidy_21 ?_
    refine r_iconst dX7_tidy_22 ?_
    refine r_iast dX7_tidy_23 (qIS_imp (fun G1 h => ?_) h)
    refine r_iinc dX7_tidy_24 rfl rfl ?_
    refine r_goto (tgt := 7) dX7_tidy_27 (by decide) ?_
    exact h
theorem dX7_setBody_0 : decode cX7_setBody 0 = .ok (.iload_n 1, 1) := by decide +kernel
theorem dX7_setBody_1 : decode cX7_setBody 1 = .ok (.invokestatic 122, 3) := by decide +kernel
theorem dX7_setBody_4 : decode cX7_setBody 4 = .ok (.ifCond .ne 5, 3) := by decide +kernel
theorem dX7_setBody_7 : decode cX7_setBody 7 = .ok (.iconst (-1), 1) := by decide +kernel
theorem dX7_setBody_8 : decode cX7_setBody 8 = .ok (.ireturn, 1) := by decide +kernel
theorem dX7_setBody_9 : decode cX7_setBody 9 = .ok (.aload_n 0, 1) := by decide +kernel
theorem dX7_setBody_10 : decode cX7_setBody 10 = .ok (.iload_n 1, 1) := by decide +kernel
theorem dX7_setBody_11 : decode cX7_setBody 11 = .ok (.iconst 0, 1) := by decide +kernel
theorem dX7_setBody_12 : decode cX7_setBody 12 = .ok (.invokevirtual 91, 3) := by decide +kernel
theorem dX7_setBody_15 : decode cX7_setBody 15 = .ok (.aload_n 0, 1) := by decide +kernel
theorem dX7_setBody_16 : decode cX7_setBody 16 = .ok (.getfield 81, 3) := by decide +kernel
theorem dX7_setBody_19 : decode cX7_setBody 19 = .ok (.if_icmp .eq 6, 3) := by decide +kernel
theorem dX7_setBody_22 : decode cX7_setBody 22 = .ok (.bipush (-3), 2) := by decide +kernel
theorem dX7_setBody_24 : decode cX7_setBody 24 = .ok (.ireturn, 1) := by decide +kernel
theorem dX7_setBody_25 : decode cX7_setBody 25 = .ok (.aload_n 0, 1) := by decide +kernel
theorem dX7_setBody_26 : decode cX7_setBody 26 = .ok (.invokevirtual 135, 3) := by decide +kernel
theorem dX7_setBody_29 : decode cX7_setBody 29 = .ok (.iconst 0, 1) := by decide +kernel
theorem dX7_setBody_30 : decode cX7_setBody 30 = .ok (.istore_n 2, 1) := by decide +kernel
theorem dX7_setBody_31 : decode cX7_setBody 31 = .ok (.iload_n 2, 1) := by decide +kernel
theorem dX7_setBody_32 : decode cX7_setBody 32 = .ok (.bipush 30, 2) := by decide +kernel
theorem dX7_setBody_34 : decode cX7_setBody 34 = .ok (.if_icmp .gt 31, 3) := by decide +kernel
theorem dX7_setBody_37 : decode cX7_setBody 37 = .ok (.aload_n 0, 1) := by decide +kernel
theorem dX7_setBody_38 : decode cX7_setBody 38 = .ok (.getfield 13, 3) := by decide +kernel
theorem dX7_setBody_41 : decode cX7_setBody 41 = .ok (.bipush 31, 2) := by decide +kernel
theorem dX7_setBody_43 : decode cX7_setBody 43 = .ok (.iload_n 1, 1) := by decide +kernel
theorem dX7_setBody_44 : decode cX7_setBody 44 = .ok (.imul, 1) := by decide +kernel
theorem dX7_setBody_45 : decode cX7_setBody 45 = .ok (.iload_n 2, 1) := by decide +kernel
theorem dX7_setBody_46 : decode cX7_setBody 46 = .ok (.iadd, 1) := by decide +kernel
theorem dX7_setBody_47 : decode cX7_setBody 47 = .ok (.aload_n 0, 1) := by decide +kernel
theorem dX7_setBody_48 : decode cX7_setBody 48 = .ok (.getfield 19, 3) := by decide +kernel
theorem dX7_setBody_51 : decode cX7_setBody 51 = .ok (.bipush 31, 2) := by decide +kernel
theorem dX7_setBody_53 : decode cX7_setBody 53 = .ok (.iload_n 1, 1) := by decide +kernel
theorem dX7_setBody_54 : decode cX7_setBody 54 = .ok (.imul, 1) := by decide +kernel
theorem dX7_setBody_55 : decode cX7_setBody 55 = .ok (.iload_n 2, 1) := by decide +kernel
theorem dX7_setBody_56 : decode cX7_setBody 56 = .ok (.iadd, 1) := by decide +kernel
theorem dX7_setBody_57 : decode cX7_setBody 57 = .ok (.iaload, 1) := by decide +kernel
theorem dX7_setBody_58 : decode cX7_setBody 58 = .ok (.iastore, 1) := by decide +kernel
theorem dX7_setBody_59 : decode cX7_setBody 59 = .ok (.iinc 2 1, 3) := by decide +kernel
theorem dX7_setBody_62 : decode cX7_setBody 62 = .ok (.goto (-31), 3) := by decide +kernel
theorem dX7_setBody_65 : decode cX7_setBody 65 = .ok (.aload_n 0, 1) := by decide +kernel
theorem dX7_setBody_66 : decode cX7_setBody 66 = .ok (.getfield 13, 3) := by decide +kernel
theorem dX7_setBody_69 : decode cX7_setBody 69 = .ok (.iload_n 1, 1) := by decide +kernel
theorem dX7_setBody_70 : decode cX7_setBody 70 = .ok (.invokestatic 138, 3) := by decide +kernel
theorem dX7_setBody_73 : decode cX7_setBody 73 = .ok (.aload_n 0, 1) := by decide +kernel
theorem dX7_setBody_74 : decode cX7_setBody 74 = .ok (.getfield 13, 3) := by decide +kernel
theorem dX7_setBody_77 : decode cX7_setBody 77 = .ok (.bipush 31, 2) := by decide +kernel
theorem dX7_setBody_79 : decode cX7_setBody 79 = .ok (.iload_n 1, 1) := by decide +kernel
theorem dX7_setBody_80 : decode cX7_setBody 80 = .ok (.imul, 1) := by decide +kernel
theorem dX7_setBody_81 : decode cX7_setBody 81 = .ok (.iaload, 1) := by decide +kernel
theorem dX7_setBody_82 : decode cX7_setBody 82 = .ok (.ireturn, 1) := by decide +kernel
abbrev x_X7_setBody : Cx := (7, cX7_setBody, false, some (.int))
set_option maxRecDepth 10000 in
theorem g_X7_setBody_0 {E : Ev} {d : Nat} {G : Hp} {Q : Po} {x0 : Nat} {x1 : Int32} (h : (qCI E d i_X7_isNonterminal [.int x1] G fun v2 G1 => (if ¬ v2 = 0 then (rcv E G1 x0 7 = true ∧ (qCI E d i_X7_readBody [.ref x0, .int x1, .int ((iv 0))] G1 fun v4 G3 => (qFI E G3 x0 7 1 fun v5 => (if v4 = v5 then (rcv E G3 x0 7 = true ∧ (qCV E d i_X7_note [.ref x0] G3 fun G6 => Xr E d x_X7_setBody 31 [some (.ref x0), some (.int x1), some (.int ((iv 0)))] [] G6 Q)) else Q (some (.int (iv (-3)))) G3)))) else Q (some (.int (iv (-1)))) G1))) : Xr E d x_X7_setBody 0 [some (.ref x0), some (.int x1), none] [] G Q := by
  refine r_iload_n dX7_setBody_0 rfl ?_
  refine r_cI dX7_setBody_1 rfl (invS_eq rfl (by decide) rfl rfl rfl rfl ⟨rfl, Nat.le_of_ble_eq_true rfl⟩) (qCI_imp (fun v2 G1 h => ?_) h)
  refine r_ifne (tgt := 9) dX7_setBody_4 (by decide) (ite_imp (fun h => ?_) (fun h => ?_) h)
  · refine r_aload_n dX7_setBody_9 rfl ?_
    refine r_iload_n dX7_setBody_10 rfl ?_
    refine r_iconst dX7_setBody_11 ?_
    refine r_cI dX7_setBody_12 rfl (invV_eq rfl rfl rfl rfl rfl rfl ⟨rfl, Nat.le_of_ble_eq_true rfl⟩ h.1) (qCI_imp (fun v4 G3 h => ?_) h.2)
    refine r_aload_n dX7_setBody_15 rfl ?_
    refine r_getI dX7_setBody_16 rfl (qFI_imp (fun v5 h => ?_) h)
    refine r_ceq (tgt := 25) dX7_setBody_19 (by decide) (ite_imp (fun h => ?_) (fun h => ?_) h)
    · refine r_aload_n dX7_setBody_25 rfl ?_
      refine r_cV dX7_setBody_26 rfl (invV_eq rfl rfl rfl rfl rfl rfl ⟨rfl, Nat.le_of_ble_eq_true rfl⟩ h.1) (qCV_imp (fun G6 h => ?_) h.2)
      refine r_iconst dX7_setBody_29 ?_
      refine r_istore_n dX7_setBody_30 rfl ?_
      exact h
    · refine r_bipush dX7_setBody_22 rfl ?_
      exact r_iret dX7_setBody_24 rfl ⟨rfl, h⟩
  · refine r_iconst dX7_setBody_7 ?_
    exact r_iret dX7_setBody_8 rfl ⟨rfl, h⟩
theorem e_X7_setBody {E : Ev} {d : Nat} {G : Hp} {Q : Po} {x0 : Nat} {x1 : Int32} (h : (qCI E d i_X7_isNonterminal [.int x1] G fun v2 G1 => (if ¬ v2 = 0 then (rcv E G1 x0 7 = true ∧ (qCI E d i_X7_readBody [.ref x0, .int x1, .int ((iv 0))] G1 fun v4 G3 => (qFI E G3 x0 7 1 fun v5 => (if v4 = v5 then (rcv E G3 x0 7 = true ∧ (qCV E d i_X7_note [.ref x0] G3 fun G6 => Xr E d x_X7_setBody 31 [some (.ref x0), some (.int x1), some (.int ((iv 0)))] [] G6 Q)) else Q (some (.int (iv (-3)))) G3)))) else Q (some (.int (iv (-1)))) G1))) : runs E (d + 1) i_X7_setBody [.ref x0, .int x1] G Q := by
  rw [runs_eq (m := (yX7_setBody, cX7_setBody, 3, some (.int), 1, 7, false, false)) rfl (Nat.le_of_ble_eq_true rfl)]
  exact g_X7_setBody_0 h
set_option maxRecDepth 10000 in
theorem g_X7_setBody_31 {E : Ev} {d : Nat} {G : Hp} {Q : Po} {x0 : Nat} {x1 : Int32} {x2 : Int32} (h : (if (iv 30) < x2 then (qFR E G x0 7 2 fun v1 => (qCV E d i_X7_tidy [.ref v1, .int x1] G fun G2 => (qFR E G2 x0 7 2 fun v3 => (qIA 7 E G2 v3 ((iv 31) * x1) fun v4 => Q (some (.int v4)) G2)))) else (qFR E G x0 7 2 fun v5 => (qFR E G x0 7 4 fun v6 => (qIA 7 E G v6 (((iv 31) * x1) + x2) fun v7 => (qIS E G v5 (((iv 31) * x1) + x2) v7 fun G8 => Xr E d x_X7_setBody 31 [some (.ref x0), some (.int x1), some (.int ((x2 + (iv 1))))] [] G8 Q)))))) : Xr E d x_X7_setBody 31 [some (.ref x0), some (.int x1), some (.int x2)] [] G Q := by
  refine r_iload_n dX7_setBody_31 rfl ?_
  refine r_bipush dX7_setBody_32 rfl ?_
  refine r_cgt (tgt := 65) dX7_setBody_34 (by decide) (ite_imp (fun h => ?_) (fun h => ?_) h)
  · refine r_aload_n dX7_setBody_65 rfl ?_
    refine r_getR dX7_setBody_66 rfl (qFR_imp (fun v1 h => ?_) h)
    refine r_iload_n dX7_setBody_69 rfl ?_
    refine r_cV dX7_setBody_70 rfl (invS_eq rfl (by decide) rfl rfl rfl rfl ⟨rfl, Nat.le_of_ble_eq_true rfl⟩) (qCV_imp (fun G2 h => ?_) h)
    refine r_aload_n dX7_setBody_73 rfl ?_
    refine r_getR dX7_setBody_74 rfl (qFR_imp (fun v3 h => ?_) h)
    refine r_bipush dX7_setBody_77 rfl ?_
    refine r_iload_n dX7_setBody_79 rfl ?_
    refine r_imul dX7_setBody_80 ?_
    refine r_iald dX7_setBody_81 (qIA_imp (fun v4 h => ?_) h)
    exact r_iret dX7_setBody_82 rfl ⟨rfl, h⟩
  · refine r_aload_n dX7_setBody_37 rfl ?_
    refine r_getR dX7_setBody_38 rfl (qFR_imp (fun v5 h => ?_) h)
    refine r_bipush dX7_setBody_41 rfl ?_
    refine r_iload_n dX7_setBody_43 rfl ?_
    refine r_imul dX7_setBody_44 ?_
    refine r_iload_n dX7_setBody_45 rfl ?_
    refine r_iadd dX7_setBody_46 ?_
    refine r_aload_n dX7_setBody_47 rfl ?_
    refine r_getR dX7_setBody_48 rfl (qFR_imp (fun v6 h => ?_) h)
    refine r_bipush dX7_setBody_51 rfl ?_
    refine r_iload_n dX7_setBody_53 rfl ?_
    refine r_imul dX7_setBody_54 ?_
    refine r_iload_n dX7_setBody_55 rfl ?_
    refine r_iadd dX7_setBody_56 ?_
    refine r_iald dX7_setBody_57 (qIA_imp (fun v7 h => ?_) h)
    refine r_iast dX7_setBody_58 (qIS_imp (fun G8 h => ?_) h)
    refine r_iinc dX7_setBody_59 rfl rfl ?_
    refine r_goto (tgt := 31) dX7_setBody_62 (by decide) ?_
    exact h
theorem dX7_setTransition_0 : decode cX7_setTransition 0 = .ok (.iload_n 1, 1) := by decide +kernel
theorem dX7_setTransition_1 : decode cX7_setTransition 1 = .ok (.iload_n 2, 1) := by decide +kernel
theorem dX7_setTransition_2 : decode cX7_setTransition 2 = .ok (.invokestatic 126, 3) := by decide +kernel
theorem dX7_setTransition_5 : decode cX7_setTransition 5 = .ok (.ifCond .ne 5, 3) := by decide +kernel
theorem dX7_setTransition_8 : decode cX7_setTransition 8 = .ok (.iconst (-1), 1) := by decide +kernel
theorem dX7_setTransition_9 : decode cX7_setTransition 9 = .ok (.ireturn, 1) := by decide +kernel
theorem dX7_setTransition_10 : decode cX7_setTransition 10 = .ok (.iload_n 3, 1) := by decide +kernel
theorem dX7_setTransition_11 : decode cX7_setTransition 11 = .ok (.i2l, 1) := by decide +kernel
theorem dX7_setTransition_12 : decode cX7_setTransition 12 = .ok (.lconst 0, 1) := by decide +kernel
theorem dX7_setTransition_13 : decode cX7_setTransition 13 = .ok (.iload_n 2, 1) := by decide +kernel
theorem dX7_setTransition_14 : decode cX7_setTransition 14 = .ok (.invokestatic 67, 3) := by decide +kernel
theorem dX7_setTransition_17 : decode cX7_setTransition 17 = .ok (.ifCond .le 9, 3) := by decide +kernel
theorem dX7_setTransition_20 : decode cX7_setTransition 20 = .ok (.ldc2_w 89, 3) := by decide +kernel
theorem dX7_setTransition_23 : decode cX7_setTransition 23 = .ok (.goto 4, 3) := by decide +kernel
theorem dX7_setTransition_26 : decode cX7_setTransition 26 = .ok (.lconst 0, 1) := by decide +kernel
theorem dX7_setTransition_27 : decode cX7_setTransition 27 = .ok (.invokestatic 55, 3) := by decide +kernel
theorem dX7_setTransition_30 : decode cX7_setTransition 30 = .ok (.ifCond .eq 28, 3) := by decide +kernel
theorem dX7_setTransition_33 : decode cX7_setTransition 33 = .ok (.iload 4, 2) := by decide +kernel
theorem dX7_setTransition_35 : decode cX7_setTransition 35 = .ok (.i2l, 1) := by decide +kernel
theorem dX7_setTransition_36 : decode cX7_setTransition 36 = .ok (.lconst 0, 1) := by decide +kernel
theorem dX7_setTransition_37 : decode cX7_setTransition 37 = .ok (.iload_n 2, 1) := by decide +kernel
theorem dX7_setTransition_38 : decode cX7_setTransition 38 = .ok (.invokestatic 67, 3) := by decide +kernel
theorem dX7_setTransition_41 : decode cX7_setTransition 41 = .ok (.iconst 1, 1) := by decide +kernel
theorem dX7_setTransition_42 : decode cX7_setTransition 42 = .ok (.if_icmp .le 9, 3) := by decide +kernel
theorem dX7_setTransition_45 : decode cX7_setTransition 45 = .ok (.ldc2_w 89, 3) := by decide +kernel
theorem dX7_setTransition_48 : decode cX7_setTransition 48 = .ok (.goto 4, 3) := by decide +kernel
theorem dX7_setTransition_51 : decode cX7_setTransition 51 = .ok (.lconst 0, 1) := by decide +kernel
theorem dX7_setTransition_52 : decode cX7_setTransition 52 = .ok (.invokestatic 55, 3) := by decide +kernel
theorem dX7_setTransition_55 : decode cX7_setTransition 55 = .ok (.ifCond .ne 6, 3) := by decide +kernel
theorem dX7_setTransition_58 : decode cX7_setTransition 58 = .ok (.bipush (-2), 2) := by decide +kernel
theorem dX7_setTransition_60 : decode cX7_setTransition 60 = .ok (.ireturn, 1) := by decide +kernel
theorem dX7_setTransition_61 : decode cX7_setTransition 61 = .ok (.aload_n 0, 1) := by decide +kernel
theorem dX7_setTransition_62 : decode cX7_setTransition 62 = .ok (.invokevirtual 135, 3) := by decide +kernel
theorem dX7_setTransition_65 : decode cX7_setTransition 65 = .ok (.iload_n 1, 1) := by decide +kernel
theorem dX7_setTransition_66 : decode cX7_setTransition 66 = .ok (.iload_n 2, 1) := by decide +kernel
theorem dX7_setTransition_67 : decode cX7_setTransition 67 = .ok (.invokestatic 129, 3) := by decide +kernel
theorem dX7_setTransition_70 : decode cX7_setTransition 70 = .ok (.istore 5, 2) := by decide +kernel
theorem dX7_setTransition_72 : decode cX7_setTransition 72 = .ok (.aload_n 0, 1) := by decide +kernel
theorem dX7_setTransition_73 : decode cX7_setTransition 73 = .ok (.getfield 13, 3) := by decide +kernel
theorem dX7_setTransition_76 : decode cX7_setTransition 76 = .ok (.iload 5, 2) := by decide +kernel
theorem dX7_setTransition_78 : decode cX7_setTransition 78 = .ok (.iaload, 1) := by decide +kernel
theorem dX7_setTransition_79 : decode cX7_setTransition 79 = .ok (.istore 6, 2) := by decide +kernel
theorem dX7_setTransition_81 : decode cX7_setTransition 81 = .ok (.aload_n 0, 1) := by decide +kernel
theorem dX7_setTransition_82 : decode cX7_setTransition 82 = .ok (.getfield 13, 3) := by decide +kernel
theorem dX7_setTransition_85 : decode cX7_setTransition 85 = .ok (.iload 5, 2) := by decide +kernel
theorem dX7_setTransition_87 : decode cX7_setTransition 87 = .ok (.iconst 1, 1) := by decide +kernel
theorem dX7_setTransition_88 : decode cX7_setTransition 88 = .ok (.iastore, 1) := by decide +kernel
theorem dX7_setTransition_89 : decode cX7_setTransition 89 = .ok (.aload_n 0, 1) := by decide +kernel
theorem dX7_setTransition_90 : decode cX7_setTransition 90 = .ok (.getfield 13, 3) := by decide +kernel
theorem dX7_setTransition_93 : decode cX7_setTransition 93 = .ok (.iload 5, 2) := by decide +kernel
theorem dX7_setTransition_95 : decode cX7_setTransition 95 = .ok (.iconst 1, 1) := by decide +kernel
theorem dX7_setTransition_96 : decode cX7_setTransition 96 = .ok (.iadd, 1) := by decide +kernel
theorem dX7_setTransition_97 : decode cX7_setTransition 97 = .ok (.iload_n 3, 1) := by decide +kernel
theorem dX7_setTransition_98 : decode cX7_setTransition 98 = .ok (.iastore, 1) := by decide +kernel
theorem dX7_setTransition_99 : decode cX7_setTransition 99 = .ok (.aload_n 0, 1) := by decide +kernel
theorem dX7_setTransition_100 : decode cX7_setTransition 100 = .ok (.getfield 13, 3) := by decide +kernel
theorem dX7_setTransition_103 : decode cX7_setTransition 103 = .ok (.iload 5, 2) := by decide +kernel
theorem dX7_setTransition_105 : decode cX7_setTransition 105 = .ok (.iconst 2, 1) := by decide +kernel
theorem dX7_setTransition_106 : decode cX7_setTransition 106 = .ok (.iadd, 1) := by decide +kernel
theorem dX7_setTransition_107 : decode cX7_setTransition 107 = .ok (.iload 4, 2) := by decide +kernel
theorem dX7_setTransition_109 : decode cX7_setTransition 109 = .ok (.iastore, 1) := by decide +kernel
theorem dX7_setTransition_110 : decode cX7_setTransition 110 = .ok (.iload 6, 2) := by decide +kernel
theorem dX7_setTransition_112 : decode cX7_setTransition 112 = .ok (.ireturn, 1) := by decide +kernel
abbrev x_X7_setTransition : Cx := (7, cX7_setTransition, false, some (.int))
set_option maxRecDepth 10000 in
theorem g_X7_setTransition_0 {E : Ev} {d : Nat} {G : Hp} {Q : Po} {x0 : Nat} {x1 : Int32} {x2 : Int32} {x3 : Int32} {x4 : Int32} (h : (qCI E d i_X7_isPair [.int x1, .int x2] G fun v2 G1 => (if ¬ v2 = 0 then (qCI E d i_X7_places [.int x2] G1 fun v4 G3 => (if v4 ≤ 0 then (qCI E d i_X7_in [.long (((x3).toInt64)), .long 0, .long 0] G3 fun v6 G5 => (if v6 = 0 then Q (some (.int (iv (-2)))) G5 else (qCI E d i_X7_places [.int x2] G5 fun v8 G7 => (if v8 ≤ (iv 1) then (qCI E d i_X7_in [.long (((x4).toInt64)), .long 0, .long 0] G7 fun v10 G9 => (if ¬ v10 = 0 then (rcv E G9 x0 7 = true ∧ (qCV E d i_X7_note [.ref x0] G9 fun G11 => (qCI E d i_X7_stepAt [.int x1, .int x2] G11 fun v13 G12 => (qFR E G12 x0 7 2 fun v14 => (qIA 7 E G12 v14 v13 fun v15 => (qFR E G12 x0 7 2 fun v16 => (qIS E G12 v16 v13 (iv 1) fun G17 => (qFR E G17 x0 7 2 fun v18 => (qIS E G17 v18 (v13 + (iv 1)) x3 fun G19 => (qFR E G19 x0 7 2 fun v20 => (qIS E G19 v20 (v13 + (iv 2)) x4 fun G21 => Q (some (.int v15)) G21))))))))))) else Q (some (.int (iv (-2)))) G9)) else (qCI E d i_X7_in [.long (((x4).toInt64)), .long 0, .long 2] G7 fun v23 G22 => (if ¬ v23 = 0 then (rcv E G22 x0 7 = true ∧ (qCV E d i_X7_note [.ref x0] G22 fun G24 => (qCI E d i_X7_stepAt [.int x1, .int x2] G24 fun v26 G25 => (qFR E G25 x0 7 2 fun v27 => (qIA 7 E G25 v27 v26 fun v28 => (qFR E G25 x0 7 2 fun v29 => (qIS E G25 v29 v26 (iv 1) fun G30 => (qFR E G30 x0 7 2 fun v31 => (qIS E G30 v31 (v26 + (iv 1)) x3 fun G32 => (qFR E G32 x0 7 2 fun v33 => (qIS E G32 v33 (v26 + (iv 2)) x4 fun G34 => Q (some (.int v28)) G34))))))))))) else Q (some (.int (iv (-2)))) G22)))))) else (qCI E d i_X7_in [.long (((x3).toInt64)), .long 0, .long 2] G3 fun v36 G35 => (if v36 = 0 then Q (some (.int (iv (-2)))) G35 else (qCI E d i_X7_places [.int x2] G35 fun v38 G37 => (if v38 ≤ (iv 1) then (qCI E d i_X7_in [.long (((x4).toInt64)), .long 0, .long 0] G37 fun v40 G39 => (if ¬ v40 = 0 then (rcv E G39 x0 7 = true ∧ (qCV E d i_X7_note [.ref x0] G39 fun G41 => (qCI E d i_X7_stepAt [.int x1, .int x2] G41 fun v43 G42 => (qFR E G42 x0 7 2 fun v44 => (qIA 7 E G42 v44 v43 fun v45 => (qFR E G42 x0 7 2 fun v46 => (qIS E G42 v46 v43 (iv 1) fun G47 => (qFR E G47 x0 7 2 fun v48 => (qIS E G47 v48 (v43 + (iv 1)) x3 fun G49 => (qFR E G49 x0 7 2 fun v50 => (qIS E G49 v50 (v43 + (iv 2)) x4 fun G51 => Q (some (.int v45)) G51))))))))))) else Q (some (.int (iv (-2)))) G39)) else (qCI E d i_X7_in [.long (((x4).toInt64)), .long 0, .long 2] G37 fun v53 G52 => (if ¬ v53 = 0 then (rcv E G52 x0 7 = true ∧ (qCV E d i_X7_note [.ref x0] G52 fun G54 => (qCI E d i_X7_stepAt [.int x1, .int x2] G54 fun v56 G55 => (qFR E G55 x0 7 2 fun v57 => (qIA 7 E G55 v57 v56 fun v58 => (qFR E G55 x0 7 2 fun v59 => (qIS E G55 v59 v56 (iv 1) fun G60 => (qFR E G60 x0 7 2 fun v61 => (qIS E G60 v61 (v56 + (iv 1)) x3 fun G62 => (qFR E G62 x0 7 2 fun v63 => (qIS E G62 v63 (v56 + (iv 2)) x4 fun G64 => Q (some (.int v58)) G64))))))))))) else Q (some (.int (iv (-2)))) G52)))))))) else Q (some (.int (iv (-1)))) G1))) : Xr E d x_X7_setTransition 0 [some (.ref x0), some (.int x1), some (.int x2), some (.int x3), some (.int x4), none, none] [] G Q := by
  refine r_iload_n dX7_setTransition_0 rfl ?_
  refine r_iload_n dX7_setTransition_1 rfl ?_
  refine r_cI dX7_setTransition_2 rfl (invS_eq rfl (by decide) rfl rfl rfl rfl ⟨rfl, Nat.le_of_ble_eq_true rfl⟩) (qCI_imp (fun v2 G1 h => ?_) h)
  refine r_ifne (tgt := 10) dX7_setTransition_5 (by decide) (ite_imp (fun h => ?_) (fun h => ?_) h)
  · refine r_iload_n dX7_setTransition_10 rfl ?_
    refine r_i2l dX7_setTransition_11 ?_
    refine r_lconst (v := 0) dX7_setTransition_12 rfl ?_
    refine r_iload_n dX7_setTransition_13 rfl ?_
    refine r_cI dX7_setTransition_14 rfl (invS_eq rfl (by decide) rfl rfl rfl rfl ⟨rfl, Nat.le_of_ble_eq_true rfl⟩) (qCI_imp (fun v4 G3 h => ?_) h)
    refine r_ifle (tgt := 26) dX7_setTransition_17 (by decide) (ite_imp (fun h => ?_) (fun h => ?_) h)
    · refine r_lconst (v := 0) dX7_setTransition_26 rfl ?_
      refine r_cI dX7_setTransition_27 rfl (invS_eq rfl (by decide) rfl rfl rfl rfl ⟨rfl, Nat.le_of_ble_eq_true rfl⟩) (qCI_imp (fun v6 G5 h => ?_) h)
      refine r_ifeq (tgt := 58) dX7_setTransition_30 (by decide) (ite_imp (fun h => ?_) (fun h => ?_) h)
      · refine r_bipush dX7_setTransition_58 rfl ?_
        exact r_iret dX7_setTransition_60 rfl ⟨rfl, h⟩
      · refine r_iload dX7_setTransition_33 rfl ?_
        refine r_i2l dX7_setTransition_35 ?_
        refine r_lconst (v := 0) dX7_setTransition_36 rfl ?_
        refine r_iload_n dX7_setTransition_37 rfl ?_
        refine r_cI dX7_setTransition_38 rfl (invS_eq rfl (by decide) rfl rfl rfl rfl ⟨rfl, Nat.le_of_ble_eq_true rfl⟩) (qCI_imp (fun v8 G7 h => ?_) h)
        refine r_iconst dX7_setTransition_41 ?_
        refine r_cle (tgt := 51) dX7_setTransition_42 (by decide) (ite_imp (fun h => ?_) (fun h => ?_) h)
        · refine r_lconst (v := 0) dX7_setTransition_51 rfl ?_
          refine r_cI dX7_setTransition_52 rfl (invS_eq rfl (by decide) rfl rfl rfl rfl ⟨rfl, Nat.le_of_ble_eq_true rfl⟩) (qCI_imp (fun v10 G9 h => ?_) h)
          refine r_ifne (tgt := 61) dX7_setTransition_55 (by decide) (ite_imp (fun h => ?_) (fun h => ?_) h)
          · refine r_aload_n dX7_setTransition_61 rfl ?_
            refine r_cV dX7_setTransition_62 rfl (invV_eq rfl rfl rfl rfl rfl rfl ⟨rfl, Nat.le_of_ble_eq_true rfl⟩ h.1) (qCV_imp (fun G11 h => ?_) h.2)
            refine r_iload_n dX7_setTransition_65 rfl ?_
            refine r_iload_n dX7_setTransition_66 rfl ?_
            refine r_cI dX7_setTransition_67 rfl (invS_eq rfl (by decide) rfl rfl rfl rfl ⟨rfl, Nat.le_of_ble_eq_true rfl⟩) (qCI_imp (fun v13 G12 h => ?_) h)
            refine r_istore dX7_setTransition_70 rfl ?_
            refine r_aload_n dX7_setTransition_72 rfl ?_
            refine r_getR dX7_setTransition_73 rfl (qFR_imp (fun v14 h => ?_) h)
            refine r_iload dX7_setTransition_76 rfl ?_
            refine r_iald dX7_setTransition_78 (qIA_imp (fun v15 h => ?_) h)
            refine r_istore dX7_setTransition_79 rfl ?_
            refine r_aload_n dX7_setTransition_81 rfl ?_
            refine r_getR dX7_setTransition_82 rfl (qFR_imp (fun v16 h => ?_) h)
            refine r_iload dX7_setTransition_85 rfl ?_
            refine r_iconst dX7_setTransition_87 ?_
            refine r_iast dX7_setTransition_88 (qIS_imp (fun G17 h => ?_) h)
            refine r_aload_n dX7_setTransition_89 rfl ?_
            refine r_getR dX7_setTransition_90 rfl (qFR_imp (fun v18 h => ?_) h)
            refine r_iload dX7_setTransition_93 rfl ?_
            refine r_iconst dX7_setTransition_95 ?_
            refine r_iadd dX7_setTransition_96 ?_
            refine r_iload_n dX7_setTransition_97 rfl ?_
            refine r_iast dX7_setTransition_98 (qIS_imp (fun G19 h => ?_) h)
            refine r_aload_n dX7_setTransition_99 rfl ?_
            refine r_getR dX7_setTransition_100 rfl (qFR_imp (fun v20 h => ?_) h)
            refine r_iload dX7_setTransition_103 rfl ?_
            refine r_iconst dX7_setTransition_105 ?_
            refine r_iadd dX7_setTransition_106 ?_
            refine r_iload dX7_setTransition_107 rfl ?_
            refine r_iast dX7_setTransition_109 (qIS_imp (fun G21 h => ?_) h)
            refine r_iload dX7_setTransition_110 rfl ?_
            exact r_iret dX7_setTransition_112 rfl ⟨rfl, h⟩
          · refine r_bipush dX7_setTransition_58 rfl ?_
            exact r_iret dX7_setTransition_60 rfl ⟨rfl, h⟩
        · refine r_ldc2 dX7_setTransition_45 rfl ?_
          refine r_goto (tgt := 52) dX7_setTransition_48 (by decide) ?_
          refine r_cI dX7_setTransition_52 rfl (invS_eq rfl (by decide) rfl rfl rfl rfl ⟨rfl, Nat.le_of_ble_eq_true rfl⟩) (qCI_imp (fun v23 G22 h => ?_) h)
          refine r_ifne (tgt := 61) dX7_setTransition_55 (by decide) (ite_imp (fun h => ?_) (fun h => ?_) h)
          · refine r_aload_n dX7_setTransition_61 rfl ?_
            refine r_cV dX7_setTransition_62 rfl (invV_eq rfl rfl rfl rfl rfl rfl ⟨rfl, Nat.le_of_ble_eq_true rfl⟩ h.1) (qCV_imp (fun G24 h => ?_) h.2)
            refine r_iload_n dX7_setTransition_65 rfl ?_
            refine r_iload_n dX7_setTransition_66 rfl ?_
            refine r_cI dX7_setTransition_67 rfl (invS_eq rfl (by decide) rfl rfl rfl rfl ⟨rfl, Nat.le_of_ble_eq_true rfl⟩) (qCI_imp (fun v26 G25 h => ?_) h)
            refine r_istore dX7_setTransition_70 rfl ?_
            refine r_aload_n dX7_setTransition_72 rfl ?_
            refine r_getR dX7_setTransition_73 rfl (qFR_imp (fun v27 h => ?_) h)
            refine r_iload dX7_setTransition_76 rfl ?_
            refine r_iald dX7_setTransition_78 (qIA_imp (fun v28 h => ?_) h)
            refine r_istore dX7_setTransition_79 rfl ?_
            refine r_aload_n dX7_setTransition_81 rfl ?_
            refine r_getR dX7_setTransition_82 rfl (qFR_imp (fun v29 h => ?_) h)
            refine r_iload dX7_setTransition_85 rfl ?_
            refine r_iconst dX7_setTransition_87 ?_
            refine r_iast dX7_setTransition_88 (qIS_imp (fun G30 h => ?_) h)
            refine r_aload_n dX7_setTransition_89 rfl ?_
            refine r_getR dX7_setTransition_90 rfl (qFR_imp (fun v31 h => ?_) h)
            refine r_iload dX7_setTransition_93 rfl ?_
            refine r_iconst dX7_setTransition_95 ?_
            refine r_iadd dX7_setTransition_96 ?_
            refine r_iload_n dX7_setTransition_97 rfl ?_
            refine r_iast dX7_setTransition_98 (qIS_imp (fun G32 h => ?_) h)
            refine r_aload_n dX7_setTransition_99 rfl ?_
            refine r_getR dX7_setTransition_100 rfl (qFR_imp (fun v33 h => ?_) h)
            refine r_iload dX7_setTransition_103 rfl ?_
            refine r_iconst dX7_setTransition_105 ?_
            refine r_iadd dX7_setTransition_106 ?_
            refine r_iload dX7_setTransition_107 rfl ?_
            refine r_iast dX7_setTransition_109 (qIS_imp (fun G34 h => ?_) h)
            refine r_iload dX7_setTransition_110 rfl ?_
            exact r_iret dX7_setTransition_112 rfl ⟨rfl, h⟩
          · refine r_bipush dX7_setTransition_58 rfl ?_
            exact r_iret dX7_setTransition_60 rfl ⟨rfl, h⟩
    · refine r_ldc2 dX7_setTransition_20 rfl ?_
      refine r_goto (tgt := 27) dX7_setTransition_23 (by decide) ?_
      refine r_cI dX7_setTransition_27 rfl (invS_eq rfl (by decide) rfl rfl rfl rfl ⟨rfl, Nat.le_of_ble_eq_true rfl⟩) (qCI_imp (fun v36 G35 h => ?_) h)
      refine r_ifeq (tgt := 58) dX7_setTransition_30 (by decide) (ite_imp (fun h => ?_) (fun h => ?_) h)
      · refine r_bipush dX7_setTransition_58 rfl ?_
        exact r_iret dX7_setTransition_60 rfl ⟨rfl, h⟩
      · refine r_iload dX7_setTransition_33 rfl ?_
        refine r_i2l dX7_setTransition_35 ?_
        refine r_lconst (v := 0) dX7_setTransition_36 rfl ?_
        refine r_iload_n dX7_setTransition_37 rfl ?_
        refine r_cI dX7_setTransition_38 rfl (invS_eq rfl (by decide) rfl rfl rfl rfl ⟨rfl, Nat.le_of_ble_eq_true rfl⟩) (qCI_imp (fun v38 G37 h => ?_) h)
        refine r_iconst dX7_setTransition_41 ?_
        refine r_cle (tgt := 51) dX7_setTransition_42 (by decide) (ite_imp (fun h => ?_) (fun h => ?_) h)
        · refine r_lconst (v := 0) dX7_setTransition_51 rfl ?_
          refine r_cI dX7_setTransition_52 rfl (invS_eq rfl (by decide) rfl rfl rfl rfl ⟨rfl, Nat.le_of_ble_eq_true rfl⟩) (qCI_imp (fun v40 G39 h => ?_) h)
          refine r_ifne (tgt := 61) dX7_setTransition_55 (by decide) (ite_imp (fun h => ?_) (fun h => ?_) h)
          · refine r_aload_n dX7_setTransition_61 rfl ?_
            refine r_cV dX7_setTransition_62 rfl (invV_eq rfl rfl rfl rfl rfl rfl ⟨rfl, Nat.le_of_ble_eq_true rfl⟩ h.1) (qCV_imp (fun G41 h => ?_) h.2)
            refine r_iload_n dX7_setTransition_65 rfl ?_
            refine r_iload_n dX7_setTransition_66 rfl ?_
            refine r_cI dX7_setTransition_67 rfl (invS_eq rfl (by decide) rfl rfl rfl rfl ⟨rfl, Nat.le_of_ble_eq_true rfl⟩) (qCI_imp (fun v43 G42 h => ?_) h)
            refine r_istore dX7_setTransition_70 rfl ?_
            refine r_aload_n dX7_setTransition_72 rfl ?_
            refine r_getR dX7_setTransition_73 rfl (qFR_imp (fun v44 h => ?_) h)
            refine r_iload dX7_setTransition_76 rfl ?_
            refine r_iald dX7_setTransition_78 (qIA_imp (fun v45 h => ?_) h)
            refine r_istore dX7_setTransition_79 rfl ?_
            refine r_aload_n dX7_setTransition_81 rfl ?_
            refine r_getR dX7_setTransition_82 rfl (qFR_imp (fun v46 h => ?_) h)
            refine r_iload dX7_setTransition_85 rfl ?_
            refine r_iconst dX7_setTransition_87 ?_
            refine r_iast dX7_setTransition_88 (qIS_imp (fun G47 h => ?_) h)
            refine r_aload_n dX7_setTransition_89 rfl ?_
            refine r_getR dX7_setTransition_90 rfl (qFR_imp (fun v48 h => ?_) h)
            refine r_iload dX7_setTransition_93 rfl ?_
            refine r_iconst dX7_setTransition_95 ?_
            refine r_iadd dX7_setTransition_96 ?_
            refine r_iload_n dX7_setTransition_97 rfl ?_
            refine r_iast dX7_setTransition_98 (qIS_imp (fun G49 h => ?_) h)
            refine r_aload_n dX7_setTransition_99 rfl ?_
            refine r_getR dX7_setTransition_100 rfl (qFR_imp (fun v50 h => ?_) h)
            refine r_iload dX7_setTransition_103 rfl ?_
            refine r_iconst dX7_setTransition_105 ?_
            refine r_iadd dX7_setTransition_106 ?_
            refine r_iload dX7_setTransition_107 rfl ?_
            refine r_iast dX7_setTransition_109 (qIS_imp (fun G51 h => ?_) h)
            refine r_iload dX7_setTransition_110 rfl ?_
            exact r_iret dX7_setTransition_112 rfl ⟨rfl, h⟩
          · refine r_bipush dX7_setTransition_58 rfl ?_
            exact r_iret dX7_setTransition_60 rfl ⟨rfl, h⟩
        · refine r_ldc2 dX7_setTransition_45 rfl ?_
          refine r_goto (tgt := 52) dX7_setTransition_48 (by decide) ?_
          refine r_cI dX7_setTransition_52 rfl (invS_eq rfl (by decide) rfl rfl rfl rfl ⟨rfl, Nat.le_of_ble_eq_true rfl⟩) (qCI_imp (fun v53 G52 h => ?_) h)
          refine r_ifne (tgt := 61) dX7_setTransition_55 (by decide) (ite_imp (fun h => ?_) (fun h => ?_) h)
          · refine r_aload_n dX7_setTransition_61 rfl ?_
            refine r_cV dX7_setTransition_62 rfl (invV_eq rfl rfl rfl rfl rfl rfl ⟨rfl, Nat.le_of_ble_eq_true rfl⟩ h.1) (qCV_imp (fun G54 h => ?_) h.2)
            refine r_iload_n dX7_setTransition_65 rfl ?_
            refine r_iload_n dX7_setTransition_66 rfl ?_
            refine r_cI dX7_setTransition_67 rfl (invS_eq rfl (by decide) rfl rfl rfl rfl ⟨rfl, Nat.le_of_ble_eq_true rfl⟩) (qCI_imp (fun v56 G55 h => ?_) h)
            refine r_istore dX7_setTransition_70 rfl ?_
            refine r_aload_n dX7_setTransition_72 rfl ?_
            refine r_getR dX7_setTransition_73 rfl (qFR_imp (fun v57 h => ?_) h)
            refine r_iload dX7_setTransition_76 rfl ?_
            refine r_iald dX7_setTransition_78 (qIA_imp (fun v58 h => ?_) h)
            refine r_istore dX7_setTransition_79 rfl ?_
            refine r_aload_n dX7_setTransition_81 rfl ?_
            refine r_getR dX7_setTransition_82 rfl (qFR_imp (fun v59 h => ?_) h)
            refine r_iload dX7_setTransition_85 rfl ?_
            refine r_iconst dX7_setTransition_87 ?_
            refine r_iast dX7_setTransition_88 (qIS_imp (fun G60 h => ?_) h)
            refine r_aload_n dX7_setTransition_89 rfl ?_
            refine r_getR dX7_setTransition_90 rfl (qFR_imp (fun v61 h => ?_) h)
            refine r_iload dX7_setTransition_93 rfl ?_
            refine r_iconst dX7_setTransition_95 ?_
            refine r_iadd dX7_setTransition_96 ?_
            refine r_iload_n dX7_setTransition_97 rfl ?_
            refine r_iast dX7_setTransition_98 (qIS_imp (fun G62 h => ?_) h)
            refine r_aload_n dX7_setTransition_99 rfl ?_
            refine r_getR dX7_setTransition_100 rfl (qFR_imp (fun v63 h => ?_) h)
            refine r_iload dX7_setTransition_103 rfl ?_
            refine r_iconst dX7_setTransition_105 ?_
            refine r_iadd dX7_setTransition_106 ?_
            refine r_iload dX7_setTransition_107 rfl ?_
            refine r_iast dX7_setTransition_109 (qIS_imp (fun G64 h => ?_) h)
            refine r_iload dX7_setTransition_110 rfl ?_
            exact r_iret dX7_setTransition_112 rfl ⟨rfl, h⟩
          · refine r_bipush dX7_setTransition_58 rfl ?_
            exact r_iret dX7_setTransition_60 rfl ⟨rfl, h⟩
  · refine r_iconst dX7_setTransition_8 ?_
    exact r_iret dX7_setTransition_9 rfl ⟨rfl, h⟩
theorem e_X7_setTransition {E : Ev} {d : Nat} {G : Hp} {Q : Po} {x0 : Nat} {x1 : Int32} {x2 : Int32} {x3 : Int32} {x4 : Int32} (h : (qCI E d i_X7_isPair [.int x1, .int x2] G fun v2 G1 => (if ¬ v2 = 0 then (qCI E d i_X7_places [.int x2] G1 fun v4 G3 => (if v4 ≤ 0 then (qCI E d i_X7_in [.long (((x3).toInt64)), .long 0, .long 0] G3 fun v6 G5 => (if v6 = 0 then Q (some (.int (iv (-2)))) G5 else (qCI E d i_X7_places [.int x2] G5 fun v8 G7 => (if v8 ≤ (iv 1) then (qCI E d i_X7_in [.long (((x4).toInt64)), .long 0, .long 0] G7 fun v10 G9 => (if ¬ v10 = 0 then (rcv E G9 x0 7 = true ∧ (qCV E d i_X7_note [.ref x0] G9 fun G11 => (qCI E d i_X7_stepAt [.int x1, .int x2] G11 fun v13 G12 => (qFR E G12 x0 7 2 fun v14 => (qIA 7 E G12 v14 v13 fun v15 => (qFR E G12 x0 7 2 fun v16 => (qIS E G12 v16 v13 (iv 1) fun G17 => (qFR E G17 x0 7 2 fun v18 => (qIS E G17 v18 (v13 + (iv 1)) x3 fun G19 => (qFR E G19 x0 7 2 fun v20 => (qIS E G19 v20 (v13 + (iv 2)) x4 fun G21 => Q (some (.int v15)) G21))))))))))) else Q (some (.int (iv (-2)))) G9)) else (qCI E d i_X7_in [.long (((x4).toInt64)), .long 0, .long 2] G7 fun v23 G22 => (if ¬ v23 = 0 then (rcv E G22 x0 7 = true ∧ (qCV E d i_X7_note [.ref x0] G22 fun G24 => (qCI E d i_X7_stepAt [.int x1, .int x2] G24 fun v26 G25 => (qFR E G25 x0 7 2 fun v27 => (qIA 7 E G25 v27 v26 fun v28 => (qFR E G25 x0 7 2 fun v29 => (qIS E G25 v29 v26 (iv 1) fun G30 => (qFR E G30 x0 7 2 fun v31 => (qIS E G30 v31 (v26 + (iv 1)) x3 fun G32 => (qFR E G32 x0 7 2 fun v33 => (qIS E G32 v33 (v26 + (iv 2)) x4 fun G34 => Q (some (.int v28)) G34))))))))))) else Q (some (.int (iv (-2)))) G22)))))) else (qCI E d i_X7_in [.long (((x3).toInt64)), .long 0, .long 2] G3 fun v36 G35 => (if v36 = 0 then Q (some (.int (iv (-2)))) G35 else (qCI E d i_X7_places [.int x2] G35 fun v38 G37 => (if v38 ≤ (iv 1) then (qCI E d i_X7_in [.long (((x4).toInt64)), .long 0, .long 0] G37 fun v40 G39 => (if ¬ v40 = 0 then (rcv E G39 x0 7 = true ∧ (qCV E d i_X7_note [.ref x0] G39 fun G41 => (qCI E d i_X7_stepAt [.int x1, .int x2] G41 fun v43 G42 => (qFR E G42 x0 7 2 fun v44 => (qIA 7 E G42 v44 v43 fun v45 => (qFR E G42 x0 7 2 fun v46 => (qIS E G42 v46 v43 (iv 1) fun G47 => (qFR E G47 x0 7 2 fun v48 => (qIS E G47 v48 (v43 + (iv 1)) x3 fun G49 => (qFR E G49 x0 7 2 fun v50 => (qIS E G49 v50 (v43 + (iv 2)) x4 fun G51 => Q (some (.int v45)) G51))))))))))) else Q (some (.int (iv (-2)))) G39)) else (qCI E d i_X7_in [.long (((x4).toInt64)), .long 0, .long 2] G37 fun v53 G52 => (if ¬ v53 = 0 then (rcv E G52 x0 7 = true ∧ (qCV E d i_X7_note [.ref x0] G52 fun G54 => (qCI E d i_X7_stepAt [.int x1, .int x2] G54 fun v56 G55 => (qFR E G55 x0 7 2 fun v57 => (qIA 7 E G55 v57 v56 fun v58 => (qFR E G55 x0 7 2 fun v59 => (qIS E G55 v59 v56 (iv 1) fun G60 => (qFR E G60 x0 7 2 fun v61 => (qIS E G60 v61 (v56 + (iv 1)) x3 fun G62 => (qFR E G62 x0 7 2 fun v63 => (qIS E G62 v63 (v56 + (iv 2)) x4 fun G64 => Q (some (.int v58)) G64))))))))))) else Q (some (.int (iv (-2)))) G52)))))))) else Q (some (.int (iv (-1)))) G1))) : runs E (d + 1) i_X7_setTransition [.ref x0, .int x1, .int x2, .int x3, .int x4] G Q := by
  rw [runs_eq (m := (yX7_setTransition, cX7_setTransition, 7, some (.int), 4, 7, false, false)) rfl (Nat.le_of_ble_eq_true rfl)]
  exact g_X7_setTransition_0 h
theorem dX7_removeTransition_0 : decode cX7_removeTransition 0 = .ok (.iload_n 1, 1) := by decide +kernel
theorem dX7_removeTransition_1 : decode cX7_removeTransition 1 = .ok (.iload_n 2, 1) := by decide +kernel
theorem dX7_removeTransition_2 : decode cX7_removeTransition 2 = .ok (.invokestatic 126, 3) := by decide +kernel
theorem dX7_removeTransition_5 : decode cX7_removeTransition 5 = .ok (.ifCond .ne 5, 3) := by decide +kernel
theorem dX7_removeTransition_8 : decode cX7_removeTransition 8 = .ok (.iconst (-1), 1) := by decide +kernel
theorem dX7_removeTransition_9 : decode cX7_removeTransition 9 = .ok (.ireturn, 1) := by decide +kernel
theorem dX7_removeTransition_10 : decode cX7_removeTransition 10 = .ok (.aload_n 0, 1) := by decide +kernel
theorem dX7_removeTransition_11 : decode cX7_removeTransition 11 = .ok (.getfield 13, 3) := by decide +kernel
theorem dX7_removeTransition_14 : decode cX7_removeTransition 14 = .ok (.iload_n 1, 1) := by decide +kernel
theorem dX7_removeTransition_15 : decode cX7_removeTransition 15 = .ok (.iload_n 2, 1) := by decide +kernel
theorem dX7_removeTransition_16 : decode cX7_removeTransition 16 = .ok (.invokestatic 129, 3) := by decide +kernel
theorem dX7_removeTransition_19 : decode cX7_removeTransition 19 = .ok (.iaload, 1) := by decide +kernel
theorem dX7_removeTransition_20 : decode cX7_removeTransition 20 = .ok (.ifCond .ne 6, 3) := by decide +kernel
theorem dX7_removeTransition_23 : decode cX7_removeTransition 23 = .ok (.bipush (-3), 2) := by decide +kernel
theorem dX7_removeTransition_25 : decode cX7_removeTransition 25 = .ok (.ireturn, 1) := by decide +kernel
theorem dX7_removeTransition_26 : decode cX7_removeTransition 26 = .ok (.aload_n 0, 1) := by decide +kernel
theorem dX7_removeTransition_27 : decode cX7_removeTransition 27 = .ok (.invokevirtual 135, 3) := by decide +kernel
theorem dX7_removeTransition_30 : decode cX7_removeTransition 30 = .ok (.aload_n 0, 1) := by decide +kernel
theorem dX7_removeTransition_31 : decode cX7_removeTransition 31 = .ok (.getfield 13, 3) := by decide +kernel
theorem dX7_removeTransition_34 : decode cX7_removeTransition 34 = .ok (.iload_n 1, 1) := by decide +kernel
theorem dX7_removeTransition_35 : decode cX7_removeTransition 35 = .ok (.iload_n 2, 1) := by decide +kernel
theorem dX7_removeTransition_36 : decode cX7_removeTransition 36 = .ok (.invokestatic 129, 3) := by decide +kernel
theorem dX7_removeTransition_39 : decode cX7_removeTransition 39 = .ok (.iconst 0, 1) := by decide +kernel
theorem dX7_removeTransition_40 : decode cX7_removeTransition 40 = .ok (.iastore, 1) := by decide +kernel
theorem dX7_removeTransition_41 : decode cX7_removeTransition 41 = .ok (.aload_n 0, 1) := by decide +kernel
theorem dX7_removeTransition_42 : decode cX7_removeTransition 42 = .ok (.getfield 13, 3) := by decide +kernel
theorem dX7_removeTransition_45 : decode cX7_removeTransition 45 = .ok (.invokestatic 116, 3) := by decide +kernel
theorem dX7_removeTransition_48 : decode cX7_removeTransition 48 = .ok (.ireturn, 1) := by decide +kernel
abbrev x_X7_removeTransition : Cx := (7, cX7_removeTransition, false, some (.int))
set_option maxRecDepth 10000 in
theorem g_X7_removeTransition_0 {E : Ev} {d : Nat} {G : Hp} {Q : Po} {x0 : Nat} {x1 : Int32} {x2 : Int32} (h : (qCI E d i_X7_isPair [.int x1, .int x2] G fun v2 G1 => (if ¬ v2 = 0 then (qFR E G1 x0 7 2 fun v3 => (qCI E d i_X7_stepAt [.int x1, .int x2] G1 fun v5 G4 => (qIA 7 E G4 v3 v5 fun v6 => (if ¬ v6 = 0 then (rcv E G4 x0 7 = true ∧ (qCV E d i_X7_note [.ref x0] G4 fun G7 => (qFR E G7 x0 7 2 fun v8 => (qCI E d i_X7_stepAt [.int x1, .int x2] G7 fun v10 G9 => (qIS E G9 v8 v10 (iv 0) fun G11 => (qFR E G11 x0 7 2 fun v12 => (qCI E d i_X7_stepsOf [.ref v12] G11 fun v14 G13 => Q (some (.int v14)) G13))))))) else Q (some (.int (iv (-3)))) G4)))) else Q (some (.int (iv (-1)))) G1))) : Xr E d x_X7_removeTransition 0 [some (.ref x0), some (.int x1), some (.int x2)] [] G Q := by
  refine r_iload_n dX7_removeTransition_0 rfl ?_
  refine r_iload_n dX7_removeTransition_1 rfl ?_
  refine r_cI dX7_removeTransition_2 rfl (invS_eq rfl (by decide) rfl rfl rfl rfl ⟨rfl, Nat.le_of_ble_eq_true rfl⟩) (qCI_imp (fun v2 G1 h => ?_) h)
  refine r_ifne (tgt := 10) dX7_removeTransition_5 (by decide) (ite_imp (fun h => ?_) (fun h => ?_) h)
  · refine r_aload_n dX7_removeTransition_10 rfl ?_
    refine r_getR dX7_removeTransition_11 rfl (qFR_imp (fun v3 h => ?_) h)
    refine r_iload_n dX7_removeTransition_14 rfl ?_
    refine r_iload_n dX7_removeTransition_15 rfl ?_
    refine r_cI dX7_removeTransition_16 rfl (invS_eq rfl (by decide) rfl rfl rfl rfl ⟨rfl, Nat.le_of_ble_eq_true rfl⟩) (qCI_imp (fun v5 G4 h => ?_) h)
    refine r_iald dX7_removeTransition_19 (qIA_imp (fun v6 h => ?_) h)
    refine r_ifne (tgt := 26) dX7_removeTransition_20 (by decide) (ite_imp (fun h => ?_) (fun h => ?_) h)
    · refine r_aload_n dX7_removeTransition_26 rfl ?_
      refine r_cV dX7_removeTransition_27 rfl (invV_eq rfl rfl rfl rfl rfl rfl ⟨rfl, Nat.le_of_ble_eq_true rfl⟩ h.1) (qCV_imp (fun G7 h => ?_) h.2)
      refine r_aload_n dX7_removeTransition_30 rfl ?_
      refine r_getR dX7_removeTransition_31 rfl (qFR_imp (fun v8 h => ?_) h)
      refine r_iload_n dX7_removeTransition_34 rfl ?_
      refine r_iload_n dX7_removeTransition_35 rfl ?_
      refine r_cI dX7_removeTransition_36 rfl (invS_eq rfl (by decide) rfl rfl rfl rfl ⟨rfl, Nat.le_of_ble_eq_true rfl⟩) (qCI_imp (fun v10 G9 h => ?_) h)
      refine r_iconst dX7_removeTransition_39 ?_
      refine r_iast dX7_removeTransition_40 (qIS_imp (fun G11 h => ?_) h)
      refine r_aload_n dX7_removeTransition_41 rfl ?_
      refine r_getR dX7_removeTransition_42 rfl (qFR_imp (fun v12 h => ?_) h)
      refine r_cI dX7_removeTransition_45 rfl (invS_eq rfl (by decide) rfl rfl rfl rfl ⟨rfl, Nat.le_of_ble_eq_true rfl⟩) (qCI_imp (fun v14 G13 h => ?_) h)
      exact r_iret dX7_removeTransition_48 rfl ⟨rfl, h⟩
    · refine r_bipush dX7_removeTransition_23 rfl ?_
      exact r_iret dX7_removeTransition_25 rfl ⟨rfl, h⟩
  · refine r_iconst dX7_removeTransition_8 ?_
    exact r_iret dX7_removeTransition_9 rfl ⟨rfl, h⟩
theorem e_X7_removeTransition {E : Ev} {d : Nat} {G : Hp} {Q : Po} {x0 : Nat} {x1 : Int32} {x2 : Int32} (h : (qCI E d i_X7_isPair [.int x1, .int x2] G fun v2 G1 => (if ¬ v2 = 0 then (qFR E G1 x0 7 2 fun v3 => (qCI E d i_X7_stepAt [.int x1, .int x2] G1 fun v5 G4 => (qIA 7 E G4 v3 v5 fun v6 => (if ¬ v6 = 0 then (rcv E G4 x0 7 = true ∧ (qCV E d i_X7_note [.ref x0] G4 fun G7 => (qFR E G7 x0 7 2 fun v8 => (qCI E d i_X7_stepAt [.int x1, .int x2] G7 fun v10 G9 => (qIS E G9 v8 v10 (iv 0) fun G11 => (qFR E G11 x0 7 2 fun v12 => (qCI E d i_X7_stepsOf [.ref v12] G11 fun v14 G13 => Q (some (.int v14)) G13))))))) else Q (some (.int (iv (-3)))) G4)))) else Q (some (.int (iv (-1)))) G1))) : runs E (d + 1) i_X7_removeTransition [.ref x0, .int x1, .int x2] G Q := by
  rw [runs_eq (m := (yX7_removeTransition, cX7_removeTransition, 3, some (.int), 2, 7, false, false)) rfl (Nat.le_of_ble_eq_true rfl)]
  exact g_X7_removeTransition_0 h
theorem dX7_put_0 : decode cX7_put 0 = .ok (.aload_n 0, 1) := by decide +kernel
theorem dX7_put_1 : decode cX7_put 1 = .ok (.getfield 142, 3) := by decide +kernel
theorem dX7_put_4 : decode cX7_put 4 = .ok (.sipush 200, 3) := by decide +kernel
theorem dX7_put_7 : decode cX7_put 7 = .ok (.if_icmp .ge 13, 3) := by decide +kernel
theorem dX7_put_10 : decode cX7_put 10 = .ok (.aload_n 0, 1) := by decide +kernel
theorem dX7_put_11 : decode cX7_put 11 = .ok (.getfield 35, 3) := by decide +kernel
theorem dX7_put_14 : decode cX7_put 14 = .ok (.aload_n 0, 1) := by decide +kernel
theorem dX7_put_15 : decode cX7_put 15 = .ok (.getfield 142, 3) := by decide +kernel
theorem dX7_put_18 : decode cX7_put 18 = .ok (.iload_n 1, 1) := by decide +kernel
theorem dX7_put_19 : decode cX7_put 19 = .ok (.iastore, 1) := by decide +kernel
theorem dX7_put_20 : decode cX7_put 20 = .ok (.aload_n 0, 1) := by decide +kernel
theorem dX7_put_21 : decode cX7_put 21 = .ok (.dup, 1) := by decide +kernel
theorem dX7_put_22 : decode cX7_put 22 = .ok (.getfield 142, 3) := by decide +kernel
theorem dX7_put_25 : decode cX7_put 25 = .ok (.iconst 1, 1) := by decide +kernel
theorem dX7_put_26 : decode cX7_put 26 = .ok (.iadd, 1) := by decide +kernel
theorem dX7_put_27 : decode cX7_put 27 = .ok (.putfield 142, 3) := by decide +kernel
theorem dX7_put_30 : decode cX7_put 30 = .ok (.return_, 1) := by decide +kernel
abbrev x_X7_put : Cx := (7, cX7_put, false, none)
set_option maxRecDepth 10000 in
theorem g_X7_put_0 {E : Ev} {d : Nat} {G : Hp} {Q : Po} {x0 : Nat} {x1 : Int32} (h : (qFI E G x0 7 13 fun v1 => (if (iv 200) ≤ v1 then (qFI E G x0 7 13 fun v2 => (qP E G x0 7 13 (.int ((v2 + (iv 1)))) fun G3 => Q none G3)) else (qFR E G x0 7 12 fun v4 => (qFI E G x0 7 13 fun v5 => (qIS E G v4 v5 x1 fun G6 => (qFI E G6 x0 7 13 fun v7 => (qP E G6 x0 7 13 (.int ((v7 + (iv 1)))) fun G8 => Q none G8)))))))) : Xr E d x_X7_put 0 [some (.ref x0), some (.int x1)] [] G Q := by
  refine r_aload_n dX7_put_0 rfl ?_
  refine r_getI dX7_put_1 rfl (qFI_imp (fun v1 h => ?_) h)
  refine r_sipush dX7_put_4 rfl ?_
  refine r_cge (tgt := 20) dX7_put_7 (by decide) (ite_imp (fun h => ?_) (fun h => ?_) h)
  · refine r_aload_n dX7_put_20 rfl ?_
    refine r_dup dX7_put_21 rfl ?_
    refine r_getI dX7_put_22 rfl (qFI_imp (fun v2 h => ?_) h)
    refine r_iconst dX7_put_25 ?_
    refine r_iadd dX7_put_26 ?_
    refine r_put dX7_put_27 rfl rfl (by decide) (qP_imp (fun G3 h => ?_) h)
    exact r_vret dX7_put_30 rfl h
  · refine r_aload_n dX7_put_10 rfl ?_
    refine r_getR dX7_put_11 rfl (qFR_imp (fun v4 h => ?_) h)
    refine r_aload_n dX7_put_14 rfl ?_
    refine r_getI dX7_put_15 rfl (qFI_imp (fun v5 h => ?_) h)
    refine r_iload_n dX7_put_18 rfl ?_
    refine r_iast dX7_put_19 (qIS_imp (fun G6 h => ?_) h)
    refine r_aload_n dX7_put_20 rfl ?_
    refine r_dup dX7_put_21 rfl ?_
    refine r_getI dX7_put_22 rfl (qFI_imp (fun v7 h => ?_) h)
    refine r_iconst dX7_put_25 ?_
    refine r_iadd dX7_put_26 ?_
    refine r_put dX7_put_27 rfl rfl (by decide) (qP_imp (fun G8 h => ?_) h)
    exact r_vret dX7_put_30 rfl h
theorem e_X7_put {E : Ev} {d : Nat} {G : Hp} {Q : Po} {x0 : Nat} {x1 : Int32} (h : (qFI E G x0 7 13 fun v1 => (if (iv 200) ≤ v1 then (qFI E G x0 7 13 fun v2 => (qP E G x0 7 13 (.int ((v2 + (iv 1)))) fun G3 => Q none G3)) else (qFR E G x0 7 12 fun v4 => (qFI E G x0 7 13 fun v5 => (qIS E G v4 v5 x1 fun G6 => (qFI E G6 x0 7 13 fun v7 => (qP E G6 x0 7 13 (.int ((v7 + (iv 1)))) fun G8 => Q none G8)))))))) : runs E (d + 1) i_X7_put [.ref x0, .int x1] G Q := by
  rw [runs_eq (m := (yX7_put, cX7_put, 2, none, 1, 7, false, false)) rfl (Nat.le_of_ble_eq_true rfl)]
  exact g_X7_put_0 h
theorem dX7_putPart_0 : decode cX7_putPart 0 = .ok (.iload_n 2, 1) := by decide +kernel
theorem dX7_putPart_1 : decode cX7_putPart 1 = .ok (.istore 4, 2) := by decide +kernel
theorem dX7_putPart_3 : decode cX7_putPart 3 = .ok (.iload 4, 2) := by decide +kernel
theorem dX7_putPart_5 : decode cX7_putPart 5 = .ok (.iload_n 3, 1) := by decide +kernel
theorem dX7_putPart_6 : decode cX7_putPart 6 = .ok (.if_icmp .ge 17, 3) := by decide +kernel
theorem dX7_putPart_9 : decode cX7_putPart 9 = .ok (.aload_n 0, 1) := by decide +kernel
theorem dX7_putPart_10 : decode cX7_putPart 10 = .ok (.aload_n 1, 1) := by decide +kernel
theorem dX7_putPart_11 : decode cX7_putPart 11 = .ok (.iload 4, 2) := by decide +kernel
theorem dX7_putPart_13 : decode cX7_putPart 13 = .ok (.iaload, 1) := by decide +kernel
theorem dX7_putPart_14 : decode cX7_putPart 14 = .ok (.invokevirtual 145, 3) := by decide +kernel
theorem dX7_putPart_17 : decode cX7_putPart 17 = .ok (.iinc 4 1, 3) := by decide +kernel
theorem dX7_putPart_20 : decode cX7_putPart 20 = .ok (.goto (-17), 3) := by decide +kernel
theorem dX7_putPart_23 : decode cX7_putPart 23 = .ok (.return_, 1) := by decide +kernel
abbrev x_X7_putPart : Cx := (7, cX7_putPart, false, none)
set_option maxRecDepth 10000 in
theorem g_X7_putPart_0 {E : Ev} {d : Nat} {G : Hp} {Q : Po} {x0 : Nat} {x1 : Nat} {x2 : Int32} {x3 : Int32} (h : Xr E d x_X7_putPart 3 [some (.ref x0), some (.ref x1), some (.int x2), some (.int x3), some (.int x2)] [] G Q) : Xr E d x_X7_putPart 0 [some (.ref x0), some (.ref x1), some (.int x2), some (.int x3), none] [] G Q := by
  refine r_iload_n dX7_putPart_0 rfl ?_
  refine r_istore dX7_putPart_1 rfl ?_
  exact h
theorem e_X7_putPart {E : Ev} {d : Nat} {G : Hp} {Q : Po} {x0 : Nat} {x1 : Nat} {x2 : Int32} {x3 : Int32} (h : Xr E d x_X7_putPart 3 [some (.ref x0), some (.ref x1), some (.int x2), some (.int x3), some (.int x2)] [] G Q) : runs E (d + 1) i_X7_putPart [.ref x0, .ref x1, .int x2, .int x3] G Q := by
  rw [runs_eq (m := (yX7_putPart, cX7_putPart, 5, none, 3, 7, false, false)) rfl (Nat.le_of_ble_eq_true rfl)]
  exact g_X7_putPart_0 h
set_option maxRecDepth 10000 in
theorem g_X7_putPart_3 {E : Ev} {d : Nat} {G : Hp} {Q : Po} {x0 : Nat} {x1 : Nat} {x2 : Int32} {x3 : Int32} {x4 : Int32} (h : (if x3 ≤ x4 then Q none G else (qIA 7 E G x1 x4 fun v1 => (rcv E G x0 7 = true ∧ (qCV E d i_X7_put [.ref x0, .int v1] G fun G2 => Xr E d x_X7_putPart 3 [some (.ref x0), some (.ref x1), some (.int x2), some (.int x3), some (.int ((x4 + (iv 1))))] [] G2 Q))))) : Xr E d x_X7_putPart 3 [some (.ref x0), some (.ref x1), some (.int x2), some (.int x3), some (.int x4)] [] G Q := by
  refine r_iload dX7_putPart_3 rfl ?_
  refine r_iload_n dX7_putPart_5 rfl ?_
  refine r_cge (tgt := 23) dX7_putPart_6 (by decide) (ite_imp (fun h => ?_) (fun h => ?_) h)
  · exact r_vret dX7_putPart_23 rfl h
  · refine r_aload_n dX7_putPart_9 rfl ?_
    refine r_aload_n dX7_putPart_10 rfl ?_
    refine r_iload dX7_putPart_11 rfl ?_
    refine r_iald dX7_putPart_13 (qIA_imp (fun v1 h => ?_) h)
    refine r_cV dX7_putPart_14 rfl (invV_eq rfl rfl rfl rfl rfl rfl ⟨rfl, Nat.le_of_ble_eq_true rfl⟩ h.1) (qCV_imp (fun G2 h => ?_) h.2)
    refine r_iinc dX7_putPart_17 rfl rfl ?_
    refine r_goto (tgt := 3) dX7_putPart_20 (by decide) ?_
    exact h
theorem dX7_putExpanded_0 : decode cX7_putExpanded 0 = .ok (.aload_n 2, 1) := by decide +kernel
theorem dX7_putExpanded_1 : decode cX7_putExpanded 1 = .ok (.iload_n 3, 1) := by decide +kernel
theorem dX7_putExpanded_2 : decode cX7_putExpanded 2 = .ok (.iaload, 1) := by decide +kernel
theorem dX7_putExpanded_3 : decode cX7_putExpanded 3 = .ok (.invokestatic 70, 3) := by decide +kernel
theorem dX7_putExpanded_6 : decode cX7_putExpanded 6 = .ok (.istore 4, 2) := by decide +kernel
theorem dX7_putExpanded_8 : decode cX7_putExpanded 8 = .ok (.iload_n 3, 1) := by decide +kernel
theorem dX7_putExpanded_9 : decode cX7_putExpanded 9 = .ok (.iconst 1, 1) := by decide +kernel
theorem dX7_putExpanded_10 : decode cX7_putExpanded 10 = .ok (.iadd, 1) := by decide +kernel
theorem dX7_putExpanded_11 : decode cX7_putExpanded 11 = .ok (.istore 5, 2) := by decide +kernel
theorem dX7_putExpanded_13 : decode cX7_putExpanded 13 = .ok (.iload 4, 2) := by decide +kernel
theorem dX7_putExpanded_15 : decode cX7_putExpanded 15 = .ok (.invokestatic 73, 3) := by decide +kernel
theorem dX7_putExpanded_18 : decode cX7_putExpanded 18 = .ok (.ifCond .le 12, 3) := by decide +kernel
theorem dX7_putExpanded_21 : decode cX7_putExpanded 21 = .ok (.aload_n 2, 1) := by decide +kernel
theorem dX7_putExpanded_22 : decode cX7_putExpanded 22 = .ok (.iload 5, 2) := by decide +kernel
theorem dX7_putExpanded_24 : decode cX7_putExpanded 24 = .ok (.invokestatic 149, 3) := by decide +kernel
theorem dX7_putExpanded_27 : decode cX7_putExpanded 27 = .ok (.goto 5, 3) := by decide +kernel
theorem dX7_putExpanded_30 : decode cX7_putExpanded 30 = .ok (.iload 5, 2) := by decide +kernel
theorem dX7_putExpanded_32 : decode cX7_putExpanded 32 = .ok (.istore 6, 2) := by decide +kernel
theorem dX7_putExpanded_34 : decode cX7_putExpanded 34 = .ok (.iload 4, 2) := by decide +kernel
theorem dX7_putExpanded_36 : decode cX7_putExpanded 36 = .ok (.invokestatic 73, 3) := by decide +kernel
theorem dX7_putExpanded_39 : decode cX7_putExpanded 39 = .ok (.iconst 1, 1) := by decide +kernel
theorem dX7_putExpanded_40 : decode cX7_putExpanded 40 = .ok (.if_icmp .le 12, 3) := by decide +kernel
theorem dX7_putExpanded_43 : decode cX7_putExpanded 43 = .ok (.aload_n 2, 1) := by decide +kernel
theorem dX7_putExpanded_44 : decode cX7_putExpanded 44 = .ok (.iload 6, 2) := by decide +kernel
theorem dX7_putExpanded_46 : decode cX7_putExpanded 46 = .ok (.invokestatic 149, 3) := by decide +kernel
theorem dX7_putExpanded_49 : decode cX7_putExpanded 49 = .ok (.goto 5, 3) := by decide +kernel
theorem dX7_putExpanded_52 : decode cX7_putExpanded 52 = .ok (.iload 6, 2) := by decide +kernel
theorem dX7_putExpanded_54 : decode cX7_putExpanded 54 = .ok (.istore 7, 2) := by decide +kernel
theorem dX7_putExpanded_56 : decode cX7_putExpanded 56 = .ok (.iconst 0, 1) := by decide +kernel
theorem dX7_putExpanded_57 : decode cX7_putExpanded 57 = .ok (.istore 8, 2) := by decide +kernel
theorem dX7_putExpanded_59 : decode cX7_putExpanded 59 = .ok (.iload 8, 2) := by decide +kernel
theorem dX7_putExpanded_61 : decode cX7_putExpanded 61 = .ok (.aload_n 1, 1) := by decide +kernel
theorem dX7_putExpanded_62 : decode cX7_putExpanded 62 = .ok (.bipush 31, 2) := by decide +kernel
theorem dX7_putExpanded_64 : decode cX7_putExpanded 64 = .ok (.iload 4, 2) := by decide +kernel
theorem dX7_putExpanded_66 : decode cX7_putExpanded 66 = .ok (.imul, 1) := by decide +kernel
theorem dX7_putExpanded_67 : decode cX7_putExpanded 67 = .ok (.iaload, 1) := by decide +kernel
theorem dX7_putExpanded_68 : decode cX7_putExpanded 68 = .ok (.if_icmp .ge 67, 3) := by decide +kernel
theorem dX7_putExpanded_71 : decode cX7_putExpanded 71 = .ok (.aload_n 1, 1) := by decide +kernel
theorem dX7_putExpanded_72 : decode cX7_putExpanded 72 = .ok (.bipush 31, 2) := by decide +kernel
theorem dX7_putExpanded_74 : decode cX7_putExpanded 74 = .ok (.iload 4, 2) := by decide +kernel
theorem dX7_putExpanded_76 : decode cX7_putExpanded 76 = .ok (.imul, 1) := by decide +kernel
theorem dX7_putExpanded_77 : decode cX7_putExpanded 77 = .ok (.iconst 1, 1) := by decide +kernel
theorem dX7_putExpanded_78 : decode cX7_putExpanded 78 = .ok (.iadd, 1) := by decide +kernel
theorem dX7_putExpanded_79 : decode cX7_putExpanded 79 = .ok (.iload 8, 2) := by decide +kernel
theorem dX7_putExpanded_81 : decode cX7_putExpanded 81 = .ok (.iadd, 1) := by decide +kernel
theorem dX7_putExpanded_82 : decode cX7_putExpanded 82 = .ok (.iaload, 1) := by decide +kernel
theorem dX7_putExpanded_83 : decode cX7_putExpanded 83 = .ok (.istore 9, 2) := by decide +kernel
theorem dX7_putExpanded_85 : decode cX7_putExpanded 85 = .ok (.iload 9, 2) := by decide +kernel
theorem dX7_putExpanded_87 : decode cX7_putExpanded 87 = .ok (.bipush 120, 2) := by decide +kernel
theorem dX7_putExpanded_89 : decode cX7_putExpanded 89 = .ok (.if_icmp .ne 15, 3) := by decide +kernel
theorem dX7_putExpanded_92 : decode cX7_putExpanded 92 = .ok (.aload_n 0, 1) := by decide +kernel
theorem dX7_putExpanded_93 : decode cX7_putExpanded 93 = .ok (.aload_n 2, 1) := by decide +kernel
theorem dX7_putExpanded_94 : decode cX7_putExpanded 94 = .ok (.iload 5, 2) := by decide +kernel
theorem dX7_putExpanded_96 : decode cX7_putExpanded 96 = .ok (.iload 6, 2) := by decide +kernel
theorem dX7_putExpanded_98 : decode cX7_putExpanded 98 = .ok (.invokevirtual 153, 3) := by decide +kernel
theorem dX7_putExpanded_101 : decode cX7_putExpanded 101 = .ok (.goto 28, 3) := by decide +kernel
theorem dX7_putExpanded_104 : decode cX7_putExpanded 104 = .ok (.iload 9, 2) := by decide +kernel
theorem dX7_putExpanded_106 : decode cX7_putExpanded 106 = .ok (.bipush 121, 2) := by decide +kernel
theorem dX7_putExpanded_108 : decode cX7_putExpanded 108 = .ok (.if_icmp .ne 15, 3) := by decide +kernel
theorem dX7_putExpanded_111 : decode cX7_putExpanded 111 = .ok (.aload_n 0, 1) := by decide +kernel
theorem dX7_putExpanded_112 : decode cX7_putExpanded 112 = .ok (.aload_n 2, 1) := by decide +kernel
theorem dX7_putExpanded_113 : decode cX7_putExpanded 113 = .ok (.iload 6, 2) := by decide +kernel
theorem dX7_putExpanded_115 : decode cX7_putExpanded 115 = .ok (.iload 7, 2) := by decide +kernel
theorem dX7_putExpanded_117 : decode cX7_putExpanded 117 = .ok (.invokevirtual 153, 3) := by decide +kernel
theorem dX7_putExpanded_120 : decode cX7_putExpanded 120 = .ok (.goto 9, 3) := by decide +kernel
theorem dX7_putExpanded_123 : decode cX7_putExpanded 123 = .ok (.aload_n 0, 1) := by decide +kernel
theorem dX7_putExpanded_124 : decode cX7_putExpanded 124 = .ok (.iload 9, 2) := by decide +kernel
theorem dX7_putExpanded_126 : decode cX7_putExpanded 126 = .ok (.invokevirtual 145, 3) := by decide +kernel
theorem dX7_putExpanded_129 : decode cX7_putExpanded 129 = .ok (.iinc 8 1, 3) := by decide +kernel
theorem dX7_putExpanded_132 : decode cX7_putExpanded 132 = .ok (.goto (-73), 3) := by decide +kernel
theorem dX7_putExpanded_135 : decode cX7_putExpanded 135 = .ok (.iload 7, 2) := by decide +kernel
theorem dX7_putExpanded_137 : decode cX7_putExpanded 137 = .ok (.ireturn, 1) := by decide +kernel
abbrev x_X7_putExpanded : Cx := (7, cX7_putExpanded, false, some (.int))
set_option maxRecDepth 10000 in
theorem g_X7_putExpanded_0 {E : Ev} {d : Nat} {G : Hp} {Q : Po} {x0 : Nat} {x1 : Nat} {x2 : Nat} {x3 : Int32} (h : (qIA 7 E G x2 x3 fun v1 => (qCI E d i_X7_nonterminal [.int v1] G fun v3 G2 => (qCI E d i_X7_parameters [.int v3] G2 fun v5 G4 => (if v5 ≤ 0 then (qCI E d i_X7_parameters [.int v3] G4 fun v7 G6 => (if v7 ≤ (iv 1) then Xr E d x_X7_putExpanded 59 [some (.ref x0), some (.ref x1), some (.ref x2), some (.int x3), some (.int v3), some (.int ((x3 + (iv 1)))), some (.int ((x3 + (iv 1)))), some (.int ((x3 + (iv 1)))), some (.int ((iv 0))), none] [] G6 Q else (qCI E d i_X7_endOf [.ref x2, .int ((x3 + (iv 1)))] G6 fun v9 G8 => Xr E d x_X7_putExpanded 59 [some (.ref x0), some (.ref x1), some (.ref x2), some (.int x3), some (.int v3), some (.int ((x3 + (iv 1)))), some (.int ((x3 + (iv 1)))), some (.int v9), some (.int ((iv 0))), none] [] G8 Q))) else (qCI E d i_X7_endOf [.ref x2, .int ((x3 + (iv 1)))] G4 fun v11 G10 => (qCI E d i_X7_parameters [.int v3] G10 fun v13 G12 => (if v13 ≤ (iv 1) then Xr E d x_X7_putExpanded 59 [some (.ref x0), some (.ref x1), some (.ref x2), some (.int x3), some (.int v3), some (.int ((x3 + (iv 1)))), some (.int v11), some (.int v11), some (.int ((iv 0))), none] [] G12 Q else (qCI E d i_X7_endOf [.ref x2, .int v11] G12 fun v15 G14 => Xr E d x_X7_putExpanded 59 [some (.ref x0), some (.ref x1), some (.ref x2), some (.int x3), some (.int v3), some (.int ((x3 + (iv 1)))), some (.int v11), some (.int v15), some (.int ((iv 0))), none] [] G14 Q))))))))) : Xr E d x_X7_putExpanded 0 [some (.ref x0), some (.ref x1), some (.ref x2), some (.int x3), none, none, none, none, none, none] [] G Q := by
  refine r_aload_n dX7_putExpanded_0 rfl ?_
  refine r_iload_n dX7_putExpanded_1 rfl ?_
  refine r_iald dX7_putExpanded_2 (qIA_imp (fun v1 h => ?_) h)
  refine r_cI dX7_putExpanded_3 rfl (invS_eq rfl (by decide) rfl rfl rfl rfl ⟨rfl, Nat.le_of_ble_eq_true rfl⟩) (qCI_imp (fun v3 G2 h => ?_) h)
  refine r_istore dX7_putExpanded_6 rfl ?_
  refine r_iload_n dX7_putExpanded_8 rfl ?_
  refine r_iconst dX7_putExpanded_9 ?_
  refine r_iadd dX7_putExpanded_10 ?_
  refine r_istore dX7_putExpanded_11 rfl ?_
  refine r_iload dX7_putExpanded_13 rfl ?_
  refine r_cI dX7_putExpanded_15 rfl (invS_eq rfl (by decide) rfl rfl rfl rfl ⟨rfl, Nat.le_of_ble_eq_true rfl⟩) (qCI_imp (fun v5 G4 h => ?_) h)
  refine r_ifle (tgt := 30) dX7_putExpanded_18 (by decide) (ite_imp (fun h => ?_) (fun h => ?_) h)
  · refine r_iload dX7_putExpanded_30 rfl ?_
    refine r_istore dX7_putExpanded_32 rfl ?_
    refine r_iload dX7_putExpanded_34 rfl ?_
    refine r_cI dX7_putExpanded_36 rfl (invS_eq rfl (by decide) rfl rfl rfl rfl ⟨rfl, Nat.le_of_ble_eq_true rfl⟩) (qCI_imp (fun v7 G6 h => ?_) h)
    refine r_iconst dX7_putExpanded_39 ?_
    refine r_cle (tgt := 52) dX7_putExpanded_40 (by decide) (ite_imp (fun h => ?_) (fun h => ?_) h)
    · refine r_iload dX7_putExpanded_52 rfl ?_
      refine r_istore dX7_putExpanded_54 rfl ?_
      refine r_iconst dX7_putExpanded_56 ?_
      refine r_istore dX7_putExpanded_57 rfl ?_
      exact h
    · refine r_aload_n dX7_putExpanded_43 rfl ?_
      refine r_iload dX7_putExpanded_44 rfl ?_
      refine r_cI dX7_putExpanded_46 rfl (invS_eq rfl (by decide) rfl rfl rfl rfl ⟨rfl, Nat.le_of_ble_eq_true rfl⟩) (qCI_imp (fun v9 G8 h => ?_) h)
      refine r_goto (tgt := 54) dX7_putExpanded_49 (by decide) ?_
      refine r_istore dX7_putExpanded_54 rfl ?_
      refine r_iconst dX7_putExpanded_56 ?_
      refine r_istore dX7_putExpanded_57 rfl ?_
      exact h
  · refine r_aload_n dX7_putExpanded_21 rfl ?_
    refine r_iload dX7_putExpanded_22 rfl ?_
    refine r_cI dX7_putExpanded_24 rfl (invS_eq rfl (by decide) rfl rfl rfl rfl ⟨rfl, Nat.le_of_ble_eq_true rfl⟩) (qCI_imp (fun v11 G10 h => ?_) h)
    refine r_goto (tgt := 32) dX7_putExpanded_27 (by decide) ?_
    refine r_istore dX7_putExpanded_32 rfl ?_
    refine r_iload dX7_putExpanded_34 rfl ?_
    refine r_cI dX7_putExpanded_36 rfl (invS_eq rfl (by decide) rfl rfl rfl rfl ⟨rfl, Nat.le_of_ble_eq_true rfl⟩) (qCI_imp (fun v13 G12 h => ?_) h)
    refine r_iconst dX7_putExpanded_39 ?_
    refine r_cle (tgt := 52) dX7_putExpanded_40 (by decide) (ite_imp (fun h => ?_) (fun h => ?_) h)
    · refine r_iload dX7_putExpanded_52 rfl ?_
      refine r_istore dX7_putExpanded_54 rfl ?_
      refine r_iconst dX7_putExpanded_56 ?_
      refine r_istore dX7_putExpanded_57 rfl ?_
      exact h
    · refine r_aload_n dX7_putExpanded_43 rfl ?_
      refine r_iload dX7_putExpanded_44 rfl ?_
      refine r_cI dX7_putExpanded_46 rfl (invS_eq rfl (by decide) rfl rfl rfl rfl ⟨rfl, Nat.le_of_ble_eq_true rfl⟩) (qCI_imp (fun v15 G14 h => ?_) h)
      refine r_goto (tgt := 54) dX7_putExpanded_49 (by decide) ?_
      refine r_istore dX7_putExpanded_54 rfl ?_
      refine r_iconst dX7_putExpanded_56 ?_
      refine r_istore dX7_putExpanded_57 rfl ?_
      exact h
theorem e_X7_putExpanded {E : Ev} {d : Nat} {G : Hp} {Q : Po} {x0 : Nat} {x1 : Nat} {x2 : Nat} {x3 : Int32} (h : (qIA 7 E G x2 x3 fun v1 => (qCI E d i_X7_nonterminal [.int v1] G fun v3 G2 => (qCI E d i_X7_parameters [.int v3] G2 fun v5 G4 => (if v5 ≤ 0 then (qCI E d i_X7_parameters [.int v3] G4 fun v7 G6 => (if v7 ≤ (iv 1) then Xr E d x_X7_putExpanded 59 [some (.ref x0), some (.ref x1), some (.ref x2), some (.int x3), some (.int v3), some (.int ((x3 + (iv 1)))), some (.int ((x3 + (iv 1)))), some (.int ((x3 + (iv 1)))), some (.int ((iv 0))), none] [] G6 Q else (qCI E d i_X7_endOf [.ref x2, .int ((x3 + (iv 1)))] G6 fun v9 G8 => Xr E d x_X7_putExpanded 59 [some (.ref x0), some (.ref x1), some (.ref x2), some (.int x3), some (.int v3), some (.int ((x3 + (iv 1)))), some (.int ((x3 + (iv 1)))), some (.int v9), some (.int ((iv 0))), none] [] G8 Q))) else (qCI E d i_X7_endOf [.ref x2, .int ((x3 + (iv 1)))] G4 fun v11 G10 => (qCI E d i_X7_parameters [.int v3] G10 fun v13 G12 => (if v13 ≤ (iv 1) then Xr E d x_X7_putExpanded 59 [some (.ref x0), some (.ref x1), some (.ref x2), some (.int x3), some (.int v3), some (.int ((x3 + (iv 1)))), some (.int v11), some (.int v11), some (.int ((iv 0))), none] [] G12 Q else (qCI E d i_X7_endOf [.ref x2, .int v11] G12 fun v15 G14 => Xr E d x_X7_putExpanded 59 [some (.ref x0), some (.ref x1), some (.ref x2), some (.int x3), some (.int v3), some (.int ((x3 + (iv 1)))), some (.int v11), some (.int v15), some (.int ((iv 0))), none] [] G14 Q))))))))) : runs E (d + 1) i_X7_putExpanded [.ref x0, .ref x1, .ref x2, .int x3] G Q := by
  rw [runs_eq (m := (yX7_putExpanded, cX7_putExpanded, 10, some (.int), 3, 7, false, false)) rfl (Nat.le_of_ble_eq_true rfl)]
  exact g_X7_putExpanded_0 h
set_option maxRecDepth 10000 in
theorem g_X7_putExpanded_59 {E : Ev} {d : Nat} {G : Hp} {Q : Po} {x0 : Nat} {x1 : Nat} {x2 : Nat} {x3 : Int32} {x4 : Int32} {x5 : Int32} {x6 : Int32} {x7 : Int32} {x8 : Int32} {l9 : Option Value} (h : (qIA 7 E G x1 ((iv 31) * x4) fun v1 => (if v1 ≤ x8 then Q (some (.int x7)) G else (qIA 7 E G x1 ((((iv 31) * x4) + (iv 1)) + x8) fun v2 => (if ¬ v2 = (iv 120) then (if ¬ v2 = (iv 121) then (rcv E G x0 7 = true ∧ (qCV E d i_X7_put [.ref x0, .int v2] G fun G3 => Xr E d x_X7_putExpanded 59 [some (.ref x0), some (.ref x1), some (.ref x2), some (.int x3), some (.int x4), some (.int x5), some (.int x6), some (.int x7), some (.int ((x8 + (iv 1)))), some (.int v2)] [] G3 Q)) else (rcv E G x0 7 = true ∧ (qCV E d i_X7_putPart [.ref x0, .ref x2, .int x6, .int x7] G fun G4 => Xr E d x_X7_putExpanded 59 [some (.ref x0), some (.ref x1), some (.ref x2), some (.int x3), some (.int x4), some (.int x5), some (.int x6), some (.int x7), some (.int ((x8 + (iv 1)))), some (.int v2)] [] G4 Q))) else (rcv E G x0 7 = true ∧ (qCV E d i_X7_putPart [.ref x0, .ref x2, .int x5, .int x6] G fun G5 => Xr E d x_X7_putExpanded 59 [some (.ref x0), some (.ref x1), some (.ref x2), some (.int x3), some (.int x4), some (.int x5), some (.int x6), some (.int x7), some (.int ((x8 + (iv 1)))), some (.int v2)] [] G5 Q))))))) : Xr E d x_X7_putExpanded 59 [some (.ref x0), some (.ref x1), some (.ref x2), some (.int x3), some (.int x4), some (.int x5), some (.int x6), some (.int x7), some (.int x8), l9] [] G Q := by
  refine r_iload dX7_putExpanded_59 rfl ?_
  refine r_aload_n dX7_putExpanded_61 rfl ?_
  refine r_bipush dX7_putExpanded_62 rfl ?_
  refine r_iload dX7_putExpanded_64 rfl ?_
  refine r_imul dX7_putExpanded_66 ?_
  refine r_iald dX7_putExpanded_67 (qIA_imp (fun v1 h => ?_) h)
  refine r_cge (tgt := 135) dX7_putExpanded_68 (by decide) (ite_imp (fun h => ?_) (fun h => ?_) h)
  · refine r_iload dX7_putExpanded_135 rfl ?_
    exact r_iret dX7_putExpanded_137 rfl ⟨rfl, h⟩
  · refine r_aload_n dX7_putExpanded_71 rfl ?_
    refine r_bipush dX7_putExpanded_72 rfl ?_
    refine r_iload dX7_putExpanded_74 rfl ?_
    refine r_imul dX7_putExpanded_76 ?_
    refine r_iconst dX7_putExpanded_77 ?_
    refine r_iadd dX7_putExpanded_78 ?_
    refine r_iload dX7_putExpanded_79 rfl ?_
    refine r_iadd dX7_putExpanded_81 ?_
    refine r_iald dX7_putExpanded_82 (qIA_imp (fun v2 h => ?_) h)
    refine r_istore dX7_putExpanded_83 rfl ?_
    refine r_iload dX7_putExpanded_85 rfl ?_
    refine r_bipush dX7_putExpanded_87 rfl ?_
    refine r_cne (tgt := 104) dX7_putExpanded_89 (by decide) (ite_imp (fun h => ?_) (fun h => ?_) h)
    · refine r_iload dX7_putExpanded_104 rfl ?_
      refine r_bipush dX7_putExpanded_106 rfl ?_
      refine r_cne (tgt := 123) dX7_putExpanded_108 (by decide) (ite_imp (fun h => ?_) (fun h => ?_) h)
      · refine r_aload_n dX7_putExpanded_123 rfl ?_
        refine r_iload dX7_putExpanded_124 rfl ?_
        refine r_cV dX7_putExpanded_126 rfl (invV_eq rfl rfl rfl rfl rfl rfl ⟨rfl, Nat.le_of_ble_eq_true rfl⟩ h.1) (qCV_imp (fun G3 h => ?_) h.2)
        refine r_iinc dX7_putExpanded_129 rfl rfl ?_
        refine r_goto (tgt := 59) dX7_putExpanded_132 (by decide) ?_
        exact h
      · refine r_aload_n dX7_putExpanded_111 rfl ?_
        refine r_aload_n dX7_putExpanded_112 rfl ?_
        refine r_iload dX7_putExpanded_113 rfl ?_
        refine r_iload dX7_putExpanded_115 rfl ?_
        refine r_cV dX7_putExpanded_117 rfl (invV_eq rfl rfl rfl rfl rfl rfl ⟨rfl, Nat.le_of_ble_eq_true rfl⟩ h.1) (qCV_imp (fun G4 h => ?_) h.2)
        refine r_goto (tgt := 129) dX7_putExpanded_120 (by decide) ?_
        refine r_iinc dX7_putExpanded_129 rfl rfl ?_
        refine r_goto (tgt := 59) dX7_putExpanded_132 (by decide) ?_
        exact h
    · refine r_aload_n dX7_putExpanded_92 rfl ?_
      refine r_aload_n dX7_putExpanded_93 rfl ?_
      refine r_iload dX7_putExpanded_94 rfl ?_
      refine r_iload dX7_putExpanded_96 rfl ?_
      refine r_cV dX7_putExpanded_98 rfl (invV_eq rfl rfl rfl rfl rfl rfl ⟨rfl, Nat.le_of_ble_eq_true rfl⟩ h.1) (qCV_imp (fun G5 h => ?_) h.2)
      refine r_goto (tgt := 129) dX7_putExpanded_101 (by decide) ?_
      refine r_iinc dX7_putExpanded_129 rfl rfl ?_
      refine r_goto (tgt := 59) dX7_putExpanded_132 (by decide) ?_
      exact h
theorem dX7_inline_0 : decode cX7_inline 0 = .ok (.iload_n 1, 1) := by decide +kernel
theorem dX7_inline_1 : decode cX7_inline 1 = .ok (.invokestatic 122, 3) := by decide +kernel
theorem dX7_inline_4 : decode cX7_inline 4 = .ok (.ifCond .eq 24, 3) := by decide +kernel
theorem dX7_inline_7 : decode cX7_inline 7 = .ok (.iload_n 2, 1) := by decide +kernel
theorem dX7_inline_8 : decode cX7_inline 8 = .ok (.i2l, 1) := by decide +kernel
theorem dX7_inline_9 : decode cX7_inline 9 = .ok (.lconst 0, 1) := by decide +kernel
theorem dX7_inline_10 : decode cX7_inline 10 = .ok (.aload_n 0, 1) := by decide +kernel
theorem dX7_inline_11 : decode cX7_inline 11 = .ok (.getfield 13, 3) := by decide +kernel
theorem dX7_inline_14 : decode cX7_inline 14 = .ok (.bipush 31, 2) := by decide +kernel
theorem dX7_inline_16 : decode cX7_inline 16 = .ok (.iload_n 1, 1) := by decide +kernel
theorem dX7_inline_17 : decode cX7_inline 17 = .ok (.imul, 1) := by decide +kernel
theorem dX7_inline_18 : decode cX7_inline 18 = .ok (.iaload, 1) := by decide +kernel
theorem dX7_inline_19 : decode cX7_inline 19 = .ok (.iconst 1, 1) := by decide +kernel
theorem dX7_inline_20 : decode cX7_inline 20 = .ok (.isub, 1) := by decide +kernel
theorem dX7_inline_21 : decode cX7_inline 21 = .ok (.i2l, 1) := by decide +kernel
theorem dX7_inline_22 : decode cX7_inline 22 = .ok (.invokestatic 55, 3) := by decide +kernel
theorem dX7_inline_25 : decode cX7_inline 25 = .ok (.ifCond .ne 5, 3) := by decide +kernel
theorem dX7_inline_28 : decode cX7_inline 28 = .ok (.iconst (-1), 1) := by decide +kernel
theorem dX7_inline_29 : decode cX7_inline 29 = .ok (.ireturn, 1) := by decide +kernel
theorem dX7_inline_30 : decode cX7_inline 30 = .ok (.aload_n 0, 1) := by decide +kernel
theorem dX7_inline_31 : decode cX7_inline 31 = .ok (.getfield 13, 3) := by decide +kernel
theorem dX7_inline_34 : decode cX7_inline 34 = .ok (.bipush 31, 2) := by decide +kernel
theorem dX7_inline_36 : decode cX7_inline 36 = .ok (.iload_n 1, 1) := by decide +kernel
theorem dX7_inline_37 : decode cX7_inline 37 = .ok (.imul, 1) := by decide +kernel
theorem dX7_inline_38 : decode cX7_inline 38 = .ok (.iconst 1, 1) := by decide +kernel
theorem dX7_inline_39 : decode cX7_inline 39 = .ok (.iadd, 1) := by decide +kernel
theorem dX7_inline_40 : decode cX7_inline 40 = .ok (.iload_n 2, 1) := by decide +kernel
theorem dX7_inline_41 : decode cX7_inline 41 = .ok (.iadd, 1) := by decide +kernel
theorem dX7_inline_42 : decode cX7_inline 42 = .ok (.iaload, 1) := by decide +kernel
theorem dX7_inline_43 : decode cX7_inline 43 = .ok (.invokestatic 70, 3) := by decide +kernel
theorem dX7_inline_46 : decode cX7_inline 46 = .ok (.bipush (-9), 2) := by decide +kernel
theorem dX7_inline_48 : decode cX7_inline 48 = .ok (.if_icmp .ne 6, 3) := by decide +kernel
theorem dX7_inline_51 : decode cX7_inline 51 = .ok (.bipush (-3), 2) := by decide +kernel
theorem dX7_inline_53 : decode cX7_inline 53 = .ok (.ireturn, 1) := by decide +kernel
theorem dX7_inline_54 : decode cX7_inline 54 = .ok (.aload_n 0, 1) := by decide +kernel
theorem dX7_inline_55 : decode cX7_inline 55 = .ok (.aload_n 0, 1) := by decide +kernel
theorem dX7_inline_56 : decode cX7_inline 56 = .ok (.getfield 13, 3) := by decide +kernel
theorem dX7_inline_59 : decode cX7_inline 59 = .ok (.bipush 31, 2) := by decide +kernel
theorem dX7_inline_61 : decode cX7_inline 61 = .ok (.iload_n 1, 1) := by decide +kernel
theorem dX7_inline_62 : decode cX7_inline 62 = .ok (.imul, 1) := by decide +kernel
theorem dX7_inline_63 : decode cX7_inline 63 = .ok (.iaload, 1) := by decide +kernel
theorem dX7_inline_64 : decode cX7_inline 64 = .ok (.putfield 157, 3) := by decide +kernel
theorem dX7_inline_67 : decode cX7_inline 67 = .ok (.iconst 0, 1) := by decide +kernel
theorem dX7_inline_68 : decode cX7_inline 68 = .ok (.istore_n 3, 1) := by decide +kernel
theorem dX7_inline_69 : decode cX7_inline 69 = .ok (.iload_n 3, 1) := by decide +kernel
theorem dX7_inline_70 : decode cX7_inline 70 = .ok (.aload_n 0, 1) := by decide +kernel
theorem dX7_inline_71 : decode cX7_inline 71 = .ok (.getfield 157, 3) := by decide +kernel
theorem dX7_inline_74 : decode cX7_inline 74 = .ok (.if_icmp .ge 28, 3) := by decide +kernel
theorem dX7_inline_77 : decode cX7_inline 77 = .ok (.aload_n 0, 1) := by decide +kernel
theorem dX7_inline_78 : decode cX7_inline 78 = .ok (.getfield 32, 3) := by decide +kernel
theorem dX7_inline_81 : decode cX7_inline 81 = .ok (.iload_n 3, 1) := by decide +kernel
theorem dX7_inline_82 : decode cX7_inline 82 = .ok (.aload_n 0, 1) := by decide +kernel
theorem dX7_inline_83 : decode cX7_inline 83 = .ok (.getfield 13, 3) := by decide +kernel
theorem dX7_inline_86 : decode cX7_inline 86 = .ok (.bipush 31, 2) := by decide +kernel
theorem dX7_inline_88 : decode cX7_inline 88 = .ok (.iload_n 1, 1) := by decide +kernel
theorem dX7_inline_89 : decode cX7_inline 89 = .ok (.imul, 1) := by decide +kernel
theorem dX7_inline_90 : decode cX7_inline 90 = .ok (.iconst 1, 1) := by decide +kernel
theorem dX7_inline_91 : decode cX7_inline 91 = .ok (.iadd, 1) := by decide +kernel
theorem dX7_inline_92 : decode cX7_inline 92 = .ok (.iload_n 3, 1) := by decide +kernel
theorem dX7_inline_93 : decode cX7_inline 93 = .ok (.iadd, 1) := by decide +kernel
theorem dX7_inline_94 : decode cX7_inline 94 = .ok (.iaload, 1) := by decide +kernel
theorem dX7_inline_95 : decode cX7_inline 95 = .ok (.iastore, 1) := by decide +kernel
theorem dX7_inline_96 : decode cX7_inline 96 = .ok (.iinc 3 1, 3) := by decide +kernel
theorem dX7_inline_99 : decode cX7_inline 99 = .ok (.goto (-30), 3) := by decide +kernel
theorem dX7_inline_102 : decode cX7_inline 102 = .ok (.aload_n 0, 1) := by decide +kernel
theorem dX7_inline_103 : decode cX7_inline 103 = .ok (.iconst 0, 1) := by decide +kernel
theorem dX7_inline_104 : decode cX7_inline 104 = .ok (.putfield 142, 3) := by decide +kernel
theorem dX7_inline_107 : decode cX7_inline 107 = .ok (.aload_n 0, 1) := by decide +kernel
theorem dX7_inline_108 : decode cX7_inline 108 = .ok (.aload_n 0, 1) := by decide +kernel
theorem dX7_inline_109 : decode cX7_inline 109 = .ok (.getfield 32, 3) := by decide +kernel
theorem dX7_inline_112 : decode cX7_inline 112 = .ok (.iconst 0, 1) := by decide +kernel
theorem dX7_inline_113 : decode cX7_inline 113 = .ok (.iload_n 2, 1) := by decide +kernel
theorem dX7_inline_114 : decode cX7_inline 114 = .ok (.invokevirtual 153, 3) := by decide +kernel
theorem dX7_inline_117 : decode cX7_inline 117 = .ok (.aload_n 0, 1) := by decide +kernel
theorem dX7_inline_118 : decode cX7_inline 118 = .ok (.aload_n 0, 1) := by decide +kernel
theorem dX7_inline_119 : decode cX7_inline 119 = .ok (.getfield 13, 3) := by decide +kernel
theorem dX7_inline_122 : decode cX7_inline 122 = .ok (.aload_n 0, 1) := by decide +kernel
theorem dX7_inline_123 : decode cX7_inline 123 = .ok (.getfield 32, 3) := by decide +kernel
theorem dX7_inline_126 : decode cX7_inline 126 = .ok (.iload_n 2, 1) := by decide +kernel
theorem dX7_inline_127 : decode cX7_inline 127 = .ok (.invokevirtual 160, 3) := by decide +kernel
theorem dX7_inline_130 : decode cX7_inline 130 = .ok (.istore_n 3, 1) := by decide +kernel
theorem dX7_inline_131 : decode cX7_inline 131 = .ok (.aload_n 0, 1) := by decide +kernel
theorem dX7_inline_132 : decode cX7_inline 132 = .ok (.aload_n 0, 1) := by decide +kernel
theorem dX7_inline_133 : decode cX7_inline 133 = .ok (.getfield 32, 3) := by decide +kernel
theorem dX7_inline_136 : decode cX7_inline 136 = .ok (.iload_n 3, 1) := by decide +kernel
theorem dX7_inline_137 : decode cX7_inline 137 = .ok (.aload_n 0, 1) := by decide +kernel
theorem dX7_inline_138 : decode cX7_inline 138 = .ok (.getfield 157, 3) := by decide +kernel
theorem dX7_inline_141 : decode cX7_inline 141 = .ok (.invokevirtual 153, 3) := by decide +kernel
theorem dX7_inline_144 : decode cX7_inline 144 = .ok (.aload_n 0, 1) := by decide +kernel
theorem dX7_inline_145 : decode cX7_inline 145 = .ok (.getfield 142, 3) := by decide +kernel
theorem dX7_inline_148 : decode cX7_inline 148 = .ok (.bipush 30, 2) := by decide +kernel
theorem dX7_inline_150 : decode cX7_inline 150 = .ok (.if_icmp .le 6, 3) := by decide +kernel
theorem dX7_inline_153 : decode cX7_inline 153 = .ok (.bipush (-4), 2) := by decide +kernel
theorem dX7_inline_155 : decode cX7_inline 155 = .ok (.ireturn, 1) := by decide +kernel
theorem dX7_inline_156 : decode cX7_inline 156 = .ok (.aload_n 0, 1) := by decide +kernel
theorem dX7_inline_157 : decode cX7_inline 157 = .ok (.invokevirtual 135, 3) := by decide +kernel
theorem dX7_inline_160 : decode cX7_inline 160 = .ok (.aload_n 0, 1) := by decide +kernel
theorem dX7_inline_161 : decode cX7_inline 161 = .ok (.getfield 13, 3) := by decide +kernel
theorem dX7_inline_164 : decode cX7_inline 164 = .ok (.bipush 31, 2) := by decide +kernel
theorem dX7_inline_166 : decode cX7_inline 166 = .ok (.iload_n 1, 1) := by decide +kernel
theorem dX7_inline_167 : decode cX7_inline 167 = .ok (.imul, 1) := by decide +kernel
theorem dX7_inline_168 : decode cX7_inline 168 = .ok (.aload_n 0, 1) := by decide +kernel
theorem dX7_inline_169 : decode cX7_inline 169 = .ok (.getfield 142, 3) := by decide +kernel
theorem dX7_inline_172 : decode cX7_inline 172 = .ok (.iastore, 1) := by decide +kernel
theorem dX7_inline_173 : decode cX7_inline 173 = .ok (.iconst 0, 1) := by decide +kernel
theorem dX7_inline_174 : decode cX7_inline 174 = .ok (.istore 4, 2) := by decide +kernel
theorem dX7_inline_176 : decode cX7_inline 176 = .ok (.iload 4, 2) := by decide +kernel
theorem dX7_inline_178 : decode cX7_inline 178 = .ok (.aload_n 0, 1) := by decide +kernel
theorem dX7_inline_179 : decode cX7_inline 179 = .ok (.getfield 142, 3) := by decide +kernel
theorem dX7_inline_182 : decode cX7_inline 182 = .ok (.if_icmp .ge 30, 3) := by decide +kernel
theorem dX7_inline_185 : decode cX7_inline 185 = .ok (.aload_n 0, 1) := by decide +kernel
theorem dX7_inline_186 : decode cX7_inline 186 = .ok (.getfield 13, 3) := by decide +kernel
theorem dX7_inline_189 : decode cX7_inline 189 = .ok (.bipush 31, 2) := by decide +kernel
theorem dX7_inline_191 : decode cX7_inline 191 = .ok (.iload_n 1, 1) := by decide +kernel
theorem dX7_inline_192 : decode cX7_inline 192 = .ok (.imul, 1) := by decide +kernel
theorem dX7_inline_193 : decode cX7_inline 193 = .ok (.iconst 1, 1) := by decide +kernel
theorem dX7_inline_194 : decode cX7_inline 194 = .ok (.iadd, 1) := by decide +kernel
theorem dX7_inline_195 : decode cX7_inline 195 = .ok (.iload 4, 2) := by decide +kernel
theorem dX7_inline_197 : decode cX7_inline 197 = .ok (.iadd, 1) := by decide +kernel
theorem dX7_inline_198 : decode cX7_inline 198 = .ok (.aload_n 0, 1) := by decide +kernel
theorem dX7_inline_199 : decode cX7_inline 199 = .ok (.getfield 35, 3) := by decide +kernel
theorem dX7_inline_202 : decode cX7_inline 202 = .ok (.iload 4, 2) := by decide +kernel
theorem dX7_inline_204 : decode cX7_inline 204 = .ok (.iaload, 1) := by decide +kernel
theorem dX7_inline_205 : decode cX7_inline 205 = .ok (.iastore, 1) := by decide +kernel
theorem dX7_inline_206 : decode cX7_inline 206 = .ok (.iinc 4 1, 3) := by decide +kernel
theorem dX7_inline_209 : decode cX7_inline 209 = .ok (.goto (-33), 3) := by decide +kernel
theorem dX7_inline_212 : decode cX7_inline 212 = .ok (.aload_n 0, 1) := by decide +kernel
theorem dX7_inline_213 : decode cX7_inline 213 = .ok (.getfield 13, 3) := by decide +kernel
theorem dX7_inline_216 : decode cX7_inline 216 = .ok (.iload_n 1, 1) := by decide +kernel
theorem dX7_inline_217 : decode cX7_inline 217 = .ok (.invokestatic 138, 3) := by decide +kernel
theorem dX7_inline_220 : decode cX7_inline 220 = .ok (.aload_n 0, 1) := by decide +kernel
theorem dX7_inline_221 : decode cX7_inline 221 = .ok (.getfield 142, 3) := by decide +kernel
theorem dX7_inline_224 : decode cX7_inline 224 = .ok (.ireturn, 1) := by decide +kernel
abbrev x_X7_inline : Cx := (7, cX7_inline, false, some (.int))
set_option maxRecDepth 10000 in
theorem g_X7_inline_0 {E : Ev} {d : Nat} {G : Hp} {Q : Po} {x0 : Nat} {x1 : Int32} {x2 : Int32} (h : (qCI E d i_X7_isNonterminal [.int x1] G fun v2 G1 => (if v2 = 0 then Q (some (.int (iv (-1)))) G1 else (qFR E G1 x0 7 2 fun v3 => (qIA 7 E G1 v3 ((iv 31) * x1) fun v4 => (qCI E d i_X7_in [.long (((x2).toInt64)), .long 0, .long ((((v4 - (iv 1))).toInt64))] G1 fun v6 G5 => (if ¬ v6 = 0 then (qFR E G5 x0 7 2 fun v7 => (qIA 7 E G5 v7 ((((iv 31) * x1) + (iv 1)) + x2) fun v8 => (qCI E d i_X7_nonterminal [.int v8] G5 fun v10 G9 => (if ¬ v10 = (iv (-9)) then (qFR E G9 x0 7 2 fun v11 => (qIA 7 E G9 v11 ((iv 31) * x1) fun v12 => (qP E G9 x0 7 11 (.int v12) fun G13 => Xr E d x_X7_inline 69 [some (.ref x0), some (.int x1), some (.int x2), some (.int ((iv 0))), none] [] G13 Q))) else Q (some (.int (iv (-3)))) G9)))) else Q (some (.int (iv (-1)))) G5))))))) : Xr E d x_X7_inline 0 [some (.ref x0), some (.int x1), some (.int x2), none, none] [] G Q := by
  refine r_iload_n dX7_inline_0 rfl ?_
  refine r_cI dX7_inline_1 rfl (invS_eq rfl (by decide) rfl rfl rfl rfl ⟨rfl, Nat.le_of_ble_eq_true rfl⟩) (qCI_imp (fun v2 G1 h => ?_) h)
  refine r_ifeq (tgt := 28) dX7_inline_4 (by decide) (ite_imp (fun h => ?_) (fun h => ?_) h)
  · refine r_iconst dX7_inline_28 ?_
    exact r_iret dX7_inline_29 rfl ⟨rfl, h⟩
  · refine r_iload_n dX7_inline_7 rfl ?_
    refine r_i2l dX7_inline_8 ?_
    refine r_lconst (v := 0) dX7_inline_9 rfl ?_
    refine r_aload_n dX7_inline_10 rfl ?_
    refine r_getR dX7_inline_11 rfl (qFR_imp (fun v3 h => ?_) h)
    refine r_bipush dX7_inline_14 rfl ?_
    refine r_iload_n dX7_inline_16 rfl ?_
    refine r_imul dX7_inline_17 ?_
    refine r_iald dX7_inline_18 (qIA_imp (fun v4 h => ?_) h)
    refine r_iconst dX7_inline_19 ?_
    refine r_isub dX7_inline_20 ?_
    refine r_i2l dX7_inline_21 ?_
    refine r_cI dX7_inline_22 rfl (invS_eq rfl (by decide) rfl rfl rfl rfl ⟨rfl, Nat.le_of_ble_eq_true rfl⟩) (qCI_imp (fun v6 G5 h => ?_) h)
    refine r_ifne (tgt := 30) dX7_inline_25 (by decide) (ite_imp (fun h => ?_) (fun h => ?_) h)
    · refine r_aload_n dX7_inline_30 rfl ?_
      refine r_getR dX7_inline_31 rfl (qFR_imp (fun v7 h => ?_) h)
      refine r_bipush dX7_inline_34 rfl ?_
      refine r_iload_n dX7_inline_36 rfl ?_
      refine r_imul dX7_inline_37 ?_
      refine r_iconst dX7_inline_38 ?_
      refine r_iadd dX7_inline_39 ?_
      refine r_iload_n dX7_inline_40 rfl ?_
      refine r_iadd dX7_inline_41 ?_
      refine r_iald dX7_inline_42 (qIA_imp (fun v8 h => ?_) h)
      refine r_cI dX7_inline_43 rfl (invS_eq rfl (by decide) rfl rfl rfl rfl ⟨rfl, Nat.le_of_ble_eq_true rfl⟩) (qCI_imp (fun v10 G9 h => ?_) h)
      refine r_bipush dX7_inline_46 rfl ?_
      refine r_cne (tgt := 54) dX7_inline_48 (by decide) (ite_imp (fun h => ?_) (fun h => ?_) h)
      · refine r_aload_n dX7_inline_54 rfl ?_
        refine r_aload_n dX7_inline_55 rfl ?_
        refine r_getR dX7_inline_56 rfl (qFR_imp (fun v11 h => ?_) h)
        refine r_bipush dX7_inline_59 rfl ?_
        refine r_iload_n dX7_inline_61 rfl ?_
        refine r_imul dX7_inline_62 ?_
        refine r_iald dX7_inline_63 (qIA_imp (fun v12 h => ?_) h)
        refine r_put dX7_inline_64 rfl rfl (by decide) (qP_imp (fun G13 h => ?_) h)
        refine r_iconst dX7_inline_67 ?_
        refine r_istore_n dX7_inline_68 rfl ?_
        exact h
      · refine r_bipush dX7_inline_51 rfl ?_
        exact r_iret dX7_inline_53 rfl ⟨rfl, h⟩
    · refine r_iconst dX7_inline_28 ?_
      exact r_iret dX7_inline_29 rfl ⟨rfl, h⟩
theorem e_X7_inline {E : Ev} {d : Nat} {G : Hp} {Q : Po} {x0 : Nat} {x1 : Int32} {x2 : Int32} (h : (qCI E d i_X7_isNonterminal [.int x1] G fun v2 G1 => (if v2 = 0 then Q (some (.int (iv (-1)))) G1 else (qFR E G1 x0 7 2 fun v3 => (qIA 7 E G1 v3 ((iv 31) * x1) fun v4 => (qCI E d i_X7_in [.long (((x2).toInt64)), .long 0, .long ((((v4 - (iv 1))).toInt64))] G1 fun v6 G5 => (if ¬ v6 = 0 then (qFR E G5 x0 7 2 fun v7 => (qIA 7 E G5 v7 ((((iv 31) * x1) + (iv 1)) + x2) fun v8 => (qCI E d i_X7_nonterminal [.int v8] G5 fun v10 G9 => (if ¬ v10 = (iv (-9)) then (qFR E G9 x0 7 2 fun v11 => (qIA 7 E G9 v11 ((iv 31) * x1) fun v12 => (qP E G9 x0 7 11 (.int v12) fun G13 => Xr E d x_X7_inline 69 [some (.ref x0), some (.int x1), some (.int x2), some (.int ((iv 0))), none] [] G13 Q))) else Q (some (.int (iv (-3)))) G9)))) else Q (some (.int (iv (-1)))) G5))))))) : runs E (d + 1) i_X7_inline [.ref x0, .int x1, .int x2] G Q := by
  rw [runs_eq (m := (yX7_inline, cX7_inline, 5, some (.int), 2, 7, false, false)) rfl (Nat.le_of_ble_eq_true rfl)]
  exact g_X7_inline_0 h
set_option maxRecDepth 10000 in
theorem g_X7_inline_69 {E : Ev} {d : Nat} {G : Hp} {Q : Po} {x0 : Nat} {x1 : Int32} {x2 : Int32} {x3 : Int32} (h : (qFI E G x0 7 11 fun v1 => (if v1 ≤ x3 then (qP E G x0 7 13 (.int ((iv 0))) fun G2 => (qFR E G2 x0 7 10 fun v3 => (rcv E G2 x0 7 = true ∧ (qCV E d i_X7_putPart [.ref x0, .ref v3, .int ((iv 0)), .int x2] G2 fun G4 => (qFR E G4 x0 7 2 fun v5 => (qFR E G4 x0 7 10 fun v6 => (rcv E G4 x0 7 = true ∧ (qCI E d i_X7_putExpanded [.ref x0, .ref v5, .ref v6, .int x2] G4 fun v8 G7 => (qFR E G7 x0 7 10 fun v9 => (qFI E G7 x0 7 11 fun v10 => (rcv E G7 x0 7 = true ∧ (qCV E d i_X7_putPart [.ref x0, .ref v9, .int v8, .int v10] G7 fun G11 => (qFI E G11 x0 7 13 fun v12 => (if v12 ≤ (iv 30) then (rcv E G11 x0 7 = true ∧ (qCV E d i_X7_note [.ref x0] G11 fun G13 => (qFR E G13 x0 7 2 fun v14 => (qFI E G13 x0 7 13 fun v15 => (qIS E G13 v14 ((iv 31) * x1) v15 fun G16 => Xr E d x_X7_inline 176 [some (.ref x0), some (.int x1), some (.int x2), some (.int v8), some (.int ((iv 0)))] [] G16 Q))))) else Q (some (.int (iv (-4)))) G11)))))))))))))) else (qFR E G x0 7 10 fun v17 => (qFR E G x0 7 2 fun v18 => (qIA 7 E G v18 ((((iv 31) * x1) + (iv 1)) + x3) fun v19 => (qIS E G v17 x3 v19 fun G20 => Xr E d x_X7_inline 69 [some (.ref x0), some (.int x1), some (.int x2), some (.int ((x3 + (iv 1)))), none] [] G20 Q))))))) : Xr E d x_X7_inline 69 [some (.ref x0), some (.int x1), some (.int x2), some (.int x3), none] [] G Q := by
  refine r_iload_n dX7_inline_69 rfl ?_
  refine r_aload_n dX7_inline_70 rfl ?_
  refine r_getI dX7_inline_71 rfl (qFI_imp (fun v1 h => ?_) h)
  refine r_cge (tgt := 102) dX7_inline_74 (by decide) (ite_imp (fun h => ?_) (fun h => ?_) h)
  · refine r_aload_n dX7_inline_102 rfl ?_
    refine r_iconst dX7_inline_103 ?_
    refine r_put dX7_inline_104 rfl rfl (by decide) (qP_imp (fun G2 h => ?_) h)
    refine r_aload_n dX7_inline_107 rfl ?_
    refine r_aload_n dX7_inline_108 rfl ?_
    refine r_getR dX7_inline_109 rfl (qFR_imp (fun v3 h => ?_) h)
    refine r_iconst dX7_inline_112 ?_
    refine r_iload_n dX7_inline_113 rfl ?_
    refine r_cV dX7_inline_114 rfl (invV_eq rfl rfl rfl rfl rfl rfl ⟨rfl, Nat.le_of_ble_eq_true rfl⟩ h.1) (qCV_imp (fun G4 h => ?_) h.2)
    refine r_aload_n dX7_inline_117 rfl ?_
    refine r_aload_n dX7_inline_118 rfl ?_
    refine r_getR dX7_inline_119 rfl (qFR_imp (fun v5 h => ?_) h)
    refine r_aload_n dX7_inline_122 rfl ?_
    refine r_getR dX7_inline_123 rfl (qFR_imp (fun v6 h => ?_) h)
    refine r_iload_n dX7_inline_126 rfl ?_
    refine r_cI dX7_inline_127 rfl (invV_eq rfl rfl rfl rfl rfl rfl ⟨rfl, Nat.le_of_ble_eq_true rfl⟩ h.1) (qCI_imp (fun v8 G7 h => ?_) h.2)
    refine r_istore_n dX7_inline_130 rfl ?_
    refine r_aload_n dX7_inline_131 rfl ?_
    refine r_aload_n dX7_inline_132 rfl ?_
    refine r_getR dX7_inline_133 rfl (qFR_imp (fun v9 h => ?_) h)
    refine r_iload_n dX7_inline_136 rfl ?_
    refine r_aload_n dX7_inline_137 rfl ?_
    refine r_getI dX7_inline_138 rfl (qFI_imp (fun v10 h => ?_) h)
    refine r_cV dX7_inline_141 rfl (invV_eq rfl rfl rfl rfl rfl rfl ⟨rfl, Nat.le_of_ble_eq_true rfl⟩ h.1) (qCV_imp (fun G11 h => ?_) h.2)
    refine r_aload_n dX7_inline_144 rfl ?_
    refine r_getI dX7_inline_145 rfl (qFI_imp (fun v12 h => ?_) h)
    refine r_bipush dX7_inline_148 rfl ?_
    refine r_cle (tgt := 156) dX7_inline_150 (by decide) (ite_imp (fun h => ?_) (fun h => ?_) h)
    · refine r_aload_n dX7_inline_156 rfl ?_
      refine r_cV dX7_inline_157 rfl (invV_eq rfl rfl rfl rfl rfl rfl ⟨rfl, Nat.le_of_ble_eq_true rfl⟩ h.1) (qCV_imp (fun G13 h => ?_) h.2)
      refine r_aload_n dX7_inline_160 rfl ?_
      refine r_getR dX7_inline_161 rfl (qFR_imp (fun v14 h => ?_) h)
      refine r_bipush dX7_inline_164 rfl ?_
      refine r_iload_n dX7_inline_166 rfl ?_
      refine r_imul dX7_inline_167 ?_
      refine r_aload_n dX7_inline_168 rfl ?_
      refine r_getI dX7_inline_169 rfl (qFI_imp (fun v15 h => ?_) h)
      refine r_iast dX7_inline_172 (qIS_imp (fun G16 h => ?_) h)
      refine r_iconst dX7_inline_173 ?_
      refine r_istore dX7_inline_174 rfl ?_
      exact h
    · refine r_bipush dX7_inline_153 rfl ?_
      exact r_iret dX7_inline_155 rfl ⟨rfl, h⟩
  · refine r_aload_n dX7_inline_77 rfl ?_
    refine r_getR dX7_inline_78 rfl (qFR_imp (fun v17 h => ?_) h)
    refine r_iload_n dX7_inline_81 rfl ?_
    refine r_aload_n dX7_inline_82 rfl ?_
    refine r_getR dX7_inline_83 rfl (qFR_imp (fun v18 h => ?_) h)
    refine r_bipush dX7_inline_86 rfl ?_
    refine r_iload_n dX7_inline_88 rfl ?_
    refine r_imul dX7_inline_89 ?_
    refine r_iconst dX7_inline_90 ?_
    refine r_iadd dX7_inline_91 ?_
    refine r_iload_n dX7_inline_92 rfl ?_
    refine r_iadd dX7_inline_93 ?_
    refine r_iald dX7_inline_94 (qIA_imp (fun v19 h => ?_) h)
    refine r_iast dX7_inline_95 (qIS_imp (fun G20 h => ?_) h)
    refine r_iinc dX7_inline_96 rfl rfl ?_
    refine r_goto (tgt := 69) dX7_inline_99 (by decide) ?_
    exact h
set_option maxRecDepth 10000 in
theorem g_X7_inline_176 {E : Ev} {d : Nat} {G : Hp} {Q : Po} {x0 : Nat} {x1 : Int32} {x2 : Int32} {x3 : Int32} {x4 : Int32} (h : (qFI E G x0 7 13 fun v1 => (if v1 ≤ x4 then (qFR E G x0 7 2 fun v2 => (qCV E d i_X7_tidy [.ref v2, .int x1] G fun G3 => (qFI E G3 x0 7 13 fun v4 => Q (some (.int v4)) G3))) else (qFR E G x0 7 2 fun v5 => (qFR E G x0 7 12 fun v6 => (qIA 7 E G v6 x4 fun v7 => (qIS E G v5 ((((iv 31) * x1) + (iv 1)) + x4) v7 fun G8 => Xr E d x_X7_inline 176 [some (.ref x0), some (.int x1), some (.int x2), some (.int x3), some (.int ((x4 + (iv 1))))] [] G8 Q))))))) : Xr E d x_X7_inline 176 [some (.ref x0), some (.int x1), some (.int x2), some (.int x3), some (.int x4)] [] G Q := by
  refine r_iload dX7_inline_176 rfl ?_
  refine r_aload_n dX7_inline_178 rfl ?_
  refine r_getI dX7_inline_179 rfl (qFI_imp (fun v1 h => ?_) h)
  refine r_cge (tgt := 212) dX7_inline_182 (by decide) (ite_imp (fun h => ?_) (fun h => ?_) h)
  · refine r_aload_n dX7_inline_212 rfl ?_
    refine r_getR dX7_inline_213 rfl (qFR_imp (fun v2 h => ?_) h)
    refine r_iload_n dX7_inline_216 rfl ?_
    refine r_cV dX7_inline_217 rfl (invS_eq rfl (by decide) rfl rfl rfl rfl ⟨rfl, Nat.le_of_ble_eq_true rfl⟩) (qCV_imp (fun G3 h => ?_) h)
    refine r_aload_n dX7_inline_220 rfl ?_
    refine r_getI dX7_inline_221 rfl (qFI_imp (fun v4 h => ?_) h)
    exact r_iret dX7_inline_224 rfl ⟨rfl, h⟩
  · refine r_aload_n dX7_inline_185 rfl ?_
    refine r_getR dX7_inline_186 rfl (qFR_imp (fun v5 h => ?_) h)
    refine r_bipush dX7_inline_189 rfl ?_
    refine r_iload_n dX7_inline_191 rfl ?_
    refine r_imul dX7_inline_192 ?_
    refine r_iconst dX7_inline_193 ?_
    refine r_iadd dX7_inline_194 ?_
    refine r_iload dX7_inline_195 rfl ?_
    refine r_iadd dX7_inline_197 ?_
    refine r_aload_n dX7_inline_198 rfl ?_
    refine r_getR dX7_inline_199 rfl (qFR_imp (fun v6 h => ?_) h)
    refine r_iload dX7_inline_202 rfl ?_
    refine r_iald dX7_inline_204 (qIA_imp (fun v7 h => ?_) h)
    refine r_iast dX7_inline_205 (qIS_imp (fun G8 h => ?_) h)
    refine r_iinc dX7_inline_206 rfl rfl ?_
    refine r_goto (tgt := 176) dX7_inline_209 (by decide) ?_
    exact h
theorem dX7_exchange_0 : decode cX7_exchange 0 = .ok (.aload_n 0, 1) := by decide +kernel
theorem dX7_exchange_1 : decode cX7_exchange 1 = .ok (.invokevirtual 135, 3) := by decide +kernel
theorem dX7_exchange_4 : decode cX7_exchange 4 = .ok (.iconst 0, 1) := by decide +kernel
theorem dX7_exchange_5 : decode cX7_exchange 5 = .ok (.istore_n 1, 1) := by decide +kernel
theorem dX7_exchange_6 : decode cX7_exchange 6 = .ok (.iload_n 1, 1) := by decide +kernel
theorem dX7_exchange_7 : decode cX7_exchange 7 = .ok (.bipush 30, 2) := by decide +kernel
theorem dX7_exchange_9 : decode cX7_exchange 9 = .ok (.if_icmp .gt 47, 3) := by decide +kernel
theorem dX7_exchange_12 : decode cX7_exchange 12 = .ok (.aload_n 0, 1) := by decide +kernel
theorem dX7_exchange_13 : decode cX7_exchange 13 = .ok (.getfield 13, 3) := by decide +kernel
theorem dX7_exchange_16 : decode cX7_exchange 16 = .ok (.bipush 31, 2) := by decide +kernel
theorem dX7_exchange_18 : decode cX7_exchange 18 = .ok (.iload_n 1, 1) := by decide +kernel
theorem dX7_exchange_19 : decode cX7_exchange 19 = .ok (.iadd, 1) := by decide +kernel
theorem dX7_exchange_20 : decode cX7_exchange 20 = .ok (.iaload, 1) := by decide +kernel
theorem dX7_exchange_21 : decode cX7_exchange 21 = .ok (.istore_n 2, 1) := by decide +kernel
theorem dX7_exchange_22 : decode cX7_exchange 22 = .ok (.aload_n 0, 1) := by decide +kernel
theorem dX7_exchange_23 : decode cX7_exchange 23 = .ok (.getfield 13, 3) := by decide +kernel
theorem dX7_exchange_26 : decode cX7_exchange 26 = .ok (.bipush 31, 2) := by decide +kernel
theorem dX7_exchange_28 : decode cX7_exchange 28 = .ok (.iload_n 1, 1) := by decide +kernel
theorem dX7_exchange_29 : decode cX7_exchange 29 = .ok (.iadd, 1) := by decide +kernel
theorem dX7_exchange_30 : decode cX7_exchange 30 = .ok (.aload_n 0, 1) := by decide +kernel
theorem dX7_exchange_31 : decode cX7_exchange 31 = .ok (.getfield 13, 3) := by decide +kernel
theorem dX7_exchange_34 : decode cX7_exchange 34 = .ok (.bipush 62, 2) := by decide +kernel
theorem dX7_exchange_36 : decode cX7_exchange 36 = .ok (.iload_n 1, 1) := by decide +kernel
theorem dX7_exchange_37 : decode cX7_exchange 37 = .ok (.iadd, 1) := by decide +kernel
theorem dX7_exchange_38 : decode cX7_exchange 38 = .ok (.iaload, 1) := by decide +kernel
theorem dX7_exchange_39 : decode cX7_exchange 39 = .ok (.iastore, 1) := by decide +kernel
theorem dX7_exchange_40 : decode cX7_exchange 40 = .ok (.aload_n 0, 1) := by decide +kernel
theorem dX7_exchange_41 : decode cX7_exchange 41 = .ok (.getfield 13, 3) := by decide +kernel
theorem dX7_exchange_44 : decode cX7_exchange 44 = .ok (.bipush 62, 2) := by decide +kernel
theorem dX7_exchange_46 : decode cX7_exchange 46 = .ok (.iload_n 1, 1) := by decide +kernel
theorem dX7_exchange_47 : decode cX7_exchange 47 = .ok (.iadd, 1) := by decide +kernel
theorem dX7_exchange_48 : decode cX7_exchange 48 = .ok (.iload_n 2, 1) := by decide +kernel
theorem dX7_exchange_49 : decode cX7_exchange 49 = .ok (.iastore, 1) := by decide +kernel
theorem dX7_exchange_50 : decode cX7_exchange 50 = .ok (.iinc 1 1, 3) := by decide +kernel
theorem dX7_exchange_53 : decode cX7_exchange 53 = .ok (.goto (-47), 3) := by decide +kernel
theorem dX7_exchange_56 : decode cX7_exchange 56 = .ok (.iconst 0, 1) := by decide +kernel
theorem dX7_exchange_57 : decode cX7_exchange 57 = .ok (.istore_n 1, 1) := by decide +kernel
theorem dX7_exchange_58 : decode cX7_exchange 58 = .ok (.iconst 0, 1) := by decide +kernel
theorem dX7_exchange_59 : decode cX7_exchange 59 = .ok (.istore_n 2, 1) := by decide +kernel
theorem dX7_exchange_60 : decode cX7_exchange 60 = .ok (.iload_n 2, 1) := by decide +kernel
theorem dX7_exchange_61 : decode cX7_exchange 61 = .ok (.iconst 4, 1) := by decide +kernel
theorem dX7_exchange_62 : decode cX7_exchange 62 = .ok (.if_icmp .ge 102, 3) := by decide +kernel
theorem dX7_exchange_65 : decode cX7_exchange 65 = .ok (.iconst 1, 1) := by decide +kernel
theorem dX7_exchange_66 : decode cX7_exchange 66 = .ok (.istore_n 3, 1) := by decide +kernel
theorem dX7_exchange_67 : decode cX7_exchange 67 = .ok (.iload_n 3, 1) := by decide +kernel
theorem dX7_exchange_68 : decode cX7_exchange 68 = .ok (.aload_n 0, 1) := by decide +kernel
theorem dX7_exchange_69 : decode cX7_exchange 69 = .ok (.getfield 13, 3) := by decide +kernel
theorem dX7_exchange_72 : decode cX7_exchange 72 = .ok (.bipush 31, 2) := by decide +kernel
theorem dX7_exchange_74 : decode cX7_exchange 74 = .ok (.iload_n 2, 1) := by decide +kernel
theorem dX7_exchange_75 : decode cX7_exchange 75 = .ok (.imul, 1) := by decide +kernel
theorem dX7_exchange_76 : decode cX7_exchange 76 = .ok (.iaload, 1) := by decide +kernel
theorem dX7_exchange_77 : decode cX7_exchange 77 = .ok (.if_icmp .gt 81, 3) := by decide +kernel
theorem dX7_exchange_80 : decode cX7_exchange 80 = .ok (.aload_n 0, 1) := by decide +kernel
theorem dX7_exchange_81 : decode cX7_exchange 81 = .ok (.getfield 13, 3) := by decide +kernel
theorem dX7_exchange_84 : decode cX7_exchange 84 = .ok (.bipush 31, 2) := by decide +kernel
theorem dX7_exchange_86 : decode cX7_exchange 86 = .ok (.iload_n 2, 1) := by decide +kernel
theorem dX7_exchange_87 : decode cX7_exchange 87 = .ok (.imul, 1) := by decide +kernel
theorem dX7_exchange_88 : decode cX7_exchange 88 = .ok (.iload_n 3, 1) := by decide +kernel
theorem dX7_exchange_89 : decode cX7_exchange 89 = .ok (.iadd, 1) := by decide +kernel
theorem dX7_exchange_90 : decode cX7_exchange 90 = .ok (.iaload, 1) := by decide +kernel
theorem dX7_exchange_91 : decode cX7_exchange 91 = .ok (.istore 4, 2) := by decide +kernel
theorem dX7_exchange_93 : decode cX7_exchange 93 = .ok (.iload_n 1, 1) := by decide +kernel
theorem dX7_exchange_94 : decode cX7_exchange 94 = .ok (.iload 4, 2) := by decide +kernel
theorem dX7_exchange_96 : decode cX7_exchange 96 = .ok (.bipush 70, 2) := by decide +kernel
theorem dX7_exchange_98 : decode cX7_exchange 98 = .ok (.if_icmp .eq 10, 3) := by decide +kernel
theorem dX7_exchange_101 : decode cX7_exchange 101 = .ok (.iload 4, 2) := by decide +kernel
theorem dX7_exchange_103 : decode cX7_exchange 103 = .ok (.bipush 71, 2) := by decide +kernel
theorem dX7_exchange_105 : decode cX7_exchange 105 = .ok (.if_icmp .ne 7, 3) := by decide +kernel
theorem dX7_exchange_108 : decode cX7_exchange 108 = .ok (.iconst 1, 1) := by decide +kernel
theorem dX7_exchange_109 : decode cX7_exchange 109 = .ok (.goto 4, 3) := by decide +kernel
theorem dX7_exchange_112 : decode cX7_exchange 112 = .ok (.iconst 0, 1) := by decide +kernel
theorem dX7_exchange_113 : decode cX7_exchange 113 = .ok (.iadd, 1) := by decide +kernel
theorem dX7_exchange_114 : decode cX7_exchange 114 = .ok (.istore_n 1, 1) := by decide +kernel
theorem dX7_exchange_115 : decode cX7_exchange 115 = .ok (.aload_n 0, 1) := by decide +kernel
theorem dX7_exchange_116 : decode cX7_exchange 116 = .ok (.getfield 13, 3) := by decide +kernel
theorem dX7_exchange_119 : decode cX7_exchange 119 = .ok (.bipush 31, 2) := by decide +kernel
theorem dX7_exchange_121 : decode cX7_exchange 121 = .ok (.iload_n 2, 1) := by decide +kernel
theorem dX7_exchange_122 : decode cX7_exchange 122 = .ok (.imul, 1) := by decide +kernel
theorem dX7_exchange_123 : decode cX7_exchange 123 = .ok (.iload_n 3, 1) := by decide +kernel
theorem dX7_exchange_124 : decode cX7_exchange 124 = .ok (.iadd, 1) := by decide +kernel
theorem dX7_exchange_125 : decode cX7_exchange 125 = .ok (.iload 4, 2) := by decide +kernel
theorem dX7_exchange_127 : decode cX7_exchange 127 = .ok (.bipush 70, 2) := by decide +kernel
theorem dX7_exchange_129 : decode cX7_exchange 129 = .ok (.if_icmp .ne 8, 3) := by decide +kernel
theorem dX7_exchange_132 : decode cX7_exchange 132 = .ok (.bipush 71, 2) := by decide +kernel
theorem dX7_exchange_134 : decode cX7_exchange 134 = .ok (.goto 17, 3) := by decide +kernel
theorem dX7_exchange_137 : decode cX7_exchange 137 = .ok (.iload 4, 2) := by decide +kernel
theorem dX7_exchange_139 : decode cX7_exchange 139 = .ok (.bipush 71, 2) := by decide +kernel
theorem dX7_exchange_141 : decode cX7_exchange 141 = .ok (.if_icmp .ne 8, 3) := by decide +kernel
theorem dX7_exchange_144 : decode cX7_exchange 144 = .ok (.bipush 70, 2) := by decide +kernel
theorem dX7_exchange_146 : decode cX7_exchange 146 = .ok (.goto 5, 3) := by decide +kernel
theorem dX7_exchange_149 : decode cX7_exchange 149 = .ok (.iload 4, 2) := by decide +kernel
theorem dX7_exchange_151 : decode cX7_exchange 151 = .ok (.iastore, 1) := by decide +kernel
theorem dX7_exchange_152 : decode cX7_exchange 152 = .ok (.iinc 3 1, 3) := by decide +kernel
theorem dX7_exchange_155 : decode cX7_exchange 155 = .ok (.goto (-88), 3) := by decide +kernel
theorem dX7_exchange_158 : decode cX7_exchange 158 = .ok (.iinc 2 1, 3) := by decide +kernel
theorem dX7_exchange_161 : decode cX7_exchange 161 = .ok (.goto (-101), 3) := by decide +kernel
theorem dX7_exchange_164 : decode cX7_exchange 164 = .ok (.iload_n 1, 1) := by decide +kernel
theorem dX7_exchange_165 : decode cX7_exchange 165 = .ok (.ireturn, 1) := by decide +kernel
abbrev x_X7_exchange : Cx := (7, cX7_exchange, false, some (.int))
set_option maxRecDepth 10000 in
theorem g_X7_exchange_0 {E : Ev} {d : Nat} {G : Hp} {Q : Po} {x0 : Nat} (h : (rcv E G x0 7 = true ∧ (qCV E d i_X7_note [.ref x0] G fun G1 => Xr E d x_X7_exchange 6 [some (.ref x0), some (.int ((iv 0))), none, none, none] [] G1 Q))) : Xr E d x_X7_exchange 0 [some (.ref x0), none, none, none, none] [] G Q := by
  refine r_aload_n dX7_exchange_0 rfl ?_
  refine r_cV dX7_exchange_1 rfl (invV_eq rfl rfl rfl rfl rfl rfl ⟨rfl, Nat.le_of_ble_eq_true rfl⟩ h.1) (qCV_imp (fun G1 h => ?_) h.2)
  refine r_iconst dX7_exchange_4 ?_
  refine r_istore_n dX7_exchange_5 rfl ?_
  exact h
theorem e_X7_exchange {E : Ev} {d : Nat} {G : Hp} {Q : Po} {x0 : Nat} (h : (rcv E G x0 7 = true ∧ (qCV E d i_X7_note [.ref x0] G fun G1 => Xr E d x_X7_exchange 6 [some (.ref x0), some (.int ((iv 0))), none, none, none] [] G1 Q))) : runs E (d + 1) i_X7_exchange [.ref x0] G Q := by
  rw [runs_eq (m := (yX7_exchange, cX7_exchange, 5, some (.int), 0, 7, false, false)) rfl (Nat.le_of_ble_eq_true rfl)]
  exact g_X7_exchange_0 h
set_option maxRecDepth 10000 in
theorem g_X7_exchange_6 {E : Ev} {d : Nat} {G : Hp} {Q : Po} {x0 : Nat} {x1 : Int32} {l2 : Option Value} (h : (if (iv 30) < x1 then Xr E d x_X7_exchange 60 [some (.ref x0), some (.int ((iv 0))), some (.int ((iv 0))), none, none] [] G Q else (qFR E G x0 7 2 fun v1 => (qIA 7 E G v1 ((iv 31) + x1) fun v2 => (qFR E G x0 7 2 fun v3 => (qFR E G x0 7 2 fun v4 => (qIA 7 E G v4 ((iv 62) + x1) fun v5 => (qIS E G v3 ((iv 31) + x1) v5 fun G6 => (qFR E G6 x0 7 2 fun v7 => (qIS E G6 v7 ((iv 62) + x1) v2 fun G8 => Xr E d x_X7_exchange 6 [some (.ref x0), some (.int ((x1 + (iv 1)))), some (.int v2), none, none] [] G8 Q)))))))))) : Xr E d x_X7_exchange 6 [some (.ref x0), some (.int x1), l2, none, none] [] G Q := by
  refine r_iload_n dX7_exchange_6 rfl ?_
  refine r_bipush dX7_exchange_7 rfl ?_
  refine r_cgt (tgt := 56) dX7_exchange_9 (by decide) (ite_imp (fun h => ?_) (fun h => ?_) h)
  · refine r_iconst dX7_exchange_56 ?_
    refine r_istore_n dX7_exchange_57 rfl ?_
    refine r_iconst dX7_exchange_58 ?_
    refine r_istore_n dX7_exchange_59 rfl ?_
    exact h
  · refine r_aload_n dX7_exchange_12 rfl ?_
    refine r_getR dX7_exchange_13 rfl (qFR_imp (fun v1 h => ?_) h)
    refine r_bipush dX7_exchange_16 rfl ?_
    refine r_iload_n dX7_exchange_18 rfl ?_
    refine r_iadd dX7_exchange_19 ?_
    refine r_iald dX7_exchange_20 (qIA_imp (fun v2 h => ?_) h)
    refine r_istore_n dX7_exchange_21 rfl ?_
    refine r_aload_n dX7_exchange_22 rfl ?_
    refine r_getR dX7_exchange_23 rfl (qFR_imp (fun v3 h => ?_) h)
    refine r_bipush dX7_exchange_26 rfl ?_
    refine r_iload_n dX7_exchange_28 rfl ?_
    refine r_iadd dX7_exchange_29 ?_
    refine r_aload_n dX7_exchange_30 rfl ?_
    refine r_getR dX7_exchange_31 rfl (qFR_imp (fun v4 h => ?_) h)
    refine r_bipush dX7_exchange_34 rfl ?_
    refine r_iload_n dX7_exchange_36 rfl ?_
    refine r_iadd dX7_exchange_37 ?_
    refine r_iald dX7_exchange_38 (qIA_imp (fun v5 h => ?_) h)
    refine r_iast dX7_exchange_39 (qIS_imp (fun G6 h => ?_) h)
    refine r_aload_n dX7_exchange_40 rfl ?_
    refine r_getR dX7_exchange_41 rfl (qFR_imp (fun v7 h => ?_) h)
    refine r_bipush dX7_exchange_44 rfl ?_
    refine r_iload_n dX7_exchange_46 rfl ?_
    refine r_iadd dX7_exchange_47 ?_
    refine r_iload_n dX7_exchange_48 rfl ?_
    refine r_iast dX7_exchange_49 (qIS_imp (fun G8 h => ?_) h)
    refine r_iinc dX7_exchange_50 rfl rfl ?_
    refine r_goto (tgt := 6) dX7_exchange_53 (by decide) ?_
    exact h
set_option maxRecDepth 10000 in
theorem g_X7_exchange_60 {E : Ev} {d : Nat} {G : Hp} {Q : Po} {x0 : Nat} {x1 : Int32} {x2 : Int32} {l3 : Option Value} {l4 : Option Value} (h : (if (iv 4) ≤ x2 then Q (some (.int x1)) G else Xr E d x_X7_exchange 67 [some (.ref x0), some (.int x1), some (.int x2), some (.int ((iv 1))), l4] [] G Q)) : Xr E d x_X7_exchange 60 [some (.ref x0), some (.int x1), some (.int x2), l3, l4] [] G Q := by
  refine r_iload_n dX7_exchange_60 rfl ?_
  refine r_iconst dX7_exchange_61 ?_
  refine r_cge (tgt := 164) dX7_exchange_62 (by decide) (ite_imp (fun h => ?_) (fun h => ?_) h)
  · refine r_iload_n dX7_exchange_164 rfl ?_
    exact r_iret dX7_exchange_165 rfl ⟨rfl, h⟩
  · refine r_iconst dX7_exchange_65 ?_
    refine r_istore_n dX7_exchange_66 rfl ?_
    exact h
set_option maxRecDepth 10000 in
theorem g_X7_exchange_67 {E : Ev} {d : Nat} {G : Hp} {Q : Po} {x0 : Nat} {x1 : Int32} {x2 : Int32} {x3 : Int32} {l4 : Option Value} (h : (qFR E G x0 7 2 fun v1 => (qIA 7 E G v1 ((iv 31) * x2) fun v2 => (if v2 < x3 then Xr E d x_X7_exchange 60 [some (.ref x0), some (.int x1), some (.int ((x2 + (iv 1)))), some (.int x3), l4] [] G Q else (qFR E G x0 7 2 fun v3 => (qIA 7 E G v3 (((iv 31) * x2) + x3) fun v4 => (if v4 = (iv 70) then (qFR E G x0 7 2 fun v5 => (if ¬ v4 = (iv 70) then (if ¬ v4 = (iv 71) then (qIS E G v5 (((iv 31) * x2) + x3) v4 fun G6 => Xr E d x_X7_exchange 67 [some (.ref x0), some (.int ((x1 + (iv 1)))), some (.int x2), some (.int ((x3 + (iv 1)))), some (.int v4)] [] G6 Q) else (qIS E G v5 (((iv 31) * x2) + x3) (iv 70) fun G7 => Xr E d x_X7_exchange 67 [some (.ref x0), some (.int ((x1 + (iv 1)))), some (.int x2), some (.int ((x3 + (iv 1)))), some (.int v4)] [] G7 Q)) else (qIS E G v5 (((iv 31) * x2) + x3) (iv 71) fun G8 => Xr E d x_X7_exchange 67 [some (.ref x0), some (.int ((x1 + (iv 1)))), some (.int x2), some (.int ((x3 + (iv 1)))), some (.int v4)] [] G8 Q))) else (if ¬ v4 = (iv 71) then (qFR E G x0 7 2 fun v9 => (if ¬ v4 = (iv 70) then (if ¬ v4 = (iv 71) then (qIS E G v9 (((iv 31) * x2) + x3) v4 fun G10 => Xr E d x_X7_exchange 67 [some (.ref x0), some (.int ((x1 + (iv 0)))), some (.int x2), some (.int ((x3 + (iv 1)))), some (.int v4)] [] G10 Q) else (qIS E G v9 (((iv 31) * x2) + x3) (iv 70) fun G11 => Xr E d x_X7_exchange 67 [some (.ref x0), some (.int ((x1 + (iv 0)))), some (.int x2), some (.int ((x3 + (iv 1)))), some (.int v4)] [] G11 Q)) else (qIS E G v9 (((iv 31) * x2) + x3) (iv 71) fun G12 => Xr E d x_X7_exchange 67 [some (.ref x0), some (.int ((x1 + (iv 0)))), some (.int x2), some (.int ((x3 + (iv 1)))), some (.int v4)] [] G12 Q))) else (qFR E G x0 7 2 fun v13 => (if ¬ v4 = (iv 70) then (if ¬ v4 = (iv 71) then (qIS E G v13 (((iv 31) * x2) + x3) v4 fun G14 => Xr E d x_X7_exchange 67 [some (.ref x0), some (.int ((x1 + (iv 1)))), some (.int x2), some (.int ((x3 + (iv 1)))), some (.int v4)] [] G14 Q) else (qIS E G v13 (((iv 31) * x2) + x3) (iv 70) fun G15 => Xr E d x_X7_exchange 67 [some (.ref x0), some (.int ((x1 + (iv 1)))), some (.int x2), some (.int ((x3 + (iv 1)))), some (.int v4)] [] G15 Q)) else (qIS E G v13 (((iv 31) * x2) + x3) (iv 71) fun G16 => Xr E d x_X7_exchange 67 [some (.ref x0), some (.int ((x1 + (iv 1)))), some (.int x2), some (.int ((x3 + (iv 1)))), some (.int v4)] [] G16 Q))))))))))) : Xr E d x_X7_exchange 67 [some (.ref x0), some (.int x1), some (.int x2), some (.int x3), l4] [] G Q := by
  refine r_iload_n dX7_exchange_67 rfl ?_
  refine r_aload_n dX7_exchange_68 rfl ?_
  refine r_getR dX7_exchange_69 rfl (qFR_imp (fun v1 h => ?_) h)
  refine r_bipush dX7_exchange_72 rfl ?_
  refine r_iload_n dX7_exchange_74 rfl ?_
  refine r_imul dX7_exchange_75 ?_
  refine r_iald dX7_exchange_76 (qIA_imp (fun v2 h => ?_) h)
  refine r_cgt (tgt := 158) dX7_exchange_77 (by decide) (ite_imp (fun h => ?_) (fun h => ?_) h)
  · refine r_iinc dX7_exchange_158 rfl rfl ?_
    refine r_goto (tgt := 60) dX7_exchange_161 (by decide) ?_
    exact h
  · refine r_aload_n dX7_exchange_80 rfl ?_
    refine r_getR dX7_exchange_81 rfl (qFR_imp (fun v3 h => ?_) h)
    refine r_bipush dX7_exchange_84 rfl ?_
    refine r_iload_n dX7_exchange_86 rfl ?_
    refine r_imul dX7_exchange_87 ?_
    refine r_iload_n dX7_exchange_88 rfl ?_
    refine r_iadd dX7_exchange_89 ?_
    refine r_iald dX7_exchange_90 (qIA_imp (fun v4 h => ?_) h)
    refine r_istore dX7_exchange_91 rfl ?_
    refine r_iload_n dX7_exchange_93 rfl ?_
    refine r_iload dX7_exchange_94 rfl ?_
    refine r_bipush dX7_exchange_96 rfl ?_
    refine r_ceq (tgt := 108) dX7_exchange_98 (by decide) (ite_imp (fun h => ?_) (fun h => ?_) h)
    · refine r_iconst dX7_exchange_108 ?_
      refine r_goto (tgt := 113) dX7_exchange_109 (by decide) ?_
      refine r_iadd dX7_exchange_113 ?_
      refine r_istore_n dX7_exchange_114 rfl ?_
      refine r_aload_n dX7_exchange_115 rfl ?_
      refine r_getR dX7_exchange_116 rfl (qFR_imp (fun v5 h => ?_) h)
      refine r_bipush dX7_exchange_119 rfl ?_
      refine r_iload_n dX7_exchange_121 rfl ?_
      refine r_imul dX7_exchange_122 ?_
      refine r_iload_n dX7_exchange_123 rfl ?_
      refine r_iadd dX7_exchange_124 ?_
      refine r_iload dX7_exchange_125 rfl ?_
      refine r_bipush dX7_exchange_127 rfl ?_
      refine r_cne (tgt := 137) dX7_exchange_129 (by decide) (ite_imp (fun h => ?_) (fun h => ?_) h)
      · refine r_iload dX7_exchange_137 rfl ?_
        refine r_bipush dX7_exchange_139 rfl ?_
        refine r_cne (tgt := 149) dX7_exchange_141 (by decide) (ite_imp (fun h => ?_) (fun h => ?_) h)
        · refine r_iload dX7_exchange_149 rfl ?_
          refine r_iast dX7_exchange_151 (qIS_imp (fun G6 h => ?_) h)
          refine r_iinc dX7_exchange_152 rfl rfl ?_
          refine r_goto (tgt := 67) dX7_exchange_155 (by decide) ?_
          exact h
        · refine r_bipush dX7_exchange_144 rfl ?_
          refine r_goto (tgt := 151) dX7_exchange_146 (by decide) ?_
          refine r_iast dX7_exchange_151 (qIS_imp (fun G7 h => ?_) h)
          refine r_iinc dX7_exchange_152 rfl rfl ?_
          refine r_goto (tgt := 67) dX7_exchange_155 (by decide) ?_
          exact h
      · refine r_bipush dX7_exchange_132 rfl ?_
        refine r_goto (tgt := 151) dX7_exchange_134 (by decide) ?_
        refine r_iast dX7_exchange_151 (qIS_imp (fun G8 h => ?_) h)
        refine r_iinc dX7_exchange_152 rfl rfl ?_
        refine r_goto (tgt := 67) dX7_exchange_155 (by decide) ?_
        exact h
    · refine r_iload dX7_exchange_101 rfl ?_
      refine r_bipush dX7_exchange_103 rfl ?_
      refine r_cne (tgt := 112) dX7_exchange_105 (by decide) (ite_imp (fun h => ?_) (fun h => ?_) h)
      · refine r_iconst dX7_exchange_112 ?_
        refine r_iadd dX7_exchange_113 ?_
        refine r_istore_n dX7_exchange_114 rfl ?_
        refine r_aload_n dX7_exchange_115 rfl ?_
        refine r_getR dX7_exchange_116 rfl (qFR_imp (fun v9 h => ?_) h)
        refine r_bipush dX7_exchange_119 rfl ?_
        refine r_iload_n dX7_exchange_121 rfl ?_
        refine r_imul dX7_exchange_122 ?_
        refine r_iload_n dX7_exchange_123 rfl ?_
        refine r_iadd dX7_exchange_124 ?_
        refine r_iload dX7_exchange_125 rfl ?_
        refine r_bipush dX7_exchange_127 rfl ?_
        refine r_cne (tgt := 137) dX7_exchange_129 (by decide) (ite_imp (fun h => ?_) (fun h => ?_) h)
        · refine r_iload dX7_exchange_137 rfl ?_
          refine r_bipush dX7_exchange_139 rfl ?_
          refine r_cne (tgt := 149) dX7_exchange_141 (by decide) (ite_imp (fun h => ?_) (fun h => ?_) h)
          · refine r_iload dX7_exchange_149 rfl ?_
            refine r_iast dX7_exchange_151 (qIS_imp (fun G10 h => ?_) h)
            refine r_iinc dX7_exchange_152 rfl rfl ?_
            refine r_goto (tgt := 67) dX7_exchange_155 (by decide) ?_
            exact h
          · refine r_bipush dX7_exchange_144 rfl ?_
            refine r_goto (tgt := 151) dX7_exchange_146 (by decide) ?_
            refine r_iast dX7_exchange_151 (qIS_imp (fun G11 h => ?_) h)
            refine r_iinc dX7_exchange_152 rfl rfl ?_
            refine r_goto (tgt := 67) dX7_exchange_155 (by decide) ?_
            exact h
        · refine r_bipush dX7_exchange_132 rfl ?_
          refine r_goto (tgt := 151) dX7_exchange_134 (by decide) ?_
          refine r_iast dX7_exchange_151 (qIS_imp (fun G12 h => ?_) h)
          refine r_iinc dX7_exchange_152 rfl rfl ?_
          refine r_goto (tgt := 67) dX7_exchange_155 (by decide) ?_
          exact h
      · refine r_iconst dX7_exchange_108 ?_
        refine r_goto (tgt := 113) dX7_exchange_109 (by decide) ?_
        refine r_iadd dX7_exchange_113 ?_
        refine r_istore_n dX7_exchange_114 rfl ?_
        refine r_aload_n dX7_exchange_115 rfl ?_
        refine r_getR dX7_exchange_116 rfl (qFR_imp (fun v13 h => ?_) h)
        refine r_bipush dX7_exchange_119 rfl ?_
        refine r_iload_n dX7_exchange_121 rfl ?_
        refine r_imul dX7_exchange_122 ?_
        refine r_iload_n dX7_exchange_123 rfl ?_
        refine r_iadd dX7_exchange_124 ?_
        refine r_iload dX7_exchange_125 rfl ?_
        refine r_bipush dX7_exchange_127 rfl ?_
        refine r_cne (tgt := 137) dX7_exchange_129 (by decide) (ite_imp (fun h => ?_) (fun h => ?_) h)
        · refine r_iload dX7_exchange_137 rfl ?_
          refine r_bipush dX7_exchange_139 rfl ?_
          refine r_cne (tgt := 149) dX7_exchange_141 (by decide) (ite_imp (fun h => ?_) (fun h => ?_) h)
          · refine r_iload dX7_exchange_149 rfl ?_
            refine r_iast dX7_exchange_151 (qIS_imp (fun G14 h => ?_) h)
            refine r_iinc dX7_exchange_152 rfl rfl ?_
            refine r_goto (tgt := 67) dX7_exchange_155 (by decide) ?_
            exact h
          · refine r_bipush dX7_exchange_144 rfl ?_
            refine r_goto (tgt := 151) dX7_exchange_146 (by decide) ?_
            refine r_iast dX7_exchange_151 (qIS_imp (fun G15 h => ?_) h)
            refine r_iinc dX7_exchange_152 rfl rfl ?_
            refine r_goto (tgt := 67) dX7_exchange_155 (by decide) ?_
            exact h
        · refine r_bipush dX7_exchange_132 rfl ?_
          refine r_goto (tgt := 151) dX7_exchange_134 (by decide) ?_
          refine r_iast dX7_exchange_151 (qIS_imp (fun G16 h => ?_) h)
          refine r_iinc dX7_exchange_152 rfl rfl ?_
          refine r_goto (tgt := 67) dX7_exchange_155 (by decide) ?_
          exact h
theorem dX7_undo_0 : decode cX7_undo 0 = .ok (.aload_n 0, 1) := by decide +kernel
theorem dX7_undo_1 : decode cX7_undo 1 = .ok (.getfield 113, 3) := by decide +kernel
theorem dX7_undo_4 : decode cX7_undo 4 = .ok (.ifCond .ne 6, 3) := by decide +kernel
theorem dX7_undo_7 : decode cX7_undo 7 = .ok (.bipush (-3), 2) := by decide +kernel
theorem dX7_undo_9 : decode cX7_undo 9 = .ok (.ireturn, 1) := by decide +kernel
theorem dX7_undo_10 : decode cX7_undo 10 = .ok (.aload_n 0, 1) := by decide +kernel
theorem dX7_undo_11 : decode cX7_undo 11 = .ok (.dup, 1) := by decide +kernel
theorem dX7_undo_12 : decode cX7_undo 12 = .ok (.getfield 113, 3) := by decide +kernel
theorem dX7_undo_15 : decode cX7_undo 15 = .ok (.iconst 1, 1) := by decide +kernel
theorem dX7_undo_16 : decode cX7_undo 16 = .ok (.isub, 1) := by decide +kernel
theorem dX7_undo_17 : decode cX7_undo 17 = .ok (.putfield 113, 3) := by decide +kernel
theorem dX7_undo_20 : decode cX7_undo 20 = .ok (.aload_n 0, 1) := by decide +kernel
theorem dX7_undo_21 : decode cX7_undo 21 = .ok (.aload_n 0, 1) := by decide +kernel
theorem dX7_undo_22 : decode cX7_undo 22 = .ok (.getfield 132, 3) := by decide +kernel
theorem dX7_undo_25 : decode cX7_undo 25 = .ok (.bipush 14, 2) := by decide +kernel
theorem dX7_undo_27 : decode cX7_undo 27 = .ok (.iadd, 1) := by decide +kernel
theorem dX7_undo_28 : decode cX7_undo 28 = .ok (.iconst 1, 1) := by decide +kernel
theorem dX7_undo_29 : decode cX7_undo 29 = .ok (.isub, 1) := by decide +kernel
theorem dX7_undo_30 : decode cX7_undo 30 = .ok (.bipush 14, 2) := by decide +kernel
theorem dX7_undo_32 : decode cX7_undo 32 = .ok (.irem, 1) := by decide +kernel
theorem dX7_undo_33 : decode cX7_undo 33 = .ok (.putfield 132, 3) := by decide +kernel
theorem dX7_undo_36 : decode cX7_undo 36 = .ok (.iconst 0, 1) := by decide +kernel
theorem dX7_undo_37 : decode cX7_undo 37 = .ok (.istore_n 1, 1) := by decide +kernel
theorem dX7_undo_38 : decode cX7_undo 38 = .ok (.iload_n 1, 1) := by decide +kernel
theorem dX7_undo_39 : decode cX7_undo 39 = .ok (.sipush 160, 3) := by decide +kernel
theorem dX7_undo_42 : decode cX7_undo 42 = .ok (.if_icmp .ge 30, 3) := by decide +kernel
theorem dX7_undo_45 : decode cX7_undo 45 = .ok (.aload_n 0, 1) := by decide +kernel
theorem dX7_undo_46 : decode cX7_undo 46 = .ok (.getfield 13, 3) := by decide +kernel
theorem dX7_undo_49 : decode cX7_undo 49 = .ok (.iload_n 1, 1) := by decide +kernel
theorem dX7_undo_50 : decode cX7_undo 50 = .ok (.aload_n 0, 1) := by decide +kernel
theorem dX7_undo_51 : decode cX7_undo 51 = .ok (.getfield 22, 3) := by decide +kernel
theorem dX7_undo_54 : decode cX7_undo 54 = .ok (.sipush 160, 3) := by decide +kernel
theorem dX7_undo_57 : decode cX7_undo 57 = .ok (.aload_n 0, 1) := by decide +kernel
theorem dX7_undo_58 : decode cX7_undo 58 = .ok (.getfield 132, 3) := by decide +kernel
theorem dX7_undo_61 : decode cX7_undo 61 = .ok (.imul, 1) := by decide +kernel
theorem dX7_undo_62 : decode cX7_undo 62 = .ok (.iload_n 1, 1) := by decide +kernel
theorem dX7_undo_63 : decode cX7_undo 63 = .ok (.iadd, 1) := by decide +kernel
theorem dX7_undo_64 : decode cX7_undo 64 = .ok (.iaload, 1) := by decide +kernel
theorem dX7_undo_65 : decode cX7_undo 65 = .ok (.iastore, 1) := by decide +kernel
theorem dX7_undo_66 : decode cX7_undo 66 = .ok (.iinc 1 1, 3) := by decide +kernel
theorem dX7_undo_69 : decode cX7_undo 69 = .ok (.goto (-31), 3) := by decide +kernel
theorem dX7_undo_72 : decode cX7_undo 72 = .ok (.aload_n 0, 1) := by decide +kernel
theorem dX7_undo_73 : decode cX7_undo 73 = .ok (.getfield 113, 3) := by decide +kernel
theorem dX7_undo_76 : decode cX7_undo 76 = .ok (.ireturn, 1) := by decide +kernel
abbrev x_X7_undo : Cx := (7, cX7_undo, false, some (.int))
set_option maxRecDepth 10000 in
theorem g_X7_undo_0 {E : Ev} {d : Nat} {G : Hp} {Q : Po} {x0 : Nat} (h : (qFI E G x0 7 6 fun v1 => (if ¬ v1 = 0 then (qFI E G x0 7 6 fun v2 => (qP E G x0 7 6 (.int ((v2 - (iv 1)))) fun G3 => (qFI E G3 x0 7 7 fun v4 => (qP E G3 x0 7 7 (.int ((((v4 + (iv 14)) - (iv 1)) - ((v4 + (iv 14)) - (iv 1)) / (iv 14) * (iv 14)))) fun G5 => Xr E d x_X7_undo 38 [some (.ref x0), some (.int ((iv 0)))] [] G5 Q)))) else Q (some (.int (iv (-3)))) G))) : Xr E d x_X7_undo 0 [some (.ref x0), none] [] G Q := by
  refine r_aload_n dX7_undo_0 rfl ?_
  refine r_getI dX7_undo_1 rfl (qFI_imp (fun v1 h => ?_) h)
  refine r_ifne (tgt := 10) dX7_undo_4 (by decide) (ite_imp (fun h => ?_) (fun h => ?_) h)
  · refine r_aload_n dX7_undo_10 rfl ?_
    refine r_dup dX7_undo_11 rfl ?_
    refine r_getI dX7_undo_12 rfl (qFI_imp (fun v2 h => ?_) h)
    refine r_iconst dX7_undo_15 ?_
    refine r_isub dX7_undo_16 ?_
    refine r_put dX7_undo_17 rfl rfl (by decide) (qP_imp (fun G3 h => ?_) h)
    refine r_aload_n dX7_undo_20 rfl ?_
    refine r_aload_n dX7_undo_21 rfl ?_
    refine r_getI dX7_undo_22 rfl (qFI_imp (fun v4 h => ?_) h)
    refine r_bipush dX7_undo_25 rfl ?_
    refine r_iadd dX7_undo_27 ?_
    refine r_iconst dX7_undo_28 ?_
    refine r_isub dX7_undo_29 ?_
    refine r_bipush dX7_undo_30 rfl ?_
    refine r_irem dX7_undo_32 ⟨by decide, ?_⟩
    refine r_put dX7_undo_33 rfl rfl (by decide) (qP_imp (fun G5 h => ?_) h)
    refine r_iconst dX7_undo_36 ?_
    refine r_istore_n dX7_undo_37 rfl ?_
    exact h
  · refine r_bipush dX7_undo_7 rfl ?_
    exact r_iret dX7_undo_9 rfl ⟨rfl, h⟩
theorem e_X7_undo {E : Ev} {d : Nat} {G : Hp} {Q : Po} {x0 : Nat} (h : (qFI E G x0 7 6 fun v1 => (if ¬ v1 = 0 then (qFI E G x0 7 6 fun v2 => (qP E G x0 7 6 (.int ((v2 - (iv 1)))) fun G3 => (qFI E G3 x0 7 7 fun v4 => (qP E G3 x0 7 7 (.int ((((v4 + (iv 14)) - (iv 1)) - ((v4 + (iv 14)) - (iv 1)) / (iv 14) * (iv 14)))) fun G5 => Xr E d x_X7_undo 38 [some (.ref x0), some (.int ((iv 0)))] [] G5 Q)))) else Q (some (.int (iv (-3)))) G))) : runs E (d + 1) i_X7_undo [.ref x0] G Q := by
  rw [runs_eq (m := (yX7_undo, cX7_undo, 2, some (.int), 0, 7, false, false)) rfl (Nat.le_of_ble_eq_true rfl)]
  exact g_X7_undo_0 h
set_option maxRecDepth 10000 in
theorem g_X7_undo_38 {E : Ev} {d : Nat} {G : Hp} {Q : Po} {x0 : Nat} {x1 : Int32} (h : (if (iv 160) ≤ x1 then (qFI E G x0 7 6 fun v1 => Q (some (.int v1)) G) else (qFR E G x0 7 2 fun v2 => (qFR E G x0 7 5 fun v3 => (qFI E G x0 7 7 fun v4 => (qIA 7 E G v3 (((iv 160) * v4) + x1) fun v5 => (qIS E G v2 x1 v5 fun G6 => Xr E d x_X7_undo 38 [some (.ref x0), some (.int ((x1 + (iv 1))))] [] G6 Q))))))) : Xr E d x_X7_undo 38 [some (.ref x0), some (.int x1)] [] G Q := by
  refine r_iload_n dX7_undo_38 rfl ?_
  refine r_sipush dX7_undo_39 rfl ?_
  refine r_cge (tgt := 72) dX7_undo_42 (by decide) (ite_imp (fun h => ?_) (fun h => ?_) h)
  · refine r_aload_n dX7_undo_72 rfl ?_
    refine r_getI dX7_undo_73 rfl (qFI_imp (fun v1 h => ?_) h)
    exact r_iret dX7_undo_76 rfl ⟨rfl, h⟩
  · refine r_aload_n dX7_undo_45 rfl ?_
    refine r_getR dX7_undo_46 rfl (qFR_imp (fun v2 h => ?_) h)
    refine r_iload_n dX7_undo_49 rfl ?_
    refine r_aload_n dX7_undo_50 rfl ?_
    refine r_getR dX7_undo_51 rfl (qFR_imp (fun v3 h => ?_) h)
    refine r_sipush dX7_undo_54 rfl ?_
    refine r_aload_n dX7_undo_57 rfl ?_
    refine r_getI dX7_undo_58 rfl (qFI_imp (fun v4 h => ?_) h)
    refine r_imul dX7_undo_61 ?_
    refine r_iload_n dX7_undo_62 rfl ?_
    refine r_iadd dX7_undo_63 ?_
    refine r_iald dX7_undo_64 (qIA_imp (fun v5 h => ?_) h)
    refine r_iast dX7_undo_65 (qIS_imp (fun G6 h => ?_) h)
    refine r_iinc dX7_undo_66 rfl rfl ?_
    refine r_goto (tgt := 38) dX7_undo_69 (by decide) ?_
    exact h
theorem dX7_evaluate_0 : decode cX7_evaluate 0 = .ok (.iconst 0, 1) := by decide +kernel
theorem dX7_evaluate_1 : decode cX7_evaluate 1 = .ok (.istore_n 2, 1) := by decide +kernel
theorem dX7_evaluate_2 : decode cX7_evaluate 2 = .ok (.aload_n 0, 1) := by decide +kernel
theorem dX7_evaluate_3 : decode cX7_evaluate 3 = .ok (.getfield 32, 3) := by decide +kernel
theorem dX7_evaluate_6 : decode cX7_evaluate 6 = .ok (.iconst 0, 1) := by decide +kernel
theorem dX7_evaluate_7 : decode cX7_evaluate 7 = .ok (.iaload, 1) := by decide +kernel
theorem dX7_evaluate_8 : decode cX7_evaluate 8 = .ok (.invokestatic 70, 3) := by decide +kernel
theorem dX7_evaluate_11 : decode cX7_evaluate 11 = .ok (.bipush (-9), 2) := by decide +kernel
theorem dX7_evaluate_13 : decode cX7_evaluate 13 = .ok (.if_icmp .eq 103, 3) := by decide +kernel
theorem dX7_evaluate_16 : decode cX7_evaluate 16 = .ok (.iload_n 2, 1) := by decide +kernel
theorem dX7_evaluate_17 : decode cX7_evaluate 17 = .ok (.bipush 40, 2) := by decide +kernel
theorem dX7_evaluate_19 : decode cX7_evaluate 19 = .ok (.if_icmp .ne 9, 3) := by decide +kernel
theorem dX7_evaluate_22 : decode cX7_evaluate 22 = .ok (.aload_n 0, 1) := by decide +kernel
theorem dX7_evaluate_23 : decode cX7_evaluate 23 = .ok (.iconst 0, 1) := by decide +kernel
theorem dX7_evaluate_24 : decode cX7_evaluate 24 = .ok (.putfield 164, 3) := by decide +kernel
theorem dX7_evaluate_27 : decode cX7_evaluate 27 = .ok (.return_, 1) := by decide +kernel
theorem dX7_evaluate_28 : decode cX7_evaluate 28 = .ok (.aload_n 0, 1) := by decide +kernel
theorem dX7_evaluate_29 : decode cX7_evaluate 29 = .ok (.iconst 0, 1) := by decide +kernel
theorem dX7_evaluate_30 : decode cX7_evaluate 30 = .ok (.putfield 142, 3) := by decide +kernel
theorem dX7_evaluate_33 : decode cX7_evaluate 33 = .ok (.aload_n 0, 1) := by decide +kernel
theorem dX7_evaluate_34 : decode cX7_evaluate 34 = .ok (.aload_n 1, 1) := by decide +kernel
theorem dX7_evaluate_35 : decode cX7_evaluate 35 = .ok (.aload_n 0, 1) := by decide +kernel
theorem dX7_evaluate_36 : decode cX7_evaluate 36 = .ok (.getfield 32, 3) := by decide +kernel
theorem dX7_evaluate_39 : decode cX7_evaluate 39 = .ok (.iconst 0, 1) := by decide +kernel
theorem dX7_evaluate_40 : decode cX7_evaluate 40 = .ok (.invokevirtual 160, 3) := by decide +kernel
theorem dX7_evaluate_43 : decode cX7_evaluate 43 = .ok (.istore_n 3, 1) := by decide +kernel
theorem dX7_evaluate_44 : decode cX7_evaluate 44 = .ok (.aload_n 0, 1) := by decide +kernel
theorem dX7_evaluate_45 : decode cX7_evaluate 45 = .ok (.getfield 142, 3) := by decide +kernel
theorem dX7_evaluate_48 : decode cX7_evaluate 48 = .ok (.sipush 200, 3) := by decide +kernel
theorem dX7_evaluate_51 : decode cX7_evaluate 51 = .ok (.if_icmp .le 9, 3) := by decide +kernel
theorem dX7_evaluate_54 : decode cX7_evaluate 54 = .ok (.aload_n 0, 1) := by decide +kernel
theorem dX7_evaluate_55 : decode cX7_evaluate 55 = .ok (.iconst 0, 1) := by decide +kernel
theorem dX7_evaluate_56 : decode cX7_evaluate 56 = .ok (.putfield 164, 3) := by decide +kernel
theorem dX7_evaluate_59 : decode cX7_evaluate 59 = .ok (.return_, 1) := by decide +kernel
theorem dX7_evaluate_60 : decode cX7_evaluate 60 = .ok (.aload_n 0, 1) := by decide +kernel
theorem dX7_evaluate_61 : decode cX7_evaluate 61 = .ok (.aload_n 0, 1) := by decide +kernel
theorem dX7_evaluate_62 : decode cX7_evaluate 62 = .ok (.getfield 142, 3) := by decide +kernel
theorem dX7_evaluate_65 : decode cX7_evaluate 65 = .ok (.putfield 157, 3) := by decide +kernel
theorem dX7_evaluate_68 : decode cX7_evaluate 68 = .ok (.iconst 0, 1) := by decide +kernel
theorem dX7_evaluate_69 : decode cX7_evaluate 69 = .ok (.istore 4, 2) := by decide +kernel
theorem dX7_evaluate_71 : decode cX7_evaluate 71 = .ok (.iload 4, 2) := by decide +kernel
theorem dX7_evaluate_73 : decode cX7_evaluate 73 = .ok (.aload_n 0, 1) := by decide +kernel
theorem dX7_evaluate_74 : decode cX7_evaluate 74 = .ok (.getfield 157, 3) := by decide +kernel
theorem dX7_evaluate_77 : decode cX7_evaluate 77 = .ok (.if_icmp .ge 23, 3) := by decide +kernel
theorem dX7_evaluate_80 : decode cX7_evaluate 80 = .ok (.aload_n 0, 1) := by decide +kernel
theorem dX7_evaluate_81 : decode cX7_evaluate 81 = .ok (.getfield 32, 3) := by decide +kernel
theorem dX7_evaluate_84 : decode cX7_evaluate 84 = .ok (.iload 4, 2) := by decide +kernel
theorem dX7_evaluate_86 : decode cX7_evaluate 86 = .ok (.aload_n 0, 1) := by decide +kernel
theorem dX7_evaluate_87 : decode cX7_evaluate 87 = .ok (.getfield 35, 3) := by decide +kernel
theorem dX7_evaluate_90 : decode cX7_evaluate 90 = .ok (.iload 4, 2) := by decide +kernel
theorem dX7_evaluate_92 : decode cX7_evaluate 92 = .ok (.iaload, 1) := by decide +kernel
theorem dX7_evaluate_93 : decode cX7_evaluate 93 = .ok (.iastore, 1) := by decide +kernel
theorem dX7_evaluate_94 : decode cX7_evaluate 94 = .ok (.iinc 4 1, 3) := by decide +kernel
theorem dX7_evaluate_97 : decode cX7_evaluate 97 = .ok (.goto (-26), 3) := by decide +kernel
theorem dX7_evaluate_100 : decode cX7_evaluate 100 = .ok (.iinc 2 1, 3) := by decide +kernel
theorem dX7_evaluate_103 : decode cX7_evaluate 103 = .ok (.aload_n 0, 1) := by decide +kernel
theorem dX7_evaluate_104 : decode cX7_evaluate 104 = .ok (.dup, 1) := by decide +kernel
theorem dX7_evaluate_105 : decode cX7_evaluate 105 = .ok (.getfield 167, 3) := by decide +kernel
theorem dX7_evaluate_108 : decode cX7_evaluate 108 = .ok (.iconst 1, 1) := by decide +kernel
theorem dX7_evaluate_109 : decode cX7_evaluate 109 = .ok (.iadd, 1) := by decide +kernel
theorem dX7_evaluate_110 : decode cX7_evaluate 110 = .ok (.putfield 167, 3) := by decide +kernel
theorem dX7_evaluate_113 : decode cX7_evaluate 113 = .ok (.goto (-111), 3) := by decide +kernel
theorem dX7_evaluate_116 : decode cX7_evaluate 116 = .ok (.aload_n 0, 1) := by decide +kernel
theorem dX7_evaluate_117 : decode cX7_evaluate 117 = .ok (.aload_n 0, 1) := by decide +kernel
theorem dX7_evaluate_118 : decode cX7_evaluate 118 = .ok (.getfield 32, 3) := by decide +kernel
theorem dX7_evaluate_121 : decode cX7_evaluate 121 = .ok (.iconst 0, 1) := by decide +kernel
theorem dX7_evaluate_122 : decode cX7_evaluate 122 = .ok (.iaload, 1) := by decide +kernel
theorem dX7_evaluate_123 : decode cX7_evaluate 123 = .ok (.putfield 164, 3) := by decide +kernel
theorem dX7_evaluate_126 : decode cX7_evaluate 126 = .ok (.return_, 1) := by decide +kernel
abbrev x_X7_evaluate : Cx := (7, cX7_evaluate, false, none)
set_option maxRecDepth 10000 in
theorem g_X7_evaluate_0 {E : Ev} {d : Nat} {G : Hp} {Q : Po} {x0 : Nat} {x1 : Nat} (h : Xr E d x_X7_evaluate 2 [some (.ref x0), some (.ref x1), some (.int ((iv 0))), none, none] [] G Q) : Xr E d x_X7_evaluate 0 [some (.ref x0), some (.ref x1), none, none, none] [] G Q := by
  refine r_iconst dX7_evaluate_0 ?_
  refine r_istore_n dX7_evaluate_1 rfl ?_
  exact h
theorem e_X7_evaluate {E : Ev} {d : Nat} {G : Hp} {Q : Po} {x0 : Nat} {x1 : Nat} (h : Xr E d x_X7_evaluate 2 [some (.ref x0), some (.ref x1), some (.int ((iv 0))), none, none] [] G Q) : runs E (d + 1) i_X7_evaluate [.ref x0, .ref x1] G Q := by
  rw [runs_eq (m := (yX7_evaluate, cX7_evaluate, 5, none, 1, 7, false, false)) rfl (Nat.le_of_ble_eq_true rfl)]
  exact g_X7_evaluate_0 h
set_option maxRecDepth 10000 in
theorem g_X7_evaluate_2 {E : Ev} {d : Nat} {G : Hp} {Q : Po} {x0 : Nat} {x1 : Nat} {x2 : Int32} {l3 : Option Value} {l4 : Option Value} (h : (qFR E G x0 7 10 fun v1 => (qIA 7 E G v1 (iv 0) fun v2 => (qCI E d i_X7_nonterminal [.int v2] G fun v4 G3 => (if v4 = (iv (-9)) then (qFR E G3 x0 7 10 fun v5 => (qIA 7 E G3 v5 (iv 0) fun v6 => (qP E G3 x0 7 14 (.int v6) fun G7 => Q none G7))) else (if ¬ x2 = (iv 40) then (qP E G3 x0 7 13 (.int ((iv 0))) fun G8 => (qFR E G8 x0 7 10 fun v9 => (rcv E G8 x0 7 = true ∧ (qCI E d i_X7_putExpanded [.ref x0, .ref x1, .ref v9, .int ((iv 0))] G8 fun v11 G10 => (qFI E G10 x0 7 13 fun v12 => (if v12 ≤ (iv 200) then (qFI E G10 x0 7 13 fun v13 => (qP E G10 x0 7 11 (.int v13) fun G14 => Xr E d x_X7_evaluate 71 [some (.ref x0), some (.ref x1), some (.int x2), some (.int v11), some (.int ((iv 0)))] [] G14 Q)) else (qP E G10 x0 7 14 (.int ((iv 0))) fun G15 => Q none G15))))))) else (qP E G3 x0 7 14 (.int ((iv 0))) fun G16 => Q none G16))))))) : Xr E d x_X7_evaluate 2 [some (.ref x0), some (.ref x1), some (.int x2), l3, l4] [] G Q := by
  refine r_aload_n dX7_evaluate_2 rfl ?_
  refine r_getR dX7_evaluate_3 rfl (qFR_imp (fun v1 h => ?_) h)
  refine r_iconst dX7_evaluate_6 ?_
  refine r_iald dX7_evaluate_7 (qIA_imp (fun v2 h => ?_) h)
  refine r_cI dX7_evaluate_8 rfl (invS_eq rfl (by decide) rfl rfl rfl rfl ⟨rfl, Nat.le_of_ble_eq_true rfl⟩) (qCI_imp (fun v4 G3 h => ?_) h)
  refine r_bipush dX7_evaluate_11 rfl ?_
  refine r_ceq (tgt := 116) dX7_evaluate_13 (by decide) (ite_imp (fun h => ?_) (fun h => ?_) h)
  · refine r_aload_n dX7_evaluate_116 rfl ?_
    refine r_aload_n dX7_evaluate_117 rfl ?_
    refine r_getR dX7_evaluate_118 rfl (qFR_imp (fun v5 h => ?_) h)
    refine r_iconst dX7_evaluate_121 ?_
    refine r_iald dX7_evaluate_122 (qIA_imp (fun v6 h => ?_) h)
    refine r_put dX7_evaluate_123 rfl rfl (by decide) (qP_imp (fun G7 h => ?_) h)
    exact r_vret dX7_evaluate_126 rfl h
  · refine r_iload_n dX7_evaluate_16 rfl ?_
    refine r_bipush dX7_evaluate_17 rfl ?_
    refine r_cne (tgt := 28) dX7_evaluate_19 (by decide) (ite_imp (fun h => ?_) (fun h => ?_) h)
    · refine r_aload_n dX7_evaluate_28 rfl ?_
      refine r_iconst dX7_evaluate_29 ?_
      refine r_put dX7_evaluate_30 rfl rfl (by decide) (qP_imp (fun G8 h => ?_) h)
      refine r_aload_n dX7_evaluate_33 rfl ?_
      refine r_aload_n dX7_evaluate_34 rfl ?_
      refine r_aload_n dX7_evaluate_35 rfl ?_
      refine r_getR dX7_evaluate_36 rfl (qFR_imp (fun v9 h => ?_) h)
      refine r_iconst dX7_evaluate_39 ?_
      refine r_cI dX7_evaluate_40 rfl (invV_eq rfl rfl rfl rfl rfl rfl ⟨rfl, Nat.le_of_ble_eq_true rfl⟩ h.1) (qCI_imp (fun v11 G10 h => ?_) h.2)
      refine r_istore_n dX7_evaluate_43 rfl ?_
      refine r_aload_n dX7_evaluate_44 rfl ?_
      refine r_getI dX7_evaluate_45 rfl (qFI_imp (fun v12 h => ?_) h)
      refine r_sipush dX7_evaluate_48 rfl ?_
      refine r_cle (tgt := 60) dX7_evaluate_51 (by decide) (ite_imp (fun h => ?_) (fun h => ?_) h)
      · refine r_aload_n dX7_evaluate_60 rfl ?_
        refine r_aload_n dX7_evaluate_61 rfl ?_
        refine r_getI dX7_evaluate_62 rfl (qFI_imp (fun v13 h => ?_) h)
        refine r_put dX7_evaluate_65 rfl rfl (by decide) (qP_imp (fun G14 h => ?_) h)
        refine r_iconst dX7_evaluate_68 ?_
        refine r_istore dX7_evaluate_69 rfl ?_
        exact h
      · refine r_aload_n dX7_evaluate_54 rfl ?_
        refine r_iconst dX7_evaluate_55 ?_
        refine r_put dX7_evaluate_56 rfl rfl (by decide) (qP_imp (fun G15 h => ?_) h)
        exact r_vret dX7_evaluate_59 rfl h
    · refine r_aload_n dX7_evaluate_22 rfl ?_
      refine r_iconst dX7_evaluate_23 ?_
      refine r_put dX7_evaluate_24 rfl rfl (by decide) (qP_imp (fun G16 h => ?_) h)
      exact r_vret dX7_evaluate_27 rfl h
set_option maxRecDepth 10000 in
theorem g_X7_evaluate_71 {E : Ev} {d : Nat} {G : Hp} {Q : Po} {x0 : Nat} {x1 : Nat} {x2 : Int32} {x3 : Int32} {x4 : Int32} (h : (qFI E G x0 7 11 fun v1 => (if v1 ≤ x4 then (qFI E G x0 7 15 fun v2 => (qP E G x0 7 15 (.int ((v2 + (iv 1)))) fun G3 => Xr E d x_X7_evaluate 2 [some (.ref x0), some (.ref x1), some (.int ((x2 + (iv 1)))), some (.int x3), some (.int x4)] [] G3 Q)) else (qFR E G x0 7 10 fun v4 => (qFR E G x0 7 12 fun v5 => (qIA 7 E G v5 x4 fun v6 => (qIS E G v4 x4 v6 fun G7 => Xr E d x_X7_evaluate 71 [some (.ref x0), some (.ref x1), some (.int x2), some (.int x3), some (.int ((x4 + (iv 1))))] [] G7 Q))))))) : Xr E d x_X7_evaluate 71 [some (.ref x0), some (.ref x1), some (.int x2), some (.int x3), some (.int x4)] [] G Q := by
  refine r_iload dX7_evaluate_71 rfl ?_
  refine r_aload_n dX7_evaluate_73 rfl ?_
  refine r_getI dX7_evaluate_74 rfl (qFI_imp (fun v1 h => ?_) h)
  refine r_cge (tgt := 100) dX7_evaluate_77 (by decide) (ite_imp (fun h => ?_) (fun h => ?_) h)
  · refine r_iinc dX7_evaluate_100 rfl rfl ?_
    refine r_aload_n dX7_evaluate_103 rfl ?_
    refine r_dup dX7_evaluate_104 rfl ?_
    refine r_getI dX7_evaluate_105 rfl (qFI_imp (fun v2 h => ?_) h)
    refine r_iconst dX7_evaluate_108 ?_
    refine r_iadd dX7_evaluate_109 ?_
    refine r_put dX7_evaluate_110 rfl rfl (by decide) (qP_imp (fun G3 h => ?_) h)
    refine r_goto (tgt := 2) dX7_evaluate_113 (by decide) ?_
    exact h
  · refine r_aload_n dX7_evaluate_80 rfl ?_
    refine r_getR dX7_evaluate_81 rfl (qFR_imp (fun v4 h => ?_) h)
    refine r_iload dX7_evaluate_84 rfl ?_
    refine r_aload_n dX7_evaluate_86 rfl ?_
    refine r_getR dX7_evaluate_87 rfl (qFR_imp (fun v5 h => ?_) h)
    refine r_iload dX7_evaluate_90 rfl ?_
    refine r_iald dX7_evaluate_92 (qIA_imp (fun v6 h => ?_) h)
    refine r_iast dX7_evaluate_93 (qIS_imp (fun G7 h => ?_) h)
    refine r_iinc dX7_evaluate_94 rfl rfl ?_
    refine r_goto (tgt := 71) dX7_evaluate_97 (by decide) ?_
    exact h
theorem dX7_childrenOf_0 : decode cX7_childrenOf 0 = .ok (.iload_n 1, 1) := by decide +kernel
theorem dX7_childrenOf_1 : decode cX7_childrenOf 1 = .ok (.ifCond .ne 7, 3) := by decide +kernel
theorem dX7_childrenOf_4 : decode cX7_childrenOf 4 = .ok (.iconst 0, 1) := by decide +kernel
theorem dX7_childrenOf_5 : decode cX7_childrenOf 5 = .ok (.goto 10, 3) := by decide +kernel
theorem dX7_childrenOf_8 : decode cX7_childrenOf 8 = .ok (.iload_n 1, 1) := by decide +kernel
theorem dX7_childrenOf_9 : decode cX7_childrenOf 9 = .ok (.invokestatic 63, 3) := by decide +kernel
theorem dX7_childrenOf_12 : decode cX7_childrenOf 12 = .ok (.invokestatic 67, 3) := by decide +kernel
theorem dX7_childrenOf_15 : decode cX7_childrenOf 15 = .ok (.ireturn, 1) := by decide +kernel
abbrev x_X7_childrenOf : Cx := (7, cX7_childrenOf, false, some (.int))
set_option maxRecDepth 10000 in
theorem g_X7_childrenOf_0 {E : Ev} {d : Nat} {G : Hp} {Q : Po} {x0 : Nat} {x1 : Int32} (h : (if ¬ x1 = 0 then (qCI E d i_X7_terminal [.int x1] G fun v2 G1 => (qCI E d i_X7_places [.int v2] G1 fun v4 G3 => Q (some (.int v4)) G3)) else Q (some (.int (iv 0))) G)) : Xr E d x_X7_childrenOf 0 [some (.ref x0), some (.int x1)] [] G Q := by
  refine r_iload_n dX7_childrenOf_0 rfl ?_
  refine r_ifne (tgt := 8) dX7_childrenOf_1 (by decide) (ite_imp (fun h => ?_) (fun h => ?_) h)
  · refine r_iload_n dX7_childrenOf_8 rfl ?_
    refine r_cI dX7_childrenOf_9 rfl (invS_eq rfl (by decide) rfl rfl rfl rfl ⟨rfl, Nat.le_of_ble_eq_true rfl⟩) (qCI_imp (fun v2 G1 h => ?_) h)
    refine r_cI dX7_childrenOf_12 rfl (invS_eq rfl (by decide) rfl rfl rfl rfl ⟨rfl, Nat.le_of_ble_eq_true rfl⟩) (qCI_imp (fun v4 G3 h => ?_) h)
    exact r_iret dX7_childrenOf_15 rfl ⟨rfl, h⟩
  · refine r_iconst dX7_childrenOf_4 ?_
    refine r_goto (tgt := 15) dX7_childrenOf_5 (by decide) ?_
    exact r_iret dX7_childrenOf_15 rfl ⟨rfl, h⟩
theorem e_X7_childrenOf {E : Ev} {d : Nat} {G : Hp} {Q : Po} {x0 : Nat} {x1 : Int32} (h : (if ¬ x1 = 0 then (qCI E d i_X7_terminal [.int x1] G fun v2 G1 => (qCI E d i_X7_places [.int v2] G1 fun v4 G3 => Q (some (.int v4)) G3)) else Q (some (.int (iv 0))) G)) : runs E (d + 1) i_X7_childrenOf [.ref x0, .int x1] G Q := by
  rw [runs_eq (m := (yX7_childrenOf, cX7_childrenOf, 2, some (.int), 1, 7, false, false)) rfl (Nat.le_of_ble_eq_true rfl)]
  exact g_X7_childrenOf_0 h
theorem dX7_beginWalk_0 : decode cX7_beginWalk 0 = .ok (.aload_n 0, 1) := by decide +kernel
theorem dX7_beginWalk_1 : decode cX7_beginWalk 1 = .ok (.getfield 32, 3) := by decide +kernel
theorem dX7_beginWalk_4 : decode cX7_beginWalk 4 = .ok (.iconst 0, 1) := by decide +kernel
theorem dX7_beginWalk_5 : decode cX7_beginWalk 5 = .ok (.bipush 83, 2) := by decide +kernel
theorem dX7_beginWalk_7 : decode cX7_beginWalk 7 = .ok (.iastore, 1) := by decide +kernel
theorem dX7_beginWalk_8 : decode cX7_beginWalk 8 = .ok (.aload_n 0, 1) := by decide +kernel
theorem dX7_beginWalk_9 : decode cX7_beginWalk 9 = .ok (.iconst 1, 1) := by decide +kernel
theorem dX7_beginWalk_10 : decode cX7_beginWalk 10 = .ok (.putfield 157, 3) := by decide +kernel
theorem dX7_beginWalk_13 : decode cX7_beginWalk 13 = .ok (.aload_n 0, 1) := by decide +kernel
theorem dX7_beginWalk_14 : decode cX7_beginWalk 14 = .ok (.iconst 0, 1) := by decide +kernel
theorem dX7_beginWalk_15 : decode cX7_beginWalk 15 = .ok (.putfield 167, 3) := by decide +kernel
theorem dX7_beginWalk_18 : decode cX7_beginWalk 18 = .ok (.aload_n 0, 1) := by decide +kernel
theorem dX7_beginWalk_19 : decode cX7_beginWalk 19 = .ok (.iconst 0, 1) := by decide +kernel
theorem dX7_beginWalk_20 : decode cX7_beginWalk 20 = .ok (.putfield 170, 3) := by decide +kernel
theorem dX7_beginWalk_23 : decode cX7_beginWalk 23 = .ok (.aload_n 0, 1) := by decide +kernel
theorem dX7_beginWalk_24 : decode cX7_beginWalk 24 = .ok (.aload_n 1, 1) := by decide +kernel
theorem dX7_beginWalk_25 : decode cX7_beginWalk 25 = .ok (.invokevirtual 173, 3) := by decide +kernel
theorem dX7_beginWalk_28 : decode cX7_beginWalk 28 = .ok (.return_, 1) := by decide +kernel
abbrev x_X7_beginWalk : Cx := (7, cX7_beginWalk, false, none)
set_option maxRecDepth 10000 in
theorem g_X7_beginWalk_0 {E : Ev} {d : Nat} {G : Hp} {Q : Po} {x0 : Nat} {x1 : Nat} (h : (qFR E G x0 7 10 fun v1 => (qIS E G v1 (iv 0) (iv 83) fun G2 => (qP E G2 x0 7 11 (.int ((iv 1))) fun G3 => (qP E G3 x0 7 15 (.int ((iv 0))) fun G4 => (qP E G4 x0 7 16 (.int ((iv 0))) fun G5 => (rcv E G5 x0 7 = true ∧ (qCV E d i_X7_evaluate [.ref x0, .ref x1] G5 fun G6 => Q none G6)))))))) : Xr E d x_X7_beginWalk 0 [some (.ref x0), some (.ref x1)] [] G Q := by
  refine r_aload_n dX7_beginWalk_0 rfl ?_
  refine r_getR dX7_beginWalk_1 rfl (qFR_imp (fun v1 h => ?_) h)
  refine r_iconst dX7_beginWalk_4 ?_
  refine r_bipush dX7_beginWalk_5 rfl ?_
  refine r_iast dX7_beginWalk_7 (qIS_imp (fun G2 h => ?_) h)
  refine r_aload_n dX7_beginWalk_8 rfl ?_
  refine r_iconst dX7_beginWalk_9 ?_
  refine r_put dX7_beginWalk_10 rfl rfl (by decide) (qP_imp (fun G3 h => ?_) h)
  refine r_aload_n dX7_beginWalk_13 rfl ?_
  refine r_iconst dX7_beginWalk_14 ?_
  refine r_put dX7_beginWalk_15 rfl rfl (by decide) (qP_imp (fun G4 h => ?_) h)
  refine r_aload_n dX7_beginWalk_18 rfl ?_
  refine r_iconst dX7_beginWalk_19 ?_
  refine r_put dX7_beginWalk_20 rfl rfl (by decide) (qP_imp (fun G5 h => ?_) h)
  refine r_aload_n dX7_beginWalk_23 rfl ?_
  refine r_aload_n dX7_beginWalk_24 rfl ?_
  refine r_cV dX7_beginWalk_25 rfl (invV_eq rfl rfl rfl rfl rfl rfl ⟨rfl, Nat.le_of_ble_eq_true rfl⟩ h.1) (qCV_imp (fun G6 h => ?_) h.2)
  exact r_vret dX7_beginWalk_28 rfl h
theorem e_X7_beginWalk {E : Ev} {d : Nat} {G : Hp} {Q : Po} {x0 : Nat} {x1 : Nat} (h : (qFR E G x0 7 10 fun v1 => (qIS E G v1 (iv 0) (iv 83) fun G2 => (qP E G2 x0 7 11 (.int ((iv 1))) fun G3 => (qP E G3 x0 7 15 (.int ((iv 0))) fun G4 => (qP E G4 x0 7 16 (.int ((iv 0))) fun G5 => (rcv E G5 x0 7 = true ∧ (qCV E d i_X7_evaluate [.ref x0, .ref x1] G5 fun G6 => Q none G6)))))))) : runs E (d + 1) i_X7_beginWalk [.ref x0, .ref x1] G Q := by
  rw [runs_eq (m := (yX7_beginWalk, cX7_beginWalk, 2, none, 1, 7, false, false)) rfl (Nat.le_of_ble_eq_true rfl)]
  exact g_X7_beginWalk_0 h
theorem dX7_goDown_0 : decode cX7_goDown 0 = .ok (.iload_n 2, 1) := by decide +kernel
theorem dX7_goDown_1 : decode cX7_goDown 1 = .ok (.aload_n 0, 1) := by decide +kernel
theorem dX7_goDown_2 : decode cX7_goDown 2 = .ok (.aload_n 0, 1) := by decide +kernel
theorem dX7_goDown_3 : decode cX7_goDown 3 = .ok (.getfield 164, 3) := by decide +kernel
theorem dX7_goDown_6 : decode cX7_goDown 6 = .ok (.invokevirtual 176, 3) := by decide +kernel
theorem dX7_goDown_9 : decode cX7_goDown 9 = .ok (.if_icmp .le 5, 3) := by decide +kernel
theorem dX7_goDown_12 : decode cX7_goDown 12 = .ok (.iconst 0, 1) := by decide +kernel
theorem dX7_goDown_13 : decode cX7_goDown 13 = .ok (.ireturn, 1) := by decide +kernel
theorem dX7_goDown_14 : decode cX7_goDown 14 = .ok (.aload_n 0, 1) := by decide +kernel
theorem dX7_goDown_15 : decode cX7_goDown 15 = .ok (.getfield 164, 3) := by decide +kernel
theorem dX7_goDown_18 : decode cX7_goDown 18 = .ok (.invokestatic 63, 3) := by decide +kernel
theorem dX7_goDown_21 : decode cX7_goDown 21 = .ok (.istore_n 3, 1) := by decide +kernel
theorem dX7_goDown_22 : decode cX7_goDown 22 = .ok (.aload_n 0, 1) := by decide +kernel
theorem dX7_goDown_23 : decode cX7_goDown 23 = .ok (.getfield 170, 3) := by decide +kernel
theorem dX7_goDown_26 : decode cX7_goDown 26 = .ok (.bipush (-9), 2) := by decide +kernel
theorem dX7_goDown_28 : decode cX7_goDown 28 = .ok (.if_icmp .ne 7, 3) := by decide +kernel
theorem dX7_goDown_31 : decode cX7_goDown 31 = .ok (.iconst 0, 1) := by decide +kernel
theorem dX7_goDown_32 : decode cX7_goDown 32 = .ok (.goto 11, 3) := by decide +kernel
theorem dX7_goDown_35 : decode cX7_goDown 35 = .ok (.aload_n 0, 1) := by decide +kernel
theorem dX7_goDown_36 : decode cX7_goDown 36 = .ok (.getfield 170, 3) := by decide +kernel
theorem dX7_goDown_39 : decode cX7_goDown 39 = .ok (.iload_n 3, 1) := by decide +kernel
theorem dX7_goDown_40 : decode cX7_goDown 40 = .ok (.invokestatic 129, 3) := by decide +kernel
theorem dX7_goDown_43 : decode cX7_goDown 43 = .ok (.istore 4, 2) := by decide +kernel
theorem dX7_goDown_45 : decode cX7_goDown 45 = .ok (.aload_n 0, 1) := by decide +kernel
theorem dX7_goDown_46 : decode cX7_goDown 46 = .ok (.aload_n 0, 1) := by decide +kernel
theorem dX7_goDown_47 : decode cX7_goDown 47 = .ok (.getfield 170, 3) := by decide +kernel
theorem dX7_goDown_50 : decode cX7_goDown 50 = .ok (.bipush (-9), 2) := by decide +kernel
theorem dX7_goDown_52 : decode cX7_goDown 52 = .ok (.if_icmp .eq 10, 3) := by decide +kernel
theorem dX7_goDown_55 : decode cX7_goDown 55 = .ok (.aload_n 1, 1) := by decide +kernel
theorem dX7_goDown_56 : decode cX7_goDown 56 = .ok (.iload 4, 2) := by decide +kernel
theorem dX7_goDown_58 : decode cX7_goDown 58 = .ok (.iaload, 1) := by decide +kernel
theorem dX7_goDown_59 : decode cX7_goDown 59 = .ok (.ifCond .ne 8, 3) := by decide +kernel
theorem dX7_goDown_62 : decode cX7_goDown 62 = .ok (.bipush (-9), 2) := by decide +kernel
theorem dX7_goDown_64 : decode cX7_goDown 64 = .ok (.goto 9, 3) := by decide +kernel
theorem dX7_goDown_67 : decode cX7_goDown 67 = .ok (.aload_n 1, 1) := by decide +kernel
theorem dX7_goDown_68 : decode cX7_goDown 68 = .ok (.iload 4, 2) := by decide +kernel
theorem dX7_goDown_70 : decode cX7_goDown 70 = .ok (.iload_n 2, 1) := by decide +kernel
theorem dX7_goDown_71 : decode cX7_goDown 71 = .ok (.iadd, 1) := by decide +kernel
theorem dX7_goDown_72 : decode cX7_goDown 72 = .ok (.iaload, 1) := by decide +kernel
theorem dX7_goDown_73 : decode cX7_goDown 73 = .ok (.putfield 170, 3) := by decide +kernel
theorem dX7_goDown_76 : decode cX7_goDown 76 = .ok (.iconst 1, 1) := by decide +kernel
theorem dX7_goDown_77 : decode cX7_goDown 77 = .ok (.istore 5, 2) := by decide +kernel
theorem dX7_goDown_79 : decode cX7_goDown 79 = .ok (.iconst 1, 1) := by decide +kernel
theorem dX7_goDown_80 : decode cX7_goDown 80 = .ok (.istore 6, 2) := by decide +kernel
theorem dX7_goDown_82 : decode cX7_goDown 82 = .ok (.iload 6, 2) := by decide +kernel
theorem dX7_goDown_84 : decode cX7_goDown 84 = .ok (.iload_n 2, 1) := by decide +kernel
theorem dX7_goDown_85 : decode cX7_goDown 85 = .ok (.if_icmp .ge 20, 3) := by decide +kernel
theorem dX7_goDown_88 : decode cX7_goDown 88 = .ok (.aload_n 0, 1) := by decide +kernel
theorem dX7_goDown_89 : decode cX7_goDown 89 = .ok (.getfield 32, 3) := by decide +kernel
theorem dX7_goDown_92 : decode cX7_goDown 92 = .ok (.iload 5, 2) := by decide +kernel
theorem dX7_goDown_94 : decode cX7_goDown 94 = .ok (.invokestatic 149, 3) := by decide +kernel
theorem dX7_goDown_97 : decode cX7_goDown 97 = .ok (.istore 5, 2) := by decide +kernel
theorem dX7_goDown_99 : decode cX7_goDown 99 = .ok (.iinc 6 1, 3) := by decide +kernel
theorem dX7_goDown_102 : decode cX7_goDown 102 = .ok (.goto (-20), 3) := by decide +kernel
theorem dX7_goDown_105 : decode cX7_goDown 105 = .ok (.aload_n 0, 1) := by decide +kernel
theorem dX7_goDown_106 : decode cX7_goDown 106 = .ok (.getfield 32, 3) := by decide +kernel
theorem dX7_goDown_109 : decode cX7_goDown 109 = .ok (.iload 5, 2) := by decide +kernel
theorem dX7_goDown_111 : decode cX7_goDown 111 = .ok (.invokestatic 149, 3) := by decide +kernel
theorem dX7_goDown_114 : decode cX7_goDown 114 = .ok (.istore 6, 2) := by decide +kernel
theorem dX7_goDown_116 : decode cX7_goDown 116 = .ok (.aload_n 0, 1) := by decide +kernel
theorem dX7_goDown_117 : decode cX7_goDown 117 = .ok (.iload 6, 2) := by decide +kernel
theorem dX7_goDown_119 : decode cX7_goDown 119 = .ok (.iload 5, 2) := by decide +kernel
theorem dX7_goDown_121 : decode cX7_goDown 121 = .ok (.isub, 1) := by decide +kernel
theorem dX7_goDown_122 : decode cX7_goDown 122 = .ok (.putfield 157, 3) := by decide +kernel
theorem dX7_goDown_125 : decode cX7_goDown 125 = .ok (.iconst 0, 1) := by decide +kernel
theorem dX7_goDown_126 : decode cX7_goDown 126 = .ok (.istore 7, 2) := by decide +kernel
theorem dX7_goDown_128 : decode cX7_goDown 128 = .ok (.iload 7, 2) := by decide +kernel
theorem dX7_goDown_130 : decode cX7_goDown 130 = .ok (.aload_n 0, 1) := by decide +kernel
theorem dX7_goDown_131 : decode cX7_goDown 131 = .ok (.getfield 157, 3) := by decide +kernel
theorem dX7_goDown_134 : decode cX7_goDown 134 = .ok (.if_icmp .ge 26, 3) := by decide +kernel
theorem dX7_goDown_137 : decode cX7_goDown 137 = .ok (.aload_n 0, 1) := by decide +kernel
theorem dX7_goDown_138 : decode cX7_goDown 138 = .ok (.getfield 32, 3) := by decide +kernel
theorem dX7_goDown_141 : decode cX7_goDown 141 = .ok (.iload 7, 2) := by decide +kernel
theorem dX7_goDown_143 : decode cX7_goDown 143 = .ok (.aload_n 0, 1) := by decide +kernel
theorem dX7_goDown_144 : decode cX7_goDown 144 = .ok (.getfield 32, 3) := by decide +kernel
theorem dX7_goDown_147 : decode cX7_goDown 147 = .ok (.iload 5, 2) := by decide +kernel
theorem dX7_goDown_149 : decode cX7_goDown 149 = .ok (.iload 7, 2) := by decide +kernel
theorem dX7_goDown_151 : decode cX7_goDown 151 = .ok (.iadd, 1) := by decide +kernel
theorem dX7_goDown_152 : decode cX7_goDown 152 = .ok (.iaload, 1) := by decide +kernel
theorem dX7_goDown_153 : decode cX7_goDown 153 = .ok (.iastore, 1) := by decide +kernel
theorem dX7_goDown_154 : decode cX7_goDown 154 = .ok (.iinc 7 1, 3) := by decide +kernel
theorem dX7_goDown_157 : decode cX7_goDown 157 = .ok (.goto (-29), 3) := by decide +kernel
theorem dX7_goDown_160 : decode cX7_goDown 160 = .ok (.aload_n 0, 1) := by decide +kernel
theorem dX7_goDown_161 : decode cX7_goDown 161 = .ok (.aload_n 1, 1) := by decide +kernel
theorem dX7_goDown_162 : decode cX7_goDown 162 = .ok (.invokevirtual 173, 3) := by decide +kernel
theorem dX7_goDown_165 : decode cX7_goDown 165 = .ok (.iconst 1, 1) := by decide +kernel
theorem dX7_goDown_166 : decode cX7_goDown 166 = .ok (.ireturn, 1) := by decide +kernel
abbrev x_X7_goDown : Cx := (7, cX7_goDown, false, some (.boolean))
set_option maxRecDepth 10000 in
theorem g_X7_goDown_0 {E : Ev} {d : Nat} {G : Hp} {Q : Po} {x0 : Nat} {x1 : Nat} {x2 : Int32} (h : (qFI E G x0 7 14 fun v1 => (rcv E G x0 7 = true ∧ (qCI E d i_X7_childrenOf [.ref x0, .int v1] G fun v3 G2 => (if x2 ≤ v3 then (qFI E G2 x0 7 14 fun v4 => (qCI E d i_X7_terminal [.int v4] G2 fun v6 G5 => (qFI E G5 x0 7 16 fun v7 => (if ¬ v7 = (iv (-9)) then (qFI E G5 x0 7 16 fun v8 => (qCI E d i_X7_stepAt [.int v8, .int v6] G5 fun v10 G9 => (qFI E G9 x0 7 16 fun v11 => (if v11 = (iv (-9)) then (qP E G9 x0 7 16 (.int ((iv (-9)))) fun G12 => Xr E d x_X7_goDown 82 [some (.ref x0), some (.ref x1), some (.int x2), some (.int v6), some (.int v10), some (.int ((iv 1))), some (.int ((iv 1))), none] [] G12 Q) else (qIA 7 E G9 x1 v10 fun v13 => (if ¬ v13 = 0 then (qIA 7 E G9 x1 (v10 + x2) fun v14 => (qP E G9 x0 7 16 (.int v14) fun G15 => Xr E d x_X7_goDown 82 [some (.ref x0), some (.ref x1), some (.int x2), some (.int v6), some (.int v10), some (.int ((iv 1))), some (.int ((iv 1))), none] [] G15 Q)) else (qP E G9 x0 7 16 (.int ((iv (-9)))) fun G16 => Xr E d x_X7_goDown 82 [some (.ref x0), some (.ref x1), some (.int x2), some (.int v6), some (.int v10), some (.int ((iv 1))), some (.int ((iv 1))), none] [] G16 Q))))))) else (qFI E G5 x0 7 16 fun v17 => (if v17 = (iv (-9)) then (qP E G5 x0 7 16 (.int ((iv (-9)))) fun G18 => Xr E d x_X7_goDown 82 [some (.ref x0), some (.ref x1), some (.int x2), some (.int v6), some (.int ((iv 0))), some (.int ((iv 1))), some (.int ((iv 1))), none] [] G18 Q) else (qIA 7 E G5 x1 (iv 0) fun v19 => (if ¬ v19 = 0 then (qIA 7 E G5 x1 ((iv 0) + x2) fun v20 => (qP E G5 x0 7 16 (.int v20) fun G21 => Xr E d x_X7_goDown 82 [some (.ref x0), some (.ref x1), some (.int x2), some (.int v6), some (.int ((iv 0))), some (.int ((iv 1))), some (.int ((iv 1))), none] [] G21 Q)) else (qP E G5 x0 7 16 (.int ((iv (-9)))) fun G22 => Xr E d x_X7_goDown 82 [some (.ref x0), some (.ref x1), some (.int x2), some (.int v6), some (.int ((iv 0))), some (.int ((iv 1))), some (.int ((iv 1))), none] [] G22 Q))))))))) else Q (some (.int (iv 0))) G2))))) : Xr E d x_X7_goDown 0 [some (.ref x0), some (.ref x1), some (.int x2), none, none, none, none, none] [] G Q := by
  refine r_iload_n dX7_goDown_0 rfl ?_
  refine r_aload_n dX7_goDown_1 rfl ?_
  refine r_aload_n dX7_goDown_2 rfl ?_
  refine r_getI dX7_goDown_3 rfl (qFI_imp (fun v1 h => ?_) h)
  refine r_cI dX7_goDown_6 rfl (invV_eq rfl rfl rfl rfl rfl rfl ⟨rfl, Nat.le_of_ble_eq_true rfl⟩ h.1) (qCI_imp (fun v3 G2 h => ?_) h.2)
  refine r_cle (tgt := 14) dX7_goDown_9 (by decide) (ite_imp (fun h => ?_) (fun h => ?_) h)
  · refine r_aload_n dX7_goDown_14 rfl ?_
    refine r_getI dX7_goDown_15 rfl (qFI_imp (fun v4 h => ?_) h)
    refine r_cI dX7_goDown_18 rfl (invS_eq rfl (by decide) rfl rfl rfl rfl ⟨rfl, Nat.le_of_ble_eq_true rfl⟩) (qCI_imp (fun v6 G5 h => ?_) h)
    refine r_istore_n dX7_goDown_21 rfl ?_
    refine r_aload_n dX7_goDown_22 rfl ?_
    refine r_getI dX7_goDown_23 rfl (qFI_imp (fun v7 h => ?_) h)
    refine r_bipush dX7_goDown_26 rfl ?_
    refine r_cne (tgt := 35) dX7_goDown_28 (by decide) (ite_imp (fun h => ?_) (fun h => ?_) h)
    · refine r_aload_n dX7_goDown_35 rfl ?_
      refine r_getI dX7_goDown_36 rfl (qFI_imp (fun v8 h => ?_) h)
      refine r_iload_n dX7_goDown_39 rfl ?_
      refine r_cI dX7_goDown_40 rfl (invS_eq rfl (by decide) rfl rfl rfl rfl ⟨rfl, Nat.le_of_ble_eq_true rfl⟩) (qCI_imp (fun v10 G9 h => ?_) h)
      refine r_istore dX7_goDown_43 rfl ?_
      refine r_aload_n dX7_goDown_45 rfl ?_
      refine r_aload_n dX7_goDown_46 rfl ?_
      refine r_getI dX7_goDown_47 rfl (qFI_imp (fun v11 h => ?_) h)
      refine r_bipush dX7_goDown_50 rfl ?_
      refine r_ceq (tgt := 62) dX7_goDown_52 (by decide) (ite_imp (fun h => ?_) (fun h => ?_) h)
      · refine r_bipush dX7_goDown_62 rfl ?_
        refine r_goto (tgt := 73) dX7_goDown_64 (by decide) ?_
        refine r_put dX7_goDown_73 rfl rfl (by decide) (qP_imp (fun G12 h => ?_) h)
        refine r_iconst dX7_goDown_76 ?_
        refine r_istore dX7_goDown_77 rfl ?_
        refine r_iconst dX7_goDown_79 ?_
        refine r_istore dX7_goDown_80 rfl ?_
        exact h
      · refine r_aload_n dX7_goDown_55 rfl ?_
        refine r_iload dX7_goDown_56 rfl ?_
        refine r_iald dX7_goDown_58 (qIA_imp (fun v13 h => ?_) h)
        refine r_ifne (tgt := 67) dX7_goDown_59 (by decide) (ite_imp (fun h => ?_) (fun h => ?_) h)
        · refine r_aload_n dX7_goDown_67 rfl ?_
          refine r_iload dX7_goDown_68 rfl ?_
          refine r_iload_n dX7_goDown_70 rfl ?_
          refine r_iadd dX7_goDown_71 ?_
          refine r_iald dX7_goDown_72 (qIA_imp (fun v14 h => ?_) h)
          refine r_put dX7_goDown_73 rfl rfl (by decide) (qP_imp (fun G15 h => ?_) h)
          refine r_iconst dX7_goDown_76 ?_
          refine r_istore dX7_goDown_77 rfl ?_
          refine r_iconst dX7_goDown_79 ?_
          refine r_istore dX7_goDown_80 rfl ?_
          exact h
        · refine r_bipush dX7_goDown_62 rfl ?_
          refine r_goto (tgt := 73) dX7_goDown_64 (by decide) ?_
          refine r_put dX7_goDown_73 rfl rfl (by decide) (qP_imp (fun G16 h => ?_) h)
          refine r_iconst dX7_goDown_76 ?_
          refine r_istore dX7_goDown_77 rfl ?_
          refine r_iconst dX7_goDown_79 ?_
          refine r_istore dX7_goDown_80 rfl ?_
          exact h
    · refine r_iconst dX7_goDown_31 ?_
      refine r_goto (tgt := 43) dX7_goDown_32 (by decide) ?_
      refine r_istore dX7_goDown_43 rfl ?_
      refine r_aload_n dX7_goDown_45 rfl ?_
      refine r_aload_n dX7_goDown_46 rfl ?_
      refine r_getI dX7_goDown_47 rfl (qFI_imp (fun v17 h => ?_) h)
      refine r_bipush dX7_goDown_50 rfl ?_
      refine r_ceq (tgt := 62) dX7_goDown_52 (by decide) (ite_imp (fun h => ?_) (fun h => ?_) h)
      · refine r_bipush dX7_goDown_62 rfl ?_
        refine r_goto (tgt := 73) dX7_goDown_64 (by decide) ?_
        refine r_put dX7_goDown_73 rfl rfl (by decide) (qP_imp (fun G18 h => ?_) h)
        refine r_iconst dX7_goDown_76 ?_
        refine r_istore dX7_goDown_77 rfl ?_
        refine r_iconst dX7_goDown_79 ?_
        refine r_istore dX7_goDown_80 rfl ?_
        exact h
      · refine r_aload_n dX7_goDown_55 rfl ?_
        refine r_iload dX7_goDown_56 rfl ?_
        refine r_iald dX7_goDown_58 (qIA_imp (fun v19 h => ?_) h)
        refine r_ifne (tgt := 67) dX7_goDown_59 (by decide) (ite_imp (fun h => ?_) (fun h => ?_) h)
        · refine r_aload_n dX7_goDown_67 rfl ?_
          refine r_iload dX7_goDown_68 rfl ?_
          refine r_iload_n dX7_goDown_70 rfl ?_
          refine r_iadd dX7_goDown_71 ?_
          refine r_iald dX7_goDown_72 (qIA_imp (fun v20 h => ?_) h)
          refine r_put dX7_goDown_73 rfl rfl (by decide) (qP_imp (fun G21 h => ?_) h)
          refine r_iconst dX7_goDown_76 ?_
          refine r_istore dX7_goDown_77 rfl ?_
          refine r_iconst dX7_goDown_79 ?_
          refine r_istore dX7_goDown_80 rfl ?_
          exact h
        · refine r_bipush dX7_goDown_62 rfl ?_
          refine r_goto (tgt := 73) dX7_goDown_64 (by decide) ?_
          refine r_put dX7_goDown_73 rfl rfl (by decide) (qP_imp (fun G22 h => ?_) h)
          refine r_iconst dX7_goDown_76 ?_
          refine r_istore dX7_goDown_77 rfl ?_
          refine r_iconst dX7_goDown_79 ?_
          refine r_istore dX7_goDown_80 rfl ?_
          exact h
  · refine r_iconst dX7_goDown_12 ?_
    exact r_iret dX7_goDown_13 rfl ⟨rfl, h⟩
theorem e_X7_goDown {E : Ev} {d : Nat} {G : Hp} {Q : Po} {x0 : Nat} {x1 : Nat} {x2 : Int32} (h : (qFI E G x0 7 14 fun v1 => (rcv E G x0 7 = true ∧ (qCI E d i_X7_childrenOf [.ref x0, .int v1] G fun v3 G2 => (if x2 ≤ v3 then (qFI E G2 x0 7 14 fun v4 => (qCI E d i_X7_terminal [.int v4] G2 fun v6 G5 => (qFI E G5 x0 7 16 fun v7 => (if ¬ v7 = (iv (-9)) then (qFI E G5 x0 7 16 fun v8 => (qCI E d i_X7_stepAt [.int v8, .int v6] G5 fun v10 G9 => (qFI E G9 x0 7 16 fun v11 => (if v11 = (iv (-9)) then (qP E G9 x0 7 16 (.int ((iv (-9)))) fun G12 => Xr E d x_X7_goDown 82 [some (.ref x0), some (.ref x1), some (.int x2), some (.int v6), some (.int v10), some (.int ((iv 1))), some (.int ((iv 1))), none] [] G12 Q) else (qIA 7 E G9 x1 v10 fun v13 => (if ¬ v13 = 0 then (qIA 7 E G9 x1 (v10 + x2) fun v14 => (qP E G9 x0 7 16 (.int v14) fun G15 => Xr E d x_X7_goDown 82 [some (.ref x0), some (.ref x1), some (.int x2), some (.int v6), some (.int v10), some (.int ((iv 1))), some (.int ((iv 1))), none] [] G15 Q)) else (qP E G9 x0 7 16 (.int ((iv (-9)))) fun G16 => Xr E d x_X7_goDown 82 [some (.ref x0), some (.ref x1), some (.int x2), some (.int v6), some (.int v10), some (.int ((iv 1))), some (.int ((iv 1))), none] [] G16 Q))))))) else (qFI E G5 x0 7 16 fun v17 => (if v17 = (iv (-9)) then (qP E G5 x0 7 16 (.int ((iv (-9)))) fun G18 => Xr E d x_X7_goDown 82 [some (.ref x0), some (.ref x1), some (.int x2), some (.int v6), some (.int ((iv 0))), some (.int ((iv 1))), some (.int ((iv 1))), none] [] G18 Q) else (qIA 7 E G5 x1 (iv 0) fun v19 => (if ¬ v19 = 0 then (qIA 7 E G5 x1 ((iv 0) + x2) fun v20 => (qP E G5 x0 7 16 (.int v20) fun G21 => Xr E d x_X7_goDown 82 [some (.ref x0), some (.ref x1), some (.int x2), some (.int v6), some (.int ((iv 0))), some (.int ((iv 1))), some (.int ((iv 1))), none] [] G21 Q)) else (qP E G5 x0 7 16 (.int ((iv (-9)))) fun G22 => Xr E d x_X7_goDown 82 [some (.ref x0), some (.ref x1), some (.int x2), some (.int v6), some (.int ((iv 0))), some (.int ((iv 1))), some (.int ((iv 1))), none] [] G22 Q))))))))) else Q (some (.int (iv 0))) G2))))) : runs E (d + 1) i_X7_goDown [.ref x0, .ref x1, .int x2] G Q := by
  rw [runs_eq (m := (yX7_goDown, cX7_goDown, 8, some (.boolean), 2, 7, false, false)) rfl (Nat.le_of_ble_eq_true rfl)]
  exact g_X7_goDown_0 h
set_option maxRecDepth 10000 in
theorem g_X7_goDown_82 {E : Ev} {d : Nat} {G : Hp} {Q : Po} {x0 : Nat} {x1 : Nat} {x2 : Int32} {x3 : Int32} {x4 : Int32} {x5 : Int32} {x6 : Int32} (h : (if x2 ≤ x6 then (qFR E G x0 7 10 fun v1 => (qCI E d i_X7_endOf [.ref v1, .int x5] G fun v3 G2 => (qP E G2 x0 7 11 (.int ((v3 - x5))) fun G4 => Xr E d x_X7_goDown 128 [some (.ref x0), some (.ref x1), some (.int x2), some (.int x3), some (.int x4), some (.int x5), some (.int v3), some (.int ((iv 0)))] [] G4 Q))) else (qFR E G x0 7 10 fun v5 => (qCI E d i_X7_endOf [.ref v5, .int x5] G fun v7 G6 => Xr E d x_X7_goDown 82 [some (.ref x0), some (.ref x1), some (.int x2), some (.int x3), some (.int x4), some (.int v7), some (.int ((x6 + (iv 1)))), none] [] G6 Q)))) : Xr E d x_X7_goDown 82 [some (.ref x0), some (.ref x1), some (.int x2), some (.int x3), some (.int x4), some (.int x5), some (.int x6), none] [] G Q := by
  refine r_iload dX7_goDown_82 rfl ?_
  refine r_iload_n dX7_goDown_84 rfl ?_
  refine r_cge (tgt := 105) dX7_goDown_85 (by decide) (ite_imp (fun h => ?_) (fun h => ?_) h)
  · refine r_aload_n dX7_goDown_105 rfl ?_
    refine r_getR dX7_goDown_106 rfl (qFR_imp (fun v1 h => ?_) h)
    refine r_iload dX7_goDown_109 rfl ?_
    refine r_cI dX7_goDown_111 rfl (invS_eq rfl (by decide) rfl rfl rfl rfl ⟨rfl, Nat.le_of_ble_eq_true rfl⟩) (qCI_imp (fun v3 G2 h => ?_) h)
    refine r_istore dX7_goDown_114 rfl ?_
    refine r_aload_n dX7_goDown_116 rfl ?_
    refine r_iload dX7_goDown_117 rfl ?_
    refine r_iload dX7_goDown_119 rfl ?_
    refine r_isub dX7_goDown_121 ?_
    refine r_put dX7_goDown_122 rfl rfl (by decide) (qP_imp (fun G4 h => ?_) h)
    refine r_iconst dX7_goDown_125 ?_
    refine r_istore dX7_goDown_126 rfl ?_
    exact h
  · refine r_aload_n dX7_goDown_88 rfl ?_
    refine r_getR dX7_goDown_89 rfl (qFR_imp (fun v5 h => ?_) h)
    refine r_iload dX7_goDown_92 rfl ?_
    refine r_cI dX7_goDown_94 rfl (invS_eq rfl (by decide) rfl rfl rfl rfl ⟨rfl, Nat.le_of_ble_eq_true rfl⟩) (qCI_imp (fun v7 G6 h => ?_) h)
    refine r_istore dX7_goDown_97 rfl ?_
    refine r_iinc dX7_goDown_99 rfl rfl ?_
    refine r_goto (tgt := 82) dX7_goDown_102 (by decide) ?_
    exact h
set_option maxRecDepth 10000 in
theorem g_X7_goDown_128 {E : Ev} {d : Nat} {G : Hp} {Q : Po} {x0 : Nat} {x1 : Nat} {x2 : Int32} {x3 : Int32} {x4 : Int32} {x5 : Int32} {x6 : Int32} {x7 : Int32} (h : (qFI E G x0 7 11 fun v1 => (if v1 ≤ x7 then (rcv E G x0 7 = true ∧ (qCV E d i_X7_evaluate [.ref x0, .ref x1] G fun G2 => Q (some (.int (iv 1))) G2)) else (qFR E G x0 7 10 fun v3 => (qFR E G x0 7 10 fun v4 => (qIA 7 E G v4 (x5 + x7) fun v5 => (qIS E G v3 x7 v5 fun G6 => Xr E d x_X7_goDown 128 [some (.ref x0), some (.ref x1), some (.int x2), some (.int x3), some (.int x4), some (.int x5), some (.int x6), some (.int ((x7 + (iv 1))))] [] G6 Q))))))) : Xr E d x_X7_goDown 128 [some (.ref x0), some (.ref x1), some (.int x2), some (.int x3), some (.int x4), some (.int x5), some (.int x6), some (.int x7)] [] G Q := by
  refine r_iload dX7_goDown_128 rfl ?_
  refine r_aload_n dX7_goDown_130 rfl ?_
  refine r_getI dX7_goDown_131 rfl (qFI_imp (fun v1 h => ?_) h)
  refine r_cge (tgt := 160) dX7_goDown_134 (by decide) (ite_imp (fun h => ?_) (fun h => ?_) h)
  · refine r_aload_n dX7_goDown_160 rfl ?_
    refine r_aload_n dX7_goDown_161 rfl ?_
    refine r_cV dX7_goDown_162 rfl (invV_eq rfl rfl rfl rfl rfl rfl ⟨rfl, Nat.le_of_ble_eq_true rfl⟩ h.1) (qCV_imp (fun G2 h => ?_) h.2)
    refine r_iconst dX7_goDown_165 ?_
    exact r_iret dX7_goDown_166 rfl ⟨rfl, h⟩
  · refine r_aload_n dX7_goDown_137 rfl ?_
    refine r_getR dX7_goDown_138 rfl (qFR_imp (fun v3 h => ?_) h)
    refine r_iload dX7_goDown_141 rfl ?_
    refine r_aload_n dX7_goDown_143 rfl ?_
    refine r_getR dX7_goDown_144 rfl (qFR_imp (fun v4 h => ?_) h)
    refine r_iload dX7_goDown_147 rfl ?_
    refine r_iload dX7_goDown_149 rfl ?_
    refine r_iadd dX7_goDown_151 ?_
    refine r_iald dX7_goDown_152 (qIA_imp (fun v5 h => ?_) h)
    refine r_iast dX7_goDown_153 (qIS_imp (fun G6 h => ?_) h)
    refine r_iinc dX7_goDown_154 rfl rfl ?_
    refine r_goto (tgt := 128) dX7_goDown_157 (by decide) ?_
    exact h
theorem dX7_tens_0 : decode cX7_tens 0 = .ok (.iconst 1, 1) := by decide +kernel
theorem dX7_tens_1 : decode cX7_tens 1 = .ok (.istore_n 1, 1) := by decide +kernel
theorem dX7_tens_2 : decode cX7_tens 2 = .ok (.iconst 0, 1) := by decide +kernel
theorem dX7_tens_3 : decode cX7_tens 3 = .ok (.istore_n 2, 1) := by decide +kernel
theorem dX7_tens_4 : decode cX7_tens 4 = .ok (.iload_n 2, 1) := by decide +kernel
theorem dX7_tens_5 : decode cX7_tens 5 = .ok (.iload_n 0, 1) := by decide +kernel
theorem dX7_tens_6 : decode cX7_tens 6 = .ok (.if_icmp .ge 14, 3) := by decide +kernel
theorem dX7_tens_9 : decode cX7_tens 9 = .ok (.iload_n 1, 1) := by decide +kernel
theorem dX7_tens_10 : decode cX7_tens 10 = .ok (.bipush 10, 2) := by decide +kernel
theorem dX7_tens_12 : decode cX7_tens 12 = .ok (.imul, 1) := by decide +kernel
theorem dX7_tens_13 : decode cX7_tens 13 = .ok (.istore_n 1, 1) := by decide +kernel
theorem dX7_tens_14 : decode cX7_tens 14 = .ok (.iinc 2 1, 3) := by decide +kernel
theorem dX7_tens_17 : decode cX7_tens 17 = .ok (.goto (-13), 3) := by decide +kernel
theorem dX7_tens_20 : decode cX7_tens 20 = .ok (.iload_n 1, 1) := by decide +kernel
theorem dX7_tens_21 : decode cX7_tens 21 = .ok (.ireturn, 1) := by decide +kernel
abbrev x_X7_tens : Cx := (7, cX7_tens, false, some (.int))
set_option maxRecDepth 10000 in
theorem g_X7_tens_0 {E : Ev} {d : Nat} {G : Hp} {Q : Po} {x0 : Int32} (h : Xr E d x_X7_tens 4 [some (.int x0), some (.int ((iv 1))), some (.int ((iv 0)))] [] G Q) : Xr E d x_X7_tens 0 [some (.int x0), none, none] [] G Q := by
  refine r_iconst dX7_tens_0 ?_
  refine r_istore_n dX7_tens_1 rfl ?_
  refine r_iconst dX7_tens_2 ?_
  refine r_istore_n dX7_tens_3 rfl ?_
  exact h
theorem e_X7_tens {E : Ev} {d : Nat} {G : Hp} {Q : Po} {x0 : Int32} (h : Xr E d x_X7_tens 4 [some (.int x0), some (.int ((iv 1))), some (.int ((iv 0)))] [] G Q) : runs E (d + 1) i_X7_tens [.int x0] G Q := by
  rw [runs_eq (m := (yX7_tens, cX7_tens, 3, some (.int), 1, 7, false, true)) rfl (Nat.le_of_ble_eq_true rfl)]
  exact g_X7_tens_0 h
set_option maxRecDepth 10000 in
theorem g_X7_tens_4 {E : Ev} {d : Nat} {G : Hp} {Q : Po} {x0 : Int32} {x1 : Int32} {x2 : Int32} (h : (if x0 ≤ x2 then Q (some (.int x1)) G else Xr E d x_X7_tens 4 [some (.int x0), some (.int ((x1 * (iv 10)))), some (.int ((x2 + (iv 1))))] [] G Q)) : Xr E d x_X7_tens 4 [some (.int x0), some (.int x1), some (.int x2)] [] G Q := by
  refine r_iload_n dX7_tens_4 rfl ?_
  refine r_iload_n dX7_tens_5 rfl ?_
  refine r_cge (tgt := 20) dX7_tens_6 (by decide) (ite_imp (fun h => ?_) (fun h => ?_) h)
  · refine r_iload_n dX7_tens_20 rfl ?_
    exact r_iret dX7_tens_21 rfl ⟨rfl, h⟩
  · refine r_iload_n dX7_tens_9 rfl ?_
    refine r_bipush dX7_tens_10 rfl ?_
    refine r_imul dX7_tens_12 ?_
    refine r_istore_n dX7_tens_13 rfl ?_
    refine r_iinc dX7_tens_14 rfl rfl ?_
    refine r_goto (tgt := 4) dX7_tens_17 (by decide) ?_
    exact h
theorem dX7_stepsOfPath_0 : decode cX7_stepsOfPath 0 = .ok (.iload_n 0, 1) := by decide +kernel
theorem dX7_stepsOfPath_1 : decode cX7_stepsOfPath 1 = .ok (.ifCond .ne 5, 3) := by decide +kernel
theorem dX7_stepsOfPath_4 : decode cX7_stepsOfPath 4 = .ok (.iconst 0, 1) := by decide +kernel
theorem dX7_stepsOfPath_5 : decode cX7_stepsOfPath 5 = .ok (.ireturn, 1) := by decide +kernel
theorem dX7_stepsOfPath_6 : decode cX7_stepsOfPath 6 = .ok (.iconst 0, 1) := by decide +kernel
theorem dX7_stepsOfPath_7 : decode cX7_stepsOfPath 7 = .ok (.istore_n 1, 1) := by decide +kernel
theorem dX7_stepsOfPath_8 : decode cX7_stepsOfPath 8 = .ok (.iload_n 0, 1) := by decide +kernel
theorem dX7_stepsOfPath_9 : decode cX7_stepsOfPath 9 = .ok (.istore_n 2, 1) := by decide +kernel
theorem dX7_stepsOfPath_10 : decode cX7_stepsOfPath 10 = .ok (.iload_n 2, 1) := by decide +kernel
theorem dX7_stepsOfPath_11 : decode cX7_stepsOfPath 11 = .ok (.ifCond .le 38, 3) := by decide +kernel
theorem dX7_stepsOfPath_14 : decode cX7_stepsOfPath 14 = .ok (.iload_n 2, 1) := by decide +kernel
theorem dX7_stepsOfPath_15 : decode cX7_stepsOfPath 15 = .ok (.bipush 10, 2) := by decide +kernel
theorem dX7_stepsOfPath_17 : decode cX7_stepsOfPath 17 = .ok (.irem, 1) := by decide +kernel
theorem dX7_stepsOfPath_18 : decode cX7_stepsOfPath 18 = .ok (.i2l, 1) := by decide +kernel
theorem dX7_stepsOfPath_19 : decode cX7_stepsOfPath 19 = .ok (.lconst 1, 1) := by decide +kernel
theorem dX7_stepsOfPath_20 : decode cX7_stepsOfPath 20 = .ok (.ldc2_w 89, 3) := by decide +kernel
theorem dX7_stepsOfPath_23 : decode cX7_stepsOfPath 23 = .ok (.invokestatic 55, 3) := by decide +kernel
theorem dX7_stepsOfPath_26 : decode cX7_stepsOfPath 26 = .ok (.ifCond .eq 9, 3) := by decide +kernel
theorem dX7_stepsOfPath_29 : decode cX7_stepsOfPath 29 = .ok (.iload_n 1, 1) := by decide +kernel
theorem dX7_stepsOfPath_30 : decode cX7_stepsOfPath 30 = .ok (.bipush 6, 2) := by decide +kernel
theorem dX7_stepsOfPath_32 : decode cX7_stepsOfPath 32 = .ok (.if_icmp .ne 6, 3) := by decide +kernel
theorem dX7_stepsOfPath_35 : decode cX7_stepsOfPath 35 = .ok (.bipush (-9), 2) := by decide +kernel
theorem dX7_stepsOfPath_37 : decode cX7_stepsOfPath 37 = .ok (.ireturn, 1) := by decide +kernel
theorem dX7_stepsOfPath_38 : decode cX7_stepsOfPath 38 = .ok (.iload_n 2, 1) := by decide +kernel
theorem dX7_stepsOfPath_39 : decode cX7_stepsOfPath 39 = .ok (.bipush 10, 2) := by decide +kernel
theorem dX7_stepsOfPath_41 : decode cX7_stepsOfPath 41 = .ok (.idiv, 1) := by decide +kernel
theorem dX7_stepsOfPath_42 : decode cX7_stepsOfPath 42 = .ok (.istore_n 2, 1) := by decide +kernel
theorem dX7_stepsOfPath_43 : decode cX7_stepsOfPath 43 = .ok (.iinc 1 1, 3) := by decide +kernel
theorem dX7_stepsOfPath_46 : decode cX7_stepsOfPath 46 = .ok (.goto (-36), 3) := by decide +kernel
theorem dX7_stepsOfPath_49 : decode cX7_stepsOfPath 49 = .ok (.iload_n 0, 1) := by decide +kernel
theorem dX7_stepsOfPath_50 : decode cX7_stepsOfPath 50 = .ok (.ifCond .ge 8, 3) := by decide +kernel
theorem dX7_stepsOfPath_53 : decode cX7_stepsOfPath 53 = .ok (.bipush (-9), 2) := by decide +kernel
theorem dX7_stepsOfPath_55 : decode cX7_stepsOfPath 55 = .ok (.goto 4, 3) := by decide +kernel
theorem dX7_stepsOfPath_58 : decode cX7_stepsOfPath 58 = .ok (.iload_n 1, 1) := by decide +kernel
theorem dX7_stepsOfPath_59 : decode cX7_stepsOfPath 59 = .ok (.ireturn, 1) := by decide +kernel
abbrev x_X7_stepsOfPath : Cx := (7, cX7_stepsOfPath, false, some (.int))
set_option maxRecDepth 10000 in
theorem g_X7_stepsOfPath_0 {E : Ev} {d : Nat} {G : Hp} {Q : Po} {x0 : Int32} (h : (if ¬ x0 = 0 then Xr E d x_X7_stepsOfPath 10 [some (.int x0), some (.int ((iv 0))), some (.int x0)] [] G Q else Q (some (.int (iv 0))) G)) : Xr E d x_X7_stepsOfPath 0 [some (.int x0), none, none] [] G Q := by
  refine r_iload_n dX7_stepsOfPath_0 rfl ?_
  refine r_ifne (tgt := 6) dX7_stepsOfPath_1 (by decide) (ite_imp (fun h => ?_) (fun h => ?_) h)
  · refine r_iconst dX7_stepsOfPath_6 ?_
    refine r_istore_n dX7_stepsOfPath_7 rfl ?_
    refine r_iload_n dX7_stepsOfPath_8 rfl ?_
    refine r_istore_n dX7_stepsOfPath_9 rfl ?_
    exact h
  · refine r_iconst dX7_stepsOfPath_4 ?_
    exact r_iret dX7_stepsOfPath_5 rfl ⟨rfl, h⟩
theorem e_X7_stepsOfPath {E : Ev} {d : Nat} {G : Hp} {Q : Po} {x0 : Int32} (h : (if ¬ x0 = 0 then Xr E d x_X7_stepsOfPath 10 [some (.int x0), some (.int ((iv 0))), some (.int x0)] [] G Q else Q (some (.int (iv 0))) G)) : runs E (d + 1) i_X7_stepsOfPath [.int x0] G Q := by
  rw [runs_eq (m := (yX7_stepsOfPath, cX7_stepsOfPath, 3, some (.int), 1, 7, false, true)) rfl (Nat.le_of_ble_eq_true rfl)]
  exact g_X7_stepsOfPath_0 h
set_option maxRecDepth 10000 in
theorem g_X7_stepsOfPath_10 {E : Ev} {d : Nat} {G : Hp} {Q : Po} {x0 : Int32} {x1 : Int32} {x2 : Int32} (h : (if x2 ≤ 0 then (if 0 ≤ x0 then Q (some (.int x1)) G else Q (some (.int (iv (-9)))) G) else (qCI E d i_X7_in [.long ((((x2 - x2 / (iv 10) * (iv 10))).toInt64)), .long 1, .long 2] G fun v2 G1 => (if v2 = 0 then Q (some (.int (iv (-9)))) G1 else (if ¬ x1 = (iv 6) then Xr E d x_X7_stepsOfPath 10 [some (.int x0), some (.int ((x1 + (iv 1)))), some (.int ((x2 / (iv 10))))] [] G1 Q else Q (some (.int (iv (-9)))) G1))))) : Xr E d x_X7_stepsOfPath 10 [some (.int x0), some (.int x1), some (.int x2)] [] G Q := by
  refine r_iload_n dX7_stepsOfPath_10 rfl ?_
  refine r_ifle (tgt := 49) dX7_stepsOfPath_11 (by decide) (ite_imp (fun h => ?_) (fun h => ?_) h)
  · refine r_iload_n dX7_stepsOfPath_49 rfl ?_
    refine r_ifge (tgt := 58) dX7_stepsOfPath_50 (by decide) (ite_imp (fun h => ?_) (fun h => ?_) h)
    · refine r_iload_n dX7_stepsOfPath_58 rfl ?_
      exact r_iret dX7_stepsOfPath_59 rfl ⟨rfl, h⟩
    · refine r_bipush dX7_stepsOfPath_53 rfl ?_
      refine r_goto (tgt := 59) dX7_stepsOfPath_55 (by decide) ?_
      exact r_iret dX7_stepsOfPath_59 rfl ⟨rfl, h⟩
  · refine r_iload_n dX7_stepsOfPath_14 rfl ?_
    refine r_bipush dX7_stepsOfPath_15 rfl ?_
    refine r_irem dX7_stepsOfPath_17 ⟨by decide, ?_⟩
    refine r_i2l dX7_stepsOfPath_18 ?_
    refine r_lconst (v := 1) dX7_stepsOfPath_19 rfl ?_
    refine r_ldc2 dX7_stepsOfPath_20 rfl ?_
    refine r_cI dX7_stepsOfPath_23 rfl (invS_eq rfl (by decide) rfl rfl rfl rfl ⟨rfl, Nat.le_of_ble_eq_true rfl⟩) (qCI_imp (fun v2 G1 h => ?_) h)
    refine r_ifeq (tgt := 35) dX7_stepsOfPath_26 (by decide) (ite_imp (fun h => ?_) (fun h => ?_) h)
    · refine r_bipush dX7_stepsOfPath_35 rfl ?_
      exact r_iret dX7_stepsOfPath_37 rfl ⟨rfl, h⟩
    · refine r_iload_n dX7_stepsOfPath_29 rfl ?_
      refine r_bipush dX7_stepsOfPath_30 rfl ?_
      refine r_cne (tgt := 38) dX7_stepsOfPath_32 (by decide) (ite_imp (fun h => ?_) (fun h => ?_) h)
      · refine r_iload_n dX7_stepsOfPath_38 rfl ?_
        refine r_bipush dX7_stepsOfPath_39 rfl ?_
        refine r_idiv dX7_stepsOfPath_41 ⟨by decide, ?_⟩
        refine r_istore_n dX7_stepsOfPath_42 rfl ?_
        refine r_iinc dX7_stepsOfPath_43 rfl rfl ?_
        refine r_goto (tgt := 10) dX7_stepsOfPath_46 (by decide) ?_
        exact h
      · refine r_bipush dX7_stepsOfPath_35 rfl ?_
        exact r_iret dX7_stepsOfPath_37 rfl ⟨rfl, h⟩
theorem dX7_walk_0 : decode cX7_walk 0 = .ok (.aload_n 0, 1) := by decide +kernel
theorem dX7_walk_1 : decode cX7_walk 1 = .ok (.aload_n 1, 1) := by decide +kernel
theorem dX7_walk_2 : decode cX7_walk 2 = .ok (.invokevirtual 179, 3) := by decide +kernel
theorem dX7_walk_5 : decode cX7_walk 5 = .ok (.iconst 1, 1) := by decide +kernel
theorem dX7_walk_6 : decode cX7_walk 6 = .ok (.istore 4, 2) := by decide +kernel
theorem dX7_walk_8 : decode cX7_walk 8 = .ok (.iload_n 3, 1) := by decide +kernel
theorem dX7_walk_9 : decode cX7_walk 9 = .ok (.iconst 1, 1) := by decide +kernel
theorem dX7_walk_10 : decode cX7_walk 10 = .ok (.isub, 1) := by decide +kernel
theorem dX7_walk_11 : decode cX7_walk 11 = .ok (.istore 5, 2) := by decide +kernel
theorem dX7_walk_13 : decode cX7_walk 13 = .ok (.iload 5, 2) := by decide +kernel
theorem dX7_walk_15 : decode cX7_walk 15 = .ok (.ifCond .lt 31, 3) := by decide +kernel
theorem dX7_walk_18 : decode cX7_walk 18 = .ok (.iload 4, 2) := by decide +kernel
theorem dX7_walk_20 : decode cX7_walk 20 = .ok (.ifCond .eq 26, 3) := by decide +kernel
theorem dX7_walk_23 : decode cX7_walk 23 = .ok (.aload_n 0, 1) := by decide +kernel
theorem dX7_walk_24 : decode cX7_walk 24 = .ok (.aload_n 1, 1) := by decide +kernel
theorem dX7_walk_25 : decode cX7_walk 25 = .ok (.iload_n 2, 1) := by decide +kernel
theorem dX7_walk_26 : decode cX7_walk 26 = .ok (.iload 5, 2) := by decide +kernel
theorem dX7_walk_28 : decode cX7_walk 28 = .ok (.invokestatic 182, 3) := by decide +kernel
theorem dX7_walk_31 : decode cX7_walk 31 = .ok (.idiv, 1) := by decide +kernel
theorem dX7_walk_32 : decode cX7_walk 32 = .ok (.bipush 10, 2) := by decide +kernel
theorem dX7_walk_34 : decode cX7_walk 34 = .ok (.irem, 1) := by decide +kernel
theorem dX7_walk_35 : decode cX7_walk 35 = .ok (.invokevirtual 185, 3) := by decide +kernel
theorem dX7_walk_38 : decode cX7_walk 38 = .ok (.istore 4, 2) := by decide +kernel
theorem dX7_walk_40 : decode cX7_walk 40 = .ok (.iinc 5 (-1), 3) := by decide +kernel
theorem dX7_walk_43 : decode cX7_walk 43 = .ok (.goto (-30), 3) := by decide +kernel
theorem dX7_walk_46 : decode cX7_walk 46 = .ok (.iload 4, 2) := by decide +kernel
theorem dX7_walk_48 : decode cX7_walk 48 = .ok (.ireturn, 1) := by decide +kernel
abbrev x_X7_walk : Cx := (7, cX7_walk, false, some (.boolean))
set_option maxRecDepth 10000 in
theorem g_X7_walk_0 {E : Ev} {d : Nat} {G : Hp} {Q : Po} {x0 : Nat} {x1 : Nat} {x2 : Int32} {x3 : Int32} (h : (rcv E G x0 7 = true ∧ (qCV E d i_X7_beginWalk [.ref x0, .ref x1] G fun G1 => Xr E d x_X7_walk 13 [some (.ref x0), some (.ref x1), some (.int x2), some (.int x3), some (.int ((iv 1))), some (.int ((x3 - (iv 1))))] [] G1 Q))) : Xr E d x_X7_walk 0 [some (.ref x0), some (.ref x1), some (.int x2), some (.int x3), none, none] [] G Q := by
  refine r_aload_n dX7_walk_0 rfl ?_
  refine r_aload_n dX7_walk_1 rfl ?_
  refine r_cV dX7_walk_2 rfl (invV_eq rfl rfl rfl rfl rfl rfl ⟨rfl, Nat.le_of_ble_eq_true rfl⟩ h.1) (qCV_imp (fun G1 h => ?_) h.2)
  refine r_iconst dX7_walk_5 ?_
  refine r_istore dX7_walk_6 rfl ?_
  refine r_iload_n dX7_walk_8 rfl ?_
  refine r_iconst dX7_walk_9 ?_
  refine r_isub dX7_walk_10 ?_
  refine r_istore dX7_walk_11 rfl ?_
  exact h
theorem e_X7_walk {E : Ev} {d : Nat} {G : Hp} {Q : Po} {x0 : Nat} {x1 : Nat} {x2 : Int32} {x3 : Int32} (h : (rcv E G x0 7 = true ∧ (qCV E d i_X7_beginWalk [.ref x0, .ref x1] G fun G1 => Xr E d x_X7_walk 13 [some (.ref x0), some (.ref x1), some (.int x2), some (.int x3), some (.int ((iv 1))), some (.int ((x3 - (iv 1))))] [] G1 Q))) : runs E (d + 1) i_X7_walk [.ref x0, .ref x1, .int x2, .int x3] G Q := by
  rw [runs_eq (m := (yX7_walk, cX7_walk, 6, some (.boolean), 3, 7, false, false)) rfl (Nat.le_of_ble_eq_true rfl)]
  exact g_X7_walk_0 h
set_option maxRecDepth 10000 in
theorem g_X7_walk_13 {E : Ev} {d : Nat} {G : Hp} {Q : Po} {x0 : Nat} {x1 : Nat} {x2 : Int32} {x3 : Int32} {x4 : Int32} {x5 : Int32} (h : (if x5 < 0 then (narrow .boolean (.int x4) = .int x4 ∧ Q (some (.int x4)) G) else (if x4 = 0 then (narrow .boolean (.int x4) = .int x4 ∧ Q (some (.int x4)) G) else (qCI E d i_X7_tens [.int x5] G fun v2 G1 => (¬ v2 = 0 ∧ (rcv E G1 x0 7 = true ∧ (qCI E d i_X7_goDown [.ref x0, .ref x1, .int (((x2 / v2) - (x2 / v2) / (iv 10) * (iv 10)))] G1 fun v4 G3 => Xr E d x_X7_walk 13 [some (.ref x0), some (.ref x1), some (.int x2), some (.int x3), some (.int v4), some (.int ((x5 + (iv (-1)))))] [] G3 Q))))))) : Xr E d x_X7_walk 13 [some (.ref x0), some (.ref x1), some (.int x2), some (.int x3), some (.int x4), some (.int x5)] [] G Q := by
  refine r_iload dX7_walk_13 rfl ?_
  refine r_iflt (tgt := 46) dX7_walk_15 (by decide) (ite_imp (fun h => ?_) (fun h => ?_) h)
  · refine r_iload dX7_walk_46 rfl ?_
    exact r_iret dX7_walk_48 rfl h
  · refine r_iload dX7_walk_18 rfl ?_
    refine r_ifeq (tgt := 46) dX7_walk_20 (by decide) (ite_imp (fun h => ?_) (fun h => ?_) h)
    · refine r_iload dX7_walk_46 rfl ?_
      exact r_iret dX7_walk_48 rfl h
    · refine r_aload_n dX7_walk_23 rfl ?_
      refine r_aload_n dX7_walk_24 rfl ?_
      refine r_iload_n dX7_walk_25 rfl ?_
      refine r_iload dX7_walk_26 rfl ?_
      refine r_cI dX7_walk_28 rfl (invS_eq rfl (by decide) rfl rfl rfl rfl ⟨rfl, Nat.le_of_ble_eq_true rfl⟩) (qCI_imp (fun v2 G1 h => ?_) h)
      refine r_idiv dX7_walk_31 ⟨h.1, ?_⟩
      replace h := h.2
      refine r_bipush dX7_walk_32 rfl ?_
      refine r_irem dX7_walk_34 ⟨by decide, ?_⟩
      refine r_cI dX7_walk_35 rfl (invV_eq rfl rfl rfl rfl rfl rfl ⟨rfl, Nat.le_of_ble_eq_true rfl⟩ h.1) (qCI_imp (fun v4 G3 h => ?_) h.2)
      refine r_istore dX7_walk_38 rfl ?_
      refine r_iinc dX7_walk_40 rfl rfl ?_
      refine r_goto (tgt := 13) dX7_walk_43 (by decide) ?_
      exact h
theorem dX7_labelAt_0 : decode cX7_labelAt 0 = .ok (.iload_n 1, 1) := by decide +kernel
theorem dX7_labelAt_1 : decode cX7_labelAt 1 = .ok (.invokestatic 189, 3) := by decide +kernel
theorem dX7_labelAt_4 : decode cX7_labelAt 4 = .ok (.istore_n 2, 1) := by decide +kernel
theorem dX7_labelAt_5 : decode cX7_labelAt 5 = .ok (.iload_n 2, 1) := by decide +kernel
theorem dX7_labelAt_6 : decode cX7_labelAt 6 = .ok (.bipush (-9), 2) := by decide +kernel
theorem dX7_labelAt_8 : decode cX7_labelAt 8 = .ok (.if_icmp .ne 6, 3) := by decide +kernel
theorem dX7_labelAt_11 : decode cX7_labelAt 11 = .ok (.bipush (-2), 2) := by decide +kernel
theorem dX7_labelAt_13 : decode cX7_labelAt 13 = .ok (.ireturn, 1) := by decide +kernel
theorem dX7_labelAt_14 : decode cX7_labelAt 14 = .ok (.aload_n 0, 1) := by decide +kernel
theorem dX7_labelAt_15 : decode cX7_labelAt 15 = .ok (.aload_n 0, 1) := by decide +kernel
theorem dX7_labelAt_16 : decode cX7_labelAt 16 = .ok (.getfield 13, 3) := by decide +kernel
theorem dX7_labelAt_19 : decode cX7_labelAt 19 = .ok (.iload_n 1, 1) := by decide +kernel
theorem dX7_labelAt_20 : decode cX7_labelAt 20 = .ok (.iload_n 2, 1) := by decide +kernel
theorem dX7_labelAt_21 : decode cX7_labelAt 21 = .ok (.invokevirtual 192, 3) := by decide +kernel
theorem dX7_labelAt_24 : decode cX7_labelAt 24 = .ok (.ifCond .eq 10, 3) := by decide +kernel
theorem dX7_labelAt_27 : decode cX7_labelAt 27 = .ok (.aload_n 0, 1) := by decide +kernel
theorem dX7_labelAt_28 : decode cX7_labelAt 28 = .ok (.getfield 164, 3) := by decide +kernel
theorem dX7_labelAt_31 : decode cX7_labelAt 31 = .ok (.goto 5, 3) := by decide +kernel
theorem dX7_labelAt_34 : decode cX7_labelAt 34 = .ok (.bipush (-9), 2) := by decide +kernel
theorem dX7_labelAt_36 : decode cX7_labelAt 36 = .ok (.ireturn, 1) := by decide +kernel
abbrev x_X7_labelAt : Cx := (7, cX7_labelAt, false, some (.int))
set_option maxRecDepth 10000 in
theorem g_X7_labelAt_0 {E : Ev} {d : Nat} {G : Hp} {Q : Po} {x0 : Nat} {x1 : Int32} (h : (qCI E d i_X7_stepsOfPath [.int x1] G fun v2 G1 => (if ¬ v2 = (iv (-9)) then (qFR E G1 x0 7 2 fun v3 => (rcv E G1 x0 7 = true ∧ (qCI E d i_X7_walk [.ref x0, .ref v3, .int x1, .int v2] G1 fun v5 G4 => (if v5 = 0 then Q (some (.int (iv (-9)))) G4 else (qFI E G4 x0 7 14 fun v6 => Q (some (.int v6)) G4))))) else Q (some (.int (iv (-2)))) G1))) : Xr E d x_X7_labelAt 0 [some (.ref x0), some (.int x1), none] [] G Q := by
  refine r_iload_n dX7_labelAt_0 rfl ?_
  refine r_cI dX7_labelAt_1 rfl (invS_eq rfl (by decide) rfl rfl rfl rfl ⟨rfl, Nat.le_of_ble_eq_true rfl⟩) (qCI_imp (fun v2 G1 h => ?_) h)
  refine r_istore_n dX7_labelAt_4 rfl ?_
  refine r_iload_n dX7_labelAt_5 rfl ?_
  refine r_bipush dX7_labelAt_6 rfl ?_
  refine r_cne (tgt := 14) dX7_labelAt_8 (by decide) (ite_imp (fun h => ?_) (fun h => ?_) h)
  · refine r_aload_n dX7_labelAt_14 rfl ?_
    refine r_aload_n dX7_labelAt_15 rfl ?_
    refine r_getR dX7_labelAt_16 rfl (qFR_imp (fun v3 h => ?_) h)
    refine r_iload_n dX7_labelAt_19 rfl ?_
    refine r_iload_n dX7_labelAt_20 rfl ?_
    refine r_cI dX7_labelAt_21 rfl (invV_eq rfl rfl rfl rfl rfl rfl ⟨rfl, Nat.le_of_ble_eq_true rfl⟩ h.1) (qCI_imp (fun v5 G4 h => ?_) h.2)
    refine r_ifeq (tgt := 34) dX7_labelAt_24 (by decide) (ite_imp (fun h => ?_) (fun h => ?_) h)
    · refine r_bipush dX7_labelAt_34 rfl ?_
      exact r_iret dX7_labelAt_36 rfl ⟨rfl, h⟩
    · refine r_aload_n dX7_labelAt_27 rfl ?_
      refine r_getI dX7_labelAt_28 rfl (qFI_imp (fun v6 h => ?_) h)
      refine r_goto (tgt := 36) dX7_labelAt_31 (by decide) ?_
      exact r_iret dX7_labelAt_36 rfl ⟨rfl, h⟩
  · refine r_bipush dX7_labelAt_11 rfl ?_
    exact r_iret dX7_labelAt_13 rfl ⟨rfl, h⟩
theorem e_X7_labelAt {E : Ev} {d : Nat} {G : Hp} {Q : Po} {x0 : Nat} {x1 : Int32} (h : (qCI E d i_X7_stepsOfPath [.int x1] G fun v2 G1 => (if ¬ v2 = (iv (-9)) then (qFR E G1 x0 7 2 fun v3 => (rcv E G1 x0 7 = true ∧ (qCI E d i_X7_walk [.ref x0, .ref v3, .int x1, .int v2] G1 fun v5 G4 => (if v5 = 0 then Q (some (.int (iv (-9)))) G4 else (qFI E G4 x0 7 14 fun v6 => Q (some (.int v6)) G4))))) else Q (some (.int (iv (-2)))) G1))) : runs E (d + 1) i_X7_labelAt [.ref x0, .int x1] G Q := by
  rw [runs_eq (m := (yX7_labelAt, cX7_labelAt, 3, some (.int), 1, 7, false, false)) rfl (Nat.le_of_ble_eq_true rfl)]
  exact g_X7_labelAt_0 h
theorem dX7_expansionsAt_0 : decode cX7_expansionsAt 0 = .ok (.iload_n 1, 1) := by decide +kernel
theorem dX7_expansionsAt_1 : decode cX7_expansionsAt 1 = .ok (.invokestatic 189, 3) := by decide +kernel
theorem dX7_expansionsAt_4 : decode cX7_expansionsAt 4 = .ok (.istore_n 2, 1) := by decide +kernel
theorem dX7_expansionsAt_5 : decode cX7_expansionsAt 5 = .ok (.iload_n 2, 1) := by decide +kernel
theorem dX7_expansionsAt_6 : decode cX7_expansionsAt 6 = .ok (.bipush (-9), 2) := by decide +kernel
theorem dX7_expansionsAt_8 : decode cX7_expansionsAt 8 = .ok (.if_icmp .ne 6, 3) := by decide +kernel
theorem dX7_expansionsAt_11 : decode cX7_expansionsAt 11 = .ok (.bipush (-2), 2) := by decide +kernel
theorem dX7_expansionsAt_13 : decode cX7_expansionsAt 13 = .ok (.ireturn, 1) := by decide +kernel
theorem dX7_expansionsAt_14 : decode cX7_expansionsAt 14 = .ok (.aload_n 0, 1) := by decide +kernel
theorem dX7_expansionsAt_15 : decode cX7_expansionsAt 15 = .ok (.aload_n 0, 1) := by decide +kernel
theorem dX7_expansionsAt_16 : decode cX7_expansionsAt 16 = .ok (.getfield 13, 3) := by decide +kernel
theorem dX7_expansionsAt_19 : decode cX7_expansionsAt 19 = .ok (.iload_n 1, 1) := by decide +kernel
theorem dX7_expansionsAt_20 : decode cX7_expansionsAt 20 = .ok (.iload_n 2, 1) := by decide +kernel
theorem dX7_expansionsAt_21 : decode cX7_expansionsAt 21 = .ok (.invokevirtual 192, 3) := by decide +kernel
theorem dX7_expansionsAt_24 : decode cX7_expansionsAt 24 = .ok (.ifCond .eq 10, 3) := by decide +kernel
theorem dX7_expansionsAt_27 : decode cX7_expansionsAt 27 = .ok (.aload_n 0, 1) := by decide +kernel
theorem dX7_expansionsAt_28 : decode cX7_expansionsAt 28 = .ok (.getfield 167, 3) := by decide +kernel
theorem dX7_expansionsAt_31 : decode cX7_expansionsAt 31 = .ok (.goto 5, 3) := by decide +kernel
theorem dX7_expansionsAt_34 : decode cX7_expansionsAt 34 = .ok (.bipush (-9), 2) := by decide +kernel
theorem dX7_expansionsAt_36 : decode cX7_expansionsAt 36 = .ok (.ireturn, 1) := by decide +kernel
abbrev x_X7_expansionsAt : Cx := (7, cX7_expansionsAt, false, some (.int))
set_option maxRecDepth 10000 in
theorem g_X7_expansionsAt_0 {E : Ev} {d : Nat} {G : Hp} {Q : Po} {x0 : Nat} {x1 : Int32} (h : (qCI E d i_X7_stepsOfPath [.int x1] G fun v2 G1 => (if ¬ v2 = (iv (-9)) then (qFR E G1 x0 7 2 fun v3 => (rcv E G1 x0 7 = true ∧ (qCI E d i_X7_walk [.ref x0, .ref v3, .int x1, .int v2] G1 fun v5 G4 => (if v5 = 0 then Q (some (.int (iv (-9)))) G4 else (qFI E G4 x0 7 15 fun v6 => Q (some (.int v6)) G4))))) else Q (some (.int (iv (-2)))) G1))) : Xr E d x_X7_expansionsAt 0 [some (.ref x0), some (.int x1), none] [] G Q := by
  refine r_iload_n dX7_expansionsAt_0 rfl ?_
  refine r_cI dX7_expansionsAt_1 rfl (invS_eq rfl (by decide) rfl rfl rfl rfl ⟨rfl, Nat.le_of_ble_eq_true rfl⟩) (qCI_imp (fun v2 G1 h => ?_) h)
  refine r_istore_n dX7_expansionsAt_4 rfl ?_
  refine r_iload_n dX7_expansionsAt_5 rfl ?_
  refine r_bipush dX7_expansionsAt_6 rfl ?_
  refine r_cne (tgt := 14) dX7_expansionsAt_8 (by decide) (ite_imp (fun h => ?_) (fun h => ?_) h)
  · refine r_aload_n dX7_expansionsAt_14 rfl ?_
    refine r_aload_n dX7_expansionsAt_15 rfl ?_
    refine r_getR dX7_expansionsAt_16 rfl (qFR_imp (fun v3 h => ?_) h)
    refine r_iload_n dX7_expansionsAt_19 rfl ?_
    refine r_iload_n dX7_expansionsAt_20 rfl ?_
    refine r_cI dX7_expansionsAt_21 rfl (invV_eq rfl rfl rfl rfl rfl rfl ⟨rfl, Nat.le_of_ble_eq_true rfl⟩ h.1) (qCI_imp (fun v5 G4 h => ?_) h.2)
    refine r_ifeq (tgt := 34) dX7_expansionsAt_24 (by decide) (ite_imp (fun h => ?_) (fun h => ?_) h)
    · refine r_bipush dX7_expansionsAt_34 rfl ?_
      exact r_iret dX7_expansionsAt_36 rfl ⟨rfl, h⟩
    · refine r_aload_n dX7_expansionsAt_27 rfl ?_
      refine r_getI dX7_expansionsAt_28 rfl (qFI_imp (fun v6 h => ?_) h)
      refine r_goto (tgt := 36) dX7_expansionsAt_31 (by decide) ?_
      exact r_iret dX7_expansionsAt_36 rfl ⟨rfl, h⟩
  · refine r_bipush dX7_expansionsAt_11 rfl ?_
    exact r_iret dX7_expansionsAt_13 rfl ⟨rfl, h⟩
theorem e_X7_expansionsAt {E : Ev} {d : Nat} {G : Hp} {Q : Po} {x0 : Nat} {x1 : Int32} (h : (qCI E d i_X7_stepsOfPath [.int x1] G fun v2 G1 => (if ¬ v2 = (iv (-9)) then (qFR E G1 x0 7 2 fun v3 => (rcv E G1 x0 7 = true ∧ (qCI E d i_X7_walk [.ref x0, .ref v3, .int x1, .int v2] G1 fun v5 G4 => (if v5 = 0 then Q (some (.int (iv (-9)))) G4 else (qFI E G4 x0 7 15 fun v6 => Q (some (.int v6)) G4))))) else Q (some (.int (iv (-2)))) G1))) : runs E (d + 1) i_X7_expansionsAt [.ref x0, .int x1] G Q := by
  rw [runs_eq (m := (yX7_expansionsAt, cX7_expansionsAt, 3, some (.int), 1, 7, false, false)) rfl (Nat.le_of_ble_eq_true rfl)]
  exact g_X7_expansionsAt_0 h
