/-! segments, by program (wip/whole/gen/seg.py) -/
theorem dX7_stateAt_0 : decode cX7_stateAt 0 = .ok (.iload_n 1, 1) := by decide +kernel
theorem dX7_stateAt_1 : decode cX7_stateAt 1 = .ok (.invokestatic 189, 3) := by decide +kernel
theorem dX7_stateAt_4 : decode cX7_stateAt 4 = .ok (.istore_n 2, 1) := by decide +kernel
theorem dX7_stateAt_5 : decode cX7_stateAt 5 = .ok (.iload_n 2, 1) := by decide +kernel
theorem dX7_stateAt_6 : decode cX7_stateAt 6 = .ok (.bipush (-9), 2) := by decide +kernel
theorem dX7_stateAt_8 : decode cX7_stateAt 8 = .ok (.if_icmp .ne 6, 3) := by decide +kernel
theorem dX7_stateAt_11 : decode cX7_stateAt 11 = .ok (.bipush (-2), 2) := by decide +kernel
theorem dX7_stateAt_13 : decode cX7_stateAt 13 = .ok (.ireturn, 1) := by decide +kernel
theorem dX7_stateAt_14 : decode cX7_stateAt 14 = .ok (.aload_n 0, 1) := by decide +kernel
theorem dX7_stateAt_15 : decode cX7_stateAt 15 = .ok (.aload_n 0, 1) := by decide +kernel
theorem dX7_stateAt_16 : decode cX7_stateAt 16 = .ok (.getfield 13, 3) := by decide +kernel
theorem dX7_stateAt_19 : decode cX7_stateAt 19 = .ok (.iload_n 1, 1) := by decide +kernel
theorem dX7_stateAt_20 : decode cX7_stateAt 20 = .ok (.iload_n 2, 1) := by decide +kernel
theorem dX7_stateAt_21 : decode cX7_stateAt 21 = .ok (.invokevirtual 192, 3) := by decide +kernel
theorem dX7_stateAt_24 : decode cX7_stateAt 24 = .ok (.ifCond .eq 10, 3) := by decide +kernel
theorem dX7_stateAt_27 : decode cX7_stateAt 27 = .ok (.aload_n 0, 1) := by decide +kernel
theorem dX7_stateAt_28 : decode cX7_stateAt 28 = .ok (.getfield 170, 3) := by decide +kernel
theorem dX7_stateAt_31 : decode cX7_stateAt 31 = .ok (.goto 5, 3) := by decide +kernel
theorem dX7_stateAt_34 : decode cX7_stateAt 34 = .ok (.bipush (-9), 2) := by decide +kernel
theorem dX7_stateAt_36 : decode cX7_stateAt 36 = .ok (.ireturn, 1) := by decide +kernel
abbrev x_X7_stateAt : Cx := (7, cX7_stateAt, false, some (.int))
set_option maxRecDepth 10000 in
theorem g_X7_stateAt_0 {E : Ev} {d : Nat} {G : Hp} {Q : Po} {x0 : Nat} {x1 : Int32} (h : (qCI E d i_X7_stepsOfPath [.int x1] G fun v2 G1 => (if ¬ v2 = (iv (-9)) then (qFR E G1 x0 7 2 fun v3 => (rcv E G1 x0 7 = true ∧ (qCI E d i_X7_walk [.ref x0, .ref v3, .int x1, .int v2] G1 fun v5 G4 => (if v5 = 0 then Q (some (.int (iv (-9)))) G4 else (qFI E G4 x0 7 16 fun v6 => Q (some (.int v6)) G4))))) else Q (some (.int (iv (-2)))) G1))) : Xr E d x_X7_stateAt 0 [some (.ref x0), some (.int x1), none] [] G Q := by
  refine r_iload_n dX7_stateAt_0 rfl ?_
  refine r_cI dX7_stateAt_1 rfl (invS_eq rfl (by decide) rfl rfl rfl rfl ⟨rfl, Nat.le_of_ble_eq_true rfl⟩) (qCI_imp (fun v2 G1 h => ?_) h)
  refine r_istore_n dX7_stateAt_4 rfl ?_
  refine r_iload_n dX7_stateAt_5 rfl ?_
  refine r_bipush dX7_stateAt_6 rfl ?_
  refine r_cne (tgt := 14) dX7_stateAt_8 (by decide) (ite_imp (fun h => ?_) (fun h => ?_) h)
  · refine r_aload_n dX7_stateAt_14 rfl ?_
    refine r_aload_n dX7_stateAt_15 rfl ?_
    refine r_getR dX7_stateAt_16 rfl (qFR_imp (fun v3 h => ?_) h)
    refine r_iload_n dX7_stateAt_19 rfl ?_
    refine r_iload_n dX7_stateAt_20 rfl ?_
    refine r_cI dX7_stateAt_21 rfl (invV_eq rfl rfl rfl rfl rfl rfl ⟨rfl, Nat.le_of_ble_eq_true rfl⟩ h.1) (qCI_imp (fun v5 G4 h => ?_) h.2)
    refine r_ifeq (tgt := 34) dX7_stateAt_24 (by decide) (ite_imp (fun h => ?_) (fun h => ?_) h)
    · refine r_bipush dX7_stateAt_34 rfl ?_
      exact r_iret dX7_stateAt_36 rfl ⟨rfl, h⟩
    · refine r_aload_n dX7_stateAt_27 rfl ?_
      refine r_getI dX7_stateAt_28 rfl (qFI_imp (fun v6 h => ?_) h)
      refine r_goto (tgt := 36) dX7_stateAt_31 (by decide) ?_
      exact r_iret dX7_stateAt_36 rfl ⟨rfl, h⟩
  · refine r_bipush dX7_stateAt_11 rfl ?_
    exact r_iret dX7_stateAt_13 rfl ⟨rfl, h⟩
theorem e_X7_stateAt {E : Ev} {d : Nat} {G : Hp} {Q : Po} {x0 : Nat} {x1 : Int32} (h : (qCI E d i_X7_stepsOfPath [.int x1] G fun v2 G1 => (if ¬ v2 = (iv (-9)) then (qFR E G1 x0 7 2 fun v3 => (rcv E G1 x0 7 = true ∧ (qCI E d i_X7_walk [.ref x0, .ref v3, .int x1, .int v2] G1 fun v5 G4 => (if v5 = 0 then Q (some (.int (iv (-9)))) G4 else (qFI E G4 x0 7 16 fun v6 => Q (some (.int v6)) G4))))) else Q (some (.int (iv (-2)))) G1))) : runs E (d + 1) i_X7_stateAt [.ref x0, .int x1] G Q := by
  rw [runs_eq (m := (yX7_stateAt, cX7_stateAt, 3, some (.int), 1, 7, false, false)) rfl (Nat.le_of_ble_eq_true rfl)]
  exact g_X7_stateAt_0 h
theorem dX7_pathOf_0 : decode cX7_pathOf 0 = .ok (.iconst 0, 1) := by decide +kernel
theorem dX7_pathOf_1 : decode cX7_pathOf 1 = .ok (.istore_n 2, 1) := by decide +kernel
theorem dX7_pathOf_2 : decode cX7_pathOf 2 = .ok (.iload_n 0, 1) := by decide +kernel
theorem dX7_pathOf_3 : decode cX7_pathOf 3 = .ok (.iconst 1, 1) := by decide +kernel
theorem dX7_pathOf_4 : decode cX7_pathOf 4 = .ok (.isub, 1) := by decide +kernel
theorem dX7_pathOf_5 : decode cX7_pathOf 5 = .ok (.istore_n 3, 1) := by decide +kernel
theorem dX7_pathOf_6 : decode cX7_pathOf 6 = .ok (.iload_n 3, 1) := by decide +kernel
theorem dX7_pathOf_7 : decode cX7_pathOf 7 = .ok (.ifCond .lt 22, 3) := by decide +kernel
theorem dX7_pathOf_10 : decode cX7_pathOf 10 = .ok (.bipush 10, 2) := by decide +kernel
theorem dX7_pathOf_12 : decode cX7_pathOf 12 = .ok (.iload_n 2, 1) := by decide +kernel
theorem dX7_pathOf_13 : decode cX7_pathOf 13 = .ok (.imul, 1) := by decide +kernel
theorem dX7_pathOf_14 : decode cX7_pathOf 14 = .ok (.iconst 1, 1) := by decide +kernel
theorem dX7_pathOf_15 : decode cX7_pathOf 15 = .ok (.iadd, 1) := by decide +kernel
theorem dX7_pathOf_16 : decode cX7_pathOf 16 = .ok (.iload_n 1, 1) := by decide +kernel
theorem dX7_pathOf_17 : decode cX7_pathOf 17 = .ok (.iload_n 3, 1) := by decide +kernel
theorem dX7_pathOf_18 : decode cX7_pathOf 18 = .ok (.ishr, 1) := by decide +kernel
theorem dX7_pathOf_19 : decode cX7_pathOf 19 = .ok (.iconst 1, 1) := by decide +kernel
theorem dX7_pathOf_20 : decode cX7_pathOf 20 = .ok (.iand, 1) := by decide +kernel
theorem dX7_pathOf_21 : decode cX7_pathOf 21 = .ok (.iadd, 1) := by decide +kernel
theorem dX7_pathOf_22 : decode cX7_pathOf 22 = .ok (.istore_n 2, 1) := by decide +kernel
theorem dX7_pathOf_23 : decode cX7_pathOf 23 = .ok (.iinc 3 (-1), 3) := by decide +kernel
theorem dX7_pathOf_26 : decode cX7_pathOf 26 = .ok (.goto (-20), 3) := by decide +kernel
theorem dX7_pathOf_29 : decode cX7_pathOf 29 = .ok (.iload_n 2, 1) := by decide +kernel
theorem dX7_pathOf_30 : decode cX7_pathOf 30 = .ok (.ireturn, 1) := by decide +kernel
abbrev x_X7_pathOf : Cx := (7, cX7_pathOf, false, some (.int))
set_option maxRecDepth 10000 in
theorem g_X7_pathOf_0 {E : Ev} {d : Nat} {G : Hp} {Q : Po} {x0 : Int32} {x1 : Int32} (h : Xr E d x_X7_pathOf 6 [some (.int x0), some (.int x1), some (.int ((iv 0))), some (.int ((x0 - (iv 1))))] [] G Q) : Xr E d x_X7_pathOf 0 [some (.int x0), some (.int x1), none, none] [] G Q := by
  refine r_iconst dX7_pathOf_0 ?_
  refine r_istore_n dX7_pathOf_1 rfl ?_
  refine r_iload_n dX7_pathOf_2 rfl ?_
  refine r_iconst dX7_pathOf_3 ?_
  refine r_isub dX7_pathOf_4 ?_
  refine r_istore_n dX7_pathOf_5 rfl ?_
  exact h
theorem e_X7_pathOf {E : Ev} {d : Nat} {G : Hp} {Q : Po} {x0 : Int32} {x1 : Int32} (h : Xr E d x_X7_pathOf 6 [some (.int x0), some (.int x1), some (.int ((iv 0))), some (.int ((x0 - (iv 1))))] [] G Q) : runs E (d + 1) i_X7_pathOf [.int x0, .int x1] G Q := by
  rw [runs_eq (m := (yX7_pathOf, cX7_pathOf, 4, some (.int), 2, 7, false, true)) rfl (Nat.le_of_ble_eq_true rfl)]
  exact g_X7_pathOf_0 h
set_option maxRecDepth 10000 in
theorem g_X7_pathOf_6 {E : Ev} {d : Nat} {G : Hp} {Q : Po} {x0 : Int32} {x1 : Int32} {x2 : Int32} {x3 : Int32} (h : (if x3 < 0 then Q (some (.int x2)) G else Xr E d x_X7_pathOf 6 [some (.int x0), some (.int x1), some (.int (((((iv 10) * x2) + (iv 1)) + ((x1 >>> (x3 &&& 31)) &&& (iv 1))))), some (.int ((x3 + (iv (-1)))))] [] G Q)) : Xr E d x_X7_pathOf 6 [some (.int x0), some (.int x1), some (.int x2), some (.int x3)] [] G Q := by
  refine r_iload_n dX7_pathOf_6 rfl ?_
  refine r_iflt (tgt := 29) dX7_pathOf_7 (by decide) (ite_imp (fun h => ?_) (fun h => ?_) h)
  · refine r_iload_n dX7_pathOf_29 rfl ?_
    exact r_iret dX7_pathOf_30 rfl ⟨rfl, h⟩
  · refine r_bipush dX7_pathOf_10 rfl ?_
    refine r_iload_n dX7_pathOf_12 rfl ?_
    refine r_imul dX7_pathOf_13 ?_
    refine r_iconst dX7_pathOf_14 ?_
    refine r_iadd dX7_pathOf_15 ?_
    refine r_iload_n dX7_pathOf_16 rfl ?_
    refine r_iload_n dX7_pathOf_17 rfl ?_
    refine r_ishr dX7_pathOf_18 ?_
    refine r_iconst dX7_pathOf_19 ?_
    refine r_iand dX7_pathOf_20 ?_
    refine r_iadd dX7_pathOf_21 ?_
    refine r_istore_n dX7_pathOf_22 rfl ?_
    refine r_iinc dX7_pathOf_23 rfl rfl ?_
    refine r_goto (tgt := 6) dX7_pathOf_26 (by decide) ?_
    exact h
theorem dX7_nodesOf_0 : decode cX7_nodesOf 0 = .ok (.iconst 0, 1) := by decide +kernel
theorem dX7_nodesOf_1 : decode cX7_nodesOf 1 = .ok (.istore_n 3, 1) := by decide +kernel
theorem dX7_nodesOf_2 : decode cX7_nodesOf 2 = .ok (.iconst 0, 1) := by decide +kernel
theorem dX7_nodesOf_3 : decode cX7_nodesOf 3 = .ok (.istore 4, 2) := by decide +kernel
theorem dX7_nodesOf_5 : decode cX7_nodesOf 5 = .ok (.iload 4, 2) := by decide +kernel
theorem dX7_nodesOf_7 : decode cX7_nodesOf 7 = .ok (.iconst 1, 1) := by decide +kernel
theorem dX7_nodesOf_8 : decode cX7_nodesOf 8 = .ok (.iload_n 2, 1) := by decide +kernel
theorem dX7_nodesOf_9 : decode cX7_nodesOf 9 = .ok (.ishl, 1) := by decide +kernel
theorem dX7_nodesOf_10 : decode cX7_nodesOf 10 = .ok (.if_icmp .ge 32, 3) := by decide +kernel
theorem dX7_nodesOf_13 : decode cX7_nodesOf 13 = .ok (.iload_n 3, 1) := by decide +kernel
theorem dX7_nodesOf_14 : decode cX7_nodesOf 14 = .ok (.aload_n 0, 1) := by decide +kernel
theorem dX7_nodesOf_15 : decode cX7_nodesOf 15 = .ok (.aload_n 1, 1) := by decide +kernel
theorem dX7_nodesOf_16 : decode cX7_nodesOf 16 = .ok (.iload_n 2, 1) := by decide +kernel
theorem dX7_nodesOf_17 : decode cX7_nodesOf 17 = .ok (.iload 4, 2) := by decide +kernel
theorem dX7_nodesOf_19 : decode cX7_nodesOf 19 = .ok (.invokestatic 196, 3) := by decide +kernel
theorem dX7_nodesOf_22 : decode cX7_nodesOf 22 = .ok (.iload_n 2, 1) := by decide +kernel
theorem dX7_nodesOf_23 : decode cX7_nodesOf 23 = .ok (.invokevirtual 192, 3) := by decide +kernel
theorem dX7_nodesOf_26 : decode cX7_nodesOf 26 = .ok (.ifCond .eq 7, 3) := by decide +kernel
theorem dX7_nodesOf_29 : decode cX7_nodesOf 29 = .ok (.iconst 1, 1) := by decide +kernel
theorem dX7_nodesOf_30 : decode cX7_nodesOf 30 = .ok (.goto 4, 3) := by decide +kernel
theorem dX7_nodesOf_33 : decode cX7_nodesOf 33 = .ok (.iconst 0, 1) := by decide +kernel
theorem dX7_nodesOf_34 : decode cX7_nodesOf 34 = .ok (.iadd, 1) := by decide +kernel
theorem dX7_nodesOf_35 : decode cX7_nodesOf 35 = .ok (.istore_n 3, 1) := by decide +kernel
theorem dX7_nodesOf_36 : decode cX7_nodesOf 36 = .ok (.iinc 4 1, 3) := by decide +kernel
theorem dX7_nodesOf_39 : decode cX7_nodesOf 39 = .ok (.goto (-34), 3) := by decide +kernel
theorem dX7_nodesOf_42 : decode cX7_nodesOf 42 = .ok (.iload_n 3, 1) := by decide +kernel
theorem dX7_nodesOf_43 : decode cX7_nodesOf 43 = .ok (.ireturn, 1) := by decide +kernel
abbrev x_X7_nodesOf : Cx := (7, cX7_nodesOf, false, some (.int))
set_option maxRecDepth 10000 in
theorem g_X7_nodesOf_0 {E : Ev} {d : Nat} {G : Hp} {Q : Po} {x0 : Nat} {x1 : Nat} {x2 : Int32} (h : Xr E d x_X7_nodesOf 5 [some (.ref x0), some (.ref x1), some (.int x2), some (.int ((iv 0))), some (.int ((iv 0)))] [] G Q) : Xr E d x_X7_nodesOf 0 [some (.ref x0), some (.ref x1), some (.int x2), none, none] [] G Q := by
  refine r_iconst dX7_nodesOf_0 ?_
  refine r_istore_n dX7_nodesOf_1 rfl ?_
  refine r_iconst dX7_nodesOf_2 ?_
  refine r_istore dX7_nodesOf_3 rfl ?_
  exact h
theorem e_X7_nodesOf {E : Ev} {d : Nat} {G : Hp} {Q : Po} {x0 : Nat} {x1 : Nat} {x2 : Int32} (h : Xr E d x_X7_nodesOf 5 [some (.ref x0), some (.ref x1), some (.int x2), some (.int ((iv 0))), some (.int ((iv 0)))] [] G Q) : runs E (d + 1) i_X7_nodesOf [.ref x0, .ref x1, .int x2] G Q := by
  rw [runs_eq (m := (yX7_nodesOf, cX7_nodesOf, 5, some (.int), 2, 7, false, false)) rfl (Nat.le_of_ble_eq_true rfl)]
  exact g_X7_nodesOf_0 h
set_option maxRecDepth 10000 in
theorem g_X7_nodesOf_5 {E : Ev} {d : Nat} {G : Hp} {Q : Po} {x0 : Nat} {x1 : Nat} {x2 : Int32} {x3 : Int32} {x4 : Int32} (h : (if ((iv 1) <<< (x2 &&& 31)) ≤ x4 then Q (some (.int x3)) G else (qCI E d i_X7_pathOf [.int x2, .int x4] G fun v2 G1 => (rcv E G1 x0 7 = true ∧ (qCI E d i_X7_walk [.ref x0, .ref x1, .int v2, .int x2] G1 fun v4 G3 => (if v4 = 0 then Xr E d x_X7_nodesOf 5 [some (.ref x0), some (.ref x1), some (.int x2), some (.int ((x3 + (iv 0)))), some (.int ((x4 + (iv 1))))] [] G3 Q else Xr E d x_X7_nodesOf 5 [some (.ref x0), some (.ref x1), some (.int x2), some (.int ((x3 + (iv 1)))), some (.int ((x4 + (iv 1))))] [] G3 Q)))))) : Xr E d x_X7_nodesOf 5 [some (.ref x0), some (.ref x1), some (.int x2), some (.int x3), some (.int x4)] [] G Q := by
  refine r_iload dX7_nodesOf_5 rfl ?_
  refine r_iconst dX7_nodesOf_7 ?_
  refine r_iload_n dX7_nodesOf_8 rfl ?_
  refine r_ishl dX7_nodesOf_9 ?_
  refine r_cge (tgt := 42) dX7_nodesOf_10 (by decide) (ite_imp (fun h => ?_) (fun h => ?_) h)
  · refine r_iload_n dX7_nodesOf_42 rfl ?_
    exact r_iret dX7_nodesOf_43 rfl ⟨rfl, h⟩
  · refine r_iload_n dX7_nodesOf_13 rfl ?_
    refine r_aload_n dX7_nodesOf_14 rfl ?_
    refine r_aload_n dX7_nodesOf_15 rfl ?_
    refine r_iload_n dX7_nodesOf_16 rfl ?_
    refine r_iload dX7_nodesOf_17 rfl ?_
    refine r_cI dX7_nodesOf_19 rfl (invS_eq rfl (by decide) rfl rfl rfl rfl ⟨rfl, Nat.le_of_ble_eq_true rfl⟩) (qCI_imp (fun v2 G1 h => ?_) h)
    refine r_iload_n dX7_nodesOf_22 rfl ?_
    refine r_cI dX7_nodesOf_23 rfl (invV_eq rfl rfl rfl rfl rfl rfl ⟨rfl, Nat.le_of_ble_eq_true rfl⟩ h.1) (qCI_imp (fun v4 G3 h => ?_) h.2)
    refine r_ifeq (tgt := 33) dX7_nodesOf_26 (by decide) (ite_imp (fun h => ?_) (fun h => ?_) h)
    · refine r_iconst dX7_nodesOf_33 ?_
      refine r_iadd dX7_nodesOf_34 ?_
      refine r_istore_n dX7_nodesOf_35 rfl ?_
      refine r_iinc dX7_nodesOf_36 rfl rfl ?_
      refine r_goto (tgt := 5) dX7_nodesOf_39 (by decide) ?_
      exact h
    · refine r_iconst dX7_nodesOf_29 ?_
      refine r_goto (tgt := 34) dX7_nodesOf_30 (by decide) ?_
      refine r_iadd dX7_nodesOf_34 ?_
      refine r_istore_n dX7_nodesOf_35 rfl ?_
      refine r_iinc dX7_nodesOf_36 rfl rfl ?_
      refine r_goto (tgt := 5) dX7_nodesOf_39 (by decide) ?_
      exact h
theorem dX7_nodesAtDepth_0 : decode cX7_nodesAtDepth 0 = .ok (.iload_n 1, 1) := by decide +kernel
theorem dX7_nodesAtDepth_1 : decode cX7_nodesAtDepth 1 = .ok (.i2l, 1) := by decide +kernel
theorem dX7_nodesAtDepth_2 : decode cX7_nodesAtDepth 2 = .ok (.lconst 0, 1) := by decide +kernel
theorem dX7_nodesAtDepth_3 : decode cX7_nodesAtDepth 3 = .ok (.ldc2_w 199, 3) := by decide +kernel
theorem dX7_nodesAtDepth_6 : decode cX7_nodesAtDepth 6 = .ok (.invokestatic 55, 3) := by decide +kernel
theorem dX7_nodesAtDepth_9 : decode cX7_nodesAtDepth 9 = .ok (.ifCond .eq 15, 3) := by decide +kernel
theorem dX7_nodesAtDepth_12 : decode cX7_nodesAtDepth 12 = .ok (.aload_n 0, 1) := by decide +kernel
theorem dX7_nodesAtDepth_13 : decode cX7_nodesAtDepth 13 = .ok (.aload_n 0, 1) := by decide +kernel
theorem dX7_nodesAtDepth_14 : decode cX7_nodesAtDepth 14 = .ok (.getfield 13, 3) := by decide +kernel
theorem dX7_nodesAtDepth_17 : decode cX7_nodesAtDepth 17 = .ok (.iload_n 1, 1) := by decide +kernel
theorem dX7_nodesAtDepth_18 : decode cX7_nodesAtDepth 18 = .ok (.invokevirtual 201, 3) := by decide +kernel
theorem dX7_nodesAtDepth_21 : decode cX7_nodesAtDepth 21 = .ok (.goto 5, 3) := by decide +kernel
theorem dX7_nodesAtDepth_24 : decode cX7_nodesAtDepth 24 = .ok (.bipush (-2), 2) := by decide +kernel
theorem dX7_nodesAtDepth_26 : decode cX7_nodesAtDepth 26 = .ok (.ireturn, 1) := by decide +kernel
abbrev x_X7_nodesAtDepth : Cx := (7, cX7_nodesAtDepth, false, some (.int))
set_option maxRecDepth 10000 in
theorem g_X7_nodesAtDepth_0 {E : Ev} {d : Nat} {G : Hp} {Q : Po} {x0 : Nat} {x1 : Int32} (h : (qCI E d i_X7_in [.long (((x1).toInt64)), .long 0, .long 6] G fun v2 G1 => (if v2 = 0 then Q (some (.int (iv (-2)))) G1 else (qFR E G1 x0 7 2 fun v3 => (rcv E G1 x0 7 = true ∧ (qCI E d i_X7_nodesOf [.ref x0, .ref v3, .int x1] G1 fun v5 G4 => Q (some (.int v5)) G4)))))) : Xr E d x_X7_nodesAtDepth 0 [some (.ref x0), some (.int x1)] [] G Q := by
  refine r_iload_n dX7_nodesAtDepth_0 rfl ?_
  refine r_i2l dX7_nodesAtDepth_1 ?_
  refine r_lconst (v := 0) dX7_nodesAtDepth_2 rfl ?_
  refine r_ldc2 dX7_nodesAtDepth_3 rfl ?_
  refine r_cI dX7_nodesAtDepth_6 rfl (invS_eq rfl (by decide) rfl rfl rfl rfl ⟨rfl, Nat.le_of_ble_eq_true rfl⟩) (qCI_imp (fun v2 G1 h => ?_) h)
  refine r_ifeq (tgt := 24) dX7_nodesAtDepth_9 (by decide) (ite_imp (fun h => ?_) (fun h => ?_) h)
  · refine r_bipush dX7_nodesAtDepth_24 rfl ?_
    exact r_iret dX7_nodesAtDepth_26 rfl ⟨rfl, h⟩
  · refine r_aload_n dX7_nodesAtDepth_12 rfl ?_
    refine r_aload_n dX7_nodesAtDepth_13 rfl ?_
    refine r_getR dX7_nodesAtDepth_14 rfl (qFR_imp (fun v3 h => ?_) h)
    refine r_iload_n dX7_nodesAtDepth_17 rfl ?_
    refine r_cI dX7_nodesAtDepth_18 rfl (invV_eq rfl rfl rfl rfl rfl rfl ⟨rfl, Nat.le_of_ble_eq_true rfl⟩ h.1) (qCI_imp (fun v5 G4 h => ?_) h.2)
    refine r_goto (tgt := 26) dX7_nodesAtDepth_21 (by decide) ?_
    exact r_iret dX7_nodesAtDepth_26 rfl ⟨rfl, h⟩
theorem e_X7_nodesAtDepth {E : Ev} {d : Nat} {G : Hp} {Q : Po} {x0 : Nat} {x1 : Int32} (h : (qCI E d i_X7_in [.long (((x1).toInt64)), .long 0, .long 6] G fun v2 G1 => (if v2 = 0 then Q (some (.int (iv (-2)))) G1 else (qFR E G1 x0 7 2 fun v3 => (rcv E G1 x0 7 = true ∧ (qCI E d i_X7_nodesOf [.ref x0, .ref v3, .int x1] G1 fun v5 G4 => Q (some (.int v5)) G4)))))) : runs E (d + 1) i_X7_nodesAtDepth [.ref x0, .int x1] G Q := by
  rw [runs_eq (m := (yX7_nodesAtDepth, cX7_nodesAtDepth, 2, some (.int), 1, 7, false, false)) rfl (Nat.le_of_ble_eq_true rfl)]
  exact g_X7_nodesAtDepth_0 h
theorem dX7_wrongBranch_0 : decode cX7_wrongBranch 0 = .ok (.iload_n 1, 1) := by decide +kernel
theorem dX7_wrongBranch_1 : decode cX7_wrongBranch 1 = .ok (.i2l, 1) := by decide +kernel
theorem dX7_wrongBranch_2 : decode cX7_wrongBranch 2 = .ok (.lconst 0, 1) := by decide +kernel
theorem dX7_wrongBranch_3 : decode cX7_wrongBranch 3 = .ok (.ldc2_w 199, 3) := by decide +kernel
theorem dX7_wrongBranch_6 : decode cX7_wrongBranch 6 = .ok (.invokestatic 55, 3) := by decide +kernel
theorem dX7_wrongBranch_9 : decode cX7_wrongBranch 9 = .ok (.ifCond .ne 6, 3) := by decide +kernel
theorem dX7_wrongBranch_12 : decode cX7_wrongBranch 12 = .ok (.bipush (-2), 2) := by decide +kernel
theorem dX7_wrongBranch_14 : decode cX7_wrongBranch 14 = .ok (.ireturn, 1) := by decide +kernel
theorem dX7_wrongBranch_15 : decode cX7_wrongBranch 15 = .ok (.iconst 0, 1) := by decide +kernel
theorem dX7_wrongBranch_16 : decode cX7_wrongBranch 16 = .ok (.istore_n 2, 1) := by decide +kernel
theorem dX7_wrongBranch_17 : decode cX7_wrongBranch 17 = .ok (.iload_n 2, 1) := by decide +kernel
theorem dX7_wrongBranch_18 : decode cX7_wrongBranch 18 = .ok (.iload_n 1, 1) := by decide +kernel
theorem dX7_wrongBranch_19 : decode cX7_wrongBranch 19 = .ok (.if_icmp .gt 86, 3) := by decide +kernel
theorem dX7_wrongBranch_22 : decode cX7_wrongBranch 22 = .ok (.iconst 0, 1) := by decide +kernel
theorem dX7_wrongBranch_23 : decode cX7_wrongBranch 23 = .ok (.istore_n 3, 1) := by decide +kernel
theorem dX7_wrongBranch_24 : decode cX7_wrongBranch 24 = .ok (.iload_n 3, 1) := by decide +kernel
theorem dX7_wrongBranch_25 : decode cX7_wrongBranch 25 = .ok (.iconst 1, 1) := by decide +kernel
theorem dX7_wrongBranch_26 : decode cX7_wrongBranch 26 = .ok (.iload_n 2, 1) := by decide +kernel
theorem dX7_wrongBranch_27 : decode cX7_wrongBranch 27 = .ok (.ishl, 1) := by decide +kernel
theorem dX7_wrongBranch_28 : decode cX7_wrongBranch 28 = .ok (.if_icmp .ge 71, 3) := by decide +kernel
theorem dX7_wrongBranch_31 : decode cX7_wrongBranch 31 = .ok (.iload_n 2, 1) := by decide +kernel
theorem dX7_wrongBranch_32 : decode cX7_wrongBranch 32 = .ok (.iload_n 3, 1) := by decide +kernel
theorem dX7_wrongBranch_33 : decode cX7_wrongBranch 33 = .ok (.invokestatic 196, 3) := by decide +kernel
theorem dX7_wrongBranch_36 : decode cX7_wrongBranch 36 = .ok (.istore 4, 2) := by decide +kernel
theorem dX7_wrongBranch_38 : decode cX7_wrongBranch 38 = .ok (.aload_n 0, 1) := by decide +kernel
theorem dX7_wrongBranch_39 : decode cX7_wrongBranch 39 = .ok (.aload_n 0, 1) := by decide +kernel
theorem dX7_wrongBranch_40 : decode cX7_wrongBranch 40 = .ok (.getfield 13, 3) := by decide +kernel
theorem dX7_wrongBranch_43 : decode cX7_wrongBranch 43 = .ok (.iload 4, 2) := by decide +kernel
theorem dX7_wrongBranch_45 : decode cX7_wrongBranch 45 = .ok (.iload_n 2, 1) := by decide +kernel
theorem dX7_wrongBranch_46 : decode cX7_wrongBranch 46 = .ok (.invokevirtual 192, 3) := by decide +kernel
theorem dX7_wrongBranch_49 : decode cX7_wrongBranch 49 = .ok (.ifCond .eq 44, 3) := by decide +kernel
theorem dX7_wrongBranch_52 : decode cX7_wrongBranch 52 = .ok (.aload_n 0, 1) := by decide +kernel
theorem dX7_wrongBranch_53 : decode cX7_wrongBranch 53 = .ok (.getfield 170, 3) := by decide +kernel
theorem dX7_wrongBranch_56 : decode cX7_wrongBranch 56 = .ok (.bipush (-9), 2) := by decide +kernel
theorem dX7_wrongBranch_58 : decode cX7_wrongBranch 58 = .ok (.if_icmp .eq 35, 3) := by decide +kernel
theorem dX7_wrongBranch_61 : decode cX7_wrongBranch 61 = .ok (.aload_n 0, 1) := by decide +kernel
theorem dX7_wrongBranch_62 : decode cX7_wrongBranch 62 = .ok (.getfield 164, 3) := by decide +kernel
theorem dX7_wrongBranch_65 : decode cX7_wrongBranch 65 = .ok (.ifCond .eq 28, 3) := by decide +kernel
theorem dX7_wrongBranch_68 : decode cX7_wrongBranch 68 = .ok (.aload_n 0, 1) := by decide +kernel
theorem dX7_wrongBranch_69 : decode cX7_wrongBranch 69 = .ok (.getfield 13, 3) := by decide +kernel
theorem dX7_wrongBranch_72 : decode cX7_wrongBranch 72 = .ok (.aload_n 0, 1) := by decide +kernel
theorem dX7_wrongBranch_73 : decode cX7_wrongBranch 73 = .ok (.getfield 170, 3) := by decide +kernel
theorem dX7_wrongBranch_76 : decode cX7_wrongBranch 76 = .ok (.aload_n 0, 1) := by decide +kernel
theorem dX7_wrongBranch_77 : decode cX7_wrongBranch 77 = .ok (.getfield 164, 3) := by decide +kernel
theorem dX7_wrongBranch_80 : decode cX7_wrongBranch 80 = .ok (.invokestatic 63, 3) := by decide +kernel
theorem dX7_wrongBranch_83 : decode cX7_wrongBranch 83 = .ok (.invokestatic 129, 3) := by decide +kernel
theorem dX7_wrongBranch_86 : decode cX7_wrongBranch 86 = .ok (.iaload, 1) := by decide +kernel
theorem dX7_wrongBranch_87 : decode cX7_wrongBranch 87 = .ok (.ifCond .ne 6, 3) := by decide +kernel
theorem dX7_wrongBranch_90 : decode cX7_wrongBranch 90 = .ok (.iload 4, 2) := by decide +kernel
theorem dX7_wrongBranch_92 : decode cX7_wrongBranch 92 = .ok (.ireturn, 1) := by decide +kernel
theorem dX7_wrongBranch_93 : decode cX7_wrongBranch 93 = .ok (.iinc 3 1, 3) := by decide +kernel
theorem dX7_wrongBranch_96 : decode cX7_wrongBranch 96 = .ok (.goto (-72), 3) := by decide +kernel
theorem dX7_wrongBranch_99 : decode cX7_wrongBranch 99 = .ok (.iinc 2 1, 3) := by decide +kernel
theorem dX7_wrongBranch_102 : decode cX7_wrongBranch 102 = .ok (.goto (-85), 3) := by decide +kernel
theorem dX7_wrongBranch_105 : decode cX7_wrongBranch 105 = .ok (.bipush (-9), 2) := by decide +kernel
theorem dX7_wrongBranch_107 : decode cX7_wrongBranch 107 = .ok (.ireturn, 1) := by decide +kernel
abbrev x_X7_wrongBranch : Cx := (7, cX7_wrongBranch, false, some (.int))
set_option maxRecDepth 10000 in
theorem g_X7_wrongBranch_0 {E : Ev} {d : Nat} {G : Hp} {Q : Po} {x0 : Nat} {x1 : Int32} (h : (qCI E d i_X7_in [.long (((x1).toInt64)), .long 0, .long 6] G fun v2 G1 => (if ¬ v2 = 0 then Xr E d x_X7_wrongBranch 17 [some (.ref x0), some (.int x1), some (.int ((iv 0))), none, none] [] G1 Q else Q (some (.int (iv (-2)))) G1))) : Xr E d x_X7_wrongBranch 0 [some (.ref x0), some (.int x1), none, none, none] [] G Q := by
  refine r_iload_n dX7_wrongBranch_0 rfl ?_
  refine r_i2l dX7_wrongBranch_1 ?_
  refine r_lconst (v := 0) dX7_wrongBranch_2 rfl ?_
  refine r_ldc2 dX7_wrongBranch_3 rfl ?_
  refine r_cI dX7_wrongBranch_6 rfl (invS_eq rfl (by decide) rfl rfl rfl rfl ⟨rfl, Nat.le_of_ble_eq_true rfl⟩) (qCI_imp (fun v2 G1 h => ?_) h)
  refine r_ifne (tgt := 15) dX7_wrongBranch_9 (by decide) (ite_imp (fun h => ?_) (fun h => ?_) h)
  · refine r_iconst dX7_wrongBranch_15 ?_
    refine r_istore_n dX7_wrongBranch_16 rfl ?_
    exact h
  · refine r_bipush dX7_wrongBranch_12 rfl ?_
    exact r_iret dX7_wrongBranch_14 rfl ⟨rfl, h⟩
theorem e_X7_wrongBranch {E : Ev} {d : Nat} {G : Hp} {Q : Po} {x0 : Nat} {x1 : Int32} (h : (qCI E d i_X7_in [.long (((x1).toInt64)), .long 0, .long 6] G fun v2 G1 => (if ¬ v2 = 0 then Xr E d x_X7_wrongBranch 17 [some (.ref x0), some (.int x1), some (.int ((iv 0))), none, none] [] G1 Q else Q (some (.int (iv (-2)))) G1))) : runs E (d + 1) i_X7_wrongBranch [.ref x0, .int x1] G Q := by
  rw [runs_eq (m := (yX7_wrongBranch, cX7_wrongBranch, 5, some (.int), 1, 7, false, false)) rfl (Nat.le_of_ble_eq_true rfl)]
  exact g_X7_wrongBranch_0 h
set_option maxRecDepth 10000 in
theorem g_X7_wrongBranch_17 {E : Ev} {d : Nat} {G : Hp} {Q : Po} {x0 : Nat} {x1 : Int32} {x2 : Int32} {l3 : Option Value} {l4 : Option Value} (h : (if x1 < x2 then Q (some (.int (iv (-9)))) G else Xr E d x_X7_wrongBranch 24 [some (.ref x0), some (.int x1), some (.int x2), some (.int ((iv 0))), l4] [] G Q)) : Xr E d x_X7_wrongBranch 17 [some (.ref x0), some (.int x1), some (.int x2), l3, l4] [] G Q := by
  refine r_iload_n dX7_wrongBranch_17 rfl ?_
  refine r_iload_n dX7_wrongBranch_18 rfl ?_
  refine r_cgt (tgt := 105) dX7_wrongBranch_19 (by decide) (ite_imp (fun h => ?_) (fun h => ?_) h)
  · refine r_bipush dX7_wrongBranch_105 rfl ?_
    exact r_iret dX7_wrongBranch_107 rfl ⟨rfl, h⟩
  · refine r_iconst dX7_wrongBranch_22 ?_
    refine r_istore_n dX7_wrongBranch_23 rfl ?_
    exact h
set_option maxRecDepth 10000 in
theorem g_X7_wrongBranch_24 {E : Ev} {d : Nat} {G : Hp} {Q : Po} {x0 : Nat} {x1 : Int32} {x2 : Int32} {x3 : Int32} {l4 : Option Value} (h : (if ((iv 1) <<< (x2 &&& 31)) ≤ x3 then Xr E d x_X7_wrongBranch 17 [some (.ref x0), some (.int x1), some (.int ((x2 + (iv 1)))), some (.int x3), l4] [] G Q else (qCI E d i_X7_pathOf [.int x2, .int x3] G fun v2 G1 => (qFR E G1 x0 7 2 fun v3 => (rcv E G1 x0 7 = true ∧ (qCI E d i_X7_walk [.ref x0, .ref v3, .int v2, .int x2] G1 fun v5 G4 => (if v5 = 0 then Xr E d x_X7_wrongBranch 24 [some (.ref x0), some (.int x1), some (.int x2), some (.int ((x3 + (iv 1)))), some (.int v2)] [] G4 Q else (qFI E G4 x0 7 16 fun v6 => (if v6 = (iv (-9)) then Xr E d x_X7_wrongBranch 24 [some (.ref x0), some (.int x1), some (.int x2), some (.int ((x3 + (iv 1)))), some (.int v2)] [] G4 Q else (qFI E G4 x0 7 14 fun v7 => (if v7 = 0 then Xr E d x_X7_wrongBranch 24 [some (.ref x0), some (.int x1), some (.int x2), some (.int ((x3 + (iv 1)))), some (.int v2)] [] G4 Q else (qFR E G4 x0 7 2 fun v8 => (qFI E G4 x0 7 16 fun v9 => (qFI E G4 x0 7 14 fun v10 => (qCI E d i_X7_terminal [.int v10] G4 fun v12 G11 => (qCI E d i_X7_stepAt [.int v9, .int v12] G11 fun v14 G13 => (qIA 7 E G13 v8 v14 fun v15 => (if ¬ v15 = 0 then Xr E d x_X7_wrongBranch 24 [some (.ref x0), some (.int x1), some (.int x2), some (.int ((x3 + (iv 1)))), some (.int v2)] [] G13 Q else Q (some (.int v2)) G13)))))))))))))))))) : Xr E d x_X7_wrongBranch 24 [some (.ref x0), some (.int x1), some (.int x2), some (.int x3), l4] [] G Q := by
  refine r_iload_n dX7_wrongBranch_24 rfl ?_
  refine r_iconst dX7_wrongBranch_25 ?_
  refine r_iload_n dX7_wrongBranch_26 rfl ?_
  refine r_ishl dX7_wrongBranch_27 ?_
  refine r_cge (tgt := 99) dX7_wrongBranch_28 (by decide) (ite_imp (fun h => ?_) (fun h => ?_) h)
  · refine r_iinc dX7_wrongBranch_99 rfl rfl ?_
    refine r_goto (tgt := 17) dX7_wrongBranch_102 (by decide) ?_
    exact h
  · refine r_iload_n dX7_wrongBranch_31 rfl ?_
    refine r_iload_n dX7_wrongBranch_32 rfl ?_
    refine r_cI dX7_wrongBranch_33 rfl (invS_eq rfl (by decide) rfl rfl rfl rfl ⟨rfl, Nat.le_of_ble_eq_true rfl⟩) (qCI_imp (fun v2 G1 h => ?_) h)
    refine r_istore dX7_wrongBranch_36 rfl ?_
    refine r_aload_n dX7_wrongBranch_38 rfl ?_
    refine r_aload_n dX7_wrongBranch_39 rfl ?_
    refine r_getR dX7_wrongBranch_40 rfl (qFR_imp (fun v3 h => ?_) h)
    refine r_iload dX7_wrongBranch_43 rfl ?_
    refine r_iload_n dX7_wrongBranch_45 rfl ?_
    refine r_cI dX7_wrongBranch_46 rfl (invV_eq rfl rfl rfl rfl rfl rfl ⟨rfl, Nat.le_of_ble_eq_true rfl⟩ h.1) (qCI_imp (fun v5 G4 h => ?_) h.2)
    refine r_ifeq (tgt := 93) dX7_wrongBranch_49 (by decide) (ite_imp (fun h => ?_) (fun h => ?_) h)
    · refine r_iinc dX7_wrongBranch_93 rfl rfl ?_
      refine r_goto (tgt := 24) dX7_wrongBranch_96 (by decide) ?_
      exact h
    · refine r_aload_n dX7_wrongBranch_52 rfl ?_
      refine r_getI dX7_wrongBranch_53 rfl (qFI_imp (fun v6 h => ?_) h)
      refine r_bipush dX7_wrongBranch_56 rfl ?_
      refine r_ceq (tgt := 93) dX7_wrongBranch_58 (by decide) (ite_imp (fun h => ?_) (fun h => ?_) h)
      · refine r_iinc dX7_wrongBranch_93 rfl rfl ?_
        refine r_goto (tgt := 24) dX7_wrongBranch_96 (by decide) ?_
        exact h
      · refine r_aload_n dX7_wrongBranch_61 rfl ?_
        refine r_getI dX7_wrongBranch_62 rfl (qFI_imp (fun v7 h => ?_) h)
        refine r_ifeq (tgt := 93) dX7_wrongBranch_65 (by decide) (ite_imp (fun h => ?_) (fun h => ?_) h)
        · refine r_iinc dX7_wrongBranch_93 rfl rfl ?_
          refine r_goto (tgt := 24) dX7_wrongBranch_96 (by decide) ?_
          exact h
        · refine r_aload_n dX7_wrongBranch_68 rfl ?_
          refine r_getR dX7_wrongBranch_69 rfl (qFR_imp (fun v8 h => ?_) h)
          refine r_aload_n dX7_wrongBranch_72 rfl ?_
          refine r_getI dX7_wrongBranch_73 rfl (qFI_imp (fun v9 h => ?_) h)
          refine r_aload_n dX7_wrongBranch_76 rfl ?_
          refine r_getI dX7_wrongBranch_77 rfl (qFI_imp (fun v10 h => ?_) h)
          refine r_cI dX7_wrongBranch_80 rfl (invS_eq rfl (by decide) rfl rfl rfl rfl ⟨rfl, Nat.le_of_ble_eq_true rfl⟩) (qCI_imp (fun v12 G11 h => ?_) h)
          refine r_cI dX7_wrongBranch_83 rfl (invS_eq rfl (by decide) rfl rfl rfl rfl ⟨rfl, Nat.le_of_ble_eq_true rfl⟩) (qCI_imp (fun v14 G13 h => ?_) h)
          refine r_iald dX7_wrongBranch_86 (qIA_imp (fun v15 h => ?_) h)
          refine r_ifne (tgt := 93) dX7_wrongBranch_87 (by decide) (ite_imp (fun h => ?_) (fun h => ?_) h)
          · refine r_iinc dX7_wrongBranch_93 rfl rfl ?_
            refine r_goto (tgt := 24) dX7_wrongBranch_96 (by decide) ?_
            exact h
          · refine r_iload dX7_wrongBranch_90 rfl ?_
            exact r_iret dX7_wrongBranch_92 rfl ⟨rfl, h⟩
theorem dX7_typingAt_0 : decode cX7_typingAt 0 = .ok (.iload_n 0, 1) := by decide +kernel
theorem dX7_typingAt_1 : decode cX7_typingAt 1 = .ok (.ifCond .ne 7, 3) := by decide +kernel
theorem dX7_typingAt_4 : decode cX7_typingAt 4 = .ok (.iload_n 1, 1) := by decide +kernel
theorem dX7_typingAt_5 : decode cX7_typingAt 5 = .ok (.goto 50, 3) := by decide +kernel
theorem dX7_typingAt_8 : decode cX7_typingAt 8 = .ok (.iload_n 0, 1) := by decide +kernel
theorem dX7_typingAt_9 : decode cX7_typingAt 9 = .ok (.iconst 1, 1) := by decide +kernel
theorem dX7_typingAt_10 : decode cX7_typingAt 10 = .ok (.if_icmp .ne 14, 3) := by decide +kernel
theorem dX7_typingAt_13 : decode cX7_typingAt 13 = .ok (.iconst 3, 1) := by decide +kernel
theorem dX7_typingAt_14 : decode cX7_typingAt 14 = .ok (.bipush 8, 2) := by decide +kernel
theorem dX7_typingAt_16 : decode cX7_typingAt 16 = .ok (.iload_n 1, 1) := by decide +kernel
theorem dX7_typingAt_17 : decode cX7_typingAt 17 = .ok (.imul, 1) := by decide +kernel
theorem dX7_typingAt_18 : decode cX7_typingAt 18 = .ok (.iadd, 1) := by decide +kernel
theorem dX7_typingAt_19 : decode cX7_typingAt 19 = .ok (.iload_n 2, 1) := by decide +kernel
theorem dX7_typingAt_20 : decode cX7_typingAt 20 = .ok (.iadd, 1) := by decide +kernel
theorem dX7_typingAt_21 : decode cX7_typingAt 21 = .ok (.goto 34, 3) := by decide +kernel
theorem dX7_typingAt_24 : decode cX7_typingAt 24 = .ok (.iload_n 0, 1) := by decide +kernel
theorem dX7_typingAt_25 : decode cX7_typingAt 25 = .ok (.iconst 2, 1) := by decide +kernel
theorem dX7_typingAt_26 : decode cX7_typingAt 26 = .ok (.if_icmp .ne 15, 3) := by decide +kernel
theorem dX7_typingAt_29 : decode cX7_typingAt 29 = .ok (.bipush 27, 2) := by decide +kernel
theorem dX7_typingAt_31 : decode cX7_typingAt 31 = .ok (.bipush 8, 2) := by decide +kernel
theorem dX7_typingAt_33 : decode cX7_typingAt 33 = .ok (.iload_n 1, 1) := by decide +kernel
theorem dX7_typingAt_34 : decode cX7_typingAt 34 = .ok (.imul, 1) := by decide +kernel
theorem dX7_typingAt_35 : decode cX7_typingAt 35 = .ok (.iadd, 1) := by decide +kernel
theorem dX7_typingAt_36 : decode cX7_typingAt 36 = .ok (.iload_n 2, 1) := by decide +kernel
theorem dX7_typingAt_37 : decode cX7_typingAt 37 = .ok (.iadd, 1) := by decide +kernel
theorem dX7_typingAt_38 : decode cX7_typingAt 38 = .ok (.goto 17, 3) := by decide +kernel
theorem dX7_typingAt_41 : decode cX7_typingAt 41 = .ok (.bipush 51, 2) := by decide +kernel
theorem dX7_typingAt_43 : decode cX7_typingAt 43 = .ok (.bipush 64, 2) := by decide +kernel
theorem dX7_typingAt_45 : decode cX7_typingAt 45 = .ok (.iload_n 1, 1) := by decide +kernel
theorem dX7_typingAt_46 : decode cX7_typingAt 46 = .ok (.imul, 1) := by decide +kernel
theorem dX7_typingAt_47 : decode cX7_typingAt 47 = .ok (.iadd, 1) := by decide +kernel
theorem dX7_typingAt_48 : decode cX7_typingAt 48 = .ok (.bipush 8, 2) := by decide +kernel
theorem dX7_typingAt_50 : decode cX7_typingAt 50 = .ok (.iload_n 2, 1) := by decide +kernel
theorem dX7_typingAt_51 : decode cX7_typingAt 51 = .ok (.imul, 1) := by decide +kernel
theorem dX7_typingAt_52 : decode cX7_typingAt 52 = .ok (.iadd, 1) := by decide +kernel
theorem dX7_typingAt_53 : decode cX7_typingAt 53 = .ok (.iload_n 3, 1) := by decide +kernel
theorem dX7_typingAt_54 : decode cX7_typingAt 54 = .ok (.iadd, 1) := by decide +kernel
theorem dX7_typingAt_55 : decode cX7_typingAt 55 = .ok (.ireturn, 1) := by decide +kernel
abbrev x_X7_typingAt : Cx := (7, cX7_typingAt, false, some (.int))
set_option maxRecDepth 10000 in
theorem g_X7_typingAt_0 {E : Ev} {d : Nat} {G : Hp} {Q : Po} {x0 : Int32} {x1 : Int32} {x2 : Int32} {x3 : Int32} (h : (if ¬ x0 = 0 then (if ¬ x0 = (iv 1) then (if ¬ x0 = (iv 2) then Q (some (.int ((((iv 51) + ((iv 64) * x1)) + ((iv 8) * x2)) + x3))) G else Q (some (.int (((iv 27) + ((iv 8) * x1)) + x2))) G) else Q (some (.int (((iv 3) + ((iv 8) * x1)) + x2))) G) else Q (some (.int x1)) G)) : Xr E d x_X7_typingAt 0 [some (.int x0), some (.int x1), some (.int x2), some (.int x3)] [] G Q := by
  refine r_iload_n dX7_typingAt_0 rfl ?_
  refine r_ifne (tgt := 8) dX7_typingAt_1 (by decide) (ite_imp (fun h => ?_) (fun h => ?_) h)
  · refine r_iload_n dX7_typingAt_8 rfl ?_
    refine r_iconst dX7_typingAt_9 ?_
    refine r_cne (tgt := 24) dX7_typingAt_10 (by decide) (ite_imp (fun h => ?_) (fun h => ?_) h)
    · refine r_iload_n dX7_typingAt_24 rfl ?_
      refine r_iconst dX7_typingAt_25 ?_
      refine r_cne (tgt := 41) dX7_typingAt_26 (by decide) (ite_imp (fun h => ?_) (fun h => ?_) h)
      · refine r_bipush dX7_typingAt_41 rfl ?_
        refine r_bipush dX7_typingAt_43 rfl ?_
        refine r_iload_n dX7_typingAt_45 rfl ?_
        refine r_imul dX7_typingAt_46 ?_
        refine r_iadd dX7_typingAt_47 ?_
        refine r_bipush dX7_typingAt_48 rfl ?_
        refine r_iload_n dX7_typingAt_50 rfl ?_
        refine r_imul dX7_typingAt_51 ?_
        refine r_iadd dX7_typingAt_52 ?_
        refine r_iload_n dX7_typingAt_53 rfl ?_
        refine r_iadd dX7_typingAt_54 ?_
        exact r_iret dX7_typingAt_55 rfl ⟨rfl, h⟩
      · refine r_bipush dX7_typingAt_29 rfl ?_
        refine r_bipush dX7_typingAt_31 rfl ?_
        refine r_iload_n dX7_typingAt_33 rfl ?_
        refine r_imul dX7_typingAt_34 ?_
        refine r_iadd dX7_typingAt_35 ?_
        refine r_iload_n dX7_typingAt_36 rfl ?_
        refine r_iadd dX7_typingAt_37 ?_
        refine r_goto (tgt := 55) dX7_typingAt_38 (by decide) ?_
        exact r_iret dX7_typingAt_55 rfl ⟨rfl, h⟩
    · refine r_iconst dX7_typingAt_13 ?_
      refine r_bipush dX7_typingAt_14 rfl ?_
      refine r_iload_n dX7_typingAt_16 rfl ?_
      refine r_imul dX7_typingAt_17 ?_
      refine r_iadd dX7_typingAt_18 ?_
      refine r_iload_n dX7_typingAt_19 rfl ?_
      refine r_iadd dX7_typingAt_20 ?_
      refine r_goto (tgt := 55) dX7_typingAt_21 (by decide) ?_
      exact r_iret dX7_typingAt_55 rfl ⟨rfl, h⟩
  · refine r_iload_n dX7_typingAt_4 rfl ?_
    refine r_goto (tgt := 55) dX7_typingAt_5 (by decide) ?_
    exact r_iret dX7_typingAt_55 rfl ⟨rfl, h⟩
theorem e_X7_typingAt {E : Ev} {d : Nat} {G : Hp} {Q : Po} {x0 : Int32} {x1 : Int32} {x2 : Int32} {x3 : Int32} (h : (if ¬ x0 = 0 then (if ¬ x0 = (iv 1) then (if ¬ x0 = (iv 2) then Q (some (.int ((((iv 51) + ((iv 64) * x1)) + ((iv 8) * x2)) + x3))) G else Q (some (.int (((iv 27) + ((iv 8) * x1)) + x2))) G) else Q (some (.int (((iv 3) + ((iv 8) * x1)) + x2))) G) else Q (some (.int x1)) G)) : runs E (d + 1) i_X7_typingAt [.int x0, .int x1, .int x2, .int x3] G Q := by
  rw [runs_eq (m := (yX7_typingAt, cX7_typingAt, 4, some (.int), 4, 7, false, true)) rfl (Nat.le_of_ble_eq_true rfl)]
  exact g_X7_typingAt_0 h
theorem dX7_appliedTypes_0 : decode cX7_appliedTypes 0 = .ok (.iconst 0, 1) := by decide +kernel
theorem dX7_appliedTypes_1 : decode cX7_appliedTypes 1 = .ok (.istore 4, 2) := by decide +kernel
theorem dX7_appliedTypes_3 : decode cX7_appliedTypes 3 = .ok (.iconst 0, 1) := by decide +kernel
theorem dX7_appliedTypes_4 : decode cX7_appliedTypes 4 = .ok (.istore 5, 2) := by decide +kernel
theorem dX7_appliedTypes_6 : decode cX7_appliedTypes 6 = .ok (.iload 5, 2) := by decide +kernel
theorem dX7_appliedTypes_8 : decode cX7_appliedTypes 8 = .ok (.iconst 3, 1) := by decide +kernel
theorem dX7_appliedTypes_9 : decode cX7_appliedTypes 9 = .ok (.if_icmp .ge 125, 3) := by decide +kernel
theorem dX7_appliedTypes_12 : decode cX7_appliedTypes 12 = .ok (.iconst 0, 1) := by decide +kernel
theorem dX7_appliedTypes_13 : decode cX7_appliedTypes 13 = .ok (.istore 6, 2) := by decide +kernel
theorem dX7_appliedTypes_15 : decode cX7_appliedTypes 15 = .ok (.iload 6, 2) := by decide +kernel
theorem dX7_appliedTypes_17 : decode cX7_appliedTypes 17 = .ok (.iload_n 1, 1) := by decide +kernel
theorem dX7_appliedTypes_18 : decode cX7_appliedTypes 18 = .ok (.invokestatic 73, 3) := by decide +kernel
theorem dX7_appliedTypes_21 : decode cX7_appliedTypes 21 = .ok (.ifCond .le 8, 3) := by decide +kernel
theorem dX7_appliedTypes_24 : decode cX7_appliedTypes 24 = .ok (.bipush 8, 2) := by decide +kernel
theorem dX7_appliedTypes_26 : decode cX7_appliedTypes 26 = .ok (.goto 4, 3) := by decide +kernel
theorem dX7_appliedTypes_29 : decode cX7_appliedTypes 29 = .ok (.iconst 1, 1) := by decide +kernel
theorem dX7_appliedTypes_30 : decode cX7_appliedTypes 30 = .ok (.if_icmp .ge 98, 3) := by decide +kernel
theorem dX7_appliedTypes_33 : decode cX7_appliedTypes 33 = .ok (.iconst 0, 1) := by decide +kernel
theorem dX7_appliedTypes_34 : decode cX7_appliedTypes 34 = .ok (.istore 7, 2) := by decide +kernel
theorem dX7_appliedTypes_36 : decode cX7_appliedTypes 36 = .ok (.iload 7, 2) := by decide +kernel
theorem dX7_appliedTypes_38 : decode cX7_appliedTypes 38 = .ok (.iload_n 1, 1) := by decide +kernel
theorem dX7_appliedTypes_39 : decode cX7_appliedTypes 39 = .ok (.invokestatic 73, 3) := by decide +kernel
theorem dX7_appliedTypes_42 : decode cX7_appliedTypes 42 = .ok (.iconst 1, 1) := by decide +kernel
theorem dX7_appliedTypes_43 : decode cX7_appliedTypes 43 = .ok (.if_icmp .le 8, 3) := by decide +kernel
theorem dX7_appliedTypes_46 : decode cX7_appliedTypes 46 = .ok (.bipush 8, 2) := by decide +kernel
theorem dX7_appliedTypes_48 : decode cX7_appliedTypes 48 = .ok (.goto 4, 3) := by decide +kernel
theorem dX7_appliedTypes_51 : decode cX7_appliedTypes 51 = .ok (.iconst 1, 1) := by decide +kernel
theorem dX7_appliedTypes_52 : decode cX7_appliedTypes 52 = .ok (.if_icmp .ge 70, 3) := by decide +kernel
theorem dX7_appliedTypes_55 : decode cX7_appliedTypes 55 = .ok (.aload_n 0, 1) := by decide +kernel
theorem dX7_appliedTypes_56 : decode cX7_appliedTypes 56 = .ok (.getfield 38, 3) := by decide +kernel
theorem dX7_appliedTypes_59 : decode cX7_appliedTypes 59 = .ok (.iload_n 1, 1) := by decide +kernel
theorem dX7_appliedTypes_60 : decode cX7_appliedTypes 60 = .ok (.iload 5, 2) := by decide +kernel
theorem dX7_appliedTypes_62 : decode cX7_appliedTypes 62 = .ok (.iload 6, 2) := by decide +kernel
theorem dX7_appliedTypes_64 : decode cX7_appliedTypes 64 = .ok (.iload 7, 2) := by decide +kernel
theorem dX7_appliedTypes_66 : decode cX7_appliedTypes 66 = .ok (.invokestatic 204, 3) := by decide +kernel
theorem dX7_appliedTypes_69 : decode cX7_appliedTypes 69 = .ok (.baload, 1) := by decide +kernel
theorem dX7_appliedTypes_70 : decode cX7_appliedTypes 70 = .ok (.ifCond .eq 25, 3) := by decide +kernel
theorem dX7_appliedTypes_73 : decode cX7_appliedTypes 73 = .ok (.iload 6, 2) := by decide +kernel
theorem dX7_appliedTypes_75 : decode cX7_appliedTypes 75 = .ok (.iload_n 2, 1) := by decide +kernel
theorem dX7_appliedTypes_76 : decode cX7_appliedTypes 76 = .ok (.iconst (-1), 1) := by decide +kernel
theorem dX7_appliedTypes_77 : decode cX7_appliedTypes 77 = .ok (.ixor, 1) := by decide +kernel
theorem dX7_appliedTypes_78 : decode cX7_appliedTypes 78 = .ok (.iand, 1) := by decide +kernel
theorem dX7_appliedTypes_79 : decode cX7_appliedTypes 79 = .ok (.ifCond .ne 16, 3) := by decide +kernel
theorem dX7_appliedTypes_82 : decode cX7_appliedTypes 82 = .ok (.iload 7, 2) := by decide +kernel
theorem dX7_appliedTypes_84 : decode cX7_appliedTypes 84 = .ok (.iload_n 3, 1) := by decide +kernel
theorem dX7_appliedTypes_85 : decode cX7_appliedTypes 85 = .ok (.iconst (-1), 1) := by decide +kernel
theorem dX7_appliedTypes_86 : decode cX7_appliedTypes 86 = .ok (.ixor, 1) := by decide +kernel
theorem dX7_appliedTypes_87 : decode cX7_appliedTypes 87 = .ok (.iand, 1) := by decide +kernel
theorem dX7_appliedTypes_88 : decode cX7_appliedTypes 88 = .ok (.ifCond .ne 7, 3) := by decide +kernel
theorem dX7_appliedTypes_91 : decode cX7_appliedTypes 91 = .ok (.iconst 1, 1) := by decide +kernel
theorem dX7_appliedTypes_92 : decode cX7_appliedTypes 92 = .ok (.goto 4, 3) := by decide +kernel
theorem dX7_appliedTypes_95 : decode cX7_appliedTypes 95 = .ok (.iconst 0, 1) := by decide +kernel
theorem dX7_appliedTypes_96 : decode cX7_appliedTypes 96 = .ok (.istore 8, 2) := by decide +kernel
theorem dX7_appliedTypes_98 : decode cX7_appliedTypes 98 = .ok (.iload 4, 2) := by decide +kernel
theorem dX7_appliedTypes_100 : decode cX7_appliedTypes 100 = .ok (.iload 8, 2) := by decide +kernel
theorem dX7_appliedTypes_102 : decode cX7_appliedTypes 102 = .ok (.ifCond .eq 10, 3) := by decide +kernel
theorem dX7_appliedTypes_105 : decode cX7_appliedTypes 105 = .ok (.iconst 1, 1) := by decide +kernel
theorem dX7_appliedTypes_106 : decode cX7_appliedTypes 106 = .ok (.iload 5, 2) := by decide +kernel
theorem dX7_appliedTypes_108 : decode cX7_appliedTypes 108 = .ok (.ishl, 1) := by decide +kernel
theorem dX7_appliedTypes_109 : decode cX7_appliedTypes 109 = .ok (.goto 4, 3) := by decide +kernel
theorem dX7_appliedTypes_112 : decode cX7_appliedTypes 112 = .ok (.iconst 0, 1) := by decide +kernel
theorem dX7_appliedTypes_113 : decode cX7_appliedTypes 113 = .ok (.ior, 1) := by decide +kernel
theorem dX7_appliedTypes_114 : decode cX7_appliedTypes 114 = .ok (.istore 4, 2) := by decide +kernel
theorem dX7_appliedTypes_116 : decode cX7_appliedTypes 116 = .ok (.iinc 7 1, 3) := by decide +kernel
theorem dX7_appliedTypes_119 : decode cX7_appliedTypes 119 = .ok (.goto (-83), 3) := by decide +kernel
theorem dX7_appliedTypes_122 : decode cX7_appliedTypes 122 = .ok (.iinc 6 1, 3) := by decide +kernel
theorem dX7_appliedTypes_125 : decode cX7_appliedTypes 125 = .ok (.goto (-110), 3) := by decide +kernel
theorem dX7_appliedTypes_128 : decode cX7_appliedTypes 128 = .ok (.iinc 5 1, 3) := by decide +kernel
theorem dX7_appliedTypes_131 : decode cX7_appliedTypes 131 = .ok (.goto (-125), 3) := by decide +kernel
theorem dX7_appliedTypes_134 : decode cX7_appliedTypes 134 = .ok (.iload 4, 2) := by decide +kernel
theorem dX7_appliedTypes_136 : decode cX7_appliedTypes 136 = .ok (.ireturn, 1) := by decide +kernel
abbrev x_X7_appliedTypes : Cx := (7, cX7_appliedTypes, false, some (.int))
set_option maxRecDepth 10000 in
theorem g_X7_appliedTypes_0 {E : Ev} {d : Nat} {G : Hp} {Q : Po} {x0 : Nat} {x1 : Int32} {x2 : Int32} {x3 : Int32} (h : Xr E d x_X7_appliedTypes 6 [some (.ref x0), some (.int x1), some (.int x2), some (.int x3), some (.int ((iv 0))), some (.int ((iv 0))), none, none, none] [] G Q) : Xr E d x_X7_appliedTypes 0 [some (.ref x0), some (.int x1), some (.int x2), some (.int x3), none, none, none, none, none] [] G Q := by
  refine r_iconst dX7_appliedTypes_0 ?_
  refine r_istore dX7_appliedTypes_1 rfl ?_
  refine r_iconst dX7_appliedTypes_3 ?_
  refine r_istore dX7_appliedTypes_4 rfl ?_
  exact h
theorem e_X7_appliedTypes {E : Ev} {d : Nat} {G : Hp} {Q : Po} {x0 : Nat} {x1 : Int32} {x2 : Int32} {x3 : Int32} (h : Xr E d x_X7_appliedTypes 6 [some (.ref x0), some (.int x1), some (.int x2), some (.int x3), some (.int ((iv 0))), some (.int ((iv 0))), none, none, none] [] G Q) : runs E (d + 1) i_X7_appliedTypes [.ref x0, .int x1, .int x2, .int x3] G Q := by
  rw [runs_eq (m := (yX7_appliedTypes, cX7_appliedTypes, 9, some (.int), 3, 7, false, false)) rfl (Nat.le_of_ble_eq_true rfl)]
  exact g_X7_appliedTypes_0 h
set_option maxRecDepth 10000 in
theorem g_X7_appliedTypes_6 {E : Ev} {d : Nat} {G : Hp} {Q : Po} {x0 : Nat} {x1 : Int32} {x2 : Int32} {x3 : Int32} {x4 : Int32} {x5 : Int32} {l6 : Option Value} {l7 : Option Value} {l8 : Option Value} (h : (if (iv 3) ≤ x5 then Q (some (.int x4)) G else Xr E d x_X7_appliedTypes 15 [some (.ref x0), some (.int x1), some (.int x2), some (.int x3), some (.int x4), some (.int x5), some (.int ((iv 0))), l7, l8] [] G Q)) : Xr E d x_X7_appliedTypes 6 [some (.ref x0), some (.int x1), some (.int x2), some (.int x3), some (.int x4), some (.int x5), l6, l7, l8] [] G Q := by
  refine r_iload dX7_appliedTypes_6 rfl ?_
  refine r_iconst dX7_appliedTypes_8 ?_
  refine r_cge (tgt := 134) dX7_appliedTypes_9 (by decide) (ite_imp (fun h => ?_) (fun h => ?_) h)
  · refine r_iload dX7_appliedTypes_134 rfl ?_
    exact r_iret dX7_appliedTypes_136 rfl ⟨rfl, h⟩
  · refine r_iconst dX7_appliedTypes_12 ?_
    refine r_istore dX7_appliedTypes_13 rfl ?_
    exact h
set_option maxRecDepth 10000 in
theorem g_X7_appliedTypes_15 {E : Ev} {d : Nat} {G : Hp} {Q : Po} {x0 : Nat} {x1 : Int32} {x2 : Int32} {x3 : Int32} {x4 : Int32} {x5 : Int32} {x6 : Int32} {l7 : Option Value} {l8 : Option Value} (h : (qCI E d i_X7_parameters [.int x1] G fun v2 G1 => (if v2 ≤ 0 then (if (iv 1) ≤ x6 then Xr E d x_X7_appliedTypes 6 [some (.ref x0), some (.int x1), some (.int x2), some (.int x3), some (.int x4), some (.int ((x5 + (iv 1)))), some (.int x6), l7, l8] [] G1 Q else Xr E d x_X7_appliedTypes 36 [some (.ref x0), some (.int x1), some (.int x2), some (.int x3), some (.int x4), some (.int x5), some (.int x6), some (.int ((iv 0))), l8] [] G1 Q) else (if (iv 8) ≤ x6 then Xr E d x_X7_appliedTypes 6 [some (.ref x0), some (.int x1), some (.int x2), some (.int x3), some (.int x4), some (.int ((x5 + (iv 1)))), some (.int x6), l7, l8] [] G1 Q else Xr E d x_X7_appliedTypes 36 [some (.ref x0), some (.int x1), some (.int x2), some (.int x3), some (.int x4), some (.int x5), some (.int x6), some (.int ((iv 0))), l8] [] G1 Q)))) : Xr E d x_X7_appliedTypes 15 [some (.ref x0), some (.int x1), some (.int x2), some (.int x3), some (.int x4), some (.int x5), some (.int x6), l7, l8] [] G Q := by
  refine r_iload dX7_appliedTypes_15 rfl ?_
  refine r_iload_n dX7_appliedTypes_17 rfl ?_
  refine r_cI dX7_appliedTypes_18 rfl (invS_eq rfl (by decide) rfl rfl rfl rfl ⟨rfl, Nat.le_of_ble_eq_true rfl⟩) (qCI_imp (fun v2 G1 h => ?_) h)
  refine r_ifle (tgt := 29) dX7_appliedTypes_21 (by decide) (ite_imp (fun h => ?_) (fun h => ?_) h)
  · refine r_iconst dX7_appliedTypes_29 ?_
    refine r_cge (tgt := 128) dX7_appliedTypes_30 (by decide) (ite_imp (fun h => ?_) (fun h => ?_) h)
    · refine r_iinc dX7_appliedTypes_128 rfl rfl ?_
      refine r_goto (tgt := 6) dX7_appliedTypes_131 (by decide) ?_
      exact h
    · refine r_iconst dX7_appliedTypes_33 ?_
      refine r_istore dX7_appliedTypes_34 rfl ?_
      exact h
  · refine r_bipush dX7_appliedTypes_24 rfl ?_
    refine r_goto (tgt := 30) dX7_appliedTypes_26 (by decide) ?_
    refine r_cge (tgt := 128) dX7_appliedTypes_30 (by decide) (ite_imp (fun h => ?_) (fun h => ?_) h)
    · refine r_iinc dX7_appliedTypes_128 rfl rfl ?_
      refine r_goto (tgt := 6) dX7_appliedTypes_131 (by decide) ?_
      exact h
    · refine r_iconst dX7_appliedTypes_33 ?_
      refine r_istore dX7_appliedTypes_34 rfl ?_
      exact h
set_option maxRecDepth 10000 in
theorem g_X7_appliedTypes_36 {E : Ev} {d : Nat} {G : Hp} {Q : Po} {x0 : Nat} {x1 : Int32} {x2 : Int32} {x3 : Int32} {x4 : Int32} {x5 : Int32} {x6 : Int32} {x7 : Int32} {l8 : Option Value} (h : (qCI E d i_X7_parameters [.int x1] G fun v2 G1 => (if v2 ≤ (iv 1) then (if (iv 1) ≤ x7 then Xr E d x_X7_appliedTypes 15 [some (.ref x0), some (.int x1), some (.int x2), some (.int x3), some (.int x4), some (.int x5), some (.int ((x6 + (iv 1)))), some (.int x7), l8] [] G1 Q else (qFR E G1 x0 7 17 fun v3 => (qCI E d i_X7_typingAt [.int x1, .int x5, .int x6, .int x7] G1 fun v5 G4 => (qBA E G4 v3 v5 fun v6 => (if v6 = 0 then Xr E d x_X7_appliedTypes 95 [some (.ref x0), some (.int x1), some (.int x2), some (.int x3), some (.int x4), some (.int x5), some (.int x6), some (.int x7), l8] [] G4 Q else (if ¬ (x6 &&& (x2 ^^^ (iv (-1)))) = 0 then Xr E d x_X7_appliedTypes 95 [some (.ref x0), some (.int x1), some (.int x2), some (.int x3), some (.int x4), some (.int x5), some (.int x6), some (.int x7), l8] [] G4 Q else (if ¬ (x7 &&& (x3 ^^^ (iv (-1)))) = 0 then Xr E d x_X7_appliedTypes 95 [some (.ref x0), some (.int x1), some (.int x2), some (.int x3), some (.int x4), some (.int x5), some (.int x6), some (.int x7), l8] [] G4 Q else (if (iv 1) = 0 then Xr E d x_X7_appliedTypes 36 [some (.ref x0), some (.int x1), some (.int x2), some (.int x3), some (.int ((x4 ||| (iv 0)))), some (.int x5), some (.int x6), some (.int ((x7 + (iv 1)))), some (.int ((iv 1)))] [] G4 Q else Xr E d x_X7_appliedTypes 36 [some (.ref x0), some (.int x1), some (.int x2), some (.int x3), some (.int ((x4 ||| ((iv 1) <<< (x5 &&& 31))))), some (.int x5), some (.int x6), some (.int ((x7 + (iv 1)))), some (.int ((iv 1)))] [] G4 Q)))))))) else (if (iv 8) ≤ x7 then Xr E d x_X7_appliedTypes 15 [some (.ref x0), some (.int x1), some (.int x2), some (.int x3), some (.int x4), some (.int x5), some (.int ((x6 + (iv 1)))), some (.int x7), l8] [] G1 Q else (qFR E G1 x0 7 17 fun v7 => (qCI E d i_X7_typingAt [.int x1, .int x5, .int x6, .int x7] G1 fun v9 G8 => (qBA E G8 v7 v9 fun v10 => (if v10 = 0 then Xr E d x_X7_appliedTypes 95 [some (.ref x0), some (.int x1), some (.int x2), some (.int x3), some (.int x4), some (.int x5), some (.int x6), some (.int x7), l8] [] G8 Q else (if ¬ (x6 &&& (x2 ^^^ (iv (-1)))) = 0 then Xr E d x_X7_appliedTypes 95 [some (.ref x0), some (.int x1), some (.int x2), some (.int x3), some (.int x4), some (.int x5), some (.int x6), some (.int x7), l8] [] G8 Q else (if ¬ (x7 &&& (x3 ^^^ (iv (-1)))) = 0 then Xr E d x_X7_appliedTypes 95 [some (.ref x0), some (.int x1), some (.int x2), some (.int x3), some (.int x4), some (.int x5), some (.int x6), some (.int x7), l8] [] G8 Q else (if (iv 1) = 0 then Xr E d x_X7_appliedTypes 36 [some (.ref x0), some (.int x1), some (.int x2), some (.int x3), some (.int ((x4 ||| (iv 0)))), some (.int x5), some (.int x6), some (.int ((x7 + (iv 1)))), some (.int ((iv 1)))] [] G8 Q else Xr E d x_X7_appliedTypes 36 [some (.ref x0), some (.int x1), some (.int x2), some (.int x3), some (.int ((x4 ||| ((iv 1) <<< (x5 &&& 31))))), some (.int x5), some (.int x6), some (.int ((x7 + (iv 1)))), some (.int ((iv 1)))] [] G8 Q))))))))))) : Xr E d x_X7_appliedTypes 36 [some (.ref x0), some (.int x1), some (.int x2), some (.int x3), some (.int x4), some (.int x5), some (.int x6), some (.int x7), l8] [] G Q := by
  refine r_iload dX7_appliedTypes_36 rfl ?_
  refine r_iload_n dX7_appliedTypes_38 rfl ?_
  refine r_cI dX7_appliedTypes_39 rfl (invS_eq rfl (by decide) rfl rfl rfl rfl ⟨rfl, Nat.le_of_ble_eq_true rfl⟩) (qCI_imp (fun v2 G1 h => ?_) h)
  refine r_iconst dX7_appliedTypes_42 ?_
  refine r_cle (tgt := 51) dX7_appliedTypes_43 (by decide) (ite_imp (fun h => ?_) (fun h => ?_) h)
  · refine r_iconst dX7_appliedTypes_51 ?_
    refine r_cge (tgt := 122) dX7_appliedTypes_52 (by decide) (ite_imp (fun h => ?_) (fun h => ?_) h)
    · refine r_iinc dX7_appliedTypes_122 rfl rfl ?_
      refine r_goto (tgt := 15) dX7_appliedTypes_125 (by decide) ?_
      exact h
    · refine r_aload_n dX7_appliedTypes_55 rfl ?_
      refine r_getR dX7_appliedTypes_56 rfl (qFR_imp (fun v3 h => ?_) h)
      refine r_iload_n dX7_appliedTypes_59 rfl ?_
      refine r_iload dX7_appliedTypes_60 rfl ?_
      refine r_iload dX7_appliedTypes_62 rfl ?_
      refine r_iload dX7_appliedTypes_64 rfl ?_
      refine r_cI dX7_appliedTypes_66 rfl (invS_eq rfl (by decide) rfl rfl rfl rfl ⟨rfl, Nat.le_of_ble_eq_true rfl⟩) (qCI_imp (fun v5 G4 h => ?_) h)
      refine r_bald dX7_appliedTypes_69 (qBA_imp (fun v6 h => ?_) h)
      refine r_ifeq (tgt := 95) dX7_appliedTypes_70 (by decide) (ite_imp (fun h => ?_) (fun h => ?_) h)
      · exact h
      · refine r_iload dX7_appliedTypes_73 rfl ?_
        refine r_iload_n dX7_appliedTypes_75 rfl ?_
        refine r_iconst dX7_appliedTypes_76 ?_
        refine r_ixor dX7_appliedTypes_77 ?_
        refine r_iand dX7_appliedTypes_78 ?_
        refine r_ifne (tgt := 95) dX7_appliedTypes_79 (by decide) (ite_imp (fun h => ?_) (fun h => ?_) h)
        · exact h
        · refine r_iload dX7_appliedTypes_82 rfl ?_
          refine r_iload_n dX7_appliedTypes_84 rfl ?_
          refine r_iconst dX7_appliedTypes_85 ?_
          refine r_ixor dX7_appliedTypes_86 ?_
          refine r_iand dX7_appliedTypes_87 ?_
          refine r_ifne (tgt := 95) dX7_appliedTypes_88 (by decide) (ite_imp (fun h => ?_) (fun h => ?_) h)
          · exact h
          · refine r_iconst dX7_appliedTypes_91 ?_
            refine r_goto (tgt := 96) dX7_appliedTypes_92 (by decide) ?_
            refine r_istore dX7_appliedTypes_96 rfl ?_
            refine r_iload dX7_appliedTypes_98 rfl ?_
            refine r_iload dX7_appliedTypes_100 rfl ?_
            refine r_ifeq (tgt := 112) dX7_appliedTypes_102 (by decide) (ite_imp (fun h => ?_) (fun h => ?_) h)
            · refine r_iconst dX7_appliedTypes_112 ?_
              refine r_ior dX7_appliedTypes_113 ?_
              refine r_istore dX7_appliedTypes_114 rfl ?_
              refine r_iinc dX7_appliedTypes_116 rfl rfl ?_
              refine r_goto (tgt := 36) dX7_appliedTypes_119 (by decide) ?_
              exact h
            · refine r_iconst dX7_appliedTypes_105 ?_
              refine r_iload dX7_appliedTypes_106 rfl ?_
              refine r_ishl dX7_appliedTypes_108 ?_
              refine r_goto (tgt := 113) dX7_appliedTypes_109 (by decide) ?_
              refine r_ior dX7_appliedTypes_113 ?_
              refine r_istore dX7_appliedTypes_114 rfl ?_
              refine r_iinc dX7_appliedTypes_116 rfl rfl ?_
              refine r_goto (tgt := 36) dX7_appliedTypes_119 (by decide) ?_
              exact h
  · refine r_bipush dX7_appliedTypes_46 rfl ?_
    refine r_goto (tgt := 52) dX7_appliedTypes_48 (by decide) ?_
    refine r_cge (tgt := 122) dX7_appliedTypes_52 (by decide) (ite_imp (fun h => ?_) (fun h => ?_) h)
    · refine r_iinc dX7_appliedTypes_122 rfl rfl ?_
      refine r_goto (tgt := 15) dX7_appliedTypes_125 (by decide) ?_
      exact h
    · refine r_aload_n dX7_appliedTypes_55 rfl ?_
      refine r_getR dX7_appliedTypes_56 rfl (qFR_imp (fun v7 h => ?_) h)
      refine r_iload_n dX7_appliedTypes_59 rfl ?_
      refine r_iload dX7_appliedTypes_60 rfl ?_
      refine r_iload dX7_appliedTypes_62 rfl ?_
      refine r_iload dX7_appliedTypes_64 rfl ?_
      refine r_cI dX7_appliedTypes_66 rfl (invS_eq rfl (by decide) rfl rfl rfl rfl ⟨rfl, Nat.le_of_ble_eq_true rfl⟩) (qCI_imp (fun v9 G8 h => ?_) h)
      refine r_bald dX7_appliedTypes_69 (qBA_imp (fun v10 h => ?_) h)
      refine r_ifeq (tgt := 95) dX7_appliedTypes_70 (by decide) (ite_imp (fun h => ?_) (fun h => ?_) h)
      · exact h
      · refine r_iload dX7_appliedTypes_73 rfl ?_
        refine r_iload_n dX7_appliedTypes_75 rfl ?_
        refine r_iconst dX7_appliedTypes_76 ?_
        refine r_ixor dX7_appliedTypes_77 ?_
        refine r_iand dX7_appliedTypes_78 ?_
        refine r_ifne (tgt := 95) dX7_appliedTypes_79 (by decide) (ite_imp (fun h => ?_) (fun h => ?_) h)
        · exact h
        · refine r_iload dX7_appliedTypes_82 rfl ?_
          refine r_iload_n dX7_appliedTypes_84 rfl ?_
          refine r_iconst dX7_appliedTypes_85 ?_
          refine r_ixor dX7_appliedTypes_86 ?_
          refine r_iand dX7_appliedTypes_87 ?_
          refine r_ifne (tgt := 95) dX7_appliedTypes_88 (by decide) (ite_imp (fun h => ?_) (fun h => ?_) h)
          · exact h
          · refine r_iconst dX7_appliedTypes_91 ?_
            refine r_goto (tgt := 96) dX7_appliedTypes_92 (by decide) ?_
            refine r_istore dX7_appliedTypes_96 rfl ?_
            refine r_iload dX7_appliedTypes_98 rfl ?_
            refine r_iload dX7_appliedTypes_100 rfl ?_
            refine r_ifeq (tgt := 112) dX7_appliedTypes_102 (by decide) (ite_imp (fun h => ?_) (fun h => ?_) h)
            · refine r_iconst dX7_appliedTypes_112 ?_
              refine r_ior dX7_appliedTypes_113 ?_
              refine r_istore dX7_appliedTypes_114 rfl ?_
              refine r_iinc dX7_appliedTypes_116 rfl rfl ?_
              refine r_goto (tgt := 36) dX7_appliedTypes_119 (by decide) ?_
              exact h
            · refine r_iconst dX7_appliedTypes_105 ?_
              refine r_iload dX7_appliedTypes_106 rfl ?_
              refine r_ishl dX7_appliedTypes_108 ?_
              refine r_goto (tgt := 113) dX7_appliedTypes_109 (by decide) ?_
              refine r_ior dX7_appliedTypes_113 ?_
              refine r_istore dX7_appliedTypes_114 rfl ?_
              refine r_iinc dX7_appliedTypes_116 rfl rfl ?_
              refine r_goto (tgt := 36) dX7_appliedTypes_119 (by decide) ?_
              exact h
set_option maxRecDepth 10000 in
theorem g_X7_appliedTypes_95 {E : Ev} {d : Nat} {G : Hp} {Q : Po} {x0 : Nat} {x1 : Int32} {x2 : Int32} {x3 : Int32} {x4 : Int32} {x5 : Int32} {x6 : Int32} {x7 : Int32} {l8 : Option Value} (h : (if (iv 0) = 0 then Xr E d x_X7_appliedTypes 36 [some (.ref x0), some (.int x1), some (.int x2), some (.int x3), some (.int ((x4 ||| (iv 0)))), some (.int x5), some (.int x6), some (.int ((x7 + (iv 1)))), some (.int ((iv 0)))] [] G Q else Xr E d x_X7_appliedTypes 36 [some (.ref x0), some (.int x1), some (.int x2), some (.int x3), some (.int ((x4 ||| ((iv 1) <<< (x5 &&& 31))))), some (.int x5), some (.int x6), some (.int ((x7 + (iv 1)))), some (.int ((iv 0)))] [] G Q)) : Xr E d x_X7_appliedTypes 95 [some (.ref x0), some (.int x1), some (.int x2), some (.int x3), some (.int x4), some (.int x5), some (.int x6), some (.int x7), l8] [] G Q := by
  refine r_iconst dX7_appliedTypes_95 ?_
  refine r_istore dX7_appliedTypes_96 rfl ?_
  refine r_iload dX7_appliedTypes_98 rfl ?_
  refine r_iload dX7_appliedTypes_100 rfl ?_
  refine r_ifeq (tgt := 112) dX7_appliedTypes_102 (by decide) (ite_imp (fun h => ?_) (fun h => ?_) h)
  · refine r_iconst dX7_appliedTypes_112 ?_
    refine r_ior dX7_appliedTypes_113 ?_
    refine r_istore dX7_appliedTypes_114 rfl ?_
    refine r_iinc dX7_appliedTypes_116 rfl rfl ?_
    refine r_goto (tgt := 36) dX7_appliedTypes_119 (by decide) ?_
    exact h
  · refine r_iconst dX7_appliedTypes_105 ?_
    refine r_iload dX7_appliedTypes_106 rfl ?_
    refine r_ishl dX7_appliedTypes_108 ?_
    refine r_goto (tgt := 113) dX7_appliedTypes_109 (by decide) ?_
    refine r_ior dX7_appliedTypes_113 ?_
    refine r_istore dX7_appliedTypes_114 rfl ?_
    refine r_iinc dX7_appliedTypes_116 rfl rfl ?_
    refine r_goto (tgt := 36) dX7_appliedTypes_119 (by decide) ?_
    exact h
theorem dX7_terminalTypes_0 : decode cX7_terminalTypes 0 = .ok (.iconst 0, 1) := by decide +kernel
theorem dX7_terminalTypes_1 : decode cX7_terminalTypes 1 = .ok (.istore 5, 2) := by decide +kernel
theorem dX7_terminalTypes_3 : decode cX7_terminalTypes 3 = .ok (.iconst 0, 1) := by decide +kernel
theorem dX7_terminalTypes_4 : decode cX7_terminalTypes 4 = .ok (.istore 6, 2) := by decide +kernel
theorem dX7_terminalTypes_6 : decode cX7_terminalTypes 6 = .ok (.iload 6, 2) := by decide +kernel
theorem dX7_terminalTypes_8 : decode cX7_terminalTypes 8 = .ok (.iconst 3, 1) := by decide +kernel
theorem dX7_terminalTypes_9 : decode cX7_terminalTypes 9 = .ok (.if_icmp .ge 119, 3) := by decide +kernel
theorem dX7_terminalTypes_12 : decode cX7_terminalTypes 12 = .ok (.iload 6, 2) := by decide +kernel
theorem dX7_terminalTypes_14 : decode cX7_terminalTypes 14 = .ok (.iload_n 2, 1) := by decide +kernel
theorem dX7_terminalTypes_15 : decode cX7_terminalTypes 15 = .ok (.invokestatic 129, 3) := by decide +kernel
theorem dX7_terminalTypes_18 : decode cX7_terminalTypes 18 = .ok (.istore 7, 2) := by decide +kernel
theorem dX7_terminalTypes_20 : decode cX7_terminalTypes 20 = .ok (.aload_n 1, 1) := by decide +kernel
theorem dX7_terminalTypes_21 : decode cX7_terminalTypes 21 = .ok (.iload 7, 2) := by decide +kernel
theorem dX7_terminalTypes_23 : decode cX7_terminalTypes 23 = .ok (.iaload, 1) := by decide +kernel
theorem dX7_terminalTypes_24 : decode cX7_terminalTypes 24 = .ok (.iconst 1, 1) := by decide +kernel
theorem dX7_terminalTypes_25 : decode cX7_terminalTypes 25 = .ok (.if_icmp .ne 7, 3) := by decide +kernel
theorem dX7_terminalTypes_28 : decode cX7_terminalTypes 28 = .ok (.iconst 1, 1) := by decide +kernel
theorem dX7_terminalTypes_29 : decode cX7_terminalTypes 29 = .ok (.goto 4, 3) := by decide +kernel
theorem dX7_terminalTypes_32 : decode cX7_terminalTypes 32 = .ok (.iconst 0, 1) := by decide +kernel
theorem dX7_terminalTypes_33 : decode cX7_terminalTypes 33 = .ok (.istore 8, 2) := by decide +kernel
theorem dX7_terminalTypes_35 : decode cX7_terminalTypes 35 = .ok (.iload 8, 2) := by decide +kernel
theorem dX7_terminalTypes_37 : decode cX7_terminalTypes 37 = .ok (.ifCond .eq 29, 3) := by decide +kernel
theorem dX7_terminalTypes_40 : decode cX7_terminalTypes 40 = .ok (.iload_n 2, 1) := by decide +kernel
theorem dX7_terminalTypes_41 : decode cX7_terminalTypes 41 = .ok (.invokestatic 67, 3) := by decide +kernel
theorem dX7_terminalTypes_44 : decode cX7_terminalTypes 44 = .ok (.iconst 1, 1) := by decide +kernel
theorem dX7_terminalTypes_45 : decode cX7_terminalTypes 45 = .ok (.if_icmp .lt 17, 3) := by decide +kernel
theorem dX7_terminalTypes_48 : decode cX7_terminalTypes 48 = .ok (.iload_n 3, 1) := by decide +kernel
theorem dX7_terminalTypes_49 : decode cX7_terminalTypes 49 = .ok (.aload_n 1, 1) := by decide +kernel
theorem dX7_terminalTypes_50 : decode cX7_terminalTypes 50 = .ok (.iload 7, 2) := by decide +kernel
theorem dX7_terminalTypes_52 : decode cX7_terminalTypes 52 = .ok (.iconst 1, 1) := by decide +kernel
theorem dX7_terminalTypes_53 : decode cX7_terminalTypes 53 = .ok (.iadd, 1) := by decide +kernel
theorem dX7_terminalTypes_54 : decode cX7_terminalTypes 54 = .ok (.iaload, 1) := by decide +kernel
theorem dX7_terminalTypes_55 : decode cX7_terminalTypes 55 = .ok (.ishr, 1) := by decide +kernel
theorem dX7_terminalTypes_56 : decode cX7_terminalTypes 56 = .ok (.iconst 1, 1) := by decide +kernel
theorem dX7_terminalTypes_57 : decode cX7_terminalTypes 57 = .ok (.iand, 1) := by decide +kernel
theorem dX7_terminalTypes_58 : decode cX7_terminalTypes 58 = .ok (.iconst 1, 1) := by decide +kernel
theorem dX7_terminalTypes_59 : decode cX7_terminalTypes 59 = .ok (.if_icmp .ne 7, 3) := by decide +kernel
theorem dX7_terminalTypes_62 : decode cX7_terminalTypes 62 = .ok (.iconst 1, 1) := by decide +kernel
theorem dX7_terminalTypes_63 : decode cX7_terminalTypes 63 = .ok (.goto 4, 3) := by decide +kernel
theorem dX7_terminalTypes_66 : decode cX7_terminalTypes 66 = .ok (.iconst 0, 1) := by decide +kernel
theorem dX7_terminalTypes_67 : decode cX7_terminalTypes 67 = .ok (.istore 8, 2) := by decide +kernel
theorem dX7_terminalTypes_69 : decode cX7_terminalTypes 69 = .ok (.iload 8, 2) := by decide +kernel
theorem dX7_terminalTypes_71 : decode cX7_terminalTypes 71 = .ok (.ifCond .eq 30, 3) := by decide +kernel
theorem dX7_terminalTypes_74 : decode cX7_terminalTypes 74 = .ok (.iload_n 2, 1) := by decide +kernel
theorem dX7_terminalTypes_75 : decode cX7_terminalTypes 75 = .ok (.invokestatic 67, 3) := by decide +kernel
theorem dX7_terminalTypes_78 : decode cX7_terminalTypes 78 = .ok (.iconst 2, 1) := by decide +kernel
theorem dX7_terminalTypes_79 : decode cX7_terminalTypes 79 = .ok (.if_icmp .lt 18, 3) := by decide +kernel
theorem dX7_terminalTypes_82 : decode cX7_terminalTypes 82 = .ok (.iload 4, 2) := by decide +kernel
theorem dX7_terminalTypes_84 : decode cX7_terminalTypes 84 = .ok (.aload_n 1, 1) := by decide +kernel
theorem dX7_terminalTypes_85 : decode cX7_terminalTypes 85 = .ok (.iload 7, 2) := by decide +kernel
theorem dX7_terminalTypes_87 : decode cX7_terminalTypes 87 = .ok (.iconst 2, 1) := by decide +kernel
theorem dX7_terminalTypes_88 : decode cX7_terminalTypes 88 = .ok (.iadd, 1) := by decide +kernel
theorem dX7_terminalTypes_89 : decode cX7_terminalTypes 89 = .ok (.iaload, 1) := by decide +kernel
theorem dX7_terminalTypes_90 : decode cX7_terminalTypes 90 = .ok (.ishr, 1) := by decide +kernel
theorem dX7_terminalTypes_91 : decode cX7_terminalTypes 91 = .ok (.iconst 1, 1) := by decide +kernel
theorem dX7_terminalTypes_92 : decode cX7_terminalTypes 92 = .ok (.iand, 1) := by decide +kernel
theorem dX7_terminalTypes_93 : decode cX7_terminalTypes 93 = .ok (.iconst 1, 1) := by decide +kernel
theorem dX7_terminalTypes_94 : decode cX7_terminalTypes 94 = .ok (.if_icmp .ne 7, 3) := by decide +kernel
theorem dX7_terminalTypes_97 : decode cX7_terminalTypes 97 = .ok (.iconst 1, 1) := by decide +kernel
theorem dX7_terminalTypes_98 : decode cX7_terminalTypes 98 = .ok (.goto 4, 3) := by decide +kernel
theorem dX7_terminalTypes_101 : decode cX7_terminalTypes 101 = .ok (.iconst 0, 1) := by decide +kernel
theorem dX7_terminalTypes_102 : decode cX7_terminalTypes 102 = .ok (.istore 8, 2) := by decide +kernel
theorem dX7_terminalTypes_104 : decode cX7_terminalTypes 104 = .ok (.iload 5, 2) := by decide +kernel
theorem dX7_terminalTypes_106 : decode cX7_terminalTypes 106 = .ok (.iload 8, 2) := by decide +kernel
theorem dX7_terminalTypes_108 : decode cX7_terminalTypes 108 = .ok (.ifCond .eq 10, 3) := by decide +kernel
theorem dX7_terminalTypes_111 : decode cX7_terminalTypes 111 = .ok (.iconst 1, 1) := by decide +kernel
theorem dX7_terminalTypes_112 : decode cX7_terminalTypes 112 = .ok (.iload 6, 2) := by decide +kernel
theorem dX7_terminalTypes_114 : decode cX7_terminalTypes 114 = .ok (.ishl, 1) := by decide +kernel
theorem dX7_terminalTypes_115 : decode cX7_terminalTypes 115 = .ok (.goto 4, 3) := by decide +kernel
theorem dX7_terminalTypes_118 : decode cX7_terminalTypes 118 = .ok (.iconst 0, 1) := by decide +kernel
theorem dX7_terminalTypes_119 : decode cX7_terminalTypes 119 = .ok (.ior, 1) := by decide +kernel
theorem dX7_terminalTypes_120 : decode cX7_terminalTypes 120 = .ok (.istore 5, 2) := by decide +kernel
theorem dX7_terminalTypes_122 : decode cX7_terminalTypes 122 = .ok (.iinc 6 1, 3) := by decide +kernel
theorem dX7_terminalTypes_125 : decode cX7_terminalTypes 125 = .ok (.goto (-119), 3) := by decide +kernel
theorem dX7_terminalTypes_128 : decode cX7_terminalTypes 128 = .ok (.iload 5, 2) := by decide +kernel
theorem dX7_terminalTypes_130 : decode cX7_terminalTypes 130 = .ok (.ireturn, 1) := by decide +kernel
abbrev x_X7_terminalTypes : Cx := (7, cX7_terminalTypes, false, some (.int))
set_option maxRecDepth 10000 in
theorem g_X7_terminalTypes_0 {E : Ev} {d : Nat} {G : Hp} {Q : Po} {x0 : Nat} {x1 : Nat} {x2 : Int32} {x3 : Int32} {x4 : Int32} (h : Xr E d x_X7_terminalTypes 6 [some (.ref x0), some (.ref x1), some (.int x2), some (.int x3), some (.int x4), some (.int ((iv 0))), some (.int ((iv 0))), none, none] [] G Q) : Xr E d x_X7_terminalTypes 0 [some (.ref x0), some (.ref x1), some (.int x2), some (.int x3), some (.int x4), none, none, none, none] [] G Q := by
  refine r_iconst dX7_terminalTypes_0 ?_
  refine r_istore dX7_terminalTypes_1 rfl ?_
  refine r_iconst dX7_terminalTypes_3 ?_
  refine r_istore dX7_terminalTypes_4 rfl ?_
  exact h
theorem e_X7_terminalTypes {E : Ev} {d : Nat} {G : Hp} {Q : Po} {x0 : Nat} {x1 : Nat} {x2 : Int32} {x3 : Int32} {x4 : Int32} (h : Xr E d x_X7_terminalTypes 6 [some (.ref x0), some (.ref x1), some (.int x2), some (.int x3), some (.int x4), some (.int ((iv 0))), some (.int ((iv 0))), none, none] [] G Q) : runs E (d + 1) i_X7_terminalTypes [.ref x0, .ref x1, .int x2, .int x3, .int x4] G Q := by
  rw [runs_eq (m := (yX7_terminalTypes, cX7_terminalTypes, 9, some (.int), 4, 7, false, false)) rfl (Nat.le_of_ble_eq_true rfl)]
  exact g_X7_terminalTypes_0 h
set_option maxRecDepth 10000 in
theorem g_X7_terminalTypes_6 {E : Ev} {d : Nat} {G : Hp} {Q : Po} {x0 : Nat} {x1 : Nat} {x2 : Int32} {x3 : Int32} {x4 : Int32} {x5 : Int32} {x6 : Int32} {l7 : Option Value} {l8 : Option Value} (h : (if (iv 3) ≤ x6 then Q (some (.int x5)) G else (qCI E d i_X7_stepAt [.int x6, .int x2] G fun v2 G1 => (qIA 7 E G1 x1 v2 fun v3 => (if ¬ v3 = (iv 1) then (if (iv 0) = 0 then Xr E d x_X7_terminalTypes 66 [some (.ref x0), some (.ref x1), some (.int x2), some (.int x3), some (.int x4), some (.int x5), some (.int x6), some (.int v2), some (.int ((iv 0)))] [] G1 Q else (qCI E d i_X7_places [.int x2] G1 fun v5 G4 => (if v5 < (iv 1) then Xr E d x_X7_terminalTypes 62 [some (.ref x0), some (.ref x1), some (.int x2), some (.int x3), some (.int x4), some (.int x5), some (.int x6), some (.int v2), some (.int ((iv 0)))] [] G4 Q else (qIA 7 E G4 x1 (v2 + (iv 1)) fun v6 => (if ¬ ((x3 >>> (v6 &&& 31)) &&& (iv 1)) = (iv 1) then Xr E d x_X7_terminalTypes 66 [some (.ref x0), some (.ref x1), some (.int x2), some (.int x3), some (.int x4), some (.int x5), some (.int x6), some (.int v2), some (.int ((iv 0)))] [] G4 Q else Xr E d x_X7_terminalTypes 62 [some (.ref x0), some (.ref x1), some (.int x2), some (.int x3), some (.int x4), some (.int x5), some (.int x6), some (.int v2), some (.int ((iv 0)))] [] G4 Q))))) else (if (iv 1) = 0 then Xr E d x_X7_terminalTypes 66 [some (.ref x0), some (.ref x1), some (.int x2), some (.int x3), some (.int x4), some (.int x5), some (.int x6), some (.int v2), some (.int ((iv 1)))] [] G1 Q else (qCI E d i_X7_places [.int x2] G1 fun v8 G7 => (if v8 < (iv 1) then Xr E d x_X7_terminalTypes 62 [some (.ref x0), some (.ref x1), some (.int x2), some (.int x3), some (.int x4), some (.int x5), some (.int x6), some (.int v2), some (.int ((iv 1)))] [] G7 Q else (qIA 7 E G7 x1 (v2 + (iv 1)) fun v9 => (if ¬ ((x3 >>> (v9 &&& 31)) &&& (iv 1)) = (iv 1) then Xr E d x_X7_terminalTypes 66 [some (.ref x0), some (.ref x1), some (.int x2), some (.int x3), some (.int x4), some (.int x5), some (.int x6), some (.int v2), some (.int ((iv 1)))] [] G7 Q else Xr E d x_X7_terminalTypes 62 [some (.ref x0), some (.ref x1), some (.int x2), some (.int x3), some (.int x4), some (.int x5), some (.int x6), some (.int v2), some (.int ((iv 1)))] [] G7 Q)))))))))) : Xr E d x_X7_terminalTypes 6 [some (.ref x0), some (.ref x1), some (.int x2), some (.int x3), some (.int x4), some (.int x5), some (.int x6), l7, l8] [] G Q := by
  refine r_iload dX7_terminalTypes_6 rfl ?_
  refine r_iconst dX7_terminalTypes_8 ?_
  refine r_cge (tgt := 128) dX7_terminalTypes_9 (by decide) (ite_imp (fun h => ?_) (fun h => ?_) h)
  · refine r_iload dX7_terminalTypes_128 rfl ?_
    exact r_iret dX7_terminalTypes_130 rfl ⟨rfl, h⟩
  · refine r_iload dX7_terminalTypes_12 rfl ?_
    refine r_iload_n dX7_terminalTypes_14 rfl ?_
    refine r_cI dX7_terminalTypes_15 rfl (invS_eq rfl (by decide) rfl rfl rfl rfl ⟨rfl, Nat.le_of_ble_eq_true rfl⟩) (qCI_imp (fun v2 G1 h => ?_) h)
    refine r_istore dX7_terminalTypes_18 rfl ?_
    refine r_aload_n dX7_terminalTypes_20 rfl ?_
    refine r_iload dX7_terminalTypes_21 rfl ?_
    refine r_iald dX7_terminalTypes_23 (qIA_imp (fun v3 h => ?_) h)
    refine r_iconst dX7_terminalTypes_24 ?_
    refine r_cne (tgt := 32) dX7_terminalTypes_25 (by decide) (ite_imp (fun h => ?_) (fun h => ?_) h)
    · refine r_iconst dX7_terminalTypes_32 ?_
      refine r_istore dX7_terminalTypes_33 rfl ?_
      refine r_iload dX7_terminalTypes_35 rfl ?_
      refine r_ifeq (tgt := 66) dX7_terminalTypes_37 (by decide) (ite_imp (fun h => ?_) (fun h => ?_) h)
      · exact h
      · refine r_iload_n dX7_terminalTypes_40 rfl ?_
        refine r_cI dX7_terminalTypes_41 rfl (invS_eq rfl (by decide) rfl rfl rfl rfl ⟨rfl, Nat.le_of_ble_eq_true rfl⟩) (qCI_imp (fun v5 G4 h => ?_) h)
        refine r_iconst dX7_terminalTypes_44 ?_
        refine r_clt (tgt := 62) dX7_terminalTypes_45 (by decide) (ite_imp (fun h => ?_) (fun h => ?_) h)
        · exact h
        · refine r_iload_n dX7_terminalTypes_48 rfl ?_
          refine r_aload_n dX7_terminalTypes_49 rfl ?_
          refine r_iload dX7_terminalTypes_50 rfl ?_
          refine r_iconst dX7_terminalTypes_52 ?_
          refine r_iadd dX7_terminalTypes_53 ?_
          refine r_iald dX7_terminalTypes_54 (qIA_imp (fun v6 h => ?_) h)
          refine r_ishr dX7_terminalTypes_55 ?_
          refine r_iconst dX7_terminalTypes_56 ?_
          refine r_iand dX7_terminalTypes_57 ?_
          refine r_iconst dX7_terminalTypes_58 ?_
          refine r_cne (tgt := 66) dX7_terminalTypes_59 (by decide) (ite_imp (fun h => ?_) (fun h => ?_) h)
          · exact h
          · exact h
    · refine r_iconst dX7_terminalTypes_28 ?_
      refine r_goto (tgt := 33) dX7_terminalTypes_29 (by decide) ?_
      refine r_istore dX7_terminalTypes_33 rfl ?_
      refine r_iload dX7_terminalTypes_35 rfl ?_
      refine r_ifeq (tgt := 66) dX7_terminalTypes_37 (by decide) (ite_imp (fun h => ?_) (fun h => ?_) h)
      · exact h
      · refine r_iload_n dX7_terminalTypes_40 rfl ?_
        refine r_cI dX7_terminalTypes_41 rfl (invS_eq rfl (by decide) rfl rfl rfl rfl ⟨rfl, Nat.le_of_ble_eq_true rfl⟩) (qCI_imp (fun v8 G7 h => ?_) h)
        refine r_iconst dX7_terminalTypes_44 ?_
        refine r_clt (tgt := 62) dX7_terminalTypes_45 (by decide) (ite_imp (fun h => ?_) (fun h => ?_) h)
        · exact h
        · refine r_iload_n dX7_terminalTypes_48 rfl ?_
          refine r_aload_n dX7_terminalTypes_49 rfl ?_
          refine r_iload dX7_terminalTypes_50 rfl ?_
          refine r_iconst dX7_terminalTypes_52 ?_
          refine r_iadd dX7_terminalTypes_53 ?_
          refine r_iald dX7_terminalTypes_54 (qIA_imp (fun v9 h => ?_) h)
          refine r_ishr dX7_terminalTypes_55 ?_
          refine r_iconst dX7_terminalTypes_56 ?_
          refine r_iand dX7_terminalTypes_57 ?_
          refine r_iconst dX7_terminalTypes_58 ?_
          refine r_cne (tgt := 66) dX7_terminalTypes_59 (by decide) (ite_imp (fun h => ?_) (fun h => ?_) h)
          · exact h
          · exact h
set_option maxRecDepth 10000 in
theorem g_X7_terminalTypes_62 {E : Ev} {d : Nat} {G : Hp} {Q : Po} {x0 : Nat} {x1 : Nat} {x2 : Int32} {x3 : Int32} {x4 : Int32} {x5 : Int32} {x6 : Int32} {x7 : Int32} {x8 : Int32} (h : (if (iv 1) = 0 then Xr E d x_X7_terminalTypes 101 [some (.ref x0), some (.ref x1), some (.int x2), some (.int x3), some (.int x4), some (.int x5), some (.int x6), some (.int x7), some (.int ((iv 1)))] [] G Q else (qCI E d i_X7_places [.int x2] G fun v2 G1 => (if v2 < (iv 2) then Xr E d x_X7_terminalTypes 97 [some (.ref x0), some (.ref x1), some (.int x2), some (.int x3), some (.int x4), some (.int x5), some (.int x6), some (.int x7), some (.int ((iv 1)))] [] G1 Q else (qIA 7 E G1 x1 (x7 + (iv 2)) fun v3 => (if ¬ ((x4 >>> (v3 &&& 31)) &&& (iv 1)) = (iv 1) then Xr E d x_X7_terminalTypes 101 [some (.ref x0), some (.ref x1), some (.int x2), some (.int x3), some (.int x4), some (.int x5), some (.int x6), some (.int x7), some (.int ((iv 1)))] [] G1 Q else Xr E d x_X7_terminalTypes 97 [some (.ref x0), some (.ref x1), some (.int x2), some (.int x3), some (.int x4), some (.int x5), some (.int x6), some (.int x7), some (.int ((iv 1)))] [] G1 Q)))))) : Xr E d x_X7_terminalTypes 62 [some (.ref x0), some (.ref x1), some (.int x2), some (.int x3), some (.int x4), some (.int x5), some (.int x6), some (.int x7), some (.int x8)] [] G Q := by
  refine r_iconst dX7_terminalTypes_62 ?_
  refine r_goto (tgt := 67) dX7_terminalTypes_63 (by decide) ?_
  refine r_istore dX7_terminalTypes_67 rfl ?_
  refine r_iload dX7_terminalTypes_69 rfl ?_
  refine r_ifeq (tgt := 101) dX7_terminalTypes_71 (by decide) (ite_imp (fun h => ?_) (fun h => ?_) h)
  · exact h
  · refine r_iload_n dX7_terminalTypes_74 rfl ?_
    refine r_cI dX7_terminalTypes_75 rfl (invS_eq rfl (by decide) rfl rfl rfl rfl ⟨rfl, Nat.le_of_ble_eq_true rfl⟩) (qCI_imp (fun v2 G1 h => ?_) h)
    refine r_iconst dX7_terminalTypes_78 ?_
    refine r_clt (tgt := 97) dX7_terminalTypes_79 (by decide) (ite_imp (fun h => ?_) (fun h => ?_) h)
    · exact h
    · refine r_iload dX7_terminalTypes_82 rfl ?_
      refine r_aload_n dX7_terminalTypes_84 rfl ?_
      refine r_iload dX7_terminalTypes_85 rfl ?_
      refine r_iconst dX7_terminalTypes_87 ?_
      refine r_iadd dX7_terminalTypes_88 ?_
      refine r_iald dX7_terminalTypes_89 (qIA_imp (fun v3 h => ?_) h)
      refine r_ishr dX7_terminalTypes_90 ?_
      refine r_iconst dX7_terminalTypes_91 ?_
      refine r_iand dX7_terminalTypes_92 ?_
      refine r_iconst dX7_terminalTypes_93 ?_
      refine r_cne (tgt := 101) dX7_terminalTypes_94 (by decide) (ite_imp (fun h => ?_) (fun h => ?_) h)
      · exact h
      · exact h
set_option maxRecDepth 10000 in
theorem g_X7_terminalTypes_66 {E : Ev} {d : Nat} {G : Hp} {Q : Po} {x0 : Nat} {x1 : Nat} {x2 : Int32} {x3 : Int32} {x4 : Int32} {x5 : Int32} {x6 : Int32} {x7 : Int32} {x8 : Int32} (h : (if (iv 0) = 0 then Xr E d x_X7_terminalTypes 101 [some (.ref x0), some (.ref x1), some (.int x2), some (.int x3), some (.int x4), some (.int x5), some (.int x6), some (.int x7), some (.int ((iv 0)))] [] G Q else (qCI E d i_X7_places [.int x2] G fun v2 G1 => (if v2 < (iv 2) then Xr E d x_X7_terminalTypes 97 [some (.ref x0), some (.ref x1), some (.int x2), some (.int x3), some (.int x4), some (.int x5), some (.int x6), some (.int x7), some (.int ((iv 0)))] [] G1 Q else (qIA 7 E G1 x1 (x7 + (iv 2)) fun v3 => (if ¬ ((x4 >>> (v3 &&& 31)) &&& (iv 1)) = (iv 1) then Xr E d x_X7_terminalTypes 101 [some (.ref x0), some (.ref x1), some (.int x2), some (.int x3), some (.int x4), some (.int x5), some (.int x6), some (.int x7), some (.int ((iv 0)))] [] G1 Q else Xr E d x_X7_terminalTypes 97 [some (.ref x0), some (.ref x1), some (.int x2), some (.int x3), some (.int x4), some (.int x5), some (.int x6), some (.int x7), some (.int ((iv 0)))] [] G1 Q)))))) : Xr E d x_X7_terminalTypes 66 [some (.ref x0), some (.ref x1), some (.int x2), some (.int x3), some (.int x4), some (.int x5), some (.int x6), some (.int x7), some (.int x8)] [] G Q := by
  refine r_iconst dX7_terminalTypes_66 ?_
  refine r_istore dX7_terminalTypes_67 rfl ?_
  refine r_iload dX7_terminalTypes_69 rfl ?_
  refine r_ifeq (tgt := 101) dX7_terminalTypes_71 (by decide) (ite_imp (fun h => ?_) (fun h => ?_) h)
  · exact h
  · refine r_iload_n dX7_terminalTypes_74 rfl ?_
    refine r_cI dX7_terminalTypes_75 rfl (invS_eq rfl (by decide) rfl rfl rfl rfl ⟨rfl, Nat.le_of_ble_eq_true rfl⟩) (qCI_imp (fun v2 G1 h => ?_) h)
    refine r_iconst dX7_terminalTypes_78 ?_
    refine r_clt (tgt := 97) dX7_terminalTypes_79 (by decide) (ite_imp (fun h => ?_) (fun h => ?_) h)
    · exact h
    · refine r_iload dX7_terminalTypes_82 rfl ?_
      refine r_aload_n dX7_terminalTypes_84 rfl ?_
      refine r_iload dX7_terminalTypes_85 rfl ?_
      refine r_iconst dX7_terminalTypes_87 ?_
      refine r_iadd dX7_terminalTypes_88 ?_
      refine r_iald dX7_terminalTypes_89 (qIA_imp (fun v3 h => ?_) h)
      refine r_ishr dX7_terminalTypes_90 ?_
      refine r_iconst dX7_terminalTypes_91 ?_
      refine r_iand dX7_terminalTypes_92 ?_
      refine r_iconst dX7_terminalTypes_93 ?_
      refine r_cne (tgt := 101) dX7_terminalTypes_94 (by decide) (ite_imp (fun h => ?_) (fun h => ?_) h)
      · exact h
      · exact h
set_option maxRecDepth 10000 in
theorem g_X7_terminalTypes_97 {E : Ev} {d : Nat} {G : Hp} {Q : Po} {x0 : Nat} {x1 : Nat} {x2 : Int32} {x3 : Int32} {x4 : Int32} {x5 : Int32} {x6 : Int32} {x7 : Int32} {x8 : Int32} (h : (if (iv 1) = 0 then Xr E d x_X7_terminalTypes 6 [some (.ref x0), some (.ref x1), some (.int x2), some (.int x3), some (.int x4), some (.int ((x5 ||| (iv 0)))), some (.int ((x6 + (iv 1)))), some (.int x7), some (.int ((iv 1)))] [] G Q else Xr E d x_X7_terminalTypes 6 [some (.ref x0), some (.ref x1), some (.int x2), some (.int x3), some (.int x4), some (.int ((x5 ||| ((iv 1) <<< (x6 &&& 31))))), some (.int ((x6 + (iv 1)))), some (.int x7), some (.int ((iv 1)))] [] G Q)) : Xr E d x_X7_terminalTypes 97 [some (.ref x0), some (.ref x1), some (.int x2), some (.int x3), some (.int x4), some (.int x5), some (.int x6), some (.int x7), some (.int x8)] [] G Q := by
  refine r_iconst dX7_terminalTypes_97 ?_
  refine r_goto (tgt := 102) dX7_terminalTypes_98 (by decide) ?_
  refine r_istore dX7_terminalTypes_102 rfl ?_
  refine r_iload dX7_terminalTypes_104 rfl ?_
  refine r_iload dX7_terminalTypes_106 rfl ?_
  refine r_ifeq (tgt := 118) dX7_terminalTypes_108 (by decide) (ite_imp (fun h => ?_) (fun h => ?_) h)
  · refine r_iconst dX7_terminalTypes_118 ?_
    refine r_ior dX7_terminalTypes_119 ?_
    refine r_istore dX7_terminalTypes_120 rfl ?_
    refine r_iinc dX7_terminalTypes_122 rfl rfl ?_
    refine r_goto (tgt := 6) dX7_terminalTypes_125 (by decide) ?_
    exact h
  · refine r_iconst dX7_terminalTypes_111 ?_
    refine r_iload dX7_terminalTypes_112 rfl ?_
    refine r_ishl dX7_terminalTypes_114 ?_
    refine r_goto (tgt := 119) dX7_terminalTypes_115 (by decide) ?_
    refine r_ior dX7_terminalTypes_119 ?_
    refine r_istore dX7_terminalTypes_120 rfl ?_
    refine r_iinc dX7_terminalTypes_122 rfl rfl ?_
    refine r_goto (tgt := 6) dX7_terminalTypes_125 (by decide) ?_
    exact h
set_option maxRecDepth 10000 in
theorem g_X7_terminalTypes_101 {E : Ev} {d : Nat} {G : Hp} {Q : Po} {x0 : Nat} {x1 : Nat} {x2 : Int32} {x3 : Int32} {x4 : Int32} {x5 : Int32} {x6 : Int32} {x7 : Int32} {x8 : Int32} (h : (if (iv 0) = 0 then Xr E d x_X7_terminalTypes 6 [some (.ref x0), some (.ref x1), some (.int x2), some (.int x3), some (.int x4), some (.int ((x5 ||| (iv 0)))), some (.int ((x6 + (iv 1)))), some (.int x7), some (.int ((iv 0)))] [] G Q else Xr E d x_X7_terminalTypes 6 [some (.ref x0), some (.ref x1), some (.int x2), some (.int x3), some (.int x4), some (.int ((x5 ||| ((iv 1) <<< (x6 &&& 31))))), some (.int ((x6 + (iv 1)))), some (.int x7), some (.int ((iv 0)))] [] G Q)) : Xr E d x_X7_terminalTypes 101 [some (.ref x0), some (.ref x1), some (.int x2), some (.int x3), some (.int x4), some (.int x5), some (.int x6), some (.int x7), some (.int x8)] [] G Q := by
  refine r_iconst dX7_terminalTypes_101 ?_
  refine r_istore dX7_terminalTypes_102 rfl ?_
  refine r_iload dX7_terminalTypes_104 rfl ?_
  refine r_iload dX7_terminalTypes_106 rfl ?_
  refine r_ifeq (tgt := 118) dX7_terminalTypes_108 (by decide) (ite_imp (fun h => ?_) (fun h => ?_) h)
  · refine r_iconst dX7_terminalTypes_118 ?_
    refine r_ior dX7_terminalTypes_119 ?_
    refine r_istore dX7_terminalTypes_120 rfl ?_
    refine r_iinc dX7_terminalTypes_122 rfl rfl ?_
    refine r_goto (tgt := 6) dX7_terminalTypes_125 (by decide) ?_
    exact h
  · refine r_iconst dX7_terminalTypes_111 ?_
    refine r_iload dX7_terminalTypes_112 rfl ?_
    refine r_ishl dX7_terminalTypes_114 ?_
    refine r_goto (tgt := 119) dX7_terminalTypes_115 (by decide) ?_
    refine r_ior dX7_terminalTypes_119 ?_
    refine r_istore dX7_terminalTypes_120 rfl ?_
    refine r_iinc dX7_terminalTypes_122 rfl rfl ?_
    refine r_goto (tgt := 6) dX7_terminalTypes_125 (by decide) ?_
    exact h
theorem dX7_bodyTypes_0 : decode cX7_bodyTypes 0 = .ok (.aload_n 1, 1) := by decide +kernel
theorem dX7_bodyTypes_1 : decode cX7_bodyTypes 1 = .ok (.bipush 31, 2) := by decide +kernel
theorem dX7_bodyTypes_3 : decode cX7_bodyTypes 3 = .ok (.iload_n 2, 1) := by decide +kernel
theorem dX7_bodyTypes_4 : decode cX7_bodyTypes 4 = .ok (.imul, 1) := by decide +kernel
theorem dX7_bodyTypes_5 : decode cX7_bodyTypes 5 = .ok (.iaload, 1) := by decide +kernel
theorem dX7_bodyTypes_6 : decode cX7_bodyTypes 6 = .ok (.istore 5, 2) := by decide +kernel
theorem dX7_bodyTypes_8 : decode cX7_bodyTypes 8 = .ok (.iconst 0, 1) := by decide +kernel
theorem dX7_bodyTypes_9 : decode cX7_bodyTypes 9 = .ok (.istore 6, 2) := by decide +kernel
theorem dX7_bodyTypes_11 : decode cX7_bodyTypes 11 = .ok (.iload 6, 2) := by decide +kernel
theorem dX7_bodyTypes_13 : decode cX7_bodyTypes 13 = .ok (.iload 5, 2) := by decide +kernel
theorem dX7_bodyTypes_15 : decode cX7_bodyTypes 15 = .ok (.if_icmp .ge 27, 3) := by decide +kernel
theorem dX7_bodyTypes_18 : decode cX7_bodyTypes 18 = .ok (.aload_n 0, 1) := by decide +kernel
theorem dX7_bodyTypes_19 : decode cX7_bodyTypes 19 = .ok (.getfield 35, 3) := by decide +kernel
theorem dX7_bodyTypes_22 : decode cX7_bodyTypes 22 = .ok (.iload 6, 2) := by decide +kernel
theorem dX7_bodyTypes_24 : decode cX7_bodyTypes 24 = .ok (.aload_n 1, 1) := by decide +kernel
theorem dX7_bodyTypes_25 : decode cX7_bodyTypes 25 = .ok (.bipush 31, 2) := by decide +kernel
theorem dX7_bodyTypes_27 : decode cX7_bodyTypes 27 = .ok (.iload_n 2, 1) := by decide +kernel
theorem dX7_bodyTypes_28 : decode cX7_bodyTypes 28 = .ok (.imul, 1) := by decide +kernel
theorem dX7_bodyTypes_29 : decode cX7_bodyTypes 29 = .ok (.iconst 1, 1) := by decide +kernel
theorem dX7_bodyTypes_30 : decode cX7_bodyTypes 30 = .ok (.iadd, 1) := by decide +kernel
theorem dX7_bodyTypes_31 : decode cX7_bodyTypes 31 = .ok (.iload 6, 2) := by decide +kernel
theorem dX7_bodyTypes_33 : decode cX7_bodyTypes 33 = .ok (.iadd, 1) := by decide +kernel
theorem dX7_bodyTypes_34 : decode cX7_bodyTypes 34 = .ok (.iaload, 1) := by decide +kernel
theorem dX7_bodyTypes_35 : decode cX7_bodyTypes 35 = .ok (.iastore, 1) := by decide +kernel
theorem dX7_bodyTypes_36 : decode cX7_bodyTypes 36 = .ok (.iinc 6 1, 3) := by decide +kernel
theorem dX7_bodyTypes_39 : decode cX7_bodyTypes 39 = .ok (.goto (-28), 3) := by decide +kernel
theorem dX7_bodyTypes_42 : decode cX7_bodyTypes 42 = .ok (.iload 5, 2) := by decide +kernel
theorem dX7_bodyTypes_44 : decode cX7_bodyTypes 44 = .ok (.iconst 1, 1) := by decide +kernel
theorem dX7_bodyTypes_45 : decode cX7_bodyTypes 45 = .ok (.isub, 1) := by decide +kernel
theorem dX7_bodyTypes_46 : decode cX7_bodyTypes 46 = .ok (.istore 6, 2) := by decide +kernel
theorem dX7_bodyTypes_48 : decode cX7_bodyTypes 48 = .ok (.iload 6, 2) := by decide +kernel
theorem dX7_bodyTypes_50 : decode cX7_bodyTypes 50 = .ok (.ifCond .lt 157, 3) := by decide +kernel
theorem dX7_bodyTypes_53 : decode cX7_bodyTypes 53 = .ok (.aload_n 0, 1) := by decide +kernel
theorem dX7_bodyTypes_54 : decode cX7_bodyTypes 54 = .ok (.getfield 35, 3) := by decide +kernel
theorem dX7_bodyTypes_57 : decode cX7_bodyTypes 57 = .ok (.iload 6, 2) := by decide +kernel
theorem dX7_bodyTypes_59 : decode cX7_bodyTypes 59 = .ok (.iaload, 1) := by decide +kernel
theorem dX7_bodyTypes_60 : decode cX7_bodyTypes 60 = .ok (.istore 7, 2) := by decide +kernel
theorem dX7_bodyTypes_62 : decode cX7_bodyTypes 62 = .ok (.iload 7, 2) := by decide +kernel
theorem dX7_bodyTypes_64 : decode cX7_bodyTypes 64 = .ok (.invokestatic 76, 3) := by decide +kernel
theorem dX7_bodyTypes_67 : decode cX7_bodyTypes 67 = .ok (.istore 8, 2) := by decide +kernel
theorem dX7_bodyTypes_69 : decode cX7_bodyTypes 69 = .ok (.iload 8, 2) := by decide +kernel
theorem dX7_bodyTypes_71 : decode cX7_bodyTypes 71 = .ok (.ifCond .le 15, 3) := by decide +kernel
theorem dX7_bodyTypes_74 : decode cX7_bodyTypes 74 = .ok (.aload_n 0, 1) := by decide +kernel
theorem dX7_bodyTypes_75 : decode cX7_bodyTypes 75 = .ok (.getfield 44, 3) := by decide +kernel
theorem dX7_bodyTypes_78 : decode cX7_bodyTypes 78 = .ok (.iload 6, 2) := by decide +kernel
theorem dX7_bodyTypes_80 : decode cX7_bodyTypes 80 = .ok (.iconst 1, 1) := by decide +kernel
theorem dX7_bodyTypes_81 : decode cX7_bodyTypes 81 = .ok (.iadd, 1) := by decide +kernel
theorem dX7_bodyTypes_82 : decode cX7_bodyTypes 82 = .ok (.iaload, 1) := by decide +kernel
theorem dX7_bodyTypes_83 : decode cX7_bodyTypes 83 = .ok (.goto 4, 3) := by decide +kernel
theorem dX7_bodyTypes_86 : decode cX7_bodyTypes 86 = .ok (.iconst 0, 1) := by decide +kernel
theorem dX7_bodyTypes_87 : decode cX7_bodyTypes 87 = .ok (.istore 9, 2) := by decide +kernel
theorem dX7_bodyTypes_89 : decode cX7_bodyTypes 89 = .ok (.iload 8, 2) := by decide +kernel
theorem dX7_bodyTypes_91 : decode cX7_bodyTypes 91 = .ok (.iconst 1, 1) := by decide +kernel
theorem dX7_bodyTypes_92 : decode cX7_bodyTypes 92 = .ok (.if_icmp .le 22, 3) := by decide +kernel
theorem dX7_bodyTypes_95 : decode cX7_bodyTypes 95 = .ok (.aload_n 0, 1) := by decide +kernel
theorem dX7_bodyTypes_96 : decode cX7_bodyTypes 96 = .ok (.getfield 44, 3) := by decide +kernel
theorem dX7_bodyTypes_99 : decode cX7_bodyTypes 99 = .ok (.aload_n 0, 1) := by decide +kernel
theorem dX7_bodyTypes_100 : decode cX7_bodyTypes 100 = .ok (.getfield 35, 3) := by decide +kernel
theorem dX7_bodyTypes_103 : decode cX7_bodyTypes 103 = .ok (.iload 6, 2) := by decide +kernel
theorem dX7_bodyTypes_105 : decode cX7_bodyTypes 105 = .ok (.iconst 1, 1) := by decide +kernel
theorem dX7_bodyTypes_106 : decode cX7_bodyTypes 106 = .ok (.iadd, 1) := by decide +kernel
theorem dX7_bodyTypes_107 : decode cX7_bodyTypes 107 = .ok (.invokestatic 149, 3) := by decide +kernel
theorem dX7_bodyTypes_110 : decode cX7_bodyTypes 110 = .ok (.iaload, 1) := by decide +kernel
theorem dX7_bodyTypes_111 : decode cX7_bodyTypes 111 = .ok (.goto 4, 3) := by decide +kernel
theorem dX7_bodyTypes_114 : decode cX7_bodyTypes 114 = .ok (.iconst 0, 1) := by decide +kernel
theorem dX7_bodyTypes_115 : decode cX7_bodyTypes 115 = .ok (.istore 10, 2) := by decide +kernel
theorem dX7_bodyTypes_117 : decode cX7_bodyTypes 117 = .ok (.iload 7, 2) := by decide +kernel
theorem dX7_bodyTypes_119 : decode cX7_bodyTypes 119 = .ok (.bipush 120, 2) := by decide +kernel
theorem dX7_bodyTypes_121 : decode cX7_bodyTypes 121 = .ok (.if_icmp .lt 26, 3) := by decide +kernel
theorem dX7_bodyTypes_124 : decode cX7_bodyTypes 124 = .ok (.aload_n 0, 1) := by decide +kernel
theorem dX7_bodyTypes_125 : decode cX7_bodyTypes 125 = .ok (.getfield 44, 3) := by decide +kernel
theorem dX7_bodyTypes_128 : decode cX7_bodyTypes 128 = .ok (.iload 6, 2) := by decide +kernel
theorem dX7_bodyTypes_130 : decode cX7_bodyTypes 130 = .ok (.iload 7, 2) := by decide +kernel
theorem dX7_bodyTypes_132 : decode cX7_bodyTypes 132 = .ok (.bipush 120, 2) := by decide +kernel
theorem dX7_bodyTypes_134 : decode cX7_bodyTypes 134 = .ok (.if_icmp .ne 7, 3) := by decide +kernel
theorem dX7_bodyTypes_137 : decode cX7_bodyTypes 137 = .ok (.iload_n 3, 1) := by decide +kernel
theorem dX7_bodyTypes_138 : decode cX7_bodyTypes 138 = .ok (.goto 5, 3) := by decide +kernel
theorem dX7_bodyTypes_141 : decode cX7_bodyTypes 141 = .ok (.iload 4, 2) := by decide +kernel
theorem dX7_bodyTypes_143 : decode cX7_bodyTypes 143 = .ok (.iastore, 1) := by decide +kernel
theorem dX7_bodyTypes_144 : decode cX7_bodyTypes 144 = .ok (.goto 57, 3) := by decide +kernel
theorem dX7_bodyTypes_147 : decode cX7_bodyTypes 147 = .ok (.iload 7, 2) := by decide +kernel
theorem dX7_bodyTypes_149 : decode cX7_bodyTypes 149 = .ok (.invokestatic 63, 3) := by decide +kernel
theorem dX7_bodyTypes_152 : decode cX7_bodyTypes 152 = .ok (.bipush (-9), 2) := by decide +kernel
theorem dX7_bodyTypes_154 : decode cX7_bodyTypes 154 = .ok (.if_icmp .eq 27, 3) := by decide +kernel
theorem dX7_bodyTypes_157 : decode cX7_bodyTypes 157 = .ok (.aload_n 0, 1) := by decide +kernel
theorem dX7_bodyTypes_158 : decode cX7_bodyTypes 158 = .ok (.getfield 44, 3) := by decide +kernel
theorem dX7_bodyTypes_161 : decode cX7_bodyTypes 161 = .ok (.iload 6, 2) := by decide +kernel
theorem dX7_bodyTypes_163 : decode cX7_bodyTypes 163 = .ok (.aload_n 0, 1) := by decide +kernel
theorem dX7_bodyTypes_164 : decode cX7_bodyTypes 164 = .ok (.aload_n 1, 1) := by decide +kernel
theorem dX7_bodyTypes_165 : decode cX7_bodyTypes 165 = .ok (.iload 7, 2) := by decide +kernel
theorem dX7_bodyTypes_167 : decode cX7_bodyTypes 167 = .ok (.invokestatic 63, 3) := by decide +kernel
theorem dX7_bodyTypes_170 : decode cX7_bodyTypes 170 = .ok (.iload 9, 2) := by decide +kernel
theorem dX7_bodyTypes_172 : decode cX7_bodyTypes 172 = .ok (.iload 10, 2) := by decide +kernel
theorem dX7_bodyTypes_174 : decode cX7_bodyTypes 174 = .ok (.invokevirtual 208, 3) := by decide +kernel
theorem dX7_bodyTypes_177 : decode cX7_bodyTypes 177 = .ok (.iastore, 1) := by decide +kernel
theorem dX7_bodyTypes_178 : decode cX7_bodyTypes 178 = .ok (.goto 23, 3) := by decide +kernel
theorem dX7_bodyTypes_181 : decode cX7_bodyTypes 181 = .ok (.aload_n 0, 1) := by decide +kernel
theorem dX7_bodyTypes_182 : decode cX7_bodyTypes 182 = .ok (.getfield 44, 3) := by decide +kernel
theorem dX7_bodyTypes_185 : decode cX7_bodyTypes 185 = .ok (.iload 6, 2) := by decide +kernel
theorem dX7_bodyTypes_187 : decode cX7_bodyTypes 187 = .ok (.aload_n 0, 1) := by decide +kernel
theorem dX7_bodyTypes_188 : decode cX7_bodyTypes 188 = .ok (.iload 7, 2) := by decide +kernel
theorem dX7_bodyTypes_190 : decode cX7_bodyTypes 190 = .ok (.invokestatic 70, 3) := by decide +kernel
theorem dX7_bodyTypes_193 : decode cX7_bodyTypes 193 = .ok (.iload 9, 2) := by decide +kernel
theorem dX7_bodyTypes_195 : decode cX7_bodyTypes 195 = .ok (.iload 10, 2) := by decide +kernel
theorem dX7_bodyTypes_197 : decode cX7_bodyTypes 197 = .ok (.invokevirtual 212, 3) := by decide +kernel
theorem dX7_bodyTypes_200 : decode cX7_bodyTypes 200 = .ok (.iastore, 1) := by decide +kernel
theorem dX7_bodyTypes_201 : decode cX7_bodyTypes 201 = .ok (.iinc 6 (-1), 3) := by decide +kernel
theorem dX7_bodyTypes_204 : decode cX7_bodyTypes 204 = .ok (.goto (-156), 3) := by decide +kernel
theorem dX7_bodyTypes_207 : decode cX7_bodyTypes 207 = .ok (.aload_n 0, 1) := by decide +kernel
theorem dX7_bodyTypes_208 : decode cX7_bodyTypes 208 = .ok (.getfield 44, 3) := by decide +kernel
theorem dX7_bodyTypes_211 : decode cX7_bodyTypes 211 = .ok (.iconst 0, 1) := by decide +kernel
theorem dX7_bodyTypes_212 : decode cX7_bodyTypes 212 = .ok (.iaload, 1) := by decide +kernel
theorem dX7_bodyTypes_213 : decode cX7_bodyTypes 213 = .ok (.ireturn, 1) := by decide +kernel
abbrev x_X7_bodyTypes : Cx := (7, cX7_bodyTypes, false, some (.int))
set_option maxRecDepth 10000 in
theorem g_X7_bodyTypes_0 {E : Ev} {d : Nat} {G : Hp} {Q : Po} {x0 : Nat} {x1 : Nat} {x2 : Int32} {x3 : Int32} {x4 : Int32} (h : (qIA 7 E G x1 ((iv 31) * x2) fun v1 => Xr E d x_X7_bodyTypes 11 [some (.ref x0), some (.ref x1), some (.int x2), some (.int x3), some (.int x4), some (.int v1), some (.int ((iv 0))), none, none, none, none] [] G Q)) : Xr E d x_X7_bodyTypes 0 [some (.ref x0), some (.ref x1), some (.int x2), some (.int x3), some (.int x4), none, none, none, none, none, none] [] G Q := by
  refine r_aload_n dX7_bodyTypes_0 rfl ?_
  refine r_bipush dX7_bodyTypes_1 rfl ?_
  refine r_iload_n dX7_bodyTypes_3 rfl ?_
  refine r_imul dX7_bodyTypes_4 ?_
  refine r_iald dX7_bodyTypes_5 (qIA_imp (fun v1 h => ?_) h)
  refine r_istore dX7_bodyTypes_6 rfl ?_
  refine r_iconst dX7_bodyTypes_8 ?_
  refine r_istore dX7_bodyTypes_9 rfl ?_
  exact h
theorem e_X7_bodyTypes {E : Ev} {d : Nat} {G : Hp} {Q : Po} {x0 : Nat} {x1 : Nat} {x2 : Int32} {x3 : Int32} {x4 : Int32} (h : (qIA 7 E G x1 ((iv 31) * x2) fun v1 => Xr E d x_X7_bodyTypes 11 [some (.ref x0), some (.ref x1), some (.int x2), some (.int x3), some (.int x4), some (.int v1), some (.int ((iv 0))), none, none, none, none] [] G Q)) : runs E (d + 1) i_X7_bodyTypes [.ref x0, .ref x1, .int x2, .int x3, .int x4] G Q := by
  rw [runs_eq (m := (yX7_bodyTypes, cX7_bodyTypes, 11, some (.int), 4, 7, false, false)) rfl (Nat.le_of_ble_eq_true rfl)]
  exact g_X7_bodyTypes_0 h
set_option maxRecDepth 10000 in
theorem g_X7_bodyTypes_11 {E : Ev} {d : Nat} {G : Hp} {Q : Po} {x0 : Nat} {x1 : Nat} {x2 : Int32} {x3 : Int32} {x4 : Int32} {x5 : Int32} {x6 : Int32} (h : (if x5 ≤ x6 then Xr E d x_X7_bodyTypes 48 [some (.ref x0), some (.ref x1), some (.int x2), some (.int x3), some (.int x4), some (.int x5), some (.int ((x5 - (iv 1)))), none, none, none, none] [] G Q else (qFR E G x0 7 12 fun v1 => (qIA 7 E G x1 ((((iv 31) * x2) + (iv 1)) + x6) fun v2 => (qIS E G v1 x6 v2 fun G3 => Xr E d x_X7_bodyTypes 11 [some (.ref x0), some (.ref x1), some (.int x2), some (.int x3), some (.int x4), some (.int x5), some (.int ((x6 + (iv 1)))), none, none, none, none] [] G3 Q))))) : Xr E d x_X7_bodyTypes 11 [some (.ref x0), some (.ref x1), some (.int x2), some (.int x3), some (.int x4), some (.int x5), some (.int x6), none, none, none, none] [] G Q := by
  refine r_iload dX7_bodyTypes_11 rfl ?_
  refine r_iload dX7_bodyTypes_13 rfl ?_
  refine r_cge (tgt := 42) dX7_bodyTypes_15 (by decide) (ite_imp (fun h => ?_) (fun h => ?_) h)
  · refine r_iload dX7_bodyTypes_42 rfl ?_
    refine r_iconst dX7_bodyTypes_44 ?_
    refine r_isub dX7_bodyTypes_45 ?_
    refine r_istore dX7_bodyTypes_46 rfl ?_
    exact h
  · refine r_aload_n dX7_bodyTypes_18 rfl ?_
    refine r_getR dX7_bodyTypes_19 rfl (qFR_imp (fun v1 h => ?_) h)
    refine r_iload dX7_bodyTypes_22 rfl ?_
    refine r_aload_n dX7_bodyTypes_24 rfl ?_
    refine r_bipush dX7_bodyTypes_25 rfl ?_
    refine r_iload_n dX7_bodyTypes_27 rfl ?_
    refine r_imul dX7_bodyTypes_28 ?_
    refine r_iconst dX7_bodyTypes_29 ?_
    refine r_iadd dX7_bodyTypes_30 ?_
    refine r_iload dX7_bodyTypes_31 rfl ?_
    refine r_iadd dX7_bodyTypes_33 ?_
    refine r_iald dX7_bodyTypes_34 (qIA_imp (fun v2 h => ?_) h)
    refine r_iast dX7_bodyTypes_35 (qIS_imp (fun G3 h => ?_) h)
    refine r_iinc dX7_bodyTypes_36 rfl rfl ?_
    refine r_goto (tgt := 11) dX7_bodyTypes_39 (by decide) ?_
    exact h
set_option maxRecDepth 10000 in
theorem g_X7_bodyTypes_48 {E : Ev} {d : Nat} {G : Hp} {Q : Po} {x0 : Nat} {x1 : Nat} {x2 : Int32} {x3 : Int32} {x4 : Int32} {x5 : Int32} {x6 : Int32} {l7 : Option Value} {l8 : Option Value} {l9 : Option Value} {l10 : Option Value} (h : (if x6 < 0 then (qFR E G x0 7 19 fun v1 => (qIA 7 E G v1 (iv 0) fun v2 => Q (some (.int v2)) G)) else (qFR E G x0 7 12 fun v3 => (qIA 7 E G v3 x6 fun v4 => (qCI E d i_X7_wants [.int v4] G fun v6 G5 => (if v6 ≤ 0 then (if v6 ≤ (iv 1) then (if v4 < (iv 120) then (qCI E d i_X7_terminal [.int v4] G5 fun v8 G7 => (if v8 = (iv (-9)) then (qFR E G7 x0 7 19 fun v9 => (qCI E d i_X7_nonterminal [.int v4] G7 fun v11 G10 => (rcv E G10 x0 7 = true ∧ (qCI E d i_X7_appliedTypes [.ref x0, .int v11, .int ((iv 0)), .int ((iv 0))] G10 fun v13 G12 => (qIS E G12 v9 x6 v13 fun G14 => Xr E d x_X7_bodyTypes 48 [some (.ref x0), some (.ref x1), some (.int x2), some (.int x3), some (.int x4), some (.int x5), some (.int ((x6 + (iv (-1))))), some (.int v4), some (.int v6), some (.int ((iv 0))), some (.int ((iv 0)))] [] G14 Q))))) else (qFR E G7 x0 7 19 fun v15 => (qCI E d i_X7_terminal [.int v4] G7 fun v17 G16 => (rcv E G16 x0 7 = true ∧ (qCI E d i_X7_terminalTypes [.ref x0, .ref x1, .int v17, .int ((iv 0)), .int ((iv 0))] G16 fun v19 G18 => (qIS E G18 v15 x6 v19 fun G20 => Xr E d x_X7_bodyTypes 48 [some (.ref x0), some (.ref x1), some (.int x2), some (.int x3), some (.int x4), some (.int x5), some (.int ((x6 + (iv (-1))))), some (.int v4), some (.int v6), some (.int ((iv 0))), some (.int ((iv 0)))] [] G20 Q))))))) else (qFR E G5 x0 7 19 fun v21 => (if ¬ v4 = (iv 120) then (qIS E G5 v21 x6 x4 fun G22 => Xr E d x_X7_bodyTypes 48 [some (.ref x0), some (.ref x1), some (.int x2), some (.int x3), some (.int x4), some (.int x5), some (.int ((x6 + (iv (-1))))), some (.int v4), some (.int v6), some (.int ((iv 0))), some (.int ((iv 0)))] [] G22 Q) else (qIS E G5 v21 x6 x3 fun G23 => Xr E d x_X7_bodyTypes 48 [some (.ref x0), some (.ref x1), some (.int x2), some (.int x3), some (.int x4), some (.int x5), some (.int ((x6 + (iv (-1))))), some (.int v4), some (.int v6), some (.int ((iv 0))), some (.int ((iv 0)))] [] G23 Q)))) else (qFR E G5 x0 7 19 fun v24 => (qFR E G5 x0 7 12 fun v25 => (qCI E d i_X7_endOf [.ref v25, .int ((x6 + (iv 1)))] G5 fun v27 G26 => (qIA 7 E G26 v24 v27 fun v28 => (if v4 < (iv 120) then (qCI E d i_X7_terminal [.int v4] G26 fun v30 G29 => (if v30 = (iv (-9)) then (qFR E G29 x0 7 19 fun v31 => (qCI E d i_X7_nonterminal [.int v4] G29 fun v33 G32 => (rcv E G32 x0 7 = true ∧ (qCI E d i_X7_appliedTypes [.ref x0, .int v33, .int ((iv 0)), .int v28] G32 fun v35 G34 => (qIS E G34 v31 x6 v35 fun G36 => Xr E d x_X7_bodyTypes 48 [some (.ref x0), some (.ref x1), some (.int x2), some (.int x3), some (.int x4), some (.int x5), some (.int ((x6 + (iv (-1))))), some (.int v4), some (.int v6), some (.int ((iv 0))), some (.int v28)] [] G36 Q))))) else (qFR E G29 x0 7 19 fun v37 => (qCI E d i_X7_terminal [.int v4] G29 fun v39 G38 => (rcv E G38 x0 7 = true ∧ (qCI E d i_X7_terminalTypes [.ref x0, .ref x1, .int v39, .int ((iv 0)), .int v28] G38 fun v41 G40 => (qIS E G40 v37 x6 v41 fun G42 => Xr E d x_X7_bodyTypes 48 [some (.ref x0), some (.ref x1), some (.int x2), some (.int x3), some (.int x4), some (.int x5), some (.int ((x6 + (iv (-1))))), some (.int v4), some (.int v6), some (.int ((iv 0))), some (.int v28)] [] G42 Q))))))) else (qFR E G26 x0 7 19 fun v43 => (if ¬ v4 = (iv 120) then (qIS E G26 v43 x6 x4 fun G44 => Xr E d x_X7_bodyTypes 48 [some (.ref x0), some (.ref x1), some (.int x2), some (.int x3), some (.int x4), some (.int x5), some (.int ((x6 + (iv (-1))))), some (.int v4), some (.int v6), some (.int ((iv 0))), some (.int v28)] [] G44 Q) else (qIS E G26 v43 x6 x3 fun G45 => Xr E d x_X7_bodyTypes 48 [some (.ref x0), some (.ref x1), some (.int x2), some (.int x3), some (.int x4), some (.int x5), some (.int ((x6 + (iv (-1))))), some (.int v4), some (.int v6), some (.int ((iv 0))), some (.int v28)] [] G45 Q))))))))) else (qFR E G5 x0 7 19 fun v46 => (qIA 7 E G5 v46 (x6 + (iv 1)) fun v47 => (if v6 ≤ (iv 1) then (if v4 < (iv 120) then (qCI E d i_X7_terminal [.int v4] G5 fun v49 G48 => (if v49 = (iv (-9)) then (qFR E G48 x0 7 19 fun v50 => (qCI E d i_X7_nonterminal [.int v4] G48 fun v52 G51 => (rcv E G51 x0 7 = true ∧ (qCI E d i_X7_appliedTypes [.ref x0, .int v52, .int v47, .int ((iv 0))] G51 fun v54 G53 => (qIS E G53 v50 x6 v54 fun G55 => Xr E d x_X7_bodyTypes 48 [some (.ref x0), some (.ref x1), some (.int x2), some (.int x3), some (.int x4), some (.int x5), some (.int ((x6 + (iv (-1))))), some (.int v4), some (.int v6), some (.int v47), some (.int ((iv 0)))] [] G55 Q))))) else (qFR E G48 x0 7 19 fun v56 => (qCI E d i_X7_terminal [.int v4] G48 fun v58 G57 => (rcv E G57 x0 7 = true ∧ (qCI E d i_X7_terminalTypes [.ref x0, .ref x1, .int v58, .int v47, .int ((iv 0))] G57 fun v60 G59 => (qIS E G59 v56 x6 v60 fun G61 => Xr E d x_X7_bodyTypes 48 [some (.ref x0), some (.ref x1), some (.int x2), some (.int x3), some (.int x4), some (.int x5), some (.int ((x6 + (iv (-1))))), some (.int v4), some (.int v6), some (.int v47), some (.int ((iv 0)))] [] G61 Q))))))) else (qFR E G5 x0 7 19 fun v62 => (if ¬ v4 = (iv 120) then (qIS E G5 v62 x6 x4 fun G63 => Xr E d x_X7_bodyTypes 48 [some (.ref x0), some (.ref x1), some (.int x2), some (.int x3), some (.int x4), some (.int x5), some (.int ((x6 + (iv (-1))))), some (.int v4), some (.int v6), some (.int v47), some (.int ((iv 0)))] [] G63 Q) else (qIS E G5 v62 x6 x3 fun G64 => Xr E d x_X7_bodyTypes 48 [some (.ref x0), some (.ref x1), some (.int x2), some (.int x3), some (.int x4), some (.int x5), some (.int ((x6 + (iv (-1))))), some (.int v4), some (.int v6), some (.int v47), some (.int ((iv 0)))] [] G64 Q)))) else (qFR E G5 x0 7 19 fun v65 => (qFR E G5 x0 7 12 fun v66 => (qCI E d i_X7_endOf [.ref v66, .int ((x6 + (iv 1)))] G5 fun v68 G67 => (qIA 7 E G67 v65 v68 fun v69 => (if v4 < (iv 120) then (qCI E d i_X7_terminal [.int v4] G67 fun v71 G70 => (if v71 = (iv (-9)) then (qFR E G70 x0 7 19 fun v72 => (qCI E d i_X7_nonterminal [.int v4] G70 fun v74 G73 => (rcv E G73 x0 7 = true ∧ (qCI E d i_X7_appliedTypes [.ref x0, .int v74, .int v47, .int v69] G73 fun v76 G75 => (qIS E G75 v72 x6 v76 fun G77 => Xr E d x_X7_bodyTypes 48 [some (.ref x0), some (.ref x1), some (.int x2), some (.int x3), some (.int x4), some (.int x5), some (.int ((x6 + (iv (-1))))), some (.int v4), some (.int v6), some (.int v47), some (.int v69)] [] G77 Q))))) else (qFR E G70 x0 7 19 fun v78 => (qCI E d i_X7_terminal [.int v4] G70 fun v80 G79 => (rcv E G79 x0 7 = true ∧ (qCI E d i_X7_terminalTypes [.ref x0, .ref x1, .int v80, .int v47, .int v69] G79 fun v82 G81 => (qIS E G81 v78 x6 v82 fun G83 => Xr E d x_X7_bodyTypes 48 [some (.ref x0), some (.ref x1), some (.int x2), some (.int x3), some (.int x4), some (.int x5), some (.int ((x6 + (iv (-1))))), some (.int v4), some (.int v6), some (.int v47), some (.int v69)] [] G83 Q))))))) else (qFR E G67 x0 7 19 fun v84 => (if ¬ v4 = (iv 120) then (qIS E G67 v84 x6 x4 fun G85 => Xr E d x_X7_bodyTypes 48 [some (.ref x0), some (.ref x1), some (.int x2), some (.int x3), some (.int x4), some (.int x5), some (.int ((x6 + (iv (-1))))), some (.int v4), some (.int v6), some (.int v47), some (.int v69)] [] G85 Q) else (qIS E G67 v84 x6 x3 fun G86 => Xr E d x_X7_bodyTypes 48 [some (.ref x0), some (.ref x1), some (.int x2), some (.int x3), some (.int x4), some (.int x5), some (.int ((x6 + (iv (-1))))), some (.int v4), some (.int v6), some (.int v47), some (.int v69)] [] G86 Q))))))))))))))))) : Xr E d x_X7_bodyTypes 48 [some (.ref x0), some (.ref x1), some (.int x2), some (.int x3), some (.int x4), some (.int x5), some (.int x6), l7, l8, l9, l10] [] G Q := by
  refine r_iload dX7_bodyTypes_48 rfl ?_
  refine r_iflt (tgt := 207) dX7_bodyTypes_50 (by decide) (ite_imp (fun h => ?_) (fun h => ?_) h)
  · refine r_aload_n dX7_bodyTypes_207 rfl ?_
    refine r_getR dX7_bodyTypes_208 rfl (qFR_imp (fun v1 h => ?_) h)
    refine r_iconst dX7_bodyTypes_211 ?_
    refine r_iald dX7_bodyTypes_212 (qIA_imp (fun v2 h => ?_) h)
    exact r_iret dX7_bodyTypes_213 rfl ⟨rfl, h⟩
  · refine r_aload_n dX7_bodyTypes_53 rfl ?_
    refine r_getR dX7_bodyTypes_54 rfl (qFR_imp (fun v3 h => ?_) h)
    refine r_iload dX7_bodyTypes_57 rfl ?_
    refine r_iald dX7_bodyTypes_59 (qIA_imp (fun v4 h => ?_) h)
    refine r_istore dX7_bodyTypes_60 rfl ?_
    refine r_iload dX7_bodyTypes_62 rfl ?_
    refine r_cI dX7_bodyTypes_64 rfl (invS_eq rfl (by decide) rfl rfl rfl rfl ⟨rfl, Nat.le_of_ble_eq_true rfl⟩) (qCI_imp (fun v6 G5 h => ?_) h)
    refine r_istore dX7_bodyTypes_67 rfl ?_
    refine r_iload dX7_bodyTypes_69 rfl ?_
    refine r_ifle (tgt := 86) dX7_bodyTypes_71 (by decide) (ite_imp (fun h => ?_) (fun h => ?_) h)
    · refine r_iconst dX7_bodyTypes_86 ?_
      refine r_istore dX7_bodyTypes_87 rfl ?_
      refine r_iload dX7_bodyTypes_89 rfl ?_
      refine r_iconst dX7_bodyTypes_91 ?_
      refine r_cle (tgt := 114) dX7_bodyTypes_92 (by decide) (ite_imp (fun h => ?_) (fun h => ?_) h)
      · refine r_iconst dX7_bodyTypes_114 ?_
        refine r_istore dX7_bodyTypes_115 rfl ?_
        refine r_iload dX7_bodyTypes_117 rfl ?_
        refine r_bipush dX7_bodyTypes_119 rfl ?_
        refine r_clt (tgt := 147) dX7_bodyTypes_121 (by decide) (ite_imp (fun h => ?_) (fun h => ?_) h)
        · refine r_iload dX7_bodyTypes_147 rfl ?_
          refine r_cI dX7_bodyTypes_149 rfl (invS_eq rfl (by decide) rfl rfl rfl rfl ⟨rfl, Nat.le_of_ble_eq_true rfl⟩) (qCI_imp (fun v8 G7 h => ?_) h)
          refine r_bipush dX7_bodyTypes_152 rfl ?_
          refine r_ceq (tgt := 181) dX7_bodyTypes_154 (by decide) (ite_imp (fun h => ?_) (fun h => ?_) h)
          · refine r_aload_n dX7_bodyTypes_181 rfl ?_
            refine r_getR dX7_bodyTypes_182 rfl (qFR_imp (fun v9 h => ?_) h)
            refine r_iload dX7_bodyTypes_185 rfl ?_
            refine r_aload_n dX7_bodyTypes_187 rfl ?_
            refine r_iload dX7_bodyTypes_188 rfl ?_
            refine r_cI dX7_bodyTypes_190 rfl (invS_eq rfl (by decide) rfl rfl rfl rfl ⟨rfl, Nat.le_of_ble_eq_true rfl⟩) (qCI_imp (fun v11 G10 h => ?_) h)
            refine r_iload dX7_bodyTypes_193 rfl ?_
            refine r_iload dX7_bodyTypes_195 rfl ?_
            refine r_cI dX7_bodyTypes_197 rfl (invV_eq rfl rfl rfl rfl rfl rfl ⟨rfl, Nat.le_of_ble_eq_true rfl⟩ h.1) (qCI_imp (fun v13 G12 h => ?_) h.2)
            refine r_iast dX7_bodyTypes_200 (qIS_imp (fun G14 h => ?_) h)
            refine r_iinc dX7_bodyTypes_201 rfl rfl ?_
            refine r_goto (tgt := 48) dX7_bodyTypes_204 (by decide) ?_
            exact h
          · refine r_aload_n dX7_bodyTypes_157 rfl ?_
            refine r_getR dX7_bodyTypes_158 rfl (qFR_imp (fun v15 h => ?_) h)
            refine r_iload dX7_bodyTypes_161 rfl ?_
            refine r_aload_n dX7_bodyTypes_163 rfl ?_
            refine r_aload_n dX7_bodyTypes_164 rfl ?_
            refine r_iload dX7_bodyTypes_165 rfl ?_
            refine r_cI dX7_bodyTypes_167 rfl (invS_eq rfl (by decide) rfl rfl rfl rfl ⟨rfl, Nat.le_of_ble_eq_true rfl⟩) (qCI_imp (fun v17 G16 h => ?_) h)
            refine r_iload dX7_bodyTypes_170 rfl ?_
            refine r_iload dX7_bodyTypes_172 rfl ?_
            refine r_cI dX7_bodyTypes_174 rfl (invV_eq rfl rfl rfl rfl rfl rfl ⟨rfl, Nat.le_of_ble_eq_true rfl⟩ h.1) (qCI_imp (fun v19 G18 h => ?_) h.2)
            refine r_iast dX7_bodyTypes_177 (qIS_imp (fun G20 h => ?_) h)
            refine r_goto (tgt := 201) dX7_bodyTypes_178 (by decide) ?_
            refine r_iinc dX7_bodyTypes_201 rfl rfl ?_
            refine r_goto (tgt := 48) dX7_bodyTypes_204 (by decide) ?_
            exact h
        · refine r_aload_n dX7_bodyTypes_124 rfl ?_
          refine r_getR dX7_bodyTypes_125 rfl (qFR_imp (fun v21 h => ?_) h)
          refine r_iload dX7_bodyTypes_128 rfl ?_
          refine r_iload dX7_bodyTypes_130 rfl ?_
          refine r_bipush dX7_bodyTypes_132 rfl ?_
          refine r_cne (tgt := 141) dX7_bodyTypes_134 (by decide) (ite_imp (fun h => ?_) (fun h => ?_) h)
          · refine r_iload dX7_bodyTypes_141 rfl ?_
            refine r_iast dX7_bodyTypes_143 (qIS_imp (fun G22 h => ?_) h)
            refine r_goto (tgt := 201) dX7_bodyTypes_144 (by decide) ?_
            refine r_iinc dX7_bodyTypes_201 rfl rfl ?_
            refine r_goto (tgt := 48) dX7_bodyTypes_204 (by decide) ?_
            exact h
          · refine r_iload_n dX7_bodyTypes_137 rfl ?_
            refine r_goto (tgt := 143) dX7_bodyTypes_138 (by decide) ?_
            refine r_iast dX7_bodyTypes_143 (qIS_imp (fun G23 h => ?_) h)
            refine r_goto (tgt := 201) dX7_bodyTypes_144 (by decide) ?_
            refine r_iinc dX7_bodyTypes_201 rfl rfl ?_
            refine r_goto (tgt := 48) dX7_bodyTypes_204 (by decide) ?_
            exact h
      · refine r_aload_n dX7_bodyTypes_95 rfl ?_
        refine r_getR dX7_bodyTypes_96 rfl (qFR_imp (fun v24 h => ?_) h)
        refine r_aload_n dX7_bodyTypes_99 rfl ?_
        refine r_getR dX7_bodyTypes_100 rfl (qFR_imp (fun v25 h => ?_) h)
        refine r_iload dX7_bodyTypes_103 rfl ?_
        refine r_iconst dX7_bodyTypes_105 ?_
        refine r_iadd dX7_bodyTypes_106 ?_
        refine r_cI dX7_bodyTypes_107 rfl (invS_eq rfl (by decide) rfl rfl rfl rfl ⟨rfl, Nat.le_of_ble_eq_true rfl⟩) (qCI_imp (fun v27 G26 h => ?_) h)
        refine r_iald dX7_bodyTypes_110 (qIA_imp (fun v28 h => ?_) h)
        refine r_goto (tgt := 115) dX7_bodyTypes_111 (by decide) ?_
        refine r_istore dX7_bodyTypes_115 rfl ?_
        refine r_iload dX7_bodyTypes_117 rfl ?_
        refine r_bipush dX7_bodyTypes_119 rfl ?_
        refine r_clt (tgt := 147) dX7_bodyTypes_121 (by decide) (ite_imp (fun h => ?_) (fun h => ?_) h)
        · refine r_iload dX7_bodyTypes_147 rfl ?_
          refine r_cI dX7_bodyTypes_149 rfl (invS_eq rfl (by decide) rfl rfl rfl rfl ⟨rfl, Nat.le_of_ble_eq_true rfl⟩) (qCI_imp (fun v30 G29 h => ?_) h)
          refine r_bipush dX7_bodyTypes_152 rfl ?_
          refine r_ceq (tgt := 181) dX7_bodyTypes_154 (by decide) (ite_imp (fun h => ?_) (fun h => ?_) h)
          · refine r_aload_n dX7_bodyTypes_181 rfl ?_
            refine r_getR dX7_bodyTypes_182 rfl (qFR_imp (fun v31 h => ?_) h)
            refine r_iload dX7_bodyTypes_185 rfl ?_
            refine r_aload_n dX7_bodyTypes_187 rfl ?_
            refine r_iload dX7_bodyTypes_188 rfl ?_
            refine r_cI dX7_bodyTypes_190 rfl (invS_eq rfl (by decide) rfl rfl rfl rfl ⟨rfl, Nat.le_of_ble_eq_true rfl⟩) (qCI_imp (fun v33 G32 h => ?_) h)
            refine r_iload dX7_bodyTypes_193 rfl ?_
            refine r_iload dX7_bodyTypes_195 rfl ?_
            refine r_cI dX7_bodyTypes_197 rfl (invV_eq rfl rfl rfl rfl rfl rfl ⟨rfl, Nat.le_of_ble_eq_true rfl⟩ h.1) (qCI_imp (fun v35 G34 h => ?_) h.2)
            refine r_iast dX7_bodyTypes_200 (qIS_imp (fun G36 h => ?_) h)
            refine r_iinc dX7_bodyTypes_201 rfl rfl ?_
            refine r_goto (tgt := 48) dX7_bodyTypes_204 (by decide) ?_
            exact h
          · refine r_aload_n dX7_bodyTypes_157 rfl ?_
            refine r_getR dX7_bodyTypes_158 rfl (qFR_imp (fun v37 h => ?_) h)
            refine r_iload dX7_bodyTypes_161 rfl ?_
            refine r_aload_n dX7_bodyTypes_163 rfl ?_
            refine r_aload_n dX7_bodyTypes_164 rfl ?_
            refine r_iload dX7_bodyTypes_165 rfl ?_
            refine r_cI dX7_bodyTypes_167 rfl (invS_eq rfl (by decide) rfl rfl rfl rfl ⟨rfl, Nat.le_of_ble_eq_true rfl⟩) (qCI_imp (fun v39 G38 h => ?_) h)
            refine r_iload dX7_bodyTypes_170 rfl ?_
            refine r_iload dX7_bodyTypes_172 rfl ?_
            refine r_cI dX7_bodyTypes_174 rfl (invV_eq rfl rfl rfl rfl rfl rfl ⟨rfl, Nat.le_of_ble_eq_true rfl⟩ h.1) (qCI_imp (fun v41 G40 h => ?_) h.2)
            refine r_iast dX7_bodyTypes_177 (qIS_imp (fun G42 h => ?_) h)
            refine r_goto (tgt := 201) dX7_bodyTypes_178 (by decide) ?_
            refine r_iinc dX7_bodyTypes_201 rfl rfl ?_
            refine r_goto (tgt := 48) dX7_bodyTypes_204 (by decide) ?_
            exact h
        · refine r_aload_n dX7_bodyTypes_124 rfl ?_
          refine r_getR dX7_bodyTypes_125 rfl (qFR_imp (fun v43 h => ?_) h)
          refine r_iload dX7_bodyTypes_128 rfl ?_
          refine r_iload dX7_bodyTypes_130 rfl ?_
          refine r_bipush dX7_bodyTypes_132 rfl ?_
          refine r_cne (tgt := 141) dX7_bodyTypes_134 (by decide) (ite_imp (fun h => ?_) (fun h => ?_) h)
          · refine r_iload dX7_bodyTypes_141 rfl ?_
            refine r_iast dX7_bodyTypes_143 (qIS_imp (fun G44 h => ?_) h)
            refine r_goto (tgt := 201) dX7_bodyTypes_144 (by decide) ?_
            refine r_iinc dX7_bodyTypes_201 rfl rfl ?_
            refine r_goto (tgt := 48) dX7_bodyTypes_204 (by decide) ?_
            exact h
          · refine r_iload_n dX7_bodyTypes_137 rfl ?_
            refine r_goto (tgt := 143) dX7_bodyTypes_138 (by decide) ?_
            refine r_iast dX7_bodyTypes_143 (qIS_imp (fun G45 h => ?_) h)
            refine r_goto (tgt := 201) dX7_bodyTypes_144 (by decide) ?_
            refine r_iinc dX7_bodyTypes_201 rfl rfl ?_
            refine r_goto (tgt := 48) dX7_bodyTypes_204 (by decide) ?_
            exact h
    · refine r_aload_n dX7_bodyTypes_74 rfl ?_
      refine r_getR dX7_bodyTypes_75 rfl (qFR_imp (fun v46 h => ?_) h)
      refine r_iload dX7_bodyTypes_78 rfl ?_
      refine r_iconst dX7_bodyTypes_80 ?_
      refine r_iadd dX7_bodyTypes_81 ?_
      refine r_iald dX7_bodyTypes_82 (qIA_imp (fun v47 h => ?_) h)
      refine r_goto (tgt := 87) dX7_bodyTypes_83 (by decide) ?_
      refine r_istore dX7_bodyTypes_87 rfl ?_
      refine r_iload dX7_bodyTypes_89 rfl ?_
      refine r_iconst dX7_bodyTypes_91 ?_
      refine r_cle (tgt := 114) dX7_bodyTypes_92 (by decide) (ite_imp (fun h => ?_) (fun h => ?_) h)
      · refine r_iconst dX7_bodyTypes_114 ?_
        refine r_istore dX7_bodyTypes_115 rfl ?_
        refine r_iload dX7_bodyTypes_117 rfl ?_
        refine r_bipush dX7_bodyTypes_119 rfl ?_
        refine r_clt (tgt := 147) dX7_bodyTypes_121 (by decide) (ite_imp (fun h => ?_) (fun h => ?_) h)
        · refine r_iload dX7_bodyTypes_147 rfl ?_
          refine r_cI dX7_bodyTypes_149 rfl (invS_eq rfl (by decide) rfl rfl rfl rfl ⟨rfl, Nat.le_of_ble_eq_true rfl⟩) (qCI_imp (fun v49 G48 h => ?_) h)
          refine r_bipush dX7_bodyTypes_152 rfl ?_
          refine r_ceq (tgt := 181) dX7_bodyTypes_154 (by decide) (ite_imp (fun h => ?_) (fun h => ?_) h)
          · refine r_aload_n dX7_bodyTypes_181 rfl ?_
            refine r_getR dX7_bodyTypes_182 rfl (qFR_imp (fun v50 h => ?_) h)
            refine r_iload dX7_bodyTypes_185 rfl ?_
            refine r_aload_n dX7_bodyTypes_187 rfl ?_
            refine r_iload dX7_bodyTypes_188 rfl ?_
            refine r_cI dX7_bodyTypes_190 rfl (invS_eq rfl (by decide) rfl rfl rfl rfl ⟨rfl, Nat.le_of_ble_eq_true rfl⟩) (qCI_imp (fun v52 G51 h => ?_) h)
            refine r_iload dX7_bodyTypes_193 rfl ?_
            refine r_iload dX7_bodyTypes_195 rfl ?_
            refine r_cI dX7_bodyTypes_197 rfl (invV_eq rfl rfl rfl rfl rfl rfl ⟨rfl, Nat.le_of_ble_eq_true rfl⟩ h.1) (qCI_imp (fun v54 G53 h => ?_) h.2)
            refine r_iast dX7_bodyTypes_200 (qIS_imp (fun G55 h => ?_) h)
            refine r_iinc dX7_bodyTypes_201 rfl rfl ?_
            refine r_goto (tgt := 48) dX7_bodyTypes_204 (by decide) ?_
            exact h
          · refine r_aload_n dX7_bodyTypes_157 rfl ?_
            refine r_getR dX7_bodyTypes_158 rfl (qFR_imp (fun v56 h => ?_) h)
            refine r_iload dX7_bodyTypes_161 rfl ?_
            refine r_aload_n dX7_bodyTypes_163 rfl ?_
            refine r_aload_n dX7_bodyTypes_164 rfl ?_
            refine r_iload dX7_bodyTypes_165 rfl ?_
            refine r_cI dX7_bodyTypes_167 rfl (invS_eq rfl (by decide) rfl rfl rfl rfl ⟨rfl, Nat.le_of_ble_eq_true rfl⟩) (qCI_imp (fun v58 G57 h => ?_) h)
            refine r_iload dX7_bodyTypes_170 rfl ?_
            refine r_iload dX7_bodyTypes_172 rfl ?_
            refine r_cI dX7_bodyTypes_174 rfl (invV_eq rfl rfl rfl rfl rfl rfl ⟨rfl, Nat.le_of_ble_eq_true rfl⟩ h.1) (qCI_imp (fun v60 G59 h => ?_) h.2)
            refine r_iast dX7_bodyTypes_177 (qIS_imp (fun G61 h => ?_) h)
            refine r_goto (tgt := 201) dX7_bodyTypes_178 (by decide) ?_
            refine r_iinc dX7_bodyTypes_201 rfl rfl ?_
            refine r_goto (tgt := 48) dX7_bodyTypes_204 (by decide) ?_
            exact h
        · refine r_aload_n dX7_bodyTypes_124 rfl ?_
          refine r_getR dX7_bodyTypes_125 rfl (qFR_imp (fun v62 h => ?_) h)
          refine r_iload dX7_bodyTypes_128 rfl ?_
          refine r_iload dX7_bodyTypes_130 rfl ?_
          refine r_bipush dX7_bodyTypes_132 rfl ?_
          refine r_cne (tgt := 141) dX7_bodyTypes_134 (by decide) (ite_imp (fun h => ?_) (fun h => ?_) h)
          · refine r_iload dX7_bodyTypes_141 rfl ?_
            refine r_iast dX7_bodyTypes_143 (qIS_imp (fun G63 h => ?_) h)
            refine r_goto (tgt := 201) dX7_bodyTypes_144 (by decide) ?_
            refine r_iinc dX7_bodyTypes_201 rfl rfl ?_
            refine r_goto (tgt := 48) dX7_bodyTypes_204 (by decide) ?_
            exact h
          · refine r_iload_n dX7_bodyTypes_137 rfl ?_
            refine r_goto (tgt := 143) dX7_bodyTypes_138 (by decide) ?_
            refine r_iast dX7_bodyTypes_143 (qIS_imp (fun G64 h => ?_) h)
            refine r_goto (tgt := 201) dX7_bodyTypes_144 (by decide) ?_
            refine r_iinc dX7_bodyTypes_201 rfl rfl ?_
            refine r_goto (tgt := 48) dX7_bodyTypes_204 (by decide) ?_
            exact h
      · refine r_aload_n dX7_bodyTypes_95 rfl ?_
        refine r_getR dX7_bodyTypes_96 rfl (qFR_imp (fun v65 h => ?_) h)
        refine r_aload_n dX7_bodyTypes_99 rfl ?_
        refine r_getR dX7_bodyTypes_100 rfl (qFR_imp (fun v66 h => ?_) h)
        refine r_iload dX7_bodyTypes_103 rfl ?_
        refine r_iconst dX7_bodyTypes_105 ?_
        refine r_iadd dX7_bodyTypes_106 ?_
        refine r_cI dX7_bodyTypes_107 rfl (invS_eq rfl (by decide) rfl rfl rfl rfl ⟨rfl, Nat.le_of_ble_eq_true rfl⟩) (qCI_imp (fun v68 G67 h => ?_) h)
        refine r_iald dX7_bodyTypes_110 (qIA_imp (fun v69 h => ?_) h)
        refine r_goto (tgt := 115) dX7_bodyTypes_111 (by decide) ?_
        refine r_istore dX7_bodyTypes_115 rfl ?_
        refine r_iload dX7_bodyTypes_117 rfl ?_
        refine r_bipush dX7_bodyTypes_119 rfl ?_
        refine r_clt (tgt := 147) dX7_bodyTypes_121 (by decide) (ite_imp (fun h => ?_) (fun h => ?_) h)
        · refine r_iload dX7_bodyTypes_147 rfl ?_
          refine r_cI dX7_bodyTypes_149 rfl (invS_eq rfl (by decide) rfl rfl rfl rfl ⟨rfl, Nat.le_of_ble_eq_true rfl⟩) (qCI_imp (fun v71 G70 h => ?_) h)
          refine r_bipush dX7_bodyTypes_152 rfl ?_
          refine r_ceq (tgt := 181) dX7_bodyTypes_154 (by decide) (ite_imp (fun h => ?_) (fun h => ?_) h)
          · refine r_aload_n dX7_bodyTypes_181 rfl ?_
            refine r_getR dX7_bodyTypes_182 rfl (qFR_imp (fun v72 h => ?_) h)
            refine r_iload dX7_bodyTypes_185 rfl ?_
            refine r_aload_n dX7_bodyTypes_187 rfl ?_
            refine r_iload dX7_bodyTypes_188 rfl ?_
            refine r_cI dX7_bodyTypes_190 rfl (invS_eq rfl (by decide) rfl rfl rfl rfl ⟨rfl, Nat.le_of_ble_eq_true rfl⟩) (qCI_imp (fun v74 G73 h => ?_) h)
            refine r_iload dX7_bodyTypes_193 rfl ?_
            refine r_iload dX7_bodyTypes_195 rfl ?_
            refine r_cI dX7_bodyTypes_197 rfl (invV_eq rfl rfl rfl rfl rfl rfl ⟨rfl, Nat.le_of_ble_eq_true rfl⟩ h.1) (qCI_imp (fun v76 G75 h => ?_) h.2)
            refine r_iast dX7_bodyTypes_200 (qIS_imp (fun G77 h => ?_) h)
            refine r_iinc dX7_bodyTypes_201 rfl rfl ?_
            refine r_goto (tgt := 48) dX7_bodyTypes_204 (by decide) ?_
            exact h
          · refine r_aload_n dX7_bodyTypes_157 rfl ?_
            refine r_getR dX7_bodyTypes_158 rfl (qFR_imp (fun v78 h => ?_) h)
            refine r_iload dX7_bodyTypes_161 rfl ?_
            refine r_aload_n dX7_bodyTypes_163 rfl ?_
            refine r_aload_n dX7_bodyTypes_164 rfl ?_
            refine r_iload dX7_bodyTypes_165 rfl ?_
            refine r_cI dX7_bodyTypes_167 rfl (invS_eq rfl (by decide) rfl rfl rfl rfl ⟨rfl, Nat.le_of_ble_eq_true rfl⟩) (qCI_imp (fun v80 G79 h => ?_) h)
            refine r_iload dX7_bodyTypes_170 rfl ?_
            refine r_iload dX7_bodyTypes_172 rfl ?_
            refine r_cI dX7_bodyTypes_174 rfl (invV_eq rfl rfl rfl rfl rfl rfl ⟨rfl, Nat.le_of_ble_eq_true rfl⟩ h.1) (qCI_imp (fun v82 G81 h => ?_) h.2)
            refine r_iast dX7_bodyTypes_177 (qIS_imp (fun G83 h => ?_) h)
            refine r_goto (tgt := 201) dX7_bodyTypes_178 (by decide) ?_
            refine r_iinc dX7_bodyTypes_201 rfl rfl ?_
            refine r_goto (tgt := 48) dX7_bodyTypes_204 (by decide) ?_
            exact h
        · refine r_aload_n dX7_bodyTypes_124 rfl ?_
          refine r_getR dX7_bodyTypes_125 rfl (qFR_imp (fun v84 h => ?_) h)
          refine r_iload dX7_bodyTypes_128 rfl ?_
          refine r_iload dX7_bodyTypes_130 rfl ?_
          refine r_bipush dX7_bodyTypes_132 rfl ?_
          refine r_cne (tgt := 141) dX7_bodyTypes_134 (by decide) (ite_imp (fun h => ?_) (fun h => ?_) h)
          · refine r_iload dX7_bodyTypes_141 rfl ?_
            refine r_iast dX7_bodyTypes_143 (qIS_imp (fun G85 h => ?_) h)
            refine r_goto (tgt := 201) dX7_bodyTypes_144 (by decide) ?_
            refine r_iinc dX7_bodyTypes_201 rfl rfl ?_
            refine r_goto (tgt := 48) dX7_bodyTypes_204 (by decide) ?_
            exact h
          · refine r_iload_n dX7_bodyTypes_137 rfl ?_
            refine r_goto (tgt := 143) dX7_bodyTypes_138 (by decide) ?_
            refine r_iast dX7_bodyTypes_143 (qIS_imp (fun G86 h => ?_) h)
            refine r_goto (tgt := 201) dX7_bodyTypes_144 (by decide) ?_
            refine r_iinc dX7_bodyTypes_201 rfl rfl ?_
            refine r_goto (tgt := 48) dX7_bodyTypes_204 (by decide) ?_
            exact h
theorem dX7_isRoundLess_0 : decode cX7_isRoundLess 0 = .ok (.iconst 0, 1) := by decide +kernel
theorem dX7_isRoundLess_1 : decode cX7_isRoundLess 1 = .ok (.istore_n 2, 1) := by decide +kernel
theorem dX7_isRoundLess_2 : decode cX7_isRoundLess 2 = .ok (.iload_n 2, 1) := by decide +kernel
theorem dX7_isRoundLess_3 : decode cX7_isRoundLess 3 = .ok (.iconst 4, 1) := by decide +kernel
theorem dX7_isRoundLess_4 : decode cX7_isRoundLess 4 = .ok (.if_icmp .ge 118, 3) := by decide +kernel
theorem dX7_isRoundLess_7 : decode cX7_isRoundLess 7 = .ok (.iconst 0, 1) := by decide +kernel
theorem dX7_isRoundLess_8 : decode cX7_isRoundLess 8 = .ok (.istore_n 3, 1) := by decide +kernel
theorem dX7_isRoundLess_9 : decode cX7_isRoundLess 9 = .ok (.iload_n 3, 1) := by decide +kernel
theorem dX7_isRoundLess_10 : decode cX7_isRoundLess 10 = .ok (.iload_n 2, 1) := by decide +kernel
theorem dX7_isRoundLess_11 : decode cX7_isRoundLess 11 = .ok (.invokestatic 73, 3) := by decide +kernel
theorem dX7_isRoundLess_14 : decode cX7_isRoundLess 14 = .ok (.ifCond .le 8, 3) := by decide +kernel
theorem dX7_isRoundLess_17 : decode cX7_isRoundLess 17 = .ok (.bipush 8, 2) := by decide +kernel
theorem dX7_isRoundLess_19 : decode cX7_isRoundLess 19 = .ok (.goto 4, 3) := by decide +kernel
theorem dX7_isRoundLess_22 : decode cX7_isRoundLess 22 = .ok (.iconst 1, 1) := by decide +kernel
theorem dX7_isRoundLess_23 : decode cX7_isRoundLess 23 = .ok (.if_icmp .ge 93, 3) := by decide +kernel
theorem dX7_isRoundLess_26 : decode cX7_isRoundLess 26 = .ok (.iconst 0, 1) := by decide +kernel
theorem dX7_isRoundLess_27 : decode cX7_isRoundLess 27 = .ok (.istore 4, 2) := by decide +kernel
theorem dX7_isRoundLess_29 : decode cX7_isRoundLess 29 = .ok (.iload 4, 2) := by decide +kernel
theorem dX7_isRoundLess_31 : decode cX7_isRoundLess 31 = .ok (.iload_n 2, 1) := by decide +kernel
theorem dX7_isRoundLess_32 : decode cX7_isRoundLess 32 = .ok (.invokestatic 73, 3) := by decide +kernel
theorem dX7_isRoundLess_35 : decode cX7_isRoundLess 35 = .ok (.iconst 1, 1) := by decide +kernel
theorem dX7_isRoundLess_36 : decode cX7_isRoundLess 36 = .ok (.if_icmp .le 8, 3) := by decide +kernel
theorem dX7_isRoundLess_39 : decode cX7_isRoundLess 39 = .ok (.bipush 8, 2) := by decide +kernel
theorem dX7_isRoundLess_41 : decode cX7_isRoundLess 41 = .ok (.goto 4, 3) := by decide +kernel
theorem dX7_isRoundLess_44 : decode cX7_isRoundLess 44 = .ok (.iconst 1, 1) := by decide +kernel
theorem dX7_isRoundLess_45 : decode cX7_isRoundLess 45 = .ok (.if_icmp .ge 65, 3) := by decide +kernel
theorem dX7_isRoundLess_48 : decode cX7_isRoundLess 48 = .ok (.aload_n 0, 1) := by decide +kernel
theorem dX7_isRoundLess_49 : decode cX7_isRoundLess 49 = .ok (.aload_n 1, 1) := by decide +kernel
theorem dX7_isRoundLess_50 : decode cX7_isRoundLess 50 = .ok (.iload_n 2, 1) := by decide +kernel
theorem dX7_isRoundLess_51 : decode cX7_isRoundLess 51 = .ok (.iload_n 3, 1) := by decide +kernel
theorem dX7_isRoundLess_52 : decode cX7_isRoundLess 52 = .ok (.iload 4, 2) := by decide +kernel
theorem dX7_isRoundLess_54 : decode cX7_isRoundLess 54 = .ok (.invokevirtual 216, 3) := by decide +kernel
theorem dX7_isRoundLess_57 : decode cX7_isRoundLess 57 = .ok (.istore 5, 2) := by decide +kernel
theorem dX7_isRoundLess_59 : decode cX7_isRoundLess 59 = .ok (.iconst 0, 1) := by decide +kernel
theorem dX7_isRoundLess_60 : decode cX7_isRoundLess 60 = .ok (.istore 6, 2) := by decide +kernel
theorem dX7_isRoundLess_62 : decode cX7_isRoundLess 62 = .ok (.iload 6, 2) := by decide +kernel
theorem dX7_isRoundLess_64 : decode cX7_isRoundLess 64 = .ok (.iconst 3, 1) := by decide +kernel
theorem dX7_isRoundLess_65 : decode cX7_isRoundLess 65 = .ok (.if_icmp .ge 39, 3) := by decide +kernel
theorem dX7_isRoundLess_68 : decode cX7_isRoundLess 68 = .ok (.aload_n 0, 1) := by decide +kernel
theorem dX7_isRoundLess_69 : decode cX7_isRoundLess 69 = .ok (.getfield 41, 3) := by decide +kernel
theorem dX7_isRoundLess_72 : decode cX7_isRoundLess 72 = .ok (.iload_n 2, 1) := by decide +kernel
theorem dX7_isRoundLess_73 : decode cX7_isRoundLess 73 = .ok (.iload 6, 2) := by decide +kernel
theorem dX7_isRoundLess_75 : decode cX7_isRoundLess 75 = .ok (.iload_n 3, 1) := by decide +kernel
theorem dX7_isRoundLess_76 : decode cX7_isRoundLess 76 = .ok (.iload 4, 2) := by decide +kernel
theorem dX7_isRoundLess_78 : decode cX7_isRoundLess 78 = .ok (.invokestatic 204, 3) := by decide +kernel
theorem dX7_isRoundLess_81 : decode cX7_isRoundLess 81 = .ok (.iload 5, 2) := by decide +kernel
theorem dX7_isRoundLess_83 : decode cX7_isRoundLess 83 = .ok (.iload 6, 2) := by decide +kernel
theorem dX7_isRoundLess_85 : decode cX7_isRoundLess 85 = .ok (.ishr, 1) := by decide +kernel
theorem dX7_isRoundLess_86 : decode cX7_isRoundLess 86 = .ok (.iconst 1, 1) := by decide +kernel
theorem dX7_isRoundLess_87 : decode cX7_isRoundLess 87 = .ok (.iand, 1) := by decide +kernel
theorem dX7_isRoundLess_88 : decode cX7_isRoundLess 88 = .ok (.iconst 1, 1) := by decide +kernel
theorem dX7_isRoundLess_89 : decode cX7_isRoundLess 89 = .ok (.if_icmp .ne 7, 3) := by decide +kernel
theorem dX7_isRoundLess_92 : decode cX7_isRoundLess 92 = .ok (.iconst 1, 1) := by decide +kernel
theorem dX7_isRoundLess_93 : decode cX7_isRoundLess 93 = .ok (.goto 4, 3) := by decide +kernel
theorem dX7_isRoundLess_96 : decode cX7_isRoundLess 96 = .ok (.iconst 0, 1) := by decide +kernel
theorem dX7_isRoundLess_97 : decode cX7_isRoundLess 97 = .ok (.bastore, 1) := by decide +kernel
theorem dX7_isRoundLess_98 : decode cX7_isRoundLess 98 = .ok (.iinc 6 1, 3) := by decide +kernel
theorem dX7_isRoundLess_101 : decode cX7_isRoundLess 101 = .ok (.goto (-39), 3) := by decide +kernel
theorem dX7_isRoundLess_104 : decode cX7_isRoundLess 104 = .ok (.iinc 4 1, 3) := by decide +kernel
theorem dX7_isRoundLess_107 : decode cX7_isRoundLess 107 = .ok (.goto (-78), 3) := by decide +kernel
theorem dX7_isRoundLess_110 : decode cX7_isRoundLess 110 = .ok (.iinc 3 1, 3) := by decide +kernel
theorem dX7_isRoundLess_113 : decode cX7_isRoundLess 113 = .ok (.goto (-104), 3) := by decide +kernel
theorem dX7_isRoundLess_116 : decode cX7_isRoundLess 116 = .ok (.iinc 2 1, 3) := by decide +kernel
theorem dX7_isRoundLess_119 : decode cX7_isRoundLess 119 = .ok (.goto (-117), 3) := by decide +kernel
theorem dX7_isRoundLess_122 : decode cX7_isRoundLess 122 = .ok (.iconst 0, 1) := by decide +kernel
theorem dX7_isRoundLess_123 : decode cX7_isRoundLess 123 = .ok (.istore_n 2, 1) := by decide +kernel
theorem dX7_isRoundLess_124 : decode cX7_isRoundLess 124 = .ok (.iconst 0, 1) := by decide +kernel
theorem dX7_isRoundLess_125 : decode cX7_isRoundLess 125 = .ok (.istore_n 3, 1) := by decide +kernel
theorem dX7_isRoundLess_126 : decode cX7_isRoundLess 126 = .ok (.iload_n 3, 1) := by decide +kernel
theorem dX7_isRoundLess_127 : decode cX7_isRoundLess 127 = .ok (.sipush 243, 3) := by decide +kernel
theorem dX7_isRoundLess_130 : decode cX7_isRoundLess 130 = .ok (.if_icmp .ge 66, 3) := by decide +kernel
theorem dX7_isRoundLess_133 : decode cX7_isRoundLess 133 = .ok (.iload_n 2, 1) := by decide +kernel
theorem dX7_isRoundLess_134 : decode cX7_isRoundLess 134 = .ok (.ifCond .ne 21, 3) := by decide +kernel
theorem dX7_isRoundLess_137 : decode cX7_isRoundLess 137 = .ok (.aload_n 0, 1) := by decide +kernel
theorem dX7_isRoundLess_138 : decode cX7_isRoundLess 138 = .ok (.getfield 38, 3) := by decide +kernel
theorem dX7_isRoundLess_141 : decode cX7_isRoundLess 141 = .ok (.iload_n 3, 1) := by decide +kernel
theorem dX7_isRoundLess_142 : decode cX7_isRoundLess 142 = .ok (.baload, 1) := by decide +kernel
theorem dX7_isRoundLess_143 : decode cX7_isRoundLess 143 = .ok (.ifCond .eq 16, 3) := by decide +kernel
theorem dX7_isRoundLess_146 : decode cX7_isRoundLess 146 = .ok (.aload_n 0, 1) := by decide +kernel
theorem dX7_isRoundLess_147 : decode cX7_isRoundLess 147 = .ok (.getfield 41, 3) := by decide +kernel
theorem dX7_isRoundLess_150 : decode cX7_isRoundLess 150 = .ok (.iload_n 3, 1) := by decide +kernel
theorem dX7_isRoundLess_151 : decode cX7_isRoundLess 151 = .ok (.baload, 1) := by decide +kernel
theorem dX7_isRoundLess_152 : decode cX7_isRoundLess 152 = .ok (.ifCond .ne 7, 3) := by decide +kernel
theorem dX7_isRoundLess_155 : decode cX7_isRoundLess 155 = .ok (.iconst 1, 1) := by decide +kernel
theorem dX7_isRoundLess_156 : decode cX7_isRoundLess 156 = .ok (.goto 4, 3) := by decide +kernel
theorem dX7_isRoundLess_159 : decode cX7_isRoundLess 159 = .ok (.iconst 0, 1) := by decide +kernel
theorem dX7_isRoundLess_160 : decode cX7_isRoundLess 160 = .ok (.istore_n 2, 1) := by decide +kernel
theorem dX7_isRoundLess_161 : decode cX7_isRoundLess 161 = .ok (.aload_n 0, 1) := by decide +kernel
theorem dX7_isRoundLess_162 : decode cX7_isRoundLess 162 = .ok (.getfield 38, 3) := by decide +kernel
theorem dX7_isRoundLess_165 : decode cX7_isRoundLess 165 = .ok (.iload_n 3, 1) := by decide +kernel
theorem dX7_isRoundLess_166 : decode cX7_isRoundLess 166 = .ok (.aload_n 0, 1) := by decide +kernel
theorem dX7_isRoundLess_167 : decode cX7_isRoundLess 167 = .ok (.getfield 38, 3) := by decide +kernel
theorem dX7_isRoundLess_170 : decode cX7_isRoundLess 170 = .ok (.iload_n 3, 1) := by decide +kernel
theorem dX7_isRoundLess_171 : decode cX7_isRoundLess 171 = .ok (.baload, 1) := by decide +kernel
theorem dX7_isRoundLess_172 : decode cX7_isRoundLess 172 = .ok (.ifCond .eq 16, 3) := by decide +kernel
theorem dX7_isRoundLess_175 : decode cX7_isRoundLess 175 = .ok (.aload_n 0, 1) := by decide +kernel
theorem dX7_isRoundLess_176 : decode cX7_isRoundLess 176 = .ok (.getfield 41, 3) := by decide +kernel
theorem dX7_isRoundLess_179 : decode cX7_isRoundLess 179 = .ok (.iload_n 3, 1) := by decide +kernel
theorem dX7_isRoundLess_180 : decode cX7_isRoundLess 180 = .ok (.baload, 1) := by decide +kernel
theorem dX7_isRoundLess_181 : decode cX7_isRoundLess 181 = .ok (.ifCond .eq 7, 3) := by decide +kernel
theorem dX7_isRoundLess_184 : decode cX7_isRoundLess 184 = .ok (.iconst 1, 1) := by decide +kernel
theorem dX7_isRoundLess_185 : decode cX7_isRoundLess 185 = .ok (.goto 4, 3) := by decide +kernel
theorem dX7_isRoundLess_188 : decode cX7_isRoundLess 188 = .ok (.iconst 0, 1) := by decide +kernel
theorem dX7_isRoundLess_189 : decode cX7_isRoundLess 189 = .ok (.bastore, 1) := by decide +kernel
theorem dX7_isRoundLess_190 : decode cX7_isRoundLess 190 = .ok (.iinc 3 1, 3) := by decide +kernel
theorem dX7_isRoundLess_193 : decode cX7_isRoundLess 193 = .ok (.goto (-67), 3) := by decide +kernel
theorem dX7_isRoundLess_196 : decode cX7_isRoundLess 196 = .ok (.iload_n 2, 1) := by decide +kernel
theorem dX7_isRoundLess_197 : decode cX7_isRoundLess 197 = .ok (.ireturn, 1) := by decide +kernel
abbrev x_X7_isRoundLess : Cx := (7, cX7_isRoundLess, false, some (.boolean))
set_option maxRecDepth 10000 in
theorem g_X7_isRoundLess_0 {E : Ev} {d : Nat} {G : Hp} {Q : Po} {x0 : Nat} {x1 : Nat} (h : Xr E d x_X7_isRoundLess 2 [some (.ref x0), some (.ref x1), some (.int ((iv 0))), none, none, none, none] [] G Q) : Xr E d x_X7_isRoundLess 0 [some (.ref x0), some (.ref x1), none, none, none, none, none] [] G Q := by
  refine r_iconst dX7_isRoundLess_0 ?_
  refine r_istore_n dX7_isRoundLess_1 rfl ?_
  exact h
theorem e_X7_isRoundLess {E : Ev} {d : Nat} {G : Hp} {Q : Po} {x0 : Nat} {x1 : Nat} (h : Xr E d x_X7_isRoundLess 2 [some (.ref x0), some (.ref x1), some (.int ((iv 0))), none, none, none, none] [] G Q) : runs E (d + 1) i_X7_isRoundLess [.ref x0, .ref x1] G Q := by
  rw [runs_eq (m := (yX7_isRoundLess, cX7_isRoundLess, 7, some (.boolean), 1, 7, false, false)) rfl (Nat.le_of_ble_eq_true rfl)]
  exact g_X7_isRoundLess_0 h
set_option maxRecDepth 10000 in
theorem g_X7_isRoundLess_2 {E : Ev} {d : Nat} {G : Hp} {Q : Po} {x0 : Nat} {x1 : Nat} {x2 : Int32} {l3 : Option Value} {l4 : Option Value} {l5 : Option Value} {l6 : Option Value} (h : (if (iv 4) ≤ x2 then Xr E d x_X7_isRoundLess 126 [some (.ref x0), some (.ref x1), some (.int ((iv 0))), some (.int ((iv 0))), l4, l5, l6] [] G Q else Xr E d x_X7_isRoundLess 9 [some (.ref x0), some (.ref x1), some (.int x2), some (.int ((iv 0))), l4, l5, l6] [] G Q)) : Xr E d x_X7_isRoundLess 2 [some (.ref x0), some (.ref x1), some (.int x2), l3, l4, l5, l6] [] G Q := by
  refine r_iload_n dX7_isRoundLess_2 rfl ?_
  refine r_iconst dX7_isRoundLess_3 ?_
  refine r_cge (tgt := 122) dX7_isRoundLess_4 (by decide) (ite_imp (fun h => ?_) (fun h => ?_) h)
  · refine r_iconst dX7_isRoundLess_122 ?_
    refine r_istore_n dX7_isRoundLess_123 rfl ?_
    refine r_iconst dX7_isRoundLess_124 ?_
    refine r_istore_n dX7_isRoundLess_125 rfl ?_
    exact h
  · refine r_iconst dX7_isRoundLess_7 ?_
    refine r_istore_n dX7_isRoundLess_8 rfl ?_
    exact h
set_option maxRecDepth 10000 in
theorem g_X7_isRoundLess_9 {E : Ev} {d : Nat} {G : Hp} {Q : Po} {x0 : Nat} {x1 : Nat} {x2 : Int32} {x3 : Int32} {l4 : Option Value} {l5 : Option Value} {l6 : Option Value} (h : (qCI E d i_X7_parameters [.int x2] G fun v2 G1 => (if v2 ≤ 0 then (if (iv 1) ≤ x3 then Xr E d x_X7_isRoundLess 2 [some (.ref x0), some (.ref x1), some (.int ((x2 + (iv 1)))), some (.int x3), l4, l5, l6] [] G1 Q else Xr E d x_X7_isRoundLess 29 [some (.ref x0), some (.ref x1), some (.int x2), some (.int x3), some (.int ((iv 0))), l5, l6] [] G1 Q) else (if (iv 8) ≤ x3 then Xr E d x_X7_isRoundLess 2 [some (.ref x0), some (.ref x1), some (.int ((x2 + (iv 1)))), some (.int x3), l4, l5, l6] [] G1 Q else Xr E d x_X7_isRoundLess 29 [some (.ref x0), some (.ref x1), some (.int x2), some (.int x3), some (.int ((iv 0))), l5, l6] [] G1 Q)))) : Xr E d x_X7_isRoundLess 9 [some (.ref x0), some (.ref x1), some (.int x2), some (.int x3), l4, l5, l6] [] G Q := by
  refine r_iload_n dX7_isRoundLess_9 rfl ?_
  refine r_iload_n dX7_isRoundLess_10 rfl ?_
  refine r_cI dX7_isRoundLess_11 rfl (invS_eq rfl (by decide) rfl rfl rfl rfl ⟨rfl, Nat.le_of_ble_eq_true rfl⟩) (qCI_imp (fun v2 G1 h => ?_) h)
  refine r_ifle (tgt := 22) dX7_isRoundLess_14 (by decide) (ite_imp (fun h => ?_) (fun h => ?_) h)
  · refine r_iconst dX7_isRoundLess_22 ?_
    refine r_cge (tgt := 116) dX7_isRoundLess_23 (by decide) (ite_imp (fun h => ?_) (fun h => ?_) h)
    · refine r_iinc dX7_isRoundLess_116 rfl rfl ?_
      refine r_goto (tgt := 2) dX7_isRoundLess_119 (by decide) ?_
      exact h
    · refine r_iconst dX7_isRoundLess_26 ?_
      refine r_istore dX7_isRoundLess_27 rfl ?_
      exact h
  · refine r_bipush dX7_isRoundLess_17 rfl ?_
    refine r_goto (tgt := 23) dX7_isRoundLess_19 (by decide) ?_
    refine r_cge (tgt := 116) dX7_isRoundLess_23 (by decide) (ite_imp (fun h => ?_) (fun h => ?_) h)
    · refine r_iinc dX7_isRoundLess_116 rfl rfl ?_
      refine r_goto (tgt := 2) dX7_isRoundLess_119 (by decide) ?_
      exact h
    · refine r_iconst dX7_isRoundLess_26 ?_
      refine r_istore dX7_isRoundLess_27 rfl ?_
      exact h
set_option maxRecDepth 10000 in
theorem g_X7_isRoundLess_29 {E : Ev} {d : Nat} {G : Hp} {Q : Po} {x0 : Nat} {x1 : Nat} {x2 : Int32} {x3 : Int32} {x4 : Int32} {l5 : Option Value} {l6 : Option Value} (h : (qCI E d i_X7_parameters [.int x2] G fun v2 G1 => (if v2 ≤ (iv 1) then (if (iv 1) ≤ x4 then Xr E d x_X7_isRoundLess 9 [some (.ref x0), some (.ref x1), some (.int x2), some (.int ((x3 + (iv 1)))), some (.int x4), l5, l6] [] G1 Q else (rcv E G1 x0 7 = true ∧ (qCI E d i_X7_bodyTypes [.ref x0, .ref x1, .int x2, .int x3, .int x4] G1 fun v4 G3 => Xr E d x_X7_isRoundLess 62 [some (.ref x0), some (.ref x1), some (.int x2), some (.int x3), some (.int x4), some (.int v4), some (.int ((iv 0)))] [] G3 Q))) else (if (iv 8) ≤ x4 then Xr E d x_X7_isRoundLess 9 [some (.ref x0), some (.ref x1), some (.int x2), some (.int ((x3 + (iv 1)))), some (.int x4), l5, l6] [] G1 Q else (rcv E G1 x0 7 = true ∧ (qCI E d i_X7_bodyTypes [.ref x0, .ref x1, .int x2, .int x3, .int x4] G1 fun v6 G5 => Xr E d x_X7_isRoundLess 62 [some (.ref x0), some (.ref x1), some (.int x2), some (.int x3), some (.int x4), some (.int v6), some (.int ((iv 0)))] [] G5 Q)))))) : Xr E d x_X7_isRoundLess 29 [some (.ref x0), some (.ref x1), some (.int x2), some (.int x3), some (.int x4), l5, l6] [] G Q := by
  refine r_iload dX7_isRoundLess_29 rfl ?_
  refine r_iload_n dX7_isRoundLess_31 rfl ?_
  refine r_cI dX7_isRoundLess_32 rfl (invS_eq rfl (by decide) rfl rfl rfl rfl ⟨rfl, Nat.le_of_ble_eq_true rfl⟩) (qCI_imp (fun v2 G1 h => ?_) h)
  refine r_iconst dX7_isRoundLess_35 ?_
  refine r_cle (tgt := 44) dX7_isRoundLess_36 (by decide) (ite_imp (fun h => ?_) (fun h => ?_) h)
  · refine r_iconst dX7_isRoundLess_44 ?_
    refine r_cge (tgt := 110) dX7_isRoundLess_45 (by decide) (ite_imp (fun h => ?_) (fun h => ?_) h)
    · refine r_iinc dX7_isRoundLess_110 rfl rfl ?_
      refine r_goto (tgt := 9) dX7_isRoundLess_113 (by decide) ?_
      exact h
    · refine r_aload_n dX7_isRoundLess_48 rfl ?_
      refine r_aload_n dX7_isRoundLess_49 rfl ?_
      refine r_iload_n dX7_isRoundLess_50 rfl ?_
      refine r_iload_n dX7_isRoundLess_51 rfl ?_
      refine r_iload dX7_isRoundLess_52 rfl ?_
      refine r_cI dX7_isRoundLess_54 rfl (invV_eq rfl rfl rfl rfl rfl rfl ⟨rfl, Nat.le_of_ble_eq_true rfl⟩ h.1) (qCI_imp (fun v4 G3 h => ?_) h.2)
      refine r_istore dX7_isRoundLess_57 rfl ?_
      refine r_iconst dX7_isRoundLess_59 ?_
      refine r_istore dX7_isRoundLess_60 rfl ?_
      exact h
  · refine r_bipush dX7_isRoundLess_39 rfl ?_
    refine r_goto (tgt := 45) dX7_isRoundLess_41 (by decide) ?_
    refine r_cge (tgt := 110) dX7_isRoundLess_45 (by decide) (ite_imp (fun h => ?_) (fun h => ?_) h)
    · refine r_iinc dX7_isRoundLess_110 rfl rfl ?_
      refine r_goto (tgt := 9) dX7_isRoundLess_113 (by decide) ?_
      exact h
    · refine r_aload_n dX7_isRoundLess_48 rfl ?_
      refine r_aload_n dX7_isRoundLess_49 rfl ?_
      refine r_iload_n dX7_isRoundLess_50 rfl ?_
      refine r_iload_n dX7_isRoundLess_51 rfl ?_
      refine r_iload dX7_isRoundLess_52 rfl ?_
      refine r_cI dX7_isRoundLess_54 rfl (invV_eq rfl rfl rfl rfl rfl rfl ⟨rfl, Nat.le_of_ble_eq_true rfl⟩ h.1) (qCI_imp (fun v6 G5 h => ?_) h.2)
      refine r_istore dX7_isRoundLess_57 rfl ?_
      refine r_iconst dX7_isRoundLess_59 ?_
      refine r_istore dX7_isRoundLess_60 rfl ?_
      exact h
set_option maxRecDepth 10000 in
theorem g_X7_isRoundLess_62 {E : Ev} {d : Nat} {G : Hp} {Q : Po} {x0 : Nat} {x1 : Nat} {x2 : Int32} {x3 : Int32} {x4 : Int32} {x5 : Int32} {x6 : Int32} (h : (if (iv 3) ≤ x6 then Xr E d x_X7_isRoundLess 29 [some (.ref x0), some (.ref x1), some (.int x2), some (.int x3), some (.int ((x4 + (iv 1)))), some (.int x5), some (.int x6)] [] G Q else (qFR E G x0 7 18 fun v1 => (qCI E d i_X7_typingAt [.int x2, .int x6, .int x3, .int x4] G fun v3 G2 => (if ¬ ((x5 >>> (x6 &&& 31)) &&& (iv 1)) = (iv 1) then (qBS E G2 v1 v3 (iv 0) fun G4 => Xr E d x_X7_isRoundLess 62 [some (.ref x0), some (.ref x1), some (.int x2), some (.int x3), some (.int x4), some (.int x5), some (.int ((x6 + (iv 1))))] [] G4 Q) else (qBS E G2 v1 v3 (iv 1) fun G5 => Xr E d x_X7_isRoundLess 62 [some (.ref x0), some (.ref x1), some (.int x2), some (.int x3), some (.int x4), some (.int x5), some (.int ((x6 + (iv 1))))] [] G5 Q)))))) : Xr E d x_X7_isRoundLess 62 [some (.ref x0), some (.ref x1), some (.int x2), some (.int x3), some (.int x4), some (.int x5), some (.int x6)] [] G Q := by
  refine r_iload dX7_isRoundLess_62 rfl ?_
  refine r_iconst dX7_isRoundLess_64 ?_
  refine r_cge (tgt := 104) dX7_isRoundLess_65 (by decide) (ite_imp (fun h => ?_) (fun h => ?_) h)
  · refine r_iinc dX7_isRoundLess_104 rfl rfl ?_
    refine r_goto (tgt := 29) dX7_isRoundLess_107 (by decide) ?_
    exact h
  · refine r_aload_n dX7_isRoundLess_68 rfl ?_
    refine r_getR dX7_isRoundLess_69 rfl (qFR_imp (fun v1 h => ?_) h)
    refine r_iload_n dX7_isRoundLess_72 rfl ?_
    refine r_iload dX7_isRoundLess_73 rfl ?_
    refine r_iload_n dX7_isRoundLess_75 rfl ?_
    refine r_iload dX7_isRoundLess_76 rfl ?_
    refine r_cI dX7_isRoundLess_78 rfl (invS_eq rfl (by decide) rfl rfl rfl rfl ⟨rfl, Nat.le_of_ble_eq_true rfl⟩) (qCI_imp (fun v3 G2 h => ?_) h)
    refine r_iload dX7_isRoundLess_81 rfl ?_
    refine r_iload dX7_isRoundLess_83 rfl ?_
    refine r_ishr dX7_isRoundLess_85 ?_
    refine r_iconst dX7_isRoundLess_86 ?_
    refine r_iand dX7_isRoundLess_87 ?_
    refine r_iconst dX7_isRoundLess_88 ?_
    refine r_cne (tgt := 96) dX7_isRoundLess_89 (by decide) (ite_imp (fun h => ?_) (fun h => ?_) h)
    · refine r_iconst dX7_isRoundLess_96 ?_
      refine r_bast dX7_isRoundLess_97 (qBS_imp (fun G4 h => ?_) h)
      refine r_iinc dX7_isRoundLess_98 rfl rfl ?_
      refine r_goto (tgt := 62) dX7_isRoundLess_101 (by decide) ?_
      exact h
    · refine r_iconst dX7_isRoundLess_92 ?_
      refine r_goto (tgt := 97) dX7_isRoundLess_93 (by decide) ?_
      refine r_bast dX7_isRoundLess_97 (qBS_imp (fun G5 h => ?_) h)
      refine r_iinc dX7_isRoundLess_98 rfl rfl ?_
      refine r_goto (tgt := 62) dX7_isRoundLess_101 (by decide) ?_
      exact h
set_option maxRecDepth 10000 in
theorem g_X7_isRoundLess_126 {E : Ev} {d : Nat} {G : Hp} {Q : Po} {x0 : Nat} {x1 : Nat} {x2 : Int32} {x3 : Int32} {l4 : Option Value} {l5 : Option Value} {l6 : Option Value} (h : (if (iv 243) ≤ x3 then (narrow .boolean (.int x2) = .int x2 ∧ Q (some (.int x2)) G) else (if ¬ x2 = 0 then Xr E d x_X7_isRoundLess 155 [some (.ref x0), some (.ref x1), some (.int x2), some (.int x3), l4, l5, l6] [] G Q else (qFR E G x0 7 17 fun v1 => (qBA E G v1 x3 fun v2 => (if v2 = 0 then Xr E d x_X7_isRoundLess 159 [some (.ref x0), some (.ref x1), some (.int x2), some (.int x3), l4, l5, l6] [] G Q else (qFR E G x0 7 18 fun v3 => (qBA E G v3 x3 fun v4 => (if ¬ v4 = 0 then Xr E d x_X7_isRoundLess 159 [some (.ref x0), some (.ref x1), some (.int x2), some (.int x3), l4, l5, l6] [] G Q else Xr E d x_X7_isRoundLess 155 [some (.ref x0), some (.ref x1), some (.int x2), some (.int x3), l4, l5, l6] [] G Q))))))))) : Xr E d x_X7_isRoundLess 126 [some (.ref x0), some (.ref x1), some (.int x2), some (.int x3), l4, l5, l6] [] G Q := by
  refine r_iload_n dX7_isRoundLess_126 rfl ?_
  refine r_sipush dX7_isRoundLess_127 rfl ?_
  refine r_cge (tgt := 196) dX7_isRoundLess_130 (by decide) (ite_imp (fun h => ?_) (fun h => ?_) h)
  · refine r_iload_n dX7_isRoundLess_196 rfl ?_
    exact r_iret dX7_isRoundLess_197 rfl h
  · refine r_iload_n dX7_isRoundLess_133 rfl ?_
    refine r_ifne (tgt := 155) dX7_isRoundLess_134 (by decide) (ite_imp (fun h => ?_) (fun h => ?_) h)
    · exact h
    · refine r_aload_n dX7_isRoundLess_137 rfl ?_
      refine r_getR dX7_isRoundLess_138 rfl (qFR_imp (fun v1 h => ?_) h)
      refine r_iload_n dX7_isRoundLess_141 rfl ?_
      refine r_bald dX7_isRoundLess_142 (qBA_imp (fun v2 h => ?_) h)
      refine r_ifeq (tgt := 159) dX7_isRoundLess_143 (by decide) (ite_imp (fun h => ?_) (fun h => ?_) h)
      · exact h
      · refine r_aload_n dX7_isRoundLess_146 rfl ?_
        refine r_getR dX7_isRoundLess_147 rfl (qFR_imp (fun v3 h => ?_) h)
        refine r_iload_n dX7_isRoundLess_150 rfl ?_
        refine r_bald dX7_isRoundLess_151 (qBA_imp (fun v4 h => ?_) h)
        refine r_ifne (tgt := 159) dX7_isRoundLess_152 (by decide) (ite_imp (fun h => ?_) (fun h => ?_) h)
        · exact h
        · exact h
set_option maxRecDepth 10000 in
theorem g_X7_isRoundLess_155 {E : Ev} {d : Nat} {G : Hp} {Q : Po} {x0 : Nat} {x1 : Nat} {x2 : Int32} {x3 : Int32} {l4 : Option Value} {l5 : Option Value} {l6 : Option Value} (h : (qFR E G x0 7 17 fun v1 => (qFR E G x0 7 17 fun v2 => (qBA E G v2 x3 fun v3 => (if v3 = 0 then (qBS E G v1 x3 (iv 0) fun G4 => Xr E d x_X7_isRoundLess 126 [some (.ref x0), some (.ref x1), some (.int ((iv 1))), some (.int ((x3 + (iv 1)))), l4, l5, l6] [] G4 Q) else (qFR E G x0 7 18 fun v5 => (qBA E G v5 x3 fun v6 => (if v6 = 0 then (qBS E G v1 x3 (iv 0) fun G7 => Xr E d x_X7_isRoundLess 126 [some (.ref x0), some (.ref x1), some (.int ((iv 1))), some (.int ((x3 + (iv 1)))), l4, l5, l6] [] G7 Q) else (qBS E G v1 x3 (iv 1) fun G8 => Xr E d x_X7_isRoundLess 126 [some (.ref x0), some (.ref x1), some (.int ((iv 1))), some (.int ((x3 + (iv 1)))), l4, l5, l6] [] G8 Q))))))))) : Xr E d x_X7_isRoundLess 155 [some (.ref x0), some (.ref x1), some (.int x2), some (.int x3), l4, l5, l6] [] G Q := by
  refine r_iconst dX7_isRoundLess_155 ?_
  refine r_goto (tgt := 160) dX7_isRoundLess_156 (by decide) ?_
  refine r_istore_n dX7_isRoundLess_160 rfl ?_
  refine r_aload_n dX7_isRoundLess_161 rfl ?_
  refine r_getR dX7_isRoundLess_162 rfl (qFR_imp (fun v1 h => ?_) h)
  refine r_iload_n dX7_isRoundLess_165 rfl ?_
  refine r_aload_n dX7_isRoundLess_166 rfl ?_
  refine r_getR dX7_isRoundLess_167 rfl (qFR_imp (fun v2 h => ?_) h)
  refine r_iload_n dX7_isRoundLess_170 rfl ?_
  refine r_bald dX7_isRoundLess_171 (qBA_imp (fun v3 h => ?_) h)
  refine r_ifeq (tgt := 188) dX7_isRoundLess_172 (by decide) (ite_imp (fun h => ?_) (fun h => ?_) h)
  · refine r_iconst dX7_isRoundLess_188 ?_
    refine r_bast dX7_isRoundLess_189 (qBS_imp (fun G4 h => ?_) h)
    refine r_iinc dX7_isRoundLess_190 rfl rfl ?_
    refine r_goto (tgt := 126) dX7_isRoundLess_193 (by decide) ?_
    exact h
  · refine r_aload_n dX7_isRoundLess_175 rfl ?_
    refine r_getR dX7_isRoundLess_176 rfl (qFR_imp (fun v5 h => ?_) h)
    refine r_iload_n dX7_isRoundLess_179 rfl ?_
    refine r_bald dX7_isRoundLess_180 (qBA_imp (fun v6 h => ?_) h)
    refine r_ifeq (tgt := 188) dX7_isRoundLess_181 (by decide) (ite_imp (fun h => ?_) (fun h => ?_) h)
    · refine r_iconst dX7_isRoundLess_188 ?_
      refine r_bast dX7_isRoundLess_189 (qBS_imp (fun G7 h => ?_) h)
      refine r_iinc dX7_isRoundLess_190 rfl rfl ?_
      refine r_goto (tgt := 126) dX7_isRoundLess_193 (by decide) ?_
      exact h
    · refine r_iconst dX7_isRoundLess_184 ?_
      refine r_goto (tgt := 189) dX7_isRoundLess_185 (by decide) ?_
      refine r_bast dX7_isRoundLess_189 (qBS_imp (fun G8 h => ?_) h)
      refine r_iinc dX7_isRoundLess_190 rfl rfl ?_
      refine r_goto (tgt := 126) dX7_isRoundLess_193 (by decide) ?_
      exact h
set_option maxRecDepth 10000 in
theorem g_X7_isRoundLess_159 {E : Ev} {d : Nat} {G : Hp} {Q : Po} {x0 : Nat} {x1 : Nat} {x2 : Int32} {x3 : Int32} {l4 : Option Value} {l5 : Option Value} {l6 : Option Value} (h : (qFR E G x0 7 17 fun v1 => (qFR E G x0 7 17 fun v2 => (qBA E G v2 x3 fun v3 => (if v3 = 0 then (qBS E G v1 x3 (iv 0) fun G4 => Xr E d x_X7_isRoundLess 126 [some (.ref x0), some (.ref x1), some (.int ((iv 0))), some (.int ((x3 + (iv 1)))), l4, l5, l6] [] G4 Q) else (qFR E G x0 7 18 fun v5 => (qBA E G v5 x3 fun v6 => (if v6 = 0 then (qBS E G v1 x3 (iv 0) fun G7 => Xr E d x_X7_isRoundLess 126 [some (.ref x0), some (.ref x1), some (.int ((iv 0))), some (.int ((x3 + (iv 1)))), l4, l5, l6] [] G7 Q) else (qBS E G v1 x3 (iv 1) fun G8 => Xr E d x_X7_isRoundLess 126 [some (.ref x0), some (.ref x1), some (.int ((iv 0))), some (.int ((x3 + (iv 1)))), l4, l5, l6] [] G8 Q))))))))) : Xr E d x_X7_isRoundLess 159 [some (.ref x0), some (.ref x1), some (.int x2), some (.int x3), l4, l5, l6] [] G Q := by
  refine r_iconst dX7_isRoundLess_159 ?_
  refine r_istore_n dX7_isRoundLess_160 rfl ?_
  refine r_aload_n dX7_isRoundLess_161 rfl ?_
  refine r_getR dX7_isRoundLess_162 rfl (qFR_imp (fun v1 h => ?_) h)
  refine r_iload_n dX7_isRoundLess_165 rfl ?_
  refine r_aload_n dX7_isRoundLess_166 rfl ?_
  refine r_getR dX7_isRoundLess_167 rfl (qFR_imp (fun v2 h => ?_) h)
  refine r_iload_n dX7_isRoundLess_170 rfl ?_
  refine r_bald dX7_isRoundLess_171 (qBA_imp (fun v3 h => ?_) h)
  refine r_ifeq (tgt := 188) dX7_isRoundLess_172 (by decide) (ite_imp (fun h => ?_) (fun h => ?_) h)
  · refine r_iconst dX7_isRoundLess_188 ?_
    refine r_bast dX7_isRoundLess_189 (qBS_imp (fun G4 h => ?_) h)
    refine r_iinc dX7_isRoundLess_190 rfl rfl ?_
    refine r_goto (tgt := 126) dX7_isRoundLess_193 (by decide) ?_
    exact h
  · refine r_aload_n dX7_isRoundLess_175 rfl ?_
    refine r_getR dX7_isRoundLess_176 rfl (qFR_imp (fun v5 h => ?_) h)
    refine r_iload_n dX7_isRoundLess_179 rfl ?_
    refine r_bald dX7_isRoundLess_180 (qBA_imp (fun v6 h => ?_) h)
    refine r_ifeq (tgt := 188) dX7_isRoundLess_181 (by decide) (ite_imp (fun h => ?_) (fun h => ?_) h)
    · refine r_iconst dX7_isRoundLess_188 ?_
      refine r_bast dX7_isRoundLess_189 (qBS_imp (fun G7 h => ?_) h)
      refine r_iinc dX7_isRoundLess_190 rfl rfl ?_
      refine r_goto (tgt := 126) dX7_isRoundLess_193 (by decide) ?_
      exact h
    · refine r_iconst dX7_isRoundLess_184 ?_
      refine r_goto (tgt := 189) dX7_isRoundLess_185 (by decide) ?_
      refine r_bast dX7_isRoundLess_189 (qBS_imp (fun G8 h => ?_) h)
      refine r_iinc dX7_isRoundLess_190 rfl rfl ?_
      refine r_goto (tgt := 126) dX7_isRoundLess_193 (by decide) ?_
      exact h
theorem dX7_check_0 : decode cX7_check 0 = .ok (.iconst 0, 1) := by decide +kernel
theorem dX7_check_1 : decode cX7_check 1 = .ok (.istore_n 2, 1) := by decide +kernel
theorem dX7_check_2 : decode cX7_check 2 = .ok (.iload_n 2, 1) := by decide +kernel
theorem dX7_check_3 : decode cX7_check 3 = .ok (.sipush 243, 3) := by decide +kernel
theorem dX7_check_6 : decode cX7_check 6 = .ok (.if_icmp .ge 16, 3) := by decide +kernel
theorem dX7_check_9 : decode cX7_check 9 = .ok (.aload_n 0, 1) := by decide +kernel
theorem dX7_check_10 : decode cX7_check 10 = .ok (.getfield 38, 3) := by decide +kernel
theorem dX7_check_13 : decode cX7_check 13 = .ok (.iload_n 2, 1) := by decide +kernel
theorem dX7_check_14 : decode cX7_check 14 = .ok (.iconst 1, 1) := by decide +kernel
theorem dX7_check_15 : decode cX7_check 15 = .ok (.bastore, 1) := by decide +kernel
theorem dX7_check_16 : decode cX7_check 16 = .ok (.iinc 2 1, 3) := by decide +kernel
theorem dX7_check_19 : decode cX7_check 19 = .ok (.goto (-17), 3) := by decide +kernel
theorem dX7_check_22 : decode cX7_check 22 = .ok (.iconst 1, 1) := by decide +kernel
theorem dX7_check_23 : decode cX7_check 23 = .ok (.istore_n 2, 1) := by decide +kernel
theorem dX7_check_24 : decode cX7_check 24 = .ok (.aload_n 0, 1) := by decide +kernel
theorem dX7_check_25 : decode cX7_check 25 = .ok (.aload_n 1, 1) := by decide +kernel
theorem dX7_check_26 : decode cX7_check 26 = .ok (.invokevirtual 219, 3) := by decide +kernel
theorem dX7_check_29 : decode cX7_check 29 = .ok (.ifCond .eq 9, 3) := by decide +kernel
theorem dX7_check_32 : decode cX7_check 32 = .ok (.iinc 2 1, 3) := by decide +kernel
theorem dX7_check_35 : decode cX7_check 35 = .ok (.goto (-11), 3) := by decide +kernel
theorem dX7_check_38 : decode cX7_check 38 = .ok (.iload_n 2, 1) := by decide +kernel
theorem dX7_check_39 : decode cX7_check 39 = .ok (.ireturn, 1) := by decide +kernel
abbrev x_X7_check : Cx := (7, cX7_check, false, some (.int))
set_option maxRecDepth 10000 in
theorem g_X7_check_0 {E : Ev} {d : Nat} {G : Hp} {Q : Po} {x0 : Nat} {x1 : Nat} (h : Xr E d x_X7_check 2 [some (.ref x0), some (.ref x1), some (.int ((iv 0)))] [] G Q) : Xr E d x_X7_check 0 [some (.ref x0), some (.ref x1), none] [] G Q := by
  refine r_iconst dX7_check_0 ?_
  refine r_istore_n dX7_check_1 rfl ?_
  exact h
theorem e_X7_check {E : Ev} {d : Nat} {G : Hp} {Q : Po} {x0 : Nat} {x1 : Nat} (h : Xr E d x_X7_check 2 [some (.ref x0), some (.ref x1), some (.int ((iv 0)))] [] G Q) : runs E (d + 1) i_X7_check [.ref x0, .ref x1] G Q := by
  rw [runs_eq (m := (yX7_check, cX7_check, 3, some (.int), 1, 7, false, false)) rfl (Nat.le_of_ble_eq_true rfl)]
  exact g_X7_check_0 h
set_option maxRecDepth 10000 in
theorem g_X7_check_2 {E : Ev} {d : Nat} {G : Hp} {Q : Po} {x0 : Nat} {x1 : Nat} {x2 : Int32} (h : (if (iv 243) ≤ x2 then Xr E d x_X7_check 24 [some (.ref x0), some (.ref x1), some (.int ((iv 1)))] [] G Q else (qFR E G x0 7 17 fun v1 => (qBS E G v1 x2 (iv 1) fun G2 => Xr E d x_X7_check 2 [some (.ref x0), some (.ref x1), some (.int ((x2 + (iv 1))))] [] G2 Q)))) : Xr E d x_X7_check 2 [some (.ref x0), some (.ref x1), some (.int x2)] [] G Q := by
  refine r_iload_n dX7_check_2 rfl ?_
  refine r_sipush dX7_check_3 rfl ?_
  refine r_cge (tgt := 22) dX7_check_6 (by decide) (ite_imp (fun h => ?_) (fun h => ?_) h)
  · refine r_iconst dX7_check_22 ?_
    refine r_istore_n dX7_check_23 rfl ?_
    exact h
  · refine r_aload_n dX7_check_9 rfl ?_
    refine r_getR dX7_check_10 rfl (qFR_imp (fun v1 h => ?_) h)
    refine r_iload_n dX7_check_13 rfl ?_
    refine r_iconst dX7_check_14 ?_
    refine r_bast dX7_check_15 (qBS_imp (fun G2 h => ?_) h)
    refine r_iinc dX7_check_16 rfl rfl ?_
    refine r_goto (tgt := 2) dX7_check_19 (by decide) ?_
    exact h
set_option maxRecDepth 10000 in
theorem g_X7_check_24 {E : Ev} {d : Nat} {G : Hp} {Q : Po} {x0 : Nat} {x1 : Nat} {x2 : Int32} (h : (rcv E G x0 7 = true ∧ (qCI E d i_X7_isRoundLess [.ref x0, .ref x1] G fun v2 G1 => (if v2 = 0 then Q (some (.int x2)) G1 else Xr E d x_X7_check 24 [some (.ref x0), some (.ref x1), some (.int ((x2 + (iv 1))))] [] G1 Q)))) : Xr E d x_X7_check 24 [some (.ref x0), some (.ref x1), some (.int x2)] [] G Q := by
  refine r_aload_n dX7_check_24 rfl ?_
  refine r_aload_n dX7_check_25 rfl ?_
  refine r_cI dX7_check_26 rfl (invV_eq rfl rfl rfl rfl rfl rfl ⟨rfl, Nat.le_of_ble_eq_true rfl⟩ h.1) (qCI_imp (fun v2 G1 h => ?_) h.2)
  refine r_ifeq (tgt := 38) dX7_check_29 (by decide) (ite_imp (fun h => ?_) (fun h => ?_) h)
  · refine r_iload_n dX7_check_38 rfl ?_
    exact r_iret dX7_check_39 rfl ⟨rfl, h⟩
  · refine r_iinc dX7_check_32 rfl rfl ?_
    refine r_goto (tgt := 24) dX7_check_35 (by decide) ?_
    exact h
theorem dX7_isAccepted_0 : decode cX7_isAccepted 0 = .ok (.aload_n 0, 1) := by decide +kernel
theorem dX7_isAccepted_1 : decode cX7_isAccepted 1 = .ok (.aload_n 1, 1) := by decide +kernel
theorem dX7_isAccepted_2 : decode cX7_isAccepted 2 = .ok (.invokevirtual 223, 3) := by decide +kernel
theorem dX7_isAccepted_5 : decode cX7_isAccepted 5 = .ok (.istore_n 2, 1) := by decide +kernel
theorem dX7_isAccepted_6 : decode cX7_isAccepted 6 = .ok (.aload_n 0, 1) := by decide +kernel
theorem dX7_isAccepted_7 : decode cX7_isAccepted 7 = .ok (.getfield 38, 3) := by decide +kernel
theorem dX7_isAccepted_10 : decode cX7_isAccepted 10 = .ok (.iconst 0, 1) := by decide +kernel
theorem dX7_isAccepted_11 : decode cX7_isAccepted 11 = .ok (.baload, 1) := by decide +kernel
theorem dX7_isAccepted_12 : decode cX7_isAccepted 12 = .ok (.ireturn, 1) := by decide +kernel
abbrev x_X7_isAccepted : Cx := (7, cX7_isAccepted, false, some (.boolean))
set_option maxRecDepth 10000 in
theorem g_X7_isAccepted_0 {E : Ev} {d : Nat} {G : Hp} {Q : Po} {x0 : Nat} {x1 : Nat} (h : (rcv E G x0 7 = true ∧ (qCI E d i_X7_check [.ref x0, .ref x1] G fun v2 G1 => (qFR E G1 x0 7 17 fun v3 => (qBA E G1 v3 (iv 0) fun v4 => (narrow .boolean (.int v4) = .int v4 ∧ Q (some (.int v4)) G1)))))) : Xr E d x_X7_isAccepted 0 [some (.ref x0), some (.ref x1), none] [] G Q := by
  refine r_aload_n dX7_isAccepted_0 rfl ?_
  refine r_aload_n dX7_isAccepted_1 rfl ?_
  refine r_cI dX7_isAccepted_2 rfl (invV_eq rfl rfl rfl rfl rfl rfl ⟨rfl, Nat.le_of_ble_eq_true rfl⟩ h.1) (qCI_imp (fun v2 G1 h => ?_) h.2)
  refine r_istore_n dX7_isAccepted_5 rfl ?_
  refine r_aload_n dX7_isAccepted_6 rfl ?_
  refine r_getR dX7_isAccepted_7 rfl (qFR_imp (fun v3 h => ?_) h)
  refine r_iconst dX7_isAccepted_10 ?_
  refine r_bald dX7_isAccepted_11 (qBA_imp (fun v4 h => ?_) h)
  exact r_iret dX7_isAccepted_12 rfl h
theorem e_X7_isAccepted {E : Ev} {d : Nat} {G : Hp} {Q : Po} {x0 : Nat} {x1 : Nat} (h : (rcv E G x0 7 = true ∧ (qCI E d i_X7_check [.ref x0, .ref x1] G fun v2 G1 => (qFR E G1 x0 7 17 fun v3 => (qBA E G1 v3 (iv 0) fun v4 => (narrow .boolean (.int v4) = .int v4 ∧ Q (some (.int v4)) G1)))))) : runs E (d + 1) i_X7_isAccepted [.ref x0, .ref x1] G Q := by
  rw [runs_eq (m := (yX7_isAccepted, cX7_isAccepted, 3, some (.boolean), 1, 7, false, false)) rfl (Nat.le_of_ble_eq_true rfl)]
  exact g_X7_isAccepted_0 h
theorem dX7_accepts_0 : decode cX7_accepts 0 = .ok (.aload_n 0, 1) := by decide +kernel
theorem dX7_accepts_1 : decode cX7_accepts 1 = .ok (.aload_n 0, 1) := by decide +kernel
theorem dX7_accepts_2 : decode cX7_accepts 2 = .ok (.getfield 13, 3) := by decide +kernel
theorem dX7_accepts_5 : decode cX7_accepts 5 = .ok (.invokevirtual 226, 3) := by decide +kernel
theorem dX7_accepts_8 : decode cX7_accepts 8 = .ok (.ifCond .eq 7, 3) := by decide +kernel
theorem dX7_accepts_11 : decode cX7_accepts 11 = .ok (.iconst 1, 1) := by decide +kernel
theorem dX7_accepts_12 : decode cX7_accepts 12 = .ok (.goto 4, 3) := by decide +kernel
theorem dX7_accepts_15 : decode cX7_accepts 15 = .ok (.iconst 0, 1) := by decide +kernel
theorem dX7_accepts_16 : decode cX7_accepts 16 = .ok (.ireturn, 1) := by decide +kernel
abbrev x_X7_accepts : Cx := (7, cX7_accepts, false, some (.int))
set_option maxRecDepth 10000 in
theorem g_X7_accepts_0 {E : Ev} {d : Nat} {G : Hp} {Q : Po} {x0 : Nat} (h : (qFR E G x0 7 2 fun v1 => (rcv E G x0 7 = true ∧ (qCI E d i_X7_isAccepted [.ref x0, .ref v1] G fun v3 G2 => (if v3 = 0 then Q (some (.int (iv 0))) G2 else Q (some (.int (iv 1))) G2))))) : Xr E d x_X7_accepts 0 [some (.ref x0)] [] G Q := by
  refine r_aload_n dX7_accepts_0 rfl ?_
  refine r_aload_n dX7_accepts_1 rfl ?_
  refine r_getR dX7_accepts_2 rfl (qFR_imp (fun v1 h => ?_) h)
  refine r_cI dX7_accepts_5 rfl (invV_eq rfl rfl rfl rfl rfl rfl ⟨rfl, Nat.le_of_ble_eq_true rfl⟩ h.1) (qCI_imp (fun v3 G2 h => ?_) h.2)
  refine r_ifeq (tgt := 15) dX7_accepts_8 (by decide) (ite_imp (fun h => ?_) (fun h => ?_) h)
  · refine r_iconst dX7_accepts_15 ?_
    exact r_iret dX7_accepts_16 rfl ⟨rfl, h⟩
  · refine r_iconst dX7_accepts_11 ?_
    refine r_goto (tgt := 16) dX7_accepts_12 (by decide) ?_
    exact r_iret dX7_accepts_16 rfl ⟨rfl, h⟩
theorem e_X7_accepts {E : Ev} {d : Nat} {G : Hp} {Q : Po} {x0 : Nat} (h : (qFR E G x0 7 2 fun v1 => (rcv E G x0 7 = true ∧ (qCI E d i_X7_isAccepted [.ref x0, .ref v1] G fun v3 G2 => (if v3 = 0 then Q (some (.int (iv 0))) G2 else Q (some (.int (iv 1))) G2))))) : runs E (d + 1) i_X7_accepts [.ref x0] G Q := by
  rw [runs_eq (m := (yX7_accepts, cX7_accepts, 1, some (.int), 0, 7, false, false)) rfl (Nat.le_of_ble_eq_true rfl)]
  exact g_X7_accepts_0 h
theorem dX7_rounds_0 : decode cX7_rounds 0 = .ok (.aload_n 0, 1) := by decide +kernel
theorem dX7_rounds_1 : decode cX7_rounds 1 = .ok (.aload_n 0, 1) := by decide +kernel
theorem dX7_rounds_2 : decode cX7_rounds 2 = .ok (.getfield 13, 3) := by decide +kernel
theorem dX7_rounds_5 : decode cX7_rounds 5 = .ok (.invokevirtual 223, 3) := by decide +kernel
theorem dX7_rounds_8 : decode cX7_rounds 8 = .ok (.ireturn, 1) := by decide +kernel
abbrev x_X7_rounds : Cx := (7, cX7_rounds, false, some (.int))
set_option maxRecDepth 10000 in
theorem g_X7_rounds_0 {E : Ev} {d : Nat} {G : Hp} {Q : Po} {x0 : Nat} (h : (qFR E G x0 7 2 fun v1 => (rcv E G x0 7 = true ∧ (qCI E d i_X7_check [.ref x0, .ref v1] G fun v3 G2 => Q (some (.int v3)) G2)))) : Xr E d x_X7_rounds 0 [some (.ref x0)] [] G Q := by
  refine r_aload_n dX7_rounds_0 rfl ?_
  refine r_aload_n dX7_rounds_1 rfl ?_
  refine r_getR dX7_rounds_2 rfl (qFR_imp (fun v1 h => ?_) h)
  refine r_cI dX7_rounds_5 rfl (invV_eq rfl rfl rfl rfl rfl rfl ⟨rfl, Nat.le_of_ble_eq_true rfl⟩ h.1) (qCI_imp (fun v3 G2 h => ?_) h.2)
  exact r_iret dX7_rounds_8 rfl ⟨rfl, h⟩
theorem e_X7_rounds {E : Ev} {d : Nat} {G : Hp} {Q : Po} {x0 : Nat} (h : (qFR E G x0 7 2 fun v1 => (rcv E G x0 7 = true ∧ (qCI E d i_X7_check [.ref x0, .ref v1] G fun v3 G2 => Q (some (.int v3)) G2)))) : runs E (d + 1) i_X7_rounds [.ref x0] G Q := by
  rw [runs_eq (m := (yX7_rounds, cX7_rounds, 1, some (.int), 0, 7, false, false)) rfl (Nat.le_of_ble_eq_true rfl)]
  exact g_X7_rounds_0 h
theorem dX7_typingsOf_0 : decode cX7_typingsOf 0 = .ok (.aload_n 0, 1) := by decide +kernel
theorem dX7_typingsOf_1 : decode cX7_typingsOf 1 = .ok (.aload_n 1, 1) := by decide +kernel
theorem dX7_typingsOf_2 : decode cX7_typingsOf 2 = .ok (.invokevirtual 223, 3) := by decide +kernel
theorem dX7_typingsOf_5 : decode cX7_typingsOf 5 = .ok (.istore_n 3, 1) := by decide +kernel
theorem dX7_typingsOf_6 : decode cX7_typingsOf 6 = .ok (.iload_n 2, 1) := by decide +kernel
theorem dX7_typingsOf_7 : decode cX7_typingsOf 7 = .ok (.iconst 0, 1) := by decide +kernel
theorem dX7_typingsOf_8 : decode cX7_typingsOf 8 = .ok (.iconst 0, 1) := by decide +kernel
theorem dX7_typingsOf_9 : decode cX7_typingsOf 9 = .ok (.iconst 0, 1) := by decide +kernel
theorem dX7_typingsOf_10 : decode cX7_typingsOf 10 = .ok (.invokestatic 204, 3) := by decide +kernel
theorem dX7_typingsOf_13 : decode cX7_typingsOf 13 = .ok (.istore 4, 2) := by decide +kernel
theorem dX7_typingsOf_15 : decode cX7_typingsOf 15 = .ok (.iload_n 2, 1) := by decide +kernel
theorem dX7_typingsOf_16 : decode cX7_typingsOf 16 = .ok (.ifCond .ne 7, 3) := by decide +kernel
theorem dX7_typingsOf_19 : decode cX7_typingsOf 19 = .ok (.iconst 3, 1) := by decide +kernel
theorem dX7_typingsOf_20 : decode cX7_typingsOf 20 = .ok (.goto 16, 3) := by decide +kernel
theorem dX7_typingsOf_23 : decode cX7_typingsOf 23 = .ok (.iload_n 2, 1) := by decide +kernel
theorem dX7_typingsOf_24 : decode cX7_typingsOf 24 = .ok (.iconst 3, 1) := by decide +kernel
theorem dX7_typingsOf_25 : decode cX7_typingsOf 25 = .ok (.if_icmp .ne 9, 3) := by decide +kernel
theorem dX7_typingsOf_28 : decode cX7_typingsOf 28 = .ok (.sipush 192, 3) := by decide +kernel
theorem dX7_typingsOf_31 : decode cX7_typingsOf 31 = .ok (.goto 5, 3) := by decide +kernel
theorem dX7_typingsOf_34 : decode cX7_typingsOf 34 = .ok (.bipush 24, 2) := by decide +kernel
theorem dX7_typingsOf_36 : decode cX7_typingsOf 36 = .ok (.istore 5, 2) := by decide +kernel
theorem dX7_typingsOf_38 : decode cX7_typingsOf 38 = .ok (.iconst 0, 1) := by decide +kernel
theorem dX7_typingsOf_39 : decode cX7_typingsOf 39 = .ok (.istore 6, 2) := by decide +kernel
theorem dX7_typingsOf_41 : decode cX7_typingsOf 41 = .ok (.iconst 0, 1) := by decide +kernel
theorem dX7_typingsOf_42 : decode cX7_typingsOf 42 = .ok (.istore 7, 2) := by decide +kernel
theorem dX7_typingsOf_44 : decode cX7_typingsOf 44 = .ok (.iload 7, 2) := by decide +kernel
theorem dX7_typingsOf_46 : decode cX7_typingsOf 46 = .ok (.iload 5, 2) := by decide +kernel
theorem dX7_typingsOf_48 : decode cX7_typingsOf 48 = .ok (.if_icmp .ge 32, 3) := by decide +kernel
theorem dX7_typingsOf_51 : decode cX7_typingsOf 51 = .ok (.iload 6, 2) := by decide +kernel
theorem dX7_typingsOf_53 : decode cX7_typingsOf 53 = .ok (.aload_n 0, 1) := by decide +kernel
theorem dX7_typingsOf_54 : decode cX7_typingsOf 54 = .ok (.getfield 38, 3) := by decide +kernel
theorem dX7_typingsOf_57 : decode cX7_typingsOf 57 = .ok (.iload 4, 2) := by decide +kernel
theorem dX7_typingsOf_59 : decode cX7_typingsOf 59 = .ok (.iload 7, 2) := by decide +kernel
theorem dX7_typingsOf_61 : decode cX7_typingsOf 61 = .ok (.iadd, 1) := by decide +kernel
theorem dX7_typingsOf_62 : decode cX7_typingsOf 62 = .ok (.baload, 1) := by decide +kernel
theorem dX7_typingsOf_63 : decode cX7_typingsOf 63 = .ok (.ifCond .eq 7, 3) := by decide +kernel
theorem dX7_typingsOf_66 : decode cX7_typingsOf 66 = .ok (.iconst 1, 1) := by decide +kernel
theorem dX7_typingsOf_67 : decode cX7_typingsOf 67 = .ok (.goto 4, 3) := by decide +kernel
theorem dX7_typingsOf_70 : decode cX7_typingsOf 70 = .ok (.iconst 0, 1) := by decide +kernel
theorem dX7_typingsOf_71 : decode cX7_typingsOf 71 = .ok (.iadd, 1) := by decide +kernel
theorem dX7_typingsOf_72 : decode cX7_typingsOf 72 = .ok (.istore 6, 2) := by decide +kernel
theorem dX7_typingsOf_74 : decode cX7_typingsOf 74 = .ok (.iinc 7 1, 3) := by decide +kernel
theorem dX7_typingsOf_77 : decode cX7_typingsOf 77 = .ok (.goto (-33), 3) := by decide +kernel
theorem dX7_typingsOf_80 : decode cX7_typingsOf 80 = .ok (.iload 6, 2) := by decide +kernel
theorem dX7_typingsOf_82 : decode cX7_typingsOf 82 = .ok (.ireturn, 1) := by decide +kernel
abbrev x_X7_typingsOf : Cx := (7, cX7_typingsOf, false, some (.int))
set_option maxRecDepth 10000 in
theorem g_X7_typingsOf_0 {E : Ev} {d : Nat} {G : Hp} {Q : Po} {x0 : Nat} {x1 : Nat} {x2 : Int32} (h : (rcv E G x0 7 = true ∧ (qCI E d i_X7_check [.ref x0, .ref x1] G fun v2 G1 => (qCI E d i_X7_typingAt [.int x2, .int ((iv 0)), .int ((iv 0)), .int ((iv 0))] G1 fun v4 G3 => (if ¬ x2 = 0 then (if ¬ x2 = (iv 3) then Xr E d x_X7_typingsOf 44 [some (.ref x0), some (.ref x1), some (.int x2), some (.int v2), some (.int v4), some (.int ((iv 24))), some (.int ((iv 0))), some (.int ((iv 0)))] [] G3 Q else Xr E d x_X7_typingsOf 44 [some (.ref x0), some (.ref x1), some (.int x2), some (.int v2), some (.int v4), some (.int ((iv 192))), some (.int ((iv 0))), some (.int ((iv 0)))] [] G3 Q) else Xr E d x_X7_typingsOf 44 [some (.ref x0), some (.ref x1), some (.int x2), some (.int v2), some (.int v4), some (.int ((iv 3))), some (.int ((iv 0))), some (.int ((iv 0)))] [] G3 Q))))) : Xr E d x_X7_typingsOf 0 [some (.ref x0), some (.ref x1), some (.int x2), none, none, none, none, none] [] G Q := by
  refine r_aload_n dX7_typingsOf_0 rfl ?_
  refine r_aload_n dX7_typingsOf_1 rfl ?_
  refine r_cI dX7_typingsOf_2 rfl (invV_eq rfl rfl rfl rfl rfl rfl ⟨rfl, Nat.le_of_ble_eq_true rfl⟩ h.1) (qCI_imp (fun v2 G1 h => ?_) h.2)
  refine r_istore_n dX7_typingsOf_5 rfl ?_
  refine r_iload_n dX7_typingsOf_6 rfl ?_
  refine r_iconst dX7_typingsOf_7 ?_
  refine r_iconst dX7_typingsOf_8 ?_
  refine r_iconst dX7_typingsOf_9 ?_
  refine r_cI dX7_typingsOf_10 rfl (invS_eq rfl (by decide) rfl rfl rfl rfl ⟨rfl, Nat.le_of_ble_eq_true rfl⟩) (qCI_imp (fun v4 G3 h => ?_) h)
  refine r_istore dX7_typingsOf_13 rfl ?_
  refine r_iload_n dX7_typingsOf_15 rfl ?_
  refine r_ifne (tgt := 23) dX7_typingsOf_16 (by decide) (ite_imp (fun h => ?_) (fun h => ?_) h)
  · refine r_iload_n dX7_typingsOf_23 rfl ?_
    refine r_iconst dX7_typingsOf_24 ?_
    refine r_cne (tgt := 34) dX7_typingsOf_25 (by decide) (ite_imp (fun h => ?_) (fun h => ?_) h)
    · refine r_bipush dX7_typingsOf_34 rfl ?_
      refine r_istore dX7_typingsOf_36 rfl ?_
      refine r_iconst dX7_typingsOf_38 ?_
      refine r_istore dX7_typingsOf_39 rfl ?_
      refine r_iconst dX7_typingsOf_41 ?_
      refine r_istore dX7_typingsOf_42 rfl ?_
      exact h
    · refine r_sipush dX7_typingsOf_28 rfl ?_
      refine r_goto (tgt := 36) dX7_typingsOf_31 (by decide) ?_
      refine r_istore dX7_typingsOf_36 rfl ?_
      refine r_iconst dX7_typingsOf_38 ?_
      refine r_istore dX7_typingsOf_39 rfl ?_
      refine r_iconst dX7_typingsOf_41 ?_
      refine r_istore dX7_typingsOf_42 rfl ?_
      exact h
  · refine r_iconst dX7_typingsOf_19 ?_
    refine r_goto (tgt := 36) dX7_typingsOf_20 (by decide) ?_
    refine r_istore dX7_typingsOf_36 rfl ?_
    refine r_iconst dX7_typingsOf_38 ?_
    refine r_istore dX7_typingsOf_39 rfl ?_
    refine r_iconst dX7_typingsOf_41 ?_
    refine r_istore dX7_typingsOf_42 rfl ?_
    exact h
theorem e_X7_typingsOf {E : Ev} {d : Nat} {G : Hp} {Q : Po} {x0 : Nat} {x1 : Nat} {x2 : Int32} (h : (rcv E G x0 7 = true ∧ (qCI E d i_X7_check [.ref x0, .ref x1] G fun v2 G1 => (qCI E d i_X7_typingAt [.int x2, .int ((iv 0)), .int ((iv 0)), .int ((iv 0))] G1 fun v4 G3 => (if ¬ x2 = 0 then (if ¬ x2 = (iv 3) then Xr E d x_X7_typingsOf 44 [some (.ref x0), some (.ref x1), some (.int x2), some (.int v2), some (.int v4), some (.int ((iv 24))), some (.int ((iv 0))), some (.int ((iv 0)))] [] G3 Q else Xr E d x_X7_typingsOf 44 [some (.ref x0), some (.ref x1), some (.int x2), some (.int v2), some (.int v4), some (.int ((iv 192))), some (.int ((iv 0))), some (.int ((iv 0)))] [] G3 Q) else Xr E d x_X7_typingsOf 44 [some (.ref x0), some (.ref x1), some (.int x2), some (.int v2), some (.int v4), some (.int ((iv 3))), some (.int ((iv 0))), some (.int ((iv 0)))] [] G3 Q))))) : runs E (d + 1) i_X7_typingsOf [.ref x0, .ref x1, .int x2] G Q := by
  rw [runs_eq (m := (yX7_typingsOf, cX7_typingsOf, 8, some (.int), 2, 7, false, false)) rfl (Nat.le_of_ble_eq_true rfl)]
  exact g_X7_typingsOf_0 h
set_option maxRecDepth 10000 in
theorem g_X7_typingsOf_44 {E : Ev} {d : Nat} {G : Hp} {Q : Po} {x0 : Nat} {x1 : Nat} {x2 : Int32} {x3 : Int32} {x4 : Int32} {x5 : Int32} {x6 : Int32} {x7 : Int32} (h : (if x5 ≤ x7 then Q (some (.int x6)) G else (qFR E G x0 7 17 fun v1 => (qBA E G v1 (x4 + x7) fun v2 => (if v2 = 0 then Xr E d x_X7_typingsOf 44 [some (.ref x0), some (.ref x1), some (.int x2), some (.int x3), some (.int x4), some (.int x5), some (.int ((x6 + (iv 0)))), some (.int ((x7 + (iv 1))))] [] G Q else Xr E d x_X7_typingsOf 44 [some (.ref x0), some (.ref x1), some (.int x2), some (.int x3), some (.int x4), some (.int x5), some (.int ((x6 + (iv 1)))), some (.int ((x7 + (iv 1))))] [] G Q))))) : Xr E d x_X7_typingsOf 44 [some (.ref x0), some (.ref x1), some (.int x2), some (.int x3), some (.int x4), some (.int x5), some (.int x6), some (.int x7)] [] G Q := by
  refine r_iload dX7_typingsOf_44 rfl ?_
  refine r_iload dX7_typingsOf_46 rfl ?_
  refine r_cge (tgt := 80) dX7_typingsOf_48 (by decide) (ite_imp (fun h => ?_) (fun h => ?_) h)
  · refine r_iload dX7_typingsOf_80 rfl ?_
    exact r_iret dX7_typingsOf_82 rfl ⟨rfl, h⟩
  · refine r_iload dX7_typingsOf_51 rfl ?_
    refine r_aload_n dX7_typingsOf_53 rfl ?_
    refine r_getR dX7_typingsOf_54 rfl (qFR_imp (fun v1 h => ?_) h)
    refine r_iload dX7_typingsOf_57 rfl ?_
    refine r_iload dX7_typingsOf_59 rfl ?_
    refine r_iadd dX7_typingsOf_61 ?_
    refine r_bald dX7_typingsOf_62 (qBA_imp (fun v2 h => ?_) h)
    refine r_ifeq (tgt := 70) dX7_typingsOf_63 (by decide) (ite_imp (fun h => ?_) (fun h => ?_) h)
    · refine r_iconst dX7_typingsOf_70 ?_
      refine r_iadd dX7_typingsOf_71 ?_
      refine r_istore dX7_typingsOf_72 rfl ?_
      refine r_iinc dX7_typingsOf_74 rfl rfl ?_
      refine r_goto (tgt := 44) dX7_typingsOf_77 (by decide) ?_
      exact h
    · refine r_iconst dX7_typingsOf_66 ?_
      refine r_goto (tgt := 71) dX7_typingsOf_67 (by decide) ?_
      refine r_iadd dX7_typingsOf_71 ?_
      refine r_istore dX7_typingsOf_72 rfl ?_
      refine r_iinc dX7_typingsOf_74 rfl rfl ?_
      refine r_goto (tgt := 44) dX7_typingsOf_77 (by decide) ?_
      exact h
theorem dX7_typingCount_0 : decode cX7_typingCount 0 = .ok (.iload_n 1, 1) := by decide +kernel
theorem dX7_typingCount_1 : decode cX7_typingCount 1 = .ok (.invokestatic 122, 3) := by decide +kernel
theorem dX7_typingCount_4 : decode cX7_typingCount 4 = .ok (.ifCond .eq 15, 3) := by decide +kernel
theorem dX7_typingCount_7 : decode cX7_typingCount 7 = .ok (.aload_n 0, 1) := by decide +kernel
theorem dX7_typingCount_8 : decode cX7_typingCount 8 = .ok (.aload_n 0, 1) := by decide +kernel
theorem dX7_typingCount_9 : decode cX7_typingCount 9 = .ok (.getfield 13, 3) := by decide +kernel
theorem dX7_typingCount_12 : decode cX7_typingCount 12 = .ok (.iload_n 1, 1) := by decide +kernel
theorem dX7_typingCount_13 : decode cX7_typingCount 13 = .ok (.invokevirtual 229, 3) := by decide +kernel
theorem dX7_typingCount_16 : decode cX7_typingCount 16 = .ok (.goto 4, 3) := by decide +kernel
theorem dX7_typingCount_19 : decode cX7_typingCount 19 = .ok (.iconst (-1), 1) := by decide +kernel
theorem dX7_typingCount_20 : decode cX7_typingCount 20 = .ok (.ireturn, 1) := by decide +kernel
abbrev x_X7_typingCount : Cx := (7, cX7_typingCount, false, some (.int))
set_option maxRecDepth 10000 in
theorem g_X7_typingCount_0 {E : Ev} {d : Nat} {G : Hp} {Q : Po} {x0 : Nat} {x1 : Int32} (h : (qCI E d i_X7_isNonterminal [.int x1] G fun v2 G1 => (if v2 = 0 then Q (some (.int (iv (-1)))) G1 else (qFR E G1 x0 7 2 fun v3 => (rcv E G1 x0 7 = true ∧ (qCI E d i_X7_typingsOf [.ref x0, .ref v3, .int x1] G1 fun v5 G4 => Q (some (.int v5)) G4)))))) : Xr E d x_X7_typingCount 0 [some (.ref x0), some (.int x1)] [] G Q := by
  refine r_iload_n dX7_typingCount_0 rfl ?_
  refine r_cI dX7_typingCount_1 rfl (invS_eq rfl (by decide) rfl rfl rfl rfl ⟨rfl, Nat.le_of_ble_eq_true rfl⟩) (qCI_imp (fun v2 G1 h => ?_) h)
  refine r_ifeq (tgt := 19) dX7_typingCount_4 (by decide) (ite_imp (fun h => ?_) (fun h => ?_) h)
  · refine r_iconst dX7_typingCount_19 ?_
    exact r_iret dX7_typingCount_20 rfl ⟨rfl, h⟩
  · refine r_aload_n dX7_typingCount_7 rfl ?_
    refine r_aload_n dX7_typingCount_8 rfl ?_
    refine r_getR dX7_typingCount_9 rfl (qFR_imp (fun v3 h => ?_) h)
    refine r_iload_n dX7_typingCount_12 rfl ?_
    refine r_cI dX7_typingCount_13 rfl (invV_eq rfl rfl rfl rfl rfl rfl ⟨rfl, Nat.le_of_ble_eq_true rfl⟩ h.1) (qCI_imp (fun v5 G4 h => ?_) h.2)
    refine r_goto (tgt := 20) dX7_typingCount_16 (by decide) ?_
    exact r_iret dX7_typingCount_20 rfl ⟨rfl, h⟩
theorem e_X7_typingCount {E : Ev} {d : Nat} {G : Hp} {Q : Po} {x0 : Nat} {x1 : Int32} (h : (qCI E d i_X7_isNonterminal [.int x1] G fun v2 G1 => (if v2 = 0 then Q (some (.int (iv (-1)))) G1 else (qFR E G1 x0 7 2 fun v3 => (rcv E G1 x0 7 = true ∧ (qCI E d i_X7_typingsOf [.ref x0, .ref v3, .int x1] G1 fun v5 G4 => Q (some (.int v5)) G4)))))) : runs E (d + 1) i_X7_typingCount [.ref x0, .int x1] G Q := by
  rw [runs_eq (m := (yX7_typingCount, cX7_typingCount, 2, some (.int), 1, 7, false, false)) rfl (Nat.le_of_ble_eq_true rfl)]
  exact g_X7_typingCount_0 h
theorem dX7_isValid_0 : decode cX7_isValid 0 = .ok (.iload_n 1, 1) := by decide +kernel
theorem dX7_isValid_1 : decode cX7_isValid 1 = .ok (.invokestatic 122, 3) := by decide +kernel
theorem dX7_isValid_4 : decode cX7_isValid 4 = .ok (.ifCond .eq 15, 3) := by decide +kernel
theorem dX7_isValid_7 : decode cX7_isValid 7 = .ok (.iload_n 2, 1) := by decide +kernel
theorem dX7_isValid_8 : decode cX7_isValid 8 = .ok (.i2l, 1) := by decide +kernel
theorem dX7_isValid_9 : decode cX7_isValid 9 = .ok (.lconst 0, 1) := by decide +kernel
theorem dX7_isValid_10 : decode cX7_isValid 10 = .ok (.ldc2_w 89, 3) := by decide +kernel
theorem dX7_isValid_13 : decode cX7_isValid 13 = .ok (.invokestatic 55, 3) := by decide +kernel
theorem dX7_isValid_16 : decode cX7_isValid 16 = .ok (.ifCond .ne 5, 3) := by decide +kernel
theorem dX7_isValid_19 : decode cX7_isValid 19 = .ok (.iconst (-1), 1) := by decide +kernel
theorem dX7_isValid_20 : decode cX7_isValid 20 = .ok (.ireturn, 1) := by decide +kernel
theorem dX7_isValid_21 : decode cX7_isValid 21 = .ok (.iload_n 3, 1) := by decide +kernel
theorem dX7_isValid_22 : decode cX7_isValid 22 = .ok (.i2l, 1) := by decide +kernel
theorem dX7_isValid_23 : decode cX7_isValid 23 = .ok (.lconst 0, 1) := by decide +kernel
theorem dX7_isValid_24 : decode cX7_isValid 24 = .ok (.iload_n 1, 1) := by decide +kernel
theorem dX7_isValid_25 : decode cX7_isValid 25 = .ok (.invokestatic 73, 3) := by decide +kernel
theorem dX7_isValid_28 : decode cX7_isValid 28 = .ok (.ifCond .le 9, 3) := by decide +kernel
theorem dX7_isValid_31 : decode cX7_isValid 31 = .ok (.ldc2_w 232, 3) := by decide +kernel
theorem dX7_isValid_34 : decode cX7_isValid 34 = .ok (.goto 4, 3) := by decide +kernel
theorem dX7_isValid_37 : decode cX7_isValid 37 = .ok (.lconst 0, 1) := by decide +kernel
theorem dX7_isValid_38 : decode cX7_isValid 38 = .ok (.invokestatic 55, 3) := by decide +kernel
theorem dX7_isValid_41 : decode cX7_isValid 41 = .ok (.ifCond .eq 28, 3) := by decide +kernel
theorem dX7_isValid_44 : decode cX7_isValid 44 = .ok (.iload 4, 2) := by decide +kernel
theorem dX7_isValid_46 : decode cX7_isValid 46 = .ok (.i2l, 1) := by decide +kernel
theorem dX7_isValid_47 : decode cX7_isValid 47 = .ok (.lconst 0, 1) := by decide +kernel
theorem dX7_isValid_48 : decode cX7_isValid 48 = .ok (.iload_n 1, 1) := by decide +kernel
theorem dX7_isValid_49 : decode cX7_isValid 49 = .ok (.invokestatic 73, 3) := by decide +kernel
theorem dX7_isValid_52 : decode cX7_isValid 52 = .ok (.iconst 1, 1) := by decide +kernel
theorem dX7_isValid_53 : decode cX7_isValid 53 = .ok (.if_icmp .le 9, 3) := by decide +kernel
theorem dX7_isValid_56 : decode cX7_isValid 56 = .ok (.ldc2_w 232, 3) := by decide +kernel
theorem dX7_isValid_59 : decode cX7_isValid 59 = .ok (.goto 4, 3) := by decide +kernel
theorem dX7_isValid_62 : decode cX7_isValid 62 = .ok (.lconst 0, 1) := by decide +kernel
theorem dX7_isValid_63 : decode cX7_isValid 63 = .ok (.invokestatic 55, 3) := by decide +kernel
theorem dX7_isValid_66 : decode cX7_isValid 66 = .ok (.ifCond .ne 6, 3) := by decide +kernel
theorem dX7_isValid_69 : decode cX7_isValid 69 = .ok (.bipush (-2), 2) := by decide +kernel
theorem dX7_isValid_71 : decode cX7_isValid 71 = .ok (.ireturn, 1) := by decide +kernel
theorem dX7_isValid_72 : decode cX7_isValid 72 = .ok (.aload_n 0, 1) := by decide +kernel
theorem dX7_isValid_73 : decode cX7_isValid 73 = .ok (.aload_n 0, 1) := by decide +kernel
theorem dX7_isValid_74 : decode cX7_isValid 74 = .ok (.getfield 13, 3) := by decide +kernel
theorem dX7_isValid_77 : decode cX7_isValid 77 = .ok (.invokevirtual 223, 3) := by decide +kernel
theorem dX7_isValid_80 : decode cX7_isValid 80 = .ok (.istore 5, 2) := by decide +kernel
theorem dX7_isValid_82 : decode cX7_isValid 82 = .ok (.aload_n 0, 1) := by decide +kernel
theorem dX7_isValid_83 : decode cX7_isValid 83 = .ok (.getfield 38, 3) := by decide +kernel
theorem dX7_isValid_86 : decode cX7_isValid 86 = .ok (.iload_n 1, 1) := by decide +kernel
theorem dX7_isValid_87 : decode cX7_isValid 87 = .ok (.iload_n 2, 1) := by decide +kernel
theorem dX7_isValid_88 : decode cX7_isValid 88 = .ok (.iload_n 3, 1) := by decide +kernel
theorem dX7_isValid_89 : decode cX7_isValid 89 = .ok (.iload 4, 2) := by decide +kernel
theorem dX7_isValid_91 : decode cX7_isValid 91 = .ok (.invokestatic 204, 3) := by decide +kernel
theorem dX7_isValid_94 : decode cX7_isValid 94 = .ok (.baload, 1) := by decide +kernel
theorem dX7_isValid_95 : decode cX7_isValid 95 = .ok (.ifCond .eq 7, 3) := by decide +kernel
theorem dX7_isValid_98 : decode cX7_isValid 98 = .ok (.iconst 1, 1) := by decide +kernel
theorem dX7_isValid_99 : decode cX7_isValid 99 = .ok (.goto 4, 3) := by decide +kernel
theorem dX7_isValid_102 : decode cX7_isValid 102 = .ok (.iconst 0, 1) := by decide +kernel
theorem dX7_isValid_103 : decode cX7_isValid 103 = .ok (.ireturn, 1) := by decide +kernel
abbrev x_X7_isValid : Cx := (7, cX7_isValid, false, some (.int))
set_option maxRecDepth 10000 in
theorem g_X7_isValid_0 {E : Ev} {d : Nat} {G : Hp} {Q : Po} {x0 : Nat} {x1 : Int32} {x2 : Int32} {x3 : Int32} {x4 : Int32} (h : (qCI E d i_X7_isNonterminal [.int x1] G fun v2 G1 => (if v2 = 0 then Q (some (.int (iv (-1)))) G1 else (qCI E d i_X7_in [.long (((x2).toInt64)), .long 0, .long 2] G1 fun v4 G3 => (if ¬ v4 = 0 then (qCI E d i_X7_parameters [.int x1] G3 fun v6 G5 => (if v6 ≤ 0 then (qCI E d i_X7_in [.long (((x3).toInt64)), .long 0, .long 0] G5 fun v8 G7 => (if v8 = 0 then Q (some (.int (iv (-2)))) G7 else (qCI E d i_X7_parameters [.int x1] G7 fun v10 G9 => (if v10 ≤ (iv 1) then (qCI E d i_X7_in [.long (((x4).toInt64)), .long 0, .long 0] G9 fun v12 G11 => (if ¬ v12 = 0 then (qFR E G11 x0 7 2 fun v13 => (rcv E G11 x0 7 = true ∧ (qCI E d i_X7_check [.ref x0, .ref v13] G11 fun v15 G14 => (qFR E G14 x0 7 17 fun v16 => (qCI E d i_X7_typingAt [.int x1, .int x2, .int x3, .int x4] G14 fun v18 G17 => (qBA E G17 v16 v18 fun v19 => (if v19 = 0 then Q (some (.int (iv 0))) G17 else Q (some (.int (iv 1))) G17))))))) else Q (some (.int (iv (-2)))) G11)) else (qCI E d i_X7_in [.long (((x4).toInt64)), .long 0, .long 7] G9 fun v21 G20 => (if ¬ v21 = 0 then (qFR E G20 x0 7 2 fun v22 => (rcv E G20 x0 7 = true ∧ (qCI E d i_X7_check [.ref x0, .ref v22] G20 fun v24 G23 => (qFR E G23 x0 7 17 fun v25 => (qCI E d i_X7_typingAt [.int x1, .int x2, .int x3, .int x4] G23 fun v27 G26 => (qBA E G26 v25 v27 fun v28 => (if v28 = 0 then Q (some (.int (iv 0))) G26 else Q (some (.int (iv 1))) G26))))))) else Q (some (.int (iv (-2)))) G20)))))) else (qCI E d i_X7_in [.long (((x3).toInt64)), .long 0, .long 7] G5 fun v30 G29 => (if v30 = 0 then Q (some (.int (iv (-2)))) G29 else (qCI E d i_X7_parameters [.int x1] G29 fun v32 G31 => (if v32 ≤ (iv 1) then (qCI E d i_X7_in [.long (((x4).toInt64)), .long 0, .long 0] G31 fun v34 G33 => (if ¬ v34 = 0 then (qFR E G33 x0 7 2 fun v35 => (rcv E G33 x0 7 = true ∧ (qCI E d i_X7_check [.ref x0, .ref v35] G33 fun v37 G36 => (qFR E G36 x0 7 17 fun v38 => (qCI E d i_X7_typingAt [.int x1, .int x2, .int x3, .int x4] G36 fun v40 G39 => (qBA E G39 v38 v40 fun v41 => (if v41 = 0 then Q (some (.int (iv 0))) G39 else Q (some (.int (iv 1))) G39))))))) else Q (some (.int (iv (-2)))) G33)) else (qCI E d i_X7_in [.long (((x4).toInt64)), .long 0, .long 7] G31 fun v43 G42 => (if ¬ v43 = 0 then (qFR E G42 x0 7 2 fun v44 => (rcv E G42 x0 7 = true ∧ (qCI E d i_X7_check [.ref x0, .ref v44] G42 fun v46 G45 => (qFR E G45 x0 7 17 fun v47 => (qCI E d i_X7_typingAt [.int x1, .int x2, .int x3, .int x4] G45 fun v49 G48 => (qBA E G48 v47 v49 fun v50 => (if v50 = 0 then Q (some (.int (iv 0))) G48 else Q (some (.int (iv 1))) G48))))))) else Q (some (.int (iv (-2)))) G42)))))))) else Q (some (.int (iv (-1)))) G3))))) : Xr E d x_X7_isValid 0 [some (.ref x0), some (.int x1), some (.int x2), some (.int x3), some (.int x4), none] [] G Q := by
  refine r_iload_n dX7_isValid_0 rfl ?_
  refine r_cI dX7_isValid_1 rfl (invS_eq rfl (by decide) rfl rfl rfl rfl ⟨rfl, Nat.le_of_ble_eq_true rfl⟩) (qCI_imp (fun v2 G1 h => ?_) h)
  refine r_ifeq (tgt := 19) dX7_isValid_4 (by decide) (ite_imp (fun h => ?_) (fun h => ?_) h)
  · refine r_iconst dX7_isValid_19 ?_
    exact r_iret dX7_isValid_20 rfl ⟨rfl, h⟩
  · refine r_iload_n dX7_isValid_7 rfl ?_
    refine r_i2l dX7_isValid_8 ?_
    refine r_lconst (v := 0) dX7_isValid_9 rfl ?_
    refine r_ldc2 dX7_isValid_10 rfl ?_
    refine r_cI dX7_isValid_13 rfl (invS_eq rfl (by decide) rfl rfl rfl rfl ⟨rfl, Nat.le_of_ble_eq_true rfl⟩) (qCI_imp (fun v4 G3 h => ?_) h)
    refine r_ifne (tgt := 21) dX7_isValid_16 (by decide) (ite_imp (fun h => ?_) (fun h => ?_) h)
    · refine r_iload_n dX7_isValid_21 rfl ?_
      refine r_i2l dX7_isValid_22 ?_
      refine r_lconst (v := 0) dX7_isValid_23 rfl ?_
      refine r_iload_n dX7_isValid_24 rfl ?_
      refine r_cI dX7_isValid_25 rfl (invS_eq rfl (by decide) rfl rfl rfl rfl ⟨rfl, Nat.le_of_ble_eq_true rfl⟩) (qCI_imp (fun v6 G5 h => ?_) h)
      refine r_ifle (tgt := 37) dX7_isValid_28 (by decide) (ite_imp (fun h => ?_) (fun h => ?_) h)
      · refine r_lconst (v := 0) dX7_isValid_37 rfl ?_
        refine r_cI dX7_isValid_38 rfl (invS_eq rfl (by decide) rfl rfl rfl rfl ⟨rfl, Nat.le_of_ble_eq_true rfl⟩) (qCI_imp (fun v8 G7 h => ?_) h)
        refine r_ifeq (tgt := 69) dX7_isValid_41 (by decide) (ite_imp (fun h => ?_) (fun h => ?_) h)
        · refine r_bipush dX7_isValid_69 rfl ?_
          exact r_iret dX7_isValid_71 rfl ⟨rfl, h⟩
        · refine r_iload dX7_isValid_44 rfl ?_
          refine r_i2l dX7_isValid_46 ?_
          refine r_lconst (v := 0) dX7_isValid_47 rfl ?_
          refine r_iload_n dX7_isValid_48 rfl ?_
          refine r_cI dX7_isValid_49 rfl (invS_eq rfl (by decide) rfl rfl rfl rfl ⟨rfl, Nat.le_of_ble_eq_true rfl⟩) (qCI_imp (fun v10 G9 h => ?_) h)
          refine r_iconst dX7_isValid_52 ?_
          refine r_cle (tgt := 62) dX7_isValid_53 (by decide) (ite_imp (fun h => ?_) (fun h => ?_) h)
          · refine r_lconst (v := 0) dX7_isValid_62 rfl ?_
            refine r_cI dX7_isValid_63 rfl (invS_eq rfl (by decide) rfl rfl rfl rfl ⟨rfl, Nat.le_of_ble_eq_true rfl⟩) (qCI_imp (fun v12 G11 h => ?_) h)
            refine r_ifne (tgt := 72) dX7_isValid_66 (by decide) (ite_imp (fun h => ?_) (fun h => ?_) h)
            · refine r_aload_n dX7_isValid_72 rfl ?_
              refine r_aload_n dX7_isValid_73 rfl ?_
              refine r_getR dX7_isValid_74 rfl (qFR_imp (fun v13 h => ?_) h)
              refine r_cI dX7_isValid_77 rfl (invV_eq rfl rfl rfl rfl rfl rfl ⟨rfl, Nat.le_of_ble_eq_true rfl⟩ h.1) (qCI_imp (fun v15 G14 h => ?_) h.2)
              refine r_istore dX7_isValid_80 rfl ?_
              refine r_aload_n dX7_isValid_82 rfl ?_
              refine r_getR dX7_isValid_83 rfl (qFR_imp (fun v16 h => ?_) h)
              refine r_iload_n dX7_isValid_86 rfl ?_
              refine r_iload_n dX7_isValid_87 rfl ?_
              refine r_iload_n dX7_isValid_88 rfl ?_
              refine r_iload dX7_isValid_89 rfl ?_
              refine r_cI dX7_isValid_91 rfl (invS_eq rfl (by decide) rfl rfl rfl rfl ⟨rfl, Nat.le_of_ble_eq_true rfl⟩) (qCI_imp (fun v18 G17 h => ?_) h)
              refine r_bald dX7_isValid_94 (qBA_imp (fun v19 h => ?_) h)
              refine r_ifeq (tgt := 102) dX7_isValid_95 (by decide) (ite_imp (fun h => ?_) (fun h => ?_) h)
              · refine r_iconst dX7_isValid_102 ?_
                exact r_iret dX7_isValid_103 rfl ⟨rfl, h⟩
              · refine r_iconst dX7_isValid_98 ?_
                refine r_goto (tgt := 103) dX7_isValid_99 (by decide) ?_
                exact r_iret dX7_isValid_103 rfl ⟨rfl, h⟩
            · refine r_bipush dX7_isValid_69 rfl ?_
              exact r_iret dX7_isValid_71 rfl ⟨rfl, h⟩
          · refine r_ldc2 dX7_isValid_56 rfl ?_
            refine r_goto (tgt := 63) dX7_isValid_59 (by decide) ?_
            refine r_cI dX7_isValid_63 rfl (invS_eq rfl (by decide) rfl rfl rfl rfl ⟨rfl, Nat.le_of_ble_eq_true rfl⟩) (qCI_imp (fun v21 G20 h => ?_) h)
            refine r_ifne (tgt := 72) dX7_isValid_66 (by decide) (ite_imp (fun h => ?_) (fun h => ?_) h)
            · refine r_aload_n dX7_isValid_72 rfl ?_
              refine r_aload_n dX7_isValid_73 rfl ?_
              refine r_getR dX7_isValid_74 rfl (qFR_imp (fun v22 h => ?_) h)
              refine r_cI dX7_isValid_77 rfl (invV_eq rfl rfl rfl rfl rfl rfl ⟨rfl, Nat.le_of_ble_eq_true rfl⟩ h.1) (qCI_imp (fun v24 G23 h => ?_) h.2)
              refine r_istore dX7_isValid_80 rfl ?_
              refine r_aload_n dX7_isValid_82 rfl ?_
              refine r_getR dX7_isValid_83 rfl (qFR_imp (fun v25 h => ?_) h)
              refine r_iload_n dX7_isValid_86 rfl ?_
              refine r_iload_n dX7_isValid_87 rfl ?_
              refine r_iload_n dX7_isValid_88 rfl ?_
              refine r_iload dX7_isValid_89 rfl ?_
              refine r_cI dX7_isValid_91 rfl (invS_eq rfl (by decide) rfl rfl rfl rfl ⟨rfl, Nat.le_of_ble_eq_true rfl⟩) (qCI_imp (fun v27 G26 h => ?_) h)
              refine r_bald dX7_isValid_94 (qBA_imp (fun v28 h => ?_) h)
              refine r_ifeq (tgt := 102) dX7_isValid_95 (by decide) (ite_imp (fun h => ?_) (fun h => ?_) h)
              · refine r_iconst dX7_isValid_102 ?_
                exact r_iret dX7_isValid_103 rfl ⟨rfl, h⟩
              · refine r_iconst dX7_isValid_98 ?_
                refine r_goto (tgt := 103) dX7_isValid_99 (by decide) ?_
                exact r_iret dX7_isValid_103 rfl ⟨rfl, h⟩
            · refine r_bipush dX7_isValid_69 rfl ?_
              exact r_iret dX7_isValid_71 rfl ⟨rfl, h⟩
      · refine r_ldc2 dX7_isValid_31 rfl ?_
        refine r_goto (tgt := 38) dX7_isValid_34 (by decide) ?_
        refine r_cI dX7_isValid_38 rfl (invS_eq rfl (by decide) rfl rfl rfl rfl ⟨rfl, Nat.le_of_ble_eq_true rfl⟩) (qCI_imp (fun v30 G29 h => ?_) h)
        refine r_ifeq (tgt := 69) dX7_isValid_41 (by decide) (ite_imp (fun h => ?_) (fun h => ?_) h)
        · refine r_bipush dX7_isValid_69 rfl ?_
          exact r_iret dX7_isValid_71 rfl ⟨rfl, h⟩
        · refine r_iload dX7_isValid_44 rfl ?_
          refine r_i2l dX7_isValid_46 ?_
          refine r_lconst (v := 0) dX7_isValid_47 rfl ?_
          refine r_iload_n dX7_isValid_48 rfl ?_
          refine r_cI dX7_isValid_49 rfl (invS_eq rfl (by decide) rfl rfl rfl rfl ⟨rfl, Nat.le_of_ble_eq_true rfl⟩) (qCI_imp (fun v32 G31 h => ?_) h)
          refine r_iconst dX7_isValid_52 ?_
          refine r_cle (tgt := 62) dX7_isValid_53 (by decide) (ite_imp (fun h => ?_) (fun h => ?_) h)
          · refine r_lconst (v := 0) dX7_isValid_62 rfl ?_
            refine r_cI dX7_isValid_63 rfl (invS_eq rfl (by decide) rfl rfl rfl rfl ⟨rfl, Nat.le_of_ble_eq_true rfl⟩) (qCI_imp (fun v34 G33 h => ?_) h)
            refine r_ifne (tgt := 72) dX7_isValid_66 (by decide) (ite_imp (fun h => ?_) (fun h => ?_) h)
            · refine r_aload_n dX7_isValid_72 rfl ?_
              refine r_aload_n dX7_isValid_73 rfl ?_
              refine r_getR dX7_isValid_74 rfl (qFR_imp (fun v35 h => ?_) h)
              refine r_cI dX7_isValid_77 rfl (invV_eq rfl rfl rfl rfl rfl rfl ⟨rfl, Nat.le_of_ble_eq_true rfl⟩ h.1) (qCI_imp (fun v37 G36 h => ?_) h.2)
              refine r_istore dX7_isValid_80 rfl ?_
              refine r_aload_n dX7_isValid_82 rfl ?_
              refine r_getR dX7_isValid_83 rfl (qFR_imp (fun v38 h => ?_) h)
              refine r_iload_n dX7_isValid_86 rfl ?_
              refine r_iload_n dX7_isValid_87 rfl ?_
              refine r_iload_n dX7_isValid_88 rfl ?_
              refine r_iload dX7_isValid_89 rfl ?_
              refine r_cI dX7_isValid_91 rfl (invS_eq rfl (by decide) rfl rfl rfl rfl ⟨rfl, Nat.le_of_ble_eq_true rfl⟩) (qCI_imp (fun v40 G39 h => ?_) h)
              refine r_bald dX7_isValid_94 (qBA_imp (fun v41 h => ?_) h)
              refine r_ifeq (tgt := 102) dX7_isValid_95 (by decide) (ite_imp (fun h => ?_) (fun h => ?_) h)
              · refine r_iconst dX7_isValid_102 ?_
                exact r_iret dX7_isValid_103 rfl ⟨rfl, h⟩
              · refine r_iconst dX7_isValid_98 ?_
                refine r_goto (tgt := 103) dX7_isValid_99 (by decide) ?_
                exact r_iret dX7_isValid_103 rfl ⟨rfl, h⟩
            · refine r_bipush dX7_isValid_69 rfl ?_
              exact r_iret dX7_isValid_71 rfl ⟨rfl, h⟩
          · refine r_ldc2 dX7_isValid_56 rfl ?_
            refine r_goto (tgt := 63) dX7_isValid_59 (by decide) ?_
            refine r_cI dX7_isValid_63 rfl (invS_eq rfl (by decide) rfl rfl rfl rfl ⟨rfl, Nat.le_of_ble_eq_true rfl⟩) (qCI_imp (fun v43 G42 h => ?_) h)
            refine r_ifne (tgt := 72) dX7_isValid_66 (by decide) (ite_imp (fun h => ?_) (fun h => ?_) h)
            · refine r_aload_n dX7_isValid_72 rfl ?_
              refine r_aload_n dX7_isValid_73 rfl ?_
              refine r_getR dX7_isValid_74 rfl (qFR_imp (fun v44 h => ?_) h)
              refine r_cI dX7_isValid_77 rfl (invV_eq rfl rfl rfl rfl rfl rfl ⟨rfl, Nat.le_of_ble_eq_true rfl⟩ h.1) (qCI_imp (fun v46 G45 h => ?_) h.2)
              refine r_istore dX7_isValid_80 rfl ?_
              refine r_aload_n dX7_isValid_82 rfl ?_
              refine r_getR dX7_isValid_83 rfl (qFR_imp (fun v47 h => ?_) h)
              refine r_iload_n dX7_isValid_86 rfl ?_
              refine r_iload_n dX7_isValid_87 rfl ?_
              refine r_iload_n dX7_isValid_88 rfl ?_
              refine r_iload dX7_isValid_89 rfl ?_
              refine r_cI dX7_isValid_91 rfl (invS_eq rfl (by decide) rfl rfl rfl rfl ⟨rfl, Nat.le_of_ble_eq_true rfl⟩) (qCI_imp (fun v49 G48 h => ?_) h)
              refine r_bald dX7_isValid_94 (qBA_imp (fun v50 h => ?_) h)
              refine r_ifeq (tgt := 102) dX7_isValid_95 (by decide) (ite_imp (fun h => ?_) (fun h => ?_) h)
              · refine r_iconst dX7_isValid_102 ?_
                exact r_iret dX7_isValid_103 rfl ⟨rfl, h⟩
              · refine r_iconst dX7_isValid_98 ?_
                refine r_goto (tgt := 103) dX7_isValid_99 (by decide) ?_
                exact r_iret dX7_isValid_103 rfl ⟨rfl, h⟩
            · refine r_bipush dX7_isValid_69 rfl ?_
              exact r_iret dX7_isValid_71 rfl ⟨rfl, h⟩
    · refine r_iconst dX7_isValid_19 ?_
      exact r_iret dX7_isValid_20 rfl ⟨rfl, h⟩
theorem e_X7_isValid {E : Ev} {d : Nat} {G : Hp} {Q : Po} {x0 : Nat} {x1 : Int32} {x2 : Int32} {x3 : Int32} {x4 : Int32} (h : (qCI E d i_X7_isNonterminal [.int x1] G fun v2 G1 => (if v2 = 0 then Q (some (.int (iv (-1)))) G1 else (qCI E d i_X7_in [.long (((x2).toInt64)), .long 0, .long 2] G1 fun v4 G3 => (if ¬ v4 = 0 then (qCI E d i_X7_parameters [.int x1] G3 fun v6 G5 => (if v6 ≤ 0 then (qCI E d i_X7_in [.long (((x3).toInt64)), .long 0, .long 0] G5 fun v8 G7 => (if v8 = 0 then Q (some (.int (iv (-2)))) G7 else (qCI E d i_X7_parameters [.int x1] G7 fun v10 G9 => (if v10 ≤ (iv 1) then (qCI E d i_X7_in [.long (((x4).toInt64)), .long 0, .long 0] G9 fun v12 G11 => (if ¬ v12 = 0 then (qFR E G11 x0 7 2 fun v13 => (rcv E G11 x0 7 = true ∧ (qCI E d i_X7_check [.ref x0, .ref v13] G11 fun v15 G14 => (qFR E G14 x0 7 17 fun v16 => (qCI E d i_X7_typingAt [.int x1, .int x2, .int x3, .int x4] G14 fun v18 G17 => (qBA E G17 v16 v18 fun v19 => (if v19 = 0 then Q (some (.int (iv 0))) G17 else Q (some (.int (iv 1))) G17))))))) else Q (some (.int (iv (-2)))) G11)) else (qCI E d i_X7_in [.long (((x4).toInt64)), .long 0, .long 7] G9 fun v21 G20 => (if ¬ v21 = 0 then (qFR E G20 x0 7 2 fun v22 => (rcv E G20 x0 7 = true ∧ (qCI E d i_X7_check [.ref x0, .ref v22] G20 fun v24 G23 => (qFR E G23 x0 7 17 fun v25 => (qCI E d i_X7_typingAt [.int x1, .int x2, .int x3, .int x4] G23 fun v27 G26 => (qBA E G26 v25 v27 fun v28 => (if v28 = 0 then Q (some (.int (iv 0))) G26 else Q (some (.int (iv 1))) G26))))))) else Q (some (.int (iv (-2)))) G20)))))) else (qCI E d i_X7_in [.long (((x3).toInt64)), .long 0, .long 7] G5 fun v30 G29 => (if v30 = 0 then Q (some (.int (iv (-2)))) G29 else (qCI E d i_X7_parameters [.int x1] G29 fun v32 G31 => (if v32 ≤ (iv 1) then (qCI E d i_X7_in [.long (((x4).toInt64)), .long 0, .long 0] G31 fun v34 G33 => (if ¬ v34 = 0 then (qFR E G33 x0 7 2 fun v35 => (rcv E G33 x0 7 = true ∧ (qCI E d i_X7_check [.ref x0, .ref v35] G33 fun v37 G36 => (qFR E G36 x0 7 17 fun v38 => (qCI E d i_X7_typingAt [.int x1, .int x2, .int x3, .int x4] G36 fun v40 G39 => (qBA E G39 v38 v40 fun v41 => (if v41 = 0 then Q (some (.int (iv 0))) G39 else Q (some (.int (iv 1))) G39))))))) else Q (some (.int (iv (-2)))) G33)) else (qCI E d i_X7_in [.long (((x4).toInt64)), .long 0, .long 7] G31 fun v43 G42 => (if ¬ v43 = 0 then (qFR E G42 x0 7 2 fun v44 => (rcv E G42 x0 7 = true ∧ (qCI E d i_X7_check [.ref x0, .ref v44] G42 fun v46 G45 => (qFR E G45 x0 7 17 fun v47 => (qCI E d i_X7_typingAt [.int x1, .int x2, .int x3, .int x4] G45 fun v49 G48 => (qBA E G48 v47 v49 fun v50 => (if v50 = 0 then Q (some (.int (iv 0))) G48 else Q (some (.int (iv 1))) G48))))))) else Q (some (.int (iv (-2)))) G42)))))))) else Q (some (.int (iv (-1)))) G3))))) : runs E (d + 1) i_X7_isValid [.ref x0, .int x1, .int x2, .int x3, .int x4] G Q := by
  rw [runs_eq (m := (yX7_isValid, cX7_isValid, 6, some (.int), 4, 7, false, false)) rfl (Nat.le_of_ble_eq_true rfl)]
  exact g_X7_isValid_0 h
theorem dX7_demand_0 : decode cX7_demand 0 = .ok (.iload_n 1, 1) := by decide +kernel
theorem dX7_demand_1 : decode cX7_demand 1 = .ok (.invokestatic 122, 3) := by decide +kernel
theorem dX7_demand_4 : decode cX7_demand 4 = .ok (.ifCond .eq 15, 3) := by decide +kernel
theorem dX7_demand_7 : decode cX7_demand 7 = .ok (.iload_n 2, 1) := by decide +kernel
theorem dX7_demand_8 : decode cX7_demand 8 = .ok (.i2l, 1) := by decide +kernel
theorem dX7_demand_9 : decode cX7_demand 9 = .ok (.lconst 0, 1) := by decide +kernel
theorem dX7_demand_10 : decode cX7_demand 10 = .ok (.ldc2_w 89, 3) := by decide +kernel
theorem dX7_demand_13 : decode cX7_demand 13 = .ok (.invokestatic 55, 3) := by decide +kernel
theorem dX7_demand_16 : decode cX7_demand 16 = .ok (.ifCond .ne 5, 3) := by decide +kernel
theorem dX7_demand_19 : decode cX7_demand 19 = .ok (.iconst (-1), 1) := by decide +kernel
theorem dX7_demand_20 : decode cX7_demand 20 = .ok (.ireturn, 1) := by decide +kernel
theorem dX7_demand_21 : decode cX7_demand 21 = .ok (.iload_n 3, 1) := by decide +kernel
theorem dX7_demand_22 : decode cX7_demand 22 = .ok (.i2l, 1) := by decide +kernel
theorem dX7_demand_23 : decode cX7_demand 23 = .ok (.lconst 1, 1) := by decide +kernel
theorem dX7_demand_24 : decode cX7_demand 24 = .ok (.iload_n 1, 1) := by decide +kernel
theorem dX7_demand_25 : decode cX7_demand 25 = .ok (.invokestatic 73, 3) := by decide +kernel
theorem dX7_demand_28 : decode cX7_demand 28 = .ok (.i2l, 1) := by decide +kernel
theorem dX7_demand_29 : decode cX7_demand 29 = .ok (.invokestatic 55, 3) := by decide +kernel
theorem dX7_demand_32 : decode cX7_demand 32 = .ok (.ifCond .ne 6, 3) := by decide +kernel
theorem dX7_demand_35 : decode cX7_demand 35 = .ok (.bipush (-2), 2) := by decide +kernel
theorem dX7_demand_37 : decode cX7_demand 37 = .ok (.ireturn, 1) := by decide +kernel
theorem dX7_demand_38 : decode cX7_demand 38 = .ok (.aload_n 0, 1) := by decide +kernel
theorem dX7_demand_39 : decode cX7_demand 39 = .ok (.aload_n 0, 1) := by decide +kernel
theorem dX7_demand_40 : decode cX7_demand 40 = .ok (.getfield 13, 3) := by decide +kernel
theorem dX7_demand_43 : decode cX7_demand 43 = .ok (.invokevirtual 223, 3) := by decide +kernel
theorem dX7_demand_46 : decode cX7_demand 46 = .ok (.istore 4, 2) := by decide +kernel
theorem dX7_demand_48 : decode cX7_demand 48 = .ok (.bipush 7, 2) := by decide +kernel
theorem dX7_demand_50 : decode cX7_demand 50 = .ok (.istore 5, 2) := by decide +kernel
theorem dX7_demand_52 : decode cX7_demand 52 = .ok (.iconst 0, 1) := by decide +kernel
theorem dX7_demand_53 : decode cX7_demand 53 = .ok (.istore 6, 2) := by decide +kernel
theorem dX7_demand_55 : decode cX7_demand 55 = .ok (.iconst 0, 1) := by decide +kernel
theorem dX7_demand_56 : decode cX7_demand 56 = .ok (.istore 7, 2) := by decide +kernel
theorem dX7_demand_58 : decode cX7_demand 58 = .ok (.iload 7, 2) := by decide +kernel
theorem dX7_demand_60 : decode cX7_demand 60 = .ok (.bipush 8, 2) := by decide +kernel
theorem dX7_demand_62 : decode cX7_demand 62 = .ok (.if_icmp .ge 74, 3) := by decide +kernel
theorem dX7_demand_65 : decode cX7_demand 65 = .ok (.iconst 0, 1) := by decide +kernel
theorem dX7_demand_66 : decode cX7_demand 66 = .ok (.istore 8, 2) := by decide +kernel
theorem dX7_demand_68 : decode cX7_demand 68 = .ok (.iload 8, 2) := by decide +kernel
theorem dX7_demand_70 : decode cX7_demand 70 = .ok (.iload_n 1, 1) := by decide +kernel
theorem dX7_demand_71 : decode cX7_demand 71 = .ok (.invokestatic 73, 3) := by decide +kernel
theorem dX7_demand_74 : decode cX7_demand 74 = .ok (.iconst 1, 1) := by decide +kernel
theorem dX7_demand_75 : decode cX7_demand 75 = .ok (.if_icmp .le 8, 3) := by decide +kernel
theorem dX7_demand_78 : decode cX7_demand 78 = .ok (.bipush 8, 2) := by decide +kernel
theorem dX7_demand_80 : decode cX7_demand 80 = .ok (.goto 4, 3) := by decide +kernel
theorem dX7_demand_83 : decode cX7_demand 83 = .ok (.iconst 1, 1) := by decide +kernel
theorem dX7_demand_84 : decode cX7_demand 84 = .ok (.if_icmp .ge 46, 3) := by decide +kernel
theorem dX7_demand_87 : decode cX7_demand 87 = .ok (.aload_n 0, 1) := by decide +kernel
theorem dX7_demand_88 : decode cX7_demand 88 = .ok (.getfield 38, 3) := by decide +kernel
theorem dX7_demand_91 : decode cX7_demand 91 = .ok (.iload_n 1, 1) := by decide +kernel
theorem dX7_demand_92 : decode cX7_demand 92 = .ok (.iload_n 2, 1) := by decide +kernel
theorem dX7_demand_93 : decode cX7_demand 93 = .ok (.iload 7, 2) := by decide +kernel
theorem dX7_demand_95 : decode cX7_demand 95 = .ok (.iload 8, 2) := by decide +kernel
theorem dX7_demand_97 : decode cX7_demand 97 = .ok (.invokestatic 204, 3) := by decide +kernel
theorem dX7_demand_100 : decode cX7_demand 100 = .ok (.baload, 1) := by decide +kernel
theorem dX7_demand_101 : decode cX7_demand 101 = .ok (.ifCond .eq 23, 3) := by decide +kernel
theorem dX7_demand_104 : decode cX7_demand 104 = .ok (.iload 5, 2) := by decide +kernel
theorem dX7_demand_106 : decode cX7_demand 106 = .ok (.iload_n 3, 1) := by decide +kernel
theorem dX7_demand_107 : decode cX7_demand 107 = .ok (.iconst 1, 1) := by decide +kernel
theorem dX7_demand_108 : decode cX7_demand 108 = .ok (.if_icmp .ne 8, 3) := by decide +kernel
theorem dX7_demand_111 : decode cX7_demand 111 = .ok (.iload 7, 2) := by decide +kernel
theorem dX7_demand_113 : decode cX7_demand 113 = .ok (.goto 5, 3) := by decide +kernel
theorem dX7_demand_116 : decode cX7_demand 116 = .ok (.iload 8, 2) := by decide +kernel
theorem dX7_demand_118 : decode cX7_demand 118 = .ok (.iand, 1) := by decide +kernel
theorem dX7_demand_119 : decode cX7_demand 119 = .ok (.istore 5, 2) := by decide +kernel
theorem dX7_demand_121 : decode cX7_demand 121 = .ok (.iconst 1, 1) := by decide +kernel
theorem dX7_demand_122 : decode cX7_demand 122 = .ok (.istore 6, 2) := by decide +kernel
theorem dX7_demand_124 : decode cX7_demand 124 = .ok (.iinc 8 1, 3) := by decide +kernel
theorem dX7_demand_127 : decode cX7_demand 127 = .ok (.goto (-59), 3) := by decide +kernel
theorem dX7_demand_130 : decode cX7_demand 130 = .ok (.iinc 7 1, 3) := by decide +kernel
theorem dX7_demand_133 : decode cX7_demand 133 = .ok (.goto (-75), 3) := by decide +kernel
theorem dX7_demand_136 : decode cX7_demand 136 = .ok (.iload 6, 2) := by decide +kernel
theorem dX7_demand_138 : decode cX7_demand 138 = .ok (.ifCond .eq 8, 3) := by decide +kernel
theorem dX7_demand_141 : decode cX7_demand 141 = .ok (.iload 5, 2) := by decide +kernel
theorem dX7_demand_143 : decode cX7_demand 143 = .ok (.goto 5, 3) := by decide +kernel
theorem dX7_demand_146 : decode cX7_demand 146 = .ok (.bipush (-9), 2) := by decide +kernel
theorem dX7_demand_148 : decode cX7_demand 148 = .ok (.ireturn, 1) := by decide +kernel
abbrev x_X7_demand : Cx := (7, cX7_demand, false, some (.int))
set_option maxRecDepth 10000 in
theorem g_X7_demand_0 {E : Ev} {d : Nat} {G : Hp} {Q : Po} {x0 : Nat} {x1 : Int32} {x2 : Int32} {x3 : Int32} (h : (qCI E d i_X7_isNonterminal [.int x1] G fun v2 G1 => (if v2 = 0 then Q (some (.int (iv (-1)))) G1 else (qCI E d i_X7_in [.long (((x2).toInt64)), .long 0, .long 2] G1 fun v4 G3 => (if ¬ v4 = 0 then (qCI E d i_X7_parameters [.int x1] G3 fun v6 G5 => (qCI E d i_X7_in [.long (((x3).toInt64)), .long 1, .long (((v6).toInt64))] G5 fun v8 G7 => (if ¬ v8 = 0 then (qFR E G7 x0 7 2 fun v9 => (rcv E G7 x0 7 = true ∧ (qCI E d i_X7_check [.ref x0, .ref v9] G7 fun v11 G10 => Xr E d x_X7_demand 58 [some (.ref x0), some (.int x1), some (.int x2), some (.int x3), some (.int v11), some (.int ((iv 7))), some (.int ((iv 0))), some (.int ((iv 0))), none] [] G10 Q))) else Q (some (.int (iv (-2)))) G7))) else Q (some (.int (iv (-1)))) G3))))) : Xr E d x_X7_demand 0 [some (.ref x0), some (.int x1), some (.int x2), some (.int x3), none, none, none, none, none] [] G Q := by
  refine r_iload_n dX7_demand_0 rfl ?_
  refine r_cI dX7_demand_1 rfl (invS_eq rfl (by decide) rfl rfl rfl rfl ⟨rfl, Nat.le_of_ble_eq_true rfl⟩) (qCI_imp (fun v2 G1 h => ?_) h)
  refine r_ifeq (tgt := 19) dX7_demand_4 (by decide) (ite_imp (fun h => ?_) (fun h => ?_) h)
  · refine r_iconst dX7_demand_19 ?_
    exact r_iret dX7_demand_20 rfl ⟨rfl, h⟩
  · refine r_iload_n dX7_demand_7 rfl ?_
    refine r_i2l dX7_demand_8 ?_
    refine r_lconst (v := 0) dX7_demand_9 rfl ?_
    refine r_ldc2 dX7_demand_10 rfl ?_
    refine r_cI dX7_demand_13 rfl (invS_eq rfl (by decide) rfl rfl rfl rfl ⟨rfl, Nat.le_of_ble_eq_true rfl⟩) (qCI_imp (fun v4 G3 h => ?_) h)
    refine r_ifne (tgt := 21) dX7_demand_16 (by decide) (ite_imp (fun h => ?_) (fun h => ?_) h)
    · refine r_iload_n dX7_demand_21 rfl ?_
      refine r_i2l dX7_demand_22 ?_
      refine r_lconst (v := 1) dX7_demand_23 rfl ?_
      refine r_iload_n dX7_demand_24 rfl ?_
      refine r_cI dX7_demand_25 rfl (invS_eq rfl (by decide) rfl rfl rfl rfl ⟨rfl, Nat.le_of_ble_eq_true rfl⟩) (qCI_imp (fun v6 G5 h => ?_) h)
      refine r_i2l dX7_demand_28 ?_
      refine r_cI dX7_demand_29 rfl (invS_eq rfl (by decide) rfl rfl rfl rfl ⟨rfl, Nat.le_of_ble_eq_true rfl⟩) (qCI_imp (fun v8 G7 h => ?_) h)
      refine r_ifne (tgt := 38) dX7_demand_32 (by decide) (ite_imp (fun h => ?_) (fun h => ?_) h)
      · refine r_aload_n dX7_demand_38 rfl ?_
        refine r_aload_n dX7_demand_39 rfl ?_
        refine r_getR dX7_demand_40 rfl (qFR_imp (fun v9 h => ?_) h)
        refine r_cI dX7_demand_43 rfl (invV_eq rfl rfl rfl rfl rfl rfl ⟨rfl, Nat.le_of_ble_eq_true rfl⟩ h.1) (qCI_imp (fun v11 G10 h => ?_) h.2)
        refine r_istore dX7_demand_46 rfl ?_
        refine r_bipush dX7_demand_48 rfl ?_
        refine r_istore dX7_demand_50 rfl ?_
        refine r_iconst dX7_demand_52 ?_
        refine r_istore dX7_demand_53 rfl ?_
        refine r_iconst dX7_demand_55 ?_
        refine r_istore dX7_demand_56 rfl ?_
        exact h
      · refine r_bipush dX7_demand_35 rfl ?_
        exact r_iret dX7_demand_37 rfl ⟨rfl, h⟩
    · refine r_iconst dX7_demand_19 ?_
      exact r_iret dX7_demand_20 rfl ⟨rfl, h⟩
theorem e_X7_demand {E : Ev} {d : Nat} {G : Hp} {Q : Po} {x0 : Nat} {x1 : Int32} {x2 : Int32} {x3 : Int32} (h : (qCI E d i_X7_isNonterminal [.int x1] G fun v2 G1 => (if v2 = 0 then Q (some (.int (iv (-1)))) G1 else (qCI E d i_X7_in [.long (((x2).toInt64)), .long 0, .long 2] G1 fun v4 G3 => (if ¬ v4 = 0 then (qCI E d i_X7_parameters [.int x1] G3 fun v6 G5 => (qCI E d i_X7_in [.long (((x3).toInt64)), .long 1, .long (((v6).toInt64))] G5 fun v8 G7 => (if ¬ v8 = 0 then (qFR E G7 x0 7 2 fun v9 => (rcv E G7 x0 7 = true ∧ (qCI E d i_X7_check [.ref x0, .ref v9] G7 fun v11 G10 => Xr E d x_X7_demand 58 [some (.ref x0), some (.int x1), some (.int x2), some (.int x3), some (.int v11), some (.int ((iv 7))), some (.int ((iv 0))), some (.int ((iv 0))), none] [] G10 Q))) else Q (some (.int (iv (-2)))) G7))) else Q (some (.int (iv (-1)))) G3))))) : runs E (d + 1) i_X7_demand [.ref x0, .int x1, .int x2, .int x3] G Q := by
  rw [runs_eq (m := (yX7_demand, cX7_demand, 9, some (.int), 3, 7, false, false)) rfl (Nat.le_of_ble_eq_true rfl)]
  exact g_X7_demand_0 h
set_option maxRecDepth 10000 in
theorem g_X7_demand_58 {E : Ev} {d : Nat} {G : Hp} {Q : Po} {x0 : Nat} {x1 : Int32} {x2 : Int32} {x3 : Int32} {x4 : Int32} {x5 : Int32} {x6 : Int32} {x7 : Int32} {l8 : Option Value} (h : (if (iv 8) ≤ x7 then (if x6 = 0 then Q (some (.int (iv (-9)))) G else Q (some (.int x5)) G) else Xr E d x_X7_demand 68 [some (.ref x0), some (.int x1), some (.int x2), some (.int x3), some (.int x4), some (.int x5), some (.int x6), some (.int x7), some (.int ((iv 0)))] [] G Q)) : Xr E d x_X7_demand 58 [some (.ref x0), some (.int x1), some (.int x2), some (.int x3), some (.int x4), some (.int x5), some (.int x6), some (.int x7), l8] [] G Q := by
  refine r_iload dX7_demand_58 rfl ?_
  refine r_bipush dX7_demand_60 rfl ?_
  refine r_cge (tgt := 136) dX7_demand_62 (by decide) (ite_imp (fun h => ?_) (fun h => ?_) h)
  · refine r_iload dX7_demand_136 rfl ?_
    refine r_ifeq (tgt := 146) dX7_demand_138 (by decide) (ite_imp (fun h => ?_) (fun h => ?_) h)
    · refine r_bipush dX7_demand_146 rfl ?_
      exact r_iret dX7_demand_148 rfl ⟨rfl, h⟩
    · refine r_iload dX7_demand_141 rfl ?_
      refine r_goto (tgt := 148) dX7_demand_143 (by decide) ?_
      exact r_iret dX7_demand_148 rfl ⟨rfl, h⟩
  · refine r_iconst dX7_demand_65 ?_
    refine r_istore dX7_demand_66 rfl ?_
    exact h
set_option maxRecDepth 10000 in
theorem g_X7_demand_68 {E : Ev} {d : Nat} {G : Hp} {Q : Po} {x0 : Nat} {x1 : Int32} {x2 : Int32} {x3 : Int32} {x4 : Int32} {x5 : Int32} {x6 : Int32} {x7 : Int32} {x8 : Int32} (h : (qCI E d i_X7_parameters [.int x1] G fun v2 G1 => (if v2 ≤ (iv 1) then (if (iv 1) ≤ x8 then Xr E d x_X7_demand 58 [some (.ref x0), some (.int x1), some (.int x2), some (.int x3), some (.int x4), some (.int x5), some (.int x6), some (.int ((x7 + (iv 1)))), some (.int x8)] [] G1 Q else (qFR E G1 x0 7 17 fun v3 => (qCI E d i_X7_typingAt [.int x1, .int x2, .int x7, .int x8] G1 fun v5 G4 => (qBA E G4 v3 v5 fun v6 => (if v6 = 0 then Xr E d x_X7_demand 68 [some (.ref x0), some (.int x1), some (.int x2), some (.int x3), some (.int x4), some (.int x5), some (.int x6), some (.int x7), some (.int ((x8 + (iv 1))))] [] G4 Q else (if ¬ x3 = (iv 1) then Xr E d x_X7_demand 68 [some (.ref x0), some (.int x1), some (.int x2), some (.int x3), some (.int x4), some (.int ((x5 &&& x8))), some (.int ((iv 1))), some (.int x7), some (.int ((x8 + (iv 1))))] [] G4 Q else Xr E d x_X7_demand 68 [some (.ref x0), some (.int x1), some (.int x2), some (.int x3), some (.int x4), some (.int ((x5 &&& x7))), some (.int ((iv 1))), some (.int x7), some (.int ((x8 + (iv 1))))] [] G4 Q)))))) else (if (iv 8) ≤ x8 then Xr E d x_X7_demand 58 [some (.ref x0), some (.int x1), some (.int x2), some (.int x3), some (.int x4), some (.int x5), some (.int x6), some (.int ((x7 + (iv 1)))), some (.int x8)] [] G1 Q else (qFR E G1 x0 7 17 fun v7 => (qCI E d i_X7_typingAt [.int x1, .int x2, .int x7, .int x8] G1 fun v9 G8 => (qBA E G8 v7 v9 fun v10 => (if v10 = 0 then Xr E d x_X7_demand 68 [some (.ref x0), some (.int x1), some (.int x2), some (.int x3), some (.int x4), some (.int x5), some (.int x6), some (.int x7), some (.int ((x8 + (iv 1))))] [] G8 Q else (if ¬ x3 = (iv 1) then Xr E d x_X7_demand 68 [some (.ref x0), some (.int x1), some (.int x2), some (.int x3), some (.int x4), some (.int ((x5 &&& x8))), some (.int ((iv 1))), some (.int x7), some (.int ((x8 + (iv 1))))] [] G8 Q else Xr E d x_X7_demand 68 [some (.ref x0), some (.int x1), some (.int x2), some (.int x3), some (.int x4), some (.int ((x5 &&& x7))), some (.int ((iv 1))), some (.int x7), some (.int ((x8 + (iv 1))))] [] G8 Q))))))))) : Xr E d x_X7_demand 68 [some (.ref x0), some (.int x1), some (.int x2), some (.int x3), some (.int x4), some (.int x5), some (.int x6), some (.int x7), some (.int x8)] [] G Q := by
  refine r_iload dX7_demand_68 rfl ?_
  refine r_iload_n dX7_demand_70 rfl ?_
  refine r_cI dX7_demand_71 rfl (invS_eq rfl (by decide) rfl rfl rfl rfl ⟨rfl, Nat.le_of_ble_eq_true rfl⟩) (qCI_imp (fun v2 G1 h => ?_) h)
  refine r_iconst dX7_demand_74 ?_
  refine r_cle (tgt := 83) dX7_demand_75 (by decide) (ite_imp (fun h => ?_) (fun h => ?_) h)
  · refine r_iconst dX7_demand_83 ?_
    refine r_cge (tgt := 130) dX7_demand_84 (by decide) (ite_imp (fun h => ?_) (fun h => ?_) h)
    · refine r_iinc dX7_demand_130 rfl rfl ?_
      refine r_goto (tgt := 58) dX7_demand_133 (by decide) ?_
      exact h
    · refine r_aload_n dX7_demand_87 rfl ?_
      refine r_getR dX7_demand_88 rfl (qFR_imp (fun v3 h => ?_) h)
      refine r_iload_n dX7_demand_91 rfl ?_
      refine r_iload_n dX7_demand_92 rfl ?_
      refine r_iload dX7_demand_93 rfl ?_
      refine r_iload dX7_demand_95 rfl ?_
      refine r_cI dX7_demand_97 rfl (invS_eq rfl (by decide) rfl rfl rfl rfl ⟨rfl, Nat.le_of_ble_eq_true rfl⟩) (qCI_imp (fun v5 G4 h => ?_) h)
      refine r_bald dX7_demand_100 (qBA_imp (fun v6 h => ?_) h)
      refine r_ifeq (tgt := 124) dX7_demand_101 (by decide) (ite_imp (fun h => ?_) (fun h => ?_) h)
      · refine r_iinc dX7_demand_124 rfl rfl ?_
        refine r_goto (tgt := 68) dX7_demand_127 (by decide) ?_
        exact h
      · refine r_iload dX7_demand_104 rfl ?_
        refine r_iload_n dX7_demand_106 rfl ?_
        refine r_iconst dX7_demand_107 ?_
        refine r_cne (tgt := 116) dX7_demand_108 (by decide) (ite_imp (fun h => ?_) (fun h => ?_) h)
        · refine r_iload dX7_demand_116 rfl ?_
          refine r_iand dX7_demand_118 ?_
          refine r_istore dX7_demand_119 rfl ?_
          refine r_iconst dX7_demand_121 ?_
          refine r_istore dX7_demand_122 rfl ?_
          refine r_iinc dX7_demand_124 rfl rfl ?_
          refine r_goto (tgt := 68) dX7_demand_127 (by decide) ?_
          exact h
        · refine r_iload dX7_demand_111 rfl ?_
          refine r_goto (tgt := 118) dX7_demand_113 (by decide) ?_
          refine r_iand dX7_demand_118 ?_
          refine r_istore dX7_demand_119 rfl ?_
          refine r_iconst dX7_demand_121 ?_
          refine r_istore dX7_demand_122 rfl ?_
          refine r_iinc dX7_demand_124 rfl rfl ?_
          refine r_goto (tgt := 68) dX7_demand_127 (by decide) ?_
          exact h
  · refine r_bipush dX7_demand_78 rfl ?_
    refine r_goto (tgt := 84) dX7_demand_80 (by decide) ?_
    refine r_cge (tgt := 130) dX7_demand_84 (by decide) (ite_imp (fun h => ?_) (fun h => ?_) h)
    · refine r_iinc dX7_demand_130 rfl rfl ?_
      refine r_goto (tgt := 58) dX7_demand_133 (by decide) ?_
      exact h
    · refine r_aload_n dX7_demand_87 rfl ?_
      refine r_getR dX7_demand_88 rfl (qFR_imp (fun v7 h => ?_) h)
      refine r_iload_n dX7_demand_91 rfl ?_
      refine r_iload_n dX7_demand_92 rfl ?_
      refine r_iload dX7_demand_93 rfl ?_
      refine r_iload dX7_demand_95 rfl ?_
      refine r_cI dX7_demand_97 rfl (invS_eq rfl (by decide) rfl rfl rfl rfl ⟨rfl, Nat.le_of_ble_eq_true rfl⟩) (qCI_imp (fun v9 G8 h => ?_) h)
      refine r_bald dX7_demand_100 (qBA_imp (fun v10 h => ?_) h)
      refine r_ifeq (tgt := 124) dX7_demand_101 (by decide) (ite_imp (fun h => ?_) (fun h => ?_) h)
      · refine r_iinc dX7_demand_124 rfl rfl ?_
        refine r_goto (tgt := 68) dX7_demand_127 (by decide) ?_
        exact h
      · refine r_iload dX7_demand_104 rfl ?_
        refine r_iload_n dX7_demand_106 rfl ?_
        refine r_iconst dX7_demand_107 ?_
        refine r_cne (tgt := 116) dX7_demand_108 (by decide) (ite_imp (fun h => ?_) (fun h => ?_) h)
        · refine r_iload dX7_demand_116 rfl ?_
          refine r_iand dX7_demand_118 ?_
          refine r_istore dX7_demand_119 rfl ?_
          refine r_iconst dX7_demand_121 ?_
          refine r_istore dX7_demand_122 rfl ?_
          refine r_iinc dX7_demand_124 rfl rfl ?_
          refine r_goto (tgt := 68) dX7_demand_127 (by decide) ?_
          exact h
        · refine r_iload dX7_demand_111 rfl ?_
          refine r_goto (tgt := 118) dX7_demand_113 (by decide) ?_
          refine r_iand dX7_demand_118 ?_
          refine r_istore dX7_demand_119 rfl ?_
          refine r_iconst dX7_demand_121 ?_
          refine r_istore dX7_demand_122 rfl ?_
          refine r_iinc dX7_demand_124 rfl rfl ?_
          refine r_goto (tgt := 68) dX7_demand_127 (by decide) ?_
          exact h
theorem dX7_command_0 : decode cX7_command 0 = .ok (.iload_n 1, 1) := by decide +kernel
theorem dX7_command_1 : decode cX7_command 1 = .ok (.tableswitch 276 1 6 #[39, 80, 137, 179, 211, 248], 39) := by decide +kernel
theorem dX7_command_40 : decode cX7_command 40 = .ok (.iload_n 2, 1) := by decide +kernel
theorem dX7_command_41 : decode cX7_command 41 = .ok (.iload_n 3, 1) := by decide +kernel
theorem dX7_command_42 : decode cX7_command 42 = .ok (.invokestatic 126, 3) := by decide +kernel
theorem dX7_command_45 : decode cX7_command 45 = .ok (.ifCond .eq 21, 3) := by decide +kernel
theorem dX7_command_48 : decode cX7_command 48 = .ok (.iload 4, 2) := by decide +kernel
theorem dX7_command_50 : decode cX7_command 50 = .ok (.ifCond .ne 16, 3) := by decide +kernel
theorem dX7_command_53 : decode cX7_command 53 = .ok (.aload_n 0, 1) := by decide +kernel
theorem dX7_command_54 : decode cX7_command 54 = .ok (.getfield 16, 3) := by decide +kernel
theorem dX7_command_57 : decode cX7_command 57 = .ok (.iload_n 2, 1) := by decide +kernel
theorem dX7_command_58 : decode cX7_command 58 = .ok (.iload_n 3, 1) := by decide +kernel
theorem dX7_command_59 : decode cX7_command 59 = .ok (.invokestatic 129, 3) := by decide +kernel
theorem dX7_command_62 : decode cX7_command 62 = .ok (.iaload, 1) := by decide +kernel
theorem dX7_command_63 : decode cX7_command 63 = .ok (.ifCond .ne 5, 3) := by decide +kernel
theorem dX7_command_66 : decode cX7_command 66 = .ok (.iconst 0, 1) := by decide +kernel
theorem dX7_command_67 : decode cX7_command 67 = .ok (.ireturn, 1) := by decide +kernel
theorem dX7_command_68 : decode cX7_command 68 = .ok (.aload_n 0, 1) := by decide +kernel
theorem dX7_command_69 : decode cX7_command 69 = .ok (.getfield 16, 3) := by decide +kernel
theorem dX7_command_72 : decode cX7_command 72 = .ok (.iload_n 2, 1) := by decide +kernel
theorem dX7_command_73 : decode cX7_command 73 = .ok (.iload_n 3, 1) := by decide +kernel
theorem dX7_command_74 : decode cX7_command 74 = .ok (.invokestatic 129, 3) := by decide +kernel
theorem dX7_command_77 : decode cX7_command 77 = .ok (.iconst 0, 1) := by decide +kernel
theorem dX7_command_78 : decode cX7_command 78 = .ok (.iastore, 1) := by decide +kernel
theorem dX7_command_79 : decode cX7_command 79 = .ok (.iconst 1, 1) := by decide +kernel
theorem dX7_command_80 : decode cX7_command 80 = .ok (.ireturn, 1) := by decide +kernel
theorem dX7_command_81 : decode cX7_command 81 = .ok (.iload_n 2, 1) := by decide +kernel
theorem dX7_command_82 : decode cX7_command 82 = .ok (.i2l, 1) := by decide +kernel
theorem dX7_command_83 : decode cX7_command 83 = .ok (.lconst 0, 1) := by decide +kernel
theorem dX7_command_84 : decode cX7_command 84 = .ok (.ldc2_w 89, 3) := by decide +kernel
theorem dX7_command_87 : decode cX7_command 87 = .ok (.invokestatic 55, 3) := by decide +kernel
theorem dX7_command_90 : decode cX7_command 90 = .ok (.ifCond .eq 20, 3) := by decide +kernel
theorem dX7_command_93 : decode cX7_command 93 = .ok (.iload_n 3, 1) := by decide +kernel
theorem dX7_command_94 : decode cX7_command 94 = .ok (.i2l, 1) := by decide +kernel
theorem dX7_command_95 : decode cX7_command 95 = .ok (.lconst 0, 1) := by decide +kernel
theorem dX7_command_96 : decode cX7_command 96 = .ok (.ldc2_w 89, 3) := by decide +kernel
theorem dX7_command_99 : decode cX7_command 99 = .ok (.invokestatic 55, 3) := by decide +kernel
theorem dX7_command_102 : decode cX7_command 102 = .ok (.ifCond .eq 8, 3) := by decide +kernel
theorem dX7_command_105 : decode cX7_command 105 = .ok (.iload 4, 2) := by decide +kernel
theorem dX7_command_107 : decode cX7_command 107 = .ok (.ifCond .eq 5, 3) := by decide +kernel
theorem dX7_command_110 : decode cX7_command 110 = .ok (.iconst 0, 1) := by decide +kernel
theorem dX7_command_111 : decode cX7_command 111 = .ok (.ireturn, 1) := by decide +kernel
theorem dX7_command_112 : decode cX7_command 112 = .ok (.aload_n 0, 1) := by decide +kernel
theorem dX7_command_113 : decode cX7_command 113 = .ok (.getfield 16, 3) := by decide +kernel
theorem dX7_command_116 : decode cX7_command 116 = .ok (.iload_n 2, 1) := by decide +kernel
theorem dX7_command_117 : decode cX7_command 117 = .ok (.iconst 1, 1) := by decide +kernel
theorem dX7_command_118 : decode cX7_command 118 = .ok (.invokestatic 129, 3) := by decide +kernel
theorem dX7_command_121 : decode cX7_command 121 = .ok (.iconst 1, 1) := by decide +kernel
theorem dX7_command_122 : decode cX7_command 122 = .ok (.iastore, 1) := by decide +kernel
theorem dX7_command_123 : decode cX7_command 123 = .ok (.aload_n 0, 1) := by decide +kernel
theorem dX7_command_124 : decode cX7_command 124 = .ok (.getfield 16, 3) := by decide +kernel
theorem dX7_command_127 : decode cX7_command 127 = .ok (.iload_n 2, 1) := by decide +kernel
theorem dX7_command_128 : decode cX7_command 128 = .ok (.iconst 1, 1) := by decide +kernel
theorem dX7_command_129 : decode cX7_command 129 = .ok (.invokestatic 129, 3) := by decide +kernel
theorem dX7_command_132 : decode cX7_command 132 = .ok (.iconst 1, 1) := by decide +kernel
theorem dX7_command_133 : decode cX7_command 133 = .ok (.iadd, 1) := by decide +kernel
theorem dX7_command_134 : decode cX7_command 134 = .ok (.iload_n 3, 1) := by decide +kernel
theorem dX7_command_135 : decode cX7_command 135 = .ok (.iastore, 1) := by decide +kernel
theorem dX7_command_136 : decode cX7_command 136 = .ok (.iconst 1, 1) := by decide +kernel
theorem dX7_command_137 : decode cX7_command 137 = .ok (.ireturn, 1) := by decide +kernel
theorem dX7_command_138 : decode cX7_command 138 = .ok (.iload_n 2, 1) := by decide +kernel
theorem dX7_command_139 : decode cX7_command 139 = .ok (.ifCond .ne 39, 3) := by decide +kernel
theorem dX7_command_142 : decode cX7_command 142 = .ok (.iload_n 3, 1) := by decide +kernel
theorem dX7_command_143 : decode cX7_command 143 = .ok (.ifCond .ne 35, 3) := by decide +kernel
theorem dX7_command_146 : decode cX7_command 146 = .ok (.iload 4, 2) := by decide +kernel
theorem dX7_command_148 : decode cX7_command 148 = .ok (.iconst 2, 1) := by decide +kernel
theorem dX7_command_149 : decode cX7_command 149 = .ok (.if_icmp .ge 29, 3) := by decide +kernel
theorem dX7_command_152 : decode cX7_command 152 = .ok (.aload_n 0, 1) := by decide +kernel
theorem dX7_command_153 : decode cX7_command 153 = .ok (.aload_n 0, 1) := by decide +kernel
theorem dX7_command_154 : decode cX7_command 154 = .ok (.getfield 16, 3) := by decide +kernel
theorem dX7_command_157 : decode cX7_command 157 = .ok (.invokevirtual 226, 3) := by decide +kernel
theorem dX7_command_160 : decode cX7_command 160 = .ok (.iload 4, 2) := by decide +kernel
theorem dX7_command_162 : decode cX7_command 162 = .ok (.iconst 1, 1) := by decide +kernel
theorem dX7_command_163 : decode cX7_command 163 = .ok (.if_icmp .ne 7, 3) := by decide +kernel
theorem dX7_command_166 : decode cX7_command 166 = .ok (.iconst 1, 1) := by decide +kernel
theorem dX7_command_167 : decode cX7_command 167 = .ok (.goto 4, 3) := by decide +kernel
theorem dX7_command_170 : decode cX7_command 170 = .ok (.iconst 0, 1) := by decide +kernel
theorem dX7_command_171 : decode cX7_command 171 = .ok (.if_icmp .ne 7, 3) := by decide +kernel
theorem dX7_command_174 : decode cX7_command 174 = .ok (.iconst 1, 1) := by decide +kernel
theorem dX7_command_175 : decode cX7_command 175 = .ok (.goto 4, 3) := by decide +kernel
theorem dX7_command_178 : decode cX7_command 178 = .ok (.iconst 0, 1) := by decide +kernel
theorem dX7_command_179 : decode cX7_command 179 = .ok (.ireturn, 1) := by decide +kernel
theorem dX7_command_180 : decode cX7_command 180 = .ok (.iload_n 2, 1) := by decide +kernel
theorem dX7_command_181 : decode cX7_command 181 = .ok (.invokestatic 122, 3) := by decide +kernel
theorem dX7_command_184 : decode cX7_command 184 = .ok (.ifCond .eq 26, 3) := by decide +kernel
theorem dX7_command_187 : decode cX7_command 187 = .ok (.aload_n 0, 1) := by decide +kernel
theorem dX7_command_188 : decode cX7_command 188 = .ok (.aload_n 0, 1) := by decide +kernel
theorem dX7_command_189 : decode cX7_command 189 = .ok (.getfield 16, 3) := by decide +kernel
theorem dX7_command_192 : decode cX7_command 192 = .ok (.iload_n 2, 1) := by decide +kernel
theorem dX7_command_193 : decode cX7_command 193 = .ok (.invokevirtual 229, 3) := by decide +kernel
theorem dX7_command_196 : decode cX7_command 196 = .ok (.bipush 10, 2) := by decide +kernel
theorem dX7_command_198 : decode cX7_command 198 = .ok (.iload_n 3, 1) := by decide +kernel
theorem dX7_command_199 : decode cX7_command 199 = .ok (.imul, 1) := by decide +kernel
theorem dX7_command_200 : decode cX7_command 200 = .ok (.iload 4, 2) := by decide +kernel
theorem dX7_command_202 : decode cX7_command 202 = .ok (.iadd, 1) := by decide +kernel
theorem dX7_command_203 : decode cX7_command 203 = .ok (.if_icmp .ne 7, 3) := by decide +kernel
theorem dX7_command_206 : decode cX7_command 206 = .ok (.iconst 1, 1) := by decide +kernel
theorem dX7_command_207 : decode cX7_command 207 = .ok (.goto 4, 3) := by decide +kernel
theorem dX7_command_210 : decode cX7_command 210 = .ok (.iconst 0, 1) := by decide +kernel
theorem dX7_command_211 : decode cX7_command 211 = .ok (.ireturn, 1) := by decide +kernel
theorem dX7_command_212 : decode cX7_command 212 = .ok (.iload_n 2, 1) := by decide +kernel
theorem dX7_command_213 : decode cX7_command 213 = .ok (.i2l, 1) := by decide +kernel
theorem dX7_command_214 : decode cX7_command 214 = .ok (.lconst 0, 1) := by decide +kernel
theorem dX7_command_215 : decode cX7_command 215 = .ok (.ldc2_w 199, 3) := by decide +kernel
theorem dX7_command_218 : decode cX7_command 218 = .ok (.invokestatic 55, 3) := by decide +kernel
theorem dX7_command_221 : decode cX7_command 221 = .ok (.ifCond .eq 26, 3) := by decide +kernel
theorem dX7_command_224 : decode cX7_command 224 = .ok (.aload_n 0, 1) := by decide +kernel
theorem dX7_command_225 : decode cX7_command 225 = .ok (.aload_n 0, 1) := by decide +kernel
theorem dX7_command_226 : decode cX7_command 226 = .ok (.getfield 16, 3) := by decide +kernel
theorem dX7_command_229 : decode cX7_command 229 = .ok (.iload_n 2, 1) := by decide +kernel
theorem dX7_command_230 : decode cX7_command 230 = .ok (.invokevirtual 201, 3) := by decide +kernel
theorem dX7_command_233 : decode cX7_command 233 = .ok (.bipush 10, 2) := by decide +kernel
theorem dX7_command_235 : decode cX7_command 235 = .ok (.iload_n 3, 1) := by decide +kernel
theorem dX7_command_236 : decode cX7_command 236 = .ok (.imul, 1) := by decide +kernel
theorem dX7_command_237 : decode cX7_command 237 = .ok (.iload 4, 2) := by decide +kernel
theorem dX7_command_239 : decode cX7_command 239 = .ok (.iadd, 1) := by decide +kernel
theorem dX7_command_240 : decode cX7_command 240 = .ok (.if_icmp .ne 7, 3) := by decide +kernel
theorem dX7_command_243 : decode cX7_command 243 = .ok (.iconst 1, 1) := by decide +kernel
theorem dX7_command_244 : decode cX7_command 244 = .ok (.goto 4, 3) := by decide +kernel
theorem dX7_command_247 : decode cX7_command 247 = .ok (.iconst 0, 1) := by decide +kernel
theorem dX7_command_248 : decode cX7_command 248 = .ok (.ireturn, 1) := by decide +kernel
theorem dX7_command_249 : decode cX7_command 249 = .ok (.iload_n 2, 1) := by decide +kernel
theorem dX7_command_250 : decode cX7_command 250 = .ok (.ifCond .ne 25, 3) := by decide +kernel
theorem dX7_command_253 : decode cX7_command 253 = .ok (.aload_n 0, 1) := by decide +kernel
theorem dX7_command_254 : decode cX7_command 254 = .ok (.aload_n 0, 1) := by decide +kernel
theorem dX7_command_255 : decode cX7_command 255 = .ok (.getfield 16, 3) := by decide +kernel
theorem dX7_command_258 : decode cX7_command 258 = .ok (.invokevirtual 223, 3) := by decide +kernel
theorem dX7_command_261 : decode cX7_command 261 = .ok (.bipush 10, 2) := by decide +kernel
theorem dX7_command_263 : decode cX7_command 263 = .ok (.iload_n 3, 1) := by decide +kernel
theorem dX7_command_264 : decode cX7_command 264 = .ok (.imul, 1) := by decide +kernel
theorem dX7_command_265 : decode cX7_command 265 = .ok (.iload 4, 2) := by decide +kernel
theorem dX7_command_267 : decode cX7_command 267 = .ok (.iadd, 1) := by decide +kernel
theorem dX7_command_268 : decode cX7_command 268 = .ok (.if_icmp .ne 7, 3) := by decide +kernel
theorem dX7_command_271 : decode cX7_command 271 = .ok (.iconst 1, 1) := by decide +kernel
theorem dX7_command_272 : decode cX7_command 272 = .ok (.goto 4, 3) := by decide +kernel
theorem dX7_command_275 : decode cX7_command 275 = .ok (.iconst 0, 1) := by decide +kernel
theorem dX7_command_276 : decode cX7_command 276 = .ok (.ireturn, 1) := by decide +kernel
theorem dX7_command_277 : decode cX7_command 277 = .ok (.iconst 0, 1) := by decide +kernel
theorem dX7_command_278 : decode cX7_command 278 = .ok (.ireturn, 1) := by decide +kernel
abbrev x_X7_command : Cx := (7, cX7_command, false, some (.boolean))
set_option maxRecDepth 10000 in
theorem g_X7_command_0 {E : Ev} {d : Nat} {G : Hp} {Q : Po} {x0 : Nat} {x1 : Int32} {x2 : Int32} {x3 : Int32} {x4 : Int32} (h : (if (x1).toInt = 1 then (qCI E d i_X7_isPair [.int x2, .int x3] G fun v2 G1 => (if v2 = 0 then Q (some (.int (iv 0))) G1 else (if ¬ x4 = 0 then Q (some (.int (iv 0))) G1 else (qFR E G1 x0 7 3 fun v3 => (qCI E d i_X7_stepAt [.int x2, .int x3] G1 fun v5 G4 => (qIA 7 E G4 v3 v5 fun v6 => (if ¬ v6 = 0 then (qFR E G4 x0 7 3 fun v7 => (qCI E d i_X7_stepAt [.int x2, .int x3] G4 fun v9 G8 => (qIS E G8 v7 v9 (iv 0) fun G10 => Q (some (.int (iv 1))) G10))) else Q (some (.int (iv 0))) G4))))))) else (if (x1).toInt = 2 then (qCI E d i_X7_in [.long (((x2).toInt64)), .long 0, .long 2] G fun v12 G11 => (if v12 = 0 then Q (some (.int (iv 0))) G11 else (qCI E d i_X7_in [.long (((x3).toInt64)), .long 0, .long 2] G11 fun v14 G13 => (if v14 = 0 then Q (some (.int (iv 0))) G13 else (if x4 = 0 then (qFR E G13 x0 7 3 fun v15 => (qCI E d i_X7_stepAt [.int x2, .int ((iv 1))] G13 fun v17 G16 => (qIS E G16 v15 v17 (iv 1) fun G18 => (qFR E G18 x0 7 3 fun v19 => (qCI E d i_X7_stepAt [.int x2, .int ((iv 1))] G18 fun v21 G20 => (qIS E G20 v19 (v21 + (iv 1)) x3 fun G22 => Q (some (.int (iv 1))) G22)))))) else Q (some (.int (iv 0))) G13))))) else (if (x1).toInt = 3 then (if ¬ x2 = 0 then Q (some (.int (iv 0))) G else (if ¬ x3 = 0 then Q (some (.int (iv 0))) G else (if (iv 2) ≤ x4 then Q (some (.int (iv 0))) G else (qFR E G x0 7 3 fun v23 => (rcv E G x0 7 = true ∧ (qCI E d i_X7_isAccepted [.ref x0, .ref v23] G fun v25 G24 => (if ¬ x4 = (iv 1) then (if ¬ v25 = (iv 0) then Q (some (.int (iv 0))) G24 else Q (some (.int (iv 1))) G24) else (if ¬ v25 = (iv 1) then Q (some (.int (iv 0))) G24 else Q (some (.int (iv 1))) G24)))))))) else (if (x1).toInt = 4 then (qCI E d i_X7_isNonterminal [.int x2] G fun v27 G26 => (if v27 = 0 then Q (some (.int (iv 0))) G26 else (qFR E G26 x0 7 3 fun v28 => (rcv E G26 x0 7 = true ∧ (qCI E d i_X7_typingsOf [.ref x0, .ref v28, .int x2] G26 fun v30 G29 => (if ¬ v30 = (((iv 10) * x3) + x4) then Q (some (.int (iv 0))) G29 else Q (some (.int (iv 1))) G29)))))) else (if (x1).toInt = 5 then (qCI E d i_X7_in [.long (((x2).toInt64)), .long 0, .long 6] G fun v32 G31 => (if v32 = 0 then Q (some (.int (iv 0))) G31 else (qFR E G31 x0 7 3 fun v33 => (rcv E G31 x0 7 = true ∧ (qCI E d i_X7_nodesOf [.ref x0, .ref v33, .int x2] G31 fun v35 G34 => (if ¬ v35 = (((iv 10) * x3) + x4) then Q (some (.int (iv 0))) G34 else Q (some (.int (iv 1))) G34)))))) else (if (x1).toInt = 6 then (if ¬ x2 = 0 then Q (some (.int (iv 0))) G else (qFR E G x0 7 3 fun v36 => (rcv E G x0 7 = true ∧ (qCI E d i_X7_check [.ref x0, .ref v36] G fun v38 G37 => (if ¬ v38 = (((iv 10) * x3) + x4) then Q (some (.int (iv 0))) G37 else Q (some (.int (iv 1))) G37))))) else Q (some (.int (iv 0))) G))))))) : Xr E d x_X7_command 0 [some (.ref x0), some (.int x1), some (.int x2), some (.int x3), some (.int x4)] [] G Q := by
  refine r_iload_n dX7_command_0 rfl ?_
  by_cases e0 : (x1).toInt = 1
  · rw [if_pos e0] at h
    refine r_tswIn (tgt := 40) (off := 39) dX7_command_1 (by rw [e0]; decide) (by rw [e0]; rfl) (by decide) ?_
    refine r_iload_n dX7_command_40 rfl ?_
    refine r_iload_n dX7_command_41 rfl ?_
    refine r_cI dX7_command_42 rfl (invS_eq rfl (by decide) rfl rfl rfl rfl ⟨rfl, Nat.le_of_ble_eq_true rfl⟩) (qCI_imp (fun v2 G1 h => ?_) h)
    refine r_ifeq (tgt := 66) dX7_command_45 (by decide) (ite_imp (fun h => ?_) (fun h => ?_) h)
    · refine r_iconst dX7_command_66 ?_
      exact r_iret dX7_command_67 rfl ⟨rfl, h⟩
    · refine r_iload dX7_command_48 rfl ?_
      refine r_ifne (tgt := 66) dX7_command_50 (by decide) (ite_imp (fun h => ?_) (fun h => ?_) h)
      · refine r_iconst dX7_command_66 ?_
        exact r_iret dX7_command_67 rfl ⟨rfl, h⟩
      · refine r_aload_n dX7_command_53 rfl ?_
        refine r_getR dX7_command_54 rfl (qFR_imp (fun v3 h => ?_) h)
        refine r_iload_n dX7_command_57 rfl ?_
        refine r_iload_n dX7_command_58 rfl ?_
        refine r_cI dX7_command_59 rfl (invS_eq rfl (by decide) rfl rfl rfl rfl ⟨rfl, Nat.le_of_ble_eq_true rfl⟩) (qCI_imp (fun v5 G4 h => ?_) h)
        refine r_iald dX7_command_62 (qIA_imp (fun v6 h => ?_) h)
        refine r_ifne (tgt := 68) dX7_command_63 (by decide) (ite_imp (fun h => ?_) (fun h => ?_) h)
        · refine r_aload_n dX7_command_68 rfl ?_
          refine r_getR dX7_command_69 rfl (qFR_imp (fun v7 h => ?_) h)
          refine r_iload_n dX7_command_72 rfl ?_
          refine r_iload_n dX7_command_73 rfl ?_
          refine r_cI dX7_command_74 rfl (invS_eq rfl (by decide) rfl rfl rfl rfl ⟨rfl, Nat.le_of_ble_eq_true rfl⟩) (qCI_imp (fun v9 G8 h => ?_) h)
          refine r_iconst dX7_command_77 ?_
          refine r_iast dX7_command_78 (qIS_imp (fun G10 h => ?_) h)
          refine r_iconst dX7_command_79 ?_
          exact r_iret dX7_command_80 rfl ⟨rfl, h⟩
        · refine r_iconst dX7_command_66 ?_
          exact r_iret dX7_command_67 rfl ⟨rfl, h⟩
  rw [if_neg e0] at h
  by_cases e1 : (x1).toInt = 2
  · rw [if_pos e1] at h
    refine r_tswIn (tgt := 81) (off := 80) dX7_command_1 (by rw [e1]; decide) (by rw [e1]; rfl) (by decide) ?_
    refine r_iload_n dX7_command_81 rfl ?_
    refine r_i2l dX7_command_82 ?_
    refine r_lconst (v := 0) dX7_command_83 rfl ?_
    refine r_ldc2 dX7_command_84 rfl ?_
    refine r_cI dX7_command_87 rfl (invS_eq rfl (by decide) rfl rfl rfl rfl ⟨rfl, Nat.le_of_ble_eq_true rfl⟩) (qCI_imp (fun v12 G11 h => ?_) h)
    refine r_ifeq (tgt := 110) dX7_command_90 (by decide) (ite_imp (fun h => ?_) (fun h => ?_) h)
    · refine r_iconst dX7_command_110 ?_
      exact r_iret dX7_command_111 rfl ⟨rfl, h⟩
    · refine r_iload_n dX7_command_93 rfl ?_
      refine r_i2l dX7_command_94 ?_
      refine r_lconst (v := 0) dX7_command_95 rfl ?_
      refine r_ldc2 dX7_command_96 rfl ?_
      refine r_cI dX7_command_99 rfl (invS_eq rfl (by decide) rfl rfl rfl rfl ⟨rfl, Nat.le_of_ble_eq_true rfl⟩) (qCI_imp (fun v14 G13 h => ?_) h)
      refine r_ifeq (tgt := 110) dX7_command_102 (by decide) (ite_imp (fun h => ?_) (fun h => ?_) h)
      · refine r_iconst dX7_command_110 ?_
        exact r_iret dX7_command_111 rfl ⟨rfl, h⟩
      · refine r_iload dX7_command_105 rfl ?_
        refine r_ifeq (tgt := 112) dX7_command_107 (by decide) (ite_imp (fun h => ?_) (fun h => ?_) h)
        · refine r_aload_n dX7_command_112 rfl ?_
          refine r_getR dX7_command_113 rfl (qFR_imp (fun v15 h => ?_) h)
          refine r_iload_n dX7_command_116 rfl ?_
          refine r_iconst dX7_command_117 ?_
          refine r_cI dX7_command_118 rfl (invS_eq rfl (by decide) rfl rfl rfl rfl ⟨rfl, Nat.le_of_ble_eq_true rfl⟩) (qCI_imp (fun v17 G16 h => ?_) h)
          refine r_iconst dX7_command_121 ?_
          refine r_iast dX7_command_122 (qIS_imp (fun G18 h => ?_) h)
          refine r_aload_n dX7_command_123 rfl ?_
          refine r_getR dX7_command_124 rfl (qFR_imp (fun v19 h => ?_) h)
          refine r_iload_n dX7_command_127 rfl ?_
          refine r_iconst dX7_command_128 ?_
          refine r_cI dX7_command_129 rfl (invS_eq rfl (by decide) rfl rfl rfl rfl ⟨rfl, Nat.le_of_ble_eq_true rfl⟩) (qCI_imp (fun v21 G20 h => ?_) h)
          refine r_iconst dX7_command_132 ?_
          refine r_iadd dX7_command_133 ?_
          refine r_iload_n dX7_command_134 rfl ?_
          refine r_iast dX7_command_135 (qIS_imp (fun G22 h => ?_) h)
          refine r_iconst dX7_command_136 ?_
          exact r_iret dX7_command_137 rfl ⟨rfl, h⟩
        · refine r_iconst dX7_command_110 ?_
          exact r_iret dX7_command_111 rfl ⟨rfl, h⟩
  rw [if_neg e1] at h
  by_cases e2 : (x1).toInt = 3
  · rw [if_pos e2] at h
    refine r_tswIn (tgt := 138) (off := 137) dX7_command_1 (by rw [e2]; decide) (by rw [e2]; rfl) (by decide) ?_
    refine r_iload_n dX7_command_138 rfl ?_
    refine r_ifne (tgt := 178) dX7_command_139 (by decide) (ite_imp (fun h => ?_) (fun h => ?_) h)
    · refine r_iconst dX7_command_178 ?_
      exact r_iret dX7_command_179 rfl ⟨rfl, h⟩
    · refine r_iload_n dX7_command_142 rfl ?_
      refine r_ifne (tgt := 178) dX7_command_143 (by decide) (ite_imp (fun h => ?_) (fun h => ?_) h)
      · refine r_iconst dX7_command_178 ?_
        exact r_iret dX7_command_179 rfl ⟨rfl, h⟩
      · refine r_iload dX7_command_146 rfl ?_
        refine r_iconst dX7_command_148 ?_
        refine r_cge (tgt := 178) dX7_command_149 (by decide) (ite_imp (fun h => ?_) (fun h => ?_) h)
        · refine r_iconst dX7_command_178 ?_
          exact r_iret dX7_command_179 rfl ⟨rfl, h⟩
        · refine r_aload_n dX7_command_152 rfl ?_
          refine r_aload_n dX7_command_153 rfl ?_
          refine r_getR dX7_command_154 rfl (qFR_imp (fun v23 h => ?_) h)
          refine r_cI dX7_command_157 rfl (invV_eq rfl rfl rfl rfl rfl rfl ⟨rfl, Nat.le_of_ble_eq_true rfl⟩ h.1) (qCI_imp (fun v25 G24 h => ?_) h.2)
          refine r_iload dX7_command_160 rfl ?_
          refine r_iconst dX7_command_162 ?_
          refine r_cne (tgt := 170) dX7_command_163 (by decide) (ite_imp (fun h => ?_) (fun h => ?_) h)
          · refine r_iconst dX7_command_170 ?_
            refine r_cne (tgt := 178) dX7_command_171 (by decide) (ite_imp (fun h => ?_) (fun h => ?_) h)
            · refine r_iconst dX7_command_178 ?_
              exact r_iret dX7_command_179 rfl ⟨rfl, h⟩
            · refine r_iconst dX7_command_174 ?_
              refine r_goto (tgt := 179) dX7_command_175 (by decide) ?_
              exact r_iret dX7_command_179 rfl ⟨rfl, h⟩
          · refine r_iconst dX7_command_166 ?_
            refine r_goto (tgt := 171) dX7_command_167 (by decide) ?_
            refine r_cne (tgt := 178) dX7_command_171 (by decide) (ite_imp (fun h => ?_) (fun h => ?_) h)
            · refine r_iconst dX7_command_178 ?_
              exact r_iret dX7_command_179 rfl ⟨rfl, h⟩
            · refine r_iconst dX7_command_174 ?_
              refine r_goto (tgt := 179) dX7_command_175 (by decide) ?_
              exact r_iret dX7_command_179 rfl ⟨rfl, h⟩
  rw [if_neg e2] at h
  by_cases e3 : (x1).toInt = 4
  · rw [if_pos e3] at h
    refine r_tswIn (tgt := 180) (off := 179) dX7_command_1 (by rw [e3]; decide) (by rw [e3]; rfl) (by decide) ?_
    refine r_iload_n dX7_command_180 rfl ?_
    refine r_cI dX7_command_181 rfl (invS_eq rfl (by decide) rfl rfl rfl rfl ⟨rfl, Nat.le_of_ble_eq_true rfl⟩) (qCI_imp (fun v27 G26 h => ?_) h)
    refine r_ifeq (tgt := 210) dX7_command_184 (by decide) (ite_imp (fun h => ?_) (fun h => ?_) h)
    · refine r_iconst dX7_command_210 ?_
      exact r_iret dX7_command_211 rfl ⟨rfl, h⟩
    · refine r_aload_n dX7_command_187 rfl ?_
      refine r_aload_n dX7_command_188 rfl ?_
      refine r_getR dX7_command_189 rfl (qFR_imp (fun v28 h => ?_) h)
      refine r_iload_n dX7_command_192 rfl ?_
      refine r_cI dX7_command_193 rfl (invV_eq rfl rfl rfl rfl rfl rfl ⟨rfl, Nat.le_of_ble_eq_true rfl⟩ h.1) (qCI_imp (fun v30 G29 h => ?_) h.2)
      refine r_bipush dX7_command_196 rfl ?_
      refine r_iload_n dX7_command_198 rfl ?_
      refine r_imul dX7_command_199 ?_
      refine r_iload dX7_command_200 rfl ?_
      refine r_iadd dX7_command_202 ?_
      refine r_cne (tgt := 210) dX7_command_203 (by decide) (ite_imp (fun h => ?_) (fun h => ?_) h)
      · refine r_iconst dX7_command_210 ?_
        exact r_iret dX7_command_211 rfl ⟨rfl, h⟩
      · refine r_iconst dX7_command_206 ?_
        refine r_goto (tgt := 211) dX7_command_207 (by decide) ?_
        exact r_iret dX7_command_211 rfl ⟨rfl, h⟩
  rw [if_neg e3] at h
  by_cases e4 : (x1).toInt = 5
  · rw [if_pos e4] at h
    refine r_tswIn (tgt := 212) (off := 211) dX7_command_1 (by rw [e4]; decide) (by rw [e4]; rfl) (by decide) ?_
    refine r_iload_n dX7_command_212 rfl ?_
    refine r_i2l dX7_command_213 ?_
    refine r_lconst (v := 0) dX7_command_214 rfl ?_
    refine r_ldc2 dX7_command_215 rfl ?_
    refine r_cI dX7_command_218 rfl (invS_eq rfl (by decide) rfl rfl rfl rfl ⟨rfl, Nat.le_of_ble_eq_true rfl⟩) (qCI_imp (fun v32 G31 h => ?_) h)
    refine r_ifeq (tgt := 247) dX7_command_221 (by decide) (ite_imp (fun h => ?_) (fun h => ?_) h)
    · refine r_iconst dX7_command_247 ?_
      exact r_iret dX7_command_248 rfl ⟨rfl, h⟩
    · refine r_aload_n dX7_command_224 rfl ?_
      refine r_aload_n dX7_command_225 rfl ?_
      refine r_getR dX7_command_226 rfl (qFR_imp (fun v33 h => ?_) h)
      refine r_iload_n dX7_command_229 rfl ?_
      refine r_cI dX7_command_230 rfl (invV_eq rfl rfl rfl rfl rfl rfl ⟨rfl, Nat.le_of_ble_eq_true rfl⟩ h.1) (qCI_imp (fun v35 G34 h => ?_) h.2)
      refine r_bipush dX7_command_233 rfl ?_
      refine r_iload_n dX7_command_235 rfl ?_
      refine r_imul dX7_command_236 ?_
      refine r_iload dX7_command_237 rfl ?_
      refine r_iadd dX7_command_239 ?_
      refine r_cne (tgt := 247) dX7_command_240 (by decide) (ite_imp (fun h => ?_) (fun h => ?_) h)
      · refine r_iconst dX7_command_247 ?_
        exact r_iret dX7_command_248 rfl ⟨rfl, h⟩
      · refine r_iconst dX7_command_243 ?_
        refine r_goto (tgt := 248) dX7_command_244 (by decide) ?_
        exact r_iret dX7_command_248 rfl ⟨rfl, h⟩
  rw [if_neg e4] at h
  by_cases e5 : (x1).toInt = 6
  · rw [if_pos e5] at h
    refine r_tswIn (tgt := 249) (off := 248) dX7_command_1 (by rw [e5]; decide) (by rw [e5]; rfl) (by decide) ?_
    refine r_iload_n dX7_command_249 rfl ?_
    refine r_ifne (tgt := 275) dX7_command_250 (by decide) (ite_imp (fun h => ?_) (fun h => ?_) h)
    · refine r_iconst dX7_command_275 ?_
      exact r_iret dX7_command_276 rfl ⟨rfl, h⟩
    · refine r_aload_n dX7_command_253 rfl ?_
      refine r_aload_n dX7_command_254 rfl ?_
      refine r_getR dX7_command_255 rfl (qFR_imp (fun v36 h => ?_) h)
      refine r_cI dX7_command_258 rfl (invV_eq rfl rfl rfl rfl rfl rfl ⟨rfl, Nat.le_of_ble_eq_true rfl⟩ h.1) (qCI_imp (fun v38 G37 h => ?_) h.2)
      refine r_bipush dX7_command_261 rfl ?_
      refine r_iload_n dX7_command_263 rfl ?_
      refine r_imul dX7_command_264 ?_
      refine r_iload dX7_command_265 rfl ?_
      refine r_iadd dX7_command_267 ?_
      refine r_cne (tgt := 275) dX7_command_268 (by decide) (ite_imp (fun h => ?_) (fun h => ?_) h)
      · refine r_iconst dX7_command_275 ?_
        exact r_iret dX7_command_276 rfl ⟨rfl, h⟩
      · refine r_iconst dX7_command_271 ?_
        refine r_goto (tgt := 276) dX7_command_272 (by decide) ?_
        exact r_iret dX7_command_276 rfl ⟨rfl, h⟩
  rw [if_neg e5] at h
  refine r_tswOut (tgt := 277) dX7_command_1 (by omega) (by decide) ?_
  refine r_iconst dX7_command_277 ?_
  exact r_iret dX7_command_278 rfl ⟨rfl, h⟩
theorem e_X7_command {E : Ev} {d : Nat} {G : Hp} {Q : Po} {x0 : Nat} {x1 : Int32} {x2 : Int32} {x3 : Int32} {x4 : Int32} (h : (if (x1).toInt = 1 then (qCI E d i_X7_isPair [.int x2, .int x3] G fun v2 G1 => (if v2 = 0 then Q (some (.int (iv 0))) G1 else (if ¬ x4 = 0 then Q (some (.int (iv 0))) G1 else (qFR E G1 x0 7 3 fun v3 => (qCI E d i_X7_stepAt [.int x2, .int x3] G1 fun v5 G4 => (qIA 7 E G4 v3 v5 fun v6 => (if ¬ v6 = 0 then (qFR E G4 x0 7 3 fun v7 => (qCI E d i_X7_stepAt [.int x2, .int x3] G4 fun v9 G8 => (qIS E G8 v7 v9 (iv 0) fun G10 => Q (some (.int (iv 1))) G10))) else Q (some (.int (iv 0))) G4))))))) else (if (x1).toInt = 2 then (qCI E d i_X7_in [.long (((x2).toInt64)), .long 0, .long 2] G fun v12 G11 => (if v12 = 0 then Q (some (.int (iv 0))) G11 else (qCI E d i_X7_in [.long (((x3).toInt64)), .long 0, .long 2] G11 fun v14 G13 => (if v14 = 0 then Q (some (.int (iv 0))) G13 else (if x4 = 0 then (qFR E G13 x0 7 3 fun v15 => (qCI E d i_X7_stepAt [.int x2, .int ((iv 1))] G13 fun v17 G16 => (qIS E G16 v15 v17 (iv 1) fun G18 => (qFR E G18 x0 7 3 fun v19 => (qCI E d i_X7_stepAt [.int x2, .int ((iv 1))] G18 fun v21 G20 => (qIS E G20 v19 (v21 + (iv 1)) x3 fun G22 => Q (some (.int (iv 1))) G22)))))) else Q (some (.int (iv 0))) G13))))) else (if (x1).toInt = 3 then (if ¬ x2 = 0 then Q (some (.int (iv 0))) G else (if ¬ x3 = 0 then Q (some (.int (iv 0))) G else (if (iv 2) ≤ x4 then Q (some (.int (iv 0))) G else (qFR E G x0 7 3 fun v23 => (rcv E G x0 7 = true ∧ (qCI E d i_X7_isAccepted [.ref x0, .ref v23] G fun v25 G24 => (if ¬ x4 = (iv 1) then (if ¬ v25 = (iv 0) then Q (some (.int (iv 0))) G24 else Q (some (.int (iv 1))) G24) else (if ¬ v25 = (iv 1) then Q (some (.int (iv 0))) G24 else Q (some (.int (iv 1))) G24)))))))) else (if (x1).toInt = 4 then (qCI E d i_X7_isNonterminal [.int x2] G fun v27 G26 => (if v27 = 0 then Q (some (.int (iv 0))) G26 else (qFR E G26 x0 7 3 fun v28 => (rcv E G26 x0 7 = true ∧ (qCI E d i_X7_typingsOf [.ref x0, .ref v28, .int x2] G26 fun v30 G29 => (if ¬ v30 = (((iv 10) * x3) + x4) then Q (some (.int (iv 0))) G29 else Q (some (.int (iv 1))) G29)))))) else (if (x1).toInt = 5 then (qCI E d i_X7_in [.long (((x2).toInt64)), .long 0, .long 6] G fun v32 G31 => (if v32 = 0 then Q (some (.int (iv 0))) G31 else (qFR E G31 x0 7 3 fun v33 => (rcv E G31 x0 7 = true ∧ (qCI E d i_X7_nodesOf [.ref x0, .ref v33, .int x2] G31 fun v35 G34 => (if ¬ v35 = (((iv 10) * x3) + x4) then Q (some (.int (iv 0))) G34 else Q (some (.int (iv 1))) G34)))))) else (if (x1).toInt = 6 then (if ¬ x2 = 0 then Q (some (.int (iv 0))) G else (qFR E G x0 7 3 fun v36 => (rcv E G x0 7 = true ∧ (qCI E d i_X7_check [.ref x0, .ref v36] G fun v38 G37 => (if ¬ v38 = (((iv 10) * x3) + x4) then Q (some (.int (iv 0))) G37 else Q (some (.int (iv 1))) G37))))) else Q (some (.int (iv 0))) G))))))) : runs E (d + 1) i_X7_command [.ref x0, .int x1, .int x2, .int x3, .int x4] G Q := by
  rw [runs_eq (m := (yX7_command, cX7_command, 5, some (.boolean), 4, 7, false, false)) rfl (Nat.le_of_ble_eq_true rfl)]
  exact g_X7_command_0 h
theorem dX7_tenThousands_0 : decode cX7_tenThousands 0 = .ok (.lconst 1, 1) := by decide +kernel
theorem dX7_tenThousands_1 : decode cX7_tenThousands 1 = .ok (.lstore_n 1, 1) := by decide +kernel
theorem dX7_tenThousands_2 : decode cX7_tenThousands 2 = .ok (.iconst 0, 1) := by decide +kernel
theorem dX7_tenThousands_3 : decode cX7_tenThousands 3 = .ok (.istore_n 3, 1) := by decide +kernel
theorem dX7_tenThousands_4 : decode cX7_tenThousands 4 = .ok (.iload_n 3, 1) := by decide +kernel
theorem dX7_tenThousands_5 : decode cX7_tenThousands 5 = .ok (.iload_n 0, 1) := by decide +kernel
theorem dX7_tenThousands_6 : decode cX7_tenThousands 6 = .ok (.if_icmp .ge 15, 3) := by decide +kernel
theorem dX7_tenThousands_9 : decode cX7_tenThousands 9 = .ok (.lload_n 1, 1) := by decide +kernel
theorem dX7_tenThousands_10 : decode cX7_tenThousands 10 = .ok (.ldc2_w 234, 3) := by decide +kernel
theorem dX7_tenThousands_13 : decode cX7_tenThousands 13 = .ok (.lmul, 1) := by decide +kernel
theorem dX7_tenThousands_14 : decode cX7_tenThousands 14 = .ok (.lstore_n 1, 1) := by decide +kernel
theorem dX7_tenThousands_15 : decode cX7_tenThousands 15 = .ok (.iinc 3 1, 3) := by decide +kernel
theorem dX7_tenThousands_18 : decode cX7_tenThousands 18 = .ok (.goto (-14), 3) := by decide +kernel
theorem dX7_tenThousands_21 : decode cX7_tenThousands 21 = .ok (.lload_n 1, 1) := by decide +kernel
theorem dX7_tenThousands_22 : decode cX7_tenThousands 22 = .ok (.lreturn, 1) := by decide +kernel
abbrev x_X7_tenThousands : Cx := (7, cX7_tenThousands, false, some (.long))
set_option maxRecDepth 10000 in
theorem g_X7_tenThousands_0 {E : Ev} {d : Nat} {G : Hp} {Q : Po} {x0 : Int32} (h : Xr E d x_X7_tenThousands 4 [some (.int x0), some (.long 1), none, some (.int ((iv 0)))] [] G Q) : Xr E d x_X7_tenThousands 0 [some (.int x0), none, none, none] [] G Q := by
  refine r_lconst (v := 1) dX7_tenThousands_0 rfl ?_
  refine r_lstore_n dX7_tenThousands_1 rfl ?_
  refine r_iconst dX7_tenThousands_2 ?_
  refine r_istore_n dX7_tenThousands_3 rfl ?_
  exact h
theorem e_X7_tenThousands {E : Ev} {d : Nat} {G : Hp} {Q : Po} {x0 : Int32} (h : Xr E d x_X7_tenThousands 4 [some (.int x0), some (.long 1), none, some (.int ((iv 0)))] [] G Q) : runs E (d + 1) i_X7_tenThousands [.int x0] G Q := by
  rw [runs_eq (m := (yX7_tenThousands, cX7_tenThousands, 4, some (.long), 1, 7, false, true)) rfl (Nat.le_of_ble_eq_true rfl)]
  exact g_X7_tenThousands_0 h
set_option maxRecDepth 10000 in
theorem g_X7_tenThousands_4 {E : Ev} {d : Nat} {G : Hp} {Q : Po} {x0 : Int32} {x1 : Int64} {x3 : Int32} (h : (if x0 ≤ x3 then Q (some (.long x1)) G else Xr E d x_X7_tenThousands 4 [some (.int x0), some (.long ((x1 * 10000))), none, some (.int ((x3 + (iv 1))))] [] G Q)) : Xr E d x_X7_tenThousands 4 [some (.int x0), some (.long x1), none, some (.int x3)] [] G Q := by
  refine r_iload_n dX7_tenThousands_4 rfl ?_
  refine r_iload_n dX7_tenThousands_5 rfl ?_
  refine r_cge (tgt := 21) dX7_tenThousands_6 (by decide) (ite_imp (fun h => ?_) (fun h => ?_) h)
  · refine r_lload_n dX7_tenThousands_21 rfl ?_
    exact r_lret dX7_tenThousands_22 rfl h
  · refine r_lload_n dX7_tenThousands_9 rfl ?_
    refine r_ldc2 dX7_tenThousands_10 rfl ?_
    refine r_lmul dX7_tenThousands_13 ?_
    refine r_lstore_n dX7_tenThousands_14 rfl ?_
    refine r_iinc dX7_tenThousands_15 rfl rfl ?_
    refine r_goto (tgt := 4) dX7_tenThousands_18 (by decide) ?_
    exact h
theorem dX7_runScript_0 : decode cX7_runScript 0 = .ok (.iload_n 1, 1) := by decide +kernel
theorem dX7_runScript_1 : decode cX7_runScript 1 = .ok (.i2l, 1) := by decide +kernel
theorem dX7_runScript_2 : decode cX7_runScript 2 = .ok (.lconst 1, 1) := by decide +kernel
theorem dX7_runScript_3 : decode cX7_runScript 3 = .ok (.ldc2_w 236, 3) := by decide +kernel
theorem dX7_runScript_6 : decode cX7_runScript 6 = .ok (.invokestatic 55, 3) := by decide +kernel
theorem dX7_runScript_9 : decode cX7_runScript 9 = .ok (.ifCond .eq 17, 3) := by decide +kernel
theorem dX7_runScript_12 : decode cX7_runScript 12 = .ok (.lload_n 2, 1) := by decide +kernel
theorem dX7_runScript_13 : decode cX7_runScript 13 = .ok (.lconst 0, 1) := by decide +kernel
theorem dX7_runScript_14 : decode cX7_runScript 14 = .ok (.iload_n 1, 1) := by decide +kernel
theorem dX7_runScript_15 : decode cX7_runScript 15 = .ok (.invokestatic 238, 3) := by decide +kernel
theorem dX7_runScript_18 : decode cX7_runScript 18 = .ok (.lconst 1, 1) := by decide +kernel
theorem dX7_runScript_19 : decode cX7_runScript 19 = .ok (.lsub, 1) := by decide +kernel
theorem dX7_runScript_20 : decode cX7_runScript 20 = .ok (.invokestatic 55, 3) := by decide +kernel
theorem dX7_runScript_23 : decode cX7_runScript 23 = .ok (.ifCond .ne 6, 3) := by decide +kernel
theorem dX7_runScript_26 : decode cX7_runScript 26 = .ok (.bipush (-2), 2) := by decide +kernel
theorem dX7_runScript_28 : decode cX7_runScript 28 = .ok (.ireturn, 1) := by decide +kernel
theorem dX7_runScript_29 : decode cX7_runScript 29 = .ok (.aload_n 0, 1) := by decide +kernel
theorem dX7_runScript_30 : decode cX7_runScript 30 = .ok (.getfield 13, 3) := by decide +kernel
theorem dX7_runScript_33 : decode cX7_runScript 33 = .ok (.aload_n 0, 1) := by decide +kernel
theorem dX7_runScript_34 : decode cX7_runScript 34 = .ok (.getfield 16, 3) := by decide +kernel
theorem dX7_runScript_37 : decode cX7_runScript 37 = .ok (.invokestatic 109, 3) := by decide +kernel
theorem dX7_runScript_40 : decode cX7_runScript 40 = .ok (.iconst 0, 1) := by decide +kernel
theorem dX7_runScript_41 : decode cX7_runScript 41 = .ok (.istore 4, 2) := by decide +kernel
theorem dX7_runScript_43 : decode cX7_runScript 43 = .ok (.iload 4, 2) := by decide +kernel
theorem dX7_runScript_45 : decode cX7_runScript 45 = .ok (.iload_n 1, 1) := by decide +kernel
theorem dX7_runScript_46 : decode cX7_runScript 46 = .ok (.if_icmp .ge 64, 3) := by decide +kernel
theorem dX7_runScript_49 : decode cX7_runScript 49 = .ok (.lload_n 2, 1) := by decide +kernel
theorem dX7_runScript_50 : decode cX7_runScript 50 = .ok (.iload_n 1, 1) := by decide +kernel
theorem dX7_runScript_51 : decode cX7_runScript 51 = .ok (.iconst 1, 1) := by decide +kernel
theorem dX7_runScript_52 : decode cX7_runScript 52 = .ok (.isub, 1) := by decide +kernel
theorem dX7_runScript_53 : decode cX7_runScript 53 = .ok (.iload 4, 2) := by decide +kernel
theorem dX7_runScript_55 : decode cX7_runScript 55 = .ok (.isub, 1) := by decide +kernel
theorem dX7_runScript_56 : decode cX7_runScript 56 = .ok (.invokestatic 238, 3) := by decide +kernel
theorem dX7_runScript_59 : decode cX7_runScript 59 = .ok (.ldiv, 1) := by decide +kernel
theorem dX7_runScript_60 : decode cX7_runScript 60 = .ok (.ldc2_w 234, 3) := by decide +kernel
theorem dX7_runScript_63 : decode cX7_runScript 63 = .ok (.lrem, 1) := by decide +kernel
theorem dX7_runScript_64 : decode cX7_runScript 64 = .ok (.l2i, 1) := by decide +kernel
theorem dX7_runScript_65 : decode cX7_runScript 65 = .ok (.istore 5, 2) := by decide +kernel
theorem dX7_runScript_67 : decode cX7_runScript 67 = .ok (.aload_n 0, 1) := by decide +kernel
theorem dX7_runScript_68 : decode cX7_runScript 68 = .ok (.iload 5, 2) := by decide +kernel
theorem dX7_runScript_70 : decode cX7_runScript 70 = .ok (.sipush 1000, 3) := by decide +kernel
theorem dX7_runScript_73 : decode cX7_runScript 73 = .ok (.idiv, 1) := by decide +kernel
theorem dX7_runScript_74 : decode cX7_runScript 74 = .ok (.iload 5, 2) := by decide +kernel
theorem dX7_runScript_76 : decode cX7_runScript 76 = .ok (.bipush 100, 2) := by decide +kernel
theorem dX7_runScript_78 : decode cX7_runScript 78 = .ok (.idiv, 1) := by decide +kernel
theorem dX7_runScript_79 : decode cX7_runScript 79 = .ok (.bipush 10, 2) := by decide +kernel
theorem dX7_runScript_81 : decode cX7_runScript 81 = .ok (.irem, 1) := by decide +kernel
theorem dX7_runScript_82 : decode cX7_runScript 82 = .ok (.iload 5, 2) := by decide +kernel
theorem dX7_runScript_84 : decode cX7_runScript 84 = .ok (.bipush 10, 2) := by decide +kernel
theorem dX7_runScript_86 : decode cX7_runScript 86 = .ok (.idiv, 1) := by decide +kernel
theorem dX7_runScript_87 : decode cX7_runScript 87 = .ok (.bipush 10, 2) := by decide +kernel
theorem dX7_runScript_89 : decode cX7_runScript 89 = .ok (.irem, 1) := by decide +kernel
theorem dX7_runScript_90 : decode cX7_runScript 90 = .ok (.iload 5, 2) := by decide +kernel
theorem dX7_runScript_92 : decode cX7_runScript 92 = .ok (.bipush 10, 2) := by decide +kernel
theorem dX7_runScript_94 : decode cX7_runScript 94 = .ok (.irem, 1) := by decide +kernel
theorem dX7_runScript_95 : decode cX7_runScript 95 = .ok (.invokevirtual 242, 3) := by decide +kernel
theorem dX7_runScript_98 : decode cX7_runScript 98 = .ok (.ifCond .ne 6, 3) := by decide +kernel
theorem dX7_runScript_101 : decode cX7_runScript 101 = .ok (.iload 4, 2) := by decide +kernel
theorem dX7_runScript_103 : decode cX7_runScript 103 = .ok (.ireturn, 1) := by decide +kernel
theorem dX7_runScript_104 : decode cX7_runScript 104 = .ok (.iinc 4 1, 3) := by decide +kernel
theorem dX7_runScript_107 : decode cX7_runScript 107 = .ok (.goto (-64), 3) := by decide +kernel
theorem dX7_runScript_110 : decode cX7_runScript 110 = .ok (.bipush (-9), 2) := by decide +kernel
theorem dX7_runScript_112 : decode cX7_runScript 112 = .ok (.ireturn, 1) := by decide +kernel
abbrev x_X7_runScript : Cx := (7, cX7_runScript, false, some (.int))
set_option maxRecDepth 10000 in
theorem g_X7_runScript_0 {E : Ev} {d : Nat} {G : Hp} {Q : Po} {x0 : Nat} {x1 : Int32} {x2 : Int64} (h : (qCI E d i_X7_in [.long (((x1).toInt64)), .long 1, .long 4] G fun v2 G1 => (if v2 = 0 then Q (some (.int (iv (-2)))) G1 else (qCJ E d i_X7_tenThousands [.int x1] G1 fun v4 G3 => (qCI E d i_X7_in [.long x2, .long 0, .long ((v4 - 1))] G3 fun v6 G5 => (if ¬ v6 = 0 then (qFR E G5 x0 7 2 fun v7 => (qFR E G5 x0 7 3 fun v8 => (qCV E d i_X7_copy [.ref v7, .ref v8] G5 fun G9 => Xr E d x_X7_runScript 43 [some (.ref x0), some (.int x1), some (.long x2), none, some (.int ((iv 0))), none] [] G9 Q))) else Q (some (.int (iv (-2)))) G5)))))) : Xr E d x_X7_runScript 0 [some (.ref x0), some (.int x1), some (.long x2), none, none, none] [] G Q := by
  refine r_iload_n dX7_runScript_0 rfl ?_
  refine r_i2l dX7_runScript_1 ?_
  refine r_lconst (v := 1) dX7_runScript_2 rfl ?_
  refine r_ldc2 dX7_runScript_3 rfl ?_
  refine r_cI dX7_runScript_6 rfl (invS_eq rfl (by decide) rfl rfl rfl rfl ⟨rfl, Nat.le_of_ble_eq_true rfl⟩) (qCI_imp (fun v2 G1 h => ?_) h)
  refine r_ifeq (tgt := 26) dX7_runScript_9 (by decide) (ite_imp (fun h => ?_) (fun h => ?_) h)
  · refine r_bipush dX7_runScript_26 rfl ?_
    exact r_iret dX7_runScript_28 rfl ⟨rfl, h⟩
  · refine r_lload_n dX7_runScript_12 rfl ?_
    refine r_lconst (v := 0) dX7_runScript_13 rfl ?_
    refine r_iload_n dX7_runScript_14 rfl ?_
    refine r_cJ dX7_runScript_15 rfl (invS_eq rfl (by decide) rfl rfl rfl rfl ⟨rfl, Nat.le_of_ble_eq_true rfl⟩) (qCJ_imp (fun v4 G3 h => ?_) h)
    refine r_lconst (v := 1) dX7_runScript_18 rfl ?_
    refine r_lsub dX7_runScript_19 ?_
    refine r_cI dX7_runScript_20 rfl (invS_eq rfl (by decide) rfl rfl rfl rfl ⟨rfl, Nat.le_of_ble_eq_true rfl⟩) (qCI_imp (fun v6 G5 h => ?_) h)
    refine r_ifne (tgt := 29) dX7_runScript_23 (by decide) (ite_imp (fun h => ?_) (fun h => ?_) h)
    · refine r_aload_n dX7_runScript_29 rfl ?_
      refine r_getR dX7_runScript_30 rfl (qFR_imp (fun v7 h => ?_) h)
      refine r_aload_n dX7_runScript_33 rfl ?_
      refine r_getR dX7_runScript_34 rfl (qFR_imp (fun v8 h => ?_) h)
      refine r_cV dX7_runScript_37 rfl (invS_eq rfl (by decide) rfl rfl rfl rfl ⟨rfl, Nat.le_of_ble_eq_true rfl⟩) (qCV_imp (fun G9 h => ?_) h)
      refine r_iconst dX7_runScript_40 ?_
      refine r_istore dX7_runScript_41 rfl ?_
      exact h
    · refine r_bipush dX7_runScript_26 rfl ?_
      exact r_iret dX7_runScript_28 rfl ⟨rfl, h⟩
theorem e_X7_runScript {E : Ev} {d : Nat} {G : Hp} {Q : Po} {x0 : Nat} {x1 : Int32} {x2 : Int64} (h : (qCI E d i_X7_in [.long (((x1).toInt64)), .long 1, .long 4] G fun v2 G1 => (if v2 = 0 then Q (some (.int (iv (-2)))) G1 else (qCJ E d i_X7_tenThousands [.int x1] G1 fun v4 G3 => (qCI E d i_X7_in [.long x2, .long 0, .long ((v4 - 1))] G3 fun v6 G5 => (if ¬ v6 = 0 then (qFR E G5 x0 7 2 fun v7 => (qFR E G5 x0 7 3 fun v8 => (qCV E d i_X7_copy [.ref v7, .ref v8] G5 fun G9 => Xr E d x_X7_runScript 43 [some (.ref x0), some (.int x1), some (.long x2), none, some (.int ((iv 0))), none] [] G9 Q))) else Q (some (.int (iv (-2)))) G5)))))) : runs E (d + 1) i_X7_runScript [.ref x0, .int x1, .long x2] G Q := by
  rw [runs_eq (m := (yX7_runScript, cX7_runScript, 6, some (.int), 2, 7, false, false)) rfl (Nat.le_of_ble_eq_true rfl)]
  exact g_X7_runScript_0 h
set_option maxRecDepth 10000 in
theorem g_X7_runScript_43 {E : Ev} {d : Nat} {G : Hp} {Q : Po} {x0 : Nat} {x1 : Int32} {x2 : Int64} {x4 : Int32} {l5 : Option Value} (h : (if x1 ≤ x4 then Q (some (.int (iv (-9)))) G else (qCJ E d i_X7_tenThousands [.int (((x1 - (iv 1)) - x4))] G fun v2 G1 => (¬ v2 = 0 ∧ (rcv E G1 x0 7 = true ∧ (qCI E d i_X7_command [.ref x0, .int ((((((x2 / v2) - (x2 / v2) / 10000 * 10000)).toInt32) / (iv 1000))), .int (((((((x2 / v2) - (x2 / v2) / 10000 * 10000)).toInt32) / (iv 100)) - (((((x2 / v2) - (x2 / v2) / 10000 * 10000)).toInt32) / (iv 100)) / (iv 10) * (iv 10))), .int (((((((x2 / v2) - (x2 / v2) / 10000 * 10000)).toInt32) / (iv 10)) - (((((x2 / v2) - (x2 / v2) / 10000 * 10000)).toInt32) / (iv 10)) / (iv 10) * (iv 10))), .int ((((((x2 / v2) - (x2 / v2) / 10000 * 10000)).toInt32) - ((((x2 / v2) - (x2 / v2) / 10000 * 10000)).toInt32) / (iv 10) * (iv 10)))] G1 fun v4 G3 => (if ¬ v4 = 0 then Xr E d x_X7_runScript 43 [some (.ref x0), some (.int x1), some (.long x2), none, some (.int ((x4 + (iv 1)))), some (.int (((((x2 / v2) - (x2 / v2) / 10000 * 10000)).toInt32)))] [] G3 Q else Q (some (.int x4)) G3))))))) : Xr E d x_X7_runScript 43 [some (.ref x0), some (.int x1), some (.long x2), none, some (.int x4), l5] [] G Q := by
  refine r_iload dX7_runScript_43 rfl ?_
  refine r_iload_n dX7_runScript_45 rfl ?_
  refine r_cge (tgt := 110) dX7_runScript_46 (by decide) (ite_imp (fun h => ?_) (fun h => ?_) h)
  · refine r_bipush dX7_runScript_110 rfl ?_
    exact r_iret dX7_runScript_112 rfl ⟨rfl, h⟩
  · refine r_lload_n dX7_runScript_49 rfl ?_
    refine r_iload_n dX7_runScript_50 rfl ?_
    refine r_iconst dX7_runScript_51 ?_
    refine r_isub dX7_runScript_52 ?_
    refine r_iload dX7_runScript_53 rfl ?_
    refine r_isub dX7_runScript_55 ?_
    refine r_cJ dX7_runScript_56 rfl (invS_eq rfl (by decide) rfl rfl rfl rfl ⟨rfl, Nat.le_of_ble_eq_true rfl⟩) (qCJ_imp (fun v2 G1 h => ?_) h)
    refine r_ldiv dX7_runScript_59 ⟨h.1, ?_⟩
    replace h := h.2
    refine r_ldc2 dX7_runScript_60 rfl ?_
    refine r_lrem dX7_runScript_63 ⟨by decide, ?_⟩
    refine r_l2i dX7_runScript_64 ?_
    refine r_istore dX7_runScript_65 rfl ?_
    refine r_aload_n dX7_runScript_67 rfl ?_
    refine r_iload dX7_runScript_68 rfl ?_
    refine r_sipush dX7_runScript_70 rfl ?_
    refine r_idiv dX7_runScript_73 ⟨by decide, ?_⟩
    refine r_iload dX7_runScript_74 rfl ?_
    refine r_bipush dX7_runScript_76 rfl ?_
    refine r_idiv dX7_runScript_78 ⟨by decide, ?_⟩
    refine r_bipush dX7_runScript_79 rfl ?_
    refine r_irem dX7_runScript_81 ⟨by decide, ?_⟩
    refine r_iload dX7_runScript_82 rfl ?_
    refine r_bipush dX7_runScript_84 rfl ?_
    refine r_idiv dX7_runScript_86 ⟨by decide, ?_⟩
    refine r_bipush dX7_runScript_87 rfl ?_
    refine r_irem dX7_runScript_89 ⟨by decide, ?_⟩
    refine r_iload dX7_runScript_90 rfl ?_
    refine r_bipush dX7_runScript_92 rfl ?_
    refine r_irem dX7_runScript_94 ⟨by decide, ?_⟩
    refine r_cI dX7_runScript_95 rfl (invV_eq rfl rfl rfl rfl rfl rfl ⟨rfl, Nat.le_of_ble_eq_true rfl⟩ h.1) (qCI_imp (fun v4 G3 h => ?_) h.2)
    refine r_ifne (tgt := 104) dX7_runScript_98 (by decide) (ite_imp (fun h => ?_) (fun h => ?_) h)
    · refine r_iinc dX7_runScript_104 rfl rfl ?_
      refine r_goto (tgt := 43) dX7_runScript_107 (by decide) ?_
      exact h
    · refine r_iload dX7_runScript_101 rfl ?_
      exact r_iret dX7_runScript_103 rfl ⟨rfl, h⟩
theorem dX7_descend_0 : decode cX7_descend 0 = .ok (.iload_n 3, 1) := by decide +kernel
theorem dX7_descend_1 : decode cX7_descend 1 = .ok (.i2l, 1) := by decide +kernel
theorem dX7_descend_2 : decode cX7_descend 2 = .ok (.lconst 1, 1) := by decide +kernel
theorem dX7_descend_3 : decode cX7_descend 3 = .ok (.ldc2_w 246, 3) := by decide +kernel
theorem dX7_descend_6 : decode cX7_descend 6 = .ok (.invokestatic 55, 3) := by decide +kernel
theorem dX7_descend_9 : decode cX7_descend 9 = .ok (.ifCond .ne 6, 3) := by decide +kernel
theorem dX7_descend_12 : decode cX7_descend 12 = .ok (.bipush (-2), 2) := by decide +kernel
theorem dX7_descend_14 : decode cX7_descend 14 = .ok (.ireturn, 1) := by decide +kernel
theorem dX7_descend_15 : decode cX7_descend 15 = .ok (.lload_n 1, 1) := by decide +kernel
theorem dX7_descend_16 : decode cX7_descend 16 = .ok (.lstore 4, 2) := by decide +kernel
theorem dX7_descend_18 : decode cX7_descend 18 = .ok (.iconst 0, 1) := by decide +kernel
theorem dX7_descend_19 : decode cX7_descend 19 = .ok (.istore 6, 2) := by decide +kernel
theorem dX7_descend_21 : decode cX7_descend 21 = .ok (.iconst 0, 1) := by decide +kernel
theorem dX7_descend_22 : decode cX7_descend 22 = .ok (.istore 7, 2) := by decide +kernel
theorem dX7_descend_24 : decode cX7_descend 24 = .ok (.iload 7, 2) := by decide +kernel
theorem dX7_descend_26 : decode cX7_descend 26 = .ok (.iload_n 3, 1) := by decide +kernel
theorem dX7_descend_27 : decode cX7_descend 27 = .ok (.if_icmp .ge 90, 3) := by decide +kernel
theorem dX7_descend_30 : decode cX7_descend 30 = .ok (.aload_n 0, 1) := by decide +kernel
theorem dX7_descend_31 : decode cX7_descend 31 = .ok (.aload_n 0, 1) := by decide +kernel
theorem dX7_descend_32 : decode cX7_descend 32 = .ok (.getfield 13, 3) := by decide +kernel
theorem dX7_descend_35 : decode cX7_descend 35 = .ok (.invokevirtual 179, 3) := by decide +kernel
theorem dX7_descend_38 : decode cX7_descend 38 = .ok (.iconst 0, 1) := by decide +kernel
theorem dX7_descend_39 : decode cX7_descend 39 = .ok (.istore 8, 2) := by decide +kernel
theorem dX7_descend_41 : decode cX7_descend 41 = .ok (.iload 8, 2) := by decide +kernel
theorem dX7_descend_43 : decode cX7_descend 43 = .ok (.bipush 6, 2) := by decide +kernel
theorem dX7_descend_45 : decode cX7_descend 45 = .ok (.if_icmp .ge 59, 3) := by decide +kernel
theorem dX7_descend_48 : decode cX7_descend 48 = .ok (.aload_n 0, 1) := by decide +kernel
theorem dX7_descend_49 : decode cX7_descend 49 = .ok (.aload_n 0, 1) := by decide +kernel
theorem dX7_descend_50 : decode cX7_descend 50 = .ok (.getfield 164, 3) := by decide +kernel
theorem dX7_descend_53 : decode cX7_descend 53 = .ok (.invokevirtual 176, 3) := by decide +kernel
theorem dX7_descend_56 : decode cX7_descend 56 = .ok (.ifCond .le 48, 3) := by decide +kernel
theorem dX7_descend_59 : decode cX7_descend 59 = .ok (.lload 4, 2) := by decide +kernel
theorem dX7_descend_61 : decode cX7_descend 61 = .ok (.ldc2_w 248, 3) := by decide +kernel
theorem dX7_descend_64 : decode cX7_descend 64 = .ok (.lmul, 1) := by decide +kernel
theorem dX7_descend_65 : decode cX7_descend 65 = .ok (.ldc2_w 250, 3) := by decide +kernel
theorem dX7_descend_68 : decode cX7_descend 68 = .ok (.ladd, 1) := by decide +kernel
theorem dX7_descend_69 : decode cX7_descend 69 = .ok (.lstore 4, 2) := by decide +kernel
theorem dX7_descend_71 : decode cX7_descend 71 = .ok (.aload_n 0, 1) := by decide +kernel
theorem dX7_descend_72 : decode cX7_descend 72 = .ok (.aload_n 0, 1) := by decide +kernel
theorem dX7_descend_73 : decode cX7_descend 73 = .ok (.getfield 13, 3) := by decide +kernel
theorem dX7_descend_76 : decode cX7_descend 76 = .ok (.iconst 1, 1) := by decide +kernel
theorem dX7_descend_77 : decode cX7_descend 77 = .ok (.lload 4, 2) := by decide +kernel
theorem dX7_descend_79 : decode cX7_descend 79 = .ok (.bipush 33, 2) := by decide +kernel
theorem dX7_descend_81 : decode cX7_descend 81 = .ok (.lushr, 1) := by decide +kernel
theorem dX7_descend_82 : decode cX7_descend 82 = .ok (.l2i, 1) := by decide +kernel
theorem dX7_descend_83 : decode cX7_descend 83 = .ok (.aload_n 0, 1) := by decide +kernel
theorem dX7_descend_84 : decode cX7_descend 84 = .ok (.aload_n 0, 1) := by decide +kernel
theorem dX7_descend_85 : decode cX7_descend 85 = .ok (.getfield 164, 3) := by decide +kernel
theorem dX7_descend_88 : decode cX7_descend 88 = .ok (.invokevirtual 176, 3) := by decide +kernel
theorem dX7_descend_91 : decode cX7_descend 91 = .ok (.irem, 1) := by decide +kernel
theorem dX7_descend_92 : decode cX7_descend 92 = .ok (.iadd, 1) := by decide +kernel
theorem dX7_descend_93 : decode cX7_descend 93 = .ok (.invokevirtual 185, 3) := by decide +kernel
theorem dX7_descend_96 : decode cX7_descend 96 = .ok (.istore 9, 2) := by decide +kernel
theorem dX7_descend_98 : decode cX7_descend 98 = .ok (.iinc 8 1, 3) := by decide +kernel
theorem dX7_descend_101 : decode cX7_descend 101 = .ok (.goto (-60), 3) := by decide +kernel
theorem dX7_descend_104 : decode cX7_descend 104 = .ok (.iload 6, 2) := by decide +kernel
theorem dX7_descend_106 : decode cX7_descend 106 = .ok (.iload 8, 2) := by decide +kernel
theorem dX7_descend_108 : decode cX7_descend 108 = .ok (.iadd, 1) := by decide +kernel
theorem dX7_descend_109 : decode cX7_descend 109 = .ok (.istore 6, 2) := by decide +kernel
theorem dX7_descend_111 : decode cX7_descend 111 = .ok (.iinc 7 1, 3) := by decide +kernel
theorem dX7_descend_114 : decode cX7_descend 114 = .ok (.goto (-90), 3) := by decide +kernel
theorem dX7_descend_117 : decode cX7_descend 117 = .ok (.iload 6, 2) := by decide +kernel
theorem dX7_descend_119 : decode cX7_descend 119 = .ok (.ireturn, 1) := by decide +kernel
abbrev x_X7_descend : Cx := (7, cX7_descend, false, some (.int))
set_option maxRecDepth 10000 in
theorem g_X7_descend_0 {E : Ev} {d : Nat} {G : Hp} {Q : Po} {x0 : Nat} {x1 : Int64} {x3 : Int32} (h : (qCI E d i_X7_in [.long (((x3).toInt64)), .long 1, .long 30] G fun v2 G1 => (if ¬ v2 = 0 then Xr E d x_X7_descend 24 [some (.ref x0), some (.long x1), none, some (.int x3), some (.long x1), none, some (.int ((iv 0))), some (.int ((iv 0))), none, none] [] G1 Q else Q (some (.int (iv (-2)))) G1))) : Xr E d x_X7_descend 0 [some (.ref x0), some (.long x1), none, some (.int x3), none, none, none, none, none, none] [] G Q := by
  refine r_iload_n dX7_descend_0 rfl ?_
  refine r_i2l dX7_descend_1 ?_
  refine r_lconst (v := 1) dX7_descend_2 rfl ?_
  refine r_ldc2 dX7_descend_3 rfl ?_
  refine r_cI dX7_descend_6 rfl (invS_eq rfl (by decide) rfl rfl rfl rfl ⟨rfl, Nat.le_of_ble_eq_true rfl⟩) (qCI_imp (fun v2 G1 h => ?_) h)
  refine r_ifne (tgt := 15) dX7_descend_9 (by decide) (ite_imp (fun h => ?_) (fun h => ?_) h)
  · refine r_lload_n dX7_descend_15 rfl ?_
    refine r_lstore dX7_descend_16 rfl ?_
    refine r_iconst dX7_descend_18 ?_
    refine r_istore dX7_descend_19 rfl ?_
    refine r_iconst dX7_descend_21 ?_
    refine r_istore dX7_descend_22 rfl ?_
    exact h
  · refine r_bipush dX7_descend_12 rfl ?_
    exact r_iret dX7_descend_14 rfl ⟨rfl, h⟩
theorem e_X7_descend {E : Ev} {d : Nat} {G : Hp} {Q : Po} {x0 : Nat} {x1 : Int64} {x3 : Int32} (h : (qCI E d i_X7_in [.long (((x3).toInt64)), .long 1, .long 30] G fun v2 G1 => (if ¬ v2 = 0 then Xr E d x_X7_descend 24 [some (.ref x0), some (.long x1), none, some (.int x3), some (.long x1), none, some (.int ((iv 0))), some (.int ((iv 0))), none, none] [] G1 Q else Q (some (.int (iv (-2)))) G1))) : runs E (d + 1) i_X7_descend [.ref x0, .long x1, .int x3] G Q := by
  rw [runs_eq (m := (yX7_descend, cX7_descend, 10, some (.int), 2, 7, false, false)) rfl (Nat.le_of_ble_eq_true rfl)]
  exact g_X7_descend_0 h
set_option maxRecDepth 10000 in
theorem g_X7_descend_24 {E : Ev} {d : Nat} {G : Hp} {Q : Po} {x0 : Nat} {x1 : Int64} {x3 : Int32} {x4 : Int64} {x6 : Int32} {x7 : Int32} {l8 : Option Value} {l9 : Option Value} (h : (if x3 ≤ x7 then Q (some (.int x6)) G else (qFR E G x0 7 2 fun v1 => (rcv E G x0 7 = true ∧ (qCV E d i_X7_beginWalk [.ref x0, .ref v1] G fun G2 => Xr E d x_X7_descend 41 [some (.ref x0), some (.long x1), none, some (.int x3), some (.long x4), none, some (.int x6), some (.int x7), some (.int ((iv 0))), l9] [] G2 Q))))) : Xr E d x_X7_descend 24 [some (.ref x0), some (.long x1), none, some (.int x3), some (.long x4), none, some (.int x6), some (.int x7), l8, l9] [] G Q := by
  refine r_iload dX7_descend_24 rfl ?_
  refine r_iload_n dX7_descend_26 rfl ?_
  refine r_cge (tgt := 117) dX7_descend_27 (by decide) (ite_imp (fun h => ?_) (fun h => ?_) h)
  · refine r_iload dX7_descend_117 rfl ?_
    exact r_iret dX7_descend_119 rfl ⟨rfl, h⟩
  · refine r_aload_n dX7_descend_30 rfl ?_
    refine r_aload_n dX7_descend_31 rfl ?_
    refine r_getR dX7_descend_32 rfl (qFR_imp (fun v1 h => ?_) h)
    refine r_cV dX7_descend_35 rfl (invV_eq rfl rfl rfl rfl rfl rfl ⟨rfl, Nat.le_of_ble_eq_true rfl⟩ h.1) (qCV_imp (fun G2 h => ?_) h.2)
    refine r_iconst dX7_descend_38 ?_
    refine r_istore dX7_descend_39 rfl ?_
    exact h
set_option maxRecDepth 10000 in
theorem g_X7_descend_41 {E : Ev} {d : Nat} {G : Hp} {Q : Po} {x0 : Nat} {x1 : Int64} {x3 : Int32} {x4 : Int64} {x6 : Int32} {x7 : Int32} {x8 : Int32} {l9 : Option Value} (h : (if (iv 6) ≤ x8 then Xr E d x_X7_descend 24 [some (.ref x0), some (.long x1), none, some (.int x3), some (.long x4), none, some (.int ((x6 + x8))), some (.int ((x7 + (iv 1)))), some (.int x8), l9] [] G Q else (qFI E G x0 7 14 fun v1 => (rcv E G x0 7 = true ∧ (qCI E d i_X7_childrenOf [.ref x0, .int v1] G fun v3 G2 => (if v3 ≤ 0 then Xr E d x_X7_descend 24 [some (.ref x0), some (.long x1), none, some (.int x3), some (.long x4), none, some (.int ((x6 + x8))), some (.int ((x7 + (iv 1)))), some (.int x8), l9] [] G2 Q else (qFR E G2 x0 7 2 fun v4 => (qFI E G2 x0 7 14 fun v5 => (rcv E G2 x0 7 = true ∧ (qCI E d i_X7_childrenOf [.ref x0, .int v5] G2 fun v7 G6 => (¬ v7 = 0 ∧ (rcv E G6 x0 7 = true ∧ (qCI E d i_X7_goDown [.ref x0, .ref v4, .int (((iv 1) + ((((((((x4 * 6364136223846793005) + 1442695040888963407)).toUInt64 >>> (((iv 33)).toInt64.toUInt64 &&& Int64.toUInt64 63)).toInt64)).toInt32) - (((((((x4 * 6364136223846793005) + 1442695040888963407)).toUInt64 >>> (((iv 33)).toInt64.toUInt64 &&& Int64.toUInt64 63)).toInt64)).toInt32) / v7 * v7)))] G6 fun v9 G8 => Xr E d x_X7_descend 41 [some (.ref x0), some (.long x1), none, some (.int x3), some (.long (((x4 * 6364136223846793005) + 1442695040888963407))), none, some (.int x6), some (.int x7), some (.int ((x8 + (iv 1)))), some (.int v9)] [] G8 Q))))))))))))) : Xr E d x_X7_descend 41 [some (.ref x0), some (.long x1), none, some (.int x3), some (.long x4), none, some (.int x6), some (.int x7), some (.int x8), l9] [] G Q := by
  refine r_iload dX7_descend_41 rfl ?_
  refine r_bipush dX7_descend_43 rfl ?_
  refine r_cge (tgt := 104) dX7_descend_45 (by decide) (ite_imp (fun h => ?_) (fun h => ?_) h)
  · refine r_iload dX7_descend_104 rfl ?_
    refine r_iload dX7_descend_106 rfl ?_
    refine r_iadd dX7_descend_108 ?_
    refine r_istore dX7_descend_109 rfl ?_
    refine r_iinc dX7_descend_111 rfl rfl ?_
    refine r_goto (tgt := 24) dX7_descend_114 (by decide) ?_
    exact h
  · refine r_aload_n dX7_descend_48 rfl ?_
    refine r_aload_n dX7_descend_49 rfl ?_
    refine r_getI dX7_descend_50 rfl (qFI_imp (fun v1 h => ?_) h)
    refine r_cI dX7_descend_53 rfl (invV_eq rfl rfl rfl rfl rfl rfl ⟨rfl, Nat.le_of_ble_eq_true rfl⟩ h.1) (qCI_imp (fun v3 G2 h => ?_) h.2)
    refine r_ifle (tgt := 104) dX7_descend_56 (by decide) (ite_imp (fun h => ?_) (fun h => ?_) h)
    · refine r_iload dX7_descend_104 rfl ?_
      refine r_iload dX7_descend_106 rfl ?_
      refine r_iadd dX7_descend_108 ?_
      refine r_istore dX7_descend_109 rfl ?_
      refine r_iinc dX7_descend_111 rfl rfl ?_
      refine r_goto (tgt := 24) dX7_descend_114 (by decide) ?_
      exact h
    · refine r_lload dX7_descend_59 rfl ?_
      refine r_ldc2 dX7_descend_61 rfl ?_
      refine r_lmul dX7_descend_64 ?_
      refine r_ldc2 dX7_descend_65 rfl ?_
      refine r_ladd dX7_descend_68 ?_
      refine r_lstore dX7_descend_69 rfl ?_
      refine r_aload_n dX7_descend_71 rfl ?_
      refine r_aload_n dX7_descend_72 rfl ?_
      refine r_getR dX7_descend_73 rfl (qFR_imp (fun v4 h => ?_) h)
      refine r_iconst dX7_descend_76 ?_
      refine r_lload dX7_descend_77 rfl ?_
      refine r_bipush dX7_descend_79 rfl ?_
      refine r_lushr dX7_descend_81 ?_
      refine r_l2i dX7_descend_82 ?_
      refine r_aload_n dX7_descend_83 rfl ?_
      refine r_aload_n dX7_descend_84 rfl ?_
      refine r_getI dX7_descend_85 rfl (qFI_imp (fun v5 h => ?_) h)
      refine r_cI dX7_descend_88 rfl (invV_eq rfl rfl rfl rfl rfl rfl ⟨rfl, Nat.le_of_ble_eq_true rfl⟩ h.1) (qCI_imp (fun v7 G6 h => ?_) h.2)
      refine r_irem dX7_descend_91 ⟨h.1, ?_⟩
      replace h := h.2
      refine r_iadd dX7_descend_92 ?_
      refine r_cI dX7_descend_93 rfl (invV_eq rfl rfl rfl rfl rfl rfl ⟨rfl, Nat.le_of_ble_eq_true rfl⟩ h.1) (qCI_imp (fun v9 G8 h => ?_) h.2)
      refine r_istore dX7_descend_96 rfl ?_
      refine r_iinc dX7_descend_98 rfl rfl ?_
      refine r_goto (tgt := 41) dX7_descend_101 (by decide) ?_
      exact h
theorem dX7_save_0 : decode cX7_save 0 = .ok (.iload_n 1, 1) := by decide +kernel
theorem dX7_save_1 : decode cX7_save 1 = .ok (.i2l, 1) := by decide +kernel
theorem dX7_save_2 : decode cX7_save 2 = .ok (.lconst 0, 1) := by decide +kernel
theorem dX7_save_3 : decode cX7_save 3 = .ok (.lconst 1, 1) := by decide +kernel
theorem dX7_save_4 : decode cX7_save 4 = .ok (.invokestatic 55, 3) := by decide +kernel
theorem dX7_save_7 : decode cX7_save 7 = .ok (.ifCond .ne 5, 3) := by decide +kernel
theorem dX7_save_10 : decode cX7_save 10 = .ok (.iconst (-1), 1) := by decide +kernel
theorem dX7_save_11 : decode cX7_save 11 = .ok (.ireturn, 1) := by decide +kernel
theorem dX7_save_12 : decode cX7_save 12 = .ok (.aload_n 0, 1) := by decide +kernel
theorem dX7_save_13 : decode cX7_save 13 = .ok (.getfield 28, 3) := by decide +kernel
theorem dX7_save_16 : decode cX7_save 16 = .ok (.iload_n 1, 1) := by decide +kernel
theorem dX7_save_17 : decode cX7_save 17 = .ok (.iconst 1, 1) := by decide +kernel
theorem dX7_save_18 : decode cX7_save 18 = .ok (.bastore, 1) := by decide +kernel
theorem dX7_save_19 : decode cX7_save 19 = .ok (.iconst 0, 1) := by decide +kernel
theorem dX7_save_20 : decode cX7_save 20 = .ok (.istore_n 2, 1) := by decide +kernel
theorem dX7_save_21 : decode cX7_save 21 = .ok (.iload_n 2, 1) := by decide +kernel
theorem dX7_save_22 : decode cX7_save 22 = .ok (.sipush 160, 3) := by decide +kernel
theorem dX7_save_25 : decode cX7_save 25 = .ok (.if_icmp .ge 27, 3) := by decide +kernel
theorem dX7_save_28 : decode cX7_save 28 = .ok (.aload_n 0, 1) := by decide +kernel
theorem dX7_save_29 : decode cX7_save 29 = .ok (.getfield 25, 3) := by decide +kernel
theorem dX7_save_32 : decode cX7_save 32 = .ok (.sipush 160, 3) := by decide +kernel
theorem dX7_save_35 : decode cX7_save 35 = .ok (.iload_n 1, 1) := by decide +kernel
theorem dX7_save_36 : decode cX7_save 36 = .ok (.imul, 1) := by decide +kernel
theorem dX7_save_37 : decode cX7_save 37 = .ok (.iload_n 2, 1) := by decide +kernel
theorem dX7_save_38 : decode cX7_save 38 = .ok (.iadd, 1) := by decide +kernel
theorem dX7_save_39 : decode cX7_save 39 = .ok (.aload_n 0, 1) := by decide +kernel
theorem dX7_save_40 : decode cX7_save 40 = .ok (.getfield 13, 3) := by decide +kernel
theorem dX7_save_43 : decode cX7_save 43 = .ok (.iload_n 2, 1) := by decide +kernel
theorem dX7_save_44 : decode cX7_save 44 = .ok (.iaload, 1) := by decide +kernel
theorem dX7_save_45 : decode cX7_save 45 = .ok (.iastore, 1) := by decide +kernel
theorem dX7_save_46 : decode cX7_save 46 = .ok (.iinc 2 1, 3) := by decide +kernel
theorem dX7_save_49 : decode cX7_save 49 = .ok (.goto (-28), 3) := by decide +kernel
theorem dX7_save_52 : decode cX7_save 52 = .ok (.aload_n 0, 1) := by decide +kernel
theorem dX7_save_53 : decode cX7_save 53 = .ok (.getfield 13, 3) := by decide +kernel
theorem dX7_save_56 : decode cX7_save 56 = .ok (.invokestatic 116, 3) := by decide +kernel
theorem dX7_save_59 : decode cX7_save 59 = .ok (.ireturn, 1) := by decide +kernel
abbrev x_X7_save : Cx := (7, cX7_save, false, some (.int))
set_option maxRecDepth 10000 in
theorem g_X7_save_0 {E : Ev} {d : Nat} {G : Hp} {Q : Po} {x0 : Nat} {x1 : Int32} (h : (qCI E d i_X7_in [.long (((x1).toInt64)), .long 0, .long 1] G fun v2 G1 => (if ¬ v2 = 0 then (qFR E G1 x0 7 9 fun v3 => (qBS E G1 v3 x1 (iv 1) fun G4 => Xr E d x_X7_save 21 [some (.ref x0), some (.int x1), some (.int ((iv 0)))] [] G4 Q)) else Q (some (.int (iv (-1)))) G1))) : Xr E d x_X7_save 0 [some (.ref x0), some (.int x1), none] [] G Q := by
  refine r_iload_n dX7_save_0 rfl ?_
  refine r_i2l dX7_save_1 ?_
  refine r_lconst (v := 0) dX7_save_2 rfl ?_
  refine r_lconst (v := 1) dX7_save_3 rfl ?_
  refine r_cI dX7_save_4 rfl (invS_eq rfl (by decide) rfl rfl rfl rfl ⟨rfl, Nat.le_of_ble_eq_true rfl⟩) (qCI_imp (fun v2 G1 h => ?_) h)
  refine r_ifne (tgt := 12) dX7_save_7 (by decide) (ite_imp (fun h => ?_) (fun h => ?_) h)
  · refine r_aload_n dX7_save_12 rfl ?_
    refine r_getR dX7_save_13 rfl (qFR_imp (fun v3 h => ?_) h)
    refine r_iload_n dX7_save_16 rfl ?_
    refine r_iconst dX7_save_17 ?_
    refine r_bast dX7_save_18 (qBS_imp (fun G4 h => ?_) h)
    refine r_iconst dX7_save_19 ?_
    refine r_istore_n dX7_save_20 rfl ?_
    exact h
  · refine r_iconst dX7_save_10 ?_
    exact r_iret dX7_save_11 rfl ⟨rfl, h⟩
theorem e_X7_save {E : Ev} {d : Nat} {G : Hp} {Q : Po} {x0 : Nat} {x1 : Int32} (h : (qCI E d i_X7_in [.long (((x1).toInt64)), .long 0, .long 1] G fun v2 G1 => (if ¬ v2 = 0 then (qFR E G1 x0 7 9 fun v3 => (qBS E G1 v3 x1 (iv 1) fun G4 => Xr E d x_X7_save 21 [some (.ref x0), some (.int x1), some (.int ((iv 0)))] [] G4 Q)) else Q (some (.int (iv (-1)))) G1))) : runs E (d + 1) i_X7_save [.ref x0, .int x1] G Q := by
  rw [runs_eq (m := (yX7_save, cX7_save, 3, some (.int), 1, 7, false, false)) rfl (Nat.le_of_ble_eq_true rfl)]
  exact g_X7_save_0 h
set_option maxRecDepth 10000 in
theorem g_X7_save_21 {E : Ev} {d : Nat} {G : Hp} {Q : Po} {x0 : Nat} {x1 : Int32} {x2 : Int32} (h : (if (iv 160) ≤ x2 then (qFR E G x0 7 2 fun v1 => (qCI E d i_X7_stepsOf [.ref v1] G fun v3 G2 => Q (some (.int v3)) G2)) else (qFR E G x0 7 8 fun v4 => (qFR E G x0 7 2 fun v5 => (qIA 7 E G v5 x2 fun v6 => (qIS E G v4 (((iv 160) * x1) + x2) v6 fun G7 => Xr E d x_X7_save 21 [some (.ref x0), some (.int x1), some (.int ((x2 + (iv 1))))] [] G7 Q)))))) : Xr E d x_X7_save 21 [some (.ref x0), some (.int x1), some (.int x2)] [] G Q := by
  refine r_iload_n dX7_save_21 rfl ?_
  refine r_sipush dX7_save_22 rfl ?_
  refine r_cge (tgt := 52) dX7_save_25 (by decide) (ite_imp (fun h => ?_) (fun h => ?_) h)
  · refine r_aload_n dX7_save_52 rfl ?_
    refine r_getR dX7_save_53 rfl (qFR_imp (fun v1 h => ?_) h)
    refine r_cI dX7_save_56 rfl (invS_eq rfl (by decide) rfl rfl rfl rfl ⟨rfl, Nat.le_of_ble_eq_true rfl⟩) (qCI_imp (fun v3 G2 h => ?_) h)
    exact r_iret dX7_save_59 rfl ⟨rfl, h⟩
  · refine r_aload_n dX7_save_28 rfl ?_
    refine r_getR dX7_save_29 rfl (qFR_imp (fun v4 h => ?_) h)
    refine r_sipush dX7_save_32 rfl ?_
    refine r_iload_n dX7_save_35 rfl ?_
    refine r_imul dX7_save_36 ?_
    refine r_iload_n dX7_save_37 rfl ?_
    refine r_iadd dX7_save_38 ?_
    refine r_aload_n dX7_save_39 rfl ?_
    refine r_getR dX7_save_40 rfl (qFR_imp (fun v5 h => ?_) h)
    refine r_iload_n dX7_save_43 rfl ?_
    refine r_iald dX7_save_44 (qIA_imp (fun v6 h => ?_) h)
    refine r_iast dX7_save_45 (qIS_imp (fun G7 h => ?_) h)
    refine r_iinc dX7_save_46 rfl rfl ?_
    refine r_goto (tgt := 21) dX7_save_49 (by decide) ?_
    exact h
theorem dX7_restore_0 : decode cX7_restore 0 = .ok (.iload_n 1, 1) := by decide +kernel
theorem dX7_restore_1 : decode cX7_restore 1 = .ok (.i2l, 1) := by decide +kernel
theorem dX7_restore_2 : decode cX7_restore 2 = .ok (.lconst 0, 1) := by decide +kernel
theorem dX7_restore_3 : decode cX7_restore 3 = .ok (.lconst 1, 1) := by decide +kernel
theorem dX7_restore_4 : decode cX7_restore 4 = .ok (.invokestatic 55, 3) := by decide +kernel
theorem dX7_restore_7 : decode cX7_restore 7 = .ok (.ifCond .ne 5, 3) := by decide +kernel
theorem dX7_restore_10 : decode cX7_restore 10 = .ok (.iconst (-1), 1) := by decide +kernel
theorem dX7_restore_11 : decode cX7_restore 11 = .ok (.ireturn, 1) := by decide +kernel
theorem dX7_restore_12 : decode cX7_restore 12 = .ok (.aload_n 0, 1) := by decide +kernel
theorem dX7_restore_13 : decode cX7_restore 13 = .ok (.getfield 28, 3) := by decide +kernel
theorem dX7_restore_16 : decode cX7_restore 16 = .ok (.iload_n 1, 1) := by decide +kernel
theorem dX7_restore_17 : decode cX7_restore 17 = .ok (.baload, 1) := by decide +kernel
theorem dX7_restore_18 : decode cX7_restore 18 = .ok (.ifCond .ne 6, 3) := by decide +kernel
theorem dX7_restore_21 : decode cX7_restore 21 = .ok (.bipush (-3), 2) := by decide +kernel
theorem dX7_restore_23 : decode cX7_restore 23 = .ok (.ireturn, 1) := by decide +kernel
theorem dX7_restore_24 : decode cX7_restore 24 = .ok (.iconst 0, 1) := by decide +kernel
theorem dX7_restore_25 : decode cX7_restore 25 = .ok (.istore_n 2, 1) := by decide +kernel
theorem dX7_restore_26 : decode cX7_restore 26 = .ok (.iload_n 2, 1) := by decide +kernel
theorem dX7_restore_27 : decode cX7_restore 27 = .ok (.sipush 160, 3) := by decide +kernel
theorem dX7_restore_30 : decode cX7_restore 30 = .ok (.if_icmp .ge 27, 3) := by decide +kernel
theorem dX7_restore_33 : decode cX7_restore 33 = .ok (.aload_n 0, 1) := by decide +kernel
theorem dX7_restore_34 : decode cX7_restore 34 = .ok (.getfield 13, 3) := by decide +kernel
theorem dX7_restore_37 : decode cX7_restore 37 = .ok (.iload_n 2, 1) := by decide +kernel
theorem dX7_restore_38 : decode cX7_restore 38 = .ok (.aload_n 0, 1) := by decide +kernel
theorem dX7_restore_39 : decode cX7_restore 39 = .ok (.getfield 25, 3) := by decide +kernel
theorem dX7_restore_42 : decode cX7_restore 42 = .ok (.sipush 160, 3) := by decide +kernel
theorem dX7_restore_45 : decode cX7_restore 45 = .ok (.iload_n 1, 1) := by decide +kernel
theorem dX7_restore_46 : decode cX7_restore 46 = .ok (.imul, 1) := by decide +kernel
theorem dX7_restore_47 : decode cX7_restore 47 = .ok (.iload_n 2, 1) := by decide +kernel
theorem dX7_restore_48 : decode cX7_restore 48 = .ok (.iadd, 1) := by decide +kernel
theorem dX7_restore_49 : decode cX7_restore 49 = .ok (.iaload, 1) := by decide +kernel
theorem dX7_restore_50 : decode cX7_restore 50 = .ok (.iastore, 1) := by decide +kernel
theorem dX7_restore_51 : decode cX7_restore 51 = .ok (.iinc 2 1, 3) := by decide +kernel
theorem dX7_restore_54 : decode cX7_restore 54 = .ok (.goto (-28), 3) := by decide +kernel
theorem dX7_restore_57 : decode cX7_restore 57 = .ok (.aload_n 0, 1) := by decide +kernel
theorem dX7_restore_58 : decode cX7_restore 58 = .ok (.iconst 0, 1) := by decide +kernel
theorem dX7_restore_59 : decode cX7_restore 59 = .ok (.putfield 113, 3) := by decide +kernel
theorem dX7_restore_62 : decode cX7_restore 62 = .ok (.aload_n 0, 1) := by decide +kernel
theorem dX7_restore_63 : decode cX7_restore 63 = .ok (.getfield 13, 3) := by decide +kernel
theorem dX7_restore_66 : decode cX7_restore 66 = .ok (.invokestatic 116, 3) := by decide +kernel
theorem dX7_restore_69 : decode cX7_restore 69 = .ok (.ireturn, 1) := by decide +kernel
abbrev x_X7_restore : Cx := (7, cX7_restore, false, some (.int))
set_option maxRecDepth 10000 in
theorem g_X7_restore_0 {E : Ev} {d : Nat} {G : Hp} {Q : Po} {x0 : Nat} {x1 : Int32} (h : (qCI E d i_X7_in [.long (((x1).toInt64)), .long 0, .long 1] G fun v2 G1 => (if ¬ v2 = 0 then (qFR E G1 x0 7 9 fun v3 => (qBA E G1 v3 x1 fun v4 => (if ¬ v4 = 0 then Xr E d x_X7_restore 26 [some (.ref x0), some (.int x1), some (.int ((iv 0)))] [] G1 Q else Q (some (.int (iv (-3)))) G1))) else Q (some (.int (iv (-1)))) G1))) : Xr E d x_X7_restore 0 [some (.ref x0), some (.int x1), none] [] G Q := by
  refine r_iload_n dX7_restore_0 rfl ?_
  refine r_i2l dX7_restore_1 ?_
  refine r_lconst (v := 0) dX7_restore_2 rfl ?_
  refine r_lconst (v := 1) dX7_restore_3 rfl ?_
  refine r_cI dX7_restore_4 rfl (invS_eq rfl (by decide) rfl rfl rfl rfl ⟨rfl, Nat.le_of_ble_eq_true rfl⟩) (qCI_imp (fun v2 G1 h => ?_) h)
  refine r_ifne (tgt := 12) dX7_restore_7 (by decide) (ite_imp (fun h => ?_) (fun h => ?_) h)
  · refine r_aload_n dX7_restore_12 rfl ?_
    refine r_getR dX7_restore_13 rfl (qFR_imp (fun v3 h => ?_) h)
    refine r_iload_n dX7_restore_16 rfl ?_
    refine r_bald dX7_restore_17 (qBA_imp (fun v4 h => ?_) h)
    refine r_ifne (tgt := 24) dX7_restore_18 (by decide) (ite_imp (fun h => ?_) (fun h => ?_) h)
    · refine r_iconst dX7_restore_24 ?_
      refine r_istore_n dX7_restore_25 rfl ?_
      exact h
    · refine r_bipush dX7_restore_21 rfl ?_
      exact r_iret dX7_restore_23 rfl ⟨rfl, h⟩
  · refine r_iconst dX7_restore_10 ?_
    exact r_iret dX7_restore_11 rfl ⟨rfl, h⟩
theorem e_X7_restore {E : Ev} {d : Nat} {G : Hp} {Q : Po} {x0 : Nat} {x1 : Int32} (h : (qCI E d i_X7_in [.long (((x1).toInt64)), .long 0, .long 1] G fun v2 G1 => (if ¬ v2 = 0 then (qFR E G1 x0 7 9 fun v3 => (qBA E G1 v3 x1 fun v4 => (if ¬ v4 = 0 then Xr E d x_X7_restore 26 [some (.ref x0), some (.int x1), some (.int ((iv 0)))] [] G1 Q else Q (some (.int (iv (-3)))) G1))) else Q (some (.int (iv (-1)))) G1))) : runs E (d + 1) i_X7_restore [.ref x0, .int x1] G Q := by
  rw [runs_eq (m := (yX7_restore, cX7_restore, 3, some (.int), 1, 7, false, false)) rfl (Nat.le_of_ble_eq_true rfl)]
  exact g_X7_restore_0 h
set_option maxRecDepth 10000 in
theorem g_X7_restore_26 {E : Ev} {d : Nat} {G : Hp} {Q : Po} {x0 : Nat} {x1 : Int32} {x2 : Int32} (h : (if (iv 160) ≤ x2 then (qP E G x0 7 6 (.int ((iv 0))) fun G1 => (qFR E G1 x0 7 2 fun v2 => (qCI E d i_X7_stepsOf [.ref v2] G1 fun v4 G3 => Q (some (.int v4)) G3))) else (qFR E G x0 7 2 fun v5 => (qFR E G x0 7 8 fun v6 => (qIA 7 E G v6 (((iv 160) * x1) + x2) fun v7 => (qIS E G v5 x2 v7 fun G8 => Xr E d x_X7_restore 26 [some (.ref x0), some (.int x1), some (.int ((x2 + (iv 1))))] [] G8 Q)))))) : Xr E d x_X7_restore 26 [some (.ref x0), some (.int x1), some (.int x2)] [] G Q := by
  refine r_iload_n dX7_restore_26 rfl ?_
  refine r_sipush dX7_restore_27 rfl ?_
  refine r_cge (tgt := 57) dX7_restore_30 (by decide) (ite_imp (fun h => ?_) (fun h => ?_) h)
  · refine r_aload_n dX7_restore_57 rfl ?_
    refine r_iconst dX7_restore_58 ?_
    refine r_put dX7_restore_59 rfl rfl (by decide) (qP_imp (fun G1 h => ?_) h)
    refine r_aload_n dX7_restore_62 rfl ?_
    refine r_getR dX7_restore_63 rfl (qFR_imp (fun v2 h => ?_) h)
    refine r_cI dX7_restore_66 rfl (invS_eq rfl (by decide) rfl rfl rfl rfl ⟨rfl, Nat.le_of_ble_eq_true rfl⟩) (qCI_imp (fun v4 G3 h => ?_) h)
    exact r_iret dX7_restore_69 rfl ⟨rfl, h⟩
  · refine r_aload_n dX7_restore_33 rfl ?_
    refine r_getR dX7_restore_34 rfl (qFR_imp (fun v5 h => ?_) h)
    refine r_iload_n dX7_restore_37 rfl ?_
    refine r_aload_n dX7_restore_38 rfl ?_
    refine r_getR dX7_restore_39 rfl (qFR_imp (fun v6 h => ?_) h)
    refine r_sipush dX7_restore_42 rfl ?_
    refine r_iload_n dX7_restore_45 rfl ?_
    refine r_imul dX7_restore_46 ?_
    refine r_iload_n dX7_restore_47 rfl ?_
    refine r_iadd dX7_restore_48 ?_
    refine r_iald dX7_restore_49 (qIA_imp (fun v7 h => ?_) h)
    refine r_iast dX7_restore_50 (qIS_imp (fun G8 h => ?_) h)
    refine r_iinc dX7_restore_51 rfl rfl ?_
    refine r_goto (tgt := 26) dX7_restore_54 (by decide) ?_
    exact h
