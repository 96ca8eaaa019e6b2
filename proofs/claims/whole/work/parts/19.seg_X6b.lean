/-! segments, by program (wip/whole/gen/seg.py) -/
theorem dX6_runScript_0 : decode cX6_runScript 0 = .ok (.iload_n 1, 1) := by decide +kernel
theorem dX6_runScript_1 : decode cX6_runScript 1 = .ok (.iconst 1, 1) := by decide +kernel
theorem dX6_runScript_2 : decode cX6_runScript 2 = .ok (.if_icmp .lt 24, 3) := by decide +kernel
theorem dX6_runScript_5 : decode cX6_runScript 5 = .ok (.iload_n 1, 1) := by decide +kernel
theorem dX6_runScript_6 : decode cX6_runScript 6 = .ok (.iconst 4, 1) := by decide +kernel
theorem dX6_runScript_7 : decode cX6_runScript 7 = .ok (.if_icmp .gt 19, 3) := by decide +kernel
theorem dX6_runScript_10 : decode cX6_runScript 10 = .ok (.lload_n 2, 1) := by decide +kernel
theorem dX6_runScript_11 : decode cX6_runScript 11 = .ok (.lconst 0, 1) := by decide +kernel
theorem dX6_runScript_12 : decode cX6_runScript 12 = .ok (.lcmp, 1) := by decide +kernel
theorem dX6_runScript_13 : decode cX6_runScript 13 = .ok (.ifCond .lt 13, 3) := by decide +kernel
theorem dX6_runScript_16 : decode cX6_runScript 16 = .ok (.lload_n 2, 1) := by decide +kernel
theorem dX6_runScript_17 : decode cX6_runScript 17 = .ok (.iload_n 1, 1) := by decide +kernel
theorem dX6_runScript_18 : decode cX6_runScript 18 = .ok (.invokestatic 225, 3) := by decide +kernel
theorem dX6_runScript_21 : decode cX6_runScript 21 = .ok (.lconst 0, 1) := by decide +kernel
theorem dX6_runScript_22 : decode cX6_runScript 22 = .ok (.lcmp, 1) := by decide +kernel
theorem dX6_runScript_23 : decode cX6_runScript 23 = .ok (.ifCond .eq 6, 3) := by decide +kernel
theorem dX6_runScript_26 : decode cX6_runScript 26 = .ok (.bipush (-2), 2) := by decide +kernel
theorem dX6_runScript_28 : decode cX6_runScript 28 = .ok (.ireturn, 1) := by decide +kernel
theorem dX6_runScript_29 : decode cX6_runScript 29 = .ok (.aload_n 0, 1) := by decide +kernel
theorem dX6_runScript_30 : decode cX6_runScript 30 = .ok (.getfield 66, 3) := by decide +kernel
theorem dX6_runScript_33 : decode cX6_runScript 33 = .ok (.aload_n 0, 1) := by decide +kernel
theorem dX6_runScript_34 : decode cX6_runScript 34 = .ok (.getfield 19, 3) := by decide +kernel
theorem dX6_runScript_37 : decode cX6_runScript 37 = .ok (.invokevirtual 87, 3) := by decide +kernel
theorem dX6_runScript_40 : decode cX6_runScript 40 = .ok (.iconst 0, 1) := by decide +kernel
theorem dX6_runScript_41 : decode cX6_runScript 41 = .ok (.istore 4, 2) := by decide +kernel
theorem dX6_runScript_43 : decode cX6_runScript 43 = .ok (.iload 4, 2) := by decide +kernel
theorem dX6_runScript_45 : decode cX6_runScript 45 = .ok (.iload_n 1, 1) := by decide +kernel
theorem dX6_runScript_46 : decode cX6_runScript 46 = .ok (.if_icmp .ge 38, 3) := by decide +kernel
theorem dX6_runScript_49 : decode cX6_runScript 49 = .ok (.lload_n 2, 1) := by decide +kernel
theorem dX6_runScript_50 : decode cX6_runScript 50 = .ok (.iload_n 1, 1) := by decide +kernel
theorem dX6_runScript_51 : decode cX6_runScript 51 = .ok (.iconst 1, 1) := by decide +kernel
theorem dX6_runScript_52 : decode cX6_runScript 52 = .ok (.isub, 1) := by decide +kernel
theorem dX6_runScript_53 : decode cX6_runScript 53 = .ok (.iload 4, 2) := by decide +kernel
theorem dX6_runScript_55 : decode cX6_runScript 55 = .ok (.isub, 1) := by decide +kernel
theorem dX6_runScript_56 : decode cX6_runScript 56 = .ok (.invokestatic 225, 3) := by decide +kernel
theorem dX6_runScript_59 : decode cX6_runScript 59 = .ok (.ldc2_w 229, 3) := by decide +kernel
theorem dX6_runScript_62 : decode cX6_runScript 62 = .ok (.lrem, 1) := by decide +kernel
theorem dX6_runScript_63 : decode cX6_runScript 63 = .ok (.l2i, 1) := by decide +kernel
theorem dX6_runScript_64 : decode cX6_runScript 64 = .ok (.istore 5, 2) := by decide +kernel
theorem dX6_runScript_66 : decode cX6_runScript 66 = .ok (.aload_n 0, 1) := by decide +kernel
theorem dX6_runScript_67 : decode cX6_runScript 67 = .ok (.iload 5, 2) := by decide +kernel
theorem dX6_runScript_69 : decode cX6_runScript 69 = .ok (.invokevirtual 231, 3) := by decide +kernel
theorem dX6_runScript_72 : decode cX6_runScript 72 = .ok (.ifCond .ne 6, 3) := by decide +kernel
theorem dX6_runScript_75 : decode cX6_runScript 75 = .ok (.iload 4, 2) := by decide +kernel
theorem dX6_runScript_77 : decode cX6_runScript 77 = .ok (.ireturn, 1) := by decide +kernel
theorem dX6_runScript_78 : decode cX6_runScript 78 = .ok (.iinc 4 1, 3) := by decide +kernel
theorem dX6_runScript_81 : decode cX6_runScript 81 = .ok (.goto (-38), 3) := by decide +kernel
theorem dX6_runScript_84 : decode cX6_runScript 84 = .ok (.bipush (-9), 2) := by decide +kernel
theorem dX6_runScript_86 : decode cX6_runScript 86 = .ok (.ireturn, 1) := by decide +kernel
abbrev x_X6_runScript : Cx := (6, cX6_runScript, false, some (.int))
set_option maxRecDepth 10000 in
theorem g_X6_runScript_0 {E : Ev} {d : Nat} {G : Hp} {Q : Po} {x0 : Nat} {x1 : Int32} {x2 : Int64} (h : (if x1 < (iv 1) then Q (some (.int (iv (-2)))) G else (if (iv 4) < x1 then Q (some (.int (iv (-2)))) G else (if (lg_cmp x2 0) < 0 then Q (some (.int (iv (-2)))) G else (qCJ E d i_X6_withoutLastGroups [.long x2, .int x1] G fun v2 G1 => (if (lg_cmp v2 0) = 0 then (qFR E G1 x0 6 9 fun v3 => (qFR E G1 x0 6 1 fun v4 => (rcv E G1 v3 1 = true ∧ (qCV E d i_X1_become [.ref v3, .ref v4] G1 fun G5 => Xr E d x_X6_runScript 43 [some (.ref x0), some (.int x1), some (.long x2), none, some (.int ((iv 0))), none] [] G5 Q)))) else Q (some (.int (iv (-2)))) G1)))))) : Xr E d x_X6_runScript 0 [some (.ref x0), some (.int x1), some (.long x2), none, none, none] [] G Q := by
  refine r_iload_n dX6_runScript_0 rfl ?_
  refine r_iconst dX6_runScript_1 ?_
  refine r_clt (tgt := 26) dX6_runScript_2 (by decide) (ite_imp (fun h => ?_) (fun h => ?_) h)
  · refine r_bipush dX6_runScript_26 rfl ?_
    exact r_iret dX6_runScript_28 rfl ⟨rfl, h⟩
  · refine r_iload_n dX6_runScript_5 rfl ?_
    refine r_iconst dX6_runScript_6 ?_
    refine r_cgt (tgt := 26) dX6_runScript_7 (by decide) (ite_imp (fun h => ?_) (fun h => ?_) h)
    · refine r_bipush dX6_runScript_26 rfl ?_
      exact r_iret dX6_runScript_28 rfl ⟨rfl, h⟩
    · refine r_lload_n dX6_runScript_10 rfl ?_
      refine r_lconst (v := 0) dX6_runScript_11 rfl ?_
      refine r_lcmp dX6_runScript_12 ?_
      refine r_iflt (tgt := 26) dX6_runScript_13 (by decide) (ite_imp (fun h => ?_) (fun h => ?_) h)
      · refine r_bipush dX6_runScript_26 rfl ?_
        exact r_iret dX6_runScript_28 rfl ⟨rfl, h⟩
      · refine r_lload_n dX6_runScript_16 rfl ?_
        refine r_iload_n dX6_runScript_17 rfl ?_
        refine r_cJ dX6_runScript_18 rfl (invS_eq rfl (by decide) rfl rfl rfl rfl ⟨rfl, Nat.le_of_ble_eq_true rfl⟩) (qCJ_imp (fun v2 G1 h => ?_) h)
        refine r_lconst (v := 0) dX6_runScript_21 rfl ?_
        refine r_lcmp dX6_runScript_22 ?_
        refine r_ifeq (tgt := 29) dX6_runScript_23 (by decide) (ite_imp (fun h => ?_) (fun h => ?_) h)
        · refine r_aload_n dX6_runScript_29 rfl ?_
          refine r_getR dX6_runScript_30 rfl (qFR_imp (fun v3 h => ?_) h)
          refine r_aload_n dX6_runScript_33 rfl ?_
          refine r_getR dX6_runScript_34 rfl (qFR_imp (fun v4 h => ?_) h)
          refine r_cV dX6_runScript_37 rfl (invV_eq rfl rfl rfl rfl rfl rfl ⟨rfl, Nat.le_of_ble_eq_true rfl⟩ h.1) (qCV_imp (fun G5 h => ?_) h.2)
          refine r_iconst dX6_runScript_40 ?_
          refine r_istore dX6_runScript_41 rfl ?_
          exact h
        · refine r_bipush dX6_runScript_26 rfl ?_
          exact r_iret dX6_runScript_28 rfl ⟨rfl, h⟩
theorem e_X6_runScript {E : Ev} {d : Nat} {G : Hp} {Q : Po} {x0 : Nat} {x1 : Int32} {x2 : Int64} (h : (if x1 < (iv 1) then Q (some (.int (iv (-2)))) G else (if (iv 4) < x1 then Q (some (.int (iv (-2)))) G else (if (lg_cmp x2 0) < 0 then Q (some (.int (iv (-2)))) G else (qCJ E d i_X6_withoutLastGroups [.long x2, .int x1] G fun v2 G1 => (if (lg_cmp v2 0) = 0 then (qFR E G1 x0 6 9 fun v3 => (qFR E G1 x0 6 1 fun v4 => (rcv E G1 v3 1 = true ∧ (qCV E d i_X1_become [.ref v3, .ref v4] G1 fun G5 => Xr E d x_X6_runScript 43 [some (.ref x0), some (.int x1), some (.long x2), none, some (.int ((iv 0))), none] [] G5 Q)))) else Q (some (.int (iv (-2)))) G1)))))) : runs E (d + 1) i_X6_runScript [.ref x0, .int x1, .long x2] G Q := by
  rw [runs_eq (m := (yX6_runScript, cX6_runScript, 6, some (.int), 2, 6, false, false)) rfl (Nat.le_of_ble_eq_true rfl)]
  exact g_X6_runScript_0 h
set_option maxRecDepth 10000 in
theorem g_X6_runScript_43 {E : Ev} {d : Nat} {G : Hp} {Q : Po} {x0 : Nat} {x1 : Int32} {x2 : Int64} {x4 : Int32} {l5 : Option Value} (h : (if x1 ≤ x4 then Q (some (.int (iv (-9)))) G else (qCJ E d i_X6_withoutLastGroups [.long x2, .int (((x1 - (iv 1)) - x4))] G fun v2 G1 => (rcv E G1 x0 6 = true ∧ (qCI E d i_X6_commandSucceeds [.ref x0, .int ((((v2 - v2 / 10000 * 10000)).toInt32))] G1 fun v4 G3 => (if ¬ v4 = 0 then Xr E d x_X6_runScript 43 [some (.ref x0), some (.int x1), some (.long x2), none, some (.int ((x4 + (iv 1)))), some (.int ((((v2 - v2 / 10000 * 10000)).toInt32)))] [] G3 Q else Q (some (.int x4)) G3)))))) : Xr E d x_X6_runScript 43 [some (.ref x0), some (.int x1), some (.long x2), none, some (.int x4), l5] [] G Q := by
  refine r_iload dX6_runScript_43 rfl ?_
  refine r_iload_n dX6_runScript_45 rfl ?_
  refine r_cge (tgt := 84) dX6_runScript_46 (by decide) (ite_imp (fun h => ?_) (fun h => ?_) h)
  · refine r_bipush dX6_runScript_84 rfl ?_
    exact r_iret dX6_runScript_86 rfl ⟨rfl, h⟩
  · refine r_lload_n dX6_runScript_49 rfl ?_
    refine r_iload_n dX6_runScript_50 rfl ?_
    refine r_iconst dX6_runScript_51 ?_
    refine r_isub dX6_runScript_52 ?_
    refine r_iload dX6_runScript_53 rfl ?_
    refine r_isub dX6_runScript_55 ?_
    refine r_cJ dX6_runScript_56 rfl (invS_eq rfl (by decide) rfl rfl rfl rfl ⟨rfl, Nat.le_of_ble_eq_true rfl⟩) (qCJ_imp (fun v2 G1 h => ?_) h)
    refine r_ldc2 dX6_runScript_59 rfl ?_
    refine r_lrem dX6_runScript_62 ⟨by decide, ?_⟩
    refine r_l2i dX6_runScript_63 ?_
    refine r_istore dX6_runScript_64 rfl ?_
    refine r_aload_n dX6_runScript_66 rfl ?_
    refine r_iload dX6_runScript_67 rfl ?_
    refine r_cI dX6_runScript_69 rfl (invV_eq rfl rfl rfl rfl rfl rfl ⟨rfl, Nat.le_of_ble_eq_true rfl⟩ h.1) (qCI_imp (fun v4 G3 h => ?_) h.2)
    refine r_ifne (tgt := 78) dX6_runScript_72 (by decide) (ite_imp (fun h => ?_) (fun h => ?_) h)
    · refine r_iinc dX6_runScript_78 rfl rfl ?_
      refine r_goto (tgt := 43) dX6_runScript_81 (by decide) ?_
      exact h
    · refine r_iload dX6_runScript_75 rfl ?_
      exact r_iret dX6_runScript_77 rfl ⟨rfl, h⟩
theorem dX6_descend_0 : decode cX6_descend 0 = .ok (.iload_n 3, 1) := by decide +kernel
theorem dX6_descend_1 : decode cX6_descend 1 = .ok (.iconst 1, 1) := by decide +kernel
theorem dX6_descend_2 : decode cX6_descend 2 = .ok (.if_icmp .lt 9, 3) := by decide +kernel
theorem dX6_descend_5 : decode cX6_descend 5 = .ok (.iload_n 3, 1) := by decide +kernel
theorem dX6_descend_6 : decode cX6_descend 6 = .ok (.bipush 30, 2) := by decide +kernel
theorem dX6_descend_8 : decode cX6_descend 8 = .ok (.if_icmp .le 6, 3) := by decide +kernel
theorem dX6_descend_11 : decode cX6_descend 11 = .ok (.bipush (-2), 2) := by decide +kernel
theorem dX6_descend_13 : decode cX6_descend 13 = .ok (.ireturn, 1) := by decide +kernel
theorem dX6_descend_14 : decode cX6_descend 14 = .ok (.aload_n 0, 1) := by decide +kernel
theorem dX6_descend_15 : decode cX6_descend 15 = .ok (.getfield 28, 3) := by decide +kernel
theorem dX6_descend_18 : decode cX6_descend 18 = .ok (.invokevirtual 173, 3) := by decide +kernel
theorem dX6_descend_21 : decode cX6_descend 21 = .ok (.pop, 1) := by decide +kernel
theorem dX6_descend_22 : decode cX6_descend 22 = .ok (.lload_n 1, 1) := by decide +kernel
theorem dX6_descend_23 : decode cX6_descend 23 = .ok (.lstore 4, 2) := by decide +kernel
theorem dX6_descend_25 : decode cX6_descend 25 = .ok (.iconst 0, 1) := by decide +kernel
theorem dX6_descend_26 : decode cX6_descend 26 = .ok (.istore 6, 2) := by decide +kernel
theorem dX6_descend_28 : decode cX6_descend 28 = .ok (.iconst 0, 1) := by decide +kernel
theorem dX6_descend_29 : decode cX6_descend 29 = .ok (.istore 7, 2) := by decide +kernel
theorem dX6_descend_31 : decode cX6_descend 31 = .ok (.iload 7, 2) := by decide +kernel
theorem dX6_descend_33 : decode cX6_descend 33 = .ok (.iload_n 3, 1) := by decide +kernel
theorem dX6_descend_34 : decode cX6_descend 34 = .ok (.if_icmp .ge 80, 3) := by decide +kernel
theorem dX6_descend_37 : decode cX6_descend 37 = .ok (.iconst 1, 1) := by decide +kernel
theorem dX6_descend_38 : decode cX6_descend 38 = .ok (.istore 8, 2) := by decide +kernel
theorem dX6_descend_40 : decode cX6_descend 40 = .ok (.iconst 0, 1) := by decide +kernel
theorem dX6_descend_41 : decode cX6_descend 41 = .ok (.istore 9, 2) := by decide +kernel
theorem dX6_descend_43 : decode cX6_descend 43 = .ok (.iload 9, 2) := by decide +kernel
theorem dX6_descend_45 : decode cX6_descend 45 = .ok (.bipush 6, 2) := by decide +kernel
theorem dX6_descend_47 : decode cX6_descend 47 = .ok (.if_icmp .ge 61, 3) := by decide +kernel
theorem dX6_descend_50 : decode cX6_descend 50 = .ok (.aload_n 0, 1) := by decide +kernel
theorem dX6_descend_51 : decode cX6_descend 51 = .ok (.getfield 28, 3) := by decide +kernel
theorem dX6_descend_54 : decode cX6_descend 54 = .ok (.iload 8, 2) := by decide +kernel
theorem dX6_descend_56 : decode cX6_descend 56 = .ok (.invokevirtual 234, 3) := by decide +kernel
theorem dX6_descend_59 : decode cX6_descend 59 = .ok (.istore 10, 2) := by decide +kernel
theorem dX6_descend_61 : decode cX6_descend 61 = .ok (.iload 10, 2) := by decide +kernel
theorem dX6_descend_63 : decode cX6_descend 63 = .ok (.ifCond .gt 6, 3) := by decide +kernel
theorem dX6_descend_66 : decode cX6_descend 66 = .ok (.goto 42, 3) := by decide +kernel
theorem dX6_descend_69 : decode cX6_descend 69 = .ok (.lload 4, 2) := by decide +kernel
theorem dX6_descend_71 : decode cX6_descend 71 = .ok (.ldc2_w 237, 3) := by decide +kernel
theorem dX6_descend_74 : decode cX6_descend 74 = .ok (.lmul, 1) := by decide +kernel
theorem dX6_descend_75 : decode cX6_descend 75 = .ok (.ldc2_w 239, 3) := by decide +kernel
theorem dX6_descend_78 : decode cX6_descend 78 = .ok (.ladd, 1) := by decide +kernel
theorem dX6_descend_79 : decode cX6_descend 79 = .ok (.lstore 4, 2) := by decide +kernel
theorem dX6_descend_81 : decode cX6_descend 81 = .ok (.iload 8, 2) := by decide +kernel
theorem dX6_descend_83 : decode cX6_descend 83 = .ok (.iconst 1, 1) := by decide +kernel
theorem dX6_descend_84 : decode cX6_descend 84 = .ok (.lload 4, 2) := by decide +kernel
theorem dX6_descend_86 : decode cX6_descend 86 = .ok (.bipush 33, 2) := by decide +kernel
theorem dX6_descend_88 : decode cX6_descend 88 = .ok (.lushr, 1) := by decide +kernel
theorem dX6_descend_89 : decode cX6_descend 89 = .ok (.l2i, 1) := by decide +kernel
theorem dX6_descend_90 : decode cX6_descend 90 = .ok (.iload 10, 2) := by decide +kernel
theorem dX6_descend_92 : decode cX6_descend 92 = .ok (.irem, 1) := by decide +kernel
theorem dX6_descend_93 : decode cX6_descend 93 = .ok (.iadd, 1) := by decide +kernel
theorem dX6_descend_94 : decode cX6_descend 94 = .ok (.invokestatic 241, 3) := by decide +kernel
theorem dX6_descend_97 : decode cX6_descend 97 = .ok (.istore 8, 2) := by decide +kernel
theorem dX6_descend_99 : decode cX6_descend 99 = .ok (.iinc 6 1, 3) := by decide +kernel
theorem dX6_descend_102 : decode cX6_descend 102 = .ok (.iinc 9 1, 3) := by decide +kernel
theorem dX6_descend_105 : decode cX6_descend 105 = .ok (.goto (-62), 3) := by decide +kernel
theorem dX6_descend_108 : decode cX6_descend 108 = .ok (.iinc 7 1, 3) := by decide +kernel
theorem dX6_descend_111 : decode cX6_descend 111 = .ok (.goto (-80), 3) := by decide +kernel
theorem dX6_descend_114 : decode cX6_descend 114 = .ok (.iload 6, 2) := by decide +kernel
theorem dX6_descend_116 : decode cX6_descend 116 = .ok (.ireturn, 1) := by decide +kernel
abbrev x_X6_descend : Cx := (6, cX6_descend, false, some (.int))
set_option maxRecDepth 10000 in
theorem g_X6_descend_0 {E : Ev} {d : Nat} {G : Hp} {Q : Po} {x0 : Nat} {x1 : Int64} {x3 : Int32} (h : (if x3 < (iv 1) then Q (some (.int (iv (-2)))) G else (if x3 ≤ (iv 30) then (qFR E G x0 6 2 fun v1 => (rcv E G v1 4 = true ∧ (qCR E d i_X4_upToDate [.ref v1] G fun v3 G2 => Xr E d x_X6_descend 31 [some (.ref x0), some (.long x1), none, some (.int x3), some (.long x1), none, some (.int ((iv 0))), some (.int ((iv 0))), none, none, none] [] G2 Q))) else Q (some (.int (iv (-2)))) G))) : Xr E d x_X6_descend 0 [some (.ref x0), some (.long x1), none, some (.int x3), none, none, none, none, none, none, none] [] G Q := by
  refine r_iload_n dX6_descend_0 rfl ?_
  refine r_iconst dX6_descend_1 ?_
  refine r_clt (tgt := 11) dX6_descend_2 (by decide) (ite_imp (fun h => ?_) (fun h => ?_) h)
  · refine r_bipush dX6_descend_11 rfl ?_
    exact r_iret dX6_descend_13 rfl ⟨rfl, h⟩
  · refine r_iload_n dX6_descend_5 rfl ?_
    refine r_bipush dX6_descend_6 rfl ?_
    refine r_cle (tgt := 14) dX6_descend_8 (by decide) (ite_imp (fun h => ?_) (fun h => ?_) h)
    · refine r_aload_n dX6_descend_14 rfl ?_
      refine r_getR dX6_descend_15 rfl (qFR_imp (fun v1 h => ?_) h)
      refine r_cR dX6_descend_18 rfl (invV_eq rfl rfl rfl rfl rfl rfl ⟨rfl, Nat.le_of_ble_eq_true rfl⟩ h.1) (qCR_imp (fun v3 G2 h => ?_) h.2)
      refine r_pop dX6_descend_21 rfl ?_
      refine r_lload_n dX6_descend_22 rfl ?_
      refine r_lstore dX6_descend_23 rfl ?_
      refine r_iconst dX6_descend_25 ?_
      refine r_istore dX6_descend_26 rfl ?_
      refine r_iconst dX6_descend_28 ?_
      refine r_istore dX6_descend_29 rfl ?_
      exact h
    · refine r_bipush dX6_descend_11 rfl ?_
      exact r_iret dX6_descend_13 rfl ⟨rfl, h⟩
theorem e_X6_descend {E : Ev} {d : Nat} {G : Hp} {Q : Po} {x0 : Nat} {x1 : Int64} {x3 : Int32} (h : (if x3 < (iv 1) then Q (some (.int (iv (-2)))) G else (if x3 ≤ (iv 30) then (qFR E G x0 6 2 fun v1 => (rcv E G v1 4 = true ∧ (qCR E d i_X4_upToDate [.ref v1] G fun v3 G2 => Xr E d x_X6_descend 31 [some (.ref x0), some (.long x1), none, some (.int x3), some (.long x1), none, some (.int ((iv 0))), some (.int ((iv 0))), none, none, none] [] G2 Q))) else Q (some (.int (iv (-2)))) G))) : runs E (d + 1) i_X6_descend [.ref x0, .long x1, .int x3] G Q := by
  rw [runs_eq (m := (yX6_descend, cX6_descend, 11, some (.int), 2, 6, false, false)) rfl (Nat.le_of_ble_eq_true rfl)]
  exact g_X6_descend_0 h
set_option maxRecDepth 10000 in
theorem g_X6_descend_31 {E : Ev} {d : Nat} {G : Hp} {Q : Po} {x0 : Nat} {x1 : Int64} {x3 : Int32} {x4 : Int64} {x6 : Int32} {x7 : Int32} {l8 : Option Value} {l9 : Option Value} {l10 : Option Value} (h : (if x3 ≤ x7 then Q (some (.int x6)) G else Xr E d x_X6_descend 43 [some (.ref x0), some (.long x1), none, some (.int x3), some (.long x4), none, some (.int x6), some (.int x7), some (.int ((iv 1))), some (.int ((iv 0))), l10] [] G Q)) : Xr E d x_X6_descend 31 [some (.ref x0), some (.long x1), none, some (.int x3), some (.long x4), none, some (.int x6), some (.int x7), l8, l9, l10] [] G Q := by
  refine r_iload dX6_descend_31 rfl ?_
  refine r_iload_n dX6_descend_33 rfl ?_
  refine r_cge (tgt := 114) dX6_descend_34 (by decide) (ite_imp (fun h => ?_) (fun h => ?_) h)
  · refine r_iload dX6_descend_114 rfl ?_
    exact r_iret dX6_descend_116 rfl ⟨rfl, h⟩
  · refine r_iconst dX6_descend_37 ?_
    refine r_istore dX6_descend_38 rfl ?_
    refine r_iconst dX6_descend_40 ?_
    refine r_istore dX6_descend_41 rfl ?_
    exact h
set_option maxRecDepth 10000 in
theorem g_X6_descend_43 {E : Ev} {d : Nat} {G : Hp} {Q : Po} {x0 : Nat} {x1 : Int64} {x3 : Int32} {x4 : Int64} {x6 : Int32} {x7 : Int32} {x8 : Int32} {x9 : Int32} {l10 : Option Value} (h : (if (iv 6) ≤ x9 then Xr E d x_X6_descend 31 [some (.ref x0), some (.long x1), none, some (.int x3), some (.long x4), none, some (.int x6), some (.int ((x7 + (iv 1)))), some (.int x8), some (.int x9), l10] [] G Q else (qFR E G x0 6 2 fun v1 => (rcv E G v1 4 = true ∧ (qCI E d i_X4_childCount [.ref v1, .int x8] G fun v3 G2 => (if 0 < v3 then (¬ v3 = 0 ∧ (qCI E d i_X6_childOf [.int x8, .int (((iv 1) + ((((((((x4 * 6364136223846793005) + 1442695040888963407)).toUInt64 >>> (((iv 33)).toInt64.toUInt64 &&& Int64.toUInt64 63)).toInt64)).toInt32) - (((((((x4 * 6364136223846793005) + 1442695040888963407)).toUInt64 >>> (((iv 33)).toInt64.toUInt64 &&& Int64.toUInt64 63)).toInt64)).toInt32) / v3 * v3)))] G2 fun v5 G4 => Xr E d x_X6_descend 43 [some (.ref x0), some (.long x1), none, some (.int x3), some (.long (((x4 * 6364136223846793005) + 1442695040888963407))), none, some (.int ((x6 + (iv 1)))), some (.int x7), some (.int v5), some (.int ((x9 + (iv 1)))), some (.int v3)] [] G4 Q)) else Xr E d x_X6_descend 31 [some (.ref x0), some (.long x1), none, some (.int x3), some (.long x4), none, some (.int x6), some (.int ((x7 + (iv 1)))), some (.int x8), some (.int x9), some (.int v3)] [] G2 Q)))))) : Xr E d x_X6_descend 43 [some (.ref x0), some (.long x1), none, some (.int x3), some (.long x4), none, some (.int x6), some (.int x7), some (.int x8), some (.int x9), l10] [] G Q := by
  refine r_iload dX6_descend_43 rfl ?_
  refine r_bipush dX6_descend_45 rfl ?_
  refine r_cge (tgt := 108) dX6_descend_47 (by decide) (ite_imp (fun h => ?_) (fun h => ?_) h)
  · refine r_iinc dX6_descend_108 rfl rfl ?_
    refine r_goto (tgt := 31) dX6_descend_111 (by decide) ?_
    exact h
  · refine r_aload_n dX6_descend_50 rfl ?_
    refine r_getR dX6_descend_51 rfl (qFR_imp (fun v1 h => ?_) h)
    refine r_iload dX6_descend_54 rfl ?_
    refine r_cI dX6_descend_56 rfl (invV_eq rfl rfl rfl rfl rfl rfl ⟨rfl, Nat.le_of_ble_eq_true rfl⟩ h.1) (qCI_imp (fun v3 G2 h => ?_) h.2)
    refine r_istore dX6_descend_59 rfl ?_
    refine r_iload dX6_descend_61 rfl ?_
    refine r_ifgt (tgt := 69) dX6_descend_63 (by decide) (ite_imp (fun h => ?_) (fun h => ?_) h)
    · refine r_lload dX6_descend_69 rfl ?_
      refine r_ldc2 dX6_descend_71 rfl ?_
      refine r_lmul dX6_descend_74 ?_
      refine r_ldc2 dX6_descend_75 rfl ?_
      refine r_ladd dX6_descend_78 ?_
      refine r_lstore dX6_descend_79 rfl ?_
      refine r_iload dX6_descend_81 rfl ?_
      refine r_iconst dX6_descend_83 ?_
      refine r_lload dX6_descend_84 rfl ?_
      refine r_bipush dX6_descend_86 rfl ?_
      refine r_lushr dX6_descend_88 ?_
      refine r_l2i dX6_descend_89 ?_
      refine r_iload dX6_descend_90 rfl ?_
      refine r_irem dX6_descend_92 ⟨h.1, ?_⟩
      replace h := h.2
      refine r_iadd dX6_descend_93 ?_
      refine r_cI dX6_descend_94 rfl (invS_eq rfl (by decide) rfl rfl rfl rfl ⟨rfl, Nat.le_of_ble_eq_true rfl⟩) (qCI_imp (fun v5 G4 h => ?_) h)
      refine r_istore dX6_descend_97 rfl ?_
      refine r_iinc dX6_descend_99 rfl rfl ?_
      refine r_iinc dX6_descend_102 rfl rfl ?_
      refine r_goto (tgt := 43) dX6_descend_105 (by decide) ?_
      exact h
    · refine r_goto (tgt := 108) dX6_descend_66 (by decide) ?_
      refine r_iinc dX6_descend_108 rfl rfl ?_
      refine r_goto (tgt := 31) dX6_descend_111 (by decide) ?_
      exact h
theorem dX6_save_0 : decode cX6_save 0 = .ok (.iload_n 1, 1) := by decide +kernel
theorem dX6_save_1 : decode cX6_save 1 = .ok (.ifCond .lt 8, 3) := by decide +kernel
theorem dX6_save_4 : decode cX6_save 4 = .ok (.iload_n 1, 1) := by decide +kernel
theorem dX6_save_5 : decode cX6_save 5 = .ok (.iconst 2, 1) := by decide +kernel
theorem dX6_save_6 : decode cX6_save 6 = .ok (.if_icmp .lt 5, 3) := by decide +kernel
theorem dX6_save_9 : decode cX6_save 9 = .ok (.iconst (-1), 1) := by decide +kernel
theorem dX6_save_10 : decode cX6_save 10 = .ok (.ireturn, 1) := by decide +kernel
theorem dX6_save_11 : decode cX6_save 11 = .ok (.aload_n 0, 1) := by decide +kernel
theorem dX6_save_12 : decode cX6_save 12 = .ok (.getfield 46, 3) := by decide +kernel
theorem dX6_save_15 : decode cX6_save 15 = .ok (.iload_n 1, 1) := by decide +kernel
theorem dX6_save_16 : decode cX6_save 16 = .ok (.aaload, 1) := by decide +kernel
theorem dX6_save_17 : decode cX6_save 17 = .ok (.aload_n 0, 1) := by decide +kernel
theorem dX6_save_18 : decode cX6_save 18 = .ok (.getfield 19, 3) := by decide +kernel
theorem dX6_save_21 : decode cX6_save 21 = .ok (.invokevirtual 87, 3) := by decide +kernel
theorem dX6_save_24 : decode cX6_save 24 = .ok (.aload_n 0, 1) := by decide +kernel
theorem dX6_save_25 : decode cX6_save 25 = .ok (.getfield 50, 3) := by decide +kernel
theorem dX6_save_28 : decode cX6_save 28 = .ok (.iload_n 1, 1) := by decide +kernel
theorem dX6_save_29 : decode cX6_save 29 = .ok (.iconst 1, 1) := by decide +kernel
theorem dX6_save_30 : decode cX6_save 30 = .ok (.bastore, 1) := by decide +kernel
theorem dX6_save_31 : decode cX6_save 31 = .ok (.aload_n 0, 1) := by decide +kernel
theorem dX6_save_32 : decode cX6_save 32 = .ok (.getfield 19, 3) := by decide +kernel
theorem dX6_save_35 : decode cX6_save 35 = .ok (.invokevirtual 93, 3) := by decide +kernel
theorem dX6_save_38 : decode cX6_save 38 = .ok (.ireturn, 1) := by decide +kernel
abbrev x_X6_save : Cx := (6, cX6_save, false, some (.int))
set_option maxRecDepth 10000 in
theorem g_X6_save_0 {E : Ev} {d : Nat} {G : Hp} {Q : Po} {x0 : Nat} {x1 : Int32} (h : (if x1 < 0 then Q (some (.int (iv (-1)))) G else (if x1 < (iv 2) then (qFR E G x0 6 5 fun v1 => (qRA E G v1 x1 fun v2 => (qFR E G x0 6 1 fun v3 => (rcv E G v2 1 = true ∧ (qCV E d i_X1_become [.ref v2, .ref v3] G fun G4 => (qFR E G4 x0 6 6 fun v5 => (qBS E G4 v5 x1 (iv 1) fun G6 => (qFR E G6 x0 6 1 fun v7 => (rcv E G6 v7 1 = true ∧ (qCI E d i_X1_transitionCount [.ref v7] G6 fun v9 G8 => Q (some (.int v9)) G8)))))))))) else Q (some (.int (iv (-1)))) G))) : Xr E d x_X6_save 0 [some (.ref x0), some (.int x1)] [] G Q := by
  refine r_iload_n dX6_save_0 rfl ?_
  refine r_iflt (tgt := 9) dX6_save_1 (by decide) (ite_imp (fun h => ?_) (fun h => ?_) h)
  · refine r_iconst dX6_save_9 ?_
    exact r_iret dX6_save_10 rfl ⟨rfl, h⟩
  · refine r_iload_n dX6_save_4 rfl ?_
    refine r_iconst dX6_save_5 ?_
    refine r_clt (tgt := 11) dX6_save_6 (by decide) (ite_imp (fun h => ?_) (fun h => ?_) h)
    · refine r_aload_n dX6_save_11 rfl ?_
      refine r_getR dX6_save_12 rfl (qFR_imp (fun v1 h => ?_) h)
      refine r_iload_n dX6_save_15 rfl ?_
      refine r_aald dX6_save_16 (qRA_imp (fun v2 h => ?_) h)
      refine r_aload_n dX6_save_17 rfl ?_
      refine r_getR dX6_save_18 rfl (qFR_imp (fun v3 h => ?_) h)
      refine r_cV dX6_save_21 rfl (invV_eq rfl rfl rfl rfl rfl rfl ⟨rfl, Nat.le_of_ble_eq_true rfl⟩ h.1) (qCV_imp (fun G4 h => ?_) h.2)
      refine r_aload_n dX6_save_24 rfl ?_
      refine r_getR dX6_save_25 rfl (qFR_imp (fun v5 h => ?_) h)
      refine r_iload_n dX6_save_28 rfl ?_
      refine r_iconst dX6_save_29 ?_
      refine r_bast dX6_save_30 (qBS_imp (fun G6 h => ?_) h)
      refine r_aload_n dX6_save_31 rfl ?_
      refine r_getR dX6_save_32 rfl (qFR_imp (fun v7 h => ?_) h)
      refine r_cI dX6_save_35 rfl (invV_eq rfl rfl rfl rfl rfl rfl ⟨rfl, Nat.le_of_ble_eq_true rfl⟩ h.1) (qCI_imp (fun v9 G8 h => ?_) h.2)
      exact r_iret dX6_save_38 rfl ⟨rfl, h⟩
    · refine r_iconst dX6_save_9 ?_
      exact r_iret dX6_save_10 rfl ⟨rfl, h⟩
theorem e_X6_save {E : Ev} {d : Nat} {G : Hp} {Q : Po} {x0 : Nat} {x1 : Int32} (h : (if x1 < 0 then Q (some (.int (iv (-1)))) G else (if x1 < (iv 2) then (qFR E G x0 6 5 fun v1 => (qRA E G v1 x1 fun v2 => (qFR E G x0 6 1 fun v3 => (rcv E G v2 1 = true ∧ (qCV E d i_X1_become [.ref v2, .ref v3] G fun G4 => (qFR E G4 x0 6 6 fun v5 => (qBS E G4 v5 x1 (iv 1) fun G6 => (qFR E G6 x0 6 1 fun v7 => (rcv E G6 v7 1 = true ∧ (qCI E d i_X1_transitionCount [.ref v7] G6 fun v9 G8 => Q (some (.int v9)) G8)))))))))) else Q (some (.int (iv (-1)))) G))) : runs E (d + 1) i_X6_save [.ref x0, .int x1] G Q := by
  rw [runs_eq (m := (yX6_save, cX6_save, 2, some (.int), 1, 6, false, false)) rfl (Nat.le_of_ble_eq_true rfl)]
  exact g_X6_save_0 h
theorem dX6_restore_0 : decode cX6_restore 0 = .ok (.iload_n 1, 1) := by decide +kernel
theorem dX6_restore_1 : decode cX6_restore 1 = .ok (.ifCond .lt 8, 3) := by decide +kernel
theorem dX6_restore_4 : decode cX6_restore 4 = .ok (.iload_n 1, 1) := by decide +kernel
theorem dX6_restore_5 : decode cX6_restore 5 = .ok (.iconst 2, 1) := by decide +kernel
theorem dX6_restore_6 : decode cX6_restore 6 = .ok (.if_icmp .lt 5, 3) := by decide +kernel
theorem dX6_restore_9 : decode cX6_restore 9 = .ok (.iconst (-1), 1) := by decide +kernel
theorem dX6_restore_10 : decode cX6_restore 10 = .ok (.ireturn, 1) := by decide +kernel
theorem dX6_restore_11 : decode cX6_restore 11 = .ok (.aload_n 0, 1) := by decide +kernel
theorem dX6_restore_12 : decode cX6_restore 12 = .ok (.getfield 50, 3) := by decide +kernel
theorem dX6_restore_15 : decode cX6_restore 15 = .ok (.iload_n 1, 1) := by decide +kernel
theorem dX6_restore_16 : decode cX6_restore 16 = .ok (.baload, 1) := by decide +kernel
theorem dX6_restore_17 : decode cX6_restore 17 = .ok (.ifCond .ne 6, 3) := by decide +kernel
theorem dX6_restore_20 : decode cX6_restore 20 = .ok (.bipush (-3), 2) := by decide +kernel
theorem dX6_restore_22 : decode cX6_restore 22 = .ok (.ireturn, 1) := by decide +kernel
theorem dX6_restore_23 : decode cX6_restore 23 = .ok (.aload_n 0, 1) := by decide +kernel
theorem dX6_restore_24 : decode cX6_restore 24 = .ok (.getfield 19, 3) := by decide +kernel
theorem dX6_restore_27 : decode cX6_restore 27 = .ok (.aload_n 0, 1) := by decide +kernel
theorem dX6_restore_28 : decode cX6_restore 28 = .ok (.getfield 46, 3) := by decide +kernel
theorem dX6_restore_31 : decode cX6_restore 31 = .ok (.iload_n 1, 1) := by decide +kernel
theorem dX6_restore_32 : decode cX6_restore 32 = .ok (.aaload, 1) := by decide +kernel
theorem dX6_restore_33 : decode cX6_restore 33 = .ok (.invokevirtual 87, 3) := by decide +kernel
theorem dX6_restore_36 : decode cX6_restore 36 = .ok (.aload_n 0, 1) := by decide +kernel
theorem dX6_restore_37 : decode cX6_restore 37 = .ok (.getfield 42, 3) := by decide +kernel
theorem dX6_restore_40 : decode cX6_restore 40 = .ok (.invokevirtual 90, 3) := by decide +kernel
theorem dX6_restore_43 : decode cX6_restore 43 = .ok (.aload_n 0, 1) := by decide +kernel
theorem dX6_restore_44 : decode cX6_restore 44 = .ok (.getfield 19, 3) := by decide +kernel
theorem dX6_restore_47 : decode cX6_restore 47 = .ok (.invokevirtual 93, 3) := by decide +kernel
theorem dX6_restore_50 : decode cX6_restore 50 = .ok (.ireturn, 1) := by decide +kernel
abbrev x_X6_restore : Cx := (6, cX6_restore, false, some (.int))
set_option maxRecDepth 10000 in
theorem g_X6_restore_0 {E : Ev} {d : Nat} {G : Hp} {Q : Po} {x0 : Nat} {x1 : Int32} (h : (if x1 < 0 then Q (some (.int (iv (-1)))) G else (if x1 < (iv 2) then (qFR E G x0 6 6 fun v1 => (qBA E G v1 x1 fun v2 => (if ¬ v2 = 0 then (qFR E G x0 6 1 fun v3 => (qFR E G x0 6 5 fun v4 => (qRA E G v4 x1 fun v5 => (rcv E G v3 1 = true ∧ (qCV E d i_X1_become [.ref v3, .ref v5] G fun G6 => (qFR E G6 x0 6 4 fun v7 => (rcv E G6 v7 0 = true ∧ (qCV E d i_X0_forget [.ref v7] G6 fun G8 => (qFR E G8 x0 6 1 fun v9 => (rcv E G8 v9 1 = true ∧ (qCI E d i_X1_transitionCount [.ref v9] G8 fun v11 G10 => Q (some (.int v11)) G10))))))))))) else Q (some (.int (iv (-3)))) G))) else Q (some (.int (iv (-1)))) G))) : Xr E d x_X6_restore 0 [some (.ref x0), some (.int x1)] [] G Q := by
  refine r_iload_n dX6_restore_0 rfl ?_
  refine r_iflt (tgt := 9) dX6_restore_1 (by decide) (ite_imp (fun h => ?_) (fun h => ?_) h)
  · refine r_iconst dX6_restore_9 ?_
    exact r_iret dX6_restore_10 rfl ⟨rfl, h⟩
  · refine r_iload_n dX6_restore_4 rfl ?_
    refine r_iconst dX6_restore_5 ?_
    refine r_clt (tgt := 11) dX6_restore_6 (by decide) (ite_imp (fun h => ?_) (fun h => ?_) h)
    · refine r_aload_n dX6_restore_11 rfl ?_
      refine r_getR dX6_restore_12 rfl (qFR_imp (fun v1 h => ?_) h)
      refine r_iload_n dX6_restore_15 rfl ?_
      refine r_bald dX6_restore_16 (qBA_imp (fun v2 h => ?_) h)
      refine r_ifne (tgt := 23) dX6_restore_17 (by decide) (ite_imp (fun h => ?_) (fun h => ?_) h)
      · refine r_aload_n dX6_restore_23 rfl ?_
        refine r_getR dX6_restore_24 rfl (qFR_imp (fun v3 h => ?_) h)
        refine r_aload_n dX6_restore_27 rfl ?_
        refine r_getR dX6_restore_28 rfl (qFR_imp (fun v4 h => ?_) h)
        refine r_iload_n dX6_restore_31 rfl ?_
        refine r_aald dX6_restore_32 (qRA_imp (fun v5 h => ?_) h)
        refine r_cV dX6_restore_33 rfl (invV_eq rfl rfl rfl rfl rfl rfl ⟨rfl, Nat.le_of_ble_eq_true rfl⟩ h.1) (qCV_imp (fun G6 h => ?_) h.2)
        refine r_aload_n dX6_restore_36 rfl ?_
        refine r_getR dX6_restore_37 rfl (qFR_imp (fun v7 h => ?_) h)
        refine r_cV dX6_restore_40 rfl (invV_eq rfl rfl rfl rfl rfl rfl ⟨rfl, Nat.le_of_ble_eq_true rfl⟩ h.1) (qCV_imp (fun G8 h => ?_) h.2)
        refine r_aload_n dX6_restore_43 rfl ?_
        refine r_getR dX6_restore_44 rfl (qFR_imp (fun v9 h => ?_) h)
        refine r_cI dX6_restore_47 rfl (invV_eq rfl rfl rfl rfl rfl rfl ⟨rfl, Nat.le_of_ble_eq_true rfl⟩ h.1) (qCI_imp (fun v11 G10 h => ?_) h.2)
        exact r_iret dX6_restore_50 rfl ⟨rfl, h⟩
      · refine r_bipush dX6_restore_20 rfl ?_
        exact r_iret dX6_restore_22 rfl ⟨rfl, h⟩
    · refine r_iconst dX6_restore_9 ?_
      exact r_iret dX6_restore_10 rfl ⟨rfl, h⟩
theorem e_X6_restore {E : Ev} {d : Nat} {G : Hp} {Q : Po} {x0 : Nat} {x1 : Int32} (h : (if x1 < 0 then Q (some (.int (iv (-1)))) G else (if x1 < (iv 2) then (qFR E G x0 6 6 fun v1 => (qBA E G v1 x1 fun v2 => (if ¬ v2 = 0 then (qFR E G x0 6 1 fun v3 => (qFR E G x0 6 5 fun v4 => (qRA E G v4 x1 fun v5 => (rcv E G v3 1 = true ∧ (qCV E d i_X1_become [.ref v3, .ref v5] G fun G6 => (qFR E G6 x0 6 4 fun v7 => (rcv E G6 v7 0 = true ∧ (qCV E d i_X0_forget [.ref v7] G6 fun G8 => (qFR E G8 x0 6 1 fun v9 => (rcv E G8 v9 1 = true ∧ (qCI E d i_X1_transitionCount [.ref v9] G8 fun v11 G10 => Q (some (.int v11)) G10))))))))))) else Q (some (.int (iv (-3)))) G))) else Q (some (.int (iv (-1)))) G))) : runs E (d + 1) i_X6_restore [.ref x0, .int x1] G Q := by
  rw [runs_eq (m := (yX6_restore, cX6_restore, 2, some (.int), 1, 6, false, false)) rfl (Nat.le_of_ble_eq_true rfl)]
  exact g_X6_restore_0 h
theorem dX6_withoutLastGroups_0 : decode cX6_withoutLastGroups 0 = .ok (.lload_n 0, 1) := by decide +kernel
theorem dX6_withoutLastGroups_1 : decode cX6_withoutLastGroups 1 = .ok (.lstore_n 3, 1) := by decide +kernel
theorem dX6_withoutLastGroups_2 : decode cX6_withoutLastGroups 2 = .ok (.iconst 0, 1) := by decide +kernel
theorem dX6_withoutLastGroups_3 : decode cX6_withoutLastGroups 3 = .ok (.istore 5, 2) := by decide +kernel
theorem dX6_withoutLastGroups_5 : decode cX6_withoutLastGroups 5 = .ok (.iload 5, 2) := by decide +kernel
theorem dX6_withoutLastGroups_7 : decode cX6_withoutLastGroups 7 = .ok (.iload_n 2, 1) := by decide +kernel
theorem dX6_withoutLastGroups_8 : decode cX6_withoutLastGroups 8 = .ok (.if_icmp .ge 15, 3) := by decide +kernel
theorem dX6_withoutLastGroups_11 : decode cX6_withoutLastGroups 11 = .ok (.lload_n 3, 1) := by decide +kernel
theorem dX6_withoutLastGroups_12 : decode cX6_withoutLastGroups 12 = .ok (.ldc2_w 229, 3) := by decide +kernel
theorem dX6_withoutLastGroups_15 : decode cX6_withoutLastGroups 15 = .ok (.ldiv, 1) := by decide +kernel
theorem dX6_withoutLastGroups_16 : decode cX6_withoutLastGroups 16 = .ok (.lstore_n 3, 1) := by decide +kernel
theorem dX6_withoutLastGroups_17 : decode cX6_withoutLastGroups 17 = .ok (.iinc 5 1, 3) := by decide +kernel
theorem dX6_withoutLastGroups_20 : decode cX6_withoutLastGroups 20 = .ok (.goto (-15), 3) := by decide +kernel
theorem dX6_withoutLastGroups_23 : decode cX6_withoutLastGroups 23 = .ok (.lload_n 3, 1) := by decide +kernel
theorem dX6_withoutLastGroups_24 : decode cX6_withoutLastGroups 24 = .ok (.lreturn, 1) := by decide +kernel
abbrev x_X6_withoutLastGroups : Cx := (6, cX6_withoutLastGroups, false, some (.long))
set_option maxRecDepth 10000 in
theorem g_X6_withoutLastGroups_0 {E : Ev} {d : Nat} {G : Hp} {Q : Po} {x0 : Int64} {x2 : Int32} (h : Xr E d x_X6_withoutLastGroups 5 [some (.long x0), none, some (.int x2), some (.long x0), none, some (.int ((iv 0)))] [] G Q) : Xr E d x_X6_withoutLastGroups 0 [some (.long x0), none, some (.int x2), none, none, none] [] G Q := by
  refine r_lload_n dX6_withoutLastGroups_0 rfl ?_
  refine r_lstore_n dX6_withoutLastGroups_1 rfl ?_
  refine r_iconst dX6_withoutLastGroups_2 ?_
  refine r_istore dX6_withoutLastGroups_3 rfl ?_
  exact h
theorem e_X6_withoutLastGroups {E : Ev} {d : Nat} {G : Hp} {Q : Po} {x0 : Int64} {x2 : Int32} (h : Xr E d x_X6_withoutLastGroups 5 [some (.long x0), none, some (.int x2), some (.long x0), none, some (.int ((iv 0)))] [] G Q) : runs E (d + 1) i_X6_withoutLastGroups [.long x0, .int x2] G Q := by
  rw [runs_eq (m := (yX6_withoutLastGroups, cX6_withoutLastGroups, 6, some (.long), 2, 6, false, true)) rfl (Nat.le_of_ble_eq_true rfl)]
  exact g_X6_withoutLastGroups_0 h
set_option maxRecDepth 10000 in
theorem g_X6_withoutLastGroups_5 {E : Ev} {d : Nat} {G : Hp} {Q : Po} {x0 : Int64} {x2 : Int32} {x3 : Int64} {x5 : Int32} (h : (if x2 ≤ x5 then Q (some (.long x3)) G else Xr E d x_X6_withoutLastGroups 5 [some (.long x0), none, some (.int x2), some (.long ((x3 / 10000))), none, some (.int ((x5 + (iv 1))))] [] G Q)) : Xr E d x_X6_withoutLastGroups 5 [some (.long x0), none, some (.int x2), some (.long x3), none, some (.int x5)] [] G Q := by
  refine r_iload dX6_withoutLastGroups_5 rfl ?_
  refine r_iload_n dX6_withoutLastGroups_7 rfl ?_
  refine r_cge (tgt := 23) dX6_withoutLastGroups_8 (by decide) (ite_imp (fun h => ?_) (fun h => ?_) h)
  · refine r_lload_n dX6_withoutLastGroups_23 rfl ?_
    exact r_lret dX6_withoutLastGroups_24 rfl h
  · refine r_lload_n dX6_withoutLastGroups_11 rfl ?_
    refine r_ldc2 dX6_withoutLastGroups_12 rfl ?_
    refine r_ldiv dX6_withoutLastGroups_15 ⟨by decide, ?_⟩
    refine r_lstore_n dX6_withoutLastGroups_16 rfl ?_
    refine r_iinc dX6_withoutLastGroups_17 rfl rfl ?_
    refine r_goto (tgt := 5) dX6_withoutLastGroups_20 (by decide) ?_
    exact h
theorem dX6_commandSucceeds_0 : decode cX6_commandSucceeds 0 = .ok (.iload_n 1, 1) := by decide +kernel
theorem dX6_commandSucceeds_1 : decode cX6_commandSucceeds 1 = .ok (.bipush 100, 2) := by decide +kernel
theorem dX6_commandSucceeds_3 : decode cX6_commandSucceeds 3 = .ok (.idiv, 1) := by decide +kernel
theorem dX6_commandSucceeds_4 : decode cX6_commandSucceeds 4 = .ok (.bipush 10, 2) := by decide +kernel
theorem dX6_commandSucceeds_6 : decode cX6_commandSucceeds 6 = .ok (.irem, 1) := by decide +kernel
theorem dX6_commandSucceeds_7 : decode cX6_commandSucceeds 7 = .ok (.istore_n 2, 1) := by decide +kernel
theorem dX6_commandSucceeds_8 : decode cX6_commandSucceeds 8 = .ok (.iload_n 1, 1) := by decide +kernel
theorem dX6_commandSucceeds_9 : decode cX6_commandSucceeds 9 = .ok (.bipush 10, 2) := by decide +kernel
theorem dX6_commandSucceeds_11 : decode cX6_commandSucceeds 11 = .ok (.idiv, 1) := by decide +kernel
theorem dX6_commandSucceeds_12 : decode cX6_commandSucceeds 12 = .ok (.bipush 10, 2) := by decide +kernel
theorem dX6_commandSucceeds_14 : decode cX6_commandSucceeds 14 = .ok (.irem, 1) := by decide +kernel
theorem dX6_commandSucceeds_15 : decode cX6_commandSucceeds 15 = .ok (.istore_n 3, 1) := by decide +kernel
theorem dX6_commandSucceeds_16 : decode cX6_commandSucceeds 16 = .ok (.iload_n 1, 1) := by decide +kernel
theorem dX6_commandSucceeds_17 : decode cX6_commandSucceeds 17 = .ok (.bipush 10, 2) := by decide +kernel
theorem dX6_commandSucceeds_19 : decode cX6_commandSucceeds 19 = .ok (.irem, 1) := by decide +kernel
theorem dX6_commandSucceeds_20 : decode cX6_commandSucceeds 20 = .ok (.istore 4, 2) := by decide +kernel
theorem dX6_commandSucceeds_22 : decode cX6_commandSucceeds 22 = .ok (.iload_n 1, 1) := by decide +kernel
theorem dX6_commandSucceeds_23 : decode cX6_commandSucceeds 23 = .ok (.bipush 100, 2) := by decide +kernel
theorem dX6_commandSucceeds_25 : decode cX6_commandSucceeds 25 = .ok (.irem, 1) := by decide +kernel
theorem dX6_commandSucceeds_26 : decode cX6_commandSucceeds 26 = .ok (.istore 5, 2) := by decide +kernel
theorem dX6_commandSucceeds_28 : decode cX6_commandSucceeds 28 = .ok (.iload_n 1, 1) := by decide +kernel
theorem dX6_commandSucceeds_29 : decode cX6_commandSucceeds 29 = .ok (.sipush 1000, 3) := by decide +kernel
theorem dX6_commandSucceeds_32 : decode cX6_commandSucceeds 32 = .ok (.idiv, 1) := by decide +kernel
theorem dX6_commandSucceeds_33 : decode cX6_commandSucceeds 33 = .ok (.tableswitch 191 1 6 #[39, 59, 79, 108, 137, 166], 39) := by decide +kernel
theorem dX6_commandSucceeds_72 : decode cX6_commandSucceeds 72 = .ok (.iload 4, 2) := by decide +kernel
theorem dX6_commandSucceeds_74 : decode cX6_commandSucceeds 74 = .ok (.ifCond .ne 16, 3) := by decide +kernel
theorem dX6_commandSucceeds_77 : decode cX6_commandSucceeds 77 = .ok (.aload_n 0, 1) := by decide +kernel
theorem dX6_commandSucceeds_78 : decode cX6_commandSucceeds 78 = .ok (.iload_n 2, 1) := by decide +kernel
theorem dX6_commandSucceeds_79 : decode cX6_commandSucceeds 79 = .ok (.iload_n 3, 1) := by decide +kernel
theorem dX6_commandSucceeds_80 : decode cX6_commandSucceeds 80 = .ok (.invokevirtual 244, 3) := by decide +kernel
theorem dX6_commandSucceeds_83 : decode cX6_commandSucceeds 83 = .ok (.ifCond .eq 7, 3) := by decide +kernel
theorem dX6_commandSucceeds_86 : decode cX6_commandSucceeds 86 = .ok (.iconst 1, 1) := by decide +kernel
theorem dX6_commandSucceeds_87 : decode cX6_commandSucceeds 87 = .ok (.goto 4, 3) := by decide +kernel
theorem dX6_commandSucceeds_90 : decode cX6_commandSucceeds 90 = .ok (.iconst 0, 1) := by decide +kernel
theorem dX6_commandSucceeds_91 : decode cX6_commandSucceeds 91 = .ok (.ireturn, 1) := by decide +kernel
theorem dX6_commandSucceeds_92 : decode cX6_commandSucceeds 92 = .ok (.iload 4, 2) := by decide +kernel
theorem dX6_commandSucceeds_94 : decode cX6_commandSucceeds 94 = .ok (.ifCond .ne 16, 3) := by decide +kernel
theorem dX6_commandSucceeds_97 : decode cX6_commandSucceeds 97 = .ok (.aload_n 0, 1) := by decide +kernel
theorem dX6_commandSucceeds_98 : decode cX6_commandSucceeds 98 = .ok (.iload_n 2, 1) := by decide +kernel
theorem dX6_commandSucceeds_99 : decode cX6_commandSucceeds 99 = .ok (.iload_n 3, 1) := by decide +kernel
theorem dX6_commandSucceeds_100 : decode cX6_commandSucceeds 100 = .ok (.invokevirtual 247, 3) := by decide +kernel
theorem dX6_commandSucceeds_103 : decode cX6_commandSucceeds 103 = .ok (.ifCond .eq 7, 3) := by decide +kernel
theorem dX6_commandSucceeds_106 : decode cX6_commandSucceeds 106 = .ok (.iconst 1, 1) := by decide +kernel
theorem dX6_commandSucceeds_107 : decode cX6_commandSucceeds 107 = .ok (.goto 4, 3) := by decide +kernel
theorem dX6_commandSucceeds_110 : decode cX6_commandSucceeds 110 = .ok (.iconst 0, 1) := by decide +kernel
theorem dX6_commandSucceeds_111 : decode cX6_commandSucceeds 111 = .ok (.ireturn, 1) := by decide +kernel
theorem dX6_commandSucceeds_112 : decode cX6_commandSucceeds 112 = .ok (.iload_n 2, 1) := by decide +kernel
theorem dX6_commandSucceeds_113 : decode cX6_commandSucceeds 113 = .ok (.ifCond .ne 26, 3) := by decide +kernel
theorem dX6_commandSucceeds_116 : decode cX6_commandSucceeds 116 = .ok (.iload_n 3, 1) := by decide +kernel
theorem dX6_commandSucceeds_117 : decode cX6_commandSucceeds 117 = .ok (.ifCond .ne 22, 3) := by decide +kernel
theorem dX6_commandSucceeds_120 : decode cX6_commandSucceeds 120 = .ok (.iload 4, 2) := by decide +kernel
theorem dX6_commandSucceeds_122 : decode cX6_commandSucceeds 122 = .ok (.aload_n 0, 1) := by decide +kernel
theorem dX6_commandSucceeds_123 : decode cX6_commandSucceeds 123 = .ok (.getfield 69, 3) := by decide +kernel
theorem dX6_commandSucceeds_126 : decode cX6_commandSucceeds 126 = .ok (.invokevirtual 198, 3) := by decide +kernel
theorem dX6_commandSucceeds_129 : decode cX6_commandSucceeds 129 = .ok (.invokevirtual 201, 3) := by decide +kernel
theorem dX6_commandSucceeds_132 : decode cX6_commandSucceeds 132 = .ok (.if_icmp .ne 7, 3) := by decide +kernel
theorem dX6_commandSucceeds_135 : decode cX6_commandSucceeds 135 = .ok (.iconst 1, 1) := by decide +kernel
theorem dX6_commandSucceeds_136 : decode cX6_commandSucceeds 136 = .ok (.goto 4, 3) := by decide +kernel
theorem dX6_commandSucceeds_139 : decode cX6_commandSucceeds 139 = .ok (.iconst 0, 1) := by decide +kernel
theorem dX6_commandSucceeds_140 : decode cX6_commandSucceeds 140 = .ok (.ireturn, 1) := by decide +kernel
theorem dX6_commandSucceeds_141 : decode cX6_commandSucceeds 141 = .ok (.iload_n 2, 1) := by decide +kernel
theorem dX6_commandSucceeds_142 : decode cX6_commandSucceeds 142 = .ok (.invokestatic 96, 3) := by decide +kernel
theorem dX6_commandSucceeds_145 : decode cX6_commandSucceeds 145 = .ok (.ifCond .eq 23, 3) := by decide +kernel
theorem dX6_commandSucceeds_148 : decode cX6_commandSucceeds 148 = .ok (.iload 5, 2) := by decide +kernel
theorem dX6_commandSucceeds_150 : decode cX6_commandSucceeds 150 = .ok (.aload_n 0, 1) := by decide +kernel
theorem dX6_commandSucceeds_151 : decode cX6_commandSucceeds 151 = .ok (.getfield 69, 3) := by decide +kernel
theorem dX6_commandSucceeds_154 : decode cX6_commandSucceeds 154 = .ok (.invokevirtual 198, 3) := by decide +kernel
theorem dX6_commandSucceeds_157 : decode cX6_commandSucceeds 157 = .ok (.iload_n 2, 1) := by decide +kernel
theorem dX6_commandSucceeds_158 : decode cX6_commandSucceeds 158 = .ok (.invokevirtual 207, 3) := by decide +kernel
theorem dX6_commandSucceeds_161 : decode cX6_commandSucceeds 161 = .ok (.if_icmp .ne 7, 3) := by decide +kernel
theorem dX6_commandSucceeds_164 : decode cX6_commandSucceeds 164 = .ok (.iconst 1, 1) := by decide +kernel
theorem dX6_commandSucceeds_165 : decode cX6_commandSucceeds 165 = .ok (.goto 4, 3) := by decide +kernel
theorem dX6_commandSucceeds_168 : decode cX6_commandSucceeds 168 = .ok (.iconst 0, 1) := by decide +kernel
theorem dX6_commandSucceeds_169 : decode cX6_commandSucceeds 169 = .ok (.ireturn, 1) := by decide +kernel
theorem dX6_commandSucceeds_170 : decode cX6_commandSucceeds 170 = .ok (.iload_n 2, 1) := by decide +kernel
theorem dX6_commandSucceeds_171 : decode cX6_commandSucceeds 171 = .ok (.invokestatic 186, 3) := by decide +kernel
theorem dX6_commandSucceeds_174 : decode cX6_commandSucceeds 174 = .ok (.ifCond .eq 23, 3) := by decide +kernel
theorem dX6_commandSucceeds_177 : decode cX6_commandSucceeds 177 = .ok (.iload 5, 2) := by decide +kernel
theorem dX6_commandSucceeds_179 : decode cX6_commandSucceeds 179 = .ok (.aload_n 0, 1) := by decide +kernel
theorem dX6_commandSucceeds_180 : decode cX6_commandSucceeds 180 = .ok (.getfield 28, 3) := by decide +kernel
theorem dX6_commandSucceeds_183 : decode cX6_commandSucceeds 183 = .ok (.invokevirtual 173, 3) := by decide +kernel
theorem dX6_commandSucceeds_186 : decode cX6_commandSucceeds 186 = .ok (.iload_n 2, 1) := by decide +kernel
theorem dX6_commandSucceeds_187 : decode cX6_commandSucceeds 187 = .ok (.invokevirtual 189, 3) := by decide +kernel
theorem dX6_commandSucceeds_190 : decode cX6_commandSucceeds 190 = .ok (.if_icmp .ne 7, 3) := by decide +kernel
theorem dX6_commandSucceeds_193 : decode cX6_commandSucceeds 193 = .ok (.iconst 1, 1) := by decide +kernel
theorem dX6_commandSucceeds_194 : decode cX6_commandSucceeds 194 = .ok (.goto 4, 3) := by decide +kernel
theorem dX6_commandSucceeds_197 : decode cX6_commandSucceeds 197 = .ok (.iconst 0, 1) := by decide +kernel
theorem dX6_commandSucceeds_198 : decode cX6_commandSucceeds 198 = .ok (.ireturn, 1) := by decide +kernel
theorem dX6_commandSucceeds_199 : decode cX6_commandSucceeds 199 = .ok (.iload_n 2, 1) := by decide +kernel
theorem dX6_commandSucceeds_200 : decode cX6_commandSucceeds 200 = .ok (.ifCond .ne 22, 3) := by decide +kernel
theorem dX6_commandSucceeds_203 : decode cX6_commandSucceeds 203 = .ok (.iload 5, 2) := by decide +kernel
theorem dX6_commandSucceeds_205 : decode cX6_commandSucceeds 205 = .ok (.aload_n 0, 1) := by decide +kernel
theorem dX6_commandSucceeds_206 : decode cX6_commandSucceeds 206 = .ok (.getfield 69, 3) := by decide +kernel
theorem dX6_commandSucceeds_209 : decode cX6_commandSucceeds 209 = .ok (.invokevirtual 198, 3) := by decide +kernel
theorem dX6_commandSucceeds_212 : decode cX6_commandSucceeds 212 = .ok (.invokevirtual 204, 3) := by decide +kernel
theorem dX6_commandSucceeds_215 : decode cX6_commandSucceeds 215 = .ok (.if_icmp .ne 7, 3) := by decide +kernel
theorem dX6_commandSucceeds_218 : decode cX6_commandSucceeds 218 = .ok (.iconst 1, 1) := by decide +kernel
theorem dX6_commandSucceeds_219 : decode cX6_commandSucceeds 219 = .ok (.goto 4, 3) := by decide +kernel
theorem dX6_commandSucceeds_222 : decode cX6_commandSucceeds 222 = .ok (.iconst 0, 1) := by decide +kernel
theorem dX6_commandSucceeds_223 : decode cX6_commandSucceeds 223 = .ok (.ireturn, 1) := by decide +kernel
theorem dX6_commandSucceeds_224 : decode cX6_commandSucceeds 224 = .ok (.iconst 0, 1) := by decide +kernel
theorem dX6_commandSucceeds_225 : decode cX6_commandSucceeds 225 = .ok (.ireturn, 1) := by decide +kernel
abbrev x_X6_commandSucceeds : Cx := (6, cX6_commandSucceeds, false, some (.boolean))
set_option maxRecDepth 10000 in
theorem g_X6_commandSucceeds_0 {E : Ev} {d : Nat} {G : Hp} {Q : Po} {x0 : Nat} {x1 : Int32} (h : (if ((x1 / (iv 1000))).toInt = 1 then (if ¬ (x1 - x1 / (iv 10) * (iv 10)) = 0 then Q (some (.int (iv 0))) G else (rcv E G x0 6 = true ∧ (qCI E d i_X6_removeFromCopy [.ref x0, .int (((x1 / (iv 100)) - (x1 / (iv 100)) / (iv 10) * (iv 10))), .int (((x1 / (iv 10)) - (x1 / (iv 10)) / (iv 10) * (iv 10)))] G fun v2 G1 => (if v2 = 0 then Q (some (.int (iv 0))) G1 else Q (some (.int (iv 1))) G1)))) else (if ((x1 / (iv 1000))).toInt = 2 then (if ¬ (x1 - x1 / (iv 10) * (iv 10)) = 0 then Q (some (.int (iv 0))) G else (rcv E G x0 6 = true ∧ (qCI E d i_X6_setBInCopy [.ref x0, .int (((x1 / (iv 100)) - (x1 / (iv 100)) / (iv 10) * (iv 10))), .int (((x1 / (iv 10)) - (x1 / (iv 10)) / (iv 10) * (iv 10)))] G fun v4 G3 => (if v4 = 0 then Q (some (.int (iv 0))) G3 else Q (some (.int (iv 1))) G3)))) else (if ((x1 / (iv 1000))).toInt = 3 then (if ¬ ((x1 / (iv 100)) - (x1 / (iv 100)) / (iv 10) * (iv 10)) = 0 then Q (some (.int (iv 0))) G else (if ¬ ((x1 / (iv 10)) - (x1 / (iv 10)) / (iv 10) * (iv 10)) = 0 then Q (some (.int (iv 0))) G else (qFR E G x0 6 10 fun v5 => (rcv E G v5 5 = true ∧ (qCR E d i_X5_upToDate [.ref v5] G fun v7 G6 => (rcv E G6 v7 5 = true ∧ (qCI E d i_X5_acceptance [.ref v7] G6 fun v9 G8 => (if ¬ (x1 - x1 / (iv 10) * (iv 10)) = v9 then Q (some (.int (iv 0))) G8 else Q (some (.int (iv 1))) G8)))))))) else (if ((x1 / (iv 1000))).toInt = 4 then (qCI E d i_X6_isNonterminal [.int (((x1 / (iv 100)) - (x1 / (iv 100)) / (iv 10) * (iv 10)))] G fun v11 G10 => (if v11 = 0 then Q (some (.int (iv 0))) G10 else (qFR E G10 x0 6 10 fun v12 => (rcv E G10 v12 5 = true ∧ (qCR E d i_X5_upToDate [.ref v12] G10 fun v14 G13 => (rcv E G13 v14 5 = true ∧ (qCI E d i_X5_validCount [.ref v14, .int (((x1 / (iv 100)) - (x1 / (iv 100)) / (iv 10) * (iv 10)))] G13 fun v16 G15 => (if ¬ (x1 - x1 / (iv 100) * (iv 100)) = v16 then Q (some (.int (iv 0))) G15 else Q (some (.int (iv 1))) G15)))))))) else (if ((x1 / (iv 1000))).toInt = 5 then (qCI E d i_X6_isDepth [.int (((x1 / (iv 100)) - (x1 / (iv 100)) / (iv 10) * (iv 10)))] G fun v18 G17 => (if v18 = 0 then Q (some (.int (iv 0))) G17 else (qFR E G17 x0 6 2 fun v19 => (rcv E G17 v19 4 = true ∧ (qCR E d i_X4_upToDate [.ref v19] G17 fun v21 G20 => (rcv E G20 v21 4 = true ∧ (qCI E d i_X4_countAt [.ref v21, .int (((x1 / (iv 100)) - (x1 / (iv 100)) / (iv 10) * (iv 10)))] G20 fun v23 G22 => (if ¬ (x1 - x1 / (iv 100) * (iv 100)) = v23 then Q (some (.int (iv 0))) G22 else Q (some (.int (iv 1))) G22)))))))) else (if ((x1 / (iv 1000))).toInt = 6 then (if ¬ ((x1 / (iv 100)) - (x1 / (iv 100)) / (iv 10) * (iv 10)) = 0 then Q (some (.int (iv 0))) G else (qFR E G x0 6 10 fun v24 => (rcv E G v24 5 = true ∧ (qCR E d i_X5_upToDate [.ref v24] G fun v26 G25 => (rcv E G25 v26 5 = true ∧ (qCI E d i_X5_roundCount [.ref v26] G25 fun v28 G27 => (if ¬ (x1 - x1 / (iv 100) * (iv 100)) = v28 then Q (some (.int (iv 0))) G27 else Q (some (.int (iv 1))) G27))))))) else Q (some (.int (iv 0))) G))))))) : Xr E d x_X6_commandSucceeds 0 [some (.ref x0), some (.int x1), none, none, none, none] [] G Q := by
  refine r_iload_n dX6_commandSucceeds_0 rfl ?_
  refine r_bipush dX6_commandSucceeds_1 rfl ?_
  refine r_idiv dX6_commandSucceeds_3 ⟨by decide, ?_⟩
  refine r_bipush dX6_commandSucceeds_4 rfl ?_
  refine r_irem dX6_commandSucceeds_6 ⟨by decide, ?_⟩
  refine r_istore_n dX6_commandSucceeds_7 rfl ?_
  refine r_iload_n dX6_commandSucceeds_8 rfl ?_
  refine r_bipush dX6_commandSucceeds_9 rfl ?_
  refine r_idiv dX6_commandSucceeds_11 ⟨by decide, ?_⟩
  refine r_bipush dX6_commandSucceeds_12 rfl ?_
  refine r_irem dX6_commandSucceeds_14 ⟨by decide, ?_⟩
  refine r_istore_n dX6_commandSucceeds_15 rfl ?_
  refine r_iload_n dX6_commandSucceeds_16 rfl ?_
  refine r_bipush dX6_commandSucceeds_17 rfl ?_
  refine r_irem dX6_commandSucceeds_19 ⟨by decide, ?_⟩
  refine r_istore dX6_commandSucceeds_20 rfl ?_
  refine r_iload_n dX6_commandSucceeds_22 rfl ?_
  refine r_bipush dX6_commandSucceeds_23 rfl ?_
  refine r_irem dX6_commandSucceeds_25 ⟨by decide, ?_⟩
  refine r_istore dX6_commandSucceeds_26 rfl ?_
  refine r_iload_n dX6_commandSucceeds_28 rfl ?_
  refine r_sipush dX6_commandSucceeds_29 rfl ?_
  refine r_idiv dX6_commandSucceeds_32 ⟨by decide, ?_⟩
  by_cases e0 : ((x1 / (iv 1000))).toInt = 1
  · rw [if_pos e0] at h
    refine r_tswIn (tgt := 72) (off := 39) dX6_commandSucceeds_33 (by rw [e0]; decide) (by rw [e0]; rfl) (by decide) ?_
    refine r_iload dX6_commandSucceeds_72 rfl ?_
    refine r_ifne (tgt := 90) dX6_commandSucceeds_74 (by decide) (ite_imp (fun h => ?_) (fun h => ?_) h)
    · refine r_iconst dX6_commandSucceeds_90 ?_
      exact r_iret dX6_commandSucceeds_91 rfl ⟨rfl, h⟩
    · refine r_aload_n dX6_commandSucceeds_77 rfl ?_
      refine r_iload_n dX6_commandSucceeds_78 rfl ?_
      refine r_iload_n dX6_commandSucceeds_79 rfl ?_
      refine r_cI dX6_commandSucceeds_80 rfl (invV_eq rfl rfl rfl rfl rfl rfl ⟨rfl, Nat.le_of_ble_eq_true rfl⟩ h.1) (qCI_imp (fun v2 G1 h => ?_) h.2)
      refine r_ifeq (tgt := 90) dX6_commandSucceeds_83 (by decide) (ite_imp (fun h => ?_) (fun h => ?_) h)
      · refine r_iconst dX6_commandSucceeds_90 ?_
        exact r_iret dX6_commandSucceeds_91 rfl ⟨rfl, h⟩
      · refine r_iconst dX6_commandSucceeds_86 ?_
        refine r_goto (tgt := 91) dX6_commandSucceeds_87 (by decide) ?_
        exact r_iret dX6_commandSucceeds_91 rfl ⟨rfl, h⟩
  rw [if_neg e0] at h
  by_cases e1 : ((x1 / (iv 1000))).toInt = 2
  · rw [if_pos e1] at h
    refine r_tswIn (tgt := 92) (off := 59) dX6_commandSucceeds_33 (by rw [e1]; decide) (by rw [e1]; rfl) (by decide) ?_
    refine r_iload dX6_commandSucceeds_92 rfl ?_
    refine r_ifne (tgt := 110) dX6_commandSucceeds_94 (by decide) (ite_imp (fun h => ?_) (fun h => ?_) h)
    · refine r_iconst dX6_commandSucceeds_110 ?_
      exact r_iret dX6_commandSucceeds_111 rfl ⟨rfl, h⟩
    · refine r_aload_n dX6_commandSucceeds_97 rfl ?_
      refine r_iload_n dX6_commandSucceeds_98 rfl ?_
      refine r_iload_n dX6_commandSucceeds_99 rfl ?_
      refine r_cI dX6_commandSucceeds_100 rfl (invV_eq rfl rfl rfl rfl rfl rfl ⟨rfl, Nat.le_of_ble_eq_true rfl⟩ h.1) (qCI_imp (fun v4 G3 h => ?_) h.2)
      refine r_ifeq (tgt := 110) dX6_commandSucceeds_103 (by decide) (ite_imp (fun h => ?_) (fun h => ?_) h)
      · refine r_iconst dX6_commandSucceeds_110 ?_
        exact r_iret dX6_commandSucceeds_111 rfl ⟨rfl, h⟩
      · refine r_iconst dX6_commandSucceeds_106 ?_
        refine r_goto (tgt := 111) dX6_commandSucceeds_107 (by decide) ?_
        exact r_iret dX6_commandSucceeds_111 rfl ⟨rfl, h⟩
  rw [if_neg e1] at h
  by_cases e2 : ((x1 / (iv 1000))).toInt = 3
  · rw [if_pos e2] at h
    refine r_tswIn (tgt := 112) (off := 79) dX6_commandSucceeds_33 (by rw [e2]; decide) (by rw [e2]; rfl) (by decide) ?_
    refine r_iload_n dX6_commandSucceeds_112 rfl ?_
    refine r_ifne (tgt := 139) dX6_commandSucceeds_113 (by decide) (ite_imp (fun h => ?_) (fun h => ?_) h)
    · refine r_iconst dX6_commandSucceeds_139 ?_
      exact r_iret dX6_commandSucceeds_140 rfl ⟨rfl, h⟩
    · refine r_iload_n dX6_commandSucceeds_116 rfl ?_
      refine r_ifne (tgt := 139) dX6_commandSucceeds_117 (by decide) (ite_imp (fun h => ?_) (fun h => ?_) h)
      · refine r_iconst dX6_commandSucceeds_139 ?_
        exact r_iret dX6_commandSucceeds_140 rfl ⟨rfl, h⟩
      · refine r_iload dX6_commandSucceeds_120 rfl ?_
        refine r_aload_n dX6_commandSucceeds_122 rfl ?_
        refine r_getR dX6_commandSucceeds_123 rfl (qFR_imp (fun v5 h => ?_) h)
        refine r_cR dX6_commandSucceeds_126 rfl (invV_eq rfl rfl rfl rfl rfl rfl ⟨rfl, Nat.le_of_ble_eq_true rfl⟩ h.1) (qCR_imp (fun v7 G6 h => ?_) h.2)
        refine r_cI dX6_commandSucceeds_129 rfl (invV_eq rfl rfl rfl rfl rfl rfl ⟨rfl, Nat.le_of_ble_eq_true rfl⟩ h.1) (qCI_imp (fun v9 G8 h => ?_) h.2)
        refine r_cne (tgt := 139) dX6_commandSucceeds_132 (by decide) (ite_imp (fun h => ?_) (fun h => ?_) h)
        · refine r_iconst dX6_commandSucceeds_139 ?_
          exact r_iret dX6_commandSucceeds_140 rfl ⟨rfl, h⟩
        · refine r_iconst dX6_commandSucceeds_135 ?_
          refine r_goto (tgt := 140) dX6_commandSucceeds_136 (by decide) ?_
          exact r_iret dX6_commandSucceeds_140 rfl ⟨rfl, h⟩
  rw [if_neg e2] at h
  by_cases e3 : ((x1 / (iv 1000))).toInt = 4
  · rw [if_pos e3] at h
    refine r_tswIn (tgt := 141) (off := 108) dX6_commandSucceeds_33 (by rw [e3]; decide) (by rw [e3]; rfl) (by decide) ?_
    refine r_iload_n dX6_commandSucceeds_141 rfl ?_
    refine r_cI dX6_commandSucceeds_142 rfl (invS_eq rfl (by decide) rfl rfl rfl rfl ⟨rfl, Nat.le_of_ble_eq_true rfl⟩) (qCI_imp (fun v11 G10 h => ?_) h)
    refine r_ifeq (tgt := 168) dX6_commandSucceeds_145 (by decide) (ite_imp (fun h => ?_) (fun h => ?_) h)
    · refine r_iconst dX6_commandSucceeds_168 ?_
      exact r_iret dX6_commandSucceeds_169 rfl ⟨rfl, h⟩
    · refine r_iload dX6_commandSucceeds_148 rfl ?_
      refine r_aload_n dX6_commandSucceeds_150 rfl ?_
      refine r_getR dX6_commandSucceeds_151 rfl (qFR_imp (fun v12 h => ?_) h)
      refine r_cR dX6_commandSucceeds_154 rfl (invV_eq rfl rfl rfl rfl rfl rfl ⟨rfl, Nat.le_of_ble_eq_true rfl⟩ h.1) (qCR_imp (fun v14 G13 h => ?_) h.2)
      refine r_iload_n dX6_commandSucceeds_157 rfl ?_
      refine r_cI dX6_commandSucceeds_158 rfl (invV_eq rfl rfl rfl rfl rfl rfl ⟨rfl, Nat.le_of_ble_eq_true rfl⟩ h.1) (qCI_imp (fun v16 G15 h => ?_) h.2)
      refine r_cne (tgt := 168) dX6_commandSucceeds_161 (by decide) (ite_imp (fun h => ?_) (fun h => ?_) h)
      · refine r_iconst dX6_commandSucceeds_168 ?_
        exact r_iret dX6_commandSucceeds_169 rfl ⟨rfl, h⟩
      · refine r_iconst dX6_commandSucceeds_164 ?_
        refine r_goto (tgt := 169) dX6_commandSucceeds_165 (by decide) ?_
        exact r_iret dX6_commandSucceeds_169 rfl ⟨rfl, h⟩
  rw [if_neg e3] at h
  by_cases e4 : ((x1 / (iv 1000))).toInt = 5
  · rw [if_pos e4] at h
    refine r_tswIn (tgt := 170) (off := 137) dX6_commandSucceeds_33 (by rw [e4]; decide) (by rw [e4]; rfl) (by decide) ?_
    refine r_iload_n dX6_commandSucceeds_170 rfl ?_
    refine r_cI dX6_commandSucceeds_171 rfl (invS_eq rfl (by decide) rfl rfl rfl rfl ⟨rfl, Nat.le_of_ble_eq_true rfl⟩) (qCI_imp (fun v18 G17 h => ?_) h)
    refine r_ifeq (tgt := 197) dX6_commandSucceeds_174 (by decide) (ite_imp (fun h => ?_) (fun h => ?_) h)
    · refine r_iconst dX6_commandSucceeds_197 ?_
      exact r_iret dX6_commandSucceeds_198 rfl ⟨rfl, h⟩
    · refine r_iload dX6_commandSucceeds_177 rfl ?_
      refine r_aload_n dX6_commandSucceeds_179 rfl ?_
      refine r_getR dX6_commandSucceeds_180 rfl (qFR_imp (fun v19 h => ?_) h)
      refine r_cR dX6_commandSucceeds_183 rfl (invV_eq rfl rfl rfl rfl rfl rfl ⟨rfl, Nat.le_of_ble_eq_true rfl⟩ h.1) (qCR_imp (fun v21 G20 h => ?_) h.2)
      refine r_iload_n dX6_commandSucceeds_186 rfl ?_
      refine r_cI dX6_commandSucceeds_187 rfl (invV_eq rfl rfl rfl rfl rfl rfl ⟨rfl, Nat.le_of_ble_eq_true rfl⟩ h.1) (qCI_imp (fun v23 G22 h => ?_) h.2)
      refine r_cne (tgt := 197) dX6_commandSucceeds_190 (by decide) (ite_imp (fun h => ?_) (fun h => ?_) h)
      · refine r_iconst dX6_commandSucceeds_197 ?_
        exact r_iret dX6_commandSucceeds_198 rfl ⟨rfl, h⟩
      · refine r_iconst dX6_commandSucceeds_193 ?_
        refine r_goto (tgt := 198) dX6_commandSucceeds_194 (by decide) ?_
        exact r_iret dX6_commandSucceeds_198 rfl ⟨rfl, h⟩
  rw [if_neg e4] at h
  by_cases e5 : ((x1 / (iv 1000))).toInt = 6
  · rw [if_pos e5] at h
    refine r_tswIn (tgt := 199) (off := 166) dX6_commandSucceeds_33 (by rw [e5]; decide) (by rw [e5]; rfl) (by decide) ?_
    refine r_iload_n dX6_commandSucceeds_199 rfl ?_
    refine r_ifne (tgt := 222) dX6_commandSucceeds_200 (by decide) (ite_imp (fun h => ?_) (fun h => ?_) h)
    · refine r_iconst dX6_commandSucceeds_222 ?_
      exact r_iret dX6_commandSucceeds_223 rfl ⟨rfl, h⟩
    · refine r_iload dX6_commandSucceeds_203 rfl ?_
      refine r_aload_n dX6_commandSucceeds_205 rfl ?_
      refine r_getR dX6_commandSucceeds_206 rfl (qFR_imp (fun v24 h => ?_) h)
      refine r_cR dX6_commandSucceeds_209 rfl (invV_eq rfl rfl rfl rfl rfl rfl ⟨rfl, Nat.le_of_ble_eq_true rfl⟩ h.1) (qCR_imp (fun v26 G25 h => ?_) h.2)
      refine r_cI dX6_commandSucceeds_212 rfl (invV_eq rfl rfl rfl rfl rfl rfl ⟨rfl, Nat.le_of_ble_eq_true rfl⟩ h.1) (qCI_imp (fun v28 G27 h => ?_) h.2)
      refine r_cne (tgt := 222) dX6_commandSucceeds_215 (by decide) (ite_imp (fun h => ?_) (fun h => ?_) h)
      · refine r_iconst dX6_commandSucceeds_222 ?_
        exact r_iret dX6_commandSucceeds_223 rfl ⟨rfl, h⟩
      · refine r_iconst dX6_commandSucceeds_218 ?_
        refine r_goto (tgt := 223) dX6_commandSucceeds_219 (by decide) ?_
        exact r_iret dX6_commandSucceeds_223 rfl ⟨rfl, h⟩
  rw [if_neg e5] at h
  refine r_tswOut (tgt := 224) dX6_commandSucceeds_33 (by omega) (by decide) ?_
  refine r_iconst dX6_commandSucceeds_224 ?_
  exact r_iret dX6_commandSucceeds_225 rfl ⟨rfl, h⟩
theorem e_X6_commandSucceeds {E : Ev} {d : Nat} {G : Hp} {Q : Po} {x0 : Nat} {x1 : Int32} (h : (if ((x1 / (iv 1000))).toInt = 1 then (if ¬ (x1 - x1 / (iv 10) * (iv 10)) = 0 then Q (some (.int (iv 0))) G else (rcv E G x0 6 = true ∧ (qCI E d i_X6_removeFromCopy [.ref x0, .int (((x1 / (iv 100)) - (x1 / (iv 100)) / (iv 10) * (iv 10))), .int (((x1 / (iv 10)) - (x1 / (iv 10)) / (iv 10) * (iv 10)))] G fun v2 G1 => (if v2 = 0 then Q (some (.int (iv 0))) G1 else Q (some (.int (iv 1))) G1)))) else (if ((x1 / (iv 1000))).toInt = 2 then (if ¬ (x1 - x1 / (iv 10) * (iv 10)) = 0 then Q (some (.int (iv 0))) G else (rcv E G x0 6 = true ∧ (qCI E d i_X6_setBInCopy [.ref x0, .int (((x1 / (iv 100)) - (x1 / (iv 100)) / (iv 10) * (iv 10))), .int (((x1 / (iv 10)) - (x1 / (iv 10)) / (iv 10) * (iv 10)))] G fun v4 G3 => (if v4 = 0 then Q (some (.int (iv 0))) G3 else Q (some (.int (iv 1))) G3)))) else (if ((x1 / (iv 1000))).toInt = 3 then (if ¬ ((x1 / (iv 100)) - (x1 / (iv 100)) / (iv 10) * (iv 10)) = 0 then Q (some (.int (iv 0))) G else (if ¬ ((x1 / (iv 10)) - (x1 / (iv 10)) / (iv 10) * (iv 10)) = 0 then Q (some (.int (iv 0))) G else (qFR E G x0 6 10 fun v5 => (rcv E G v5 5 = true ∧ (qCR E d i_X5_upToDate [.ref v5] G fun v7 G6 => (rcv E G6 v7 5 = true ∧ (qCI E d i_X5_acceptance [.ref v7] G6 fun v9 G8 => (if ¬ (x1 - x1 / (iv 10) * (iv 10)) = v9 then Q (some (.int (iv 0))) G8 else Q (some (.int (iv 1))) G8)))))))) else (if ((x1 / (iv 1000))).toInt = 4 then (qCI E d i_X6_isNonterminal [.int (((x1 / (iv 100)) - (x1 / (iv 100)) / (iv 10) * (iv 10)))] G fun v11 G10 => (if v11 = 0 then Q (some (.int (iv 0))) G10 else (qFR E G10 x0 6 10 fun v12 => (rcv E G10 v12 5 = true ∧ (qCR E d i_X5_upToDate [.ref v12] G10 fun v14 G13 => (rcv E G13 v14 5 = true ∧ (qCI E d i_X5_validCount [.ref v14, .int (((x1 / (iv 100)) - (x1 / (iv 100)) / (iv 10) * (iv 10)))] G13 fun v16 G15 => (if ¬ (x1 - x1 / (iv 100) * (iv 100)) = v16 then Q (some (.int (iv 0))) G15 else Q (some (.int (iv 1))) G15)))))))) else (if ((x1 / (iv 1000))).toInt = 5 then (qCI E d i_X6_isDepth [.int (((x1 / (iv 100)) - (x1 / (iv 100)) / (iv 10) * (iv 10)))] G fun v18 G17 => (if v18 = 0 then Q (some (.int (iv 0))) G17 else (qFR E G17 x0 6 2 fun v19 => (rcv E G17 v19 4 = true ∧ (qCR E d i_X4_upToDate [.ref v19] G17 fun v21 G20 => (rcv E G20 v21 4 = true ∧ (qCI E d i_X4_countAt [.ref v21, .int (((x1 / (iv 100)) - (x1 / (iv 100)) / (iv 10) * (iv 10)))] G20 fun v23 G22 => (if ¬ (x1 - x1 / (iv 100) * (iv 100)) = v23 then Q (some (.int (iv 0))) G22 else Q (some (.int (iv 1))) G22)))))))) else (if ((x1 / (iv 1000))).toInt = 6 then (if ¬ ((x1 / (iv 100)) - (x1 / (iv 100)) / (iv 10) * (iv 10)) = 0 then Q (some (.int (iv 0))) G else (qFR E G x0 6 10 fun v24 => (rcv E G v24 5 = true ∧ (qCR E d i_X5_upToDate [.ref v24] G fun v26 G25 => (rcv E G25 v26 5 = true ∧ (qCI E d i_X5_roundCount [.ref v26] G25 fun v28 G27 => (if ¬ (x1 - x1 / (iv 100) * (iv 100)) = v28 then Q (some (.int (iv 0))) G27 else Q (some (.int (iv 1))) G27))))))) else Q (some (.int (iv 0))) G))))))) : runs E (d + 1) i_X6_commandSucceeds [.ref x0, .int x1] G Q := by
  rw [runs_eq (m := (yX6_commandSucceeds, cX6_commandSucceeds, 6, some (.boolean), 1, 6, false, false)) rfl (Nat.le_of_ble_eq_true rfl)]
  exact g_X6_commandSucceeds_0 h
theorem dX6_removeFromCopy_0 : decode cX6_removeFromCopy 0 = .ok (.iload_n 1, 1) := by decide +kernel
theorem dX6_removeFromCopy_1 : decode cX6_removeFromCopy 1 = .ok (.invokestatic 114, 3) := by decide +kernel
theorem dX6_removeFromCopy_4 : decode cX6_removeFromCopy 4 = .ok (.ifCond .eq 22, 3) := by decide +kernel
theorem dX6_removeFromCopy_7 : decode cX6_removeFromCopy 7 = .ok (.iload_n 2, 1) := by decide +kernel
theorem dX6_removeFromCopy_8 : decode cX6_removeFromCopy 8 = .ok (.invokestatic 117, 3) := by decide +kernel
theorem dX6_removeFromCopy_11 : decode cX6_removeFromCopy 11 = .ok (.ifCond .eq 15, 3) := by decide +kernel
theorem dX6_removeFromCopy_14 : decode cX6_removeFromCopy 14 = .ok (.aload_n 0, 1) := by decide +kernel
theorem dX6_removeFromCopy_15 : decode cX6_removeFromCopy 15 = .ok (.getfield 66, 3) := by decide +kernel
theorem dX6_removeFromCopy_18 : decode cX6_removeFromCopy 18 = .ok (.iload_n 1, 1) := by decide +kernel
theorem dX6_removeFromCopy_19 : decode cX6_removeFromCopy 19 = .ok (.iload_n 2, 1) := by decide +kernel
theorem dX6_removeFromCopy_20 : decode cX6_removeFromCopy 20 = .ok (.invokevirtual 124, 3) := by decide +kernel
theorem dX6_removeFromCopy_23 : decode cX6_removeFromCopy 23 = .ok (.ifCond .ne 5, 3) := by decide +kernel
theorem dX6_removeFromCopy_26 : decode cX6_removeFromCopy 26 = .ok (.iconst 0, 1) := by decide +kernel
theorem dX6_removeFromCopy_27 : decode cX6_removeFromCopy 27 = .ok (.ireturn, 1) := by decide +kernel
theorem dX6_removeFromCopy_28 : decode cX6_removeFromCopy 28 = .ok (.aload_n 0, 1) := by decide +kernel
theorem dX6_removeFromCopy_29 : decode cX6_removeFromCopy 29 = .ok (.getfield 66, 3) := by decide +kernel
theorem dX6_removeFromCopy_32 : decode cX6_removeFromCopy 32 = .ok (.iload_n 1, 1) := by decide +kernel
theorem dX6_removeFromCopy_33 : decode cX6_removeFromCopy 33 = .ok (.iload_n 2, 1) := by decide +kernel
theorem dX6_removeFromCopy_34 : decode cX6_removeFromCopy 34 = .ok (.invokevirtual 154, 3) := by decide +kernel
theorem dX6_removeFromCopy_37 : decode cX6_removeFromCopy 37 = .ok (.iconst 1, 1) := by decide +kernel
theorem dX6_removeFromCopy_38 : decode cX6_removeFromCopy 38 = .ok (.ireturn, 1) := by decide +kernel
abbrev x_X6_removeFromCopy : Cx := (6, cX6_removeFromCopy, false, some (.boolean))
set_option maxRecDepth 10000 in
theorem g_X6_removeFromCopy_0 {E : Ev} {d : Nat} {G : Hp} {Q : Po} {x0 : Nat} {x1 : Int32} {x2 : Int32} (h : (qCI E d i_X6_isState [.int x1] G fun v2 G1 => (if v2 = 0 then Q (some (.int (iv 0))) G1 else (qCI E d i_X6_isTerminal [.int x2] G1 fun v4 G3 => (if v4 = 0 then Q (some (.int (iv 0))) G3 else (qFR E G3 x0 6 9 fun v5 => (rcv E G3 v5 1 = true ∧ (qCI E d i_X1_canRead [.ref v5, .int x1, .int x2] G3 fun v7 G6 => (if ¬ v7 = 0 then (qFR E G6 x0 6 9 fun v8 => (rcv E G6 v8 1 = true ∧ (qCV E d i_X1_dropTransition [.ref v8, .int x1, .int x2] G6 fun G9 => Q (some (.int (iv 1))) G9))) else Q (some (.int (iv 0))) G6))))))))) : Xr E d x_X6_removeFromCopy 0 [some (.ref x0), some (.int x1), some (.int x2)] [] G Q := by
  refine r_iload_n dX6_removeFromCopy_0 rfl ?_
  refine r_cI dX6_removeFromCopy_1 rfl (invS_eq rfl (by decide) rfl rfl rfl rfl ⟨rfl, Nat.le_of_ble_eq_true rfl⟩) (qCI_imp (fun v2 G1 h => ?_) h)
  refine r_ifeq (tgt := 26) dX6_removeFromCopy_4 (by decide) (ite_imp (fun h => ?_) (fun h => ?_) h)
  · refine r_iconst dX6_removeFromCopy_26 ?_
    exact r_iret dX6_removeFromCopy_27 rfl ⟨rfl, h⟩
  · refine r_iload_n dX6_removeFromCopy_7 rfl ?_
    refine r_cI dX6_removeFromCopy_8 rfl (invS_eq rfl (by decide) rfl rfl rfl rfl ⟨rfl, Nat.le_of_ble_eq_true rfl⟩) (qCI_imp (fun v4 G3 h => ?_) h)
    refine r_ifeq (tgt := 26) dX6_removeFromCopy_11 (by decide) (ite_imp (fun h => ?_) (fun h => ?_) h)
    · refine r_iconst dX6_removeFromCopy_26 ?_
      exact r_iret dX6_removeFromCopy_27 rfl ⟨rfl, h⟩
    · refine r_aload_n dX6_removeFromCopy_14 rfl ?_
      refine r_getR dX6_removeFromCopy_15 rfl (qFR_imp (fun v5 h => ?_) h)
      refine r_iload_n dX6_removeFromCopy_18 rfl ?_
      refine r_iload_n dX6_removeFromCopy_19 rfl ?_
      refine r_cI dX6_removeFromCopy_20 rfl (invV_eq rfl rfl rfl rfl rfl rfl ⟨rfl, Nat.le_of_ble_eq_true rfl⟩ h.1) (qCI_imp (fun v7 G6 h => ?_) h.2)
      refine r_ifne (tgt := 28) dX6_removeFromCopy_23 (by decide) (ite_imp (fun h => ?_) (fun h => ?_) h)
      · refine r_aload_n dX6_removeFromCopy_28 rfl ?_
        refine r_getR dX6_removeFromCopy_29 rfl (qFR_imp (fun v8 h => ?_) h)
        refine r_iload_n dX6_removeFromCopy_32 rfl ?_
        refine r_iload_n dX6_removeFromCopy_33 rfl ?_
        refine r_cV dX6_removeFromCopy_34 rfl (invV_eq rfl rfl rfl rfl rfl rfl ⟨rfl, Nat.le_of_ble_eq_true rfl⟩ h.1) (qCV_imp (fun G9 h => ?_) h.2)
        refine r_iconst dX6_removeFromCopy_37 ?_
        exact r_iret dX6_removeFromCopy_38 rfl ⟨rfl, h⟩
      · refine r_iconst dX6_removeFromCopy_26 ?_
        exact r_iret dX6_removeFromCopy_27 rfl ⟨rfl, h⟩
theorem e_X6_removeFromCopy {E : Ev} {d : Nat} {G : Hp} {Q : Po} {x0 : Nat} {x1 : Int32} {x2 : Int32} (h : (qCI E d i_X6_isState [.int x1] G fun v2 G1 => (if v2 = 0 then Q (some (.int (iv 0))) G1 else (qCI E d i_X6_isTerminal [.int x2] G1 fun v4 G3 => (if v4 = 0 then Q (some (.int (iv 0))) G3 else (qFR E G3 x0 6 9 fun v5 => (rcv E G3 v5 1 = true ∧ (qCI E d i_X1_canRead [.ref v5, .int x1, .int x2] G3 fun v7 G6 => (if ¬ v7 = 0 then (qFR E G6 x0 6 9 fun v8 => (rcv E G6 v8 1 = true ∧ (qCV E d i_X1_dropTransition [.ref v8, .int x1, .int x2] G6 fun G9 => Q (some (.int (iv 1))) G9))) else Q (some (.int (iv 0))) G6))))))))) : runs E (d + 1) i_X6_removeFromCopy [.ref x0, .int x1, .int x2] G Q := by
  rw [runs_eq (m := (yX6_removeFromCopy, cX6_removeFromCopy, 3, some (.boolean), 2, 6, false, false)) rfl (Nat.le_of_ble_eq_true rfl)]
  exact g_X6_removeFromCopy_0 h
theorem dX6_setBInCopy_0 : decode cX6_setBInCopy 0 = .ok (.iload_n 1, 1) := by decide +kernel
theorem dX6_setBInCopy_1 : decode cX6_setBInCopy 1 = .ok (.invokestatic 114, 3) := by decide +kernel
theorem dX6_setBInCopy_4 : decode cX6_setBInCopy 4 = .ok (.ifCond .eq 10, 3) := by decide +kernel
theorem dX6_setBInCopy_7 : decode cX6_setBInCopy 7 = .ok (.iload_n 2, 1) := by decide +kernel
theorem dX6_setBInCopy_8 : decode cX6_setBInCopy 8 = .ok (.invokestatic 114, 3) := by decide +kernel
theorem dX6_setBInCopy_11 : decode cX6_setBInCopy 11 = .ok (.ifCond .ne 5, 3) := by decide +kernel
theorem dX6_setBInCopy_14 : decode cX6_setBInCopy 14 = .ok (.iconst 0, 1) := by decide +kernel
theorem dX6_setBInCopy_15 : decode cX6_setBInCopy 15 = .ok (.ireturn, 1) := by decide +kernel
theorem dX6_setBInCopy_16 : decode cX6_setBInCopy 16 = .ok (.aload_n 0, 1) := by decide +kernel
theorem dX6_setBInCopy_17 : decode cX6_setBInCopy 17 = .ok (.getfield 66, 3) := by decide +kernel
theorem dX6_setBInCopy_20 : decode cX6_setBInCopy 20 = .ok (.iload_n 1, 1) := by decide +kernel
theorem dX6_setBInCopy_21 : decode cX6_setBInCopy 21 = .ok (.iconst 1, 1) := by decide +kernel
theorem dX6_setBInCopy_22 : decode cX6_setBInCopy 22 = .ok (.iload_n 2, 1) := by decide +kernel
theorem dX6_setBInCopy_23 : decode cX6_setBInCopy 23 = .ok (.iconst 0, 1) := by decide +kernel
theorem dX6_setBInCopy_24 : decode cX6_setBInCopy 24 = .ok (.invokevirtual 150, 3) := by decide +kernel
theorem dX6_setBInCopy_27 : decode cX6_setBInCopy 27 = .ok (.iconst 1, 1) := by decide +kernel
theorem dX6_setBInCopy_28 : decode cX6_setBInCopy 28 = .ok (.ireturn, 1) := by decide +kernel
abbrev x_X6_setBInCopy : Cx := (6, cX6_setBInCopy, false, some (.boolean))
set_option maxRecDepth 10000 in
theorem g_X6_setBInCopy_0 {E : Ev} {d : Nat} {G : Hp} {Q : Po} {x0 : Nat} {x1 : Int32} {x2 : Int32} (h : (qCI E d i_X6_isState [.int x1] G fun v2 G1 => (if v2 = 0 then Q (some (.int (iv 0))) G1 else (qCI E d i_X6_isState [.int x2] G1 fun v4 G3 => (if ¬ v4 = 0 then (qFR E G3 x0 6 9 fun v5 => (rcv E G3 v5 1 = true ∧ (qCV E d i_X1_putTransition [.ref v5, .int x1, .int ((iv 1)), .int x2, .int ((iv 0))] G3 fun G6 => Q (some (.int (iv 1))) G6))) else Q (some (.int (iv 0))) G3))))) : Xr E d x_X6_setBInCopy 0 [some (.ref x0), some (.int x1), some (.int x2)] [] G Q := by
  refine r_iload_n dX6_setBInCopy_0 rfl ?_
  refine r_cI dX6_setBInCopy_1 rfl (invS_eq rfl (by decide) rfl rfl rfl rfl ⟨rfl, Nat.le_of_ble_eq_true rfl⟩) (qCI_imp (fun v2 G1 h => ?_) h)
  refine r_ifeq (tgt := 14) dX6_setBInCopy_4 (by decide) (ite_imp (fun h => ?_) (fun h => ?_) h)
  · refine r_iconst dX6_setBInCopy_14 ?_
    exact r_iret dX6_setBInCopy_15 rfl ⟨rfl, h⟩
  · refine r_iload_n dX6_setBInCopy_7 rfl ?_
    refine r_cI dX6_setBInCopy_8 rfl (invS_eq rfl (by decide) rfl rfl rfl rfl ⟨rfl, Nat.le_of_ble_eq_true rfl⟩) (qCI_imp (fun v4 G3 h => ?_) h)
    refine r_ifne (tgt := 16) dX6_setBInCopy_11 (by decide) (ite_imp (fun h => ?_) (fun h => ?_) h)
    · refine r_aload_n dX6_setBInCopy_16 rfl ?_
      refine r_getR dX6_setBInCopy_17 rfl (qFR_imp (fun v5 h => ?_) h)
      refine r_iload_n dX6_setBInCopy_20 rfl ?_
      refine r_iconst dX6_setBInCopy_21 ?_
      refine r_iload_n dX6_setBInCopy_22 rfl ?_
      refine r_iconst dX6_setBInCopy_23 ?_
      refine r_cV dX6_setBInCopy_24 rfl (invV_eq rfl rfl rfl rfl rfl rfl ⟨rfl, Nat.le_of_ble_eq_true rfl⟩ h.1) (qCV_imp (fun G6 h => ?_) h.2)
      refine r_iconst dX6_setBInCopy_27 ?_
      exact r_iret dX6_setBInCopy_28 rfl ⟨rfl, h⟩
    · refine r_iconst dX6_setBInCopy_14 ?_
      exact r_iret dX6_setBInCopy_15 rfl ⟨rfl, h⟩
theorem e_X6_setBInCopy {E : Ev} {d : Nat} {G : Hp} {Q : Po} {x0 : Nat} {x1 : Int32} {x2 : Int32} (h : (qCI E d i_X6_isState [.int x1] G fun v2 G1 => (if v2 = 0 then Q (some (.int (iv 0))) G1 else (qCI E d i_X6_isState [.int x2] G1 fun v4 G3 => (if ¬ v4 = 0 then (qFR E G3 x0 6 9 fun v5 => (rcv E G3 v5 1 = true ∧ (qCV E d i_X1_putTransition [.ref v5, .int x1, .int ((iv 1)), .int x2, .int ((iv 0))] G3 fun G6 => Q (some (.int (iv 1))) G6))) else Q (some (.int (iv 0))) G3))))) : runs E (d + 1) i_X6_setBInCopy [.ref x0, .int x1, .int x2] G Q := by
  rw [runs_eq (m := (yX6_setBInCopy, cX6_setBInCopy, 3, some (.boolean), 2, 6, false, false)) rfl (Nat.le_of_ble_eq_true rfl)]
  exact g_X6_setBInCopy_0 h
theorem dX6_isNonterminal_0 : decode cX6_isNonterminal 0 = .ok (.iload_n 0, 1) := by decide +kernel
theorem dX6_isNonterminal_1 : decode cX6_isNonterminal 1 = .ok (.ifCond .lt 12, 3) := by decide +kernel
theorem dX6_isNonterminal_4 : decode cX6_isNonterminal 4 = .ok (.iload_n 0, 1) := by decide +kernel
theorem dX6_isNonterminal_5 : decode cX6_isNonterminal 5 = .ok (.iconst 4, 1) := by decide +kernel
theorem dX6_isNonterminal_6 : decode cX6_isNonterminal 6 = .ok (.if_icmp .ge 7, 3) := by decide +kernel
theorem dX6_isNonterminal_9 : decode cX6_isNonterminal 9 = .ok (.iconst 1, 1) := by decide +kernel
theorem dX6_isNonterminal_10 : decode cX6_isNonterminal 10 = .ok (.goto 4, 3) := by decide +kernel
theorem dX6_isNonterminal_13 : decode cX6_isNonterminal 13 = .ok (.iconst 0, 1) := by decide +kernel
theorem dX6_isNonterminal_14 : decode cX6_isNonterminal 14 = .ok (.ireturn, 1) := by decide +kernel
abbrev x_X6_isNonterminal : Cx := (6, cX6_isNonterminal, false, some (.boolean))
set_option maxRecDepth 10000 in
theorem g_X6_isNonterminal_0 {E : Ev} {d : Nat} {G : Hp} {Q : Po} {x0 : Int32} (h : (if x0 < 0 then Q (some (.int (iv 0))) G else (if (iv 4) ≤ x0 then Q (some (.int (iv 0))) G else Q (some (.int (iv 1))) G))) : Xr E d x_X6_isNonterminal 0 [some (.int x0)] [] G Q := by
  refine r_iload_n dX6_isNonterminal_0 rfl ?_
  refine r_iflt (tgt := 13) dX6_isNonterminal_1 (by decide) (ite_imp (fun h => ?_) (fun h => ?_) h)
  · refine r_iconst dX6_isNonterminal_13 ?_
    exact r_iret dX6_isNonterminal_14 rfl ⟨rfl, h⟩
  · refine r_iload_n dX6_isNonterminal_4 rfl ?_
    refine r_iconst dX6_isNonterminal_5 ?_
    refine r_cge (tgt := 13) dX6_isNonterminal_6 (by decide) (ite_imp (fun h => ?_) (fun h => ?_) h)
    · refine r_iconst dX6_isNonterminal_13 ?_
      exact r_iret dX6_isNonterminal_14 rfl ⟨rfl, h⟩
    · refine r_iconst dX6_isNonterminal_9 ?_
      refine r_goto (tgt := 14) dX6_isNonterminal_10 (by decide) ?_
      exact r_iret dX6_isNonterminal_14 rfl ⟨rfl, h⟩
theorem e_X6_isNonterminal {E : Ev} {d : Nat} {G : Hp} {Q : Po} {x0 : Int32} (h : (if x0 < 0 then Q (some (.int (iv 0))) G else (if (iv 4) ≤ x0 then Q (some (.int (iv 0))) G else Q (some (.int (iv 1))) G))) : runs E (d + 1) i_X6_isNonterminal [.int x0] G Q := by
  rw [runs_eq (m := (yX6_isNonterminal, cX6_isNonterminal, 1, some (.boolean), 1, 6, false, true)) rfl (Nat.le_of_ble_eq_true rfl)]
  exact g_X6_isNonterminal_0 h
theorem dX6_isTerminal_0 : decode cX6_isTerminal 0 = .ok (.iload_n 0, 1) := by decide +kernel
theorem dX6_isTerminal_1 : decode cX6_isTerminal 1 = .ok (.ifCond .lt 12, 3) := by decide +kernel
theorem dX6_isTerminal_4 : decode cX6_isTerminal 4 = .ok (.iload_n 0, 1) := by decide +kernel
theorem dX6_isTerminal_5 : decode cX6_isTerminal 5 = .ok (.iconst 4, 1) := by decide +kernel
theorem dX6_isTerminal_6 : decode cX6_isTerminal 6 = .ok (.if_icmp .ge 7, 3) := by decide +kernel
theorem dX6_isTerminal_9 : decode cX6_isTerminal 9 = .ok (.iconst 1, 1) := by decide +kernel
theorem dX6_isTerminal_10 : decode cX6_isTerminal 10 = .ok (.goto 4, 3) := by decide +kernel
theorem dX6_isTerminal_13 : decode cX6_isTerminal 13 = .ok (.iconst 0, 1) := by decide +kernel
theorem dX6_isTerminal_14 : decode cX6_isTerminal 14 = .ok (.ireturn, 1) := by decide +kernel
abbrev x_X6_isTerminal : Cx := (6, cX6_isTerminal, false, some (.boolean))
set_option maxRecDepth 10000 in
theorem g_X6_isTerminal_0 {E : Ev} {d : Nat} {G : Hp} {Q : Po} {x0 : Int32} (h : (if x0 < 0 then Q (some (.int (iv 0))) G else (if (iv 4) ≤ x0 then Q (some (.int (iv 0))) G else Q (some (.int (iv 1))) G))) : Xr E d x_X6_isTerminal 0 [some (.int x0)] [] G Q := by
  refine r_iload_n dX6_isTerminal_0 rfl ?_
  refine r_iflt (tgt := 13) dX6_isTerminal_1 (by decide) (ite_imp (fun h => ?_) (fun h => ?_) h)
  · refine r_iconst dX6_isTerminal_13 ?_
    exact r_iret dX6_isTerminal_14 rfl ⟨rfl, h⟩
  · refine r_iload_n dX6_isTerminal_4 rfl ?_
    refine r_iconst dX6_isTerminal_5 ?_
    refine r_cge (tgt := 13) dX6_isTerminal_6 (by decide) (ite_imp (fun h => ?_) (fun h => ?_) h)
    · refine r_iconst dX6_isTerminal_13 ?_
      exact r_iret dX6_isTerminal_14 rfl ⟨rfl, h⟩
    · refine r_iconst dX6_isTerminal_9 ?_
      refine r_goto (tgt := 14) dX6_isTerminal_10 (by decide) ?_
      exact r_iret dX6_isTerminal_14 rfl ⟨rfl, h⟩
theorem e_X6_isTerminal {E : Ev} {d : Nat} {G : Hp} {Q : Po} {x0 : Int32} (h : (if x0 < 0 then Q (some (.int (iv 0))) G else (if (iv 4) ≤ x0 then Q (some (.int (iv 0))) G else Q (some (.int (iv 1))) G))) : runs E (d + 1) i_X6_isTerminal [.int x0] G Q := by
  rw [runs_eq (m := (yX6_isTerminal, cX6_isTerminal, 1, some (.boolean), 1, 6, false, true)) rfl (Nat.le_of_ble_eq_true rfl)]
  exact g_X6_isTerminal_0 h
theorem dX6_isState_0 : decode cX6_isState 0 = .ok (.iload_n 0, 1) := by decide +kernel
theorem dX6_isState_1 : decode cX6_isState 1 = .ok (.ifCond .lt 12, 3) := by decide +kernel
theorem dX6_isState_4 : decode cX6_isState 4 = .ok (.iload_n 0, 1) := by decide +kernel
theorem dX6_isState_5 : decode cX6_isState 5 = .ok (.iconst 3, 1) := by decide +kernel
theorem dX6_isState_6 : decode cX6_isState 6 = .ok (.if_icmp .ge 7, 3) := by decide +kernel
theorem dX6_isState_9 : decode cX6_isState 9 = .ok (.iconst 1, 1) := by decide +kernel
theorem dX6_isState_10 : decode cX6_isState 10 = .ok (.goto 4, 3) := by decide +kernel
theorem dX6_isState_13 : decode cX6_isState 13 = .ok (.iconst 0, 1) := by decide +kernel
theorem dX6_isState_14 : decode cX6_isState 14 = .ok (.ireturn, 1) := by decide +kernel
abbrev x_X6_isState : Cx := (6, cX6_isState, false, some (.boolean))
set_option maxRecDepth 10000 in
theorem g_X6_isState_0 {E : Ev} {d : Nat} {G : Hp} {Q : Po} {x0 : Int32} (h : (if x0 < 0 then Q (some (.int (iv 0))) G else (if (iv 3) ≤ x0 then Q (some (.int (iv 0))) G else Q (some (.int (iv 1))) G))) : Xr E d x_X6_isState 0 [some (.int x0)] [] G Q := by
  refine r_iload_n dX6_isState_0 rfl ?_
  refine r_iflt (tgt := 13) dX6_isState_1 (by decide) (ite_imp (fun h => ?_) (fun h => ?_) h)
  · refine r_iconst dX6_isState_13 ?_
    exact r_iret dX6_isState_14 rfl ⟨rfl, h⟩
  · refine r_iload_n dX6_isState_4 rfl ?_
    refine r_iconst dX6_isState_5 ?_
    refine r_cge (tgt := 13) dX6_isState_6 (by decide) (ite_imp (fun h => ?_) (fun h => ?_) h)
    · refine r_iconst dX6_isState_13 ?_
      exact r_iret dX6_isState_14 rfl ⟨rfl, h⟩
    · refine r_iconst dX6_isState_9 ?_
      refine r_goto (tgt := 14) dX6_isState_10 (by decide) ?_
      exact r_iret dX6_isState_14 rfl ⟨rfl, h⟩
theorem e_X6_isState {E : Ev} {d : Nat} {G : Hp} {Q : Po} {x0 : Int32} (h : (if x0 < 0 then Q (some (.int (iv 0))) G else (if (iv 3) ≤ x0 then Q (some (.int (iv 0))) G else Q (some (.int (iv 1))) G))) : runs E (d + 1) i_X6_isState [.int x0] G Q := by
  rw [runs_eq (m := (yX6_isState, cX6_isState, 1, some (.boolean), 1, 6, false, true)) rfl (Nat.le_of_ble_eq_true rfl)]
  exact g_X6_isState_0 h
theorem dX6_isDepth_0 : decode cX6_isDepth 0 = .ok (.iload_n 0, 1) := by decide +kernel
theorem dX6_isDepth_1 : decode cX6_isDepth 1 = .ok (.ifCond .lt 13, 3) := by decide +kernel
theorem dX6_isDepth_4 : decode cX6_isDepth 4 = .ok (.iload_n 0, 1) := by decide +kernel
theorem dX6_isDepth_5 : decode cX6_isDepth 5 = .ok (.bipush 6, 2) := by decide +kernel
theorem dX6_isDepth_7 : decode cX6_isDepth 7 = .ok (.if_icmp .gt 7, 3) := by decide +kernel
theorem dX6_isDepth_10 : decode cX6_isDepth 10 = .ok (.iconst 1, 1) := by decide +kernel
theorem dX6_isDepth_11 : decode cX6_isDepth 11 = .ok (.goto 4, 3) := by decide +kernel
theorem dX6_isDepth_14 : decode cX6_isDepth 14 = .ok (.iconst 0, 1) := by decide +kernel
theorem dX6_isDepth_15 : decode cX6_isDepth 15 = .ok (.ireturn, 1) := by decide +kernel
abbrev x_X6_isDepth : Cx := (6, cX6_isDepth, false, some (.boolean))
set_option maxRecDepth 10000 in
theorem g_X6_isDepth_0 {E : Ev} {d : Nat} {G : Hp} {Q : Po} {x0 : Int32} (h : (if x0 < 0 then Q (some (.int (iv 0))) G else (if (iv 6) < x0 then Q (some (.int (iv 0))) G else Q (some (.int (iv 1))) G))) : Xr E d x_X6_isDepth 0 [some (.int x0)] [] G Q := by
  refine r_iload_n dX6_isDepth_0 rfl ?_
  refine r_iflt (tgt := 14) dX6_isDepth_1 (by decide) (ite_imp (fun h => ?_) (fun h => ?_) h)
  · refine r_iconst dX6_isDepth_14 ?_
    exact r_iret dX6_isDepth_15 rfl ⟨rfl, h⟩
  · refine r_iload_n dX6_isDepth_4 rfl ?_
    refine r_bipush dX6_isDepth_5 rfl ?_
    refine r_cgt (tgt := 14) dX6_isDepth_7 (by decide) (ite_imp (fun h => ?_) (fun h => ?_) h)
    · refine r_iconst dX6_isDepth_14 ?_
      exact r_iret dX6_isDepth_15 rfl ⟨rfl, h⟩
    · refine r_iconst dX6_isDepth_10 ?_
      refine r_goto (tgt := 15) dX6_isDepth_11 (by decide) ?_
      exact r_iret dX6_isDepth_15 rfl ⟨rfl, h⟩
theorem e_X6_isDepth {E : Ev} {d : Nat} {G : Hp} {Q : Po} {x0 : Int32} (h : (if x0 < 0 then Q (some (.int (iv 0))) G else (if (iv 6) < x0 then Q (some (.int (iv 0))) G else Q (some (.int (iv 1))) G))) : runs E (d + 1) i_X6_isDepth [.int x0] G Q := by
  rw [runs_eq (m := (yX6_isDepth, cX6_isDepth, 1, some (.boolean), 1, 6, false, true)) rfl (Nat.le_of_ble_eq_true rfl)]
  exact g_X6_isDepth_0 h
theorem dX6_suitsChild_0 : decode cX6_suitsChild 0 = .ok (.iload_n 1, 1) := by decide +kernel
theorem dX6_suitsChild_1 : decode cX6_suitsChild 1 = .ok (.iload_n 0, 1) := by decide +kernel
theorem dX6_suitsChild_2 : decode cX6_suitsChild 2 = .ok (.invokestatic 250, 3) := by decide +kernel
theorem dX6_suitsChild_5 : decode cX6_suitsChild 5 = .ok (.if_icmp .gt 10, 3) := by decide +kernel
theorem dX6_suitsChild_8 : decode cX6_suitsChild 8 = .ok (.iload_n 2, 1) := by decide +kernel
theorem dX6_suitsChild_9 : decode cX6_suitsChild 9 = .ok (.invokestatic 114, 3) := by decide +kernel
theorem dX6_suitsChild_12 : decode cX6_suitsChild 12 = .ok (.goto 12, 3) := by decide +kernel
theorem dX6_suitsChild_15 : decode cX6_suitsChild 15 = .ok (.iload_n 2, 1) := by decide +kernel
theorem dX6_suitsChild_16 : decode cX6_suitsChild 16 = .ok (.ifCond .ne 7, 3) := by decide +kernel
theorem dX6_suitsChild_19 : decode cX6_suitsChild 19 = .ok (.iconst 1, 1) := by decide +kernel
theorem dX6_suitsChild_20 : decode cX6_suitsChild 20 = .ok (.goto 4, 3) := by decide +kernel
theorem dX6_suitsChild_23 : decode cX6_suitsChild 23 = .ok (.iconst 0, 1) := by decide +kernel
theorem dX6_suitsChild_24 : decode cX6_suitsChild 24 = .ok (.ireturn, 1) := by decide +kernel
abbrev x_X6_suitsChild : Cx := (6, cX6_suitsChild, false, some (.boolean))
set_option maxRecDepth 10000 in
theorem g_X6_suitsChild_0 {E : Ev} {d : Nat} {G : Hp} {Q : Po} {x0 : Int32} {x1 : Int32} {x2 : Int32} (h : (qCI E d i_X6_arityOf [.int x0] G fun v2 G1 => (if v2 < x1 then (if ¬ x2 = 0 then Q (some (.int (iv 0))) G1 else Q (some (.int (iv 1))) G1) else (qCI E d i_X6_isState [.int x2] G1 fun v4 G3 => (narrow .boolean (.int v4) = .int v4 ∧ Q (some (.int v4)) G3))))) : Xr E d x_X6_suitsChild 0 [some (.int x0), some (.int x1), some (.int x2)] [] G Q := by
  refine r_iload_n dX6_suitsChild_0 rfl ?_
  refine r_iload_n dX6_suitsChild_1 rfl ?_
  refine r_cI dX6_suitsChild_2 rfl (invS_eq rfl (by decide) rfl rfl rfl rfl ⟨rfl, Nat.le_of_ble_eq_true rfl⟩) (qCI_imp (fun v2 G1 h => ?_) h)
  refine r_cgt (tgt := 15) dX6_suitsChild_5 (by decide) (ite_imp (fun h => ?_) (fun h => ?_) h)
  · refine r_iload_n dX6_suitsChild_15 rfl ?_
    refine r_ifne (tgt := 23) dX6_suitsChild_16 (by decide) (ite_imp (fun h => ?_) (fun h => ?_) h)
    · refine r_iconst dX6_suitsChild_23 ?_
      exact r_iret dX6_suitsChild_24 rfl ⟨rfl, h⟩
    · refine r_iconst dX6_suitsChild_19 ?_
      refine r_goto (tgt := 24) dX6_suitsChild_20 (by decide) ?_
      exact r_iret dX6_suitsChild_24 rfl ⟨rfl, h⟩
  · refine r_iload_n dX6_suitsChild_8 rfl ?_
    refine r_cI dX6_suitsChild_9 rfl (invS_eq rfl (by decide) rfl rfl rfl rfl ⟨rfl, Nat.le_of_ble_eq_true rfl⟩) (qCI_imp (fun v4 G3 h => ?_) h)
    refine r_goto (tgt := 24) dX6_suitsChild_12 (by decide) ?_
    exact r_iret dX6_suitsChild_24 rfl h
theorem e_X6_suitsChild {E : Ev} {d : Nat} {G : Hp} {Q : Po} {x0 : Int32} {x1 : Int32} {x2 : Int32} (h : (qCI E d i_X6_arityOf [.int x0] G fun v2 G1 => (if v2 < x1 then (if ¬ x2 = 0 then Q (some (.int (iv 0))) G1 else Q (some (.int (iv 1))) G1) else (qCI E d i_X6_isState [.int x2] G1 fun v4 G3 => (narrow .boolean (.int v4) = .int v4 ∧ Q (some (.int v4)) G3))))) : runs E (d + 1) i_X6_suitsChild [.int x0, .int x1, .int x2] G Q := by
  rw [runs_eq (m := (yX6_suitsChild, cX6_suitsChild, 3, some (.boolean), 3, 6, false, true)) rfl (Nat.le_of_ble_eq_true rfl)]
  exact g_X6_suitsChild_0 h
theorem dX6_suitsParameter_0 : decode cX6_suitsParameter 0 = .ok (.iload_n 1, 1) := by decide +kernel
theorem dX6_suitsParameter_1 : decode cX6_suitsParameter 1 = .ok (.iload_n 0, 1) := by decide +kernel
theorem dX6_suitsParameter_2 : decode cX6_suitsParameter 2 = .ok (.invokestatic 219, 3) := by decide +kernel
theorem dX6_suitsParameter_5 : decode cX6_suitsParameter 5 = .ok (.if_icmp .gt 21, 3) := by decide +kernel
theorem dX6_suitsParameter_8 : decode cX6_suitsParameter 8 = .ok (.iload_n 2, 1) := by decide +kernel
theorem dX6_suitsParameter_9 : decode cX6_suitsParameter 9 = .ok (.ifCond .lt 13, 3) := by decide +kernel
theorem dX6_suitsParameter_12 : decode cX6_suitsParameter 12 = .ok (.iload_n 2, 1) := by decide +kernel
theorem dX6_suitsParameter_13 : decode cX6_suitsParameter 13 = .ok (.bipush 7, 2) := by decide +kernel
theorem dX6_suitsParameter_15 : decode cX6_suitsParameter 15 = .ok (.if_icmp .gt 7, 3) := by decide +kernel
theorem dX6_suitsParameter_18 : decode cX6_suitsParameter 18 = .ok (.iconst 1, 1) := by decide +kernel
theorem dX6_suitsParameter_19 : decode cX6_suitsParameter 19 = .ok (.goto 16, 3) := by decide +kernel
theorem dX6_suitsParameter_22 : decode cX6_suitsParameter 22 = .ok (.iconst 0, 1) := by decide +kernel
theorem dX6_suitsParameter_23 : decode cX6_suitsParameter 23 = .ok (.goto 12, 3) := by decide +kernel
theorem dX6_suitsParameter_26 : decode cX6_suitsParameter 26 = .ok (.iload_n 2, 1) := by decide +kernel
theorem dX6_suitsParameter_27 : decode cX6_suitsParameter 27 = .ok (.ifCond .ne 7, 3) := by decide +kernel
theorem dX6_suitsParameter_30 : decode cX6_suitsParameter 30 = .ok (.iconst 1, 1) := by decide +kernel
theorem dX6_suitsParameter_31 : decode cX6_suitsParameter 31 = .ok (.goto 4, 3) := by decide +kernel
theorem dX6_suitsParameter_34 : decode cX6_suitsParameter 34 = .ok (.iconst 0, 1) := by decide +kernel
theorem dX6_suitsParameter_35 : decode cX6_suitsParameter 35 = .ok (.ireturn, 1) := by decide +kernel
abbrev x_X6_suitsParameter : Cx := (6, cX6_suitsParameter, false, some (.boolean))
set_option maxRecDepth 10000 in
theorem g_X6_suitsParameter_0 {E : Ev} {d : Nat} {G : Hp} {Q : Po} {x0 : Int32} {x1 : Int32} {x2 : Int32} (h : (qCI E d i_X6_arityOfNonterminal [.int x0] G fun v2 G1 => (if v2 < x1 then (if ¬ x2 = 0 then Q (some (.int (iv 0))) G1 else Q (some (.int (iv 1))) G1) else (if x2 < 0 then Q (some (.int (iv 0))) G1 else (if (iv 7) < x2 then Q (some (.int (iv 0))) G1 else Q (some (.int (iv 1))) G1))))) : Xr E d x_X6_suitsParameter 0 [some (.int x0), some (.int x1), some (.int x2)] [] G Q := by
  refine r_iload_n dX6_suitsParameter_0 rfl ?_
  refine r_iload_n dX6_suitsParameter_1 rfl ?_
  refine r_cI dX6_suitsParameter_2 rfl (invS_eq rfl (by decide) rfl rfl rfl rfl ⟨rfl, Nat.le_of_ble_eq_true rfl⟩) (qCI_imp (fun v2 G1 h => ?_) h)
  refine r_cgt (tgt := 26) dX6_suitsParameter_5 (by decide) (ite_imp (fun h => ?_) (fun h => ?_) h)
  · refine r_iload_n dX6_suitsParameter_26 rfl ?_
    refine r_ifne (tgt := 34) dX6_suitsParameter_27 (by decide) (ite_imp (fun h => ?_) (fun h => ?_) h)
    · refine r_iconst dX6_suitsParameter_34 ?_
      exact r_iret dX6_suitsParameter_35 rfl ⟨rfl, h⟩
    · refine r_iconst dX6_suitsParameter_30 ?_
      refine r_goto (tgt := 35) dX6_suitsParameter_31 (by decide) ?_
      exact r_iret dX6_suitsParameter_35 rfl ⟨rfl, h⟩
  · refine r_iload_n dX6_suitsParameter_8 rfl ?_
    refine r_iflt (tgt := 22) dX6_suitsParameter_9 (by decide) (ite_imp (fun h => ?_) (fun h => ?_) h)
    · refine r_iconst dX6_suitsParameter_22 ?_
      refine r_goto (tgt := 35) dX6_suitsParameter_23 (by decide) ?_
      exact r_iret dX6_suitsParameter_35 rfl ⟨rfl, h⟩
    · refine r_iload_n dX6_suitsParameter_12 rfl ?_
      refine r_bipush dX6_suitsParameter_13 rfl ?_
      refine r_cgt (tgt := 22) dX6_suitsParameter_15 (by decide) (ite_imp (fun h => ?_) (fun h => ?_) h)
      · refine r_iconst dX6_suitsParameter_22 ?_
        refine r_goto (tgt := 35) dX6_suitsParameter_23 (by decide) ?_
        exact r_iret dX6_suitsParameter_35 rfl ⟨rfl, h⟩
      · refine r_iconst dX6_suitsParameter_18 ?_
        refine r_goto (tgt := 35) dX6_suitsParameter_19 (by decide) ?_
        exact r_iret dX6_suitsParameter_35 rfl ⟨rfl, h⟩
theorem e_X6_suitsParameter {E : Ev} {d : Nat} {G : Hp} {Q : Po} {x0 : Int32} {x1 : Int32} {x2 : Int32} (h : (qCI E d i_X6_arityOfNonterminal [.int x0] G fun v2 G1 => (if v2 < x1 then (if ¬ x2 = 0 then Q (some (.int (iv 0))) G1 else Q (some (.int (iv 1))) G1) else (if x2 < 0 then Q (some (.int (iv 0))) G1 else (if (iv 7) < x2 then Q (some (.int (iv 0))) G1 else Q (some (.int (iv 1))) G1))))) : runs E (d + 1) i_X6_suitsParameter [.int x0, .int x1, .int x2] G Q := by
  rw [runs_eq (m := (yX6_suitsParameter, cX6_suitsParameter, 3, some (.boolean), 3, 6, false, true)) rfl (Nat.le_of_ble_eq_true rfl)]
  exact g_X6_suitsParameter_0 h
theorem dX6_arityOf_0 : decode cX6_arityOf 0 = .ok (.iload_n 0, 1) := by decide +kernel
theorem dX6_arityOf_1 : decode cX6_arityOf 1 = .ok (.ifCond .lt 19, 3) := by decide +kernel
theorem dX6_arityOf_4 : decode cX6_arityOf 4 = .ok (.iload_n 0, 1) := by decide +kernel
theorem dX6_arityOf_5 : decode cX6_arityOf 5 = .ok (.getstatic 120, 3) := by decide +kernel
theorem dX6_arityOf_8 : decode cX6_arityOf 8 = .ok (.arraylength, 1) := by decide +kernel
theorem dX6_arityOf_9 : decode cX6_arityOf 9 = .ok (.if_icmp .ge 11, 3) := by decide +kernel
theorem dX6_arityOf_12 : decode cX6_arityOf 12 = .ok (.getstatic 120, 3) := by decide +kernel
theorem dX6_arityOf_15 : decode cX6_arityOf 15 = .ok (.iload_n 0, 1) := by decide +kernel
theorem dX6_arityOf_16 : decode cX6_arityOf 16 = .ok (.iaload, 1) := by decide +kernel
theorem dX6_arityOf_17 : decode cX6_arityOf 17 = .ok (.goto 4, 3) := by decide +kernel
theorem dX6_arityOf_20 : decode cX6_arityOf 20 = .ok (.iconst 0, 1) := by decide +kernel
theorem dX6_arityOf_21 : decode cX6_arityOf 21 = .ok (.ireturn, 1) := by decide +kernel
abbrev x_X6_arityOf : Cx := (6, cX6_arityOf, false, some (.int))
set_option maxRecDepth 10000 in
theorem g_X6_arityOf_0 {E : Ev} {d : Nat} {G : Hp} {Q : Po} {x0 : Int32} (h : (if x0 < 0 then Q (some (.int (iv 0))) G else (qL 6 E G (eA E) fun v1 => (if v1 ≤ x0 then Q (some (.int (iv 0))) G else (qIA 6 E G (eA E) x0 fun v2 => Q (some (.int v2)) G))))) : Xr E d x_X6_arityOf 0 [some (.int x0)] [] G Q := by
  refine r_iload_n dX6_arityOf_0 rfl ?_
  refine r_iflt (tgt := 20) dX6_arityOf_1 (by decide) (ite_imp (fun h => ?_) (fun h => ?_) h)
  · refine r_iconst dX6_arityOf_20 ?_
    exact r_iret dX6_arityOf_21 rfl ⟨rfl, h⟩
  · refine r_iload_n dX6_arityOf_4 rfl ?_
    refine r_gets dX6_arityOf_5 rfl ?_
    refine r_alen dX6_arityOf_8 (qL_imp (fun v1 h => ?_) h)
    refine r_cge (tgt := 20) dX6_arityOf_9 (by decide) (ite_imp (fun h => ?_) (fun h => ?_) h)
    · refine r_iconst dX6_arityOf_20 ?_
      exact r_iret dX6_arityOf_21 rfl ⟨rfl, h⟩
    · refine r_gets dX6_arityOf_12 rfl ?_
      refine r_iload_n dX6_arityOf_15 rfl ?_
      refine r_iald dX6_arityOf_16 (qIA_imp (fun v2 h => ?_) h)
      refine r_goto (tgt := 21) dX6_arityOf_17 (by decide) ?_
      exact r_iret dX6_arityOf_21 rfl ⟨rfl, h⟩
theorem e_X6_arityOf {E : Ev} {d : Nat} {G : Hp} {Q : Po} {x0 : Int32} (h : (if x0 < 0 then Q (some (.int (iv 0))) G else (qL 6 E G (eA E) fun v1 => (if v1 ≤ x0 then Q (some (.int (iv 0))) G else (qIA 6 E G (eA E) x0 fun v2 => Q (some (.int v2)) G))))) : runs E (d + 1) i_X6_arityOf [.int x0] G Q := by
  rw [runs_eq (m := (yX6_arityOf, cX6_arityOf, 1, some (.int), 1, 6, false, true)) rfl (Nat.le_of_ble_eq_true rfl)]
  exact g_X6_arityOf_0 h
theorem dX6_arityOfNonterminal_0 : decode cX6_arityOfNonterminal 0 = .ok (.iconst 4, 1) := by decide +kernel
theorem dX6_arityOfNonterminal_1 : decode cX6_arityOfNonterminal 1 = .ok (.iload_n 0, 1) := by decide +kernel
theorem dX6_arityOfNonterminal_2 : decode cX6_arityOfNonterminal 2 = .ok (.iadd, 1) := by decide +kernel
theorem dX6_arityOfNonterminal_3 : decode cX6_arityOfNonterminal 3 = .ok (.invokestatic 250, 3) := by decide +kernel
theorem dX6_arityOfNonterminal_6 : decode cX6_arityOfNonterminal 6 = .ok (.ireturn, 1) := by decide +kernel
abbrev x_X6_arityOfNonterminal : Cx := (6, cX6_arityOfNonterminal, false, some (.int))
set_option maxRecDepth 10000 in
theorem g_X6_arityOfNonterminal_0 {E : Ev} {d : Nat} {G : Hp} {Q : Po} {x0 : Int32} (h : (qCI E d i_X6_arityOf [.int (((iv 4) + x0))] G fun v2 G1 => Q (some (.int v2)) G1)) : Xr E d x_X6_arityOfNonterminal 0 [some (.int x0)] [] G Q := by
  refine r_iconst dX6_arityOfNonterminal_0 ?_
  refine r_iload_n dX6_arityOfNonterminal_1 rfl ?_
  refine r_iadd dX6_arityOfNonterminal_2 ?_
  refine r_cI dX6_arityOfNonterminal_3 rfl (invS_eq rfl (by decide) rfl rfl rfl rfl ⟨rfl, Nat.le_of_ble_eq_true rfl⟩) (qCI_imp (fun v2 G1 h => ?_) h)
  exact r_iret dX6_arityOfNonterminal_6 rfl ⟨rfl, h⟩
theorem e_X6_arityOfNonterminal {E : Ev} {d : Nat} {G : Hp} {Q : Po} {x0 : Int32} (h : (qCI E d i_X6_arityOf [.int (((iv 4) + x0))] G fun v2 G1 => Q (some (.int v2)) G1)) : runs E (d + 1) i_X6_arityOfNonterminal [.int x0] G Q := by
  rw [runs_eq (m := (yX6_arityOfNonterminal, cX6_arityOfNonterminal, 1, some (.int), 1, 6, false, true)) rfl (Nat.le_of_ble_eq_true rfl)]
  exact g_X6_arityOfNonterminal_0 h
theorem dX6_codeOf_0 : decode cX6_codeOf 0 = .ok (.iload_n 0, 1) := by decide +kernel
theorem dX6_codeOf_1 : decode cX6_codeOf 1 = .ok (.ifCond .lt 21, 3) := by decide +kernel
theorem dX6_codeOf_4 : decode cX6_codeOf 4 = .ok (.iload_n 0, 1) := by decide +kernel
theorem dX6_codeOf_5 : decode cX6_codeOf 5 = .ok (.ldc 253, 2) := by decide +kernel
theorem dX6_codeOf_7 : decode cX6_codeOf 7 = .ok (.invokevirtual 255, 3) := by decide +kernel
theorem dX6_codeOf_10 : decode cX6_codeOf 10 = .ok (.if_icmp .ge 12, 3) := by decide +kernel
theorem dX6_codeOf_13 : decode cX6_codeOf 13 = .ok (.ldc 253, 2) := by decide +kernel
theorem dX6_codeOf_15 : decode cX6_codeOf 15 = .ok (.iload_n 0, 1) := by decide +kernel
theorem dX6_codeOf_16 : decode cX6_codeOf 16 = .ok (.invokevirtual 260, 3) := by decide +kernel
theorem dX6_codeOf_19 : decode cX6_codeOf 19 = .ok (.goto 4, 3) := by decide +kernel
theorem dX6_codeOf_22 : decode cX6_codeOf 22 = .ok (.iconst 0, 1) := by decide +kernel
theorem dX6_codeOf_23 : decode cX6_codeOf 23 = .ok (.ireturn, 1) := by decide +kernel
abbrev x_X6_codeOf : Cx := (6, cX6_codeOf, false, some (.int))
set_option maxRecDepth 10000 in
theorem g_X6_codeOf_0 {E : Ev} {d : Nat} {G : Hp} {Q : Po} {x0 : Int32} (h : (if x0 < 0 then Q (some (.int (iv 0))) G else (rcv E G (eS E) 9 = true ∧ (qCI E d i_J0_length_8abf5 [.ref ((eS E))] G fun v2 G1 => (if v2 ≤ x0 then Q (some (.int (iv 0))) G1 else (rcv E G1 (eS E) 9 = true ∧ (qCI E d i_J0_charAt_5068e [.ref ((eS E)), .int x0] G1 fun v4 G3 => Q (some (.int v4)) G3))))))) : Xr E d x_X6_codeOf 0 [some (.int x0)] [] G Q := by
  refine r_iload_n dX6_codeOf_0 rfl ?_
  refine r_iflt (tgt := 22) dX6_codeOf_1 (by decide) (ite_imp (fun h => ?_) (fun h => ?_) h)
  · refine r_iconst dX6_codeOf_22 ?_
    exact r_iret dX6_codeOf_23 rfl ⟨rfl, h⟩
  · refine r_iload_n dX6_codeOf_4 rfl ?_
    refine r_ldcS dX6_codeOf_5 rfl ?_
    refine r_cI dX6_codeOf_7 rfl (invV_eq rfl rfl rfl rfl rfl rfl ⟨rfl, Nat.le_of_ble_eq_true rfl⟩ h.1) (qCI_imp (fun v2 G1 h => ?_) h.2)
    refine r_cge (tgt := 22) dX6_codeOf_10 (by decide) (ite_imp (fun h => ?_) (fun h => ?_) h)
    · refine r_iconst dX6_codeOf_22 ?_
      exact r_iret dX6_codeOf_23 rfl ⟨rfl, h⟩
    · refine r_ldcS dX6_codeOf_13 rfl ?_
      refine r_iload_n dX6_codeOf_15 rfl ?_
      refine r_cI dX6_codeOf_16 rfl (invV_eq rfl rfl rfl rfl rfl rfl ⟨rfl, Nat.le_of_ble_eq_true rfl⟩ h.1) (qCI_imp (fun v4 G3 h => ?_) h.2)
      refine r_goto (tgt := 23) dX6_codeOf_19 (by decide) ?_
      exact r_iret dX6_codeOf_23 rfl ⟨rfl, h⟩
theorem e_X6_codeOf {E : Ev} {d : Nat} {G : Hp} {Q : Po} {x0 : Int32} (h : (if x0 < 0 then Q (some (.int (iv 0))) G else (rcv E G (eS E) 9 = true ∧ (qCI E d i_J0_length_8abf5 [.ref ((eS E))] G fun v2 G1 => (if v2 ≤ x0 then Q (some (.int (iv 0))) G1 else (rcv E G1 (eS E) 9 = true ∧ (qCI E d i_J0_charAt_5068e [.ref ((eS E)), .int x0] G1 fun v4 G3 => Q (some (.int v4)) G3))))))) : runs E (d + 1) i_X6_codeOf [.int x0] G Q := by
  rw [runs_eq (m := (yX6_codeOf, cX6_codeOf, 1, some (.int), 1, 6, false, true)) rfl (Nat.le_of_ble_eq_true rfl)]
  exact g_X6_codeOf_0 h
theorem dX6_setsOf_0 : decode cX6_setsOf 0 = .ok (.iload_n 0, 1) := by decide +kernel
theorem dX6_setsOf_1 : decode cX6_setsOf 1 = .ok (.bipush 8, 2) := by decide +kernel
theorem dX6_setsOf_3 : decode cX6_setsOf 3 = .ok (.iload_n 1, 1) := by decide +kernel
theorem dX6_setsOf_4 : decode cX6_setsOf 4 = .ok (.imul, 1) := by decide +kernel
theorem dX6_setsOf_5 : decode cX6_setsOf 5 = .ok (.iadd, 1) := by decide +kernel
theorem dX6_setsOf_6 : decode cX6_setsOf 6 = .ok (.ireturn, 1) := by decide +kernel
abbrev x_X6_setsOf : Cx := (6, cX6_setsOf, false, some (.int))
set_option maxRecDepth 10000 in
theorem g_X6_setsOf_0 {E : Ev} {d : Nat} {G : Hp} {Q : Po} {x0 : Int32} {x1 : Int32} (h : Q (some (.int (x0 + ((iv 8) * x1)))) G) : Xr E d x_X6_setsOf 0 [some (.int x0), some (.int x1)] [] G Q := by
  refine r_iload_n dX6_setsOf_0 rfl ?_
  refine r_bipush dX6_setsOf_1 rfl ?_
  refine r_iload_n dX6_setsOf_3 rfl ?_
  refine r_imul dX6_setsOf_4 ?_
  refine r_iadd dX6_setsOf_5 ?_
  exact r_iret dX6_setsOf_6 rfl ⟨rfl, h⟩
theorem e_X6_setsOf {E : Ev} {d : Nat} {G : Hp} {Q : Po} {x0 : Int32} {x1 : Int32} (h : Q (some (.int (x0 + ((iv 8) * x1)))) G) : runs E (d + 1) i_X6_setsOf [.int x0, .int x1] G Q := by
  rw [runs_eq (m := (yX6_setsOf, cX6_setsOf, 2, some (.int), 2, 6, false, true)) rfl (Nat.le_of_ble_eq_true rfl)]
  exact g_X6_setsOf_0 h
theorem dX6_firstOf_0 : decode cX6_firstOf 0 = .ok (.iload_n 0, 1) := by decide +kernel
theorem dX6_firstOf_1 : decode cX6_firstOf 1 = .ok (.bipush 7, 2) := by decide +kernel
theorem dX6_firstOf_3 : decode cX6_firstOf 3 = .ok (.iand, 1) := by decide +kernel
theorem dX6_firstOf_4 : decode cX6_firstOf 4 = .ok (.ireturn, 1) := by decide +kernel
abbrev x_X6_firstOf : Cx := (6, cX6_firstOf, false, some (.int))
set_option maxRecDepth 10000 in
theorem g_X6_firstOf_0 {E : Ev} {d : Nat} {G : Hp} {Q : Po} {x0 : Int32} (h : Q (some (.int (x0 &&& (iv 7)))) G) : Xr E d x_X6_firstOf 0 [some (.int x0)] [] G Q := by
  refine r_iload_n dX6_firstOf_0 rfl ?_
  refine r_bipush dX6_firstOf_1 rfl ?_
  refine r_iand dX6_firstOf_3 ?_
  exact r_iret dX6_firstOf_4 rfl ⟨rfl, h⟩
theorem e_X6_firstOf {E : Ev} {d : Nat} {G : Hp} {Q : Po} {x0 : Int32} (h : Q (some (.int (x0 &&& (iv 7)))) G) : runs E (d + 1) i_X6_firstOf [.int x0] G Q := by
  rw [runs_eq (m := (yX6_firstOf, cX6_firstOf, 1, some (.int), 1, 6, false, true)) rfl (Nat.le_of_ble_eq_true rfl)]
  exact g_X6_firstOf_0 h
theorem dX6_secondOf_0 : decode cX6_secondOf 0 = .ok (.iload_n 0, 1) := by decide +kernel
theorem dX6_secondOf_1 : decode cX6_secondOf 1 = .ok (.iconst 3, 1) := by decide +kernel
theorem dX6_secondOf_2 : decode cX6_secondOf 2 = .ok (.ishr, 1) := by decide +kernel
theorem dX6_secondOf_3 : decode cX6_secondOf 3 = .ok (.ireturn, 1) := by decide +kernel
abbrev x_X6_secondOf : Cx := (6, cX6_secondOf, false, some (.int))
set_option maxRecDepth 10000 in
theorem g_X6_secondOf_0 {E : Ev} {d : Nat} {G : Hp} {Q : Po} {x0 : Int32} (h : Q (some (.int (x0 >>> ((iv 3) &&& 31)))) G) : Xr E d x_X6_secondOf 0 [some (.int x0)] [] G Q := by
  refine r_iload_n dX6_secondOf_0 rfl ?_
  refine r_iconst dX6_secondOf_1 ?_
  refine r_ishr dX6_secondOf_2 ?_
  exact r_iret dX6_secondOf_3 rfl ⟨rfl, h⟩
theorem e_X6_secondOf {E : Ev} {d : Nat} {G : Hp} {Q : Po} {x0 : Int32} (h : Q (some (.int (x0 >>> ((iv 3) &&& 31)))) G) : runs E (d + 1) i_X6_secondOf [.int x0] G Q := by
  rw [runs_eq (m := (yX6_secondOf, cX6_secondOf, 1, some (.int), 1, 6, false, true)) rfl (Nat.le_of_ble_eq_true rfl)]
  exact g_X6_secondOf_0 h
theorem dX6_childOf_0 : decode cX6_childOf 0 = .ok (.iconst 2, 1) := by decide +kernel
theorem dX6_childOf_1 : decode cX6_childOf 1 = .ok (.iload_n 0, 1) := by decide +kernel
theorem dX6_childOf_2 : decode cX6_childOf 2 = .ok (.imul, 1) := by decide +kernel
theorem dX6_childOf_3 : decode cX6_childOf 3 = .ok (.iload_n 1, 1) := by decide +kernel
theorem dX6_childOf_4 : decode cX6_childOf 4 = .ok (.iadd, 1) := by decide +kernel
theorem dX6_childOf_5 : decode cX6_childOf 5 = .ok (.iconst 1, 1) := by decide +kernel
theorem dX6_childOf_6 : decode cX6_childOf 6 = .ok (.isub, 1) := by decide +kernel
theorem dX6_childOf_7 : decode cX6_childOf 7 = .ok (.ireturn, 1) := by decide +kernel
abbrev x_X6_childOf : Cx := (6, cX6_childOf, false, some (.int))
set_option maxRecDepth 10000 in
theorem g_X6_childOf_0 {E : Ev} {d : Nat} {G : Hp} {Q : Po} {x0 : Int32} {x1 : Int32} (h : Q (some (.int ((((iv 2) * x0) + x1) - (iv 1)))) G) : Xr E d x_X6_childOf 0 [some (.int x0), some (.int x1)] [] G Q := by
  refine r_iconst dX6_childOf_0 ?_
  refine r_iload_n dX6_childOf_1 rfl ?_
  refine r_imul dX6_childOf_2 ?_
  refine r_iload_n dX6_childOf_3 rfl ?_
  refine r_iadd dX6_childOf_4 ?_
  refine r_iconst dX6_childOf_5 ?_
  refine r_isub dX6_childOf_6 ?_
  exact r_iret dX6_childOf_7 rfl ⟨rfl, h⟩
theorem e_X6_childOf {E : Ev} {d : Nat} {G : Hp} {Q : Po} {x0 : Int32} {x1 : Int32} (h : Q (some (.int ((((iv 2) * x0) + x1) - (iv 1)))) G) : runs E (d + 1) i_X6_childOf [.int x0, .int x1] G Q := by
  rw [runs_eq (m := (yX6_childOf, cX6_childOf, 2, some (.int), 2, 6, false, true)) rfl (Nat.le_of_ble_eq_true rfl)]
  exact g_X6_childOf_0 h
theorem dX6_nodeOf_0 : decode cX6_nodeOf 0 = .ok (.iload_n 0, 1) := by decide +kernel
theorem dX6_nodeOf_1 : decode cX6_nodeOf 1 = .ok (.ifCond .lt 10, 3) := by decide +kernel
theorem dX6_nodeOf_4 : decode cX6_nodeOf 4 = .ok (.iload_n 0, 1) := by decide +kernel
theorem dX6_nodeOf_5 : decode cX6_nodeOf 5 = .ok (.ldc_w 264, 3) := by decide +kernel
theorem dX6_nodeOf_8 : decode cX6_nodeOf 8 = .ok (.if_icmp .le 5, 3) := by decide +kernel
theorem dX6_nodeOf_11 : decode cX6_nodeOf 11 = .ok (.iconst 0, 1) := by decide +kernel
theorem dX6_nodeOf_12 : decode cX6_nodeOf 12 = .ok (.ireturn, 1) := by decide +kernel
theorem dX6_nodeOf_13 : decode cX6_nodeOf 13 = .ok (.iconst 1, 1) := by decide +kernel
theorem dX6_nodeOf_14 : decode cX6_nodeOf 14 = .ok (.istore_n 1, 1) := by decide +kernel
theorem dX6_nodeOf_15 : decode cX6_nodeOf 15 = .ok (.ldc_w 265, 3) := by decide +kernel
theorem dX6_nodeOf_18 : decode cX6_nodeOf 18 = .ok (.istore_n 2, 1) := by decide +kernel
theorem dX6_nodeOf_19 : decode cX6_nodeOf 19 = .ok (.iload_n 2, 1) := by decide +kernel
theorem dX6_nodeOf_20 : decode cX6_nodeOf 20 = .ok (.ifCond .le 41, 3) := by decide +kernel
theorem dX6_nodeOf_23 : decode cX6_nodeOf 23 = .ok (.iload_n 0, 1) := by decide +kernel
theorem dX6_nodeOf_24 : decode cX6_nodeOf 24 = .ok (.iload_n 2, 1) := by decide +kernel
theorem dX6_nodeOf_25 : decode cX6_nodeOf 25 = .ok (.if_icmp .lt 28, 3) := by decide +kernel
theorem dX6_nodeOf_28 : decode cX6_nodeOf 28 = .ok (.iload_n 0, 1) := by decide +kernel
theorem dX6_nodeOf_29 : decode cX6_nodeOf 29 = .ok (.iload_n 2, 1) := by decide +kernel
theorem dX6_nodeOf_30 : decode cX6_nodeOf 30 = .ok (.idiv, 1) := by decide +kernel
theorem dX6_nodeOf_31 : decode cX6_nodeOf 31 = .ok (.bipush 10, 2) := by decide +kernel
theorem dX6_nodeOf_33 : decode cX6_nodeOf 33 = .ok (.irem, 1) := by decide +kernel
theorem dX6_nodeOf_34 : decode cX6_nodeOf 34 = .ok (.istore_n 3, 1) := by decide +kernel
theorem dX6_nodeOf_35 : decode cX6_nodeOf 35 = .ok (.iload_n 3, 1) := by decide +kernel
theorem dX6_nodeOf_36 : decode cX6_nodeOf 36 = .ok (.iconst 1, 1) := by decide +kernel
theorem dX6_nodeOf_37 : decode cX6_nodeOf 37 = .ok (.if_icmp .eq 10, 3) := by decide +kernel
theorem dX6_nodeOf_40 : decode cX6_nodeOf 40 = .ok (.iload_n 3, 1) := by decide +kernel
theorem dX6_nodeOf_41 : decode cX6_nodeOf 41 = .ok (.iconst 2, 1) := by decide +kernel
theorem dX6_nodeOf_42 : decode cX6_nodeOf 42 = .ok (.if_icmp .eq 5, 3) := by decide +kernel
theorem dX6_nodeOf_45 : decode cX6_nodeOf 45 = .ok (.iconst 0, 1) := by decide +kernel
theorem dX6_nodeOf_46 : decode cX6_nodeOf 46 = .ok (.ireturn, 1) := by decide +kernel
theorem dX6_nodeOf_47 : decode cX6_nodeOf 47 = .ok (.iload_n 1, 1) := by decide +kernel
theorem dX6_nodeOf_48 : decode cX6_nodeOf 48 = .ok (.iload_n 3, 1) := by decide +kernel
theorem dX6_nodeOf_49 : decode cX6_nodeOf 49 = .ok (.invokestatic 241, 3) := by decide +kernel
theorem dX6_nodeOf_52 : decode cX6_nodeOf 52 = .ok (.istore_n 1, 1) := by decide +kernel
theorem dX6_nodeOf_53 : decode cX6_nodeOf 53 = .ok (.iload_n 2, 1) := by decide +kernel
theorem dX6_nodeOf_54 : decode cX6_nodeOf 54 = .ok (.bipush 10, 2) := by decide +kernel
theorem dX6_nodeOf_56 : decode cX6_nodeOf 56 = .ok (.idiv, 1) := by decide +kernel
theorem dX6_nodeOf_57 : decode cX6_nodeOf 57 = .ok (.istore_n 2, 1) := by decide +kernel
theorem dX6_nodeOf_58 : decode cX6_nodeOf 58 = .ok (.goto (-39), 3) := by decide +kernel
theorem dX6_nodeOf_61 : decode cX6_nodeOf 61 = .ok (.iload_n 1, 1) := by decide +kernel
theorem dX6_nodeOf_62 : decode cX6_nodeOf 62 = .ok (.ireturn, 1) := by decide +kernel
abbrev x_X6_nodeOf : Cx := (6, cX6_nodeOf, false, some (.int))
set_option maxRecDepth 10000 in
theorem g_X6_nodeOf_0 {E : Ev} {d : Nat} {G : Hp} {Q : Po} {x0 : Int32} (h : (if x0 < 0 then Q (some (.int (iv 0))) G else (if x0 ≤ (iv 999999) then Xr E d x_X6_nodeOf 19 [some (.int x0), some (.int ((iv 1))), some (.int ((iv 100000))), none] [] G Q else Q (some (.int (iv 0))) G))) : Xr E d x_X6_nodeOf 0 [some (.int x0), none, none, none] [] G Q := by
  refine r_iload_n dX6_nodeOf_0 rfl ?_
  refine r_iflt (tgt := 11) dX6_nodeOf_1 (by decide) (ite_imp (fun h => ?_) (fun h => ?_) h)
  · refine r_iconst dX6_nodeOf_11 ?_
    exact r_iret dX6_nodeOf_12 rfl ⟨rfl, h⟩
  · refine r_iload_n dX6_nodeOf_4 rfl ?_
    refine r_ldcw (z := 999999) dX6_nodeOf_5 rfl rfl ?_
    refine r_cle (tgt := 13) dX6_nodeOf_8 (by decide) (ite_imp (fun h => ?_) (fun h => ?_) h)
    · refine r_iconst dX6_nodeOf_13 ?_
      refine r_istore_n dX6_nodeOf_14 rfl ?_
      refine r_ldcw (z := 100000) dX6_nodeOf_15 rfl rfl ?_
      refine r_istore_n dX6_nodeOf_18 rfl ?_
      exact h
    · refine r_iconst dX6_nodeOf_11 ?_
      exact r_iret dX6_nodeOf_12 rfl ⟨rfl, h⟩
theorem e_X6_nodeOf {E : Ev} {d : Nat} {G : Hp} {Q : Po} {x0 : Int32} (h : (if x0 < 0 then Q (some (.int (iv 0))) G else (if x0 ≤ (iv 999999) then Xr E d x_X6_nodeOf 19 [some (.int x0), some (.int ((iv 1))), some (.int ((iv 100000))), none] [] G Q else Q (some (.int (iv 0))) G))) : runs E (d + 1) i_X6_nodeOf [.int x0] G Q := by
  rw [runs_eq (m := (yX6_nodeOf, cX6_nodeOf, 4, some (.int), 1, 6, false, true)) rfl (Nat.le_of_ble_eq_true rfl)]
  exact g_X6_nodeOf_0 h
set_option maxRecDepth 10000 in
theorem g_X6_nodeOf_19 {E : Ev} {d : Nat} {G : Hp} {Q : Po} {x0 : Int32} {x1 : Int32} {x2 : Int32} {l3 : Option Value} (h : (if x2 ≤ 0 then Q (some (.int x1)) G else (if x0 < x2 then Xr E d x_X6_nodeOf 19 [some (.int x0), some (.int x1), some (.int ((x2 / (iv 10)))), l3] [] G Q else (¬ x2 = 0 ∧ (if ((x0 / x2) - (x0 / x2) / (iv 10) * (iv 10)) = (iv 1) then Xr E d x_X6_nodeOf 47 [some (.int x0), some (.int x1), some (.int x2), some (.int (((x0 / x2) - (x0 / x2) / (iv 10) * (iv 10))))] [] G Q else (if ((x0 / x2) - (x0 / x2) / (iv 10) * (iv 10)) = (iv 2) then Xr E d x_X6_nodeOf 47 [some (.int x0), some (.int x1), some (.int x2), some (.int (((x0 / x2) - (x0 / x2) / (iv 10) * (iv 10))))] [] G Q else Q (some (.int (iv 0))) G)))))) : Xr E d x_X6_nodeOf 19 [some (.int x0), some (.int x1), some (.int x2), l3] [] G Q := by
  refine r_iload_n dX6_nodeOf_19 rfl ?_
  refine r_ifle (tgt := 61) dX6_nodeOf_20 (by decide) (ite_imp (fun h => ?_) (fun h => ?_) h)
  · refine r_iload_n dX6_nodeOf_61 rfl ?_
    exact r_iret dX6_nodeOf_62 rfl ⟨rfl, h⟩
  · refine r_iload_n dX6_nodeOf_23 rfl ?_
    refine r_iload_n dX6_nodeOf_24 rfl ?_
    refine r_clt (tgt := 53) dX6_nodeOf_25 (by decide) (ite_imp (fun h => ?_) (fun h => ?_) h)
    · refine r_iload_n dX6_nodeOf_53 rfl ?_
      refine r_bipush dX6_nodeOf_54 rfl ?_
      refine r_idiv dX6_nodeOf_56 ⟨by decide, ?_⟩
      refine r_istore_n dX6_nodeOf_57 rfl ?_
      refine r_goto (tgt := 19) dX6_nodeOf_58 (by decide) ?_
      exact h
    · refine r_iload_n dX6_nodeOf_28 rfl ?_
      refine r_iload_n dX6_nodeOf_29 rfl ?_
      refine r_idiv dX6_nodeOf_30 ⟨h.1, ?_⟩
      replace h := h.2
      refine r_bipush dX6_nodeOf_31 rfl ?_
      refine r_irem dX6_nodeOf_33 ⟨by decide, ?_⟩
      refine r_istore_n dX6_nodeOf_34 rfl ?_
      refine r_iload_n dX6_nodeOf_35 rfl ?_
      refine r_iconst dX6_nodeOf_36 ?_
      refine r_ceq (tgt := 47) dX6_nodeOf_37 (by decide) (ite_imp (fun h => ?_) (fun h => ?_) h)
      · exact h
      · refine r_iload_n dX6_nodeOf_40 rfl ?_
        refine r_iconst dX6_nodeOf_41 ?_
        refine r_ceq (tgt := 47) dX6_nodeOf_42 (by decide) (ite_imp (fun h => ?_) (fun h => ?_) h)
        · exact h
        · refine r_iconst dX6_nodeOf_45 ?_
          exact r_iret dX6_nodeOf_46 rfl ⟨rfl, h⟩
set_option maxRecDepth 10000 in
theorem g_X6_nodeOf_47 {E : Ev} {d : Nat} {G : Hp} {Q : Po} {x0 : Int32} {x1 : Int32} {x2 : Int32} {x3 : Int32} (h : (qCI E d i_X6_childOf [.int x1, .int x3] G fun v2 G1 => Xr E d x_X6_nodeOf 19 [some (.int x0), some (.int v2), some (.int ((x2 / (iv 10)))), some (.int x3)] [] G1 Q)) : Xr E d x_X6_nodeOf 47 [some (.int x0), some (.int x1), some (.int x2), some (.int x3)] [] G Q := by
  refine r_iload_n dX6_nodeOf_47 rfl ?_
  refine r_iload_n dX6_nodeOf_48 rfl ?_
  refine r_cI dX6_nodeOf_49 rfl (invS_eq rfl (by decide) rfl rfl rfl rfl ⟨rfl, Nat.le_of_ble_eq_true rfl⟩) (qCI_imp (fun v2 G1 h => ?_) h)
  refine r_istore_n dX6_nodeOf_52 rfl ?_
  refine r_iload_n dX6_nodeOf_53 rfl ?_
  refine r_bipush dX6_nodeOf_54 rfl ?_
  refine r_idiv dX6_nodeOf_56 ⟨by decide, ?_⟩
  refine r_istore_n dX6_nodeOf_57 rfl ?_
  refine r_goto (tgt := 19) dX6_nodeOf_58 (by decide) ?_
  exact h
theorem dX6_pathOf_0 : decode cX6_pathOf 0 = .ok (.iconst 0, 1) := by decide +kernel
theorem dX6_pathOf_1 : decode cX6_pathOf 1 = .ok (.istore_n 1, 1) := by decide +kernel
theorem dX6_pathOf_2 : decode cX6_pathOf 2 = .ok (.iconst 1, 1) := by decide +kernel
theorem dX6_pathOf_3 : decode cX6_pathOf 3 = .ok (.istore_n 2, 1) := by decide +kernel
theorem dX6_pathOf_4 : decode cX6_pathOf 4 = .ok (.iload_n 0, 1) := by decide +kernel
theorem dX6_pathOf_5 : decode cX6_pathOf 5 = .ok (.istore_n 3, 1) := by decide +kernel
theorem dX6_pathOf_6 : decode cX6_pathOf 6 = .ok (.iload_n 3, 1) := by decide +kernel
theorem dX6_pathOf_7 : decode cX6_pathOf 7 = .ok (.iconst 1, 1) := by decide +kernel
theorem dX6_pathOf_8 : decode cX6_pathOf 8 = .ok (.if_icmp .le 25, 3) := by decide +kernel
theorem dX6_pathOf_11 : decode cX6_pathOf 11 = .ok (.iload_n 1, 1) := by decide +kernel
theorem dX6_pathOf_12 : decode cX6_pathOf 12 = .ok (.iload_n 2, 1) := by decide +kernel
theorem dX6_pathOf_13 : decode cX6_pathOf 13 = .ok (.iconst 1, 1) := by decide +kernel
theorem dX6_pathOf_14 : decode cX6_pathOf 14 = .ok (.iload_n 3, 1) := by decide +kernel
theorem dX6_pathOf_15 : decode cX6_pathOf 15 = .ok (.iconst 1, 1) := by decide +kernel
theorem dX6_pathOf_16 : decode cX6_pathOf 16 = .ok (.iand, 1) := by decide +kernel
theorem dX6_pathOf_17 : decode cX6_pathOf 17 = .ok (.iadd, 1) := by decide +kernel
theorem dX6_pathOf_18 : decode cX6_pathOf 18 = .ok (.imul, 1) := by decide +kernel
theorem dX6_pathOf_19 : decode cX6_pathOf 19 = .ok (.iadd, 1) := by decide +kernel
theorem dX6_pathOf_20 : decode cX6_pathOf 20 = .ok (.istore_n 1, 1) := by decide +kernel
theorem dX6_pathOf_21 : decode cX6_pathOf 21 = .ok (.iload_n 2, 1) := by decide +kernel
theorem dX6_pathOf_22 : decode cX6_pathOf 22 = .ok (.bipush 10, 2) := by decide +kernel
theorem dX6_pathOf_24 : decode cX6_pathOf 24 = .ok (.imul, 1) := by decide +kernel
theorem dX6_pathOf_25 : decode cX6_pathOf 25 = .ok (.istore_n 2, 1) := by decide +kernel
theorem dX6_pathOf_26 : decode cX6_pathOf 26 = .ok (.iload_n 3, 1) := by decide +kernel
theorem dX6_pathOf_27 : decode cX6_pathOf 27 = .ok (.iconst 1, 1) := by decide +kernel
theorem dX6_pathOf_28 : decode cX6_pathOf 28 = .ok (.ishr, 1) := by decide +kernel
theorem dX6_pathOf_29 : decode cX6_pathOf 29 = .ok (.istore_n 3, 1) := by decide +kernel
theorem dX6_pathOf_30 : decode cX6_pathOf 30 = .ok (.goto (-24), 3) := by decide +kernel
theorem dX6_pathOf_33 : decode cX6_pathOf 33 = .ok (.iload_n 1, 1) := by decide +kernel
theorem dX6_pathOf_34 : decode cX6_pathOf 34 = .ok (.ireturn, 1) := by decide +kernel
abbrev x_X6_pathOf : Cx := (6, cX6_pathOf, false, some (.int))
set_option maxRecDepth 10000 in
theorem g_X6_pathOf_0 {E : Ev} {d : Nat} {G : Hp} {Q : Po} {x0 : Int32} (h : Xr E d x_X6_pathOf 6 [some (.int x0), some (.int ((iv 0))), some (.int ((iv 1))), some (.int x0)] [] G Q) : Xr E d x_X6_pathOf 0 [some (.int x0), none, none, none] [] G Q := by
  refine r_iconst dX6_pathOf_0 ?_
  refine r_istore_n dX6_pathOf_1 rfl ?_
  refine r_iconst dX6_pathOf_2 ?_
  refine r_istore_n dX6_pathOf_3 rfl ?_
  refine r_iload_n dX6_pathOf_4 rfl ?_
  refine r_istore_n dX6_pathOf_5 rfl ?_
  exact h
theorem e_X6_pathOf {E : Ev} {d : Nat} {G : Hp} {Q : Po} {x0 : Int32} (h : Xr E d x_X6_pathOf 6 [some (.int x0), some (.int ((iv 0))), some (.int ((iv 1))), some (.int x0)] [] G Q) : runs E (d + 1) i_X6_pathOf [.int x0] G Q := by
  rw [runs_eq (m := (yX6_pathOf, cX6_pathOf, 4, some (.int), 1, 6, false, true)) rfl (Nat.le_of_ble_eq_true rfl)]
  exact g_X6_pathOf_0 h
set_option maxRecDepth 10000 in
theorem g_X6_pathOf_6 {E : Ev} {d : Nat} {G : Hp} {Q : Po} {x0 : Int32} {x1 : Int32} {x2 : Int32} {x3 : Int32} (h : (if x3 ≤ (iv 1) then Q (some (.int x1)) G else Xr E d x_X6_pathOf 6 [some (.int x0), some (.int ((x1 + (x2 * ((iv 1) + (x3 &&& (iv 1))))))), some (.int ((x2 * (iv 10)))), some (.int ((x3 >>> ((iv 1) &&& 31))))] [] G Q)) : Xr E d x_X6_pathOf 6 [some (.int x0), some (.int x1), some (.int x2), some (.int x3)] [] G Q := by
  refine r_iload_n dX6_pathOf_6 rfl ?_
  refine r_iconst dX6_pathOf_7 ?_
  refine r_cle (tgt := 33) dX6_pathOf_8 (by decide) (ite_imp (fun h => ?_) (fun h => ?_) h)
  · refine r_iload_n dX6_pathOf_33 rfl ?_
    exact r_iret dX6_pathOf_34 rfl ⟨rfl, h⟩
  · refine r_iload_n dX6_pathOf_11 rfl ?_
    refine r_iload_n dX6_pathOf_12 rfl ?_
    refine r_iconst dX6_pathOf_13 ?_
    refine r_iload_n dX6_pathOf_14 rfl ?_
    refine r_iconst dX6_pathOf_15 ?_
    refine r_iand dX6_pathOf_16 ?_
    refine r_iadd dX6_pathOf_17 ?_
    refine r_imul dX6_pathOf_18 ?_
    refine r_iadd dX6_pathOf_19 ?_
    refine r_istore_n dX6_pathOf_20 rfl ?_
    refine r_iload_n dX6_pathOf_21 rfl ?_
    refine r_bipush dX6_pathOf_22 rfl ?_
    refine r_imul dX6_pathOf_24 ?_
    refine r_istore_n dX6_pathOf_25 rfl ?_
    refine r_iload_n dX6_pathOf_26 rfl ?_
    refine r_iconst dX6_pathOf_27 ?_
    refine r_ishr dX6_pathOf_28 ?_
    refine r_istore_n dX6_pathOf_29 rfl ?_
    refine r_goto (tgt := 6) dX6_pathOf_30 (by decide) ?_
    exact h
