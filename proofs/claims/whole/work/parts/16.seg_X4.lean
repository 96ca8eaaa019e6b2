/-! segments, by program (wip/whole/gen/seg.py) -/
theorem dX4_init_0 : decode cX4_init 0 = .ok (.aload_n 0, 1) := by decide +kernel
theorem dX4_init_1 : decode cX4_init 1 = .ok (.invokespecial 3, 3) := by decide +kernel
theorem dX4_init_4 : decode cX4_init 4 = .ok (.aload_n 0, 1) := by decide +kernel
theorem dX4_init_5 : decode cX4_init 5 = .ok (.aload_n 1, 1) := by decide +kernel
theorem dX4_init_6 : decode cX4_init 6 = .ok (.putfield 9, 3) := by decide +kernel
theorem dX4_init_9 : decode cX4_init 9 = .ok (.aload_n 0, 1) := by decide +kernel
theorem dX4_init_10 : decode cX4_init 10 = .ok (.bipush 7, 2) := by decide +kernel
theorem dX4_init_12 : decode cX4_init 12 = .ok (.anewarray 15, 3) := by decide +kernel
theorem dX4_init_15 : decode cX4_init 15 = .ok (.putfield 17, 3) := by decide +kernel
theorem dX4_init_18 : decode cX4_init 18 = .ok (.iconst 0, 1) := by decide +kernel
theorem dX4_init_19 : decode cX4_init 19 = .ok (.istore_n 2, 1) := by decide +kernel
theorem dX4_init_20 : decode cX4_init 20 = .ok (.iload_n 2, 1) := by decide +kernel
theorem dX4_init_21 : decode cX4_init 21 = .ok (.bipush 6, 2) := by decide +kernel
theorem dX4_init_23 : decode cX4_init 23 = .ok (.if_icmp .gt 25, 3) := by decide +kernel
theorem dX4_init_26 : decode cX4_init 26 = .ok (.aload_n 0, 1) := by decide +kernel
theorem dX4_init_27 : decode cX4_init 27 = .ok (.getfield 17, 3) := by decide +kernel
theorem dX4_init_30 : decode cX4_init 30 = .ok (.iload_n 2, 1) := by decide +kernel
theorem dX4_init_31 : decode cX4_init 31 = .ok (.new 15, 3) := by decide +kernel
theorem dX4_init_34 : decode cX4_init 34 = .ok (.dup, 1) := by decide +kernel
theorem dX4_init_35 : decode cX4_init 35 = .ok (.sipush 200, 3) := by decide +kernel
theorem dX4_init_38 : decode cX4_init 38 = .ok (.invokespecial 21, 3) := by decide +kernel
theorem dX4_init_41 : decode cX4_init 41 = .ok (.aastore, 1) := by decide +kernel
theorem dX4_init_42 : decode cX4_init 42 = .ok (.iinc 2 1, 3) := by decide +kernel
theorem dX4_init_45 : decode cX4_init 45 = .ok (.goto (-25), 3) := by decide +kernel
theorem dX4_init_48 : decode cX4_init 48 = .ok (.aload_n 0, 1) := by decide +kernel
theorem dX4_init_49 : decode cX4_init 49 = .ok (.new 15, 3) := by decide +kernel
theorem dX4_init_52 : decode cX4_init 52 = .ok (.dup, 1) := by decide +kernel
theorem dX4_init_53 : decode cX4_init 53 = .ok (.sipush 200, 3) := by decide +kernel
theorem dX4_init_56 : decode cX4_init 56 = .ok (.invokespecial 21, 3) := by decide +kernel
theorem dX4_init_59 : decode cX4_init 59 = .ok (.putfield 24, 3) := by decide +kernel
theorem dX4_init_62 : decode cX4_init 62 = .ok (.aload_n 0, 1) := by decide +kernel
theorem dX4_init_63 : decode cX4_init 63 = .ok (.sipush 128, 3) := by decide +kernel
theorem dX4_init_66 : decode cX4_init 66 = .ok (.newarray .int, 2) := by decide +kernel
theorem dX4_init_68 : decode cX4_init 68 = .ok (.putfield 28, 3) := by decide +kernel
theorem dX4_init_71 : decode cX4_init 71 = .ok (.aload_n 0, 1) := by decide +kernel
theorem dX4_init_72 : decode cX4_init 72 = .ok (.sipush 128, 3) := by decide +kernel
theorem dX4_init_75 : decode cX4_init 75 = .ok (.newarray .int, 2) := by decide +kernel
theorem dX4_init_77 : decode cX4_init 77 = .ok (.putfield 32, 3) := by decide +kernel
theorem dX4_init_80 : decode cX4_init 80 = .ok (.aload_n 0, 1) := by decide +kernel
theorem dX4_init_81 : decode cX4_init 81 = .ok (.sipush 128, 3) := by decide +kernel
theorem dX4_init_84 : decode cX4_init 84 = .ok (.newarray .int, 2) := by decide +kernel
theorem dX4_init_86 : decode cX4_init 86 = .ok (.putfield 35, 3) := by decide +kernel
theorem dX4_init_89 : decode cX4_init 89 = .ok (.aload_n 0, 1) := by decide +kernel
theorem dX4_init_90 : decode cX4_init 90 = .ok (.iconst (-1), 1) := by decide +kernel
theorem dX4_init_91 : decode cX4_init 91 = .ok (.putfield 38, 3) := by decide +kernel
theorem dX4_init_94 : decode cX4_init 94 = .ok (.return_, 1) := by decide +kernel
abbrev x_X4_init : Cx := (4, cX4_init, true, none)
set_option maxRecDepth 10000 in
theorem g_X4_init_0 {E : Ev} {d : Nat} {G : Hp} {Q : Po} {x0 : Nat} {x1 : Nat} (h : (qP E G x0 4 0 (.ref x1) fun G1 => ((¬ (iv 7) < 0 ∧ ((iv 7)).toNatClampNeg ≤ 100000) ∧ (qP E (psh G1 (cR 1 ((iv 7)).toNatClampNeg (fun _ => none)) ((iv 7)).toNatClampNeg) x0 4 1 (.ref ((nxA E G1))) fun G2 => Xr E d x_X4_init 20 [some (.ref x0), some (.ref x1), some (.int ((iv 0)))] [] G2 Q)))) : Xr E d x_X4_init 0 [some (.ref x0), some (.ref x1), none] [] G Q := by
  refine r_aload_n dX4_init_0 rfl ?_
  refine r_oinit dX4_init_1 rfl (Nat.le_of_ble_eq_true rfl) ?_
  refine r_aload_n dX4_init_4 rfl ?_
  refine r_aload_n dX4_init_5 rfl ?_
  refine r_put dX4_init_6 rfl rfl (by decide) (qP_imp (fun G1 h => ?_) h)
  refine r_aload_n dX4_init_9 rfl ?_
  refine r_bipush dX4_init_10 rfl ?_
  refine r_newR dX4_init_12 rfl (by decide) ⟨h.1, ?_⟩
  replace h := h.2
  refine r_put dX4_init_15 rfl rfl (by decide) (qP_imp (fun G2 h => ?_) h)
  refine r_iconst dX4_init_18 ?_
  refine r_istore_n dX4_init_19 rfl ?_
  exact h
theorem e_X4_init {E : Ev} {d : Nat} {G : Hp} {Q : Po} {x0 : Nat} {x1 : Nat} (h : (qP E G x0 4 0 (.ref x1) fun G1 => ((¬ (iv 7) < 0 ∧ ((iv 7)).toNatClampNeg ≤ 100000) ∧ (qP E (psh G1 (cR 1 ((iv 7)).toNatClampNeg (fun _ => none)) ((iv 7)).toNatClampNeg) x0 4 1 (.ref ((nxA E G1))) fun G2 => Xr E d x_X4_init 20 [some (.ref x0), some (.ref x1), some (.int ((iv 0)))] [] G2 Q)))) : runs E (d + 1) i_X4_init [.ref x0, .ref x1] G Q := by
  rw [runs_eq (m := (yX4_init, cX4_init, 3, none, 1, 4, true, false)) rfl (Nat.le_of_ble_eq_true rfl)]
  exact g_X4_init_0 h
set_option maxRecDepth 10000 in
theorem g_X4_init_20 {E : Ev} {d : Nat} {G : Hp} {Q : Po} {x0 : Nat} {x1 : Nat} {x2 : Int32} (h : (if (iv 6) < x2 then (qCV E d i_X2_init [.ref ((nxA E G)), .int ((iv 200))] (psh G (cO 2 (fDf 2)) (fSz 2)) fun G1 => (qP E G1 x0 4 2 (.ref ((nxA E G))) fun G2 => ((¬ (iv 128) < 0 ∧ ((iv 128)).toNatClampNeg ≤ 100000) ∧ (qP E (psh G2 (cA 0 ((iv 128)).toNatClampNeg (fun _ => 0)) ((iv 128)).toNatClampNeg) x0 4 3 (.ref ((nxA E G2))) fun G3 => ((¬ (iv 128) < 0 ∧ ((iv 128)).toNatClampNeg ≤ 100000) ∧ (qP E (psh G3 (cA 0 ((iv 128)).toNatClampNeg (fun _ => 0)) ((iv 128)).toNatClampNeg) x0 4 4 (.ref ((nxA E G3))) fun G4 => ((¬ (iv 128) < 0 ∧ ((iv 128)).toNatClampNeg ≤ 100000) ∧ (qP E (psh G4 (cA 0 ((iv 128)).toNatClampNeg (fun _ => 0)) ((iv 128)).toNatClampNeg) x0 4 5 (.ref ((nxA E G4))) fun G5 => (qP E G5 x0 4 6 (.int ((iv (-1)))) fun G6 => Q none G6))))))))) else (qFR E G x0 4 1 fun v7 => (qCV E d i_X2_init [.ref ((nxA E G)), .int ((iv 200))] (psh G (cO 2 (fDf 2)) (fSz 2)) fun G8 => (qRS E G8 v7 x2 (nxA E G) fun G9 => Xr E d x_X4_init 20 [some (.ref x0), some (.ref x1), some (.int ((x2 + (iv 1))))] [] G9 Q))))) : Xr E d x_X4_init 20 [some (.ref x0), some (.ref x1), some (.int x2)] [] G Q := by
  refine r_iload_n dX4_init_20 rfl ?_
  refine r_bipush dX4_init_21 rfl ?_
  refine r_cgt (tgt := 48) dX4_init_23 (by decide) (ite_imp (fun h => ?_) (fun h => ?_) h)
  · refine r_aload_n dX4_init_48 rfl ?_
    refine r_new dX4_init_49 rfl (by decide) ?_
    refine r_dup dX4_init_52 rfl ?_
    refine r_sipush dX4_init_53 rfl ?_
    refine r_cV dX4_init_56 rfl (invI_eq rfl rfl rfl rfl rfl rfl ⟨rfl, Nat.le_of_ble_eq_true rfl⟩) (qCV_imp (fun G1 h => ?_) h)
    refine r_put dX4_init_59 rfl rfl (by decide) (qP_imp (fun G2 h => ?_) h)
    refine r_aload_n dX4_init_62 rfl ?_
    refine r_sipush dX4_init_63 rfl ?_
    refine r_newI dX4_init_66 ⟨h.1, ?_⟩
    replace h := h.2
    refine r_put dX4_init_68 rfl rfl (by decide) (qP_imp (fun G3 h => ?_) h)
    refine r_aload_n dX4_init_71 rfl ?_
    refine r_sipush dX4_init_72 rfl ?_
    refine r_newI dX4_init_75 ⟨h.1, ?_⟩
    replace h := h.2
    refine r_put dX4_init_77 rfl rfl (by decide) (qP_imp (fun G4 h => ?_) h)
    refine r_aload_n dX4_init_80 rfl ?_
    refine r_sipush dX4_init_81 rfl ?_
    refine r_newI dX4_init_84 ⟨h.1, ?_⟩
    replace h := h.2
    refine r_put dX4_init_86 rfl rfl (by decide) (qP_imp (fun G5 h => ?_) h)
    refine r_aload_n dX4_init_89 rfl ?_
    refine r_iconst dX4_init_90 ?_
    refine r_put dX4_init_91 rfl rfl (by decide) (qP_imp (fun G6 h => ?_) h)
    exact r_vret dX4_init_94 rfl h
  · refine r_aload_n dX4_init_26 rfl ?_
    refine r_getR dX4_init_27 rfl (qFR_imp (fun v7 h => ?_) h)
    refine r_iload_n dX4_init_30 rfl ?_
    refine r_new dX4_init_31 rfl (by decide) ?_
    refine r_dup dX4_init_34 rfl ?_
    refine r_sipush dX4_init_35 rfl ?_
    refine r_cV dX4_init_38 rfl (invI_eq rfl rfl rfl rfl rfl rfl ⟨rfl, Nat.le_of_ble_eq_true rfl⟩) (qCV_imp (fun G8 h => ?_) h)
    refine r_aast dX4_init_41 (qRS_imp (fun G9 h => ?_) h)
    refine r_iinc dX4_init_42 rfl rfl ?_
    refine r_goto (tgt := 20) dX4_init_45 (by decide) ?_
    exact h
theorem dX4_upToDate_0 : decode cX4_upToDate 0 = .ok (.aload_n 0, 1) := by decide +kernel
theorem dX4_upToDate_1 : decode cX4_upToDate 1 = .ok (.getfield 38, 3) := by decide +kernel
theorem dX4_upToDate_4 : decode cX4_upToDate 4 = .ok (.aload_n 0, 1) := by decide +kernel
theorem dX4_upToDate_5 : decode cX4_upToDate 5 = .ok (.getfield 9, 3) := by decide +kernel
theorem dX4_upToDate_8 : decode cX4_upToDate 8 = .ok (.invokevirtual 42, 3) := by decide +kernel
theorem dX4_upToDate_11 : decode cX4_upToDate 11 = .ok (.if_icmp .eq 53, 3) := by decide +kernel
theorem dX4_upToDate_14 : decode cX4_upToDate 14 = .ok (.aload_n 0, 1) := by decide +kernel
theorem dX4_upToDate_15 : decode cX4_upToDate 15 = .ok (.getfield 28, 3) := by decide +kernel
theorem dX4_upToDate_18 : decode cX4_upToDate 18 = .ok (.iconst (-1), 1) := by decide +kernel
theorem dX4_upToDate_19 : decode cX4_upToDate 19 = .ok (.invokestatic 48, 3) := by decide +kernel
theorem dX4_upToDate_22 : decode cX4_upToDate 22 = .ok (.aload_n 0, 1) := by decide +kernel
theorem dX4_upToDate_23 : decode cX4_upToDate 23 = .ok (.getfield 17, 3) := by decide +kernel
theorem dX4_upToDate_26 : decode cX4_upToDate 26 = .ok (.iconst 0, 1) := by decide +kernel
theorem dX4_upToDate_27 : decode cX4_upToDate 27 = .ok (.aaload, 1) := by decide +kernel
theorem dX4_upToDate_28 : decode cX4_upToDate 28 = .ok (.invokevirtual 54, 3) := by decide +kernel
theorem dX4_upToDate_31 : decode cX4_upToDate 31 = .ok (.aload_n 0, 1) := by decide +kernel
theorem dX4_upToDate_32 : decode cX4_upToDate 32 = .ok (.getfield 17, 3) := by decide +kernel
theorem dX4_upToDate_35 : decode cX4_upToDate 35 = .ok (.iconst 0, 1) := by decide +kernel
theorem dX4_upToDate_36 : decode cX4_upToDate 36 = .ok (.aaload, 1) := by decide +kernel
theorem dX4_upToDate_37 : decode cX4_upToDate 37 = .ok (.iconst 4, 1) := by decide +kernel
theorem dX4_upToDate_38 : decode cX4_upToDate 38 = .ok (.invokevirtual 57, 3) := by decide +kernel
theorem dX4_upToDate_41 : decode cX4_upToDate 41 = .ok (.pop, 1) := by decide +kernel
theorem dX4_upToDate_42 : decode cX4_upToDate 42 = .ok (.aload_n 0, 1) := by decide +kernel
theorem dX4_upToDate_43 : decode cX4_upToDate 43 = .ok (.iconst 1, 1) := by decide +kernel
theorem dX4_upToDate_44 : decode cX4_upToDate 44 = .ok (.iconst 0, 1) := by decide +kernel
theorem dX4_upToDate_45 : decode cX4_upToDate 45 = .ok (.iconst 0, 1) := by decide +kernel
theorem dX4_upToDate_46 : decode cX4_upToDate 46 = .ok (.invokestatic 61, 3) := by decide +kernel
theorem dX4_upToDate_49 : decode cX4_upToDate 49 = .ok (.aload_n 0, 1) := by decide +kernel
theorem dX4_upToDate_50 : decode cX4_upToDate 50 = .ok (.invokevirtual 65, 3) := by decide +kernel
theorem dX4_upToDate_53 : decode cX4_upToDate 53 = .ok (.aload_n 0, 1) := by decide +kernel
theorem dX4_upToDate_54 : decode cX4_upToDate 54 = .ok (.aload_n 0, 1) := by decide +kernel
theorem dX4_upToDate_55 : decode cX4_upToDate 55 = .ok (.getfield 9, 3) := by decide +kernel
theorem dX4_upToDate_58 : decode cX4_upToDate 58 = .ok (.invokevirtual 42, 3) := by decide +kernel
theorem dX4_upToDate_61 : decode cX4_upToDate 61 = .ok (.putfield 38, 3) := by decide +kernel
theorem dX4_upToDate_64 : decode cX4_upToDate 64 = .ok (.aload_n 0, 1) := by decide +kernel
theorem dX4_upToDate_65 : decode cX4_upToDate 65 = .ok (.areturn, 1) := by decide +kernel
abbrev x_X4_upToDate : Cx := (4, cX4_upToDate, false, some (.object "RecursionSchemes$Tree"))
set_option maxRecDepth 10000 in
theorem g_X4_upToDate_0 {E : Ev} {d : Nat} {G : Hp} {Q : Po} {x0 : Nat} (h : (qFI E G x0 4 6 fun v1 => (qFR E G x0 4 0 fun v2 => (rcv E G v2 1 = true ∧ (qCI E d i_X1_edits [.ref v2] G fun v4 G3 => (if v1 = v4 then Q (some (.ref x0)) G3 else (qFR E G3 x0 4 3 fun v5 => (qCV E d i_J7_fill_53178 [.ref v5, .int ((iv (-1)))] G3 fun G6 => (qFR E G6 x0 4 1 fun v7 => (qRA E G6 v7 (iv 0) fun v8 => (rcv E G6 v8 2 = true ∧ (qCV E d i_X2_empty [.ref v8] G6 fun G9 => (qFR E G9 x0 4 1 fun v10 => (qRA E G9 v10 (iv 0) fun v11 => (rcv E G9 v11 2 = true ∧ (qCI E d i_X2_add [.ref v11, .int ((iv 4))] G9 fun v13 G12 => (qCV E d i_X4_unfold [.ref x0, .int ((iv 1)), .int ((iv 0)), .int ((iv 0))] G12 fun G14 => (rcv E G14 x0 4 = true ∧ (qCV E d i_X4_runAutomaton [.ref x0] G14 fun G15 => (qFR E G15 x0 4 0 fun v16 => (rcv E G15 v16 1 = true ∧ (qCI E d i_X1_edits [.ref v16] G15 fun v18 G17 => (qP E G17 x0 4 6 (.int v18) fun G19 => Q (some (.ref x0)) G19))))))))))))))))))))))) : Xr E d x_X4_upToDate 0 [some (.ref x0)] [] G Q := by
  refine r_aload_n dX4_upToDate_0 rfl ?_
  refine r_getI dX4_upToDate_1 rfl (qFI_imp (fun v1 h => ?_) h)
  refine r_aload_n dX4_upToDate_4 rfl ?_
  refine r_getR dX4_upToDate_5 rfl (qFR_imp (fun v2 h => ?_) h)
  refine r_cI dX4_upToDate_8 rfl (invV_eq rfl rfl rfl rfl rfl rfl ⟨rfl, Nat.le_of_ble_eq_true rfl⟩ h.1) (qCI_imp (fun v4 G3 h => ?_) h.2)
  refine r_ceq (tgt := 64) dX4_upToDate_11 (by decide) (ite_imp (fun h => ?_) (fun h => ?_) h)
  · refine r_aload_n dX4_upToDate_64 rfl ?_
    exact r_aret dX4_upToDate_65 rfl h
  · refine r_aload_n dX4_upToDate_14 rfl ?_
    refine r_getR dX4_upToDate_15 rfl (qFR_imp (fun v5 h => ?_) h)
    refine r_iconst dX4_upToDate_18 ?_
    refine r_cV dX4_upToDate_19 rfl (invS_eq rfl (by decide) rfl rfl rfl rfl ⟨rfl, Nat.le_of_ble_eq_true rfl⟩) (qCV_imp (fun G6 h => ?_) h)
    refine r_aload_n dX4_upToDate_22 rfl ?_
    refine r_getR dX4_upToDate_23 rfl (qFR_imp (fun v7 h => ?_) h)
    refine r_iconst dX4_upToDate_26 ?_
    refine r_aald dX4_upToDate_27 (qRA_imp (fun v8 h => ?_) h)
    refine r_cV dX4_upToDate_28 rfl (invV_eq rfl rfl rfl rfl rfl rfl ⟨rfl, Nat.le_of_ble_eq_true rfl⟩ h.1) (qCV_imp (fun G9 h => ?_) h.2)
    refine r_aload_n dX4_upToDate_31 rfl ?_
    refine r_getR dX4_upToDate_32 rfl (qFR_imp (fun v10 h => ?_) h)
    refine r_iconst dX4_upToDate_35 ?_
    refine r_aald dX4_upToDate_36 (qRA_imp (fun v11 h => ?_) h)
    refine r_iconst dX4_upToDate_37 ?_
    refine r_cI dX4_upToDate_38 rfl (invV_eq rfl rfl rfl rfl rfl rfl ⟨rfl, Nat.le_of_ble_eq_true rfl⟩ h.1) (qCI_imp (fun v13 G12 h => ?_) h.2)
    refine r_pop dX4_upToDate_41 rfl ?_
    refine r_aload_n dX4_upToDate_42 rfl ?_
    refine r_iconst dX4_upToDate_43 ?_
    refine r_iconst dX4_upToDate_44 ?_
    refine r_iconst dX4_upToDate_45 ?_
    refine r_cV dX4_upToDate_46 rfl (invS_eq rfl (by decide) rfl rfl rfl rfl ⟨rfl, Nat.le_of_ble_eq_true rfl⟩) (qCV_imp (fun G14 h => ?_) h)
    refine r_aload_n dX4_upToDate_49 rfl ?_
    refine r_cV dX4_upToDate_50 rfl (invV_eq rfl rfl rfl rfl rfl rfl ⟨rfl, Nat.le_of_ble_eq_true rfl⟩ h.1) (qCV_imp (fun G15 h => ?_) h.2)
    refine r_aload_n dX4_upToDate_53 rfl ?_
    refine r_aload_n dX4_upToDate_54 rfl ?_
    refine r_getR dX4_upToDate_55 rfl (qFR_imp (fun v16 h => ?_) h)
    refine r_cI dX4_upToDate_58 rfl (invV_eq rfl rfl rfl rfl rfl rfl ⟨rfl, Nat.le_of_ble_eq_true rfl⟩ h.1) (qCI_imp (fun v18 G17 h => ?_) h.2)
    refine r_put dX4_upToDate_61 rfl rfl (by decide) (qP_imp (fun G19 h => ?_) h)
    refine r_aload_n dX4_upToDate_64 rfl ?_
    exact r_aret dX4_upToDate_65 rfl h
theorem e_X4_upToDate {E : Ev} {d : Nat} {G : Hp} {Q : Po} {x0 : Nat} (h : (qFI E G x0 4 6 fun v1 => (qFR E G x0 4 0 fun v2 => (rcv E G v2 1 = true ∧ (qCI E d i_X1_edits [.ref v2] G fun v4 G3 => (if v1 = v4 then Q (some (.ref x0)) G3 else (qFR E G3 x0 4 3 fun v5 => (qCV E d i_J7_fill_53178 [.ref v5, .int ((iv (-1)))] G3 fun G6 => (qFR E G6 x0 4 1 fun v7 => (qRA E G6 v7 (iv 0) fun v8 => (rcv E G6 v8 2 = true ∧ (qCV E d i_X2_empty [.ref v8] G6 fun G9 => (qFR E G9 x0 4 1 fun v10 => (qRA E G9 v10 (iv 0) fun v11 => (rcv E G9 v11 2 = true ∧ (qCI E d i_X2_add [.ref v11, .int ((iv 4))] G9 fun v13 G12 => (qCV E d i_X4_unfold [.ref x0, .int ((iv 1)), .int ((iv 0)), .int ((iv 0))] G12 fun G14 => (rcv E G14 x0 4 = true ∧ (qCV E d i_X4_runAutomaton [.ref x0] G14 fun G15 => (qFR E G15 x0 4 0 fun v16 => (rcv E G15 v16 1 = true ∧ (qCI E d i_X1_edits [.ref v16] G15 fun v18 G17 => (qP E G17 x0 4 6 (.int v18) fun G19 => Q (some (.ref x0)) G19))))))))))))))))))))))) : runs E (d + 1) i_X4_upToDate [.ref x0] G Q := by
  rw [runs_eq (m := (yX4_upToDate, cX4_upToDate, 1, some (.object "RecursionSchemes$Tree"), 0, 4, false, false)) rfl (Nat.le_of_ble_eq_true rfl)]
  exact g_X4_upToDate_0 h
theorem dX4_labelCode_0 : decode cX4_labelCode 0 = .ok (.aload_n 0, 1) := by decide +kernel
theorem dX4_labelCode_1 : decode cX4_labelCode 1 = .ok (.iload_n 1, 1) := by decide +kernel
theorem dX4_labelCode_2 : decode cX4_labelCode 2 = .ok (.invokevirtual 68, 3) := by decide +kernel
theorem dX4_labelCode_5 : decode cX4_labelCode 5 = .ok (.ifCond .ne 6, 3) := by decide +kernel
theorem dX4_labelCode_8 : decode cX4_labelCode 8 = .ok (.bipush (-9), 2) := by decide +kernel
theorem dX4_labelCode_10 : decode cX4_labelCode 10 = .ok (.ireturn, 1) := by decide +kernel
theorem dX4_labelCode_11 : decode cX4_labelCode 11 = .ok (.aload_n 0, 1) := by decide +kernel
theorem dX4_labelCode_12 : decode cX4_labelCode 12 = .ok (.getfield 28, 3) := by decide +kernel
theorem dX4_labelCode_15 : decode cX4_labelCode 15 = .ok (.iload_n 1, 1) := by decide +kernel
theorem dX4_labelCode_16 : decode cX4_labelCode 16 = .ok (.iaload, 1) := by decide +kernel
theorem dX4_labelCode_17 : decode cX4_labelCode 17 = .ok (.bipush (-2), 2) := by decide +kernel
theorem dX4_labelCode_19 : decode cX4_labelCode 19 = .ok (.if_icmp .ne 7, 3) := by decide +kernel
theorem dX4_labelCode_22 : decode cX4_labelCode 22 = .ok (.iconst 0, 1) := by decide +kernel
theorem dX4_labelCode_23 : decode cX4_labelCode 23 = .ok (.goto 12, 3) := by decide +kernel
theorem dX4_labelCode_26 : decode cX4_labelCode 26 = .ok (.aload_n 0, 1) := by decide +kernel
theorem dX4_labelCode_27 : decode cX4_labelCode 27 = .ok (.getfield 28, 3) := by decide +kernel
theorem dX4_labelCode_30 : decode cX4_labelCode 30 = .ok (.iload_n 1, 1) := by decide +kernel
theorem dX4_labelCode_31 : decode cX4_labelCode 31 = .ok (.iaload, 1) := by decide +kernel
theorem dX4_labelCode_32 : decode cX4_labelCode 32 = .ok (.invokestatic 71, 3) := by decide +kernel
theorem dX4_labelCode_35 : decode cX4_labelCode 35 = .ok (.ireturn, 1) := by decide +kernel
abbrev x_X4_labelCode : Cx := (4, cX4_labelCode, false, some (.int))
set_option maxRecDepth 10000 in
theorem g_X4_labelCode_0 {E : Ev} {d : Nat} {G : Hp} {Q : Po} {x0 : Nat} {x1 : Int32} (h : (rcv E G x0 4 = true ∧ (qCI E d i_X4_exists [.ref x0, .int x1] G fun v2 G1 => (if ¬ v2 = 0 then (qFR E G1 x0 4 3 fun v3 => (qIA 4 E G1 v3 x1 fun v4 => (if ¬ v4 = (iv (-2)) then (qFR E G1 x0 4 3 fun v5 => (qIA 4 E G1 v5 x1 fun v6 => (qCI E d i_X6_codeOf [.int v6] G1 fun v8 G7 => Q (some (.int v8)) G7))) else Q (some (.int (iv 0))) G1))) else Q (some (.int (iv (-9)))) G1)))) : Xr E d x_X4_labelCode 0 [some (.ref x0), some (.int x1)] [] G Q := by
  refine r_aload_n dX4_labelCode_0 rfl ?_
  refine r_iload_n dX4_labelCode_1 rfl ?_
  refine r_cI dX4_labelCode_2 rfl (invV_eq rfl rfl rfl rfl rfl rfl ⟨rfl, Nat.le_of_ble_eq_true rfl⟩ h.1) (qCI_imp (fun v2 G1 h => ?_) h.2)
  refine r_ifne (tgt := 11) dX4_labelCode_5 (by decide) (ite_imp (fun h => ?_) (fun h => ?_) h)
  · refine r_aload_n dX4_labelCode_11 rfl ?_
    refine r_getR dX4_labelCode_12 rfl (qFR_imp (fun v3 h => ?_) h)
    refine r_iload_n dX4_labelCode_15 rfl ?_
    refine r_iald dX4_labelCode_16 (qIA_imp (fun v4 h => ?_) h)
    refine r_bipush dX4_labelCode_17 rfl ?_
    refine r_cne (tgt := 26) dX4_labelCode_19 (by decide) (ite_imp (fun h => ?_) (fun h => ?_) h)
    · refine r_aload_n dX4_labelCode_26 rfl ?_
      refine r_getR dX4_labelCode_27 rfl (qFR_imp (fun v5 h => ?_) h)
      refine r_iload_n dX4_labelCode_30 rfl ?_
      refine r_iald dX4_labelCode_31 (qIA_imp (fun v6 h => ?_) h)
      refine r_cI dX4_labelCode_32 rfl (invS_eq rfl (by decide) rfl rfl rfl rfl ⟨rfl, Nat.le_of_ble_eq_true rfl⟩) (qCI_imp (fun v8 G7 h => ?_) h)
      exact r_iret dX4_labelCode_35 rfl ⟨rfl, h⟩
    · refine r_iconst dX4_labelCode_22 ?_
      refine r_goto (tgt := 35) dX4_labelCode_23 (by decide) ?_
      exact r_iret dX4_labelCode_35 rfl ⟨rfl, h⟩
  · refine r_bipush dX4_labelCode_8 rfl ?_
    exact r_iret dX4_labelCode_10 rfl ⟨rfl, h⟩
theorem e_X4_labelCode {E : Ev} {d : Nat} {G : Hp} {Q : Po} {x0 : Nat} {x1 : Int32} (h : (rcv E G x0 4 = true ∧ (qCI E d i_X4_exists [.ref x0, .int x1] G fun v2 G1 => (if ¬ v2 = 0 then (qFR E G1 x0 4 3 fun v3 => (qIA 4 E G1 v3 x1 fun v4 => (if ¬ v4 = (iv (-2)) then (qFR E G1 x0 4 3 fun v5 => (qIA 4 E G1 v5 x1 fun v6 => (qCI E d i_X6_codeOf [.int v6] G1 fun v8 G7 => Q (some (.int v8)) G7))) else Q (some (.int (iv 0))) G1))) else Q (some (.int (iv (-9)))) G1)))) : runs E (d + 1) i_X4_labelCode [.ref x0, .int x1] G Q := by
  rw [runs_eq (m := (yX4_labelCode, cX4_labelCode, 2, some (.int), 1, 4, false, false)) rfl (Nat.le_of_ble_eq_true rfl)]
  exact g_X4_labelCode_0 h
theorem dX4_expansionsTo_0 : decode cX4_expansionsTo 0 = .ok (.aload_n 0, 1) := by decide +kernel
theorem dX4_expansionsTo_1 : decode cX4_expansionsTo 1 = .ok (.iload_n 1, 1) := by decide +kernel
theorem dX4_expansionsTo_2 : decode cX4_expansionsTo 2 = .ok (.invokevirtual 68, 3) := by decide +kernel
theorem dX4_expansionsTo_5 : decode cX4_expansionsTo 5 = .ok (.ifCond .eq 12, 3) := by decide +kernel
theorem dX4_expansionsTo_8 : decode cX4_expansionsTo 8 = .ok (.aload_n 0, 1) := by decide +kernel
theorem dX4_expansionsTo_9 : decode cX4_expansionsTo 9 = .ok (.getfield 32, 3) := by decide +kernel
theorem dX4_expansionsTo_12 : decode cX4_expansionsTo 12 = .ok (.iload_n 1, 1) := by decide +kernel
theorem dX4_expansionsTo_13 : decode cX4_expansionsTo 13 = .ok (.iaload, 1) := by decide +kernel
theorem dX4_expansionsTo_14 : decode cX4_expansionsTo 14 = .ok (.goto 5, 3) := by decide +kernel
theorem dX4_expansionsTo_17 : decode cX4_expansionsTo 17 = .ok (.bipush (-9), 2) := by decide +kernel
theorem dX4_expansionsTo_19 : decode cX4_expansionsTo 19 = .ok (.ireturn, 1) := by decide +kernel
abbrev x_X4_expansionsTo : Cx := (4, cX4_expansionsTo, false, some (.int))
set_option maxRecDepth 10000 in
theorem g_X4_expansionsTo_0 {E : Ev} {d : Nat} {G : Hp} {Q : Po} {x0 : Nat} {x1 : Int32} (h : (rcv E G x0 4 = true ∧ (qCI E d i_X4_exists [.ref x0, .int x1] G fun v2 G1 => (if v2 = 0 then Q (some (.int (iv (-9)))) G1 else (qFR E G1 x0 4 4 fun v3 => (qIA 4 E G1 v3 x1 fun v4 => Q (some (.int v4)) G1)))))) : Xr E d x_X4_expansionsTo 0 [some (.ref x0), some (.int x1)] [] G Q := by
  refine r_aload_n dX4_expansionsTo_0 rfl ?_
  refine r_iload_n dX4_expansionsTo_1 rfl ?_
  refine r_cI dX4_expansionsTo_2 rfl (invV_eq rfl rfl rfl rfl rfl rfl ⟨rfl, Nat.le_of_ble_eq_true rfl⟩ h.1) (qCI_imp (fun v2 G1 h => ?_) h.2)
  refine r_ifeq (tgt := 17) dX4_expansionsTo_5 (by decide) (ite_imp (fun h => ?_) (fun h => ?_) h)
  · refine r_bipush dX4_expansionsTo_17 rfl ?_
    exact r_iret dX4_expansionsTo_19 rfl ⟨rfl, h⟩
  · refine r_aload_n dX4_expansionsTo_8 rfl ?_
    refine r_getR dX4_expansionsTo_9 rfl (qFR_imp (fun v3 h => ?_) h)
    refine r_iload_n dX4_expansionsTo_12 rfl ?_
    refine r_iald dX4_expansionsTo_13 (qIA_imp (fun v4 h => ?_) h)
    refine r_goto (tgt := 19) dX4_expansionsTo_14 (by decide) ?_
    exact r_iret dX4_expansionsTo_19 rfl ⟨rfl, h⟩
theorem e_X4_expansionsTo {E : Ev} {d : Nat} {G : Hp} {Q : Po} {x0 : Nat} {x1 : Int32} (h : (rcv E G x0 4 = true ∧ (qCI E d i_X4_exists [.ref x0, .int x1] G fun v2 G1 => (if v2 = 0 then Q (some (.int (iv (-9)))) G1 else (qFR E G1 x0 4 4 fun v3 => (qIA 4 E G1 v3 x1 fun v4 => Q (some (.int v4)) G1)))))) : runs E (d + 1) i_X4_expansionsTo [.ref x0, .int x1] G Q := by
  rw [runs_eq (m := (yX4_expansionsTo, cX4_expansionsTo, 2, some (.int), 1, 4, false, false)) rfl (Nat.le_of_ble_eq_true rfl)]
  exact g_X4_expansionsTo_0 h
theorem dX4_stateOf_0 : decode cX4_stateOf 0 = .ok (.aload_n 0, 1) := by decide +kernel
theorem dX4_stateOf_1 : decode cX4_stateOf 1 = .ok (.iload_n 1, 1) := by decide +kernel
theorem dX4_stateOf_2 : decode cX4_stateOf 2 = .ok (.invokevirtual 68, 3) := by decide +kernel
theorem dX4_stateOf_5 : decode cX4_stateOf 5 = .ok (.ifCond .eq 12, 3) := by decide +kernel
theorem dX4_stateOf_8 : decode cX4_stateOf 8 = .ok (.aload_n 0, 1) := by decide +kernel
theorem dX4_stateOf_9 : decode cX4_stateOf 9 = .ok (.getfield 35, 3) := by decide +kernel
theorem dX4_stateOf_12 : decode cX4_stateOf 12 = .ok (.iload_n 1, 1) := by decide +kernel
theorem dX4_stateOf_13 : decode cX4_stateOf 13 = .ok (.iaload, 1) := by decide +kernel
theorem dX4_stateOf_14 : decode cX4_stateOf 14 = .ok (.goto 5, 3) := by decide +kernel
theorem dX4_stateOf_17 : decode cX4_stateOf 17 = .ok (.bipush (-9), 2) := by decide +kernel
theorem dX4_stateOf_19 : decode cX4_stateOf 19 = .ok (.ireturn, 1) := by decide +kernel
abbrev x_X4_stateOf : Cx := (4, cX4_stateOf, false, some (.int))
set_option maxRecDepth 10000 in
theorem g_X4_stateOf_0 {E : Ev} {d : Nat} {G : Hp} {Q : Po} {x0 : Nat} {x1 : Int32} (h : (rcv E G x0 4 = true ∧ (qCI E d i_X4_exists [.ref x0, .int x1] G fun v2 G1 => (if v2 = 0 then Q (some (.int (iv (-9)))) G1 else (qFR E G1 x0 4 5 fun v3 => (qIA 4 E G1 v3 x1 fun v4 => Q (some (.int v4)) G1)))))) : Xr E d x_X4_stateOf 0 [some (.ref x0), some (.int x1)] [] G Q := by
  refine r_aload_n dX4_stateOf_0 rfl ?_
  refine r_iload_n dX4_stateOf_1 rfl ?_
  refine r_cI dX4_stateOf_2 rfl (invV_eq rfl rfl rfl rfl rfl rfl ⟨rfl, Nat.le_of_ble_eq_true rfl⟩ h.1) (qCI_imp (fun v2 G1 h => ?_) h.2)
  refine r_ifeq (tgt := 17) dX4_stateOf_5 (by decide) (ite_imp (fun h => ?_) (fun h => ?_) h)
  · refine r_bipush dX4_stateOf_17 rfl ?_
    exact r_iret dX4_stateOf_19 rfl ⟨rfl, h⟩
  · refine r_aload_n dX4_stateOf_8 rfl ?_
    refine r_getR dX4_stateOf_9 rfl (qFR_imp (fun v3 h => ?_) h)
    refine r_iload_n dX4_stateOf_12 rfl ?_
    refine r_iald dX4_stateOf_13 (qIA_imp (fun v4 h => ?_) h)
    refine r_goto (tgt := 19) dX4_stateOf_14 (by decide) ?_
    exact r_iret dX4_stateOf_19 rfl ⟨rfl, h⟩
theorem e_X4_stateOf {E : Ev} {d : Nat} {G : Hp} {Q : Po} {x0 : Nat} {x1 : Int32} (h : (rcv E G x0 4 = true ∧ (qCI E d i_X4_exists [.ref x0, .int x1] G fun v2 G1 => (if v2 = 0 then Q (some (.int (iv (-9)))) G1 else (qFR E G1 x0 4 5 fun v3 => (qIA 4 E G1 v3 x1 fun v4 => Q (some (.int v4)) G1)))))) : runs E (d + 1) i_X4_stateOf [.ref x0, .int x1] G Q := by
  rw [runs_eq (m := (yX4_stateOf, cX4_stateOf, 2, some (.int), 1, 4, false, false)) rfl (Nat.le_of_ble_eq_true rfl)]
  exact g_X4_stateOf_0 h
theorem dX4_childCount_0 : decode cX4_childCount 0 = .ok (.aload_n 0, 1) := by decide +kernel
theorem dX4_childCount_1 : decode cX4_childCount 1 = .ok (.iload_n 1, 1) := by decide +kernel
theorem dX4_childCount_2 : decode cX4_childCount 2 = .ok (.invokevirtual 68, 3) := by decide +kernel
theorem dX4_childCount_5 : decode cX4_childCount 5 = .ok (.ifCond .eq 15, 3) := by decide +kernel
theorem dX4_childCount_8 : decode cX4_childCount 8 = .ok (.aload_n 0, 1) := by decide +kernel
theorem dX4_childCount_9 : decode cX4_childCount 9 = .ok (.getfield 28, 3) := by decide +kernel
theorem dX4_childCount_12 : decode cX4_childCount 12 = .ok (.iload_n 1, 1) := by decide +kernel
theorem dX4_childCount_13 : decode cX4_childCount 13 = .ok (.iaload, 1) := by decide +kernel
theorem dX4_childCount_14 : decode cX4_childCount 14 = .ok (.invokestatic 75, 3) := by decide +kernel
theorem dX4_childCount_17 : decode cX4_childCount 17 = .ok (.goto 4, 3) := by decide +kernel
theorem dX4_childCount_20 : decode cX4_childCount 20 = .ok (.iconst 0, 1) := by decide +kernel
theorem dX4_childCount_21 : decode cX4_childCount 21 = .ok (.ireturn, 1) := by decide +kernel
abbrev x_X4_childCount : Cx := (4, cX4_childCount, false, some (.int))
set_option maxRecDepth 10000 in
theorem g_X4_childCount_0 {E : Ev} {d : Nat} {G : Hp} {Q : Po} {x0 : Nat} {x1 : Int32} (h : (rcv E G x0 4 = true ∧ (qCI E d i_X4_exists [.ref x0, .int x1] G fun v2 G1 => (if v2 = 0 then Q (some (.int (iv 0))) G1 else (qFR E G1 x0 4 3 fun v3 => (qIA 4 E G1 v3 x1 fun v4 => (qCI E d i_X6_arityOf [.int v4] G1 fun v6 G5 => Q (some (.int v6)) G5))))))) : Xr E d x_X4_childCount 0 [some (.ref x0), some (.int x1)] [] G Q := by
  refine r_aload_n dX4_childCount_0 rfl ?_
  refine r_iload_n dX4_childCount_1 rfl ?_
  refine r_cI dX4_childCount_2 rfl (invV_eq rfl rfl rfl rfl rfl rfl ⟨rfl, Nat.le_of_ble_eq_true rfl⟩ h.1) (qCI_imp (fun v2 G1 h => ?_) h.2)
  refine r_ifeq (tgt := 20) dX4_childCount_5 (by decide) (ite_imp (fun h => ?_) (fun h => ?_) h)
  · refine r_iconst dX4_childCount_20 ?_
    exact r_iret dX4_childCount_21 rfl ⟨rfl, h⟩
  · refine r_aload_n dX4_childCount_8 rfl ?_
    refine r_getR dX4_childCount_9 rfl (qFR_imp (fun v3 h => ?_) h)
    refine r_iload_n dX4_childCount_12 rfl ?_
    refine r_iald dX4_childCount_13 (qIA_imp (fun v4 h => ?_) h)
    refine r_cI dX4_childCount_14 rfl (invS_eq rfl (by decide) rfl rfl rfl rfl ⟨rfl, Nat.le_of_ble_eq_true rfl⟩) (qCI_imp (fun v6 G5 h => ?_) h)
    refine r_goto (tgt := 21) dX4_childCount_17 (by decide) ?_
    exact r_iret dX4_childCount_21 rfl ⟨rfl, h⟩
theorem e_X4_childCount {E : Ev} {d : Nat} {G : Hp} {Q : Po} {x0 : Nat} {x1 : Int32} (h : (rcv E G x0 4 = true ∧ (qCI E d i_X4_exists [.ref x0, .int x1] G fun v2 G1 => (if v2 = 0 then Q (some (.int (iv 0))) G1 else (qFR E G1 x0 4 3 fun v3 => (qIA 4 E G1 v3 x1 fun v4 => (qCI E d i_X6_arityOf [.int v4] G1 fun v6 G5 => Q (some (.int v6)) G5))))))) : runs E (d + 1) i_X4_childCount [.ref x0, .int x1] G Q := by
  rw [runs_eq (m := (yX4_childCount, cX4_childCount, 2, some (.int), 1, 4, false, false)) rfl (Nat.le_of_ble_eq_true rfl)]
  exact g_X4_childCount_0 h
theorem dX4_countAt_0 : decode cX4_countAt 0 = .ok (.iconst 0, 1) := by decide +kernel
theorem dX4_countAt_1 : decode cX4_countAt 1 = .ok (.istore_n 2, 1) := by decide +kernel
theorem dX4_countAt_2 : decode cX4_countAt 2 = .ok (.iconst 1, 1) := by decide +kernel
theorem dX4_countAt_3 : decode cX4_countAt 3 = .ok (.iload_n 1, 1) := by decide +kernel
theorem dX4_countAt_4 : decode cX4_countAt 4 = .ok (.ishl, 1) := by decide +kernel
theorem dX4_countAt_5 : decode cX4_countAt 5 = .ok (.istore_n 3, 1) := by decide +kernel
theorem dX4_countAt_6 : decode cX4_countAt 6 = .ok (.iload_n 3, 1) := by decide +kernel
theorem dX4_countAt_7 : decode cX4_countAt 7 = .ok (.iconst 1, 1) := by decide +kernel
theorem dX4_countAt_8 : decode cX4_countAt 8 = .ok (.iload_n 1, 1) := by decide +kernel
theorem dX4_countAt_9 : decode cX4_countAt 9 = .ok (.iconst 1, 1) := by decide +kernel
theorem dX4_countAt_10 : decode cX4_countAt 10 = .ok (.iadd, 1) := by decide +kernel
theorem dX4_countAt_11 : decode cX4_countAt 11 = .ok (.ishl, 1) := by decide +kernel
theorem dX4_countAt_12 : decode cX4_countAt 12 = .ok (.if_icmp .ge 20, 3) := by decide +kernel
theorem dX4_countAt_15 : decode cX4_countAt 15 = .ok (.aload_n 0, 1) := by decide +kernel
theorem dX4_countAt_16 : decode cX4_countAt 16 = .ok (.iload_n 3, 1) := by decide +kernel
theorem dX4_countAt_17 : decode cX4_countAt 17 = .ok (.invokevirtual 68, 3) := by decide +kernel
theorem dX4_countAt_20 : decode cX4_countAt 20 = .ok (.ifCond .eq 6, 3) := by decide +kernel
theorem dX4_countAt_23 : decode cX4_countAt 23 = .ok (.iinc 2 1, 3) := by decide +kernel
theorem dX4_countAt_26 : decode cX4_countAt 26 = .ok (.iinc 3 1, 3) := by decide +kernel
theorem dX4_countAt_29 : decode cX4_countAt 29 = .ok (.goto (-23), 3) := by decide +kernel
theorem dX4_countAt_32 : decode cX4_countAt 32 = .ok (.iload_n 2, 1) := by decide +kernel
theorem dX4_countAt_33 : decode cX4_countAt 33 = .ok (.ireturn, 1) := by decide +kernel
abbrev x_X4_countAt : Cx := (4, cX4_countAt, false, some (.int))
set_option maxRecDepth 10000 in
theorem g_X4_countAt_0 {E : Ev} {d : Nat} {G : Hp} {Q : Po} {x0 : Nat} {x1 : Int32} (h : Xr E d x_X4_countAt 6 [some (.ref x0), some (.int x1), some (.int ((iv 0))), some (.int (((iv 1) <<< (x1 &&& 31))))] [] G Q) : Xr E d x_X4_countAt 0 [some (.ref x0), some (.int x1), none, none] [] G Q := by
  refine r_iconst dX4_countAt_0 ?_
  refine r_istore_n dX4_countAt_1 rfl ?_
  refine r_iconst dX4_countAt_2 ?_
  refine r_iload_n dX4_countAt_3 rfl ?_
  refine r_ishl dX4_countAt_4 ?_
  refine r_istore_n dX4_countAt_5 rfl ?_
  exact h
theorem e_X4_countAt {E : Ev} {d : Nat} {G : Hp} {Q : Po} {x0 : Nat} {x1 : Int32} (h : Xr E d x_X4_countAt 6 [some (.ref x0), some (.int x1), some (.int ((iv 0))), some (.int (((iv 1) <<< (x1 &&& 31))))] [] G Q) : runs E (d + 1) i_X4_countAt [.ref x0, .int x1] G Q := by
  rw [runs_eq (m := (yX4_countAt, cX4_countAt, 4, some (.int), 1, 4, false, false)) rfl (Nat.le_of_ble_eq_true rfl)]
  exact g_X4_countAt_0 h
set_option maxRecDepth 10000 in
theorem g_X4_countAt_6 {E : Ev} {d : Nat} {G : Hp} {Q : Po} {x0 : Nat} {x1 : Int32} {x2 : Int32} {x3 : Int32} (h : (if ((iv 1) <<< ((x1 + (iv 1)) &&& 31)) ≤ x3 then Q (some (.int x2)) G else (rcv E G x0 4 = true ∧ (qCI E d i_X4_exists [.ref x0, .int x3] G fun v2 G1 => (if v2 = 0 then Xr E d x_X4_countAt 6 [some (.ref x0), some (.int x1), some (.int x2), some (.int ((x3 + (iv 1))))] [] G1 Q else Xr E d x_X4_countAt 6 [some (.ref x0), some (.int x1), some (.int ((x2 + (iv 1)))), some (.int ((x3 + (iv 1))))] [] G1 Q))))) : Xr E d x_X4_countAt 6 [some (.ref x0), some (.int x1), some (.int x2), some (.int x3)] [] G Q := by
  refine r_iload_n dX4_countAt_6 rfl ?_
  refine r_iconst dX4_countAt_7 ?_
  refine r_iload_n dX4_countAt_8 rfl ?_
  refine r_iconst dX4_countAt_9 ?_
  refine r_iadd dX4_countAt_10 ?_
  refine r_ishl dX4_countAt_11 ?_
  refine r_cge (tgt := 32) dX4_countAt_12 (by decide) (ite_imp (fun h => ?_) (fun h => ?_) h)
  · refine r_iload_n dX4_countAt_32 rfl ?_
    exact r_iret dX4_countAt_33 rfl ⟨rfl, h⟩
  · refine r_aload_n dX4_countAt_15 rfl ?_
    refine r_iload_n dX4_countAt_16 rfl ?_
    refine r_cI dX4_countAt_17 rfl (invV_eq rfl rfl rfl rfl rfl rfl ⟨rfl, Nat.le_of_ble_eq_true rfl⟩ h.1) (qCI_imp (fun v2 G1 h => ?_) h.2)
    refine r_ifeq (tgt := 26) dX4_countAt_20 (by decide) (ite_imp (fun h => ?_) (fun h => ?_) h)
    · refine r_iinc dX4_countAt_26 rfl rfl ?_
      refine r_goto (tgt := 6) dX4_countAt_29 (by decide) ?_
      exact h
    · refine r_iinc dX4_countAt_23 rfl rfl ?_
      refine r_iinc dX4_countAt_26 rfl rfl ?_
      refine r_goto (tgt := 6) dX4_countAt_29 (by decide) ?_
      exact h
theorem dX4_firstWrong_0 : decode cX4_firstWrong 0 = .ok (.iconst 1, 1) := by decide +kernel
theorem dX4_firstWrong_1 : decode cX4_firstWrong 1 = .ok (.istore_n 2, 1) := by decide +kernel
theorem dX4_firstWrong_2 : decode cX4_firstWrong 2 = .ok (.iload_n 2, 1) := by decide +kernel
theorem dX4_firstWrong_3 : decode cX4_firstWrong 3 = .ok (.iconst 1, 1) := by decide +kernel
theorem dX4_firstWrong_4 : decode cX4_firstWrong 4 = .ok (.iload_n 1, 1) := by decide +kernel
theorem dX4_firstWrong_5 : decode cX4_firstWrong 5 = .ok (.iconst 1, 1) := by decide +kernel
theorem dX4_firstWrong_6 : decode cX4_firstWrong 6 = .ok (.iadd, 1) := by decide +kernel
theorem dX4_firstWrong_7 : decode cX4_firstWrong 7 = .ok (.ishl, 1) := by decide +kernel
theorem dX4_firstWrong_8 : decode cX4_firstWrong 8 = .ok (.if_icmp .ge 19, 3) := by decide +kernel
theorem dX4_firstWrong_11 : decode cX4_firstWrong 11 = .ok (.aload_n 0, 1) := by decide +kernel
theorem dX4_firstWrong_12 : decode cX4_firstWrong 12 = .ok (.iload_n 2, 1) := by decide +kernel
theorem dX4_firstWrong_13 : decode cX4_firstWrong 13 = .ok (.invokevirtual 78, 3) := by decide +kernel
theorem dX4_firstWrong_16 : decode cX4_firstWrong 16 = .ok (.ifCond .eq 5, 3) := by decide +kernel
theorem dX4_firstWrong_19 : decode cX4_firstWrong 19 = .ok (.iload_n 2, 1) := by decide +kernel
theorem dX4_firstWrong_20 : decode cX4_firstWrong 20 = .ok (.ireturn, 1) := by decide +kernel
theorem dX4_firstWrong_21 : decode cX4_firstWrong 21 = .ok (.iinc 2 1, 3) := by decide +kernel
theorem dX4_firstWrong_24 : decode cX4_firstWrong 24 = .ok (.goto (-22), 3) := by decide +kernel
theorem dX4_firstWrong_27 : decode cX4_firstWrong 27 = .ok (.iconst 0, 1) := by decide +kernel
theorem dX4_firstWrong_28 : decode cX4_firstWrong 28 = .ok (.ireturn, 1) := by decide +kernel
abbrev x_X4_firstWrong : Cx := (4, cX4_firstWrong, false, some (.int))
set_option maxRecDepth 10000 in
theorem g_X4_firstWrong_0 {E : Ev} {d : Nat} {G : Hp} {Q : Po} {x0 : Nat} {x1 : Int32} (h : Xr E d x_X4_firstWrong 2 [some (.ref x0), some (.int x1), some (.int ((iv 1)))] [] G Q) : Xr E d x_X4_firstWrong 0 [some (.ref x0), some (.int x1), none] [] G Q := by
  refine r_iconst dX4_firstWrong_0 ?_
  refine r_istore_n dX4_firstWrong_1 rfl ?_
  exact h
theorem e_X4_firstWrong {E : Ev} {d : Nat} {G : Hp} {Q : Po} {x0 : Nat} {x1 : Int32} (h : Xr E d x_X4_firstWrong 2 [some (.ref x0), some (.int x1), some (.int ((iv 1)))] [] G Q) : runs E (d + 1) i_X4_firstWrong [.ref x0, .int x1] G Q := by
  rw [runs_eq (m := (yX4_firstWrong, cX4_firstWrong, 3, some (.int), 1, 4, false, false)) rfl (Nat.le_of_ble_eq_true rfl)]
  exact g_X4_firstWrong_0 h
set_option maxRecDepth 10000 in
theorem g_X4_firstWrong_2 {E : Ev} {d : Nat} {G : Hp} {Q : Po} {x0 : Nat} {x1 : Int32} {x2 : Int32} (h : (if ((iv 1) <<< ((x1 + (iv 1)) &&& 31)) ≤ x2 then Q (some (.int (iv 0))) G else (rcv E G x0 4 = true ∧ (qCI E d i_X4_isWrong [.ref x0, .int x2] G fun v2 G1 => (if v2 = 0 then Xr E d x_X4_firstWrong 2 [some (.ref x0), some (.int x1), some (.int ((x2 + (iv 1))))] [] G1 Q else Q (some (.int x2)) G1))))) : Xr E d x_X4_firstWrong 2 [some (.ref x0), some (.int x1), some (.int x2)] [] G Q := by
  refine r_iload_n dX4_firstWrong_2 rfl ?_
  refine r_iconst dX4_firstWrong_3 ?_
  refine r_iload_n dX4_firstWrong_4 rfl ?_
  refine r_iconst dX4_firstWrong_5 ?_
  refine r_iadd dX4_firstWrong_6 ?_
  refine r_ishl dX4_firstWrong_7 ?_
  refine r_cge (tgt := 27) dX4_firstWrong_8 (by decide) (ite_imp (fun h => ?_) (fun h => ?_) h)
  · refine r_iconst dX4_firstWrong_27 ?_
    exact r_iret dX4_firstWrong_28 rfl ⟨rfl, h⟩
  · refine r_aload_n dX4_firstWrong_11 rfl ?_
    refine r_iload_n dX4_firstWrong_12 rfl ?_
    refine r_cI dX4_firstWrong_13 rfl (invV_eq rfl rfl rfl rfl rfl rfl ⟨rfl, Nat.le_of_ble_eq_true rfl⟩ h.1) (qCI_imp (fun v2 G1 h => ?_) h.2)
    refine r_ifeq (tgt := 21) dX4_firstWrong_16 (by decide) (ite_imp (fun h => ?_) (fun h => ?_) h)
    · refine r_iinc dX4_firstWrong_21 rfl rfl ?_
      refine r_goto (tgt := 2) dX4_firstWrong_24 (by decide) ?_
      exact h
    · refine r_iload_n dX4_firstWrong_19 rfl ?_
      exact r_iret dX4_firstWrong_20 rfl ⟨rfl, h⟩
theorem dX4_exists_0 : decode cX4_exists 0 = .ok (.iload_n 1, 1) := by decide +kernel
theorem dX4_exists_1 : decode cX4_exists 1 = .ok (.iconst 1, 1) := by decide +kernel
theorem dX4_exists_2 : decode cX4_exists 2 = .ok (.if_icmp .lt 24, 3) := by decide +kernel
theorem dX4_exists_5 : decode cX4_exists 5 = .ok (.iload_n 1, 1) := by decide +kernel
theorem dX4_exists_6 : decode cX4_exists 6 = .ok (.sipush 128, 3) := by decide +kernel
theorem dX4_exists_9 : decode cX4_exists 9 = .ok (.if_icmp .ge 17, 3) := by decide +kernel
theorem dX4_exists_12 : decode cX4_exists 12 = .ok (.aload_n 0, 1) := by decide +kernel
theorem dX4_exists_13 : decode cX4_exists 13 = .ok (.getfield 28, 3) := by decide +kernel
theorem dX4_exists_16 : decode cX4_exists 16 = .ok (.iload_n 1, 1) := by decide +kernel
theorem dX4_exists_17 : decode cX4_exists 17 = .ok (.iaload, 1) := by decide +kernel
theorem dX4_exists_18 : decode cX4_exists 18 = .ok (.iconst (-1), 1) := by decide +kernel
theorem dX4_exists_19 : decode cX4_exists 19 = .ok (.if_icmp .eq 7, 3) := by decide +kernel
theorem dX4_exists_22 : decode cX4_exists 22 = .ok (.iconst 1, 1) := by decide +kernel
theorem dX4_exists_23 : decode cX4_exists 23 = .ok (.goto 4, 3) := by decide +kernel
theorem dX4_exists_26 : decode cX4_exists 26 = .ok (.iconst 0, 1) := by decide +kernel
theorem dX4_exists_27 : decode cX4_exists 27 = .ok (.ireturn, 1) := by decide +kernel
abbrev x_X4_exists : Cx := (4, cX4_exists, false, some (.boolean))
set_option maxRecDepth 10000 in
theorem g_X4_exists_0 {E : Ev} {d : Nat} {G : Hp} {Q : Po} {x0 : Nat} {x1 : Int32} (h : (if x1 < (iv 1) then Q (some (.int (iv 0))) G else (if (iv 128) ≤ x1 then Q (some (.int (iv 0))) G else (qFR E G x0 4 3 fun v1 => (qIA 4 E G v1 x1 fun v2 => (if v2 = (iv (-1)) then Q (some (.int (iv 0))) G else Q (some (.int (iv 1))) G)))))) : Xr E d x_X4_exists 0 [some (.ref x0), some (.int x1)] [] G Q := by
  refine r_iload_n dX4_exists_0 rfl ?_
  refine r_iconst dX4_exists_1 ?_
  refine r_clt (tgt := 26) dX4_exists_2 (by decide) (ite_imp (fun h => ?_) (fun h => ?_) h)
  · refine r_iconst dX4_exists_26 ?_
    exact r_iret dX4_exists_27 rfl ⟨rfl, h⟩
  · refine r_iload_n dX4_exists_5 rfl ?_
    refine r_sipush dX4_exists_6 rfl ?_
    refine r_cge (tgt := 26) dX4_exists_9 (by decide) (ite_imp (fun h => ?_) (fun h => ?_) h)
    · refine r_iconst dX4_exists_26 ?_
      exact r_iret dX4_exists_27 rfl ⟨rfl, h⟩
    · refine r_aload_n dX4_exists_12 rfl ?_
      refine r_getR dX4_exists_13 rfl (qFR_imp (fun v1 h => ?_) h)
      refine r_iload_n dX4_exists_16 rfl ?_
      refine r_iald dX4_exists_17 (qIA_imp (fun v2 h => ?_) h)
      refine r_iconst dX4_exists_18 ?_
      refine r_ceq (tgt := 26) dX4_exists_19 (by decide) (ite_imp (fun h => ?_) (fun h => ?_) h)
      · refine r_iconst dX4_exists_26 ?_
        exact r_iret dX4_exists_27 rfl ⟨rfl, h⟩
      · refine r_iconst dX4_exists_22 ?_
        refine r_goto (tgt := 27) dX4_exists_23 (by decide) ?_
        exact r_iret dX4_exists_27 rfl ⟨rfl, h⟩
theorem e_X4_exists {E : Ev} {d : Nat} {G : Hp} {Q : Po} {x0 : Nat} {x1 : Int32} (h : (if x1 < (iv 1) then Q (some (.int (iv 0))) G else (if (iv 128) ≤ x1 then Q (some (.int (iv 0))) G else (qFR E G x0 4 3 fun v1 => (qIA 4 E G v1 x1 fun v2 => (if v2 = (iv (-1)) then Q (some (.int (iv 0))) G else Q (some (.int (iv 1))) G)))))) : runs E (d + 1) i_X4_exists [.ref x0, .int x1] G Q := by
  rw [runs_eq (m := (yX4_exists, cX4_exists, 2, some (.boolean), 1, 4, false, false)) rfl (Nat.le_of_ble_eq_true rfl)]
  exact g_X4_exists_0 h
theorem dX4_isWrong_0 : decode cX4_isWrong 0 = .ok (.aload_n 0, 1) := by decide +kernel
theorem dX4_isWrong_1 : decode cX4_isWrong 1 = .ok (.iload_n 1, 1) := by decide +kernel
theorem dX4_isWrong_2 : decode cX4_isWrong 2 = .ok (.invokevirtual 68, 3) := by decide +kernel
theorem dX4_isWrong_5 : decode cX4_isWrong 5 = .ok (.ifCond .eq 53, 3) := by decide +kernel
theorem dX4_isWrong_8 : decode cX4_isWrong 8 = .ok (.aload_n 0, 1) := by decide +kernel
theorem dX4_isWrong_9 : decode cX4_isWrong 9 = .ok (.getfield 35, 3) := by decide +kernel
theorem dX4_isWrong_12 : decode cX4_isWrong 12 = .ok (.iload_n 1, 1) := by decide +kernel
theorem dX4_isWrong_13 : decode cX4_isWrong 13 = .ok (.iaload, 1) := by decide +kernel
theorem dX4_isWrong_14 : decode cX4_isWrong 14 = .ok (.invokestatic 81, 3) := by decide +kernel
theorem dX4_isWrong_17 : decode cX4_isWrong 17 = .ok (.ifCond .eq 41, 3) := by decide +kernel
theorem dX4_isWrong_20 : decode cX4_isWrong 20 = .ok (.aload_n 0, 1) := by decide +kernel
theorem dX4_isWrong_21 : decode cX4_isWrong 21 = .ok (.getfield 28, 3) := by decide +kernel
theorem dX4_isWrong_24 : decode cX4_isWrong 24 = .ok (.iload_n 1, 1) := by decide +kernel
theorem dX4_isWrong_25 : decode cX4_isWrong 25 = .ok (.iaload, 1) := by decide +kernel
theorem dX4_isWrong_26 : decode cX4_isWrong 26 = .ok (.invokestatic 84, 3) := by decide +kernel
theorem dX4_isWrong_29 : decode cX4_isWrong 29 = .ok (.ifCond .eq 29, 3) := by decide +kernel
theorem dX4_isWrong_32 : decode cX4_isWrong 32 = .ok (.aload_n 0, 1) := by decide +kernel
theorem dX4_isWrong_33 : decode cX4_isWrong 33 = .ok (.getfield 9, 3) := by decide +kernel
theorem dX4_isWrong_36 : decode cX4_isWrong 36 = .ok (.aload_n 0, 1) := by decide +kernel
theorem dX4_isWrong_37 : decode cX4_isWrong 37 = .ok (.getfield 35, 3) := by decide +kernel
theorem dX4_isWrong_40 : decode cX4_isWrong 40 = .ok (.iload_n 1, 1) := by decide +kernel
theorem dX4_isWrong_41 : decode cX4_isWrong 41 = .ok (.iaload, 1) := by decide +kernel
theorem dX4_isWrong_42 : decode cX4_isWrong 42 = .ok (.aload_n 0, 1) := by decide +kernel
theorem dX4_isWrong_43 : decode cX4_isWrong 43 = .ok (.getfield 28, 3) := by decide +kernel
theorem dX4_isWrong_46 : decode cX4_isWrong 46 = .ok (.iload_n 1, 1) := by decide +kernel
theorem dX4_isWrong_47 : decode cX4_isWrong 47 = .ok (.iaload, 1) := by decide +kernel
theorem dX4_isWrong_48 : decode cX4_isWrong 48 = .ok (.invokevirtual 87, 3) := by decide +kernel
theorem dX4_isWrong_51 : decode cX4_isWrong 51 = .ok (.ifCond .ne 7, 3) := by decide +kernel
theorem dX4_isWrong_54 : decode cX4_isWrong 54 = .ok (.iconst 1, 1) := by decide +kernel
theorem dX4_isWrong_55 : decode cX4_isWrong 55 = .ok (.goto 4, 3) := by decide +kernel
theorem dX4_isWrong_58 : decode cX4_isWrong 58 = .ok (.iconst 0, 1) := by decide +kernel
theorem dX4_isWrong_59 : decode cX4_isWrong 59 = .ok (.ireturn, 1) := by decide +kernel
abbrev x_X4_isWrong : Cx := (4, cX4_isWrong, false, some (.boolean))
set_option maxRecDepth 10000 in
theorem g_X4_isWrong_0 {E : Ev} {d : Nat} {G : Hp} {Q : Po} {x0 : Nat} {x1 : Int32} (h : (rcv E G x0 4 = true ∧ (qCI E d i_X4_exists [.ref x0, .int x1] G fun v2 G1 => (if v2 = 0 then Q (some (.int (iv 0))) G1 else (qFR E G1 x0 4 5 fun v3 => (qIA 4 E G1 v3 x1 fun v4 => (qCI E d i_X6_isState [.int v4] G1 fun v6 G5 => (if v6 = 0 then Q (some (.int (iv 0))) G5 else (qFR E G5 x0 4 3 fun v7 => (qIA 4 E G5 v7 x1 fun v8 => (qCI E d i_X6_isTerminal [.int v8] G5 fun v10 G9 => (if v10 = 0 then Q (some (.int (iv 0))) G9 else (qFR E G9 x0 4 0 fun v11 => (qFR E G9 x0 4 5 fun v12 => (qIA 4 E G9 v12 x1 fun v13 => (qFR E G9 x0 4 3 fun v14 => (qIA 4 E G9 v14 x1 fun v15 => (rcv E G9 v11 1 = true ∧ (qCI E d i_X1_canRead [.ref v11, .int v13, .int v15] G9 fun v17 G16 => (if ¬ v17 = 0 then Q (some (.int (iv 0))) G16 else Q (some (.int (iv 1))) G16)))))))))))))))))))) : Xr E d x_X4_isWrong 0 [some (.ref x0), some (.int x1)] [] G Q := by
  refine r_aload_n dX4_isWrong_0 rfl ?_
  refine r_iload_n dX4_isWrong_1 rfl ?_
  refine r_cI dX4_isWrong_2 rfl (invV_eq rfl rfl rfl rfl rfl rfl ⟨rfl, Nat.le_of_ble_eq_true rfl⟩ h.1) (qCI_imp (fun v2 G1 h => ?_) h.2)
  refine r_ifeq (tgt := 58) dX4_isWrong_5 (by decide) (ite_imp (fun h => ?_) (fun h => ?_) h)
  · refine r_iconst dX4_isWrong_58 ?_
    exact r_iret dX4_isWrong_59 rfl ⟨rfl, h⟩
  · refine r_aload_n dX4_isWrong_8 rfl ?_
    refine r_getR dX4_isWrong_9 rfl (qFR_imp (fun v3 h => ?_) h)
    refine r_iload_n dX4_isWrong_12 rfl ?_
    refine r_iald dX4_isWrong_13 (qIA_imp (fun v4 h => ?_) h)
    refine r_cI dX4_isWrong_14 rfl (invS_eq rfl (by decide) rfl rfl rfl rfl ⟨rfl, Nat.le_of_ble_eq_true rfl⟩) (qCI_imp (fun v6 G5 h => ?_) h)
    refine r_ifeq (tgt := 58) dX4_isWrong_17 (by decide) (ite_imp (fun h => ?_) (fun h => ?_) h)
    · refine r_iconst dX4_isWrong_58 ?_
      exact r_iret dX4_isWrong_59 rfl ⟨rfl, h⟩
    · refine r_aload_n dX4_isWrong_20 rfl ?_
      refine r_getR dX4_isWrong_21 rfl (qFR_imp (fun v7 h => ?_) h)
      refine r_iload_n dX4_isWrong_24 rfl ?_
      refine r_iald dX4_isWrong_25 (qIA_imp (fun v8 h => ?_) h)
      refine r_cI dX4_isWrong_26 rfl (invS_eq rfl (by decide) rfl rfl rfl rfl ⟨rfl, Nat.le_of_ble_eq_true rfl⟩) (qCI_imp (fun v10 G9 h => ?_) h)
      refine r_ifeq (tgt := 58) dX4_isWrong_29 (by decide) (ite_imp (fun h => ?_) (fun h => ?_) h)
      · refine r_iconst dX4_isWrong_58 ?_
        exact r_iret dX4_isWrong_59 rfl ⟨rfl, h⟩
      · refine r_aload_n dX4_isWrong_32 rfl ?_
        refine r_getR dX4_isWrong_33 rfl (qFR_imp (fun v11 h => ?_) h)
        refine r_aload_n dX4_isWrong_36 rfl ?_
        refine r_getR dX4_isWrong_37 rfl (qFR_imp (fun v12 h => ?_) h)
        refine r_iload_n dX4_isWrong_40 rfl ?_
        refine r_iald dX4_isWrong_41 (qIA_imp (fun v13 h => ?_) h)
        refine r_aload_n dX4_isWrong_42 rfl ?_
        refine r_getR dX4_isWrong_43 rfl (qFR_imp (fun v14 h => ?_) h)
        refine r_iload_n dX4_isWrong_46 rfl ?_
        refine r_iald dX4_isWrong_47 (qIA_imp (fun v15 h => ?_) h)
        refine r_cI dX4_isWrong_48 rfl (invV_eq rfl rfl rfl rfl rfl rfl ⟨rfl, Nat.le_of_ble_eq_true rfl⟩ h.1) (qCI_imp (fun v17 G16 h => ?_) h.2)
        refine r_ifne (tgt := 58) dX4_isWrong_51 (by decide) (ite_imp (fun h => ?_) (fun h => ?_) h)
        · refine r_iconst dX4_isWrong_58 ?_
          exact r_iret dX4_isWrong_59 rfl ⟨rfl, h⟩
        · refine r_iconst dX4_isWrong_54 ?_
          refine r_goto (tgt := 59) dX4_isWrong_55 (by decide) ?_
          exact r_iret dX4_isWrong_59 rfl ⟨rfl, h⟩
theorem e_X4_isWrong {E : Ev} {d : Nat} {G : Hp} {Q : Po} {x0 : Nat} {x1 : Int32} (h : (rcv E G x0 4 = true ∧ (qCI E d i_X4_exists [.ref x0, .int x1] G fun v2 G1 => (if v2 = 0 then Q (some (.int (iv 0))) G1 else (qFR E G1 x0 4 5 fun v3 => (qIA 4 E G1 v3 x1 fun v4 => (qCI E d i_X6_isState [.int v4] G1 fun v6 G5 => (if v6 = 0 then Q (some (.int (iv 0))) G5 else (qFR E G5 x0 4 3 fun v7 => (qIA 4 E G5 v7 x1 fun v8 => (qCI E d i_X6_isTerminal [.int v8] G5 fun v10 G9 => (if v10 = 0 then Q (some (.int (iv 0))) G9 else (qFR E G9 x0 4 0 fun v11 => (qFR E G9 x0 4 5 fun v12 => (qIA 4 E G9 v12 x1 fun v13 => (qFR E G9 x0 4 3 fun v14 => (qIA 4 E G9 v14 x1 fun v15 => (rcv E G9 v11 1 = true ∧ (qCI E d i_X1_canRead [.ref v11, .int v13, .int v15] G9 fun v17 G16 => (if ¬ v17 = 0 then Q (some (.int (iv 0))) G16 else Q (some (.int (iv 1))) G16)))))))))))))))))))) : runs E (d + 1) i_X4_isWrong [.ref x0, .int x1] G Q := by
  rw [runs_eq (m := (yX4_isWrong, cX4_isWrong, 2, some (.boolean), 1, 4, false, false)) rfl (Nat.le_of_ble_eq_true rfl)]
  exact g_X4_isWrong_0 h
theorem dX4_unfold_0 : decode cX4_unfold 0 = .ok (.iload_n 2, 1) := by decide +kernel
theorem dX4_unfold_1 : decode cX4_unfold 1 = .ok (.bipush 6, 2) := by decide +kernel
theorem dX4_unfold_3 : decode cX4_unfold 3 = .ok (.if_icmp .gt 10, 3) := by decide +kernel
theorem dX4_unfold_6 : decode cX4_unfold 6 = .ok (.iload_n 1, 1) := by decide +kernel
theorem dX4_unfold_7 : decode cX4_unfold 7 = .ok (.sipush 128, 3) := by decide +kernel
theorem dX4_unfold_10 : decode cX4_unfold 10 = .ok (.if_icmp .lt 4, 3) := by decide +kernel
theorem dX4_unfold_13 : decode cX4_unfold 13 = .ok (.return_, 1) := by decide +kernel
theorem dX4_unfold_14 : decode cX4_unfold 14 = .ok (.aload_n 0, 1) := by decide +kernel
theorem dX4_unfold_15 : decode cX4_unfold 15 = .ok (.getfield 17, 3) := by decide +kernel
theorem dX4_unfold_18 : decode cX4_unfold 18 = .ok (.iload_n 2, 1) := by decide +kernel
theorem dX4_unfold_19 : decode cX4_unfold 19 = .ok (.aaload, 1) := by decide +kernel
theorem dX4_unfold_20 : decode cX4_unfold 20 = .ok (.astore 4, 2) := by decide +kernel
theorem dX4_unfold_22 : decode cX4_unfold 22 = .ok (.iload_n 3, 1) := by decide +kernel
theorem dX4_unfold_23 : decode cX4_unfold 23 = .ok (.aload_n 0, 1) := by decide +kernel
theorem dX4_unfold_24 : decode cX4_unfold 24 = .ok (.aload 4, 2) := by decide +kernel
theorem dX4_unfold_26 : decode cX4_unfold 26 = .ok (.invokevirtual 91, 3) := by decide +kernel
theorem dX4_unfold_29 : decode cX4_unfold 29 = .ok (.iadd, 1) := by decide +kernel
theorem dX4_unfold_30 : decode cX4_unfold 30 = .ok (.istore 5, 2) := by decide +kernel
theorem dX4_unfold_32 : decode cX4_unfold 32 = .ok (.aload_n 0, 1) := by decide +kernel
theorem dX4_unfold_33 : decode cX4_unfold 33 = .ok (.getfield 32, 3) := by decide +kernel
theorem dX4_unfold_36 : decode cX4_unfold 36 = .ok (.iload_n 1, 1) := by decide +kernel
theorem dX4_unfold_37 : decode cX4_unfold 37 = .ok (.iload 5, 2) := by decide +kernel
theorem dX4_unfold_39 : decode cX4_unfold 39 = .ok (.iastore, 1) := by decide +kernel
theorem dX4_unfold_40 : decode cX4_unfold 40 = .ok (.aload 4, 2) := by decide +kernel
theorem dX4_unfold_42 : decode cX4_unfold 42 = .ok (.iconst 0, 1) := by decide +kernel
theorem dX4_unfold_43 : decode cX4_unfold 43 = .ok (.invokevirtual 95, 3) := by decide +kernel
theorem dX4_unfold_46 : decode cX4_unfold 46 = .ok (.istore 6, 2) := by decide +kernel
theorem dX4_unfold_48 : decode cX4_unfold 48 = .ok (.aload_n 0, 1) := by decide +kernel
theorem dX4_unfold_49 : decode cX4_unfold 49 = .ok (.getfield 28, 3) := by decide +kernel
theorem dX4_unfold_52 : decode cX4_unfold 52 = .ok (.iload_n 1, 1) := by decide +kernel
theorem dX4_unfold_53 : decode cX4_unfold 53 = .ok (.iload 6, 2) := by decide +kernel
theorem dX4_unfold_55 : decode cX4_unfold 55 = .ok (.invokestatic 84, 3) := by decide +kernel
theorem dX4_unfold_58 : decode cX4_unfold 58 = .ok (.ifCond .eq 8, 3) := by decide +kernel
theorem dX4_unfold_61 : decode cX4_unfold 61 = .ok (.iload 6, 2) := by decide +kernel
theorem dX4_unfold_63 : decode cX4_unfold 63 = .ok (.goto 5, 3) := by decide +kernel
theorem dX4_unfold_66 : decode cX4_unfold 66 = .ok (.bipush (-2), 2) := by decide +kernel
theorem dX4_unfold_68 : decode cX4_unfold 68 = .ok (.iastore, 1) := by decide +kernel
theorem dX4_unfold_69 : decode cX4_unfold 69 = .ok (.iload_n 2, 1) := by decide +kernel
theorem dX4_unfold_70 : decode cX4_unfold 70 = .ok (.bipush 6, 2) := by decide +kernel
theorem dX4_unfold_72 : decode cX4_unfold 72 = .ok (.if_icmp .eq 11, 3) := by decide +kernel
theorem dX4_unfold_75 : decode cX4_unfold 75 = .ok (.iload 6, 2) := by decide +kernel
theorem dX4_unfold_77 : decode cX4_unfold 77 = .ok (.invokestatic 84, 3) := by decide +kernel
theorem dX4_unfold_80 : decode cX4_unfold 80 = .ok (.ifCond .ne 4, 3) := by decide +kernel
theorem dX4_unfold_83 : decode cX4_unfold 83 = .ok (.return_, 1) := by decide +kernel
theorem dX4_unfold_84 : decode cX4_unfold 84 = .ok (.iconst 1, 1) := by decide +kernel
theorem dX4_unfold_85 : decode cX4_unfold 85 = .ok (.istore 7, 2) := by decide +kernel
theorem dX4_unfold_87 : decode cX4_unfold 87 = .ok (.iconst 1, 1) := by decide +kernel
theorem dX4_unfold_88 : decode cX4_unfold 88 = .ok (.istore 8, 2) := by decide +kernel
theorem dX4_unfold_90 : decode cX4_unfold 90 = .ok (.iload 8, 2) := by decide +kernel
theorem dX4_unfold_92 : decode cX4_unfold 92 = .ok (.iload 6, 2) := by decide +kernel
theorem dX4_unfold_94 : decode cX4_unfold 94 = .ok (.invokestatic 75, 3) := by decide +kernel
theorem dX4_unfold_97 : decode cX4_unfold 97 = .ok (.if_icmp .gt 66, 3) := by decide +kernel
theorem dX4_unfold_100 : decode cX4_unfold 100 = .ok (.aload 4, 2) := by decide +kernel
theorem dX4_unfold_102 : decode cX4_unfold 102 = .ok (.iload 7, 2) := by decide +kernel
theorem dX4_unfold_104 : decode cX4_unfold 104 = .ok (.invokevirtual 98, 3) := by decide +kernel
theorem dX4_unfold_107 : decode cX4_unfold 107 = .ok (.istore 9, 2) := by decide +kernel
theorem dX4_unfold_109 : decode cX4_unfold 109 = .ok (.aload_n 0, 1) := by decide +kernel
theorem dX4_unfold_110 : decode cX4_unfold 110 = .ok (.getfield 17, 3) := by decide +kernel
theorem dX4_unfold_113 : decode cX4_unfold 113 = .ok (.iload_n 2, 1) := by decide +kernel
theorem dX4_unfold_114 : decode cX4_unfold 114 = .ok (.iconst 1, 1) := by decide +kernel
theorem dX4_unfold_115 : decode cX4_unfold 115 = .ok (.iadd, 1) := by decide +kernel
theorem dX4_unfold_116 : decode cX4_unfold 116 = .ok (.aaload, 1) := by decide +kernel
theorem dX4_unfold_117 : decode cX4_unfold 117 = .ok (.invokevirtual 54, 3) := by decide +kernel
theorem dX4_unfold_120 : decode cX4_unfold 120 = .ok (.aload_n 0, 1) := by decide +kernel
theorem dX4_unfold_121 : decode cX4_unfold 121 = .ok (.getfield 17, 3) := by decide +kernel
theorem dX4_unfold_124 : decode cX4_unfold 124 = .ok (.iload_n 2, 1) := by decide +kernel
theorem dX4_unfold_125 : decode cX4_unfold 125 = .ok (.iconst 1, 1) := by decide +kernel
theorem dX4_unfold_126 : decode cX4_unfold 126 = .ok (.iadd, 1) := by decide +kernel
theorem dX4_unfold_127 : decode cX4_unfold 127 = .ok (.aaload, 1) := by decide +kernel
theorem dX4_unfold_128 : decode cX4_unfold 128 = .ok (.aload 4, 2) := by decide +kernel
theorem dX4_unfold_130 : decode cX4_unfold 130 = .ok (.iload 7, 2) := by decide +kernel
theorem dX4_unfold_132 : decode cX4_unfold 132 = .ok (.iload 9, 2) := by decide +kernel
theorem dX4_unfold_134 : decode cX4_unfold 134 = .ok (.invokevirtual 101, 3) := by decide +kernel
theorem dX4_unfold_137 : decode cX4_unfold 137 = .ok (.pop, 1) := by decide +kernel
theorem dX4_unfold_138 : decode cX4_unfold 138 = .ok (.aload_n 0, 1) := by decide +kernel
theorem dX4_unfold_139 : decode cX4_unfold 139 = .ok (.iload_n 1, 1) := by decide +kernel
theorem dX4_unfold_140 : decode cX4_unfold 140 = .ok (.iload 8, 2) := by decide +kernel
theorem dX4_unfold_142 : decode cX4_unfold 142 = .ok (.invokestatic 105, 3) := by decide +kernel
theorem dX4_unfold_145 : decode cX4_unfold 145 = .ok (.iload_n 2, 1) := by decide +kernel
theorem dX4_unfold_146 : decode cX4_unfold 146 = .ok (.iconst 1, 1) := by decide +kernel
theorem dX4_unfold_147 : decode cX4_unfold 147 = .ok (.iadd, 1) := by decide +kernel
theorem dX4_unfold_148 : decode cX4_unfold 148 = .ok (.iload 5, 2) := by decide +kernel
theorem dX4_unfold_150 : decode cX4_unfold 150 = .ok (.invokestatic 61, 3) := by decide +kernel
theorem dX4_unfold_153 : decode cX4_unfold 153 = .ok (.iload 9, 2) := by decide +kernel
theorem dX4_unfold_155 : decode cX4_unfold 155 = .ok (.istore 7, 2) := by decide +kernel
theorem dX4_unfold_157 : decode cX4_unfold 157 = .ok (.iinc 8 1, 3) := by decide +kernel
theorem dX4_unfold_160 : decode cX4_unfold 160 = .ok (.goto (-70), 3) := by decide +kernel
theorem dX4_unfold_163 : decode cX4_unfold 163 = .ok (.return_, 1) := by decide +kernel
abbrev x_X4_unfold : Cx := (4, cX4_unfold, false, none)
set_option maxRecDepth 10000 in
theorem g_X4_unfold_0 {E : Ev} {d : Nat} {G : Hp} {Q : Po} {x0 : Nat} {x1 : Int32} {x2 : Int32} {x3 : Int32} (h : (if (iv 6) < x2 then Q none G else (if x1 < (iv 128) then (qFR E G x0 4 1 fun v1 => (qRA E G v1 x2 fun v2 => (rcv E G x0 4 = true ∧ (qCI E d i_X4_evaluate [.ref x0, .ref v2] G fun v4 G3 => (qFR E G3 x0 4 4 fun v5 => (qIS E G3 v5 x1 (x3 + v4) fun G6 => (rcv E G6 v2 2 = true ∧ (qCI E d i_X2_symbol [.ref v2, .int ((iv 0))] G6 fun v8 G7 => (qFR E G7 x0 4 3 fun v9 => (qCI E d i_X6_isTerminal [.int v8] G7 fun v11 G10 => (if v11 = 0 then (qIS E G10 v9 x1 (iv (-2)) fun G12 => (if x2 = (iv 6) then Q none G12 else (qCI E d i_X6_isTerminal [.int v8] G12 fun v14 G13 => (if ¬ v14 = 0 then Xr E d x_X4_unfold 90 [some (.ref x0), some (.int x1), some (.int x2), some (.int x3), some (.ref v2), some (.int ((x3 + v4))), some (.int v8), some (.int ((iv 1))), some (.int ((iv 1))), none] [] G13 Q else Q none G13)))) else (qIS E G10 v9 x1 v8 fun G15 => (if x2 = (iv 6) then Q none G15 else (qCI E d i_X6_isTerminal [.int v8] G15 fun v17 G16 => (if ¬ v17 = 0 then Xr E d x_X4_unfold 90 [some (.ref x0), some (.int x1), some (.int x2), some (.int x3), some (.ref v2), some (.int ((x3 + v4))), some (.int v8), some (.int ((iv 1))), some (.int ((iv 1))), none] [] G16 Q else Q none G16))))))))))))))) else Q none G))) : Xr E d x_X4_unfold 0 [some (.ref x0), some (.int x1), some (.int x2), some (.int x3), none, none, none, none, none, none] [] G Q := by
  refine r_iload_n dX4_unfold_0 rfl ?_
  refine r_bipush dX4_unfold_1 rfl ?_
  refine r_cgt (tgt := 13) dX4_unfold_3 (by decide) (ite_imp (fun h => ?_) (fun h => ?_) h)
  · exact r_vret dX4_unfold_13 rfl h
  · refine r_iload_n dX4_unfold_6 rfl ?_
    refine r_sipush dX4_unfold_7 rfl ?_
    refine r_clt (tgt := 14) dX4_unfold_10 (by decide) (ite_imp (fun h => ?_) (fun h => ?_) h)
    · refine r_aload_n dX4_unfold_14 rfl ?_
      refine r_getR dX4_unfold_15 rfl (qFR_imp (fun v1 h => ?_) h)
      refine r_iload_n dX4_unfold_18 rfl ?_
      refine r_aald dX4_unfold_19 (qRA_imp (fun v2 h => ?_) h)
      refine r_astore dX4_unfold_20 rfl ?_
      refine r_iload_n dX4_unfold_22 rfl ?_
      refine r_aload_n dX4_unfold_23 rfl ?_
      refine r_aload dX4_unfold_24 rfl ?_
      refine r_cI dX4_unfold_26 rfl (invV_eq rfl rfl rfl rfl rfl rfl ⟨rfl, Nat.le_of_ble_eq_true rfl⟩ h.1) (qCI_imp (fun v4 G3 h => ?_) h.2)
      refine r_iadd dX4_unfold_29 ?_
      refine r_istore dX4_unfold_30 rfl ?_
      refine r_aload_n dX4_unfold_32 rfl ?_
      refine r_getR dX4_unfold_33 rfl (qFR_imp (fun v5 h => ?_) h)
      refine r_iload_n dX4_unfold_36 rfl ?_
      refine r_iload dX4_unfold_37 rfl ?_
      refine r_iast dX4_unfold_39 (qIS_imp (fun G6 h => ?_) h)
      refine r_aload dX4_unfold_40 rfl ?_
      refine r_iconst dX4_unfold_42 ?_
      refine r_cI dX4_unfold_43 rfl (invV_eq rfl rfl rfl rfl rfl rfl ⟨rfl, Nat.le_of_ble_eq_true rfl⟩ h.1) (qCI_imp (fun v8 G7 h => ?_) h.2)
      refine r_istore dX4_unfold_46 rfl ?_
      refine r_aload_n dX4_unfold_48 rfl ?_
      refine r_getR dX4_unfold_49 rfl (qFR_imp (fun v9 h => ?_) h)
      refine r_iload_n dX4_unfold_52 rfl ?_
      refine r_iload dX4_unfold_53 rfl ?_
      refine r_cI dX4_unfold_55 rfl (invS_eq rfl (by decide) rfl rfl rfl rfl ⟨rfl, Nat.le_of_ble_eq_true rfl⟩) (qCI_imp (fun v11 G10 h => ?_) h)
      refine r_ifeq (tgt := 66) dX4_unfold_58 (by decide) (ite_imp (fun h => ?_) (fun h => ?_) h)
      · refine r_bipush dX4_unfold_66 rfl ?_
        refine r_iast dX4_unfold_68 (qIS_imp (fun G12 h => ?_) h)
        refine r_iload_n dX4_unfold_69 rfl ?_
        refine r_bipush dX4_unfold_70 rfl ?_
        refine r_ceq (tgt := 83) dX4_unfold_72 (by decide) (ite_imp (fun h => ?_) (fun h => ?_) h)
        · exact r_vret dX4_unfold_83 rfl h
        · refine r_iload dX4_unfold_75 rfl ?_
          refine r_cI dX4_unfold_77 rfl (invS_eq rfl (by decide) rfl rfl rfl rfl ⟨rfl, Nat.le_of_ble_eq_true rfl⟩) (qCI_imp (fun v14 G13 h => ?_) h)
          refine r_ifne (tgt := 84) dX4_unfold_80 (by decide) (ite_imp (fun h => ?_) (fun h => ?_) h)
          · refine r_iconst dX4_unfold_84 ?_
            refine r_istore dX4_unfold_85 rfl ?_
            refine r_iconst dX4_unfold_87 ?_
            refine r_istore dX4_unfold_88 rfl ?_
            exact h
          · exact r_vret dX4_unfold_83 rfl h
      · refine r_iload dX4_unfold_61 rfl ?_
        refine r_goto (tgt := 68) dX4_unfold_63 (by decide) ?_
        refine r_iast dX4_unfold_68 (qIS_imp (fun G15 h => ?_) h)
        refine r_iload_n dX4_unfold_69 rfl ?_
        refine r_bipush dX4_unfold_70 rfl ?_
        refine r_ceq (tgt := 83) dX4_unfold_72 (by decide) (ite_imp (fun h => ?_) (fun h => ?_) h)
        · exact r_vret dX4_unfold_83 rfl h
        · refine r_iload dX4_unfold_75 rfl ?_
          refine r_cI dX4_unfold_77 rfl (invS_eq rfl (by decide) rfl rfl rfl rfl ⟨rfl, Nat.le_of_ble_eq_true rfl⟩) (qCI_imp (fun v17 G16 h => ?_) h)
          refine r_ifne (tgt := 84) dX4_unfold_80 (by decide) (ite_imp (fun h => ?_) (fun h => ?_) h)
          · refine r_iconst dX4_unfold_84 ?_
            refine r_istore dX4_unfold_85 rfl ?_
            refine r_iconst dX4_unfold_87 ?_
            refine r_istore dX4_unfold_88 rfl ?_
            exact h
          · exact r_vret dX4_unfold_83 rfl h
    · exact r_vret dX4_unfold_13 rfl h
theorem e_X4_unfold {E : Ev} {d : Nat} {G : Hp} {Q : Po} {x0 : Nat} {x1 : Int32} {x2 : Int32} {x3 : Int32} (h : (if (iv 6) < x2 then Q none G else (if x1 < (iv 128) then (qFR E G x0 4 1 fun v1 => (qRA E G v1 x2 fun v2 => (rcv E G x0 4 = true ∧ (qCI E d i_X4_evaluate [.ref x0, .ref v2] G fun v4 G3 => (qFR E G3 x0 4 4 fun v5 => (qIS E G3 v5 x1 (x3 + v4) fun G6 => (rcv E G6 v2 2 = true ∧ (qCI E d i_X2_symbol [.ref v2, .int ((iv 0))] G6 fun v8 G7 => (qFR E G7 x0 4 3 fun v9 => (qCI E d i_X6_isTerminal [.int v8] G7 fun v11 G10 => (if v11 = 0 then (qIS E G10 v9 x1 (iv (-2)) fun G12 => (if x2 = (iv 6) then Q none G12 else (qCI E d i_X6_isTerminal [.int v8] G12 fun v14 G13 => (if ¬ v14 = 0 then Xr E d x_X4_unfold 90 [some (.ref x0), some (.int x1), some (.int x2), some (.int x3), some (.ref v2), some (.int ((x3 + v4))), some (.int v8), some (.int ((iv 1))), some (.int ((iv 1))), none] [] G13 Q else Q none G13)))) else (qIS E G10 v9 x1 v8 fun G15 => (if x2 = (iv 6) then Q none G15 else (qCI E d i_X6_isTerminal [.int v8] G15 fun v17 G16 => (if ¬ v17 = 0 then Xr E d x_X4_unfold 90 [some (.ref x0), some (.int x1), some (.int x2), some (.int x3), some (.ref v2), some (.int ((x3 + v4))), some (.int v8), some (.int ((iv 1))), some (.int ((iv 1))), none] [] G16 Q else Q none G16))))))))))))))) else Q none G))) : runs E (d + 1) i_X4_unfold [.ref x0, .int x1, .int x2, .int x3] G Q := by
  rw [runs_eq (m := (yX4_unfold, cX4_unfold, 10, none, 4, 4, false, true)) rfl (Nat.le_of_ble_eq_true rfl)]
  exact g_X4_unfold_0 h
set_option maxRecDepth 10000 in
theorem g_X4_unfold_90 {E : Ev} {d : Nat} {G : Hp} {Q : Po} {x0 : Nat} {x1 : Int32} {x2 : Int32} {x3 : Int32} {x4 : Nat} {x5 : Int32} {x6 : Int32} {x7 : Int32} {x8 : Int32} {l9 : Option Value} (h : (qCI E d i_X6_arityOf [.int x6] G fun v2 G1 => (if v2 < x8 then Q none G1 else (rcv E G1 x4 2 = true ∧ (qCI E d i_X2_endOf [.ref x4, .int x7] G1 fun v4 G3 => (qFR E G3 x0 4 1 fun v5 => (qRA E G3 v5 (x2 + (iv 1)) fun v6 => (rcv E G3 v6 2 = true ∧ (qCV E d i_X2_empty [.ref v6] G3 fun G7 => (qFR E G7 x0 4 1 fun v8 => (qRA E G7 v8 (x2 + (iv 1)) fun v9 => (rcv E G7 v9 2 = true ∧ (qCI E d i_X2_addPart [.ref v9, .ref x4, .int x7, .int v4] G7 fun v11 G10 => (qCI E d i_X6_childOf [.int x1, .int x8] G10 fun v13 G12 => (qCV E d i_X4_unfold [.ref x0, .int v13, .int ((x2 + (iv 1))), .int x5] G12 fun G14 => Xr E d x_X4_unfold 90 [some (.ref x0), some (.int x1), some (.int x2), some (.int x3), some (.ref x4), some (.int x5), some (.int x6), some (.int v4), some (.int ((x8 + (iv 1)))), some (.int v4)] [] G14 Q))))))))))))))) : Xr E d x_X4_unfold 90 [some (.ref x0), some (.int x1), some (.int x2), some (.int x3), some (.ref x4), some (.int x5), some (.int x6), some (.int x7), some (.int x8), l9] [] G Q := by
  refine r_iload dX4_unfold_90 rfl ?_
  refine r_iload dX4_unfold_92 rfl ?_
  refine r_cI dX4_unfold_94 rfl (invS_eq rfl (by decide) rfl rfl rfl rfl ⟨rfl, Nat.le_of_ble_eq_true rfl⟩) (qCI_imp (fun v2 G1 h => ?_) h)
  refine r_cgt (tgt := 163) dX4_unfold_97 (by decide) (ite_imp (fun h => ?_) (fun h => ?_) h)
  · exact r_vret dX4_unfold_163 rfl h
  · refine r_aload dX4_unfold_100 rfl ?_
    refine r_iload dX4_unfold_102 rfl ?_
    refine r_cI dX4_unfold_104 rfl (invV_eq rfl rfl rfl rfl rfl rfl ⟨rfl, Nat.le_of_ble_eq_true rfl⟩ h.1) (qCI_imp (fun v4 G3 h => ?_) h.2)
    refine r_istore dX4_unfold_107 rfl ?_
    refine r_aload_n dX4_unfold_109 rfl ?_
    refine r_getR dX4_unfold_110 rfl (qFR_imp (fun v5 h => ?_) h)
    refine r_iload_n dX4_unfold_113 rfl ?_
    refine r_iconst dX4_unfold_114 ?_
    refine r_iadd dX4_unfold_115 ?_
    refine r_aald dX4_unfold_116 (qRA_imp (fun v6 h => ?_) h)
    refine r_cV dX4_unfold_117 rfl (invV_eq rfl rfl rfl rfl rfl rfl ⟨rfl, Nat.le_of_ble_eq_true rfl⟩ h.1) (qCV_imp (fun G7 h => ?_) h.2)
    refine r_aload_n dX4_unfold_120 rfl ?_
    refine r_getR dX4_unfold_121 rfl (qFR_imp (fun v8 h => ?_) h)
    refine r_iload_n dX4_unfold_124 rfl ?_
    refine r_iconst dX4_unfold_125 ?_
    refine r_iadd dX4_unfold_126 ?_
    refine r_aald dX4_unfold_127 (qRA_imp (fun v9 h => ?_) h)
    refine r_aload dX4_unfold_128 rfl ?_
    refine r_iload dX4_unfold_130 rfl ?_
    refine r_iload dX4_unfold_132 rfl ?_
    refine r_cI dX4_unfold_134 rfl (invV_eq rfl rfl rfl rfl rfl rfl ⟨rfl, Nat.le_of_ble_eq_true rfl⟩ h.1) (qCI_imp (fun v11 G10 h => ?_) h.2)
    refine r_pop dX4_unfold_137 rfl ?_
    refine r_aload_n dX4_unfold_138 rfl ?_
    refine r_iload_n dX4_unfold_139 rfl ?_
    refine r_iload dX4_unfold_140 rfl ?_
    refine r_cI dX4_unfold_142 rfl (invS_eq rfl (by decide) rfl rfl rfl rfl ⟨rfl, Nat.le_of_ble_eq_true rfl⟩) (qCI_imp (fun v13 G12 h => ?_) h)
    refine r_iload_n dX4_unfold_145 rfl ?_
    refine r_iconst dX4_unfold_146 ?_
    refine r_iadd dX4_unfold_147 ?_
    refine r_iload dX4_unfold_148 rfl ?_
    refine r_cV dX4_unfold_150 rfl (invS_eq rfl (by decide) rfl rfl rfl rfl ⟨rfl, Nat.le_of_ble_eq_true rfl⟩) (qCV_imp (fun G14 h => ?_) h)
    refine r_iload dX4_unfold_153 rfl ?_
    refine r_istore dX4_unfold_155 rfl ?_
    refine r_iinc dX4_unfold_157 rfl rfl ?_
    refine r_goto (tgt := 90) dX4_unfold_160 (by decide) ?_
    exact h
theorem dX4_evaluate_0 : decode cX4_evaluate 0 = .ok (.iconst 0, 1) := by decide +kernel
theorem dX4_evaluate_1 : decode cX4_evaluate 1 = .ok (.istore_n 2, 1) := by decide +kernel
theorem dX4_evaluate_2 : decode cX4_evaluate 2 = .ok (.iload_n 2, 1) := by decide +kernel
theorem dX4_evaluate_3 : decode cX4_evaluate 3 = .ok (.bipush 40, 2) := by decide +kernel
theorem dX4_evaluate_5 : decode cX4_evaluate 5 = .ok (.if_icmp .ge 54, 3) := by decide +kernel
theorem dX4_evaluate_8 : decode cX4_evaluate 8 = .ok (.aload_n 1, 1) := by decide +kernel
theorem dX4_evaluate_9 : decode cX4_evaluate 9 = .ok (.iconst 0, 1) := by decide +kernel
theorem dX4_evaluate_10 : decode cX4_evaluate 10 = .ok (.invokevirtual 95, 3) := by decide +kernel
theorem dX4_evaluate_13 : decode cX4_evaluate 13 = .ok (.iconst 4, 1) := by decide +kernel
theorem dX4_evaluate_14 : decode cX4_evaluate 14 = .ok (.isub, 1) := by decide +kernel
theorem dX4_evaluate_15 : decode cX4_evaluate 15 = .ok (.istore_n 3, 1) := by decide +kernel
theorem dX4_evaluate_16 : decode cX4_evaluate 16 = .ok (.iload_n 3, 1) := by decide +kernel
theorem dX4_evaluate_17 : decode cX4_evaluate 17 = .ok (.invokestatic 109, 3) := by decide +kernel
theorem dX4_evaluate_20 : decode cX4_evaluate 20 = .ok (.ifCond .eq 23, 3) := by decide +kernel
theorem dX4_evaluate_23 : decode cX4_evaluate 23 = .ok (.aload_n 0, 1) := by decide +kernel
theorem dX4_evaluate_24 : decode cX4_evaluate 24 = .ok (.getfield 24, 3) := by decide +kernel
theorem dX4_evaluate_27 : decode cX4_evaluate 27 = .ok (.aload_n 1, 1) := by decide +kernel
theorem dX4_evaluate_28 : decode cX4_evaluate 28 = .ok (.iconst 0, 1) := by decide +kernel
theorem dX4_evaluate_29 : decode cX4_evaluate 29 = .ok (.aload_n 0, 1) := by decide +kernel
theorem dX4_evaluate_30 : decode cX4_evaluate 30 = .ok (.getfield 9, 3) := by decide +kernel
theorem dX4_evaluate_33 : decode cX4_evaluate 33 = .ok (.iload_n 3, 1) := by decide +kernel
theorem dX4_evaluate_34 : decode cX4_evaluate 34 = .ok (.invokevirtual 112, 3) := by decide +kernel
theorem dX4_evaluate_37 : decode cX4_evaluate 37 = .ok (.invokevirtual 116, 3) := by decide +kernel
theorem dX4_evaluate_40 : decode cX4_evaluate 40 = .ok (.ifCond .ne 5, 3) := by decide +kernel
theorem dX4_evaluate_43 : decode cX4_evaluate 43 = .ok (.iload_n 2, 1) := by decide +kernel
theorem dX4_evaluate_44 : decode cX4_evaluate 44 = .ok (.ireturn, 1) := by decide +kernel
theorem dX4_evaluate_45 : decode cX4_evaluate 45 = .ok (.aload_n 1, 1) := by decide +kernel
theorem dX4_evaluate_46 : decode cX4_evaluate 46 = .ok (.aload_n 0, 1) := by decide +kernel
theorem dX4_evaluate_47 : decode cX4_evaluate 47 = .ok (.getfield 24, 3) := by decide +kernel
theorem dX4_evaluate_50 : decode cX4_evaluate 50 = .ok (.invokevirtual 120, 3) := by decide +kernel
theorem dX4_evaluate_53 : decode cX4_evaluate 53 = .ok (.iinc 2 1, 3) := by decide +kernel
theorem dX4_evaluate_56 : decode cX4_evaluate 56 = .ok (.goto (-54), 3) := by decide +kernel
theorem dX4_evaluate_59 : decode cX4_evaluate 59 = .ok (.bipush 40, 2) := by decide +kernel
theorem dX4_evaluate_61 : decode cX4_evaluate 61 = .ok (.ireturn, 1) := by decide +kernel
abbrev x_X4_evaluate : Cx := (4, cX4_evaluate, false, some (.int))
set_option maxRecDepth 10000 in
theorem g_X4_evaluate_0 {E : Ev} {d : Nat} {G : Hp} {Q : Po} {x0 : Nat} {x1 : Nat} (h : Xr E d x_X4_evaluate 2 [some (.ref x0), some (.ref x1), some (.int ((iv 0))), none] [] G Q) : Xr E d x_X4_evaluate 0 [some (.ref x0), some (.ref x1), none, none] [] G Q := by
  refine r_iconst dX4_evaluate_0 ?_
  refine r_istore_n dX4_evaluate_1 rfl ?_
  exact h
theorem e_X4_evaluate {E : Ev} {d : Nat} {G : Hp} {Q : Po} {x0 : Nat} {x1 : Nat} (h : Xr E d x_X4_evaluate 2 [some (.ref x0), some (.ref x1), some (.int ((iv 0))), none] [] G Q) : runs E (d + 1) i_X4_evaluate [.ref x0, .ref x1] G Q := by
  rw [runs_eq (m := (yX4_evaluate, cX4_evaluate, 4, some (.int), 1, 4, false, false)) rfl (Nat.le_of_ble_eq_true rfl)]
  exact g_X4_evaluate_0 h
set_option maxRecDepth 10000 in
theorem g_X4_evaluate_2 {E : Ev} {d : Nat} {G : Hp} {Q : Po} {x0 : Nat} {x1 : Nat} {x2 : Int32} {l3 : Option Value} (h : (if (iv 40) ≤ x2 then Q (some (.int (iv 40))) G else (rcv E G x1 2 = true ∧ (qCI E d i_X2_symbol [.ref x1, .int ((iv 0))] G fun v2 G1 => (qCI E d i_X6_isNonterminal [.int ((v2 - (iv 4)))] G1 fun v4 G3 => (if v4 = 0 then Q (some (.int x2)) G3 else (qFR E G3 x0 4 2 fun v5 => (qFR E G3 x0 4 0 fun v6 => (rcv E G3 v6 1 = true ∧ (qCR E d i_X1_body [.ref v6, .int ((v2 - (iv 4)))] G3 fun v8 G7 => (rcv E G7 v5 2 = true ∧ (qCI E d i_X2_expand [.ref v5, .ref x1, .int ((iv 0)), .ref v8] G7 fun v10 G9 => (if ¬ v10 = 0 then (qFR E G9 x0 4 2 fun v11 => (rcv E G9 x1 2 = true ∧ (qCV E d i_X2_become [.ref x1, .ref v11] G9 fun G12 => Xr E d x_X4_evaluate 2 [some (.ref x0), some (.ref x1), some (.int ((x2 + (iv 1)))), some (.int ((v2 - (iv 4))))] [] G12 Q))) else Q (some (.int x2)) G9))))))))))))) : Xr E d x_X4_evaluate 2 [some (.ref x0), some (.ref x1), some (.int x2), l3] [] G Q := by
  refine r_iload_n dX4_evaluate_2 rfl ?_
  refine r_bipush dX4_evaluate_3 rfl ?_
  refine r_cge (tgt := 59) dX4_evaluate_5 (by decide) (ite_imp (fun h => ?_) (fun h => ?_) h)
  · refine r_bipush dX4_evaluate_59 rfl ?_
    exact r_iret dX4_evaluate_61 rfl ⟨rfl, h⟩
  · refine r_aload_n dX4_evaluate_8 rfl ?_
    refine r_iconst dX4_evaluate_9 ?_
    refine r_cI dX4_evaluate_10 rfl (invV_eq rfl rfl rfl rfl rfl rfl ⟨rfl, Nat.le_of_ble_eq_true rfl⟩ h.1) (qCI_imp (fun v2 G1 h => ?_) h.2)
    refine r_iconst dX4_evaluate_13 ?_
    refine r_isub dX4_evaluate_14 ?_
    refine r_istore_n dX4_evaluate_15 rfl ?_
    refine r_iload_n dX4_evaluate_16 rfl ?_
    refine r_cI dX4_evaluate_17 rfl (invS_eq rfl (by decide) rfl rfl rfl rfl ⟨rfl, Nat.le_of_ble_eq_true rfl⟩) (qCI_imp (fun v4 G3 h => ?_) h)
    refine r_ifeq (tgt := 43) dX4_evaluate_20 (by decide) (ite_imp (fun h => ?_) (fun h => ?_) h)
    · refine r_iload_n dX4_evaluate_43 rfl ?_
      exact r_iret dX4_evaluate_44 rfl ⟨rfl, h⟩
    · refine r_aload_n dX4_evaluate_23 rfl ?_
      refine r_getR dX4_evaluate_24 rfl (qFR_imp (fun v5 h => ?_) h)
      refine r_aload_n dX4_evaluate_27 rfl ?_
      refine r_iconst dX4_evaluate_28 ?_
      refine r_aload_n dX4_evaluate_29 rfl ?_
      refine r_getR dX4_evaluate_30 rfl (qFR_imp (fun v6 h => ?_) h)
      refine r_iload_n dX4_evaluate_33 rfl ?_
      refine r_cR dX4_evaluate_34 rfl (invV_eq rfl rfl rfl rfl rfl rfl ⟨rfl, Nat.le_of_ble_eq_true rfl⟩ h.1) (qCR_imp (fun v8 G7 h => ?_) h.2)
      refine r_cI dX4_evaluate_37 rfl (invV_eq rfl rfl rfl rfl rfl rfl ⟨rfl, Nat.le_of_ble_eq_true rfl⟩ h.1) (qCI_imp (fun v10 G9 h => ?_) h.2)
      refine r_ifne (tgt := 45) dX4_evaluate_40 (by decide) (ite_imp (fun h => ?_) (fun h => ?_) h)
      · refine r_aload_n dX4_evaluate_45 rfl ?_
        refine r_aload_n dX4_evaluate_46 rfl ?_
        refine r_getR dX4_evaluate_47 rfl (qFR_imp (fun v11 h => ?_) h)
        refine r_cV dX4_evaluate_50 rfl (invV_eq rfl rfl rfl rfl rfl rfl ⟨rfl, Nat.le_of_ble_eq_true rfl⟩ h.1) (qCV_imp (fun G12 h => ?_) h.2)
        refine r_iinc dX4_evaluate_53 rfl rfl ?_
        refine r_goto (tgt := 2) dX4_evaluate_56 (by decide) ?_
        exact h
      · refine r_iload_n dX4_evaluate_43 rfl ?_
        exact r_iret dX4_evaluate_44 rfl ⟨rfl, h⟩
theorem dX4_runAutomaton_0 : decode cX4_runAutomaton 0 = .ok (.aload_n 0, 1) := by decide +kernel
theorem dX4_runAutomaton_1 : decode cX4_runAutomaton 1 = .ok (.getfield 35, 3) := by decide +kernel
theorem dX4_runAutomaton_4 : decode cX4_runAutomaton 4 = .ok (.bipush (-9), 2) := by decide +kernel
theorem dX4_runAutomaton_6 : decode cX4_runAutomaton 6 = .ok (.invokestatic 48, 3) := by decide +kernel
theorem dX4_runAutomaton_9 : decode cX4_runAutomaton 9 = .ok (.aload_n 0, 1) := by decide +kernel
theorem dX4_runAutomaton_10 : decode cX4_runAutomaton 10 = .ok (.getfield 35, 3) := by decide +kernel
theorem dX4_runAutomaton_13 : decode cX4_runAutomaton 13 = .ok (.iconst 1, 1) := by decide +kernel
theorem dX4_runAutomaton_14 : decode cX4_runAutomaton 14 = .ok (.iconst 0, 1) := by decide +kernel
theorem dX4_runAutomaton_15 : decode cX4_runAutomaton 15 = .ok (.iastore, 1) := by decide +kernel
theorem dX4_runAutomaton_16 : decode cX4_runAutomaton 16 = .ok (.iconst 1, 1) := by decide +kernel
theorem dX4_runAutomaton_17 : decode cX4_runAutomaton 17 = .ok (.istore_n 1, 1) := by decide +kernel
theorem dX4_runAutomaton_18 : decode cX4_runAutomaton 18 = .ok (.iconst 2, 1) := by decide +kernel
theorem dX4_runAutomaton_19 : decode cX4_runAutomaton 19 = .ok (.iload_n 1, 1) := by decide +kernel
theorem dX4_runAutomaton_20 : decode cX4_runAutomaton 20 = .ok (.imul, 1) := by decide +kernel
theorem dX4_runAutomaton_21 : decode cX4_runAutomaton 21 = .ok (.iconst 1, 1) := by decide +kernel
theorem dX4_runAutomaton_22 : decode cX4_runAutomaton 22 = .ok (.iadd, 1) := by decide +kernel
theorem dX4_runAutomaton_23 : decode cX4_runAutomaton 23 = .ok (.sipush 128, 3) := by decide +kernel
theorem dX4_runAutomaton_26 : decode cX4_runAutomaton 26 = .ok (.if_icmp .ge 93, 3) := by decide +kernel
theorem dX4_runAutomaton_29 : decode cX4_runAutomaton 29 = .ok (.aload_n 0, 1) := by decide +kernel
theorem dX4_runAutomaton_30 : decode cX4_runAutomaton 30 = .ok (.getfield 28, 3) := by decide +kernel
theorem dX4_runAutomaton_33 : decode cX4_runAutomaton 33 = .ok (.iload_n 1, 1) := by decide +kernel
theorem dX4_runAutomaton_34 : decode cX4_runAutomaton 34 = .ok (.iaload, 1) := by decide +kernel
theorem dX4_runAutomaton_35 : decode cX4_runAutomaton 35 = .ok (.istore_n 2, 1) := by decide +kernel
theorem dX4_runAutomaton_36 : decode cX4_runAutomaton 36 = .ok (.iload_n 2, 1) := by decide +kernel
theorem dX4_runAutomaton_37 : decode cX4_runAutomaton 37 = .ok (.invokestatic 84, 3) := by decide +kernel
theorem dX4_runAutomaton_40 : decode cX4_runAutomaton 40 = .ok (.ifCond .eq 73, 3) := by decide +kernel
theorem dX4_runAutomaton_43 : decode cX4_runAutomaton 43 = .ok (.aload_n 0, 1) := by decide +kernel
theorem dX4_runAutomaton_44 : decode cX4_runAutomaton 44 = .ok (.getfield 35, 3) := by decide +kernel
theorem dX4_runAutomaton_47 : decode cX4_runAutomaton 47 = .ok (.iload_n 1, 1) := by decide +kernel
theorem dX4_runAutomaton_48 : decode cX4_runAutomaton 48 = .ok (.iaload, 1) := by decide +kernel
theorem dX4_runAutomaton_49 : decode cX4_runAutomaton 49 = .ok (.invokestatic 81, 3) := by decide +kernel
theorem dX4_runAutomaton_52 : decode cX4_runAutomaton 52 = .ok (.ifCond .eq 61, 3) := by decide +kernel
theorem dX4_runAutomaton_55 : decode cX4_runAutomaton 55 = .ok (.aload_n 0, 1) := by decide +kernel
theorem dX4_runAutomaton_56 : decode cX4_runAutomaton 56 = .ok (.getfield 9, 3) := by decide +kernel
theorem dX4_runAutomaton_59 : decode cX4_runAutomaton 59 = .ok (.aload_n 0, 1) := by decide +kernel
theorem dX4_runAutomaton_60 : decode cX4_runAutomaton 60 = .ok (.getfield 35, 3) := by decide +kernel
theorem dX4_runAutomaton_63 : decode cX4_runAutomaton 63 = .ok (.iload_n 1, 1) := by decide +kernel
theorem dX4_runAutomaton_64 : decode cX4_runAutomaton 64 = .ok (.iaload, 1) := by decide +kernel
theorem dX4_runAutomaton_65 : decode cX4_runAutomaton 65 = .ok (.iload_n 2, 1) := by decide +kernel
theorem dX4_runAutomaton_66 : decode cX4_runAutomaton 66 = .ok (.invokevirtual 87, 3) := by decide +kernel
theorem dX4_runAutomaton_69 : decode cX4_runAutomaton 69 = .ok (.ifCond .eq 44, 3) := by decide +kernel
theorem dX4_runAutomaton_72 : decode cX4_runAutomaton 72 = .ok (.iconst 1, 1) := by decide +kernel
theorem dX4_runAutomaton_73 : decode cX4_runAutomaton 73 = .ok (.istore_n 3, 1) := by decide +kernel
theorem dX4_runAutomaton_74 : decode cX4_runAutomaton 74 = .ok (.iload_n 3, 1) := by decide +kernel
theorem dX4_runAutomaton_75 : decode cX4_runAutomaton 75 = .ok (.iload_n 2, 1) := by decide +kernel
theorem dX4_runAutomaton_76 : decode cX4_runAutomaton 76 = .ok (.invokestatic 75, 3) := by decide +kernel
theorem dX4_runAutomaton_79 : decode cX4_runAutomaton 79 = .ok (.if_icmp .gt 34, 3) := by decide +kernel
theorem dX4_runAutomaton_82 : decode cX4_runAutomaton 82 = .ok (.aload_n 0, 1) := by decide +kernel
theorem dX4_runAutomaton_83 : decode cX4_runAutomaton 83 = .ok (.getfield 35, 3) := by decide +kernel
theorem dX4_runAutomaton_86 : decode cX4_runAutomaton 86 = .ok (.iload_n 1, 1) := by decide +kernel
theorem dX4_runAutomaton_87 : decode cX4_runAutomaton 87 = .ok (.iload_n 3, 1) := by decide +kernel
theorem dX4_runAutomaton_88 : decode cX4_runAutomaton 88 = .ok (.invokestatic 105, 3) := by decide +kernel
theorem dX4_runAutomaton_91 : decode cX4_runAutomaton 91 = .ok (.aload_n 0, 1) := by decide +kernel
theorem dX4_runAutomaton_92 : decode cX4_runAutomaton 92 = .ok (.getfield 9, 3) := by decide +kernel
theorem dX4_runAutomaton_95 : decode cX4_runAutomaton 95 = .ok (.aload_n 0, 1) := by decide +kernel
theorem dX4_runAutomaton_96 : decode cX4_runAutomaton 96 = .ok (.getfield 35, 3) := by decide +kernel
theorem dX4_runAutomaton_99 : decode cX4_runAutomaton 99 = .ok (.iload_n 1, 1) := by decide +kernel
theorem dX4_runAutomaton_100 : decode cX4_runAutomaton 100 = .ok (.iaload, 1) := by decide +kernel
theorem dX4_runAutomaton_101 : decode cX4_runAutomaton 101 = .ok (.iload_n 2, 1) := by decide +kernel
theorem dX4_runAutomaton_102 : decode cX4_runAutomaton 102 = .ok (.iload_n 3, 1) := by decide +kernel
theorem dX4_runAutomaton_103 : decode cX4_runAutomaton 103 = .ok (.invokevirtual 124, 3) := by decide +kernel
theorem dX4_runAutomaton_106 : decode cX4_runAutomaton 106 = .ok (.iastore, 1) := by decide +kernel
theorem dX4_runAutomaton_107 : decode cX4_runAutomaton 107 = .ok (.iinc 3 1, 3) := by decide +kernel
theorem dX4_runAutomaton_110 : decode cX4_runAutomaton 110 = .ok (.goto (-36), 3) := by decide +kernel
theorem dX4_runAutomaton_113 : decode cX4_runAutomaton 113 = .ok (.iinc 1 1, 3) := by decide +kernel
theorem dX4_runAutomaton_116 : decode cX4_runAutomaton 116 = .ok (.goto (-98), 3) := by decide +kernel
theorem dX4_runAutomaton_119 : decode cX4_runAutomaton 119 = .ok (.return_, 1) := by decide +kernel
abbrev x_X4_runAutomaton : Cx := (4, cX4_runAutomaton, false, none)
set_option maxRecDepth 10000 in
theorem g_X4_runAutomaton_0 {E : Ev} {d : Nat} {G : Hp} {Q : Po} {x0 : Nat} (h : (qFR E G x0 4 5 fun v1 => (qCV E d i_J7_fill_53178 [.ref v1, .int ((iv (-9)))] G fun G2 => (qFR E G2 x0 4 5 fun v3 => (qIS E G2 v3 (iv 1) (iv 0) fun G4 => Xr E d x_X4_runAutomaton 18 [some (.ref x0), some (.int ((iv 1))), none, none] [] G4 Q))))) : Xr E d x_X4_runAutomaton 0 [some (.ref x0), none, none, none] [] G Q := by
  refine r_aload_n dX4_runAutomaton_0 rfl ?_
  refine r_getR dX4_runAutomaton_1 rfl (qFR_imp (fun v1 h => ?_) h)
  refine r_bipush dX4_runAutomaton_4 rfl ?_
  refine r_cV dX4_runAutomaton_6 rfl (invS_eq rfl (by decide) rfl rfl rfl rfl ⟨rfl, Nat.le_of_ble_eq_true rfl⟩) (qCV_imp (fun G2 h => ?_) h)
  refine r_aload_n dX4_runAutomaton_9 rfl ?_
  refine r_getR dX4_runAutomaton_10 rfl (qFR_imp (fun v3 h => ?_) h)
  refine r_iconst dX4_runAutomaton_13 ?_
  refine r_iconst dX4_runAutomaton_14 ?_
  refine r_iast dX4_runAutomaton_15 (qIS_imp (fun G4 h => ?_) h)
  refine r_iconst dX4_runAutomaton_16 ?_
  refine r_istore_n dX4_runAutomaton_17 rfl ?_
  exact h
theorem e_X4_runAutomaton {E : Ev} {d : Nat} {G : Hp} {Q : Po} {x0 : Nat} (h : (qFR E G x0 4 5 fun v1 => (qCV E d i_J7_fill_53178 [.ref v1, .int ((iv (-9)))] G fun G2 => (qFR E G2 x0 4 5 fun v3 => (qIS E G2 v3 (iv 1) (iv 0) fun G4 => Xr E d x_X4_runAutomaton 18 [some (.ref x0), some (.int ((iv 1))), none, none] [] G4 Q))))) : runs E (d + 1) i_X4_runAutomaton [.ref x0] G Q := by
  rw [runs_eq (m := (yX4_runAutomaton, cX4_runAutomaton, 4, none, 0, 4, false, false)) rfl (Nat.le_of_ble_eq_true rfl)]
  exact g_X4_runAutomaton_0 h
set_option maxRecDepth 10000 in
theorem g_X4_runAutomaton_18 {E : Ev} {d : Nat} {G : Hp} {Q : Po} {x0 : Nat} {x1 : Int32} {l2 : Option Value} {l3 : Option Value} (h : (if (iv 128) ≤ (((iv 2) * x1) + (iv 1)) then Q none G else (qFR E G x0 4 3 fun v1 => (qIA 4 E G v1 x1 fun v2 => (qCI E d i_X6_isTerminal [.int v2] G fun v4 G3 => (if v4 = 0 then Xr E d x_X4_runAutomaton 18 [some (.ref x0), some (.int ((x1 + (iv 1)))), some (.int v2), l3] [] G3 Q else (qFR E G3 x0 4 5 fun v5 => (qIA 4 E G3 v5 x1 fun v6 => (qCI E d i_X6_isState [.int v6] G3 fun v8 G7 => (if v8 = 0 then Xr E d x_X4_runAutomaton 18 [some (.ref x0), some (.int ((x1 + (iv 1)))), some (.int v2), l3] [] G7 Q else (qFR E G7 x0 4 0 fun v9 => (qFR E G7 x0 4 5 fun v10 => (qIA 4 E G7 v10 x1 fun v11 => (rcv E G7 v9 1 = true ∧ (qCI E d i_X1_canRead [.ref v9, .int v11, .int v2] G7 fun v13 G12 => (if v13 = 0 then Xr E d x_X4_runAutomaton 18 [some (.ref x0), some (.int ((x1 + (iv 1)))), some (.int v2), l3] [] G12 Q else Xr E d x_X4_runAutomaton 74 [some (.ref x0), some (.int x1), some (.int v2), some (.int ((iv 1)))] [] G12 Q)))))))))))))))) : Xr E d x_X4_runAutomaton 18 [some (.ref x0), some (.int x1), l2, l3] [] G Q := by
  refine r_iconst dX4_runAutomaton_18 ?_
  refine r_iload_n dX4_runAutomaton_19 rfl ?_
  refine r_imul dX4_runAutomaton_20 ?_
  refine r_iconst dX4_runAutomaton_21 ?_
  refine r_iadd dX4_runAutomaton_22 ?_
  refine r_sipush dX4_runAutomaton_23 rfl ?_
  refine r_cge (tgt := 119) dX4_runAutomaton_26 (by decide) (ite_imp (fun h => ?_) (fun h => ?_) h)
  · exact r_vret dX4_runAutomaton_119 rfl h
  · refine r_aload_n dX4_runAutomaton_29 rfl ?_
    refine r_getR dX4_runAutomaton_30 rfl (qFR_imp (fun v1 h => ?_) h)
    refine r_iload_n dX4_runAutomaton_33 rfl ?_
    refine r_iald dX4_runAutomaton_34 (qIA_imp (fun v2 h => ?_) h)
    refine r_istore_n dX4_runAutomaton_35 rfl ?_
    refine r_iload_n dX4_runAutomaton_36 rfl ?_
    refine r_cI dX4_runAutomaton_37 rfl (invS_eq rfl (by decide) rfl rfl rfl rfl ⟨rfl, Nat.le_of_ble_eq_true rfl⟩) (qCI_imp (fun v4 G3 h => ?_) h)
    refine r_ifeq (tgt := 113) dX4_runAutomaton_40 (by decide) (ite_imp (fun h => ?_) (fun h => ?_) h)
    · refine r_iinc dX4_runAutomaton_113 rfl rfl ?_
      refine r_goto (tgt := 18) dX4_runAutomaton_116 (by decide) ?_
      exact h
    · refine r_aload_n dX4_runAutomaton_43 rfl ?_
      refine r_getR dX4_runAutomaton_44 rfl (qFR_imp (fun v5 h => ?_) h)
      refine r_iload_n dX4_runAutomaton_47 rfl ?_
      refine r_iald dX4_runAutomaton_48 (qIA_imp (fun v6 h => ?_) h)
      refine r_cI dX4_runAutomaton_49 rfl (invS_eq rfl (by decide) rfl rfl rfl rfl ⟨rfl, Nat.le_of_ble_eq_true rfl⟩) (qCI_imp (fun v8 G7 h => ?_) h)
      refine r_ifeq (tgt := 113) dX4_runAutomaton_52 (by decide) (ite_imp (fun h => ?_) (fun h => ?_) h)
      · refine r_iinc dX4_runAutomaton_113 rfl rfl ?_
        refine r_goto (tgt := 18) dX4_runAutomaton_116 (by decide) ?_
        exact h
      · refine r_aload_n dX4_runAutomaton_55 rfl ?_
        refine r_getR dX4_runAutomaton_56 rfl (qFR_imp (fun v9 h => ?_) h)
        refine r_aload_n dX4_runAutomaton_59 rfl ?_
        refine r_getR dX4_runAutomaton_60 rfl (qFR_imp (fun v10 h => ?_) h)
        refine r_iload_n dX4_runAutomaton_63 rfl ?_
        refine r_iald dX4_runAutomaton_64 (qIA_imp (fun v11 h => ?_) h)
        refine r_iload_n dX4_runAutomaton_65 rfl ?_
        refine r_cI dX4_runAutomaton_66 rfl (invV_eq rfl rfl rfl rfl rfl rfl ⟨rfl, Nat.le_of_ble_eq_true rfl⟩ h.1) (qCI_imp (fun v13 G12 h => ?_) h.2)
        refine r_ifeq (tgt := 113) dX4_runAutomaton_69 (by decide) (ite_imp (fun h => ?_) (fun h => ?_) h)
        · refine r_iinc dX4_runAutomaton_113 rfl rfl ?_
          refine r_goto (tgt := 18) dX4_runAutomaton_116 (by decide) ?_
          exact h
        · refine r_iconst dX4_runAutomaton_72 ?_
          refine r_istore_n dX4_runAutomaton_73 rfl ?_
          exact h
set_option maxRecDepth 10000 in
theorem g_X4_runAutomaton_74 {E : Ev} {d : Nat} {G : Hp} {Q : Po} {x0 : Nat} {x1 : Int32} {x2 : Int32} {x3 : Int32} (h : (qCI E d i_X6_arityOf [.int x2] G fun v2 G1 => (if v2 < x3 then Xr E d x_X4_runAutomaton 18 [some (.ref x0), some (.int ((x1 + (iv 1)))), some (.int x2), some (.int x3)] [] G1 Q else (qFR E G1 x0 4 5 fun v3 => (qCI E d i_X6_childOf [.int x1, .int x3] G1 fun v5 G4 => (qFR E G4 x0 4 0 fun v6 => (qFR E G4 x0 4 5 fun v7 => (qIA 4 E G4 v7 x1 fun v8 => (rcv E G4 v6 1 = true ∧ (qCI E d i_X1_target [.ref v6, .int v8, .int x2, .int x3] G4 fun v10 G9 => (qIS E G9 v3 v5 v10 fun G11 => Xr E d x_X4_runAutomaton 74 [some (.ref x0), some (.int x1), some (.int x2), some (.int ((x3 + (iv 1))))] [] G11 Q))))))))))) : Xr E d x_X4_runAutomaton 74 [some (.ref x0), some (.int x1), some (.int x2), some (.int x3)] [] G Q := by
  refine r_iload_n dX4_runAutomaton_74 rfl ?_
  refine r_iload_n dX4_runAutomaton_75 rfl ?_
  refine r_cI dX4_runAutomaton_76 rfl (invS_eq rfl (by decide) rfl rfl rfl rfl ⟨rfl, Nat.le_of_ble_eq_true rfl⟩) (qCI_imp (fun v2 G1 h => ?_) h)
  refine r_cgt (tgt := 113) dX4_runAutomaton_79 (by decide) (ite_imp (fun h => ?_) (fun h => ?_) h)
  · refine r_iinc dX4_runAutomaton_113 rfl rfl ?_
    refine r_goto (tgt := 18) dX4_runAutomaton_116 (by decide) ?_
    exact h
  · refine r_aload_n dX4_runAutomaton_82 rfl ?_
    refine r_getR dX4_runAutomaton_83 rfl (qFR_imp (fun v3 h => ?_) h)
    refine r_iload_n dX4_runAutomaton_86 rfl ?_
    refine r_iload_n dX4_runAutomaton_87 rfl ?_
    refine r_cI dX4_runAutomaton_88 rfl (invS_eq rfl (by decide) rfl rfl rfl rfl ⟨rfl, Nat.le_of_ble_eq_true rfl⟩) (qCI_imp (fun v5 G4 h => ?_) h)
    refine r_aload_n dX4_runAutomaton_91 rfl ?_
    refine r_getR dX4_runAutomaton_92 rfl (qFR_imp (fun v6 h => ?_) h)
    refine r_aload_n dX4_runAutomaton_95 rfl ?_
    refine r_getR dX4_runAutomaton_96 rfl (qFR_imp (fun v7 h => ?_) h)
    refine r_iload_n dX4_runAutomaton_99 rfl ?_
    refine r_iald dX4_runAutomaton_100 (qIA_imp (fun v8 h => ?_) h)
    refine r_iload_n dX4_runAutomaton_101 rfl ?_
    refine r_iload_n dX4_runAutomaton_102 rfl ?_
    refine r_cI dX4_runAutomaton_103 rfl (invV_eq rfl rfl rfl rfl rfl rfl ⟨rfl, Nat.le_of_ble_eq_true rfl⟩ h.1) (qCI_imp (fun v10 G9 h => ?_) h.2)
    refine r_iast dX4_runAutomaton_106 (qIS_imp (fun G11 h => ?_) h)
    refine r_iinc dX4_runAutomaton_107 rfl rfl ?_
    refine r_goto (tgt := 74) dX4_runAutomaton_110 (by decide) ?_
    exact h
