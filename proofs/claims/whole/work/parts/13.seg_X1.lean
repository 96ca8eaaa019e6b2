/-! segments, by program (wip/whole/gen/seg.py) -/
theorem dX1_init_0 : decode cX1_init 0 = .ok (.aload_n 0, 1) := by decide +kernel
theorem dX1_init_1 : decode cX1_init 1 = .ok (.invokespecial 3, 3) := by decide +kernel
theorem dX1_init_4 : decode cX1_init 4 = .ok (.aload_n 0, 1) := by decide +kernel
theorem dX1_init_5 : decode cX1_init 5 = .ok (.iconst 4, 1) := by decide +kernel
theorem dX1_init_6 : decode cX1_init 6 = .ok (.anewarray 9, 3) := by decide +kernel
theorem dX1_init_9 : decode cX1_init 9 = .ok (.putfield 11, 3) := by decide +kernel
theorem dX1_init_12 : decode cX1_init 12 = .ok (.iconst 0, 1) := by decide +kernel
theorem dX1_init_13 : decode cX1_init 13 = .ok (.istore_n 1, 1) := by decide +kernel
theorem dX1_init_14 : decode cX1_init 14 = .ok (.iload_n 1, 1) := by decide +kernel
theorem dX1_init_15 : decode cX1_init 15 = .ok (.iconst 4, 1) := by decide +kernel
theorem dX1_init_16 : decode cX1_init 16 = .ok (.if_icmp .ge 24, 3) := by decide +kernel
theorem dX1_init_19 : decode cX1_init 19 = .ok (.aload_n 0, 1) := by decide +kernel
theorem dX1_init_20 : decode cX1_init 20 = .ok (.getfield 11, 3) := by decide +kernel
theorem dX1_init_23 : decode cX1_init 23 = .ok (.iload_n 1, 1) := by decide +kernel
theorem dX1_init_24 : decode cX1_init 24 = .ok (.new 9, 3) := by decide +kernel
theorem dX1_init_27 : decode cX1_init 27 = .ok (.dup, 1) := by decide +kernel
theorem dX1_init_28 : decode cX1_init 28 = .ok (.bipush 30, 2) := by decide +kernel
theorem dX1_init_30 : decode cX1_init 30 = .ok (.invokespecial 17, 3) := by decide +kernel
theorem dX1_init_33 : decode cX1_init 33 = .ok (.aastore, 1) := by decide +kernel
theorem dX1_init_34 : decode cX1_init 34 = .ok (.iinc 1 1, 3) := by decide +kernel
theorem dX1_init_37 : decode cX1_init 37 = .ok (.goto (-23), 3) := by decide +kernel
theorem dX1_init_40 : decode cX1_init 40 = .ok (.aload_n 0, 1) := by decide +kernel
theorem dX1_init_41 : decode cX1_init 41 = .ok (.bipush 12, 2) := by decide +kernel
theorem dX1_init_43 : decode cX1_init 43 = .ok (.newarray .int, 2) := by decide +kernel
theorem dX1_init_45 : decode cX1_init 45 = .ok (.putfield 20, 3) := by decide +kernel
theorem dX1_init_48 : decode cX1_init 48 = .ok (.aload_n 0, 1) := by decide +kernel
theorem dX1_init_49 : decode cX1_init 49 = .ok (.bipush 12, 2) := by decide +kernel
theorem dX1_init_51 : decode cX1_init 51 = .ok (.newarray .int, 2) := by decide +kernel
theorem dX1_init_53 : decode cX1_init 53 = .ok (.putfield 24, 3) := by decide +kernel
theorem dX1_init_56 : decode cX1_init 56 = .ok (.aload_n 0, 1) := by decide +kernel
theorem dX1_init_57 : decode cX1_init 57 = .ok (.iconst 0, 1) := by decide +kernel
theorem dX1_init_58 : decode cX1_init 58 = .ok (.putfield 27, 3) := by decide +kernel
theorem dX1_init_61 : decode cX1_init 61 = .ok (.aload_n 0, 1) := by decide +kernel
theorem dX1_init_62 : decode cX1_init 62 = .ok (.invokevirtual 31, 3) := by decide +kernel
theorem dX1_init_65 : decode cX1_init 65 = .ok (.return_, 1) := by decide +kernel
abbrev x_X1_init : Cx := (1, cX1_init, true, none)
set_option maxRecDepth 10000 in
theorem g_X1_init_0 {E : Ev} {d : Nat} {G : Hp} {Q : Po} {x0 : Nat} (h : ((¬ (iv 4) < 0 ∧ ((iv 4)).toNatClampNeg ≤ 100000) ∧ (qP E (psh G (cR 1 ((iv 4)).toNatClampNeg (fun _ => none)) ((iv 4)).toNatClampNeg) x0 1 0 (.ref ((nxA E G))) fun G1 => Xr E d x_X1_init 14 [some (.ref x0), some (.int ((iv 0)))] [] G1 Q))) : Xr E d x_X1_init 0 [some (.ref x0), none] [] G Q := by
  refine r_aload_n dX1_init_0 rfl ?_
  refine r_oinit dX1_init_1 rfl (Nat.le_of_ble_eq_true rfl) ?_
  refine r_aload_n dX1_init_4 rfl ?_
  refine r_iconst dX1_init_5 ?_
  refine r_newR dX1_init_6 rfl (by decide) ⟨h.1, ?_⟩
  replace h := h.2
  refine r_put dX1_init_9 rfl rfl (by decide) (qP_imp (fun G1 h => ?_) h)
  refine r_iconst dX1_init_12 ?_
  refine r_istore_n dX1_init_13 rfl ?_
  exact h
theorem e_X1_init {E : Ev} {d : Nat} {G : Hp} {Q : Po} {x0 : Nat} (h : ((¬ (iv 4) < 0 ∧ ((iv 4)).toNatClampNeg ≤ 100000) ∧ (qP E (psh G (cR 1 ((iv 4)).toNatClampNeg (fun _ => none)) ((iv 4)).toNatClampNeg) x0 1 0 (.ref ((nxA E G))) fun G1 => Xr E d x_X1_init 14 [some (.ref x0), some (.int ((iv 0)))] [] G1 Q))) : runs E (d + 1) i_X1_init [.ref x0] G Q := by
  rw [runs_eq (m := (yX1_init, cX1_init, 2, none, 0, 1, true, false)) rfl (Nat.le_of_ble_eq_true rfl)]
  exact g_X1_init_0 h
set_option maxRecDepth 10000 in
theorem g_X1_init_14 {E : Ev} {d : Nat} {G : Hp} {Q : Po} {x0 : Nat} {x1 : Int32} (h : (if (iv 4) ≤ x1 then ((¬ (iv 12) < 0 ∧ ((iv 12)).toNatClampNeg ≤ 100000) ∧ (qP E (psh G (cA 0 ((iv 12)).toNatClampNeg (fun _ => 0)) ((iv 12)).toNatClampNeg) x0 1 1 (.ref ((nxA E G))) fun G1 => ((¬ (iv 12) < 0 ∧ ((iv 12)).toNatClampNeg ≤ 100000) ∧ (qP E (psh G1 (cA 0 ((iv 12)).toNatClampNeg (fun _ => 0)) ((iv 12)).toNatClampNeg) x0 1 2 (.ref ((nxA E G1))) fun G2 => (qP E G2 x0 1 3 (.int ((iv 0))) fun G3 => (rcv E G3 x0 1 = true ∧ (qCV E d i_X1_reset [.ref x0] G3 fun G4 => Q none G4))))))) else (qFR E G x0 1 0 fun v5 => (qCV E d i_X2_init [.ref ((nxA E G)), .int ((iv 30))] (psh G (cO 2 (fDf 2)) (fSz 2)) fun G6 => (qRS E G6 v5 x1 (nxA E G) fun G7 => Xr E d x_X1_init 14 [some (.ref x0), some (.int ((x1 + (iv 1))))] [] G7 Q))))) : Xr E d x_X1_init 14 [some (.ref x0), some (.int x1)] [] G Q := by
  refine r_iload_n dX1_init_14 rfl ?_
  refine r_iconst dX1_init_15 ?_
  refine r_cge (tgt := 40) dX1_init_16 (by decide) (ite_imp (fun h => ?_) (fun h => ?_) h)
  · refine r_aload_n dX1_init_40 rfl ?_
    refine r_bipush dX1_init_41 rfl ?_
    refine r_newI dX1_init_43 ⟨h.1, ?_⟩
    replace h := h.2
    refine r_put dX1_init_45 rfl rfl (by decide) (qP_imp (fun G1 h => ?_) h)
    refine r_aload_n dX1_init_48 rfl ?_
    refine r_bipush dX1_init_49 rfl ?_
    refine r_newI dX1_init_51 ⟨h.1, ?_⟩
    replace h := h.2
    refine r_put dX1_init_53 rfl rfl (by decide) (qP_imp (fun G2 h => ?_) h)
    refine r_aload_n dX1_init_56 rfl ?_
    refine r_iconst dX1_init_57 ?_
    refine r_put dX1_init_58 rfl rfl (by decide) (qP_imp (fun G3 h => ?_) h)
    refine r_aload_n dX1_init_61 rfl ?_
    refine r_cV dX1_init_62 rfl (invV_eq rfl rfl rfl rfl rfl rfl ⟨rfl, Nat.le_of_ble_eq_true rfl⟩ h.1) (qCV_imp (fun G4 h => ?_) h.2)
    exact r_vret dX1_init_65 rfl h
  · refine r_aload_n dX1_init_19 rfl ?_
    refine r_getR dX1_init_20 rfl (qFR_imp (fun v5 h => ?_) h)
    refine r_iload_n dX1_init_23 rfl ?_
    refine r_new dX1_init_24 rfl (by decide) ?_
    refine r_dup dX1_init_27 rfl ?_
    refine r_bipush dX1_init_28 rfl ?_
    refine r_cV dX1_init_30 rfl (invI_eq rfl rfl rfl rfl rfl rfl ⟨rfl, Nat.le_of_ble_eq_true rfl⟩) (qCV_imp (fun G6 h => ?_) h)
    refine r_aast dX1_init_33 (qRS_imp (fun G7 h => ?_) h)
    refine r_iinc dX1_init_34 rfl rfl ?_
    refine r_goto (tgt := 14) dX1_init_37 (by decide) ?_
    exact h
theorem dX1_edits_0 : decode cX1_edits 0 = .ok (.aload_n 0, 1) := by decide +kernel
theorem dX1_edits_1 : decode cX1_edits 1 = .ok (.getfield 27, 3) := by decide +kernel
theorem dX1_edits_4 : decode cX1_edits 4 = .ok (.ireturn, 1) := by decide +kernel
abbrev x_X1_edits : Cx := (1, cX1_edits, false, some (.int))
set_option maxRecDepth 10000 in
theorem g_X1_edits_0 {E : Ev} {d : Nat} {G : Hp} {Q : Po} {x0 : Nat} (h : (qFI E G x0 1 3 fun v1 => Q (some (.int v1)) G)) : Xr E d x_X1_edits 0 [some (.ref x0)] [] G Q := by
  refine r_aload_n dX1_edits_0 rfl ?_
  refine r_getI dX1_edits_1 rfl (qFI_imp (fun v1 h => ?_) h)
  exact r_iret dX1_edits_4 rfl ⟨rfl, h⟩
theorem e_X1_edits {E : Ev} {d : Nat} {G : Hp} {Q : Po} {x0 : Nat} (h : (qFI E G x0 1 3 fun v1 => Q (some (.int v1)) G)) : runs E (d + 1) i_X1_edits [.ref x0] G Q := by
  rw [runs_eq (m := (yX1_edits, cX1_edits, 1, some (.int), 0, 1, false, false)) rfl (Nat.le_of_ble_eq_true rfl)]
  exact g_X1_edits_0 h
theorem dX1_reset_0 : decode cX1_reset 0 = .ok (.iconst 0, 1) := by decide +kernel
theorem dX1_reset_1 : decode cX1_reset 1 = .ok (.istore_n 1, 1) := by decide +kernel
theorem dX1_reset_2 : decode cX1_reset 2 = .ok (.iload_n 1, 1) := by decide +kernel
theorem dX1_reset_3 : decode cX1_reset 3 = .ok (.iconst 4, 1) := by decide +kernel
theorem dX1_reset_4 : decode cX1_reset 4 = .ok (.if_icmp .ge 29, 3) := by decide +kernel
theorem dX1_reset_7 : decode cX1_reset 7 = .ok (.aload_n 0, 1) := by decide +kernel
theorem dX1_reset_8 : decode cX1_reset 8 = .ok (.getfield 11, 3) := by decide +kernel
theorem dX1_reset_11 : decode cX1_reset 11 = .ok (.iload_n 1, 1) := by decide +kernel
theorem dX1_reset_12 : decode cX1_reset 12 = .ok (.aaload, 1) := by decide +kernel
theorem dX1_reset_13 : decode cX1_reset 13 = .ok (.invokevirtual 34, 3) := by decide +kernel
theorem dX1_reset_16 : decode cX1_reset 16 = .ok (.aload_n 0, 1) := by decide +kernel
theorem dX1_reset_17 : decode cX1_reset 17 = .ok (.getfield 11, 3) := by decide +kernel
theorem dX1_reset_20 : decode cX1_reset 20 = .ok (.iload_n 1, 1) := by decide +kernel
theorem dX1_reset_21 : decode cX1_reset 21 = .ok (.aaload, 1) := by decide +kernel
theorem dX1_reset_22 : decode cX1_reset 22 = .ok (.iconst 2, 1) := by decide +kernel
theorem dX1_reset_23 : decode cX1_reset 23 = .ok (.invokevirtual 37, 3) := by decide +kernel
theorem dX1_reset_26 : decode cX1_reset 26 = .ok (.pop, 1) := by decide +kernel
theorem dX1_reset_27 : decode cX1_reset 27 = .ok (.iinc 1 1, 3) := by decide +kernel
theorem dX1_reset_30 : decode cX1_reset 30 = .ok (.goto (-28), 3) := by decide +kernel
theorem dX1_reset_33 : decode cX1_reset 33 = .ok (.aload_n 0, 1) := by decide +kernel
theorem dX1_reset_34 : decode cX1_reset 34 = .ok (.getfield 20, 3) := by decide +kernel
theorem dX1_reset_37 : decode cX1_reset 37 = .ok (.iconst (-1), 1) := by decide +kernel
theorem dX1_reset_38 : decode cX1_reset 38 = .ok (.invokestatic 41, 3) := by decide +kernel
theorem dX1_reset_41 : decode cX1_reset 41 = .ok (.aload_n 0, 1) := by decide +kernel
theorem dX1_reset_42 : decode cX1_reset 42 = .ok (.getfield 24, 3) := by decide +kernel
theorem dX1_reset_45 : decode cX1_reset 45 = .ok (.iconst (-1), 1) := by decide +kernel
theorem dX1_reset_46 : decode cX1_reset 46 = .ok (.invokestatic 41, 3) := by decide +kernel
theorem dX1_reset_49 : decode cX1_reset 49 = .ok (.aload_n 0, 1) := by decide +kernel
theorem dX1_reset_50 : decode cX1_reset 50 = .ok (.dup, 1) := by decide +kernel
theorem dX1_reset_51 : decode cX1_reset 51 = .ok (.getfield 27, 3) := by decide +kernel
theorem dX1_reset_54 : decode cX1_reset 54 = .ok (.iconst 1, 1) := by decide +kernel
theorem dX1_reset_55 : decode cX1_reset 55 = .ok (.iadd, 1) := by decide +kernel
theorem dX1_reset_56 : decode cX1_reset 56 = .ok (.putfield 27, 3) := by decide +kernel
theorem dX1_reset_59 : decode cX1_reset 59 = .ok (.return_, 1) := by decide +kernel
abbrev x_X1_reset : Cx := (1, cX1_reset, false, none)
set_option maxRecDepth 10000 in
theorem g_X1_reset_0 {E : Ev} {d : Nat} {G : Hp} {Q : Po} {x0 : Nat} (h : Xr E d x_X1_reset 2 [some (.ref x0), some (.int ((iv 0)))] [] G Q) : Xr E d x_X1_reset 0 [some (.ref x0), none] [] G Q := by
  refine r_iconst dX1_reset_0 ?_
  refine r_istore_n dX1_reset_1 rfl ?_
  exact h
theorem e_X1_reset {E : Ev} {d : Nat} {G : Hp} {Q : Po} {x0 : Nat} (h : Xr E d x_X1_reset 2 [some (.ref x0), some (.int ((iv 0)))] [] G Q) : runs E (d + 1) i_X1_reset [.ref x0] G Q := by
  rw [runs_eq (m := (yX1_reset, cX1_reset, 2, none, 0, 1, false, false)) rfl (Nat.le_of_ble_eq_true rfl)]
  exact g_X1_reset_0 h
set_option maxRecDepth 10000 in
theorem g_X1_reset_2 {E : Ev} {d : Nat} {G : Hp} {Q : Po} {x0 : Nat} {x1 : Int32} (h : (if (iv 4) ≤ x1 then (qFR E G x0 1 1 fun v1 => (qCV E d i_J7_fill_53178 [.ref v1, .int ((iv (-1)))] G fun G2 => (qFR E G2 x0 1 2 fun v3 => (qCV E d i_J7_fill_53178 [.ref v3, .int ((iv (-1)))] G2 fun G4 => (qFI E G4 x0 1 3 fun v5 => (qP E G4 x0 1 3 (.int ((v5 + (iv 1)))) fun G6 => Q none G6)))))) else (qFR E G x0 1 0 fun v7 => (qRA E G v7 x1 fun v8 => (rcv E G v8 2 = true ∧ (qCV E d i_X2_empty [.ref v8] G fun G9 => (qFR E G9 x0 1 0 fun v10 => (qRA E G9 v10 x1 fun v11 => (rcv E G9 v11 2 = true ∧ (qCI E d i_X2_add [.ref v11, .int ((iv 2))] G9 fun v13 G12 => Xr E d x_X1_reset 2 [some (.ref x0), some (.int ((x1 + (iv 1))))] [] G12 Q)))))))))) : Xr E d x_X1_reset 2 [some (.ref x0), some (.int x1)] [] G Q := by
  refine r_iload_n dX1_reset_2 rfl ?_
  refine r_iconst dX1_reset_3 ?_
  refine r_cge (tgt := 33) dX1_reset_4 (by decide) (ite_imp (fun h => ?_) (fun h => ?_) h)
  · refine r_aload_n dX1_reset_33 rfl ?_
    refine r_getR dX1_reset_34 rfl (qFR_imp (fun v1 h => ?_) h)
    refine r_iconst dX1_reset_37 ?_
    refine r_cV dX1_reset_38 rfl (invS_eq rfl (by decide) rfl rfl rfl rfl ⟨rfl, Nat.le_of_ble_eq_true rfl⟩) (qCV_imp (fun G2 h => ?_) h)
    refine r_aload_n dX1_reset_41 rfl ?_
    refine r_getR dX1_reset_42 rfl (qFR_imp (fun v3 h => ?_) h)
    refine r_iconst dX1_reset_45 ?_
    refine r_cV dX1_reset_46 rfl (invS_eq rfl (by decide) rfl rfl rfl rfl ⟨rfl, Nat.le_of_ble_eq_true rfl⟩) (qCV_imp (fun G4 h => ?_) h)
    refine r_aload_n dX1_reset_49 rfl ?_
    refine r_dup dX1_reset_50 rfl ?_
    refine r_getI dX1_reset_51 rfl (qFI_imp (fun v5 h => ?_) h)
    refine r_iconst dX1_reset_54 ?_
    refine r_iadd dX1_reset_55 ?_
    refine r_put dX1_reset_56 rfl rfl (by decide) (qP_imp (fun G6 h => ?_) h)
    exact r_vret dX1_reset_59 rfl h
  · refine r_aload_n dX1_reset_7 rfl ?_
    refine r_getR dX1_reset_8 rfl (qFR_imp (fun v7 h => ?_) h)
    refine r_iload_n dX1_reset_11 rfl ?_
    refine r_aald dX1_reset_12 (qRA_imp (fun v8 h => ?_) h)
    refine r_cV dX1_reset_13 rfl (invV_eq rfl rfl rfl rfl rfl rfl ⟨rfl, Nat.le_of_ble_eq_true rfl⟩ h.1) (qCV_imp (fun G9 h => ?_) h.2)
    refine r_aload_n dX1_reset_16 rfl ?_
    refine r_getR dX1_reset_17 rfl (qFR_imp (fun v10 h => ?_) h)
    refine r_iload_n dX1_reset_20 rfl ?_
    refine r_aald dX1_reset_21 (qRA_imp (fun v11 h => ?_) h)
    refine r_iconst dX1_reset_22 ?_
    refine r_cI dX1_reset_23 rfl (invV_eq rfl rfl rfl rfl rfl rfl ⟨rfl, Nat.le_of_ble_eq_true rfl⟩ h.1) (qCI_imp (fun v13 G12 h => ?_) h.2)
    refine r_pop dX1_reset_26 rfl ?_
    refine r_iinc dX1_reset_27 rfl rfl ?_
    refine r_goto (tgt := 2) dX1_reset_30 (by decide) ?_
    exact h
theorem dX1_become_0 : decode cX1_become 0 = .ok (.iconst 0, 1) := by decide +kernel
theorem dX1_become_1 : decode cX1_become 1 = .ok (.istore_n 2, 1) := by decide +kernel
theorem dX1_become_2 : decode cX1_become 2 = .ok (.iload_n 2, 1) := by decide +kernel
theorem dX1_become_3 : decode cX1_become 3 = .ok (.iconst 4, 1) := by decide +kernel
theorem dX1_become_4 : decode cX1_become 4 = .ok (.if_icmp .ge 24, 3) := by decide +kernel
theorem dX1_become_7 : decode cX1_become 7 = .ok (.aload_n 0, 1) := by decide +kernel
theorem dX1_become_8 : decode cX1_become 8 = .ok (.getfield 11, 3) := by decide +kernel
theorem dX1_become_11 : decode cX1_become 11 = .ok (.iload_n 2, 1) := by decide +kernel
theorem dX1_become_12 : decode cX1_become 12 = .ok (.aaload, 1) := by decide +kernel
theorem dX1_become_13 : decode cX1_become 13 = .ok (.aload_n 1, 1) := by decide +kernel
theorem dX1_become_14 : decode cX1_become 14 = .ok (.getfield 11, 3) := by decide +kernel
theorem dX1_become_17 : decode cX1_become 17 = .ok (.iload_n 2, 1) := by decide +kernel
theorem dX1_become_18 : decode cX1_become 18 = .ok (.aaload, 1) := by decide +kernel
theorem dX1_become_19 : decode cX1_become 19 = .ok (.invokevirtual 47, 3) := by decide +kernel
theorem dX1_become_22 : decode cX1_become 22 = .ok (.iinc 2 1, 3) := by decide +kernel
theorem dX1_become_25 : decode cX1_become 25 = .ok (.goto (-23), 3) := by decide +kernel
theorem dX1_become_28 : decode cX1_become 28 = .ok (.aload_n 1, 1) := by decide +kernel
theorem dX1_become_29 : decode cX1_become 29 = .ok (.getfield 20, 3) := by decide +kernel
theorem dX1_become_32 : decode cX1_become 32 = .ok (.iconst 0, 1) := by decide +kernel
theorem dX1_become_33 : decode cX1_become 33 = .ok (.aload_n 0, 1) := by decide +kernel
theorem dX1_become_34 : decode cX1_become 34 = .ok (.getfield 20, 3) := by decide +kernel
theorem dX1_become_37 : decode cX1_become 37 = .ok (.iconst 0, 1) := by decide +kernel
theorem dX1_become_38 : decode cX1_become 38 = .ok (.aload_n 0, 1) := by decide +kernel
theorem dX1_become_39 : decode cX1_become 39 = .ok (.getfield 20, 3) := by decide +kernel
theorem dX1_become_42 : decode cX1_become 42 = .ok (.arraylength, 1) := by decide +kernel
theorem dX1_become_43 : decode cX1_become 43 = .ok (.invokestatic 51, 3) := by decide +kernel
theorem dX1_become_46 : decode cX1_become 46 = .ok (.aload_n 1, 1) := by decide +kernel
theorem dX1_become_47 : decode cX1_become 47 = .ok (.getfield 24, 3) := by decide +kernel
theorem dX1_become_50 : decode cX1_become 50 = .ok (.iconst 0, 1) := by decide +kernel
theorem dX1_become_51 : decode cX1_become 51 = .ok (.aload_n 0, 1) := by decide +kernel
theorem dX1_become_52 : decode cX1_become 52 = .ok (.getfield 24, 3) := by decide +kernel
theorem dX1_become_55 : decode cX1_become 55 = .ok (.iconst 0, 1) := by decide +kernel
theorem dX1_become_56 : decode cX1_become 56 = .ok (.aload_n 0, 1) := by decide +kernel
theorem dX1_become_57 : decode cX1_become 57 = .ok (.getfield 24, 3) := by decide +kernel
theorem dX1_become_60 : decode cX1_become 60 = .ok (.arraylength, 1) := by decide +kernel
theorem dX1_become_61 : decode cX1_become 61 = .ok (.invokestatic 51, 3) := by decide +kernel
theorem dX1_become_64 : decode cX1_become 64 = .ok (.aload_n 0, 1) := by decide +kernel
theorem dX1_become_65 : decode cX1_become 65 = .ok (.dup, 1) := by decide +kernel
theorem dX1_become_66 : decode cX1_become 66 = .ok (.getfield 27, 3) := by decide +kernel
theorem dX1_become_69 : decode cX1_become 69 = .ok (.iconst 1, 1) := by decide +kernel
theorem dX1_become_70 : decode cX1_become 70 = .ok (.iadd, 1) := by decide +kernel
theorem dX1_become_71 : decode cX1_become 71 = .ok (.putfield 27, 3) := by decide +kernel
theorem dX1_become_74 : decode cX1_become 74 = .ok (.return_, 1) := by decide +kernel
abbrev x_X1_become : Cx := (1, cX1_become, false, none)
set_option maxRecDepth 10000 in
theorem g_X1_become_0 {E : Ev} {d : Nat} {G : Hp} {Q : Po} {x0 : Nat} {x1 : Nat} (h : Xr E d x_X1_become 2 [some (.ref x0), some (.ref x1), some (.int ((iv 0)))] [] G Q) : Xr E d x_X1_become 0 [some (.ref x0), some (.ref x1), none] [] G Q := by
  refine r_iconst dX1_become_0 ?_
  refine r_istore_n dX1_become_1 rfl ?_
  exact h
theorem e_X1_become {E : Ev} {d : Nat} {G : Hp} {Q : Po} {x0 : Nat} {x1 : Nat} (h : Xr E d x_X1_become 2 [some (.ref x0), some (.ref x1), some (.int ((iv 0)))] [] G Q) : runs E (d + 1) i_X1_become [.ref x0, .ref x1] G Q := by
  rw [runs_eq (m := (yX1_become, cX1_become, 3, none, 1, 1, false, false)) rfl (Nat.le_of_ble_eq_true rfl)]
  exact g_X1_become_0 h
set_option maxRecDepth 10000 in
theorem g_X1_become_2 {E : Ev} {d : Nat} {G : Hp} {Q : Po} {x0 : Nat} {x1 : Nat} {x2 : Int32} (h : (if (iv 4) ≤ x2 then (qFR E G x1 1 1 fun v1 => (qFR E G x0 1 1 fun v2 => (qFR E G x0 1 1 fun v3 => (qL 1 E G v3 fun v4 => (qCp E G v1 (iv 0) v2 (iv 0) v4 fun G5 => (qFR E G5 x1 1 2 fun v6 => (qFR E G5 x0 1 2 fun v7 => (qFR E G5 x0 1 2 fun v8 => (qL 1 E G5 v8 fun v9 => (qCp E G5 v6 (iv 0) v7 (iv 0) v9 fun G10 => (qFI E G10 x0 1 3 fun v11 => (qP E G10 x0 1 3 (.int ((v11 + (iv 1)))) fun G12 => Q none G12)))))))))))) else (qFR E G x0 1 0 fun v13 => (qRA E G v13 x2 fun v14 => (qFR E G x1 1 0 fun v15 => (qRA E G v15 x2 fun v16 => (rcv E G v14 2 = true ∧ (qCV E d i_X2_become [.ref v14, .ref v16] G fun G17 => Xr E d x_X1_become 2 [some (.ref x0), some (.ref x1), some (.int ((x2 + (iv 1))))] [] G17 Q)))))))) : Xr E d x_X1_become 2 [some (.ref x0), some (.ref x1), some (.int x2)] [] G Q := by
  refine r_iload_n dX1_become_2 rfl ?_
  refine r_iconst dX1_become_3 ?_
  refine r_cge (tgt := 28) dX1_become_4 (by decide) (ite_imp (fun h => ?_) (fun h => ?_) h)
  · refine r_aload_n dX1_become_28 rfl ?_
    refine r_getR dX1_become_29 rfl (qFR_imp (fun v1 h => ?_) h)
    refine r_iconst dX1_become_32 ?_
    refine r_aload_n dX1_become_33 rfl ?_
    refine r_getR dX1_become_34 rfl (qFR_imp (fun v2 h => ?_) h)
    refine r_iconst dX1_become_37 ?_
    refine r_aload_n dX1_become_38 rfl ?_
    refine r_getR dX1_become_39 rfl (qFR_imp (fun v3 h => ?_) h)
    refine r_alen dX1_become_42 (qL_imp (fun v4 h => ?_) h)
    refine r_cpy dX1_become_43 rfl (Nat.le_of_ble_eq_true rfl) (qCp_imp (fun G5 h => ?_) h)
    refine r_aload_n dX1_become_46 rfl ?_
    refine r_getR dX1_become_47 rfl (qFR_imp (fun v6 h => ?_) h)
    refine r_iconst dX1_become_50 ?_
    refine r_aload_n dX1_become_51 rfl ?_
    refine r_getR dX1_become_52 rfl (qFR_imp (fun v7 h => ?_) h)
    refine r_iconst dX1_become_55 ?_
    refine r_aload_n dX1_become_56 rfl ?_
    refine r_getR dX1_become_57 rfl (qFR_imp (fun v8 h => ?_) h)
    refine r_alen dX1_become_60 (qL_imp (fun v9 h => ?_) h)
    refine r_cpy dX1_become_61 rfl (Nat.le_of_ble_eq_true rfl) (qCp_imp (fun G10 h => ?_) h)
    refine r_aload_n dX1_become_64 rfl ?_
    refine r_dup dX1_become_65 rfl ?_
    refine r_getI dX1_become_66 rfl (qFI_imp (fun v11 h => ?_) h)
    refine r_iconst dX1_become_69 ?_
    refine r_iadd dX1_become_70 ?_
    refine r_put dX1_become_71 rfl rfl (by decide) (qP_imp (fun G12 h => ?_) h)
    exact r_vret dX1_become_74 rfl h
  · refine r_aload_n dX1_become_7 rfl ?_
    refine r_getR dX1_become_8 rfl (qFR_imp (fun v13 h => ?_) h)
    refine r_iload_n dX1_become_11 rfl ?_
    refine r_aald dX1_become_12 (qRA_imp (fun v14 h => ?_) h)
    refine r_aload_n dX1_become_13 rfl ?_
    refine r_getR dX1_become_14 rfl (qFR_imp (fun v15 h => ?_) h)
    refine r_iload_n dX1_become_17 rfl ?_
    refine r_aald dX1_become_18 (qRA_imp (fun v16 h => ?_) h)
    refine r_cV dX1_become_19 rfl (invV_eq rfl rfl rfl rfl rfl rfl ⟨rfl, Nat.le_of_ble_eq_true rfl⟩ h.1) (qCV_imp (fun G17 h => ?_) h.2)
    refine r_iinc dX1_become_22 rfl rfl ?_
    refine r_goto (tgt := 2) dX1_become_25 (by decide) ?_
    exact h
theorem dX1_body_0 : decode cX1_body 0 = .ok (.aload_n 0, 1) := by decide +kernel
theorem dX1_body_1 : decode cX1_body 1 = .ok (.getfield 11, 3) := by decide +kernel
theorem dX1_body_4 : decode cX1_body 4 = .ok (.iload_n 1, 1) := by decide +kernel
theorem dX1_body_5 : decode cX1_body 5 = .ok (.aaload, 1) := by decide +kernel
theorem dX1_body_6 : decode cX1_body 6 = .ok (.areturn, 1) := by decide +kernel
abbrev x_X1_body : Cx := (1, cX1_body, false, some (.object "RecursionSchemes$Term"))
set_option maxRecDepth 10000 in
theorem g_X1_body_0 {E : Ev} {d : Nat} {G : Hp} {Q : Po} {x0 : Nat} {x1 : Int32} (h : (qFR E G x0 1 0 fun v1 => (qRA E G v1 x1 fun v2 => Q (some (.ref v2)) G))) : Xr E d x_X1_body 0 [some (.ref x0), some (.int x1)] [] G Q := by
  refine r_aload_n dX1_body_0 rfl ?_
  refine r_getR dX1_body_1 rfl (qFR_imp (fun v1 h => ?_) h)
  refine r_iload_n dX1_body_4 rfl ?_
  refine r_aald dX1_body_5 (qRA_imp (fun v2 h => ?_) h)
  exact r_aret dX1_body_6 rfl h
theorem e_X1_body {E : Ev} {d : Nat} {G : Hp} {Q : Po} {x0 : Nat} {x1 : Int32} (h : (qFR E G x0 1 0 fun v1 => (qRA E G v1 x1 fun v2 => Q (some (.ref v2)) G))) : runs E (d + 1) i_X1_body [.ref x0, .int x1] G Q := by
  rw [runs_eq (m := (yX1_body, cX1_body, 2, some (.object "RecursionSchemes$Term"), 1, 1, false, false)) rfl (Nat.le_of_ble_eq_true rfl)]
  exact g_X1_body_0 h
theorem dX1_changeBody_0 : decode cX1_changeBody 0 = .ok (.aload_n 0, 1) := by decide +kernel
theorem dX1_changeBody_1 : decode cX1_changeBody 1 = .ok (.getfield 11, 3) := by decide +kernel
theorem dX1_changeBody_4 : decode cX1_changeBody 4 = .ok (.iload_n 1, 1) := by decide +kernel
theorem dX1_changeBody_5 : decode cX1_changeBody 5 = .ok (.aaload, 1) := by decide +kernel
theorem dX1_changeBody_6 : decode cX1_changeBody 6 = .ok (.aload_n 2, 1) := by decide +kernel
theorem dX1_changeBody_7 : decode cX1_changeBody 7 = .ok (.invokevirtual 47, 3) := by decide +kernel
theorem dX1_changeBody_10 : decode cX1_changeBody 10 = .ok (.aload_n 0, 1) := by decide +kernel
theorem dX1_changeBody_11 : decode cX1_changeBody 11 = .ok (.dup, 1) := by decide +kernel
theorem dX1_changeBody_12 : decode cX1_changeBody 12 = .ok (.getfield 27, 3) := by decide +kernel
theorem dX1_changeBody_15 : decode cX1_changeBody 15 = .ok (.iconst 1, 1) := by decide +kernel
theorem dX1_changeBody_16 : decode cX1_changeBody 16 = .ok (.iadd, 1) := by decide +kernel
theorem dX1_changeBody_17 : decode cX1_changeBody 17 = .ok (.putfield 27, 3) := by decide +kernel
theorem dX1_changeBody_20 : decode cX1_changeBody 20 = .ok (.return_, 1) := by decide +kernel
abbrev x_X1_changeBody : Cx := (1, cX1_changeBody, false, none)
set_option maxRecDepth 10000 in
theorem g_X1_changeBody_0 {E : Ev} {d : Nat} {G : Hp} {Q : Po} {x0 : Nat} {x1 : Int32} {x2 : Nat} (h : (qFR E G x0 1 0 fun v1 => (qRA E G v1 x1 fun v2 => (rcv E G v2 2 = true ∧ (qCV E d i_X2_become [.ref v2, .ref x2] G fun G3 => (qFI E G3 x0 1 3 fun v4 => (qP E G3 x0 1 3 (.int ((v4 + (iv 1)))) fun G5 => Q none G5))))))) : Xr E d x_X1_changeBody 0 [some (.ref x0), some (.int x1), some (.ref x2)] [] G Q := by
  refine r_aload_n dX1_changeBody_0 rfl ?_
  refine r_getR dX1_changeBody_1 rfl (qFR_imp (fun v1 h => ?_) h)
  refine r_iload_n dX1_changeBody_4 rfl ?_
  refine r_aald dX1_changeBody_5 (qRA_imp (fun v2 h => ?_) h)
  refine r_aload_n dX1_changeBody_6 rfl ?_
  refine r_cV dX1_changeBody_7 rfl (invV_eq rfl rfl rfl rfl rfl rfl ⟨rfl, Nat.le_of_ble_eq_true rfl⟩ h.1) (qCV_imp (fun G3 h => ?_) h.2)
  refine r_aload_n dX1_changeBody_10 rfl ?_
  refine r_dup dX1_changeBody_11 rfl ?_
  refine r_getI dX1_changeBody_12 rfl (qFI_imp (fun v4 h => ?_) h)
  refine r_iconst dX1_changeBody_15 ?_
  refine r_iadd dX1_changeBody_16 ?_
  refine r_put dX1_changeBody_17 rfl rfl (by decide) (qP_imp (fun G5 h => ?_) h)
  exact r_vret dX1_changeBody_20 rfl h
theorem e_X1_changeBody {E : Ev} {d : Nat} {G : Hp} {Q : Po} {x0 : Nat} {x1 : Int32} {x2 : Nat} (h : (qFR E G x0 1 0 fun v1 => (qRA E G v1 x1 fun v2 => (rcv E G v2 2 = true ∧ (qCV E d i_X2_become [.ref v2, .ref x2] G fun G3 => (qFI E G3 x0 1 3 fun v4 => (qP E G3 x0 1 3 (.int ((v4 + (iv 1)))) fun G5 => Q none G5))))))) : runs E (d + 1) i_X1_changeBody [.ref x0, .int x1, .ref x2] G Q := by
  rw [runs_eq (m := (yX1_changeBody, cX1_changeBody, 3, none, 2, 1, false, false)) rfl (Nat.le_of_ble_eq_true rfl)]
  exact g_X1_changeBody_0 h
theorem dX1_swapFAndG_0 : decode cX1_swapFAndG 0 = .ok (.iconst 0, 1) := by decide +kernel
theorem dX1_swapFAndG_1 : decode cX1_swapFAndG 1 = .ok (.istore_n 1, 1) := by decide +kernel
theorem dX1_swapFAndG_2 : decode cX1_swapFAndG 2 = .ok (.iconst 0, 1) := by decide +kernel
theorem dX1_swapFAndG_3 : decode cX1_swapFAndG 3 = .ok (.istore_n 2, 1) := by decide +kernel
theorem dX1_swapFAndG_4 : decode cX1_swapFAndG 4 = .ok (.iload_n 2, 1) := by decide +kernel
theorem dX1_swapFAndG_5 : decode cX1_swapFAndG 5 = .ok (.iconst 4, 1) := by decide +kernel
theorem dX1_swapFAndG_6 : decode cX1_swapFAndG 6 = .ok (.if_icmp .ge 24, 3) := by decide +kernel
theorem dX1_swapFAndG_9 : decode cX1_swapFAndG 9 = .ok (.iload_n 1, 1) := by decide +kernel
theorem dX1_swapFAndG_10 : decode cX1_swapFAndG 10 = .ok (.aload_n 0, 1) := by decide +kernel
theorem dX1_swapFAndG_11 : decode cX1_swapFAndG 11 = .ok (.getfield 11, 3) := by decide +kernel
theorem dX1_swapFAndG_14 : decode cX1_swapFAndG 14 = .ok (.iload_n 2, 1) := by decide +kernel
theorem dX1_swapFAndG_15 : decode cX1_swapFAndG 15 = .ok (.aaload, 1) := by decide +kernel
theorem dX1_swapFAndG_16 : decode cX1_swapFAndG 16 = .ok (.iconst 5, 1) := by decide +kernel
theorem dX1_swapFAndG_17 : decode cX1_swapFAndG 17 = .ok (.bipush 6, 2) := by decide +kernel
theorem dX1_swapFAndG_19 : decode cX1_swapFAndG 19 = .ok (.invokevirtual 57, 3) := by decide +kernel
theorem dX1_swapFAndG_22 : decode cX1_swapFAndG 22 = .ok (.iadd, 1) := by decide +kernel
theorem dX1_swapFAndG_23 : decode cX1_swapFAndG 23 = .ok (.istore_n 1, 1) := by decide +kernel
theorem dX1_swapFAndG_24 : decode cX1_swapFAndG 24 = .ok (.iinc 2 1, 3) := by decide +kernel
theorem dX1_swapFAndG_27 : decode cX1_swapFAndG 27 = .ok (.goto (-23), 3) := by decide +kernel
theorem dX1_swapFAndG_30 : decode cX1_swapFAndG 30 = .ok (.aload_n 0, 1) := by decide +kernel
theorem dX1_swapFAndG_31 : decode cX1_swapFAndG 31 = .ok (.getfield 11, 3) := by decide +kernel
theorem dX1_swapFAndG_34 : decode cX1_swapFAndG 34 = .ok (.iconst 1, 1) := by decide +kernel
theorem dX1_swapFAndG_35 : decode cX1_swapFAndG 35 = .ok (.aaload, 1) := by decide +kernel
theorem dX1_swapFAndG_36 : decode cX1_swapFAndG 36 = .ok (.astore_n 2, 1) := by decide +kernel
theorem dX1_swapFAndG_37 : decode cX1_swapFAndG 37 = .ok (.aload_n 0, 1) := by decide +kernel
theorem dX1_swapFAndG_38 : decode cX1_swapFAndG 38 = .ok (.getfield 11, 3) := by decide +kernel
theorem dX1_swapFAndG_41 : decode cX1_swapFAndG 41 = .ok (.iconst 1, 1) := by decide +kernel
theorem dX1_swapFAndG_42 : decode cX1_swapFAndG 42 = .ok (.aload_n 0, 1) := by decide +kernel
theorem dX1_swapFAndG_43 : decode cX1_swapFAndG 43 = .ok (.getfield 11, 3) := by decide +kernel
theorem dX1_swapFAndG_46 : decode cX1_swapFAndG 46 = .ok (.iconst 2, 1) := by decide +kernel
theorem dX1_swapFAndG_47 : decode cX1_swapFAndG 47 = .ok (.aaload, 1) := by decide +kernel
theorem dX1_swapFAndG_48 : decode cX1_swapFAndG 48 = .ok (.aastore, 1) := by decide +kernel
theorem dX1_swapFAndG_49 : decode cX1_swapFAndG 49 = .ok (.aload_n 0, 1) := by decide +kernel
theorem dX1_swapFAndG_50 : decode cX1_swapFAndG 50 = .ok (.getfield 11, 3) := by decide +kernel
theorem dX1_swapFAndG_53 : decode cX1_swapFAndG 53 = .ok (.iconst 2, 1) := by decide +kernel
theorem dX1_swapFAndG_54 : decode cX1_swapFAndG 54 = .ok (.aload_n 2, 1) := by decide +kernel
theorem dX1_swapFAndG_55 : decode cX1_swapFAndG 55 = .ok (.aastore, 1) := by decide +kernel
theorem dX1_swapFAndG_56 : decode cX1_swapFAndG 56 = .ok (.aload_n 0, 1) := by decide +kernel
theorem dX1_swapFAndG_57 : decode cX1_swapFAndG 57 = .ok (.dup, 1) := by decide +kernel
theorem dX1_swapFAndG_58 : decode cX1_swapFAndG 58 = .ok (.getfield 27, 3) := by decide +kernel
theorem dX1_swapFAndG_61 : decode cX1_swapFAndG 61 = .ok (.iconst 1, 1) := by decide +kernel
theorem dX1_swapFAndG_62 : decode cX1_swapFAndG 62 = .ok (.iadd, 1) := by decide +kernel
theorem dX1_swapFAndG_63 : decode cX1_swapFAndG 63 = .ok (.putfield 27, 3) := by decide +kernel
theorem dX1_swapFAndG_66 : decode cX1_swapFAndG 66 = .ok (.iload_n 1, 1) := by decide +kernel
theorem dX1_swapFAndG_67 : decode cX1_swapFAndG 67 = .ok (.ireturn, 1) := by decide +kernel
abbrev x_X1_swapFAndG : Cx := (1, cX1_swapFAndG, false, some (.int))
set_option maxRecDepth 10000 in
theorem g_X1_swapFAndG_0 {E : Ev} {d : Nat} {G : Hp} {Q : Po} {x0 : Nat} (h : Xr E d x_X1_swapFAndG 4 [some (.ref x0), some (.int ((iv 0))), some (.int ((iv 0)))] [] G Q) : Xr E d x_X1_swapFAndG 0 [some (.ref x0), none, none] [] G Q := by
  refine r_iconst dX1_swapFAndG_0 ?_
  refine r_istore_n dX1_swapFAndG_1 rfl ?_
  refine r_iconst dX1_swapFAndG_2 ?_
  refine r_istore_n dX1_swapFAndG_3 rfl ?_
  exact h
theorem e_X1_swapFAndG {E : Ev} {d : Nat} {G : Hp} {Q : Po} {x0 : Nat} (h : Xr E d x_X1_swapFAndG 4 [some (.ref x0), some (.int ((iv 0))), some (.int ((iv 0)))] [] G Q) : runs E (d + 1) i_X1_swapFAndG [.ref x0] G Q := by
  rw [runs_eq (m := (yX1_swapFAndG, cX1_swapFAndG, 3, some (.int), 0, 1, false, false)) rfl (Nat.le_of_ble_eq_true rfl)]
  exact g_X1_swapFAndG_0 h
set_option maxRecDepth 10000 in
theorem g_X1_swapFAndG_4 {E : Ev} {d : Nat} {G : Hp} {Q : Po} {x0 : Nat} {x1 : Int32} {x2 : Int32} (h : (if (iv 4) ≤ x2 then (qFR E G x0 1 0 fun v1 => (qRA E G v1 (iv 1) fun v2 => (qFR E G x0 1 0 fun v3 => (qFR E G x0 1 0 fun v4 => (qRA E G v4 (iv 2) fun v5 => (qRS E G v3 (iv 1) v5 fun G6 => (qFR E G6 x0 1 0 fun v7 => (qRS E G6 v7 (iv 2) v2 fun G8 => (qFI E G8 x0 1 3 fun v9 => (qP E G8 x0 1 3 (.int ((v9 + (iv 1)))) fun G10 => Q (some (.int x1)) G10)))))))))) else (qFR E G x0 1 0 fun v11 => (qRA E G v11 x2 fun v12 => (rcv E G v12 2 = true ∧ (qCI E d i_X2_swapSymbols [.ref v12, .int ((iv 5)), .int ((iv 6))] G fun v14 G13 => Xr E d x_X1_swapFAndG 4 [some (.ref x0), some (.int ((x1 + v14))), some (.int ((x2 + (iv 1))))] [] G13 Q)))))) : Xr E d x_X1_swapFAndG 4 [some (.ref x0), some (.int x1), some (.int x2)] [] G Q := by
  refine r_iload_n dX1_swapFAndG_4 rfl ?_
  refine r_iconst dX1_swapFAndG_5 ?_
  refine r_cge (tgt := 30) dX1_swapFAndG_6 (by decide) (ite_imp (fun h => ?_) (fun h => ?_) h)
  · refine r_aload_n dX1_swapFAndG_30 rfl ?_
    refine r_getR dX1_swapFAndG_31 rfl (qFR_imp (fun v1 h => ?_) h)
    refine r_iconst dX1_swapFAndG_34 ?_
    refine r_aald dX1_swapFAndG_35 (qRA_imp (fun v2 h => ?_) h)
    refine r_astore_n dX1_swapFAndG_36 rfl ?_
    refine r_aload_n dX1_swapFAndG_37 rfl ?_
    refine r_getR dX1_swapFAndG_38 rfl (qFR_imp (fun v3 h => ?_) h)
    refine r_iconst dX1_swapFAndG_41 ?_
    refine r_aload_n dX1_swapFAndG_42 rfl ?_
    refine r_getR dX1_swapFAndG_43 rfl (qFR_imp (fun v4 h => ?_) h)
    refine r_iconst dX1_swapFAndG_46 ?_
    refine r_aald dX1_swapFAndG_47 (qRA_imp (fun v5 h => ?_) h)
    refine r_aast dX1_swapFAndG_48 (qRS_imp (fun G6 h => ?_) h)
    refine r_aload_n dX1_swapFAndG_49 rfl ?_
    refine r_getR dX1_swapFAndG_50 rfl (qFR_imp (fun v7 h => ?_) h)
    refine r_iconst dX1_swapFAndG_53 ?_
    refine r_aload_n dX1_swapFAndG_54 rfl ?_
    refine r_aast dX1_swapFAndG_55 (qRS_imp (fun G8 h => ?_) h)
    refine r_aload_n dX1_swapFAndG_56 rfl ?_
    refine r_dup dX1_swapFAndG_57 rfl ?_
    refine r_getI dX1_swapFAndG_58 rfl (qFI_imp (fun v9 h => ?_) h)
    refine r_iconst dX1_swapFAndG_61 ?_
    refine r_iadd dX1_swapFAndG_62 ?_
    refine r_put dX1_swapFAndG_63 rfl rfl (by decide) (qP_imp (fun G10 h => ?_) h)
    refine r_iload_n dX1_swapFAndG_66 rfl ?_
    exact r_iret dX1_swapFAndG_67 rfl ⟨rfl, h⟩
  · refine r_iload_n dX1_swapFAndG_9 rfl ?_
    refine r_aload_n dX1_swapFAndG_10 rfl ?_
    refine r_getR dX1_swapFAndG_11 rfl (qFR_imp (fun v11 h => ?_) h)
    refine r_iload_n dX1_swapFAndG_14 rfl ?_
    refine r_aald dX1_swapFAndG_15 (qRA_imp (fun v12 h => ?_) h)
    refine r_iconst dX1_swapFAndG_16 ?_
    refine r_bipush dX1_swapFAndG_17 rfl ?_
    refine r_cI dX1_swapFAndG_19 rfl (invV_eq rfl rfl rfl rfl rfl rfl ⟨rfl, Nat.le_of_ble_eq_true rfl⟩ h.1) (qCI_imp (fun v14 G13 h => ?_) h.2)
    refine r_iadd dX1_swapFAndG_22 ?_
    refine r_istore_n dX1_swapFAndG_23 rfl ?_
    refine r_iinc dX1_swapFAndG_24 rfl rfl ?_
    refine r_goto (tgt := 4) dX1_swapFAndG_27 (by decide) ?_
    exact h
theorem dX1_canRead_0 : decode cX1_canRead 0 = .ok (.aload_n 0, 1) := by decide +kernel
theorem dX1_canRead_1 : decode cX1_canRead 1 = .ok (.getfield 20, 3) := by decide +kernel
theorem dX1_canRead_4 : decode cX1_canRead 4 = .ok (.iload_n 1, 1) := by decide +kernel
theorem dX1_canRead_5 : decode cX1_canRead 5 = .ok (.iconst 4, 1) := by decide +kernel
theorem dX1_canRead_6 : decode cX1_canRead 6 = .ok (.imul, 1) := by decide +kernel
theorem dX1_canRead_7 : decode cX1_canRead 7 = .ok (.iload_n 2, 1) := by decide +kernel
theorem dX1_canRead_8 : decode cX1_canRead 8 = .ok (.iadd, 1) := by decide +kernel
theorem dX1_canRead_9 : decode cX1_canRead 9 = .ok (.iaload, 1) := by decide +kernel
theorem dX1_canRead_10 : decode cX1_canRead 10 = .ok (.iconst (-1), 1) := by decide +kernel
theorem dX1_canRead_11 : decode cX1_canRead 11 = .ok (.if_icmp .eq 7, 3) := by decide +kernel
theorem dX1_canRead_14 : decode cX1_canRead 14 = .ok (.iconst 1, 1) := by decide +kernel
theorem dX1_canRead_15 : decode cX1_canRead 15 = .ok (.goto 4, 3) := by decide +kernel
theorem dX1_canRead_18 : decode cX1_canRead 18 = .ok (.iconst 0, 1) := by decide +kernel
theorem dX1_canRead_19 : decode cX1_canRead 19 = .ok (.ireturn, 1) := by decide +kernel
abbrev x_X1_canRead : Cx := (1, cX1_canRead, false, some (.boolean))
set_option maxRecDepth 10000 in
theorem g_X1_canRead_0 {E : Ev} {d : Nat} {G : Hp} {Q : Po} {x0 : Nat} {x1 : Int32} {x2 : Int32} (h : (qFR E G x0 1 1 fun v1 => (qIA 1 E G v1 ((x1 * (iv 4)) + x2) fun v2 => (if v2 = (iv (-1)) then Q (some (.int (iv 0))) G else Q (some (.int (iv 1))) G)))) : Xr E d x_X1_canRead 0 [some (.ref x0), some (.int x1), some (.int x2)] [] G Q := by
  refine r_aload_n dX1_canRead_0 rfl ?_
  refine r_getR dX1_canRead_1 rfl (qFR_imp (fun v1 h => ?_) h)
  refine r_iload_n dX1_canRead_4 rfl ?_
  refine r_iconst dX1_canRead_5 ?_
  refine r_imul dX1_canRead_6 ?_
  refine r_iload_n dX1_canRead_7 rfl ?_
  refine r_iadd dX1_canRead_8 ?_
  refine r_iald dX1_canRead_9 (qIA_imp (fun v2 h => ?_) h)
  refine r_iconst dX1_canRead_10 ?_
  refine r_ceq (tgt := 18) dX1_canRead_11 (by decide) (ite_imp (fun h => ?_) (fun h => ?_) h)
  · refine r_iconst dX1_canRead_18 ?_
    exact r_iret dX1_canRead_19 rfl ⟨rfl, h⟩
  · refine r_iconst dX1_canRead_14 ?_
    refine r_goto (tgt := 19) dX1_canRead_15 (by decide) ?_
    exact r_iret dX1_canRead_19 rfl ⟨rfl, h⟩
theorem e_X1_canRead {E : Ev} {d : Nat} {G : Hp} {Q : Po} {x0 : Nat} {x1 : Int32} {x2 : Int32} (h : (qFR E G x0 1 1 fun v1 => (qIA 1 E G v1 ((x1 * (iv 4)) + x2) fun v2 => (if v2 = (iv (-1)) then Q (some (.int (iv 0))) G else Q (some (.int (iv 1))) G)))) : runs E (d + 1) i_X1_canRead [.ref x0, .int x1, .int x2] G Q := by
  rw [runs_eq (m := (yX1_canRead, cX1_canRead, 3, some (.boolean), 2, 1, false, false)) rfl (Nat.le_of_ble_eq_true rfl)]
  exact g_X1_canRead_0 h
theorem dX1_target_0 : decode cX1_target 0 = .ok (.iload_n 3, 1) := by decide +kernel
theorem dX1_target_1 : decode cX1_target 1 = .ok (.iconst 1, 1) := by decide +kernel
theorem dX1_target_2 : decode cX1_target 2 = .ok (.if_icmp .ne 16, 3) := by decide +kernel
theorem dX1_target_5 : decode cX1_target 5 = .ok (.aload_n 0, 1) := by decide +kernel
theorem dX1_target_6 : decode cX1_target 6 = .ok (.getfield 20, 3) := by decide +kernel
theorem dX1_target_9 : decode cX1_target 9 = .ok (.iload_n 1, 1) := by decide +kernel
theorem dX1_target_10 : decode cX1_target 10 = .ok (.iconst 4, 1) := by decide +kernel
theorem dX1_target_11 : decode cX1_target 11 = .ok (.imul, 1) := by decide +kernel
theorem dX1_target_12 : decode cX1_target 12 = .ok (.iload_n 2, 1) := by decide +kernel
theorem dX1_target_13 : decode cX1_target 13 = .ok (.iadd, 1) := by decide +kernel
theorem dX1_target_14 : decode cX1_target 14 = .ok (.iaload, 1) := by decide +kernel
theorem dX1_target_15 : decode cX1_target 15 = .ok (.goto 13, 3) := by decide +kernel
theorem dX1_target_18 : decode cX1_target 18 = .ok (.aload_n 0, 1) := by decide +kernel
theorem dX1_target_19 : decode cX1_target 19 = .ok (.getfield 24, 3) := by decide +kernel
theorem dX1_target_22 : decode cX1_target 22 = .ok (.iload_n 1, 1) := by decide +kernel
theorem dX1_target_23 : decode cX1_target 23 = .ok (.iconst 4, 1) := by decide +kernel
theorem dX1_target_24 : decode cX1_target 24 = .ok (.imul, 1) := by decide +kernel
theorem dX1_target_25 : decode cX1_target 25 = .ok (.iload_n 2, 1) := by decide +kernel
theorem dX1_target_26 : decode cX1_target 26 = .ok (.iadd, 1) := by decide +kernel
theorem dX1_target_27 : decode cX1_target 27 = .ok (.iaload, 1) := by decide +kernel
theorem dX1_target_28 : decode cX1_target 28 = .ok (.ireturn, 1) := by decide +kernel
abbrev x_X1_target : Cx := (1, cX1_target, false, some (.int))
set_option maxRecDepth 10000 in
theorem g_X1_target_0 {E : Ev} {d : Nat} {G : Hp} {Q : Po} {x0 : Nat} {x1 : Int32} {x2 : Int32} {x3 : Int32} (h : (if ¬ x3 = (iv 1) then (qFR E G x0 1 2 fun v1 => (qIA 1 E G v1 ((x1 * (iv 4)) + x2) fun v2 => Q (some (.int v2)) G)) else (qFR E G x0 1 1 fun v3 => (qIA 1 E G v3 ((x1 * (iv 4)) + x2) fun v4 => Q (some (.int v4)) G)))) : Xr E d x_X1_target 0 [some (.ref x0), some (.int x1), some (.int x2), some (.int x3)] [] G Q := by
  refine r_iload_n dX1_target_0 rfl ?_
  refine r_iconst dX1_target_1 ?_
  refine r_cne (tgt := 18) dX1_target_2 (by decide) (ite_imp (fun h => ?_) (fun h => ?_) h)
  · refine r_aload_n dX1_target_18 rfl ?_
    refine r_getR dX1_target_19 rfl (qFR_imp (fun v1 h => ?_) h)
    refine r_iload_n dX1_target_22 rfl ?_
    refine r_iconst dX1_target_23 ?_
    refine r_imul dX1_target_24 ?_
    refine r_iload_n dX1_target_25 rfl ?_
    refine r_iadd dX1_target_26 ?_
    refine r_iald dX1_target_27 (qIA_imp (fun v2 h => ?_) h)
    exact r_iret dX1_target_28 rfl ⟨rfl, h⟩
  · refine r_aload_n dX1_target_5 rfl ?_
    refine r_getR dX1_target_6 rfl (qFR_imp (fun v3 h => ?_) h)
    refine r_iload_n dX1_target_9 rfl ?_
    refine r_iconst dX1_target_10 ?_
    refine r_imul dX1_target_11 ?_
    refine r_iload_n dX1_target_12 rfl ?_
    refine r_iadd dX1_target_13 ?_
    refine r_iald dX1_target_14 (qIA_imp (fun v4 h => ?_) h)
    refine r_goto (tgt := 28) dX1_target_15 (by decide) ?_
    exact r_iret dX1_target_28 rfl ⟨rfl, h⟩
theorem e_X1_target {E : Ev} {d : Nat} {G : Hp} {Q : Po} {x0 : Nat} {x1 : Int32} {x2 : Int32} {x3 : Int32} (h : (if ¬ x3 = (iv 1) then (qFR E G x0 1 2 fun v1 => (qIA 1 E G v1 ((x1 * (iv 4)) + x2) fun v2 => Q (some (.int v2)) G)) else (qFR E G x0 1 1 fun v3 => (qIA 1 E G v3 ((x1 * (iv 4)) + x2) fun v4 => Q (some (.int v4)) G)))) : runs E (d + 1) i_X1_target [.ref x0, .int x1, .int x2, .int x3] G Q := by
  rw [runs_eq (m := (yX1_target, cX1_target, 4, some (.int), 3, 1, false, false)) rfl (Nat.le_of_ble_eq_true rfl)]
  exact g_X1_target_0 h
theorem dX1_putTransition_0 : decode cX1_putTransition 0 = .ok (.aload_n 0, 1) := by decide +kernel
theorem dX1_putTransition_1 : decode cX1_putTransition 1 = .ok (.getfield 20, 3) := by decide +kernel
theorem dX1_putTransition_4 : decode cX1_putTransition 4 = .ok (.iload_n 1, 1) := by decide +kernel
theorem dX1_putTransition_5 : decode cX1_putTransition 5 = .ok (.iconst 4, 1) := by decide +kernel
theorem dX1_putTransition_6 : decode cX1_putTransition 6 = .ok (.imul, 1) := by decide +kernel
theorem dX1_putTransition_7 : decode cX1_putTransition 7 = .ok (.iload_n 2, 1) := by decide +kernel
theorem dX1_putTransition_8 : decode cX1_putTransition 8 = .ok (.iadd, 1) := by decide +kernel
theorem dX1_putTransition_9 : decode cX1_putTransition 9 = .ok (.iload_n 3, 1) := by decide +kernel
theorem dX1_putTransition_10 : decode cX1_putTransition 10 = .ok (.iastore, 1) := by decide +kernel
theorem dX1_putTransition_11 : decode cX1_putTransition 11 = .ok (.aload_n 0, 1) := by decide +kernel
theorem dX1_putTransition_12 : decode cX1_putTransition 12 = .ok (.getfield 24, 3) := by decide +kernel
theorem dX1_putTransition_15 : decode cX1_putTransition 15 = .ok (.iload_n 1, 1) := by decide +kernel
theorem dX1_putTransition_16 : decode cX1_putTransition 16 = .ok (.iconst 4, 1) := by decide +kernel
theorem dX1_putTransition_17 : decode cX1_putTransition 17 = .ok (.imul, 1) := by decide +kernel
theorem dX1_putTransition_18 : decode cX1_putTransition 18 = .ok (.iload_n 2, 1) := by decide +kernel
theorem dX1_putTransition_19 : decode cX1_putTransition 19 = .ok (.iadd, 1) := by decide +kernel
theorem dX1_putTransition_20 : decode cX1_putTransition 20 = .ok (.iload 4, 2) := by decide +kernel
theorem dX1_putTransition_22 : decode cX1_putTransition 22 = .ok (.iastore, 1) := by decide +kernel
theorem dX1_putTransition_23 : decode cX1_putTransition 23 = .ok (.aload_n 0, 1) := by decide +kernel
theorem dX1_putTransition_24 : decode cX1_putTransition 24 = .ok (.dup, 1) := by decide +kernel
theorem dX1_putTransition_25 : decode cX1_putTransition 25 = .ok (.getfield 27, 3) := by decide +kernel
theorem dX1_putTransition_28 : decode cX1_putTransition 28 = .ok (.iconst 1, 1) := by decide +kernel
theorem dX1_putTransition_29 : decode cX1_putTransition 29 = .ok (.iadd, 1) := by decide +kernel
theorem dX1_putTransition_30 : decode cX1_putTransition 30 = .ok (.putfield 27, 3) := by decide +kernel
theorem dX1_putTransition_33 : decode cX1_putTransition 33 = .ok (.return_, 1) := by decide +kernel
abbrev x_X1_putTransition : Cx := (1, cX1_putTransition, false, none)
set_option maxRecDepth 10000 in
theorem g_X1_putTransition_0 {E : Ev} {d : Nat} {G : Hp} {Q : Po} {x0 : Nat} {x1 : Int32} {x2 : Int32} {x3 : Int32} {x4 : Int32} (h : (qFR E G x0 1 1 fun v1 => (qIS E G v1 ((x1 * (iv 4)) + x2) x3 fun G2 => (qFR E G2 x0 1 2 fun v3 => (qIS E G2 v3 ((x1 * (iv 4)) + x2) x4 fun G4 => (qFI E G4 x0 1 3 fun v5 => (qP E G4 x0 1 3 (.int ((v5 + (iv 1)))) fun G6 => Q none G6))))))) : Xr E d x_X1_putTransition 0 [some (.ref x0), some (.int x1), some (.int x2), some (.int x3), some (.int x4)] [] G Q := by
  refine r_aload_n dX1_putTransition_0 rfl ?_
  refine r_getR dX1_putTransition_1 rfl (qFR_imp (fun v1 h => ?_) h)
  refine r_iload_n dX1_putTransition_4 rfl ?_
  refine r_iconst dX1_putTransition_5 ?_
  refine r_imul dX1_putTransition_6 ?_
  refine r_iload_n dX1_putTransition_7 rfl ?_
  refine r_iadd dX1_putTransition_8 ?_
  refine r_iload_n dX1_putTransition_9 rfl ?_
  refine r_iast dX1_putTransition_10 (qIS_imp (fun G2 h => ?_) h)
  refine r_aload_n dX1_putTransition_11 rfl ?_
  refine r_getR dX1_putTransition_12 rfl (qFR_imp (fun v3 h => ?_) h)
  refine r_iload_n dX1_putTransition_15 rfl ?_
  refine r_iconst dX1_putTransition_16 ?_
  refine r_imul dX1_putTransition_17 ?_
  refine r_iload_n dX1_putTransition_18 rfl ?_
  refine r_iadd dX1_putTransition_19 ?_
  refine r_iload dX1_putTransition_20 rfl ?_
  refine r_iast dX1_putTransition_22 (qIS_imp (fun G4 h => ?_) h)
  refine r_aload_n dX1_putTransition_23 rfl ?_
  refine r_dup dX1_putTransition_24 rfl ?_
  refine r_getI dX1_putTransition_25 rfl (qFI_imp (fun v5 h => ?_) h)
  refine r_iconst dX1_putTransition_28 ?_
  refine r_iadd dX1_putTransition_29 ?_
  refine r_put dX1_putTransition_30 rfl rfl (by decide) (qP_imp (fun G6 h => ?_) h)
  exact r_vret dX1_putTransition_33 rfl h
theorem e_X1_putTransition {E : Ev} {d : Nat} {G : Hp} {Q : Po} {x0 : Nat} {x1 : Int32} {x2 : Int32} {x3 : Int32} {x4 : Int32} (h : (qFR E G x0 1 1 fun v1 => (qIS E G v1 ((x1 * (iv 4)) + x2) x3 fun G2 => (qFR E G2 x0 1 2 fun v3 => (qIS E G2 v3 ((x1 * (iv 4)) + x2) x4 fun G4 => (qFI E G4 x0 1 3 fun v5 => (qP E G4 x0 1 3 (.int ((v5 + (iv 1)))) fun G6 => Q none G6))))))) : runs E (d + 1) i_X1_putTransition [.ref x0, .int x1, .int x2, .int x3, .int x4] G Q := by
  rw [runs_eq (m := (yX1_putTransition, cX1_putTransition, 5, none, 4, 1, false, false)) rfl (Nat.le_of_ble_eq_true rfl)]
  exact g_X1_putTransition_0 h
theorem dX1_dropTransition_0 : decode cX1_dropTransition 0 = .ok (.aload_n 0, 1) := by decide +kernel
theorem dX1_dropTransition_1 : decode cX1_dropTransition 1 = .ok (.iload_n 1, 1) := by decide +kernel
theorem dX1_dropTransition_2 : decode cX1_dropTransition 2 = .ok (.iload_n 2, 1) := by decide +kernel
theorem dX1_dropTransition_3 : decode cX1_dropTransition 3 = .ok (.iconst (-1), 1) := by decide +kernel
theorem dX1_dropTransition_4 : decode cX1_dropTransition 4 = .ok (.iconst (-1), 1) := by decide +kernel
theorem dX1_dropTransition_5 : decode cX1_dropTransition 5 = .ok (.invokevirtual 61, 3) := by decide +kernel
theorem dX1_dropTransition_8 : decode cX1_dropTransition 8 = .ok (.return_, 1) := by decide +kernel
abbrev x_X1_dropTransition : Cx := (1, cX1_dropTransition, false, none)
set_option maxRecDepth 10000 in
theorem g_X1_dropTransition_0 {E : Ev} {d : Nat} {G : Hp} {Q : Po} {x0 : Nat} {x1 : Int32} {x2 : Int32} (h : (rcv E G x0 1 = true ∧ (qCV E d i_X1_putTransition [.ref x0, .int x1, .int x2, .int ((iv (-1))), .int ((iv (-1)))] G fun G1 => Q none G1))) : Xr E d x_X1_dropTransition 0 [some (.ref x0), some (.int x1), some (.int x2)] [] G Q := by
  refine r_aload_n dX1_dropTransition_0 rfl ?_
  refine r_iload_n dX1_dropTransition_1 rfl ?_
  refine r_iload_n dX1_dropTransition_2 rfl ?_
  refine r_iconst dX1_dropTransition_3 ?_
  refine r_iconst dX1_dropTransition_4 ?_
  refine r_cV dX1_dropTransition_5 rfl (invV_eq rfl rfl rfl rfl rfl rfl ⟨rfl, Nat.le_of_ble_eq_true rfl⟩ h.1) (qCV_imp (fun G1 h => ?_) h.2)
  exact r_vret dX1_dropTransition_8 rfl h
theorem e_X1_dropTransition {E : Ev} {d : Nat} {G : Hp} {Q : Po} {x0 : Nat} {x1 : Int32} {x2 : Int32} (h : (rcv E G x0 1 = true ∧ (qCV E d i_X1_putTransition [.ref x0, .int x1, .int x2, .int ((iv (-1))), .int ((iv (-1)))] G fun G1 => Q none G1))) : runs E (d + 1) i_X1_dropTransition [.ref x0, .int x1, .int x2] G Q := by
  rw [runs_eq (m := (yX1_dropTransition, cX1_dropTransition, 3, none, 2, 1, false, false)) rfl (Nat.le_of_ble_eq_true rfl)]
  exact g_X1_dropTransition_0 h
theorem dX1_transitionCount_0 : decode cX1_transitionCount 0 = .ok (.iconst 0, 1) := by decide +kernel
theorem dX1_transitionCount_1 : decode cX1_transitionCount 1 = .ok (.istore_n 1, 1) := by decide +kernel
theorem dX1_transitionCount_2 : decode cX1_transitionCount 2 = .ok (.iconst 0, 1) := by decide +kernel
theorem dX1_transitionCount_3 : decode cX1_transitionCount 3 = .ok (.istore_n 2, 1) := by decide +kernel
theorem dX1_transitionCount_4 : decode cX1_transitionCount 4 = .ok (.iload_n 2, 1) := by decide +kernel
theorem dX1_transitionCount_5 : decode cX1_transitionCount 5 = .ok (.aload_n 0, 1) := by decide +kernel
theorem dX1_transitionCount_6 : decode cX1_transitionCount 6 = .ok (.getfield 20, 3) := by decide +kernel
theorem dX1_transitionCount_9 : decode cX1_transitionCount 9 = .ok (.arraylength, 1) := by decide +kernel
theorem dX1_transitionCount_10 : decode cX1_transitionCount 10 = .ok (.if_icmp .ge 22, 3) := by decide +kernel
theorem dX1_transitionCount_13 : decode cX1_transitionCount 13 = .ok (.aload_n 0, 1) := by decide +kernel
theorem dX1_transitionCount_14 : decode cX1_transitionCount 14 = .ok (.getfield 20, 3) := by decide +kernel
theorem dX1_transitionCount_17 : decode cX1_transitionCount 17 = .ok (.iload_n 2, 1) := by decide +kernel
theorem dX1_transitionCount_18 : decode cX1_transitionCount 18 = .ok (.iaload, 1) := by decide +kernel
theorem dX1_transitionCount_19 : decode cX1_transitionCount 19 = .ok (.iconst (-1), 1) := by decide +kernel
theorem dX1_transitionCount_20 : decode cX1_transitionCount 20 = .ok (.if_icmp .eq 6, 3) := by decide +kernel
theorem dX1_transitionCount_23 : decode cX1_transitionCount 23 = .ok (.iinc 1 1, 3) := by decide +kernel
theorem dX1_transitionCount_26 : decode cX1_transitionCount 26 = .ok (.iinc 2 1, 3) := by decide +kernel
theorem dX1_transitionCount_29 : decode cX1_transitionCount 29 = .ok (.goto (-25), 3) := by decide +kernel
theorem dX1_transitionCount_32 : decode cX1_transitionCount 32 = .ok (.iload_n 1, 1) := by decide +kernel
theorem dX1_transitionCount_33 : decode cX1_transitionCount 33 = .ok (.ireturn, 1) := by decide +kernel
abbrev x_X1_transitionCount : Cx := (1, cX1_transitionCount, false, some (.int))
set_option maxRecDepth 10000 in
theorem g_X1_transitionCount_0 {E : Ev} {d : Nat} {G : Hp} {Q : Po} {x0 : Nat} (h : Xr E d x_X1_transitionCount 4 [some (.ref x0), some (.int ((iv 0))), some (.int ((iv 0)))] [] G Q) : Xr E d x_X1_transitionCount 0 [some (.ref x0), none, none] [] G Q := by
  refine r_iconst dX1_transitionCount_0 ?_
  refine r_istore_n dX1_transitionCount_1 rfl ?_
  refine r_iconst dX1_transitionCount_2 ?_
  refine r_istore_n dX1_transitionCount_3 rfl ?_
  exact h
theorem e_X1_transitionCount {E : Ev} {d : Nat} {G : Hp} {Q : Po} {x0 : Nat} (h : Xr E d x_X1_transitionCount 4 [some (.ref x0), some (.int ((iv 0))), some (.int ((iv 0)))] [] G Q) : runs E (d + 1) i_X1_transitionCount [.ref x0] G Q := by
  rw [runs_eq (m := (yX1_transitionCount, cX1_transitionCount, 3, some (.int), 0, 1, false, false)) rfl (Nat.le_of_ble_eq_true rfl)]
  exact g_X1_transitionCount_0 h
set_option maxRecDepth 10000 in
theorem g_X1_transitionCount_4 {E : Ev} {d : Nat} {G : Hp} {Q : Po} {x0 : Nat} {x1 : Int32} {x2 : Int32} (h : (qFR E G x0 1 1 fun v1 => (qL 1 E G v1 fun v2 => (if v2 ≤ x2 then Q (some (.int x1)) G else (qFR E G x0 1 1 fun v3 => (qIA 1 E G v3 x2 fun v4 => (if v4 = (iv (-1)) then Xr E d x_X1_transitionCount 4 [some (.ref x0), some (.int x1), some (.int ((x2 + (iv 1))))] [] G Q else Xr E d x_X1_transitionCount 4 [some (.ref x0), some (.int ((x1 + (iv 1)))), some (.int ((x2 + (iv 1))))] [] G Q))))))) : Xr E d x_X1_transitionCount 4 [some (.ref x0), some (.int x1), some (.int x2)] [] G Q := by
  refine r_iload_n dX1_transitionCount_4 rfl ?_
  refine r_aload_n dX1_transitionCount_5 rfl ?_
  refine r_getR dX1_transitionCount_6 rfl (qFR_imp (fun v1 h => ?_) h)
  refine r_alen dX1_transitionCount_9 (qL_imp (fun v2 h => ?_) h)
  refine r_cge (tgt := 32) dX1_transitionCount_10 (by decide) (ite_imp (fun h => ?_) (fun h => ?_) h)
  · refine r_iload_n dX1_transitionCount_32 rfl ?_
    exact r_iret dX1_transitionCount_33 rfl ⟨rfl, h⟩
  · refine r_aload_n dX1_transitionCount_13 rfl ?_
    refine r_getR dX1_transitionCount_14 rfl (qFR_imp (fun v3 h => ?_) h)
    refine r_iload_n dX1_transitionCount_17 rfl ?_
    refine r_iald dX1_transitionCount_18 (qIA_imp (fun v4 h => ?_) h)
    refine r_iconst dX1_transitionCount_19 ?_
    refine r_ceq (tgt := 26) dX1_transitionCount_20 (by decide) (ite_imp (fun h => ?_) (fun h => ?_) h)
    · refine r_iinc dX1_transitionCount_26 rfl rfl ?_
      refine r_goto (tgt := 4) dX1_transitionCount_29 (by decide) ?_
      exact h
    · refine r_iinc dX1_transitionCount_23 rfl rfl ?_
      refine r_iinc dX1_transitionCount_26 rfl rfl ?_
      refine r_goto (tgt := 4) dX1_transitionCount_29 (by decide) ?_
      exact h
