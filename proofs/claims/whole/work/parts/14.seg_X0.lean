/-! segments, by program (wip/whole/gen/seg.py) -/
theorem dX0_init_0 : decode cX0_init 0 = .ok (.aload_n 0, 1) := by decide +kernel
theorem dX0_init_1 : decode cX0_init 1 = .ok (.invokespecial 3, 3) := by decide +kernel
theorem dX0_init_4 : decode cX0_init 4 = .ok (.aload_n 0, 1) := by decide +kernel
theorem dX0_init_5 : decode cX0_init 5 = .ok (.bipush 14, 2) := by decide +kernel
theorem dX0_init_7 : decode cX0_init 7 = .ok (.anewarray 9, 3) := by decide +kernel
theorem dX0_init_10 : decode cX0_init 10 = .ok (.putfield 11, 3) := by decide +kernel
theorem dX0_init_13 : decode cX0_init 13 = .ok (.iconst 0, 1) := by decide +kernel
theorem dX0_init_14 : decode cX0_init 14 = .ok (.istore_n 1, 1) := by decide +kernel
theorem dX0_init_15 : decode cX0_init 15 = .ok (.iload_n 1, 1) := by decide +kernel
theorem dX0_init_16 : decode cX0_init 16 = .ok (.bipush 14, 2) := by decide +kernel
theorem dX0_init_18 : decode cX0_init 18 = .ok (.if_icmp .ge 22, 3) := by decide +kernel
theorem dX0_init_21 : decode cX0_init 21 = .ok (.aload_n 0, 1) := by decide +kernel
theorem dX0_init_22 : decode cX0_init 22 = .ok (.getfield 11, 3) := by decide +kernel
theorem dX0_init_25 : decode cX0_init 25 = .ok (.iload_n 1, 1) := by decide +kernel
theorem dX0_init_26 : decode cX0_init 26 = .ok (.new 9, 3) := by decide +kernel
theorem dX0_init_29 : decode cX0_init 29 = .ok (.dup, 1) := by decide +kernel
theorem dX0_init_30 : decode cX0_init 30 = .ok (.invokespecial 17, 3) := by decide +kernel
theorem dX0_init_33 : decode cX0_init 33 = .ok (.aastore, 1) := by decide +kernel
theorem dX0_init_34 : decode cX0_init 34 = .ok (.iinc 1 1, 3) := by decide +kernel
theorem dX0_init_37 : decode cX0_init 37 = .ok (.goto (-22), 3) := by decide +kernel
theorem dX0_init_40 : decode cX0_init 40 = .ok (.aload_n 0, 1) := by decide +kernel
theorem dX0_init_41 : decode cX0_init 41 = .ok (.iconst 0, 1) := by decide +kernel
theorem dX0_init_42 : decode cX0_init 42 = .ok (.putfield 18, 3) := by decide +kernel
theorem dX0_init_45 : decode cX0_init 45 = .ok (.aload_n 0, 1) := by decide +kernel
theorem dX0_init_46 : decode cX0_init 46 = .ok (.iconst 0, 1) := by decide +kernel
theorem dX0_init_47 : decode cX0_init 47 = .ok (.putfield 22, 3) := by decide +kernel
theorem dX0_init_50 : decode cX0_init 50 = .ok (.return_, 1) := by decide +kernel
abbrev x_X0_init : Cx := (0, cX0_init, true, none)
set_option maxRecDepth 10000 in
theorem g_X0_init_0 {E : Ev} {d : Nat} {G : Hp} {Q : Po} {x0 : Nat} (h : ((¬ (iv 14) < 0 ∧ ((iv 14)).toNatClampNeg ≤ 100000) ∧ (qP E (psh G (cR 0 ((iv 14)).toNatClampNeg (fun _ => none)) ((iv 14)).toNatClampNeg) x0 0 0 (.ref ((nxA E G))) fun G1 => Xr E d x_X0_init 15 [some (.ref x0), some (.int ((iv 0)))] [] G1 Q))) : Xr E d x_X0_init 0 [some (.ref x0), none] [] G Q := by
  refine r_aload_n dX0_init_0 rfl ?_
  refine r_oinit dX0_init_1 rfl (Nat.le_of_ble_eq_true rfl) ?_
  refine r_aload_n dX0_init_4 rfl ?_
  refine r_bipush dX0_init_5 rfl ?_
  refine r_newR dX0_init_7 rfl (by decide) ⟨h.1, ?_⟩
  replace h := h.2
  refine r_put dX0_init_10 rfl rfl (by decide) (qP_imp (fun G1 h => ?_) h)
  refine r_iconst dX0_init_13 ?_
  refine r_istore_n dX0_init_14 rfl ?_
  exact h
theorem e_X0_init {E : Ev} {d : Nat} {G : Hp} {Q : Po} {x0 : Nat} (h : ((¬ (iv 14) < 0 ∧ ((iv 14)).toNatClampNeg ≤ 100000) ∧ (qP E (psh G (cR 0 ((iv 14)).toNatClampNeg (fun _ => none)) ((iv 14)).toNatClampNeg) x0 0 0 (.ref ((nxA E G))) fun G1 => Xr E d x_X0_init 15 [some (.ref x0), some (.int ((iv 0)))] [] G1 Q))) : runs E (d + 1) i_X0_init [.ref x0] G Q := by
  rw [runs_eq (m := (yX0_init, cX0_init, 2, none, 0, 0, true, false)) rfl (Nat.le_of_ble_eq_true rfl)]
  exact g_X0_init_0 h
set_option maxRecDepth 10000 in
theorem g_X0_init_15 {E : Ev} {d : Nat} {G : Hp} {Q : Po} {x0 : Nat} {x1 : Int32} (h : (if (iv 14) ≤ x1 then (qP E G x0 0 1 (.int ((iv 0))) fun G1 => (qP E G1 x0 0 2 (.int ((iv 0))) fun G2 => Q none G2)) else (qFR E G x0 0 0 fun v3 => (qCV E d i_X1_init [.ref ((nxA E G))] (psh G (cO 1 (fDf 1)) (fSz 1)) fun G4 => (qRS E G4 v3 x1 (nxA E G) fun G5 => Xr E d x_X0_init 15 [some (.ref x0), some (.int ((x1 + (iv 1))))] [] G5 Q))))) : Xr E d x_X0_init 15 [some (.ref x0), some (.int x1)] [] G Q := by
  refine r_iload_n dX0_init_15 rfl ?_
  refine r_bipush dX0_init_16 rfl ?_
  refine r_cge (tgt := 40) dX0_init_18 (by decide) (ite_imp (fun h => ?_) (fun h => ?_) h)
  · refine r_aload_n dX0_init_40 rfl ?_
    refine r_iconst dX0_init_41 ?_
    refine r_put dX0_init_42 rfl rfl (by decide) (qP_imp (fun G1 h => ?_) h)
    refine r_aload_n dX0_init_45 rfl ?_
    refine r_iconst dX0_init_46 ?_
    refine r_put dX0_init_47 rfl rfl (by decide) (qP_imp (fun G2 h => ?_) h)
    exact r_vret dX0_init_50 rfl h
  · refine r_aload_n dX0_init_21 rfl ?_
    refine r_getR dX0_init_22 rfl (qFR_imp (fun v3 h => ?_) h)
    refine r_iload_n dX0_init_25 rfl ?_
    refine r_new dX0_init_26 rfl (by decide) ?_
    refine r_dup dX0_init_29 rfl ?_
    refine r_cV dX0_init_30 rfl (invI_eq rfl rfl rfl rfl rfl rfl ⟨rfl, Nat.le_of_ble_eq_true rfl⟩) (qCV_imp (fun G4 h => ?_) h)
    refine r_aast dX0_init_33 (qRS_imp (fun G5 h => ?_) h)
    refine r_iinc dX0_init_34 rfl rfl ?_
    refine r_goto (tgt := 15) dX0_init_37 (by decide) ?_
    exact h
theorem dX0_size_0 : decode cX0_size 0 = .ok (.aload_n 0, 1) := by decide +kernel
theorem dX0_size_1 : decode cX0_size 1 = .ok (.getfield 22, 3) := by decide +kernel
theorem dX0_size_4 : decode cX0_size 4 = .ok (.ireturn, 1) := by decide +kernel
abbrev x_X0_size : Cx := (0, cX0_size, false, some (.int))
set_option maxRecDepth 10000 in
theorem g_X0_size_0 {E : Ev} {d : Nat} {G : Hp} {Q : Po} {x0 : Nat} (h : (qFI E G x0 0 2 fun v1 => Q (some (.int v1)) G)) : Xr E d x_X0_size 0 [some (.ref x0)] [] G Q := by
  refine r_aload_n dX0_size_0 rfl ?_
  refine r_getI dX0_size_1 rfl (qFI_imp (fun v1 h => ?_) h)
  exact r_iret dX0_size_4 rfl ⟨rfl, h⟩
theorem e_X0_size {E : Ev} {d : Nat} {G : Hp} {Q : Po} {x0 : Nat} (h : (qFI E G x0 0 2 fun v1 => Q (some (.int v1)) G)) : runs E (d + 1) i_X0_size [.ref x0] G Q := by
  rw [runs_eq (m := (yX0_size, cX0_size, 1, some (.int), 0, 0, false, false)) rfl (Nat.le_of_ble_eq_true rfl)]
  exact g_X0_size_0 h
theorem dX0_forget_0 : decode cX0_forget 0 = .ok (.aload_n 0, 1) := by decide +kernel
theorem dX0_forget_1 : decode cX0_forget 1 = .ok (.iconst 0, 1) := by decide +kernel
theorem dX0_forget_2 : decode cX0_forget 2 = .ok (.putfield 22, 3) := by decide +kernel
theorem dX0_forget_5 : decode cX0_forget 5 = .ok (.return_, 1) := by decide +kernel
abbrev x_X0_forget : Cx := (0, cX0_forget, false, none)
set_option maxRecDepth 10000 in
theorem g_X0_forget_0 {E : Ev} {d : Nat} {G : Hp} {Q : Po} {x0 : Nat} (h : (qP E G x0 0 2 (.int ((iv 0))) fun G1 => Q none G1)) : Xr E d x_X0_forget 0 [some (.ref x0)] [] G Q := by
  refine r_aload_n dX0_forget_0 rfl ?_
  refine r_iconst dX0_forget_1 ?_
  refine r_put dX0_forget_2 rfl rfl (by decide) (qP_imp (fun G1 h => ?_) h)
  exact r_vret dX0_forget_5 rfl h
theorem e_X0_forget {E : Ev} {d : Nat} {G : Hp} {Q : Po} {x0 : Nat} (h : (qP E G x0 0 2 (.int ((iv 0))) fun G1 => Q none G1)) : runs E (d + 1) i_X0_forget [.ref x0] G Q := by
  rw [runs_eq (m := (yX0_forget, cX0_forget, 1, none, 0, 0, false, false)) rfl (Nat.le_of_ble_eq_true rfl)]
  exact g_X0_forget_0 h
theorem dX0_remember_0 : decode cX0_remember 0 = .ok (.aload_n 0, 1) := by decide +kernel
theorem dX0_remember_1 : decode cX0_remember 1 = .ok (.getfield 11, 3) := by decide +kernel
theorem dX0_remember_4 : decode cX0_remember 4 = .ok (.aload_n 0, 1) := by decide +kernel
theorem dX0_remember_5 : decode cX0_remember 5 = .ok (.getfield 18, 3) := by decide +kernel
theorem dX0_remember_8 : decode cX0_remember 8 = .ok (.aaload, 1) := by decide +kernel
theorem dX0_remember_9 : decode cX0_remember 9 = .ok (.aload_n 1, 1) := by decide +kernel
theorem dX0_remember_10 : decode cX0_remember 10 = .ok (.invokevirtual 25, 3) := by decide +kernel
theorem dX0_remember_13 : decode cX0_remember 13 = .ok (.aload_n 0, 1) := by decide +kernel
theorem dX0_remember_14 : decode cX0_remember 14 = .ok (.aload_n 0, 1) := by decide +kernel
theorem dX0_remember_15 : decode cX0_remember 15 = .ok (.getfield 18, 3) := by decide +kernel
theorem dX0_remember_18 : decode cX0_remember 18 = .ok (.iconst 1, 1) := by decide +kernel
theorem dX0_remember_19 : decode cX0_remember 19 = .ok (.iadd, 1) := by decide +kernel
theorem dX0_remember_20 : decode cX0_remember 20 = .ok (.bipush 14, 2) := by decide +kernel
theorem dX0_remember_22 : decode cX0_remember 22 = .ok (.irem, 1) := by decide +kernel
theorem dX0_remember_23 : decode cX0_remember 23 = .ok (.putfield 18, 3) := by decide +kernel
theorem dX0_remember_26 : decode cX0_remember 26 = .ok (.aload_n 0, 1) := by decide +kernel
theorem dX0_remember_27 : decode cX0_remember 27 = .ok (.aload_n 0, 1) := by decide +kernel
theorem dX0_remember_28 : decode cX0_remember 28 = .ok (.getfield 22, 3) := by decide +kernel
theorem dX0_remember_31 : decode cX0_remember 31 = .ok (.iconst 1, 1) := by decide +kernel
theorem dX0_remember_32 : decode cX0_remember 32 = .ok (.iadd, 1) := by decide +kernel
theorem dX0_remember_33 : decode cX0_remember 33 = .ok (.bipush 14, 2) := by decide +kernel
theorem dX0_remember_35 : decode cX0_remember 35 = .ok (.invokestatic 29, 3) := by decide +kernel
theorem dX0_remember_38 : decode cX0_remember 38 = .ok (.putfield 22, 3) := by decide +kernel
theorem dX0_remember_41 : decode cX0_remember 41 = .ok (.return_, 1) := by decide +kernel
abbrev x_X0_remember : Cx := (0, cX0_remember, false, none)
set_option maxRecDepth 10000 in
theorem g_X0_remember_0 {E : Ev} {d : Nat} {G : Hp} {Q : Po} {x0 : Nat} {x1 : Nat} (h : (qFR E G x0 0 0 fun v1 => (qFI E G x0 0 1 fun v2 => (qRA E G v1 v2 fun v3 => (rcv E G v3 1 = true ∧ (qCV E d i_X1_become [.ref v3, .ref x1] G fun G4 => (qFI E G4 x0 0 1 fun v5 => (qP E G4 x0 0 1 (.int (((v5 + (iv 1)) - (v5 + (iv 1)) / (iv 14) * (iv 14)))) fun G6 => (qFI E G6 x0 0 2 fun v7 => (qP E G6 x0 0 2 (.int ((imin (v7 + (iv 1)) (iv 14)))) fun G8 => Q none G8)))))))))) : Xr E d x_X0_remember 0 [some (.ref x0), some (.ref x1)] [] G Q := by
  refine r_aload_n dX0_remember_0 rfl ?_
  refine r_getR dX0_remember_1 rfl (qFR_imp (fun v1 h => ?_) h)
  refine r_aload_n dX0_remember_4 rfl ?_
  refine r_getI dX0_remember_5 rfl (qFI_imp (fun v2 h => ?_) h)
  refine r_aald dX0_remember_8 (qRA_imp (fun v3 h => ?_) h)
  refine r_aload_n dX0_remember_9 rfl ?_
  refine r_cV dX0_remember_10 rfl (invV_eq rfl rfl rfl rfl rfl rfl ⟨rfl, Nat.le_of_ble_eq_true rfl⟩ h.1) (qCV_imp (fun G4 h => ?_) h.2)
  refine r_aload_n dX0_remember_13 rfl ?_
  refine r_aload_n dX0_remember_14 rfl ?_
  refine r_getI dX0_remember_15 rfl (qFI_imp (fun v5 h => ?_) h)
  refine r_iconst dX0_remember_18 ?_
  refine r_iadd dX0_remember_19 ?_
  refine r_bipush dX0_remember_20 rfl ?_
  refine r_irem dX0_remember_22 ⟨by decide, ?_⟩
  refine r_put dX0_remember_23 rfl rfl (by decide) (qP_imp (fun G6 h => ?_) h)
  refine r_aload_n dX0_remember_26 rfl ?_
  refine r_aload_n dX0_remember_27 rfl ?_
  refine r_getI dX0_remember_28 rfl (qFI_imp (fun v7 h => ?_) h)
  refine r_iconst dX0_remember_31 ?_
  refine r_iadd dX0_remember_32 ?_
  refine r_bipush dX0_remember_33 rfl ?_
  refine r_min dX0_remember_35 rfl (Nat.le_of_ble_eq_true rfl) ?_
  refine r_put dX0_remember_38 rfl rfl (by decide) (qP_imp (fun G8 h => ?_) h)
  exact r_vret dX0_remember_41 rfl h
theorem e_X0_remember {E : Ev} {d : Nat} {G : Hp} {Q : Po} {x0 : Nat} {x1 : Nat} (h : (qFR E G x0 0 0 fun v1 => (qFI E G x0 0 1 fun v2 => (qRA E G v1 v2 fun v3 => (rcv E G v3 1 = true ∧ (qCV E d i_X1_become [.ref v3, .ref x1] G fun G4 => (qFI E G4 x0 0 1 fun v5 => (qP E G4 x0 0 1 (.int (((v5 + (iv 1)) - (v5 + (iv 1)) / (iv 14) * (iv 14)))) fun G6 => (qFI E G6 x0 0 2 fun v7 => (qP E G6 x0 0 2 (.int ((imin (v7 + (iv 1)) (iv 14)))) fun G8 => Q none G8)))))))))) : runs E (d + 1) i_X0_remember [.ref x0, .ref x1] G Q := by
  rw [runs_eq (m := (yX0_remember, cX0_remember, 2, none, 1, 0, false, false)) rfl (Nat.le_of_ble_eq_true rfl)]
  exact g_X0_remember_0 h
theorem dX0_takeBack_0 : decode cX0_takeBack 0 = .ok (.aload_n 0, 1) := by decide +kernel
theorem dX0_takeBack_1 : decode cX0_takeBack 1 = .ok (.getfield 22, 3) := by decide +kernel
theorem dX0_takeBack_4 : decode cX0_takeBack 4 = .ok (.ifCond .ne 5, 3) := by decide +kernel
theorem dX0_takeBack_7 : decode cX0_takeBack 7 = .ok (.iconst 0, 1) := by decide +kernel
theorem dX0_takeBack_8 : decode cX0_takeBack 8 = .ok (.ireturn, 1) := by decide +kernel
theorem dX0_takeBack_9 : decode cX0_takeBack 9 = .ok (.aload_n 0, 1) := by decide +kernel
theorem dX0_takeBack_10 : decode cX0_takeBack 10 = .ok (.aload_n 0, 1) := by decide +kernel
theorem dX0_takeBack_11 : decode cX0_takeBack 11 = .ok (.getfield 18, 3) := by decide +kernel
theorem dX0_takeBack_14 : decode cX0_takeBack 14 = .ok (.bipush 14, 2) := by decide +kernel
theorem dX0_takeBack_16 : decode cX0_takeBack 16 = .ok (.iadd, 1) := by decide +kernel
theorem dX0_takeBack_17 : decode cX0_takeBack 17 = .ok (.iconst 1, 1) := by decide +kernel
theorem dX0_takeBack_18 : decode cX0_takeBack 18 = .ok (.isub, 1) := by decide +kernel
theorem dX0_takeBack_19 : decode cX0_takeBack 19 = .ok (.bipush 14, 2) := by decide +kernel
theorem dX0_takeBack_21 : decode cX0_takeBack 21 = .ok (.irem, 1) := by decide +kernel
theorem dX0_takeBack_22 : decode cX0_takeBack 22 = .ok (.putfield 18, 3) := by decide +kernel
theorem dX0_takeBack_25 : decode cX0_takeBack 25 = .ok (.aload_n 0, 1) := by decide +kernel
theorem dX0_takeBack_26 : decode cX0_takeBack 26 = .ok (.dup, 1) := by decide +kernel
theorem dX0_takeBack_27 : decode cX0_takeBack 27 = .ok (.getfield 22, 3) := by decide +kernel
theorem dX0_takeBack_30 : decode cX0_takeBack 30 = .ok (.iconst 1, 1) := by decide +kernel
theorem dX0_takeBack_31 : decode cX0_takeBack 31 = .ok (.isub, 1) := by decide +kernel
theorem dX0_takeBack_32 : decode cX0_takeBack 32 = .ok (.putfield 22, 3) := by decide +kernel
theorem dX0_takeBack_35 : decode cX0_takeBack 35 = .ok (.aload_n 1, 1) := by decide +kernel
theorem dX0_takeBack_36 : decode cX0_takeBack 36 = .ok (.aload_n 0, 1) := by decide +kernel
theorem dX0_takeBack_37 : decode cX0_takeBack 37 = .ok (.getfield 11, 3) := by decide +kernel
theorem dX0_takeBack_40 : decode cX0_takeBack 40 = .ok (.aload_n 0, 1) := by decide +kernel
theorem dX0_takeBack_41 : decode cX0_takeBack 41 = .ok (.getfield 18, 3) := by decide +kernel
theorem dX0_takeBack_44 : decode cX0_takeBack 44 = .ok (.aaload, 1) := by decide +kernel
theorem dX0_takeBack_45 : decode cX0_takeBack 45 = .ok (.invokevirtual 25, 3) := by decide +kernel
theorem dX0_takeBack_48 : decode cX0_takeBack 48 = .ok (.iconst 1, 1) := by decide +kernel
theorem dX0_takeBack_49 : decode cX0_takeBack 49 = .ok (.ireturn, 1) := by decide +kernel
abbrev x_X0_takeBack : Cx := (0, cX0_takeBack, false, some (.boolean))
set_option maxRecDepth 10000 in
theorem g_X0_takeBack_0 {E : Ev} {d : Nat} {G : Hp} {Q : Po} {x0 : Nat} {x1 : Nat} (h : (qFI E G x0 0 2 fun v1 => (if ¬ v1 = 0 then (qFI E G x0 0 1 fun v2 => (qP E G x0 0 1 (.int ((((v2 + (iv 14)) - (iv 1)) - ((v2 + (iv 14)) - (iv 1)) / (iv 14) * (iv 14)))) fun G3 => (qFI E G3 x0 0 2 fun v4 => (qP E G3 x0 0 2 (.int ((v4 - (iv 1)))) fun G5 => (qFR E G5 x0 0 0 fun v6 => (qFI E G5 x0 0 1 fun v7 => (qRA E G5 v6 v7 fun v8 => (rcv E G5 x1 1 = true ∧ (qCV E d i_X1_become [.ref x1, .ref v8] G5 fun G9 => Q (some (.int (iv 1))) G9))))))))) else Q (some (.int (iv 0))) G))) : Xr E d x_X0_takeBack 0 [some (.ref x0), some (.ref x1)] [] G Q := by
  refine r_aload_n dX0_takeBack_0 rfl ?_
  refine r_getI dX0_takeBack_1 rfl (qFI_imp (fun v1 h => ?_) h)
  refine r_ifne (tgt := 9) dX0_takeBack_4 (by decide) (ite_imp (fun h => ?_) (fun h => ?_) h)
  · refine r_aload_n dX0_takeBack_9 rfl ?_
    refine r_aload_n dX0_takeBack_10 rfl ?_
    refine r_getI dX0_takeBack_11 rfl (qFI_imp (fun v2 h => ?_) h)
    refine r_bipush dX0_takeBack_14 rfl ?_
    refine r_iadd dX0_takeBack_16 ?_
    refine r_iconst dX0_takeBack_17 ?_
    refine r_isub dX0_takeBack_18 ?_
    refine r_bipush dX0_takeBack_19 rfl ?_
    refine r_irem dX0_takeBack_21 ⟨by decide, ?_⟩
    refine r_put dX0_takeBack_22 rfl rfl (by decide) (qP_imp (fun G3 h => ?_) h)
    refine r_aload_n dX0_takeBack_25 rfl ?_
    refine r_dup dX0_takeBack_26 rfl ?_
    refine r_getI dX0_takeBack_27 rfl (qFI_imp (fun v4 h => ?_) h)
    refine r_iconst dX0_takeBack_30 ?_
    refine r_isub dX0_takeBack_31 ?_
    refine r_put dX0_takeBack_32 rfl rfl (by decide) (qP_imp (fun G5 h => ?_) h)
    refine r_aload_n dX0_takeBack_35 rfl ?_
    refine r_aload_n dX0_takeBack_36 rfl ?_
    refine r_getR dX0_takeBack_37 rfl (qFR_imp (fun v6 h => ?_) h)
    refine r_aload_n dX0_takeBack_40 rfl ?_
    refine r_getI dX0_takeBack_41 rfl (qFI_imp (fun v7 h => ?_) h)
    refine r_aald dX0_takeBack_44 (qRA_imp (fun v8 h => ?_) h)
    refine r_cV dX0_takeBack_45 rfl (invV_eq rfl rfl rfl rfl rfl rfl ⟨rfl, Nat.le_of_ble_eq_true rfl⟩ h.1) (qCV_imp (fun G9 h => ?_) h.2)
    refine r_iconst dX0_takeBack_48 ?_
    exact r_iret dX0_takeBack_49 rfl ⟨rfl, h⟩
  · refine r_iconst dX0_takeBack_7 ?_
    exact r_iret dX0_takeBack_8 rfl ⟨rfl, h⟩
theorem e_X0_takeBack {E : Ev} {d : Nat} {G : Hp} {Q : Po} {x0 : Nat} {x1 : Nat} (h : (qFI E G x0 0 2 fun v1 => (if ¬ v1 = 0 then (qFI E G x0 0 1 fun v2 => (qP E G x0 0 1 (.int ((((v2 + (iv 14)) - (iv 1)) - ((v2 + (iv 14)) - (iv 1)) / (iv 14) * (iv 14)))) fun G3 => (qFI E G3 x0 0 2 fun v4 => (qP E G3 x0 0 2 (.int ((v4 - (iv 1)))) fun G5 => (qFR E G5 x0 0 0 fun v6 => (qFI E G5 x0 0 1 fun v7 => (qRA E G5 v6 v7 fun v8 => (rcv E G5 x1 1 = true ∧ (qCV E d i_X1_become [.ref x1, .ref v8] G5 fun G9 => Q (some (.int (iv 1))) G9))))))))) else Q (some (.int (iv 0))) G))) : runs E (d + 1) i_X0_takeBack [.ref x0, .ref x1] G Q := by
  rw [runs_eq (m := (yX0_takeBack, cX0_takeBack, 2, some (.boolean), 1, 0, false, false)) rfl (Nat.le_of_ble_eq_true rfl)]
  exact g_X0_takeBack_0 h
