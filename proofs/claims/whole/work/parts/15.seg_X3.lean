/-! segments, by program (wip/whole/gen/seg.py) -/
theorem dX3_init_0 : decode cX3_init 0 = .ok (.aload_n 0, 1) := by decide +kernel
theorem dX3_init_1 : decode cX3_init 1 = .ok (.invokespecial 3, 3) := by decide +kernel
theorem dX3_init_4 : decode cX3_init 4 = .ok (.aload_n 0, 1) := by decide +kernel
theorem dX3_init_5 : decode cX3_init 5 = .ok (.bipush 99, 2) := by decide +kernel
theorem dX3_init_7 : decode cX3_init 7 = .ok (.newarray .int, 2) := by decide +kernel
theorem dX3_init_9 : decode cX3_init 9 = .ok (.putfield 9, 3) := by decide +kernel
theorem dX3_init_12 : decode cX3_init 12 = .ok (.aload_n 0, 1) := by decide +kernel
theorem dX3_init_13 : decode cX3_init 13 = .ok (.iconst 0, 1) := by decide +kernel
theorem dX3_init_14 : decode cX3_init 14 = .ok (.putfield 15, 3) := by decide +kernel
theorem dX3_init_17 : decode cX3_init 17 = .ok (.aload_n 0, 1) := by decide +kernel
theorem dX3_init_18 : decode cX3_init 18 = .ok (.iconst 0, 1) := by decide +kernel
theorem dX3_init_19 : decode cX3_init 19 = .ok (.putfield 19, 3) := by decide +kernel
theorem dX3_init_22 : decode cX3_init 22 = .ok (.return_, 1) := by decide +kernel
abbrev x_X3_init : Cx := (3, cX3_init, true, none)
set_option maxRecDepth 10000 in
theorem g_X3_init_0 {E : Ev} {d : Nat} {G : Hp} {Q : Po} {x0 : Nat} (h : ((¬ (iv 99) < 0 ∧ ((iv 99)).toNatClampNeg ≤ 100000) ∧ (qP E (psh G (cA 0 ((iv 99)).toNatClampNeg (fun _ => 0)) ((iv 99)).toNatClampNeg) x0 3 0 (.ref ((nxA E G))) fun G1 => (qP E G1 x0 3 1 (.int ((iv 0))) fun G2 => (qP E G2 x0 3 2 (.int ((iv 0))) fun G3 => Q none G3))))) : Xr E d x_X3_init 0 [some (.ref x0)] [] G Q := by
  refine r_aload_n dX3_init_0 rfl ?_
  refine r_oinit dX3_init_1 rfl (Nat.le_of_ble_eq_true rfl) ?_
  refine r_aload_n dX3_init_4 rfl ?_
  refine r_bipush dX3_init_5 rfl ?_
  refine r_newI dX3_init_7 ⟨h.1, ?_⟩
  replace h := h.2
  refine r_put dX3_init_9 rfl rfl (by decide) (qP_imp (fun G1 h => ?_) h)
  refine r_aload_n dX3_init_12 rfl ?_
  refine r_iconst dX3_init_13 ?_
  refine r_put dX3_init_14 rfl rfl (by decide) (qP_imp (fun G2 h => ?_) h)
  refine r_aload_n dX3_init_17 rfl ?_
  refine r_iconst dX3_init_18 ?_
  refine r_put dX3_init_19 rfl rfl (by decide) (qP_imp (fun G3 h => ?_) h)
  exact r_vret dX3_init_22 rfl h
theorem e_X3_init {E : Ev} {d : Nat} {G : Hp} {Q : Po} {x0 : Nat} (h : ((¬ (iv 99) < 0 ∧ ((iv 99)).toNatClampNeg ≤ 100000) ∧ (qP E (psh G (cA 0 ((iv 99)).toNatClampNeg (fun _ => 0)) ((iv 99)).toNatClampNeg) x0 3 0 (.ref ((nxA E G))) fun G1 => (qP E G1 x0 3 1 (.int ((iv 0))) fun G2 => (qP E G2 x0 3 2 (.int ((iv 0))) fun G3 => Q none G3))))) : runs E (d + 1) i_X3_init [.ref x0] G Q := by
  rw [runs_eq (m := (yX3_init, cX3_init, 1, none, 0, 3, true, false)) rfl (Nat.le_of_ble_eq_true rfl)]
  exact g_X3_init_0 h
theorem dX3_size_0 : decode cX3_size 0 = .ok (.aload_n 0, 1) := by decide +kernel
theorem dX3_size_1 : decode cX3_size 1 = .ok (.getfield 15, 3) := by decide +kernel
theorem dX3_size_4 : decode cX3_size 4 = .ok (.ireturn, 1) := by decide +kernel
abbrev x_X3_size : Cx := (3, cX3_size, false, some (.int))
set_option maxRecDepth 10000 in
theorem g_X3_size_0 {E : Ev} {d : Nat} {G : Hp} {Q : Po} {x0 : Nat} (h : (qFI E G x0 3 1 fun v1 => Q (some (.int v1)) G)) : Xr E d x_X3_size 0 [some (.ref x0)] [] G Q := by
  refine r_aload_n dX3_size_0 rfl ?_
  refine r_getI dX3_size_1 rfl (qFI_imp (fun v1 h => ?_) h)
  exact r_iret dX3_size_4 rfl ⟨rfl, h⟩
theorem e_X3_size {E : Ev} {d : Nat} {G : Hp} {Q : Po} {x0 : Nat} (h : (qFI E G x0 3 1 fun v1 => Q (some (.int v1)) G)) : runs E (d + 1) i_X3_size [.ref x0] G Q := by
  rw [runs_eq (m := (yX3_size, cX3_size, 1, some (.int), 0, 3, false, false)) rfl (Nat.le_of_ble_eq_true rfl)]
  exact g_X3_size_0 h
theorem dX3_empty_0 : decode cX3_empty 0 = .ok (.aload_n 0, 1) := by decide +kernel
theorem dX3_empty_1 : decode cX3_empty 1 = .ok (.iconst 0, 1) := by decide +kernel
theorem dX3_empty_2 : decode cX3_empty 2 = .ok (.putfield 15, 3) := by decide +kernel
theorem dX3_empty_5 : decode cX3_empty 5 = .ok (.return_, 1) := by decide +kernel
abbrev x_X3_empty : Cx := (3, cX3_empty, false, none)
set_option maxRecDepth 10000 in
theorem g_X3_empty_0 {E : Ev} {d : Nat} {G : Hp} {Q : Po} {x0 : Nat} (h : (qP E G x0 3 1 (.int ((iv 0))) fun G1 => Q none G1)) : Xr E d x_X3_empty 0 [some (.ref x0)] [] G Q := by
  refine r_aload_n dX3_empty_0 rfl ?_
  refine r_iconst dX3_empty_1 ?_
  refine r_put dX3_empty_2 rfl rfl (by decide) (qP_imp (fun G1 h => ?_) h)
  exact r_vret dX3_empty_5 rfl h
theorem e_X3_empty {E : Ev} {d : Nat} {G : Hp} {Q : Po} {x0 : Nat} (h : (qP E G x0 3 1 (.int ((iv 0))) fun G1 => Q none G1)) : runs E (d + 1) i_X3_empty [.ref x0] G Q := by
  rw [runs_eq (m := (yX3_empty, cX3_empty, 1, none, 0, 3, false, false)) rfl (Nat.le_of_ble_eq_true rfl)]
  exact g_X3_empty_0 h
theorem dX3_add_0 : decode cX3_add 0 = .ok (.aload_n 0, 1) := by decide +kernel
theorem dX3_add_1 : decode cX3_add 1 = .ok (.getfield 15, 3) := by decide +kernel
theorem dX3_add_4 : decode cX3_add 4 = .ok (.aload_n 0, 1) := by decide +kernel
theorem dX3_add_5 : decode cX3_add 5 = .ok (.getfield 9, 3) := by decide +kernel
theorem dX3_add_8 : decode cX3_add 8 = .ok (.arraylength, 1) := by decide +kernel
theorem dX3_add_9 : decode cX3_add 9 = .ok (.if_icmp .lt 5, 3) := by decide +kernel
theorem dX3_add_12 : decode cX3_add 12 = .ok (.iconst 0, 1) := by decide +kernel
theorem dX3_add_13 : decode cX3_add 13 = .ok (.ireturn, 1) := by decide +kernel
theorem dX3_add_14 : decode cX3_add 14 = .ok (.aload_n 0, 1) := by decide +kernel
theorem dX3_add_15 : decode cX3_add 15 = .ok (.getfield 9, 3) := by decide +kernel
theorem dX3_add_18 : decode cX3_add 18 = .ok (.aload_n 0, 1) := by decide +kernel
theorem dX3_add_19 : decode cX3_add 19 = .ok (.getfield 15, 3) := by decide +kernel
theorem dX3_add_22 : decode cX3_add 22 = .ok (.iload_n 1, 1) := by decide +kernel
theorem dX3_add_23 : decode cX3_add 23 = .ok (.iastore, 1) := by decide +kernel
theorem dX3_add_24 : decode cX3_add 24 = .ok (.aload_n 0, 1) := by decide +kernel
theorem dX3_add_25 : decode cX3_add 25 = .ok (.dup, 1) := by decide +kernel
theorem dX3_add_26 : decode cX3_add 26 = .ok (.getfield 15, 3) := by decide +kernel
theorem dX3_add_29 : decode cX3_add 29 = .ok (.iconst 1, 1) := by decide +kernel
theorem dX3_add_30 : decode cX3_add 30 = .ok (.iadd, 1) := by decide +kernel
theorem dX3_add_31 : decode cX3_add 31 = .ok (.putfield 15, 3) := by decide +kernel
theorem dX3_add_34 : decode cX3_add 34 = .ok (.iconst 1, 1) := by decide +kernel
theorem dX3_add_35 : decode cX3_add 35 = .ok (.ireturn, 1) := by decide +kernel
abbrev x_X3_add : Cx := (3, cX3_add, false, some (.boolean))
set_option maxRecDepth 10000 in
theorem g_X3_add_0 {E : Ev} {d : Nat} {G : Hp} {Q : Po} {x0 : Nat} {x1 : Int32} (h : (qFI E G x0 3 1 fun v1 => (qFR E G x0 3 0 fun v2 => (qL 3 E G v2 fun v3 => (if v1 < v3 then (qFR E G x0 3 0 fun v4 => (qFI E G x0 3 1 fun v5 => (qIS E G v4 v5 x1 fun G6 => (qFI E G6 x0 3 1 fun v7 => (qP E G6 x0 3 1 (.int ((v7 + (iv 1)))) fun G8 => Q (some (.int (iv 1))) G8))))) else Q (some (.int (iv 0))) G))))) : Xr E d x_X3_add 0 [some (.ref x0), some (.int x1)] [] G Q := by
  refine r_aload_n dX3_add_0 rfl ?_
  refine r_getI dX3_add_1 rfl (qFI_imp (fun v1 h => ?_) h)
  refine r_aload_n dX3_add_4 rfl ?_
  refine r_getR dX3_add_5 rfl (qFR_imp (fun v2 h => ?_) h)
  refine r_alen dX3_add_8 (qL_imp (fun v3 h => ?_) h)
  refine r_clt (tgt := 14) dX3_add_9 (by decide) (ite_imp (fun h => ?_) (fun h => ?_) h)
  · refine r_aload_n dX3_add_14 rfl ?_
    refine r_getR dX3_add_15 rfl (qFR_imp (fun v4 h => ?_) h)
    refine r_aload_n dX3_add_18 rfl ?_
    refine r_getI dX3_add_19 rfl (qFI_imp (fun v5 h => ?_) h)
    refine r_iload_n dX3_add_22 rfl ?_
    refine r_iast dX3_add_23 (qIS_imp (fun G6 h => ?_) h)
    refine r_aload_n dX3_add_24 rfl ?_
    refine r_dup dX3_add_25 rfl ?_
    refine r_getI dX3_add_26 rfl (qFI_imp (fun v7 h => ?_) h)
    refine r_iconst dX3_add_29 ?_
    refine r_iadd dX3_add_30 ?_
    refine r_put dX3_add_31 rfl rfl (by decide) (qP_imp (fun G8 h => ?_) h)
    refine r_iconst dX3_add_34 ?_
    exact r_iret dX3_add_35 rfl ⟨rfl, h⟩
  · refine r_iconst dX3_add_12 ?_
    exact r_iret dX3_add_13 rfl ⟨rfl, h⟩
theorem e_X3_add {E : Ev} {d : Nat} {G : Hp} {Q : Po} {x0 : Nat} {x1 : Int32} (h : (qFI E G x0 3 1 fun v1 => (qFR E G x0 3 0 fun v2 => (qL 3 E G v2 fun v3 => (if v1 < v3 then (qFR E G x0 3 0 fun v4 => (qFI E G x0 3 1 fun v5 => (qIS E G v4 v5 x1 fun G6 => (qFI E G6 x0 3 1 fun v7 => (qP E G6 x0 3 1 (.int ((v7 + (iv 1)))) fun G8 => Q (some (.int (iv 1))) G8))))) else Q (some (.int (iv 0))) G))))) : runs E (d + 1) i_X3_add [.ref x0, .int x1] G Q := by
  rw [runs_eq (m := (yX3_add, cX3_add, 2, some (.boolean), 1, 3, false, false)) rfl (Nat.le_of_ble_eq_true rfl)]
  exact g_X3_add_0 h
theorem dX3_readSetup_0 : decode cX3_readSetup 0 = .ok (.aload_n 1, 1) := by decide +kernel
theorem dX3_readSetup_1 : decode cX3_readSetup 1 = .ok (.invokevirtual 22, 3) := by decide +kernel
theorem dX3_readSetup_4 : decode cX3_readSetup 4 = .ok (.aload_n 0, 1) := by decide +kernel
theorem dX3_readSetup_5 : decode cX3_readSetup 5 = .ok (.iconst 0, 1) := by decide +kernel
theorem dX3_readSetup_6 : decode cX3_readSetup 6 = .ok (.putfield 19, 3) := by decide +kernel
theorem dX3_readSetup_9 : decode cX3_readSetup 9 = .ok (.iconst 0, 1) := by decide +kernel
theorem dX3_readSetup_10 : decode cX3_readSetup 10 = .ok (.istore_n 3, 1) := by decide +kernel
theorem dX3_readSetup_11 : decode cX3_readSetup 11 = .ok (.iload_n 3, 1) := by decide +kernel
theorem dX3_readSetup_12 : decode cX3_readSetup 12 = .ok (.bipush 99, 2) := by decide +kernel
theorem dX3_readSetup_14 : decode cX3_readSetup 14 = .ok (.if_icmp .ge 34, 3) := by decide +kernel
theorem dX3_readSetup_17 : decode cX3_readSetup 17 = .ok (.aload_n 0, 1) := by decide +kernel
theorem dX3_readSetup_18 : decode cX3_readSetup 18 = .ok (.getfield 19, 3) := by decide +kernel
theorem dX3_readSetup_21 : decode cX3_readSetup 21 = .ok (.aload_n 0, 1) := by decide +kernel
theorem dX3_readSetup_22 : decode cX3_readSetup 22 = .ok (.getfield 15, 3) := by decide +kernel
theorem dX3_readSetup_25 : decode cX3_readSetup 25 = .ok (.if_icmp .ge 23, 3) := by decide +kernel
theorem dX3_readSetup_28 : decode cX3_readSetup 28 = .ok (.aload_n 0, 1) := by decide +kernel
theorem dX3_readSetup_29 : decode cX3_readSetup 29 = .ok (.aload_n 1, 1) := by decide +kernel
theorem dX3_readSetup_30 : decode cX3_readSetup 30 = .ok (.aload_n 2, 1) := by decide +kernel
theorem dX3_readSetup_31 : decode cX3_readSetup 31 = .ok (.invokevirtual 27, 3) := by decide +kernel
theorem dX3_readSetup_34 : decode cX3_readSetup 34 = .ok (.ifCond .ne 8, 3) := by decide +kernel
theorem dX3_readSetup_37 : decode cX3_readSetup 37 = .ok (.aload_n 0, 1) := by decide +kernel
theorem dX3_readSetup_38 : decode cX3_readSetup 38 = .ok (.getfield 19, 3) := by decide +kernel
theorem dX3_readSetup_41 : decode cX3_readSetup 41 = .ok (.ireturn, 1) := by decide +kernel
theorem dX3_readSetup_42 : decode cX3_readSetup 42 = .ok (.iinc 3 1, 3) := by decide +kernel
theorem dX3_readSetup_45 : decode cX3_readSetup 45 = .ok (.goto (-34), 3) := by decide +kernel
theorem dX3_readSetup_48 : decode cX3_readSetup 48 = .ok (.bipush (-9), 2) := by decide +kernel
theorem dX3_readSetup_50 : decode cX3_readSetup 50 = .ok (.ireturn, 1) := by decide +kernel
abbrev x_X3_readSetup : Cx := (3, cX3_readSetup, false, some (.int))
set_option maxRecDepth 10000 in
theorem g_X3_readSetup_0 {E : Ev} {d : Nat} {G : Hp} {Q : Po} {x0 : Nat} {x1 : Nat} {x2 : Nat} (h : (rcv E G x1 1 = true ∧ (qCV E d i_X1_reset [.ref x1] G fun G1 => (qP E G1 x0 3 2 (.int ((iv 0))) fun G2 => Xr E d x_X3_readSetup 11 [some (.ref x0), some (.ref x1), some (.ref x2), some (.int ((iv 0)))] [] G2 Q)))) : Xr E d x_X3_readSetup 0 [some (.ref x0), some (.ref x1), some (.ref x2), none] [] G Q := by
  refine r_aload_n dX3_readSetup_0 rfl ?_
  refine r_cV dX3_readSetup_1 rfl (invV_eq rfl rfl rfl rfl rfl rfl ⟨rfl, Nat.le_of_ble_eq_true rfl⟩ h.1) (qCV_imp (fun G1 h => ?_) h.2)
  refine r_aload_n dX3_readSetup_4 rfl ?_
  refine r_iconst dX3_readSetup_5 ?_
  refine r_put dX3_readSetup_6 rfl rfl (by decide) (qP_imp (fun G2 h => ?_) h)
  refine r_iconst dX3_readSetup_9 ?_
  refine r_istore_n dX3_readSetup_10 rfl ?_
  exact h
theorem e_X3_readSetup {E : Ev} {d : Nat} {G : Hp} {Q : Po} {x0 : Nat} {x1 : Nat} {x2 : Nat} (h : (rcv E G x1 1 = true ∧ (qCV E d i_X1_reset [.ref x1] G fun G1 => (qP E G1 x0 3 2 (.int ((iv 0))) fun G2 => Xr E d x_X3_readSetup 11 [some (.ref x0), some (.ref x1), some (.ref x2), some (.int ((iv 0)))] [] G2 Q)))) : runs E (d + 1) i_X3_readSetup [.ref x0, .ref x1, .ref x2] G Q := by
  rw [runs_eq (m := (yX3_readSetup, cX3_readSetup, 4, some (.int), 2, 3, false, false)) rfl (Nat.le_of_ble_eq_true rfl)]
  exact g_X3_readSetup_0 h
set_option maxRecDepth 10000 in
theorem g_X3_readSetup_11 {E : Ev} {d : Nat} {G : Hp} {Q : Po} {x0 : Nat} {x1 : Nat} {x2 : Nat} {x3 : Int32} (h : (if (iv 99) ≤ x3 then Q (some (.int (iv (-9)))) G else (qFI E G x0 3 2 fun v1 => (qFI E G x0 3 1 fun v2 => (if v2 ≤ v1 then Q (some (.int (iv (-9)))) G else (rcv E G x0 3 = true ∧ (qCI E d i_X3_readItem [.ref x0, .ref x1, .ref x2] G fun v4 G3 => (if ¬ v4 = 0 then Xr E d x_X3_readSetup 11 [some (.ref x0), some (.ref x1), some (.ref x2), some (.int ((x3 + (iv 1))))] [] G3 Q else (qFI E G3 x0 3 2 fun v5 => Q (some (.int v5)) G3))))))))) : Xr E d x_X3_readSetup 11 [some (.ref x0), some (.ref x1), some (.ref x2), some (.int x3)] [] G Q := by
  refine r_iload_n dX3_readSetup_11 rfl ?_
  refine r_bipush dX3_readSetup_12 rfl ?_
  refine r_cge (tgt := 48) dX3_readSetup_14 (by decide) (ite_imp (fun h => ?_) (fun h => ?_) h)
  · refine r_bipush dX3_readSetup_48 rfl ?_
    exact r_iret dX3_readSetup_50 rfl ⟨rfl, h⟩
  · refine r_aload_n dX3_readSetup_17 rfl ?_
    refine r_getI dX3_readSetup_18 rfl (qFI_imp (fun v1 h => ?_) h)
    refine r_aload_n dX3_readSetup_21 rfl ?_
    refine r_getI dX3_readSetup_22 rfl (qFI_imp (fun v2 h => ?_) h)
    refine r_cge (tgt := 48) dX3_readSetup_25 (by decide) (ite_imp (fun h => ?_) (fun h => ?_) h)
    · refine r_bipush dX3_readSetup_48 rfl ?_
      exact r_iret dX3_readSetup_50 rfl ⟨rfl, h⟩
    · refine r_aload_n dX3_readSetup_28 rfl ?_
      refine r_aload_n dX3_readSetup_29 rfl ?_
      refine r_aload_n dX3_readSetup_30 rfl ?_
      refine r_cI dX3_readSetup_31 rfl (invV_eq rfl rfl rfl rfl rfl rfl ⟨rfl, Nat.le_of_ble_eq_true rfl⟩ h.1) (qCI_imp (fun v4 G3 h => ?_) h.2)
      refine r_ifne (tgt := 42) dX3_readSetup_34 (by decide) (ite_imp (fun h => ?_) (fun h => ?_) h)
      · refine r_iinc dX3_readSetup_42 rfl rfl ?_
        refine r_goto (tgt := 11) dX3_readSetup_45 (by decide) ?_
        exact h
      · refine r_aload_n dX3_readSetup_37 rfl ?_
        refine r_getI dX3_readSetup_38 rfl (qFI_imp (fun v5 h => ?_) h)
        exact r_iret dX3_readSetup_41 rfl ⟨rfl, h⟩
theorem dX3_isBody_0 : decode cX3_isBody 0 = .ok (.aload_n 0, 1) := by decide +kernel
theorem dX3_isBody_1 : decode cX3_isBody 1 = .ok (.iconst 0, 1) := by decide +kernel
theorem dX3_isBody_2 : decode cX3_isBody 2 = .ok (.putfield 19, 3) := by decide +kernel
theorem dX3_isBody_5 : decode cX3_isBody 5 = .ok (.aload_n 0, 1) := by decide +kernel
theorem dX3_isBody_6 : decode cX3_isBody 6 = .ok (.iload_n 1, 1) := by decide +kernel
theorem dX3_isBody_7 : decode cX3_isBody 7 = .ok (.aload_n 2, 1) := by decide +kernel
theorem dX3_isBody_8 : decode cX3_isBody 8 = .ok (.invokevirtual 31, 3) := by decide +kernel
theorem dX3_isBody_11 : decode cX3_isBody 11 = .ok (.ifCond .eq 18, 3) := by decide +kernel
theorem dX3_isBody_14 : decode cX3_isBody 14 = .ok (.aload_n 0, 1) := by decide +kernel
theorem dX3_isBody_15 : decode cX3_isBody 15 = .ok (.getfield 19, 3) := by decide +kernel
theorem dX3_isBody_18 : decode cX3_isBody 18 = .ok (.aload_n 0, 1) := by decide +kernel
theorem dX3_isBody_19 : decode cX3_isBody 19 = .ok (.getfield 15, 3) := by decide +kernel
theorem dX3_isBody_22 : decode cX3_isBody 22 = .ok (.if_icmp .ne 7, 3) := by decide +kernel
theorem dX3_isBody_25 : decode cX3_isBody 25 = .ok (.iconst 1, 1) := by decide +kernel
theorem dX3_isBody_26 : decode cX3_isBody 26 = .ok (.goto 4, 3) := by decide +kernel
theorem dX3_isBody_29 : decode cX3_isBody 29 = .ok (.iconst 0, 1) := by decide +kernel
theorem dX3_isBody_30 : decode cX3_isBody 30 = .ok (.ireturn, 1) := by decide +kernel
abbrev x_X3_isBody : Cx := (3, cX3_isBody, false, some (.boolean))
set_option maxRecDepth 10000 in
theorem g_X3_isBody_0 {E : Ev} {d : Nat} {G : Hp} {Q : Po} {x0 : Nat} {x1 : Int32} {x2 : Nat} (h : (qP E G x0 3 2 (.int ((iv 0))) fun G1 => (rcv E G1 x0 3 = true ∧ (qCI E d i_X3_readBody [.ref x0, .int x1, .ref x2] G1 fun v3 G2 => (if v3 = 0 then Q (some (.int (iv 0))) G2 else (qFI E G2 x0 3 2 fun v4 => (qFI E G2 x0 3 1 fun v5 => (if ¬ v4 = v5 then Q (some (.int (iv 0))) G2 else Q (some (.int (iv 1))) G2)))))))) : Xr E d x_X3_isBody 0 [some (.ref x0), some (.int x1), some (.ref x2)] [] G Q := by
  refine r_aload_n dX3_isBody_0 rfl ?_
  refine r_iconst dX3_isBody_1 ?_
  refine r_put dX3_isBody_2 rfl rfl (by decide) (qP_imp (fun G1 h => ?_) h)
  refine r_aload_n dX3_isBody_5 rfl ?_
  refine r_iload_n dX3_isBody_6 rfl ?_
  refine r_aload_n dX3_isBody_7 rfl ?_
  refine r_cI dX3_isBody_8 rfl (invV_eq rfl rfl rfl rfl rfl rfl ⟨rfl, Nat.le_of_ble_eq_true rfl⟩ h.1) (qCI_imp (fun v3 G2 h => ?_) h.2)
  refine r_ifeq (tgt := 29) dX3_isBody_11 (by decide) (ite_imp (fun h => ?_) (fun h => ?_) h)
  · refine r_iconst dX3_isBody_29 ?_
    exact r_iret dX3_isBody_30 rfl ⟨rfl, h⟩
  · refine r_aload_n dX3_isBody_14 rfl ?_
    refine r_getI dX3_isBody_15 rfl (qFI_imp (fun v4 h => ?_) h)
    refine r_aload_n dX3_isBody_18 rfl ?_
    refine r_getI dX3_isBody_19 rfl (qFI_imp (fun v5 h => ?_) h)
    refine r_cne (tgt := 29) dX3_isBody_22 (by decide) (ite_imp (fun h => ?_) (fun h => ?_) h)
    · refine r_iconst dX3_isBody_29 ?_
      exact r_iret dX3_isBody_30 rfl ⟨rfl, h⟩
    · refine r_iconst dX3_isBody_25 ?_
      refine r_goto (tgt := 30) dX3_isBody_26 (by decide) ?_
      exact r_iret dX3_isBody_30 rfl ⟨rfl, h⟩
theorem e_X3_isBody {E : Ev} {d : Nat} {G : Hp} {Q : Po} {x0 : Nat} {x1 : Int32} {x2 : Nat} (h : (qP E G x0 3 2 (.int ((iv 0))) fun G1 => (rcv E G1 x0 3 = true ∧ (qCI E d i_X3_readBody [.ref x0, .int x1, .ref x2] G1 fun v3 G2 => (if v3 = 0 then Q (some (.int (iv 0))) G2 else (qFI E G2 x0 3 2 fun v4 => (qFI E G2 x0 3 1 fun v5 => (if ¬ v4 = v5 then Q (some (.int (iv 0))) G2 else Q (some (.int (iv 1))) G2)))))))) : runs E (d + 1) i_X3_isBody [.ref x0, .int x1, .ref x2] G Q := by
  rw [runs_eq (m := (yX3_isBody, cX3_isBody, 3, some (.boolean), 2, 3, false, false)) rfl (Nat.le_of_ble_eq_true rfl)]
  exact g_X3_isBody_0 h
theorem dX3_readItem_0 : decode cX3_readItem 0 = .ok (.aload_n 0, 1) := by decide +kernel
theorem dX3_readItem_1 : decode cX3_readItem 1 = .ok (.invokevirtual 35, 3) := by decide +kernel
theorem dX3_readItem_4 : decode cX3_readItem 4 = .ok (.iconst 4, 1) := by decide +kernel
theorem dX3_readItem_5 : decode cX3_readItem 5 = .ok (.isub, 1) := by decide +kernel
theorem dX3_readItem_6 : decode cX3_readItem 6 = .ok (.istore_n 3, 1) := by decide +kernel
theorem dX3_readItem_7 : decode cX3_readItem 7 = .ok (.iload_n 3, 1) := by decide +kernel
theorem dX3_readItem_8 : decode cX3_readItem 8 = .ok (.invokestatic 39, 3) := by decide +kernel
theorem dX3_readItem_11 : decode cX3_readItem 11 = .ok (.ifCond .eq 21, 3) := by decide +kernel
theorem dX3_readItem_14 : decode cX3_readItem 14 = .ok (.aload_n 0, 1) := by decide +kernel
theorem dX3_readItem_15 : decode cX3_readItem 15 = .ok (.dup, 1) := by decide +kernel
theorem dX3_readItem_16 : decode cX3_readItem 16 = .ok (.getfield 19, 3) := by decide +kernel
theorem dX3_readItem_19 : decode cX3_readItem 19 = .ok (.iconst 1, 1) := by decide +kernel
theorem dX3_readItem_20 : decode cX3_readItem 20 = .ok (.iadd, 1) := by decide +kernel
theorem dX3_readItem_21 : decode cX3_readItem 21 = .ok (.putfield 19, 3) := by decide +kernel
theorem dX3_readItem_24 : decode cX3_readItem 24 = .ok (.aload_n 0, 1) := by decide +kernel
theorem dX3_readItem_25 : decode cX3_readItem 25 = .ok (.iload_n 3, 1) := by decide +kernel
theorem dX3_readItem_26 : decode cX3_readItem 26 = .ok (.aload_n 1, 1) := by decide +kernel
theorem dX3_readItem_27 : decode cX3_readItem 27 = .ok (.aload_n 2, 1) := by decide +kernel
theorem dX3_readItem_28 : decode cX3_readItem 28 = .ok (.invokevirtual 43, 3) := by decide +kernel
theorem dX3_readItem_31 : decode cX3_readItem 31 = .ok (.ireturn, 1) := by decide +kernel
theorem dX3_readItem_32 : decode cX3_readItem 32 = .ok (.aload_n 0, 1) := by decide +kernel
theorem dX3_readItem_33 : decode cX3_readItem 33 = .ok (.invokevirtual 47, 3) := by decide +kernel
theorem dX3_readItem_36 : decode cX3_readItem 36 = .ok (.istore 4, 2) := by decide +kernel
theorem dX3_readItem_38 : decode cX3_readItem 38 = .ok (.iload 4, 2) := by decide +kernel
theorem dX3_readItem_40 : decode cX3_readItem 40 = .ok (.invokestatic 50, 3) := by decide +kernel
theorem dX3_readItem_43 : decode cX3_readItem 43 = .ok (.ifCond .eq 21, 3) := by decide +kernel
theorem dX3_readItem_46 : decode cX3_readItem 46 = .ok (.aload_n 0, 1) := by decide +kernel
theorem dX3_readItem_47 : decode cX3_readItem 47 = .ok (.dup, 1) := by decide +kernel
theorem dX3_readItem_48 : decode cX3_readItem 48 = .ok (.getfield 19, 3) := by decide +kernel
theorem dX3_readItem_51 : decode cX3_readItem 51 = .ok (.iconst 1, 1) := by decide +kernel
theorem dX3_readItem_52 : decode cX3_readItem 52 = .ok (.iadd, 1) := by decide +kernel
theorem dX3_readItem_53 : decode cX3_readItem 53 = .ok (.putfield 19, 3) := by decide +kernel
theorem dX3_readItem_56 : decode cX3_readItem 56 = .ok (.aload_n 0, 1) := by decide +kernel
theorem dX3_readItem_57 : decode cX3_readItem 57 = .ok (.iload 4, 2) := by decide +kernel
theorem dX3_readItem_59 : decode cX3_readItem 59 = .ok (.aload_n 1, 1) := by decide +kernel
theorem dX3_readItem_60 : decode cX3_readItem 60 = .ok (.invokevirtual 53, 3) := by decide +kernel
theorem dX3_readItem_63 : decode cX3_readItem 63 = .ok (.ireturn, 1) := by decide +kernel
theorem dX3_readItem_64 : decode cX3_readItem 64 = .ok (.iconst 0, 1) := by decide +kernel
theorem dX3_readItem_65 : decode cX3_readItem 65 = .ok (.ireturn, 1) := by decide +kernel
abbrev x_X3_readItem : Cx := (3, cX3_readItem, false, some (.boolean))
set_option maxRecDepth 10000 in
theorem g_X3_readItem_0 {E : Ev} {d : Nat} {G : Hp} {Q : Po} {x0 : Nat} {x1 : Nat} {x2 : Nat} (h : (rcv E G x0 3 = true ∧ (qCI E d i_X3_symbolHere [.ref x0] G fun v2 G1 => (qCI E d i_X6_isNonterminal [.int ((v2 - (iv 4)))] G1 fun v4 G3 => (if v4 = 0 then (rcv E G3 x0 3 = true ∧ (qCI E d i_X3_stateHere [.ref x0] G3 fun v6 G5 => (qCI E d i_X6_isState [.int v6] G5 fun v8 G7 => (if v8 = 0 then Q (some (.int (iv 0))) G7 else (qFI E G7 x0 3 2 fun v9 => (qP E G7 x0 3 2 (.int ((v9 + (iv 1)))) fun G10 => (rcv E G10 x0 3 = true ∧ (qCI E d i_X3_readTransition [.ref x0, .int v6, .ref x1] G10 fun v12 G11 => (narrow .boolean (.int v12) = .int v12 ∧ Q (some (.int v12)) G11))))))))) else (qFI E G3 x0 3 2 fun v13 => (qP E G3 x0 3 2 (.int ((v13 + (iv 1)))) fun G14 => (rcv E G14 x0 3 = true ∧ (qCI E d i_X3_readRule [.ref x0, .int ((v2 - (iv 4))), .ref x1, .ref x2] G14 fun v16 G15 => (narrow .boolean (.int v16) = .int v16 ∧ Q (some (.int v16)) G15)))))))))) : Xr E d x_X3_readItem 0 [some (.ref x0), some (.ref x1), some (.ref x2), none, none] [] G Q := by
  refine r_aload_n dX3_readItem_0 rfl ?_
  refine r_cI dX3_readItem_1 rfl (invV_eq rfl rfl rfl rfl rfl rfl ⟨rfl, Nat.le_of_ble_eq_true rfl⟩ h.1) (qCI_imp (fun v2 G1 h => ?_) h.2)
  refine r_iconst dX3_readItem_4 ?_
  refine r_isub dX3_readItem_5 ?_
  refine r_istore_n dX3_readItem_6 rfl ?_
  refine r_iload_n dX3_readItem_7 rfl ?_
  refine r_cI dX3_readItem_8 rfl (invS_eq rfl (by decide) rfl rfl rfl rfl ⟨rfl, Nat.le_of_ble_eq_true rfl⟩) (qCI_imp (fun v4 G3 h => ?_) h)
  refine r_ifeq (tgt := 32) dX3_readItem_11 (by decide) (ite_imp (fun h => ?_) (fun h => ?_) h)
  · refine r_aload_n dX3_readItem_32 rfl ?_
    refine r_cI dX3_readItem_33 rfl (invV_eq rfl rfl rfl rfl rfl rfl ⟨rfl, Nat.le_of_ble_eq_true rfl⟩ h.1) (qCI_imp (fun v6 G5 h => ?_) h.2)
    refine r_istore dX3_readItem_36 rfl ?_
    refine r_iload dX3_readItem_38 rfl ?_
    refine r_cI dX3_readItem_40 rfl (invS_eq rfl (by decide) rfl rfl rfl rfl ⟨rfl, Nat.le_of_ble_eq_true rfl⟩) (qCI_imp (fun v8 G7 h => ?_) h)
    refine r_ifeq (tgt := 64) dX3_readItem_43 (by decide) (ite_imp (fun h => ?_) (fun h => ?_) h)
    · refine r_iconst dX3_readItem_64 ?_
      exact r_iret dX3_readItem_65 rfl ⟨rfl, h⟩
    · refine r_aload_n dX3_readItem_46 rfl ?_
      refine r_dup dX3_readItem_47 rfl ?_
      refine r_getI dX3_readItem_48 rfl (qFI_imp (fun v9 h => ?_) h)
      refine r_iconst dX3_readItem_51 ?_
      refine r_iadd dX3_readItem_52 ?_
      refine r_put dX3_readItem_53 rfl rfl (by decide) (qP_imp (fun G10 h => ?_) h)
      refine r_aload_n dX3_readItem_56 rfl ?_
      refine r_iload dX3_readItem_57 rfl ?_
      refine r_aload_n dX3_readItem_59 rfl ?_
      refine r_cI dX3_readItem_60 rfl (invV_eq rfl rfl rfl rfl rfl rfl ⟨rfl, Nat.le_of_ble_eq_true rfl⟩ h.1) (qCI_imp (fun v12 G11 h => ?_) h.2)
      exact r_iret dX3_readItem_63 rfl h
  · refine r_aload_n dX3_readItem_14 rfl ?_
    refine r_dup dX3_readItem_15 rfl ?_
    refine r_getI dX3_readItem_16 rfl (qFI_imp (fun v13 h => ?_) h)
    refine r_iconst dX3_readItem_19 ?_
    refine r_iadd dX3_readItem_20 ?_
    refine r_put dX3_readItem_21 rfl rfl (by decide) (qP_imp (fun G14 h => ?_) h)
    refine r_aload_n dX3_readItem_24 rfl ?_
    refine r_iload_n dX3_readItem_25 rfl ?_
    refine r_aload_n dX3_readItem_26 rfl ?_
    refine r_aload_n dX3_readItem_27 rfl ?_
    refine r_cI dX3_readItem_28 rfl (invV_eq rfl rfl rfl rfl rfl rfl ⟨rfl, Nat.le_of_ble_eq_true rfl⟩ h.1) (qCI_imp (fun v16 G15 h => ?_) h.2)
    exact r_iret dX3_readItem_31 rfl h
theorem e_X3_readItem {E : Ev} {d : Nat} {G : Hp} {Q : Po} {x0 : Nat} {x1 : Nat} {x2 : Nat} (h : (rcv E G x0 3 = true ∧ (qCI E d i_X3_symbolHere [.ref x0] G fun v2 G1 => (qCI E d i_X6_isNonterminal [.int ((v2 - (iv 4)))] G1 fun v4 G3 => (if v4 = 0 then (rcv E G3 x0 3 = true ∧ (qCI E d i_X3_stateHere [.ref x0] G3 fun v6 G5 => (qCI E d i_X6_isState [.int v6] G5 fun v8 G7 => (if v8 = 0 then Q (some (.int (iv 0))) G7 else (qFI E G7 x0 3 2 fun v9 => (qP E G7 x0 3 2 (.int ((v9 + (iv 1)))) fun G10 => (rcv E G10 x0 3 = true ∧ (qCI E d i_X3_readTransition [.ref x0, .int v6, .ref x1] G10 fun v12 G11 => (narrow .boolean (.int v12) = .int v12 ∧ Q (some (.int v12)) G11))))))))) else (qFI E G3 x0 3 2 fun v13 => (qP E G3 x0 3 2 (.int ((v13 + (iv 1)))) fun G14 => (rcv E G14 x0 3 = true ∧ (qCI E d i_X3_readRule [.ref x0, .int ((v2 - (iv 4))), .ref x1, .ref x2] G14 fun v16 G15 => (narrow .boolean (.int v16) = .int v16 ∧ Q (some (.int v16)) G15)))))))))) : runs E (d + 1) i_X3_readItem [.ref x0, .ref x1, .ref x2] G Q := by
  rw [runs_eq (m := (yX3_readItem, cX3_readItem, 5, some (.boolean), 2, 3, false, false)) rfl (Nat.le_of_ble_eq_true rfl)]
  exact g_X3_readItem_0 h
theorem dX3_readRule_0 : decode cX3_readRule 0 = .ok (.aload_n 0, 1) := by decide +kernel
theorem dX3_readRule_1 : decode cX3_readRule 1 = .ok (.bipush 61, 2) := by decide +kernel
theorem dX3_readRule_3 : decode cX3_readRule 3 = .ok (.invokevirtual 57, 3) := by decide +kernel
theorem dX3_readRule_6 : decode cX3_readRule 6 = .ok (.ifCond .eq 21, 3) := by decide +kernel
theorem dX3_readRule_9 : decode cX3_readRule 9 = .ok (.aload_n 0, 1) := by decide +kernel
theorem dX3_readRule_10 : decode cX3_readRule 10 = .ok (.iload_n 1, 1) := by decide +kernel
theorem dX3_readRule_11 : decode cX3_readRule 11 = .ok (.aload_n 3, 1) := by decide +kernel
theorem dX3_readRule_12 : decode cX3_readRule 12 = .ok (.invokevirtual 31, 3) := by decide +kernel
theorem dX3_readRule_15 : decode cX3_readRule 15 = .ok (.ifCond .eq 12, 3) := by decide +kernel
theorem dX3_readRule_18 : decode cX3_readRule 18 = .ok (.aload_n 0, 1) := by decide +kernel
theorem dX3_readRule_19 : decode cX3_readRule 19 = .ok (.bipush 59, 2) := by decide +kernel
theorem dX3_readRule_21 : decode cX3_readRule 21 = .ok (.invokevirtual 57, 3) := by decide +kernel
theorem dX3_readRule_24 : decode cX3_readRule 24 = .ok (.ifCond .ne 5, 3) := by decide +kernel
theorem dX3_readRule_27 : decode cX3_readRule 27 = .ok (.iconst 0, 1) := by decide +kernel
theorem dX3_readRule_28 : decode cX3_readRule 28 = .ok (.ireturn, 1) := by decide +kernel
theorem dX3_readRule_29 : decode cX3_readRule 29 = .ok (.aload_n 2, 1) := by decide +kernel
theorem dX3_readRule_30 : decode cX3_readRule 30 = .ok (.iload_n 1, 1) := by decide +kernel
theorem dX3_readRule_31 : decode cX3_readRule 31 = .ok (.aload_n 3, 1) := by decide +kernel
theorem dX3_readRule_32 : decode cX3_readRule 32 = .ok (.invokevirtual 60, 3) := by decide +kernel
theorem dX3_readRule_35 : decode cX3_readRule 35 = .ok (.iconst 1, 1) := by decide +kernel
theorem dX3_readRule_36 : decode cX3_readRule 36 = .ok (.ireturn, 1) := by decide +kernel
abbrev x_X3_readRule : Cx := (3, cX3_readRule, false, some (.boolean))
set_option maxRecDepth 10000 in
theorem g_X3_readRule_0 {E : Ev} {d : Nat} {G : Hp} {Q : Po} {x0 : Nat} {x1 : Int32} {x2 : Nat} {x3 : Nat} (h : (rcv E G x0 3 = true ∧ (qCI E d i_X3_skip [.ref x0, .int ((iv 61))] G fun v2 G1 => (if v2 = 0 then Q (some (.int (iv 0))) G1 else (rcv E G1 x0 3 = true ∧ (qCI E d i_X3_readBody [.ref x0, .int x1, .ref x3] G1 fun v4 G3 => (if v4 = 0 then Q (some (.int (iv 0))) G3 else (rcv E G3 x0 3 = true ∧ (qCI E d i_X3_skip [.ref x0, .int ((iv 59))] G3 fun v6 G5 => (if ¬ v6 = 0 then (rcv E G5 x2 1 = true ∧ (qCV E d i_X1_changeBody [.ref x2, .int x1, .ref x3] G5 fun G7 => Q (some (.int (iv 1))) G7)) else Q (some (.int (iv 0))) G5)))))))))) : Xr E d x_X3_readRule 0 [some (.ref x0), some (.int x1), some (.ref x2), some (.ref x3)] [] G Q := by
  refine r_aload_n dX3_readRule_0 rfl ?_
  refine r_bipush dX3_readRule_1 rfl ?_
  refine r_cI dX3_readRule_3 rfl (invV_eq rfl rfl rfl rfl rfl rfl ⟨rfl, Nat.le_of_ble_eq_true rfl⟩ h.1) (qCI_imp (fun v2 G1 h => ?_) h.2)
  refine r_ifeq (tgt := 27) dX3_readRule_6 (by decide) (ite_imp (fun h => ?_) (fun h => ?_) h)
  · refine r_iconst dX3_readRule_27 ?_
    exact r_iret dX3_readRule_28 rfl ⟨rfl, h⟩
  · refine r_aload_n dX3_readRule_9 rfl ?_
    refine r_iload_n dX3_readRule_10 rfl ?_
    refine r_aload_n dX3_readRule_11 rfl ?_
    refine r_cI dX3_readRule_12 rfl (invV_eq rfl rfl rfl rfl rfl rfl ⟨rfl, Nat.le_of_ble_eq_true rfl⟩ h.1) (qCI_imp (fun v4 G3 h => ?_) h.2)
    refine r_ifeq (tgt := 27) dX3_readRule_15 (by decide) (ite_imp (fun h => ?_) (fun h => ?_) h)
    · refine r_iconst dX3_readRule_27 ?_
      exact r_iret dX3_readRule_28 rfl ⟨rfl, h⟩
    · refine r_aload_n dX3_readRule_18 rfl ?_
      refine r_bipush dX3_readRule_19 rfl ?_
      refine r_cI dX3_readRule_21 rfl (invV_eq rfl rfl rfl rfl rfl rfl ⟨rfl, Nat.le_of_ble_eq_true rfl⟩ h.1) (qCI_imp (fun v6 G5 h => ?_) h.2)
      refine r_ifne (tgt := 29) dX3_readRule_24 (by decide) (ite_imp (fun h => ?_) (fun h => ?_) h)
      · refine r_aload_n dX3_readRule_29 rfl ?_
        refine r_iload_n dX3_readRule_30 rfl ?_
        refine r_aload_n dX3_readRule_31 rfl ?_
        refine r_cV dX3_readRule_32 rfl (invV_eq rfl rfl rfl rfl rfl rfl ⟨rfl, Nat.le_of_ble_eq_true rfl⟩ h.1) (qCV_imp (fun G7 h => ?_) h.2)
        refine r_iconst dX3_readRule_35 ?_
        exact r_iret dX3_readRule_36 rfl ⟨rfl, h⟩
      · refine r_iconst dX3_readRule_27 ?_
        exact r_iret dX3_readRule_28 rfl ⟨rfl, h⟩
theorem e_X3_readRule {E : Ev} {d : Nat} {G : Hp} {Q : Po} {x0 : Nat} {x1 : Int32} {x2 : Nat} {x3 : Nat} (h : (rcv E G x0 3 = true ∧ (qCI E d i_X3_skip [.ref x0, .int ((iv 61))] G fun v2 G1 => (if v2 = 0 then Q (some (.int (iv 0))) G1 else (rcv E G1 x0 3 = true ∧ (qCI E d i_X3_readBody [.ref x0, .int x1, .ref x3] G1 fun v4 G3 => (if v4 = 0 then Q (some (.int (iv 0))) G3 else (rcv E G3 x0 3 = true ∧ (qCI E d i_X3_skip [.ref x0, .int ((iv 59))] G3 fun v6 G5 => (if ¬ v6 = 0 then (rcv E G5 x2 1 = true ∧ (qCV E d i_X1_changeBody [.ref x2, .int x1, .ref x3] G5 fun G7 => Q (some (.int (iv 1))) G7)) else Q (some (.int (iv 0))) G5)))))))))) : runs E (d + 1) i_X3_readRule [.ref x0, .int x1, .ref x2, .ref x3] G Q := by
  rw [runs_eq (m := (yX3_readRule, cX3_readRule, 4, some (.boolean), 3, 3, false, false)) rfl (Nat.le_of_ble_eq_true rfl)]
  exact g_X3_readRule_0 h
theorem dX3_readTransition_0 : decode cX3_readTransition 0 = .ok (.aload_n 0, 1) := by decide +kernel
theorem dX3_readTransition_1 : decode cX3_readTransition 1 = .ok (.invokevirtual 35, 3) := by decide +kernel
theorem dX3_readTransition_4 : decode cX3_readTransition 4 = .ok (.istore_n 3, 1) := by decide +kernel
theorem dX3_readTransition_5 : decode cX3_readTransition 5 = .ok (.iload_n 3, 1) := by decide +kernel
theorem dX3_readTransition_6 : decode cX3_readTransition 6 = .ok (.invokestatic 64, 3) := by decide +kernel
theorem dX3_readTransition_9 : decode cX3_readTransition 9 = .ok (.ifCond .ne 5, 3) := by decide +kernel
theorem dX3_readTransition_12 : decode cX3_readTransition 12 = .ok (.iconst 0, 1) := by decide +kernel
theorem dX3_readTransition_13 : decode cX3_readTransition 13 = .ok (.ireturn, 1) := by decide +kernel
theorem dX3_readTransition_14 : decode cX3_readTransition 14 = .ok (.aload_n 0, 1) := by decide +kernel
theorem dX3_readTransition_15 : decode cX3_readTransition 15 = .ok (.dup, 1) := by decide +kernel
theorem dX3_readTransition_16 : decode cX3_readTransition 16 = .ok (.getfield 19, 3) := by decide +kernel
theorem dX3_readTransition_19 : decode cX3_readTransition 19 = .ok (.iconst 1, 1) := by decide +kernel
theorem dX3_readTransition_20 : decode cX3_readTransition 20 = .ok (.iadd, 1) := by decide +kernel
theorem dX3_readTransition_21 : decode cX3_readTransition 21 = .ok (.putfield 19, 3) := by decide +kernel
theorem dX3_readTransition_24 : decode cX3_readTransition 24 = .ok (.iconst 0, 1) := by decide +kernel
theorem dX3_readTransition_25 : decode cX3_readTransition 25 = .ok (.istore 4, 2) := by decide +kernel
theorem dX3_readTransition_27 : decode cX3_readTransition 27 = .ok (.iconst 0, 1) := by decide +kernel
theorem dX3_readTransition_28 : decode cX3_readTransition 28 = .ok (.istore 5, 2) := by decide +kernel
theorem dX3_readTransition_30 : decode cX3_readTransition 30 = .ok (.iconst 1, 1) := by decide +kernel
theorem dX3_readTransition_31 : decode cX3_readTransition 31 = .ok (.istore 6, 2) := by decide +kernel
theorem dX3_readTransition_33 : decode cX3_readTransition 33 = .ok (.iload 6, 2) := by decide +kernel
theorem dX3_readTransition_35 : decode cX3_readTransition 35 = .ok (.iload_n 3, 1) := by decide +kernel
theorem dX3_readTransition_36 : decode cX3_readTransition 36 = .ok (.invokestatic 67, 3) := by decide +kernel
theorem dX3_readTransition_39 : decode cX3_readTransition 39 = .ok (.if_icmp .gt 52, 3) := by decide +kernel
theorem dX3_readTransition_42 : decode cX3_readTransition 42 = .ok (.aload_n 0, 1) := by decide +kernel
theorem dX3_readTransition_43 : decode cX3_readTransition 43 = .ok (.invokevirtual 47, 3) := by decide +kernel
theorem dX3_readTransition_46 : decode cX3_readTransition 46 = .ok (.istore 7, 2) := by decide +kernel
theorem dX3_readTransition_48 : decode cX3_readTransition 48 = .ok (.iload 7, 2) := by decide +kernel
theorem dX3_readTransition_50 : decode cX3_readTransition 50 = .ok (.invokestatic 50, 3) := by decide +kernel
theorem dX3_readTransition_53 : decode cX3_readTransition 53 = .ok (.ifCond .ne 5, 3) := by decide +kernel
theorem dX3_readTransition_56 : decode cX3_readTransition 56 = .ok (.iconst 0, 1) := by decide +kernel
theorem dX3_readTransition_57 : decode cX3_readTransition 57 = .ok (.ireturn, 1) := by decide +kernel
theorem dX3_readTransition_58 : decode cX3_readTransition 58 = .ok (.aload_n 0, 1) := by decide +kernel
theorem dX3_readTransition_59 : decode cX3_readTransition 59 = .ok (.dup, 1) := by decide +kernel
theorem dX3_readTransition_60 : decode cX3_readTransition 60 = .ok (.getfield 19, 3) := by decide +kernel
theorem dX3_readTransition_63 : decode cX3_readTransition 63 = .ok (.iconst 1, 1) := by decide +kernel
theorem dX3_readTransition_64 : decode cX3_readTransition 64 = .ok (.iadd, 1) := by decide +kernel
theorem dX3_readTransition_65 : decode cX3_readTransition 65 = .ok (.putfield 19, 3) := by decide +kernel
theorem dX3_readTransition_68 : decode cX3_readTransition 68 = .ok (.iload 6, 2) := by decide +kernel
theorem dX3_readTransition_70 : decode cX3_readTransition 70 = .ok (.iconst 1, 1) := by decide +kernel
theorem dX3_readTransition_71 : decode cX3_readTransition 71 = .ok (.if_icmp .ne 10, 3) := by decide +kernel
theorem dX3_readTransition_74 : decode cX3_readTransition 74 = .ok (.iload 7, 2) := by decide +kernel
theorem dX3_readTransition_76 : decode cX3_readTransition 76 = .ok (.istore 4, 2) := by decide +kernel
theorem dX3_readTransition_78 : decode cX3_readTransition 78 = .ok (.goto 7, 3) := by decide +kernel
theorem dX3_readTransition_81 : decode cX3_readTransition 81 = .ok (.iload 7, 2) := by decide +kernel
theorem dX3_readTransition_83 : decode cX3_readTransition 83 = .ok (.istore 5, 2) := by decide +kernel
theorem dX3_readTransition_85 : decode cX3_readTransition 85 = .ok (.iinc 6 1, 3) := by decide +kernel
theorem dX3_readTransition_88 : decode cX3_readTransition 88 = .ok (.goto (-55), 3) := by decide +kernel
theorem dX3_readTransition_91 : decode cX3_readTransition 91 = .ok (.aload_n 0, 1) := by decide +kernel
theorem dX3_readTransition_92 : decode cX3_readTransition 92 = .ok (.bipush 59, 2) := by decide +kernel
theorem dX3_readTransition_94 : decode cX3_readTransition 94 = .ok (.invokevirtual 57, 3) := by decide +kernel
theorem dX3_readTransition_97 : decode cX3_readTransition 97 = .ok (.ifCond .ne 5, 3) := by decide +kernel
theorem dX3_readTransition_100 : decode cX3_readTransition 100 = .ok (.iconst 0, 1) := by decide +kernel
theorem dX3_readTransition_101 : decode cX3_readTransition 101 = .ok (.ireturn, 1) := by decide +kernel
theorem dX3_readTransition_102 : decode cX3_readTransition 102 = .ok (.aload_n 2, 1) := by decide +kernel
theorem dX3_readTransition_103 : decode cX3_readTransition 103 = .ok (.iload_n 1, 1) := by decide +kernel
theorem dX3_readTransition_104 : decode cX3_readTransition 104 = .ok (.iload_n 3, 1) := by decide +kernel
theorem dX3_readTransition_105 : decode cX3_readTransition 105 = .ok (.iload 4, 2) := by decide +kernel
theorem dX3_readTransition_107 : decode cX3_readTransition 107 = .ok (.iload 5, 2) := by decide +kernel
theorem dX3_readTransition_109 : decode cX3_readTransition 109 = .ok (.invokevirtual 71, 3) := by decide +kernel
theorem dX3_readTransition_112 : decode cX3_readTransition 112 = .ok (.iconst 1, 1) := by decide +kernel
theorem dX3_readTransition_113 : decode cX3_readTransition 113 = .ok (.ireturn, 1) := by decide +kernel
abbrev x_X3_readTransition : Cx := (3, cX3_readTransition, false, some (.boolean))
set_option maxRecDepth 10000 in
theorem g_X3_readTransition_0 {E : Ev} {d : Nat} {G : Hp} {Q : Po} {x0 : Nat} {x1 : Int32} {x2 : Nat} (h : (rcv E G x0 3 = true ∧ (qCI E d i_X3_symbolHere [.ref x0] G fun v2 G1 => (qCI E d i_X6_isTerminal [.int v2] G1 fun v4 G3 => (if ¬ v4 = 0 then (qFI E G3 x0 3 2 fun v5 => (qP E G3 x0 3 2 (.int ((v5 + (iv 1)))) fun G6 => Xr E d x_X3_readTransition 33 [some (.ref x0), some (.int x1), some (.ref x2), some (.int v2), some (.int ((iv 0))), some (.int ((iv 0))), some (.int ((iv 1))), none] [] G6 Q)) else Q (some (.int (iv 0))) G3))))) : Xr E d x_X3_readTransition 0 [some (.ref x0), some (.int x1), some (.ref x2), none, none, none, none, none] [] G Q := by
  refine r_aload_n dX3_readTransition_0 rfl ?_
  refine r_cI dX3_readTransition_1 rfl (invV_eq rfl rfl rfl rfl rfl rfl ⟨rfl, Nat.le_of_ble_eq_true rfl⟩ h.1) (qCI_imp (fun v2 G1 h => ?_) h.2)
  refine r_istore_n dX3_readTransition_4 rfl ?_
  refine r_iload_n dX3_readTransition_5 rfl ?_
  refine r_cI dX3_readTransition_6 rfl (invS_eq rfl (by decide) rfl rfl rfl rfl ⟨rfl, Nat.le_of_ble_eq_true rfl⟩) (qCI_imp (fun v4 G3 h => ?_) h)
  refine r_ifne (tgt := 14) dX3_readTransition_9 (by decide) (ite_imp (fun h => ?_) (fun h => ?_) h)
  · refine r_aload_n dX3_readTransition_14 rfl ?_
    refine r_dup dX3_readTransition_15 rfl ?_
    refine r_getI dX3_readTransition_16 rfl (qFI_imp (fun v5 h => ?_) h)
    refine r_iconst dX3_readTransition_19 ?_
    refine r_iadd dX3_readTransition_20 ?_
    refine r_put dX3_readTransition_21 rfl rfl (by decide) (qP_imp (fun G6 h => ?_) h)
    refine r_iconst dX3_readTransition_24 ?_
    refine r_istore dX3_readTransition_25 rfl ?_
    refine r_iconst dX3_readTransition_27 ?_
    refine r_istore dX3_readTransition_28 rfl ?_
    refine r_iconst dX3_readTransition_30 ?_
    refine r_istore dX3_readTransition_31 rfl ?_
    exact h
  · refine r_iconst dX3_readTransition_12 ?_
    exact r_iret dX3_readTransition_13 rfl ⟨rfl, h⟩
theorem e_X3_readTransition {E : Ev} {d : Nat} {G : Hp} {Q : Po} {x0 : Nat} {x1 : Int32} {x2 : Nat} (h : (rcv E G x0 3 = true ∧ (qCI E d i_X3_symbolHere [.ref x0] G fun v2 G1 => (qCI E d i_X6_isTerminal [.int v2] G1 fun v4 G3 => (if ¬ v4 = 0 then (qFI E G3 x0 3 2 fun v5 => (qP E G3 x0 3 2 (.int ((v5 + (iv 1)))) fun G6 => Xr E d x_X3_readTransition 33 [some (.ref x0), some (.int x1), some (.ref x2), some (.int v2), some (.int ((iv 0))), some (.int ((iv 0))), some (.int ((iv 1))), none] [] G6 Q)) else Q (some (.int (iv 0))) G3))))) : runs E (d + 1) i_X3_readTransition [.ref x0, .int x1, .ref x2] G Q := by
  rw [runs_eq (m := (yX3_readTransition, cX3_readTransition, 8, some (.boolean), 2, 3, false, false)) rfl (Nat.le_of_ble_eq_true rfl)]
  exact g_X3_readTransition_0 h
set_option maxRecDepth 10000 in
theorem g_X3_readTransition_33 {E : Ev} {d : Nat} {G : Hp} {Q : Po} {x0 : Nat} {x1 : Int32} {x2 : Nat} {x3 : Int32} {x4 : Int32} {x5 : Int32} {x6 : Int32} {l7 : Option Value} (h : (qCI E d i_X6_arityOf [.int x3] G fun v2 G1 => (if v2 < x6 then (rcv E G1 x0 3 = true ∧ (qCI E d i_X3_skip [.ref x0, .int ((iv 59))] G1 fun v4 G3 => (if ¬ v4 = 0 then (rcv E G3 x2 1 = true ∧ (qCV E d i_X1_putTransition [.ref x2, .int x1, .int x3, .int x4, .int x5] G3 fun G5 => Q (some (.int (iv 1))) G5)) else Q (some (.int (iv 0))) G3))) else (rcv E G1 x0 3 = true ∧ (qCI E d i_X3_stateHere [.ref x0] G1 fun v7 G6 => (qCI E d i_X6_isState [.int v7] G6 fun v9 G8 => (if ¬ v9 = 0 then (qFI E G8 x0 3 2 fun v10 => (qP E G8 x0 3 2 (.int ((v10 + (iv 1)))) fun G11 => (if ¬ x6 = (iv 1) then Xr E d x_X3_readTransition 33 [some (.ref x0), some (.int x1), some (.ref x2), some (.int x3), some (.int x4), some (.int v7), some (.int ((x6 + (iv 1)))), some (.int v7)] [] G11 Q else Xr E d x_X3_readTransition 33 [some (.ref x0), some (.int x1), some (.ref x2), some (.int x3), some (.int v7), some (.int x5), some (.int ((x6 + (iv 1)))), some (.int v7)] [] G11 Q))) else Q (some (.int (iv 0))) G8))))))) : Xr E d x_X3_readTransition 33 [some (.ref x0), some (.int x1), some (.ref x2), some (.int x3), some (.int x4), some (.int x5), some (.int x6), l7] [] G Q := by
  refine r_iload dX3_readTransition_33 rfl ?_
  refine r_iload_n dX3_readTransition_35 rfl ?_
  refine r_cI dX3_readTransition_36 rfl (invS_eq rfl (by decide) rfl rfl rfl rfl ⟨rfl, Nat.le_of_ble_eq_true rfl⟩) (qCI_imp (fun v2 G1 h => ?_) h)
  refine r_cgt (tgt := 91) dX3_readTransition_39 (by decide) (ite_imp (fun h => ?_) (fun h => ?_) h)
  · refine r_aload_n dX3_readTransition_91 rfl ?_
    refine r_bipush dX3_readTransition_92 rfl ?_
    refine r_cI dX3_readTransition_94 rfl (invV_eq rfl rfl rfl rfl rfl rfl ⟨rfl, Nat.le_of_ble_eq_true rfl⟩ h.1) (qCI_imp (fun v4 G3 h => ?_) h.2)
    refine r_ifne (tgt := 102) dX3_readTransition_97 (by decide) (ite_imp (fun h => ?_) (fun h => ?_) h)
    · refine r_aload_n dX3_readTransition_102 rfl ?_
      refine r_iload_n dX3_readTransition_103 rfl ?_
      refine r_iload_n dX3_readTransition_104 rfl ?_
      refine r_iload dX3_readTransition_105 rfl ?_
      refine r_iload dX3_readTransition_107 rfl ?_
      refine r_cV dX3_readTransition_109 rfl (invV_eq rfl rfl rfl rfl rfl rfl ⟨rfl, Nat.le_of_ble_eq_true rfl⟩ h.1) (qCV_imp (fun G5 h => ?_) h.2)
      refine r_iconst dX3_readTransition_112 ?_
      exact r_iret dX3_readTransition_113 rfl ⟨rfl, h⟩
    · refine r_iconst dX3_readTransition_100 ?_
      exact r_iret dX3_readTransition_101 rfl ⟨rfl, h⟩
  · refine r_aload_n dX3_readTransition_42 rfl ?_
    refine r_cI dX3_readTransition_43 rfl (invV_eq rfl rfl rfl rfl rfl rfl ⟨rfl, Nat.le_of_ble_eq_true rfl⟩ h.1) (qCI_imp (fun v7 G6 h => ?_) h.2)
    refine r_istore dX3_readTransition_46 rfl ?_
    refine r_iload dX3_readTransition_48 rfl ?_
    refine r_cI dX3_readTransition_50 rfl (invS_eq rfl (by decide) rfl rfl rfl rfl ⟨rfl, Nat.le_of_ble_eq_true rfl⟩) (qCI_imp (fun v9 G8 h => ?_) h)
    refine r_ifne (tgt := 58) dX3_readTransition_53 (by decide) (ite_imp (fun h => ?_) (fun h => ?_) h)
    · refine r_aload_n dX3_readTransition_58 rfl ?_
      refine r_dup dX3_readTransition_59 rfl ?_
      refine r_getI dX3_readTransition_60 rfl (qFI_imp (fun v10 h => ?_) h)
      refine r_iconst dX3_readTransition_63 ?_
      refine r_iadd dX3_readTransition_64 ?_
      refine r_put dX3_readTransition_65 rfl rfl (by decide) (qP_imp (fun G11 h => ?_) h)
      refine r_iload dX3_readTransition_68 rfl ?_
      refine r_iconst dX3_readTransition_70 ?_
      refine r_cne (tgt := 81) dX3_readTransition_71 (by decide) (ite_imp (fun h => ?_) (fun h => ?_) h)
      · refine r_iload dX3_readTransition_81 rfl ?_
        refine r_istore dX3_readTransition_83 rfl ?_
        refine r_iinc dX3_readTransition_85 rfl rfl ?_
        refine r_goto (tgt := 33) dX3_readTransition_88 (by decide) ?_
        exact h
      · refine r_iload dX3_readTransition_74 rfl ?_
        refine r_istore dX3_readTransition_76 rfl ?_
        refine r_goto (tgt := 85) dX3_readTransition_78 (by decide) ?_
        refine r_iinc dX3_readTransition_85 rfl rfl ?_
        refine r_goto (tgt := 33) dX3_readTransition_88 (by decide) ?_
        exact h
    · refine r_iconst dX3_readTransition_56 ?_
      exact r_iret dX3_readTransition_57 rfl ⟨rfl, h⟩
theorem dX3_readBody_0 : decode cX3_readBody 0 = .ok (.aload_n 2, 1) := by decide +kernel
theorem dX3_readBody_1 : decode cX3_readBody 1 = .ok (.invokevirtual 75, 3) := by decide +kernel
theorem dX3_readBody_4 : decode cX3_readBody 4 = .ok (.iconst 1, 1) := by decide +kernel
theorem dX3_readBody_5 : decode cX3_readBody 5 = .ok (.istore_n 3, 1) := by decide +kernel
theorem dX3_readBody_6 : decode cX3_readBody 6 = .ok (.iconst 0, 1) := by decide +kernel
theorem dX3_readBody_7 : decode cX3_readBody 7 = .ok (.istore 4, 2) := by decide +kernel
theorem dX3_readBody_9 : decode cX3_readBody 9 = .ok (.iload_n 3, 1) := by decide +kernel
theorem dX3_readBody_10 : decode cX3_readBody 10 = .ok (.ifCond .le 60, 3) := by decide +kernel
theorem dX3_readBody_13 : decode cX3_readBody 13 = .ok (.iload 4, 2) := by decide +kernel
theorem dX3_readBody_15 : decode cX3_readBody 15 = .ok (.bipush 30, 2) := by decide +kernel
theorem dX3_readBody_17 : decode cX3_readBody 17 = .ok (.if_icmp .ge 53, 3) := by decide +kernel
theorem dX3_readBody_20 : decode cX3_readBody 20 = .ok (.aload_n 0, 1) := by decide +kernel
theorem dX3_readBody_21 : decode cX3_readBody 21 = .ok (.invokevirtual 35, 3) := by decide +kernel
theorem dX3_readBody_24 : decode cX3_readBody 24 = .ok (.istore 5, 2) := by decide +kernel
theorem dX3_readBody_26 : decode cX3_readBody 26 = .ok (.iload_n 1, 1) := by decide +kernel
theorem dX3_readBody_27 : decode cX3_readBody 27 = .ok (.iload 5, 2) := by decide +kernel
theorem dX3_readBody_29 : decode cX3_readBody 29 = .ok (.invokestatic 80, 3) := by decide +kernel
theorem dX3_readBody_32 : decode cX3_readBody 32 = .ok (.ifCond .ne 5, 3) := by decide +kernel
theorem dX3_readBody_35 : decode cX3_readBody 35 = .ok (.iconst 0, 1) := by decide +kernel
theorem dX3_readBody_36 : decode cX3_readBody 36 = .ok (.ireturn, 1) := by decide +kernel
theorem dX3_readBody_37 : decode cX3_readBody 37 = .ok (.aload_n 2, 1) := by decide +kernel
theorem dX3_readBody_38 : decode cX3_readBody 38 = .ok (.iload 5, 2) := by decide +kernel
theorem dX3_readBody_40 : decode cX3_readBody 40 = .ok (.invokevirtual 84, 3) := by decide +kernel
theorem dX3_readBody_43 : decode cX3_readBody 43 = .ok (.pop, 1) := by decide +kernel
theorem dX3_readBody_44 : decode cX3_readBody 44 = .ok (.aload_n 0, 1) := by decide +kernel
theorem dX3_readBody_45 : decode cX3_readBody 45 = .ok (.dup, 1) := by decide +kernel
theorem dX3_readBody_46 : decode cX3_readBody 46 = .ok (.getfield 19, 3) := by decide +kernel
theorem dX3_readBody_49 : decode cX3_readBody 49 = .ok (.iconst 1, 1) := by decide +kernel
theorem dX3_readBody_50 : decode cX3_readBody 50 = .ok (.iadd, 1) := by decide +kernel
theorem dX3_readBody_51 : decode cX3_readBody 51 = .ok (.putfield 19, 3) := by decide +kernel
theorem dX3_readBody_54 : decode cX3_readBody 54 = .ok (.iload_n 3, 1) := by decide +kernel
theorem dX3_readBody_55 : decode cX3_readBody 55 = .ok (.iload 5, 2) := by decide +kernel
theorem dX3_readBody_57 : decode cX3_readBody 57 = .ok (.invokestatic 67, 3) := by decide +kernel
theorem dX3_readBody_60 : decode cX3_readBody 60 = .ok (.iconst 1, 1) := by decide +kernel
theorem dX3_readBody_61 : decode cX3_readBody 61 = .ok (.isub, 1) := by decide +kernel
theorem dX3_readBody_62 : decode cX3_readBody 62 = .ok (.iadd, 1) := by decide +kernel
theorem dX3_readBody_63 : decode cX3_readBody 63 = .ok (.istore_n 3, 1) := by decide +kernel
theorem dX3_readBody_64 : decode cX3_readBody 64 = .ok (.iinc 4 1, 3) := by decide +kernel
theorem dX3_readBody_67 : decode cX3_readBody 67 = .ok (.goto (-58), 3) := by decide +kernel
theorem dX3_readBody_70 : decode cX3_readBody 70 = .ok (.iload_n 3, 1) := by decide +kernel
theorem dX3_readBody_71 : decode cX3_readBody 71 = .ok (.ifCond .ne 7, 3) := by decide +kernel
theorem dX3_readBody_74 : decode cX3_readBody 74 = .ok (.iconst 1, 1) := by decide +kernel
theorem dX3_readBody_75 : decode cX3_readBody 75 = .ok (.goto 4, 3) := by decide +kernel
theorem dX3_readBody_78 : decode cX3_readBody 78 = .ok (.iconst 0, 1) := by decide +kernel
theorem dX3_readBody_79 : decode cX3_readBody 79 = .ok (.ireturn, 1) := by decide +kernel
abbrev x_X3_readBody : Cx := (3, cX3_readBody, false, some (.boolean))
set_option maxRecDepth 10000 in
theorem g_X3_readBody_0 {E : Ev} {d : Nat} {G : Hp} {Q : Po} {x0 : Nat} {x1 : Int32} {x2 : Nat} (h : (rcv E G x2 2 = true ∧ (qCV E d i_X2_empty [.ref x2] G fun G1 => Xr E d x_X3_readBody 9 [some (.ref x0), some (.int x1), some (.ref x2), some (.int ((iv 1))), some (.int ((iv 0))), none] [] G1 Q))) : Xr E d x_X3_readBody 0 [some (.ref x0), some (.int x1), some (.ref x2), none, none, none] [] G Q := by
  refine r_aload_n dX3_readBody_0 rfl ?_
  refine r_cV dX3_readBody_1 rfl (invV_eq rfl rfl rfl rfl rfl rfl ⟨rfl, Nat.le_of_ble_eq_true rfl⟩ h.1) (qCV_imp (fun G1 h => ?_) h.2)
  refine r_iconst dX3_readBody_4 ?_
  refine r_istore_n dX3_readBody_5 rfl ?_
  refine r_iconst dX3_readBody_6 ?_
  refine r_istore dX3_readBody_7 rfl ?_
  exact h
theorem e_X3_readBody {E : Ev} {d : Nat} {G : Hp} {Q : Po} {x0 : Nat} {x1 : Int32} {x2 : Nat} (h : (rcv E G x2 2 = true ∧ (qCV E d i_X2_empty [.ref x2] G fun G1 => Xr E d x_X3_readBody 9 [some (.ref x0), some (.int x1), some (.ref x2), some (.int ((iv 1))), some (.int ((iv 0))), none] [] G1 Q))) : runs E (d + 1) i_X3_readBody [.ref x0, .int x1, .ref x2] G Q := by
  rw [runs_eq (m := (yX3_readBody, cX3_readBody, 6, some (.boolean), 2, 3, false, false)) rfl (Nat.le_of_ble_eq_true rfl)]
  exact g_X3_readBody_0 h
set_option maxRecDepth 10000 in
theorem g_X3_readBody_9 {E : Ev} {d : Nat} {G : Hp} {Q : Po} {x0 : Nat} {x1 : Int32} {x2 : Nat} {x3 : Int32} {x4 : Int32} {l5 : Option Value} (h : (if x3 ≤ 0 then (if ¬ x3 = 0 then Q (some (.int (iv 0))) G else Q (some (.int (iv 1))) G) else (if (iv 30) ≤ x4 then (if ¬ x3 = 0 then Q (some (.int (iv 0))) G else Q (some (.int (iv 1))) G) else (rcv E G x0 3 = true ∧ (qCI E d i_X3_symbolHere [.ref x0] G fun v2 G1 => (qCI E d i_X3_mayContain [.int x1, .int v2] G1 fun v4 G3 => (if ¬ v4 = 0 then (rcv E G3 x2 2 = true ∧ (qCI E d i_X2_add [.ref x2, .int v2] G3 fun v6 G5 => (qFI E G5 x0 3 2 fun v7 => (qP E G5 x0 3 2 (.int ((v7 + (iv 1)))) fun G8 => (qCI E d i_X6_arityOf [.int v2] G8 fun v10 G9 => Xr E d x_X3_readBody 9 [some (.ref x0), some (.int x1), some (.ref x2), some (.int ((x3 + (v10 - (iv 1))))), some (.int ((x4 + (iv 1)))), some (.int v2)] [] G9 Q))))) else Q (some (.int (iv 0))) G3))))))) : Xr E d x_X3_readBody 9 [some (.ref x0), some (.int x1), some (.ref x2), some (.int x3), some (.int x4), l5] [] G Q := by
  refine r_iload_n dX3_readBody_9 rfl ?_
  refine r_ifle (tgt := 70) dX3_readBody_10 (by decide) (ite_imp (fun h => ?_) (fun h => ?_) h)
  · refine r_iload_n dX3_readBody_70 rfl ?_
    refine r_ifne (tgt := 78) dX3_readBody_71 (by decide) (ite_imp (fun h => ?_) (fun h => ?_) h)
    · refine r_iconst dX3_readBody_78 ?_
      exact r_iret dX3_readBody_79 rfl ⟨rfl, h⟩
    · refine r_iconst dX3_readBody_74 ?_
      refine r_goto (tgt := 79) dX3_readBody_75 (by decide) ?_
      exact r_iret dX3_readBody_79 rfl ⟨rfl, h⟩
  · refine r_iload dX3_readBody_13 rfl ?_
    refine r_bipush dX3_readBody_15 rfl ?_
    refine r_cge (tgt := 70) dX3_readBody_17 (by decide) (ite_imp (fun h => ?_) (fun h => ?_) h)
    · refine r_iload_n dX3_readBody_70 rfl ?_
      refine r_ifne (tgt := 78) dX3_readBody_71 (by decide) (ite_imp (fun h => ?_) (fun h => ?_) h)
      · refine r_iconst dX3_readBody_78 ?_
        exact r_iret dX3_readBody_79 rfl ⟨rfl, h⟩
      · refine r_iconst dX3_readBody_74 ?_
        refine r_goto (tgt := 79) dX3_readBody_75 (by decide) ?_
        exact r_iret dX3_readBody_79 rfl ⟨rfl, h⟩
    · refine r_aload_n dX3_readBody_20 rfl ?_
      refine r_cI dX3_readBody_21 rfl (invV_eq rfl rfl rfl rfl rfl rfl ⟨rfl, Nat.le_of_ble_eq_true rfl⟩ h.1) (qCI_imp (fun v2 G1 h => ?_) h.2)
      refine r_istore dX3_readBody_24 rfl ?_
      refine r_iload_n dX3_readBody_26 rfl ?_
      refine r_iload dX3_readBody_27 rfl ?_
      refine r_cI dX3_readBody_29 rfl (invS_eq rfl (by decide) rfl rfl rfl rfl ⟨rfl, Nat.le_of_ble_eq_true rfl⟩) (qCI_imp (fun v4 G3 h => ?_) h)
      refine r_ifne (tgt := 37) dX3_readBody_32 (by decide) (ite_imp (fun h => ?_) (fun h => ?_) h)
      · refine r_aload_n dX3_readBody_37 rfl ?_
        refine r_iload dX3_readBody_38 rfl ?_
        refine r_cI dX3_readBody_40 rfl (invV_eq rfl rfl rfl rfl rfl rfl ⟨rfl, Nat.le_of_ble_eq_true rfl⟩ h.1) (qCI_imp (fun v6 G5 h => ?_) h.2)
        refine r_pop dX3_readBody_43 rfl ?_
        refine r_aload_n dX3_readBody_44 rfl ?_
        refine r_dup dX3_readBody_45 rfl ?_
        refine r_getI dX3_readBody_46 rfl (qFI_imp (fun v7 h => ?_) h)
        refine r_iconst dX3_readBody_49 ?_
        refine r_iadd dX3_readBody_50 ?_
        refine r_put dX3_readBody_51 rfl rfl (by decide) (qP_imp (fun G8 h => ?_) h)
        refine r_iload_n dX3_readBody_54 rfl ?_
        refine r_iload dX3_readBody_55 rfl ?_
        refine r_cI dX3_readBody_57 rfl (invS_eq rfl (by decide) rfl rfl rfl rfl ⟨rfl, Nat.le_of_ble_eq_true rfl⟩) (qCI_imp (fun v10 G9 h => ?_) h)
        refine r_iconst dX3_readBody_60 ?_
        refine r_isub dX3_readBody_61 ?_
        refine r_iadd dX3_readBody_62 ?_
        refine r_istore_n dX3_readBody_63 rfl ?_
        refine r_iinc dX3_readBody_64 rfl rfl ?_
        refine r_goto (tgt := 9) dX3_readBody_67 (by decide) ?_
        exact h
      · refine r_iconst dX3_readBody_35 ?_
        exact r_iret dX3_readBody_36 rfl ⟨rfl, h⟩
theorem dX3_mayContain_0 : decode cX3_mayContain 0 = .ok (.iload_n 1, 1) := by decide +kernel
theorem dX3_mayContain_1 : decode cX3_mayContain 1 = .ok (.bipush 8, 2) := by decide +kernel
theorem dX3_mayContain_3 : decode cX3_mayContain 3 = .ok (.if_icmp .ne 19, 3) := by decide +kernel
theorem dX3_mayContain_6 : decode cX3_mayContain 6 = .ok (.iconst 4, 1) := by decide +kernel
theorem dX3_mayContain_7 : decode cX3_mayContain 7 = .ok (.iload_n 0, 1) := by decide +kernel
theorem dX3_mayContain_8 : decode cX3_mayContain 8 = .ok (.iadd, 1) := by decide +kernel
theorem dX3_mayContain_9 : decode cX3_mayContain 9 = .ok (.invokestatic 67, 3) := by decide +kernel
theorem dX3_mayContain_12 : decode cX3_mayContain 12 = .ok (.iconst 1, 1) := by decide +kernel
theorem dX3_mayContain_13 : decode cX3_mayContain 13 = .ok (.if_icmp .lt 7, 3) := by decide +kernel
theorem dX3_mayContain_16 : decode cX3_mayContain 16 = .ok (.iconst 1, 1) := by decide +kernel
theorem dX3_mayContain_17 : decode cX3_mayContain 17 = .ok (.goto 4, 3) := by decide +kernel
theorem dX3_mayContain_20 : decode cX3_mayContain 20 = .ok (.iconst 0, 1) := by decide +kernel
theorem dX3_mayContain_21 : decode cX3_mayContain 21 = .ok (.ireturn, 1) := by decide +kernel
theorem dX3_mayContain_22 : decode cX3_mayContain 22 = .ok (.iload_n 1, 1) := by decide +kernel
theorem dX3_mayContain_23 : decode cX3_mayContain 23 = .ok (.bipush 9, 2) := by decide +kernel
theorem dX3_mayContain_25 : decode cX3_mayContain 25 = .ok (.if_icmp .ne 19, 3) := by decide +kernel
theorem dX3_mayContain_28 : decode cX3_mayContain 28 = .ok (.iconst 4, 1) := by decide +kernel
theorem dX3_mayContain_29 : decode cX3_mayContain 29 = .ok (.iload_n 0, 1) := by decide +kernel
theorem dX3_mayContain_30 : decode cX3_mayContain 30 = .ok (.iadd, 1) := by decide +kernel
theorem dX3_mayContain_31 : decode cX3_mayContain 31 = .ok (.invokestatic 67, 3) := by decide +kernel
theorem dX3_mayContain_34 : decode cX3_mayContain 34 = .ok (.iconst 2, 1) := by decide +kernel
theorem dX3_mayContain_35 : decode cX3_mayContain 35 = .ok (.if_icmp .lt 7, 3) := by decide +kernel
theorem dX3_mayContain_38 : decode cX3_mayContain 38 = .ok (.iconst 1, 1) := by decide +kernel
theorem dX3_mayContain_39 : decode cX3_mayContain 39 = .ok (.goto 4, 3) := by decide +kernel
theorem dX3_mayContain_42 : decode cX3_mayContain 42 = .ok (.iconst 0, 1) := by decide +kernel
theorem dX3_mayContain_43 : decode cX3_mayContain 43 = .ok (.ireturn, 1) := by decide +kernel
theorem dX3_mayContain_44 : decode cX3_mayContain 44 = .ok (.iload_n 1, 1) := by decide +kernel
theorem dX3_mayContain_45 : decode cX3_mayContain 45 = .ok (.iconst (-1), 1) := by decide +kernel
theorem dX3_mayContain_46 : decode cX3_mayContain 46 = .ok (.if_icmp .eq 7, 3) := by decide +kernel
theorem dX3_mayContain_49 : decode cX3_mayContain 49 = .ok (.iconst 1, 1) := by decide +kernel
theorem dX3_mayContain_50 : decode cX3_mayContain 50 = .ok (.goto 4, 3) := by decide +kernel
theorem dX3_mayContain_53 : decode cX3_mayContain 53 = .ok (.iconst 0, 1) := by decide +kernel
theorem dX3_mayContain_54 : decode cX3_mayContain 54 = .ok (.ireturn, 1) := by decide +kernel
abbrev x_X3_mayContain : Cx := (3, cX3_mayContain, false, some (.boolean))
set_option maxRecDepth 10000 in
theorem g_X3_mayContain_0 {E : Ev} {d : Nat} {G : Hp} {Q : Po} {x0 : Int32} {x1 : Int32} (h : (if ¬ x1 = (iv 8) then (if ¬ x1 = (iv 9) then (if x1 = (iv (-1)) then Q (some (.int (iv 0))) G else Q (some (.int (iv 1))) G) else (qCI E d i_X6_arityOf [.int (((iv 4) + x0))] G fun v2 G1 => (if v2 < (iv 2) then Q (some (.int (iv 0))) G1 else Q (some (.int (iv 1))) G1))) else (qCI E d i_X6_arityOf [.int (((iv 4) + x0))] G fun v4 G3 => (if v4 < (iv 1) then Q (some (.int (iv 0))) G3 else Q (some (.int (iv 1))) G3)))) : Xr E d x_X3_mayContain 0 [some (.int x0), some (.int x1)] [] G Q := by
  refine r_iload_n dX3_mayContain_0 rfl ?_
  refine r_bipush dX3_mayContain_1 rfl ?_
  refine r_cne (tgt := 22) dX3_mayContain_3 (by decide) (ite_imp (fun h => ?_) (fun h => ?_) h)
  · refine r_iload_n dX3_mayContain_22 rfl ?_
    refine r_bipush dX3_mayContain_23 rfl ?_
    refine r_cne (tgt := 44) dX3_mayContain_25 (by decide) (ite_imp (fun h => ?_) (fun h => ?_) h)
    · refine r_iload_n dX3_mayContain_44 rfl ?_
      refine r_iconst dX3_mayContain_45 ?_
      refine r_ceq (tgt := 53) dX3_mayContain_46 (by decide) (ite_imp (fun h => ?_) (fun h => ?_) h)
      · refine r_iconst dX3_mayContain_53 ?_
        exact r_iret dX3_mayContain_54 rfl ⟨rfl, h⟩
      · refine r_iconst dX3_mayContain_49 ?_
        refine r_goto (tgt := 54) dX3_mayContain_50 (by decide) ?_
        exact r_iret dX3_mayContain_54 rfl ⟨rfl, h⟩
    · refine r_iconst dX3_mayContain_28 ?_
      refine r_iload_n dX3_mayContain_29 rfl ?_
      refine r_iadd dX3_mayContain_30 ?_
      refine r_cI dX3_mayContain_31 rfl (invS_eq rfl (by decide) rfl rfl rfl rfl ⟨rfl, Nat.le_of_ble_eq_true rfl⟩) (qCI_imp (fun v2 G1 h => ?_) h)
      refine r_iconst dX3_mayContain_34 ?_
      refine r_clt (tgt := 42) dX3_mayContain_35 (by decide) (ite_imp (fun h => ?_) (fun h => ?_) h)
      · refine r_iconst dX3_mayContain_42 ?_
        exact r_iret dX3_mayContain_43 rfl ⟨rfl, h⟩
      · refine r_iconst dX3_mayContain_38 ?_
        refine r_goto (tgt := 43) dX3_mayContain_39 (by decide) ?_
        exact r_iret dX3_mayContain_43 rfl ⟨rfl, h⟩
  · refine r_iconst dX3_mayContain_6 ?_
    refine r_iload_n dX3_mayContain_7 rfl ?_
    refine r_iadd dX3_mayContain_8 ?_
    refine r_cI dX3_mayContain_9 rfl (invS_eq rfl (by decide) rfl rfl rfl rfl ⟨rfl, Nat.le_of_ble_eq_true rfl⟩) (qCI_imp (fun v4 G3 h => ?_) h)
    refine r_iconst dX3_mayContain_12 ?_
    refine r_clt (tgt := 20) dX3_mayContain_13 (by decide) (ite_imp (fun h => ?_) (fun h => ?_) h)
    · refine r_iconst dX3_mayContain_20 ?_
      exact r_iret dX3_mayContain_21 rfl ⟨rfl, h⟩
    · refine r_iconst dX3_mayContain_16 ?_
      refine r_goto (tgt := 21) dX3_mayContain_17 (by decide) ?_
      exact r_iret dX3_mayContain_21 rfl ⟨rfl, h⟩
theorem e_X3_mayContain {E : Ev} {d : Nat} {G : Hp} {Q : Po} {x0 : Int32} {x1 : Int32} (h : (if ¬ x1 = (iv 8) then (if ¬ x1 = (iv 9) then (if x1 = (iv (-1)) then Q (some (.int (iv 0))) G else Q (some (.int (iv 1))) G) else (qCI E d i_X6_arityOf [.int (((iv 4) + x0))] G fun v2 G1 => (if v2 < (iv 2) then Q (some (.int (iv 0))) G1 else Q (some (.int (iv 1))) G1))) else (qCI E d i_X6_arityOf [.int (((iv 4) + x0))] G fun v4 G3 => (if v4 < (iv 1) then Q (some (.int (iv 0))) G3 else Q (some (.int (iv 1))) G3)))) : runs E (d + 1) i_X3_mayContain [.int x0, .int x1] G Q := by
  rw [runs_eq (m := (yX3_mayContain, cX3_mayContain, 2, some (.boolean), 2, 3, false, true)) rfl (Nat.le_of_ble_eq_true rfl)]
  exact g_X3_mayContain_0 h
theorem dX3_skip_0 : decode cX3_skip 0 = .ok (.aload_n 0, 1) := by decide +kernel
theorem dX3_skip_1 : decode cX3_skip 1 = .ok (.invokevirtual 87, 3) := by decide +kernel
theorem dX3_skip_4 : decode cX3_skip 4 = .ok (.iload_n 1, 1) := by decide +kernel
theorem dX3_skip_5 : decode cX3_skip 5 = .ok (.if_icmp .eq 5, 3) := by decide +kernel
theorem dX3_skip_8 : decode cX3_skip 8 = .ok (.iconst 0, 1) := by decide +kernel
theorem dX3_skip_9 : decode cX3_skip 9 = .ok (.ireturn, 1) := by decide +kernel
theorem dX3_skip_10 : decode cX3_skip 10 = .ok (.aload_n 0, 1) := by decide +kernel
theorem dX3_skip_11 : decode cX3_skip 11 = .ok (.dup, 1) := by decide +kernel
theorem dX3_skip_12 : decode cX3_skip 12 = .ok (.getfield 19, 3) := by decide +kernel
theorem dX3_skip_15 : decode cX3_skip 15 = .ok (.iconst 1, 1) := by decide +kernel
theorem dX3_skip_16 : decode cX3_skip 16 = .ok (.iadd, 1) := by decide +kernel
theorem dX3_skip_17 : decode cX3_skip 17 = .ok (.putfield 19, 3) := by decide +kernel
theorem dX3_skip_20 : decode cX3_skip 20 = .ok (.iconst 1, 1) := by decide +kernel
theorem dX3_skip_21 : decode cX3_skip 21 = .ok (.ireturn, 1) := by decide +kernel
abbrev x_X3_skip : Cx := (3, cX3_skip, false, some (.boolean))
set_option maxRecDepth 10000 in
theorem g_X3_skip_0 {E : Ev} {d : Nat} {G : Hp} {Q : Po} {x0 : Nat} {x1 : Int32} (h : (rcv E G x0 3 = true ∧ (qCI E d i_X3_characterHere [.ref x0] G fun v2 G1 => (if v2 = x1 then (qFI E G1 x0 3 2 fun v3 => (qP E G1 x0 3 2 (.int ((v3 + (iv 1)))) fun G4 => Q (some (.int (iv 1))) G4)) else Q (some (.int (iv 0))) G1)))) : Xr E d x_X3_skip 0 [some (.ref x0), some (.int x1)] [] G Q := by
  refine r_aload_n dX3_skip_0 rfl ?_
  refine r_cI dX3_skip_1 rfl (invV_eq rfl rfl rfl rfl rfl rfl ⟨rfl, Nat.le_of_ble_eq_true rfl⟩ h.1) (qCI_imp (fun v2 G1 h => ?_) h.2)
  refine r_iload_n dX3_skip_4 rfl ?_
  refine r_ceq (tgt := 10) dX3_skip_5 (by decide) (ite_imp (fun h => ?_) (fun h => ?_) h)
  · refine r_aload_n dX3_skip_10 rfl ?_
    refine r_dup dX3_skip_11 rfl ?_
    refine r_getI dX3_skip_12 rfl (qFI_imp (fun v3 h => ?_) h)
    refine r_iconst dX3_skip_15 ?_
    refine r_iadd dX3_skip_16 ?_
    refine r_put dX3_skip_17 rfl rfl (by decide) (qP_imp (fun G4 h => ?_) h)
    refine r_iconst dX3_skip_20 ?_
    exact r_iret dX3_skip_21 rfl ⟨rfl, h⟩
  · refine r_iconst dX3_skip_8 ?_
    exact r_iret dX3_skip_9 rfl ⟨rfl, h⟩
theorem e_X3_skip {E : Ev} {d : Nat} {G : Hp} {Q : Po} {x0 : Nat} {x1 : Int32} (h : (rcv E G x0 3 = true ∧ (qCI E d i_X3_characterHere [.ref x0] G fun v2 G1 => (if v2 = x1 then (qFI E G1 x0 3 2 fun v3 => (qP E G1 x0 3 2 (.int ((v3 + (iv 1)))) fun G4 => Q (some (.int (iv 1))) G4)) else Q (some (.int (iv 0))) G1)))) : runs E (d + 1) i_X3_skip [.ref x0, .int x1] G Q := by
  rw [runs_eq (m := (yX3_skip, cX3_skip, 2, some (.boolean), 1, 3, false, false)) rfl (Nat.le_of_ble_eq_true rfl)]
  exact g_X3_skip_0 h
theorem dX3_characterHere_0 : decode cX3_characterHere 0 = .ok (.aload_n 0, 1) := by decide +kernel
theorem dX3_characterHere_1 : decode cX3_characterHere 1 = .ok (.getfield 19, 3) := by decide +kernel
theorem dX3_characterHere_4 : decode cX3_characterHere 4 = .ok (.ifCond .lt 26, 3) := by decide +kernel
theorem dX3_characterHere_7 : decode cX3_characterHere 7 = .ok (.aload_n 0, 1) := by decide +kernel
theorem dX3_characterHere_8 : decode cX3_characterHere 8 = .ok (.getfield 19, 3) := by decide +kernel
theorem dX3_characterHere_11 : decode cX3_characterHere 11 = .ok (.aload_n 0, 1) := by decide +kernel
theorem dX3_characterHere_12 : decode cX3_characterHere 12 = .ok (.getfield 15, 3) := by decide +kernel
theorem dX3_characterHere_15 : decode cX3_characterHere 15 = .ok (.if_icmp .ge 15, 3) := by decide +kernel
theorem dX3_characterHere_18 : decode cX3_characterHere 18 = .ok (.aload_n 0, 1) := by decide +kernel
theorem dX3_characterHere_19 : decode cX3_characterHere 19 = .ok (.getfield 9, 3) := by decide +kernel
theorem dX3_characterHere_22 : decode cX3_characterHere 22 = .ok (.aload_n 0, 1) := by decide +kernel
theorem dX3_characterHere_23 : decode cX3_characterHere 23 = .ok (.getfield 19, 3) := by decide +kernel
theorem dX3_characterHere_26 : decode cX3_characterHere 26 = .ok (.iaload, 1) := by decide +kernel
theorem dX3_characterHere_27 : decode cX3_characterHere 27 = .ok (.goto 4, 3) := by decide +kernel
theorem dX3_characterHere_30 : decode cX3_characterHere 30 = .ok (.iconst (-1), 1) := by decide +kernel
theorem dX3_characterHere_31 : decode cX3_characterHere 31 = .ok (.ireturn, 1) := by decide +kernel
abbrev x_X3_characterHere : Cx := (3, cX3_characterHere, false, some (.int))
set_option maxRecDepth 10000 in
theorem g_X3_characterHere_0 {E : Ev} {d : Nat} {G : Hp} {Q : Po} {x0 : Nat} (h : (qFI E G x0 3 2 fun v1 => (if v1 < 0 then Q (some (.int (iv (-1)))) G else (qFI E G x0 3 2 fun v2 => (qFI E G x0 3 1 fun v3 => (if v3 ≤ v2 then Q (some (.int (iv (-1)))) G else (qFR E G x0 3 0 fun v4 => (qFI E G x0 3 2 fun v5 => (qIA 3 E G v4 v5 fun v6 => Q (some (.int v6)) G))))))))) : Xr E d x_X3_characterHere 0 [some (.ref x0)] [] G Q := by
  refine r_aload_n dX3_characterHere_0 rfl ?_
  refine r_getI dX3_characterHere_1 rfl (qFI_imp (fun v1 h => ?_) h)
  refine r_iflt (tgt := 30) dX3_characterHere_4 (by decide) (ite_imp (fun h => ?_) (fun h => ?_) h)
  · refine r_iconst dX3_characterHere_30 ?_
    exact r_iret dX3_characterHere_31 rfl ⟨rfl, h⟩
  · refine r_aload_n dX3_characterHere_7 rfl ?_
    refine r_getI dX3_characterHere_8 rfl (qFI_imp (fun v2 h => ?_) h)
    refine r_aload_n dX3_characterHere_11 rfl ?_
    refine r_getI dX3_characterHere_12 rfl (qFI_imp (fun v3 h => ?_) h)
    refine r_cge (tgt := 30) dX3_characterHere_15 (by decide) (ite_imp (fun h => ?_) (fun h => ?_) h)
    · refine r_iconst dX3_characterHere_30 ?_
      exact r_iret dX3_characterHere_31 rfl ⟨rfl, h⟩
    · refine r_aload_n dX3_characterHere_18 rfl ?_
      refine r_getR dX3_characterHere_19 rfl (qFR_imp (fun v4 h => ?_) h)
      refine r_aload_n dX3_characterHere_22 rfl ?_
      refine r_getI dX3_characterHere_23 rfl (qFI_imp (fun v5 h => ?_) h)
      refine r_iald dX3_characterHere_26 (qIA_imp (fun v6 h => ?_) h)
      refine r_goto (tgt := 31) dX3_characterHere_27 (by decide) ?_
      exact r_iret dX3_characterHere_31 rfl ⟨rfl, h⟩
theorem e_X3_characterHere {E : Ev} {d : Nat} {G : Hp} {Q : Po} {x0 : Nat} (h : (qFI E G x0 3 2 fun v1 => (if v1 < 0 then Q (some (.int (iv (-1)))) G else (qFI E G x0 3 2 fun v2 => (qFI E G x0 3 1 fun v3 => (if v3 ≤ v2 then Q (some (.int (iv (-1)))) G else (qFR E G x0 3 0 fun v4 => (qFI E G x0 3 2 fun v5 => (qIA 3 E G v4 v5 fun v6 => Q (some (.int v6)) G))))))))) : runs E (d + 1) i_X3_characterHere [.ref x0] G Q := by
  rw [runs_eq (m := (yX3_characterHere, cX3_characterHere, 1, some (.int), 0, 3, false, false)) rfl (Nat.le_of_ble_eq_true rfl)]
  exact g_X3_characterHere_0 h
theorem dX3_symbolHere_0 : decode cX3_symbolHere 0 = .ok (.aload_n 0, 1) := by decide +kernel
theorem dX3_symbolHere_1 : decode cX3_symbolHere 1 = .ok (.invokevirtual 87, 3) := by decide +kernel
theorem dX3_symbolHere_4 : decode cX3_symbolHere 4 = .ok (.istore_n 1, 1) := by decide +kernel
theorem dX3_symbolHere_5 : decode cX3_symbolHere 5 = .ok (.iload_n 1, 1) := by decide +kernel
theorem dX3_symbolHere_6 : decode cX3_symbolHere 6 = .ok (.iconst (-1), 1) := by decide +kernel
theorem dX3_symbolHere_7 : decode cX3_symbolHere 7 = .ok (.if_icmp .ne 7, 3) := by decide +kernel
theorem dX3_symbolHere_10 : decode cX3_symbolHere 10 = .ok (.iconst (-1), 1) := by decide +kernel
theorem dX3_symbolHere_11 : decode cX3_symbolHere 11 = .ok (.goto 10, 3) := by decide +kernel
theorem dX3_symbolHere_14 : decode cX3_symbolHere 14 = .ok (.ldc 90, 2) := by decide +kernel
theorem dX3_symbolHere_16 : decode cX3_symbolHere 16 = .ok (.iload_n 1, 1) := by decide +kernel
theorem dX3_symbolHere_17 : decode cX3_symbolHere 17 = .ok (.i2c, 1) := by decide +kernel
theorem dX3_symbolHere_18 : decode cX3_symbolHere 18 = .ok (.invokevirtual 92, 3) := by decide +kernel
theorem dX3_symbolHere_21 : decode cX3_symbolHere 21 = .ok (.ireturn, 1) := by decide +kernel
abbrev x_X3_symbolHere : Cx := (3, cX3_symbolHere, false, some (.int))
set_option maxRecDepth 10000 in
theorem g_X3_symbolHere_0 {E : Ev} {d : Nat} {G : Hp} {Q : Po} {x0 : Nat} (h : (rcv E G x0 3 = true ∧ (qCI E d i_X3_characterHere [.ref x0] G fun v2 G1 => (if ¬ v2 = (iv (-1)) then (rcv E G1 (eS E) 9 = true ∧ (qCI E d i_J0_indexOf_0f7a4 [.ref ((eS E)), .int ((((v2).toUInt32 % 65536).toInt32))] G1 fun v4 G3 => Q (some (.int v4)) G3)) else Q (some (.int (iv (-1)))) G1)))) : Xr E d x_X3_symbolHere 0 [some (.ref x0), none] [] G Q := by
  refine r_aload_n dX3_symbolHere_0 rfl ?_
  refine r_cI dX3_symbolHere_1 rfl (invV_eq rfl rfl rfl rfl rfl rfl ⟨rfl, Nat.le_of_ble_eq_true rfl⟩ h.1) (qCI_imp (fun v2 G1 h => ?_) h.2)
  refine r_istore_n dX3_symbolHere_4 rfl ?_
  refine r_iload_n dX3_symbolHere_5 rfl ?_
  refine r_iconst dX3_symbolHere_6 ?_
  refine r_cne (tgt := 14) dX3_symbolHere_7 (by decide) (ite_imp (fun h => ?_) (fun h => ?_) h)
  · refine r_ldcS dX3_symbolHere_14 rfl ?_
    refine r_iload_n dX3_symbolHere_16 rfl ?_
    refine r_i2c dX3_symbolHere_17 ?_
    refine r_cI dX3_symbolHere_18 rfl (invV_eq rfl rfl rfl rfl rfl rfl ⟨rfl, Nat.le_of_ble_eq_true rfl⟩ h.1) (qCI_imp (fun v4 G3 h => ?_) h.2)
    exact r_iret dX3_symbolHere_21 rfl ⟨rfl, h⟩
  · refine r_iconst dX3_symbolHere_10 ?_
    refine r_goto (tgt := 21) dX3_symbolHere_11 (by decide) ?_
    exact r_iret dX3_symbolHere_21 rfl ⟨rfl, h⟩
theorem e_X3_symbolHere {E : Ev} {d : Nat} {G : Hp} {Q : Po} {x0 : Nat} (h : (rcv E G x0 3 = true ∧ (qCI E d i_X3_characterHere [.ref x0] G fun v2 G1 => (if ¬ v2 = (iv (-1)) then (rcv E G1 (eS E) 9 = true ∧ (qCI E d i_J0_indexOf_0f7a4 [.ref ((eS E)), .int ((((v2).toUInt32 % 65536).toInt32))] G1 fun v4 G3 => Q (some (.int v4)) G3)) else Q (some (.int (iv (-1)))) G1)))) : runs E (d + 1) i_X3_symbolHere [.ref x0] G Q := by
  rw [runs_eq (m := (yX3_symbolHere, cX3_symbolHere, 2, some (.int), 0, 3, false, false)) rfl (Nat.le_of_ble_eq_true rfl)]
  exact g_X3_symbolHere_0 h
theorem dX3_stateHere_0 : decode cX3_stateHere 0 = .ok (.aload_n 0, 1) := by decide +kernel
theorem dX3_stateHere_1 : decode cX3_stateHere 1 = .ok (.invokevirtual 87, 3) := by decide +kernel
theorem dX3_stateHere_4 : decode cX3_stateHere 4 = .ok (.bipush 48, 2) := by decide +kernel
theorem dX3_stateHere_6 : decode cX3_stateHere 6 = .ok (.isub, 1) := by decide +kernel
theorem dX3_stateHere_7 : decode cX3_stateHere 7 = .ok (.ireturn, 1) := by decide +kernel
abbrev x_X3_stateHere : Cx := (3, cX3_stateHere, false, some (.int))
set_option maxRecDepth 10000 in
theorem g_X3_stateHere_0 {E : Ev} {d : Nat} {G : Hp} {Q : Po} {x0 : Nat} (h : (rcv E G x0 3 = true ∧ (qCI E d i_X3_characterHere [.ref x0] G fun v2 G1 => Q (some (.int (v2 - (iv 48)))) G1))) : Xr E d x_X3_stateHere 0 [some (.ref x0)] [] G Q := by
  refine r_aload_n dX3_stateHere_0 rfl ?_
  refine r_cI dX3_stateHere_1 rfl (invV_eq rfl rfl rfl rfl rfl rfl ⟨rfl, Nat.le_of_ble_eq_true rfl⟩ h.1) (qCI_imp (fun v2 G1 h => ?_) h.2)
  refine r_bipush dX3_stateHere_4 rfl ?_
  refine r_isub dX3_stateHere_6 ?_
  exact r_iret dX3_stateHere_7 rfl ⟨rfl, h⟩
theorem e_X3_stateHere {E : Ev} {d : Nat} {G : Hp} {Q : Po} {x0 : Nat} (h : (rcv E G x0 3 = true ∧ (qCI E d i_X3_characterHere [.ref x0] G fun v2 G1 => Q (some (.int (v2 - (iv 48)))) G1))) : runs E (d + 1) i_X3_stateHere [.ref x0] G Q := by
  rw [runs_eq (m := (yX3_stateHere, cX3_stateHere, 1, some (.int), 0, 3, false, false)) rfl (Nat.le_of_ble_eq_true rfl)]
  exact g_X3_stateHere_0 h
