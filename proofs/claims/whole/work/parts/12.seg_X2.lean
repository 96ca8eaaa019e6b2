/-! segments, by program (wip/whole/gen/seg.py) -/
theorem dX2_init_0 : decode cX2_init 0 = .ok (.aload_n 0, 1) := by decide +kernel
theorem dX2_init_1 : decode cX2_init 1 = .ok (.invokespecial 3, 3) := by decide +kernel
theorem dX2_init_4 : decode cX2_init 4 = .ok (.aload_n 0, 1) := by decide +kernel
theorem dX2_init_5 : decode cX2_init 5 = .ok (.iload_n 1, 1) := by decide +kernel
theorem dX2_init_6 : decode cX2_init 6 = .ok (.iconst 1, 1) := by decide +kernel
theorem dX2_init_7 : decode cX2_init 7 = .ok (.invokestatic 9, 3) := by decide +kernel
theorem dX2_init_10 : decode cX2_init 10 = .ok (.newarray .byte, 2) := by decide +kernel
theorem dX2_init_12 : decode cX2_init 12 = .ok (.putfield 15, 3) := by decide +kernel
theorem dX2_init_15 : decode cX2_init 15 = .ok (.aload_n 0, 1) := by decide +kernel
theorem dX2_init_16 : decode cX2_init 16 = .ok (.iconst 0, 1) := by decide +kernel
theorem dX2_init_17 : decode cX2_init 17 = .ok (.putfield 21, 3) := by decide +kernel
theorem dX2_init_20 : decode cX2_init 20 = .ok (.return_, 1) := by decide +kernel
abbrev x_X2_init : Cx := (2, cX2_init, true, none)
set_option maxRecDepth 10000 in
theorem g_X2_init_0 {E : Ev} {d : Nat} {G : Hp} {Q : Po} {x0 : Nat} {x1 : Int32} (h : ((¬ (imax x1 (iv 1)) < 0 ∧ ((imax x1 (iv 1))).toNatClampNeg ≤ 100000) ∧ (qP E (psh G (cA 1 ((imax x1 (iv 1))).toNatClampNeg (fun _ => 0)) ((imax x1 (iv 1))).toNatClampNeg) x0 2 0 (.ref ((nxA E G))) fun G1 => (qP E G1 x0 2 1 (.int ((iv 0))) fun G2 => Q none G2)))) : Xr E d x_X2_init 0 [some (.ref x0), some (.int x1)] [] G Q := by
  refine r_aload_n dX2_init_0 rfl ?_
  refine r_oinit dX2_init_1 rfl (Nat.le_of_ble_eq_true rfl) ?_
  refine r_aload_n dX2_init_4 rfl ?_
  refine r_iload_n dX2_init_5 rfl ?_
  refine r_iconst dX2_init_6 ?_
  refine r_max dX2_init_7 rfl (Nat.le_of_ble_eq_true rfl) ?_
  refine r_newB dX2_init_10 ⟨h.1, ?_⟩
  replace h := h.2
  refine r_put dX2_init_12 rfl rfl (by decide) (qP_imp (fun G1 h => ?_) h)
  refine r_aload_n dX2_init_15 rfl ?_
  refine r_iconst dX2_init_16 ?_
  refine r_put dX2_init_17 rfl rfl (by decide) (qP_imp (fun G2 h => ?_) h)
  exact r_vret dX2_init_20 rfl h
theorem e_X2_init {E : Ev} {d : Nat} {G : Hp} {Q : Po} {x0 : Nat} {x1 : Int32} (h : ((¬ (imax x1 (iv 1)) < 0 ∧ ((imax x1 (iv 1))).toNatClampNeg ≤ 100000) ∧ (qP E (psh G (cA 1 ((imax x1 (iv 1))).toNatClampNeg (fun _ => 0)) ((imax x1 (iv 1))).toNatClampNeg) x0 2 0 (.ref ((nxA E G))) fun G1 => (qP E G1 x0 2 1 (.int ((iv 0))) fun G2 => Q none G2)))) : runs E (d + 1) i_X2_init [.ref x0, .int x1] G Q := by
  rw [runs_eq (m := (yX2_init, cX2_init, 2, none, 1, 2, true, false)) rfl (Nat.le_of_ble_eq_true rfl)]
  exact g_X2_init_0 h
theorem dX2_size_0 : decode cX2_size 0 = .ok (.aload_n 0, 1) := by decide +kernel
theorem dX2_size_1 : decode cX2_size 1 = .ok (.getfield 21, 3) := by decide +kernel
theorem dX2_size_4 : decode cX2_size 4 = .ok (.ireturn, 1) := by decide +kernel
abbrev x_X2_size : Cx := (2, cX2_size, false, some (.int))
set_option maxRecDepth 10000 in
theorem g_X2_size_0 {E : Ev} {d : Nat} {G : Hp} {Q : Po} {x0 : Nat} (h : (qFI E G x0 2 1 fun v1 => Q (some (.int v1)) G)) : Xr E d x_X2_size 0 [some (.ref x0)] [] G Q := by
  refine r_aload_n dX2_size_0 rfl ?_
  refine r_getI dX2_size_1 rfl (qFI_imp (fun v1 h => ?_) h)
  exact r_iret dX2_size_4 rfl ⟨rfl, h⟩
theorem e_X2_size {E : Ev} {d : Nat} {G : Hp} {Q : Po} {x0 : Nat} (h : (qFI E G x0 2 1 fun v1 => Q (some (.int v1)) G)) : runs E (d + 1) i_X2_size [.ref x0] G Q := by
  rw [runs_eq (m := (yX2_size, cX2_size, 1, some (.int), 0, 2, false, false)) rfl (Nat.le_of_ble_eq_true rfl)]
  exact g_X2_size_0 h
theorem dX2_holds_0 : decode cX2_holds 0 = .ok (.iload_n 1, 1) := by decide +kernel
theorem dX2_holds_1 : decode cX2_holds 1 = .ok (.ifCond .lt 15, 3) := by decide +kernel
theorem dX2_holds_4 : decode cX2_holds 4 = .ok (.iload_n 1, 1) := by decide +kernel
theorem dX2_holds_5 : decode cX2_holds 5 = .ok (.aload_n 0, 1) := by decide +kernel
theorem dX2_holds_6 : decode cX2_holds 6 = .ok (.getfield 21, 3) := by decide +kernel
theorem dX2_holds_9 : decode cX2_holds 9 = .ok (.if_icmp .ge 7, 3) := by decide +kernel
theorem dX2_holds_12 : decode cX2_holds 12 = .ok (.iconst 1, 1) := by decide +kernel
theorem dX2_holds_13 : decode cX2_holds 13 = .ok (.goto 4, 3) := by decide +kernel
theorem dX2_holds_16 : decode cX2_holds 16 = .ok (.iconst 0, 1) := by decide +kernel
theorem dX2_holds_17 : decode cX2_holds 17 = .ok (.ireturn, 1) := by decide +kernel
abbrev x_X2_holds : Cx := (2, cX2_holds, false, some (.boolean))
set_option maxRecDepth 10000 in
theorem g_X2_holds_0 {E : Ev} {d : Nat} {G : Hp} {Q : Po} {x0 : Nat} {x1 : Int32} (h : (if x1 < 0 then Q (some (.int (iv 0))) G else (qFI E G x0 2 1 fun v1 => (if v1 ≤ x1 then Q (some (.int (iv 0))) G else Q (some (.int (iv 1))) G)))) : Xr E d x_X2_holds 0 [some (.ref x0), some (.int x1)] [] G Q := by
  refine r_iload_n dX2_holds_0 rfl ?_
  refine r_iflt (tgt := 16) dX2_holds_1 (by decide) (ite_imp (fun h => ?_) (fun h => ?_) h)
  · refine r_iconst dX2_holds_16 ?_
    exact r_iret dX2_holds_17 rfl ⟨rfl, h⟩
  · refine r_iload_n dX2_holds_4 rfl ?_
    refine r_aload_n dX2_holds_5 rfl ?_
    refine r_getI dX2_holds_6 rfl (qFI_imp (fun v1 h => ?_) h)
    refine r_cge (tgt := 16) dX2_holds_9 (by decide) (ite_imp (fun h => ?_) (fun h => ?_) h)
    · refine r_iconst dX2_holds_16 ?_
      exact r_iret dX2_holds_17 rfl ⟨rfl, h⟩
    · refine r_iconst dX2_holds_12 ?_
      refine r_goto (tgt := 17) dX2_holds_13 (by decide) ?_
      exact r_iret dX2_holds_17 rfl ⟨rfl, h⟩
theorem e_X2_holds {E : Ev} {d : Nat} {G : Hp} {Q : Po} {x0 : Nat} {x1 : Int32} (h : (if x1 < 0 then Q (some (.int (iv 0))) G else (qFI E G x0 2 1 fun v1 => (if v1 ≤ x1 then Q (some (.int (iv 0))) G else Q (some (.int (iv 1))) G)))) : runs E (d + 1) i_X2_holds [.ref x0, .int x1] G Q := by
  rw [runs_eq (m := (yX2_holds, cX2_holds, 2, some (.boolean), 1, 2, false, false)) rfl (Nat.le_of_ble_eq_true rfl)]
  exact g_X2_holds_0 h
theorem dX2_symbol_0 : decode cX2_symbol 0 = .ok (.aload_n 0, 1) := by decide +kernel
theorem dX2_symbol_1 : decode cX2_symbol 1 = .ok (.iload_n 1, 1) := by decide +kernel
theorem dX2_symbol_2 : decode cX2_symbol 2 = .ok (.invokevirtual 25, 3) := by decide +kernel
theorem dX2_symbol_5 : decode cX2_symbol 5 = .ok (.ifCond .eq 12, 3) := by decide +kernel
theorem dX2_symbol_8 : decode cX2_symbol 8 = .ok (.aload_n 0, 1) := by decide +kernel
theorem dX2_symbol_9 : decode cX2_symbol 9 = .ok (.getfield 15, 3) := by decide +kernel
theorem dX2_symbol_12 : decode cX2_symbol 12 = .ok (.iload_n 1, 1) := by decide +kernel
theorem dX2_symbol_13 : decode cX2_symbol 13 = .ok (.baload, 1) := by decide +kernel
theorem dX2_symbol_14 : decode cX2_symbol 14 = .ok (.goto 4, 3) := by decide +kernel
theorem dX2_symbol_17 : decode cX2_symbol 17 = .ok (.iconst (-1), 1) := by decide +kernel
theorem dX2_symbol_18 : decode cX2_symbol 18 = .ok (.ireturn, 1) := by decide +kernel
abbrev x_X2_symbol : Cx := (2, cX2_symbol, false, some (.int))
set_option maxRecDepth 10000 in
theorem g_X2_symbol_0 {E : Ev} {d : Nat} {G : Hp} {Q : Po} {x0 : Nat} {x1 : Int32} (h : (rcv E G x0 2 = true ∧ (qCI E d i_X2_holds [.ref x0, .int x1] G fun v2 G1 => (if v2 = 0 then Q (some (.int (iv (-1)))) G1 else (qFR E G1 x0 2 0 fun v3 => (qBA E G1 v3 x1 fun v4 => Q (some (.int v4)) G1)))))) : Xr E d x_X2_symbol 0 [some (.ref x0), some (.int x1)] [] G Q := by
  refine r_aload_n dX2_symbol_0 rfl ?_
  refine r_iload_n dX2_symbol_1 rfl ?_
  refine r_cI dX2_symbol_2 rfl (invV_eq rfl rfl rfl rfl rfl rfl ⟨rfl, Nat.le_of_ble_eq_true rfl⟩ h.1) (qCI_imp (fun v2 G1 h => ?_) h.2)
  refine r_ifeq (tgt := 17) dX2_symbol_5 (by decide) (ite_imp (fun h => ?_) (fun h => ?_) h)
  · refine r_iconst dX2_symbol_17 ?_
    exact r_iret dX2_symbol_18 rfl ⟨rfl, h⟩
  · refine r_aload_n dX2_symbol_8 rfl ?_
    refine r_getR dX2_symbol_9 rfl (qFR_imp (fun v3 h => ?_) h)
    refine r_iload_n dX2_symbol_12 rfl ?_
    refine r_bald dX2_symbol_13 (qBA_imp (fun v4 h => ?_) h)
    refine r_goto (tgt := 18) dX2_symbol_14 (by decide) ?_
    exact r_iret dX2_symbol_18 rfl ⟨rfl, h⟩
theorem e_X2_symbol {E : Ev} {d : Nat} {G : Hp} {Q : Po} {x0 : Nat} {x1 : Int32} (h : (rcv E G x0 2 = true ∧ (qCI E d i_X2_holds [.ref x0, .int x1] G fun v2 G1 => (if v2 = 0 then Q (some (.int (iv (-1)))) G1 else (qFR E G1 x0 2 0 fun v3 => (qBA E G1 v3 x1 fun v4 => Q (some (.int v4)) G1)))))) : runs E (d + 1) i_X2_symbol [.ref x0, .int x1] G Q := by
  rw [runs_eq (m := (yX2_symbol, cX2_symbol, 2, some (.int), 1, 2, false, false)) rfl (Nat.le_of_ble_eq_true rfl)]
  exact g_X2_symbol_0 h
theorem dX2_empty_0 : decode cX2_empty 0 = .ok (.aload_n 0, 1) := by decide +kernel
theorem dX2_empty_1 : decode cX2_empty 1 = .ok (.iconst 0, 1) := by decide +kernel
theorem dX2_empty_2 : decode cX2_empty 2 = .ok (.putfield 21, 3) := by decide +kernel
theorem dX2_empty_5 : decode cX2_empty 5 = .ok (.return_, 1) := by decide +kernel
abbrev x_X2_empty : Cx := (2, cX2_empty, false, none)
set_option maxRecDepth 10000 in
theorem g_X2_empty_0 {E : Ev} {d : Nat} {G : Hp} {Q : Po} {x0 : Nat} (h : (qP E G x0 2 1 (.int ((iv 0))) fun G1 => Q none G1)) : Xr E d x_X2_empty 0 [some (.ref x0)] [] G Q := by
  refine r_aload_n dX2_empty_0 rfl ?_
  refine r_iconst dX2_empty_1 ?_
  refine r_put dX2_empty_2 rfl rfl (by decide) (qP_imp (fun G1 h => ?_) h)
  exact r_vret dX2_empty_5 rfl h
theorem e_X2_empty {E : Ev} {d : Nat} {G : Hp} {Q : Po} {x0 : Nat} (h : (qP E G x0 2 1 (.int ((iv 0))) fun G1 => Q none G1)) : runs E (d + 1) i_X2_empty [.ref x0] G Q := by
  rw [runs_eq (m := (yX2_empty, cX2_empty, 1, none, 0, 2, false, false)) rfl (Nat.le_of_ble_eq_true rfl)]
  exact g_X2_empty_0 h
theorem dX2_add_0 : decode cX2_add 0 = .ok (.aload_n 0, 1) := by decide +kernel
theorem dX2_add_1 : decode cX2_add 1 = .ok (.getfield 21, 3) := by decide +kernel
theorem dX2_add_4 : decode cX2_add 4 = .ok (.aload_n 0, 1) := by decide +kernel
theorem dX2_add_5 : decode cX2_add 5 = .ok (.getfield 15, 3) := by decide +kernel
theorem dX2_add_8 : decode cX2_add 8 = .ok (.arraylength, 1) := by decide +kernel
theorem dX2_add_9 : decode cX2_add 9 = .ok (.if_icmp .lt 5, 3) := by decide +kernel
theorem dX2_add_12 : decode cX2_add 12 = .ok (.iconst 0, 1) := by decide +kernel
theorem dX2_add_13 : decode cX2_add 13 = .ok (.ireturn, 1) := by decide +kernel
theorem dX2_add_14 : decode cX2_add 14 = .ok (.aload_n 0, 1) := by decide +kernel
theorem dX2_add_15 : decode cX2_add 15 = .ok (.getfield 15, 3) := by decide +kernel
theorem dX2_add_18 : decode cX2_add 18 = .ok (.aload_n 0, 1) := by decide +kernel
theorem dX2_add_19 : decode cX2_add 19 = .ok (.getfield 21, 3) := by decide +kernel
theorem dX2_add_22 : decode cX2_add 22 = .ok (.iload_n 1, 1) := by decide +kernel
theorem dX2_add_23 : decode cX2_add 23 = .ok (.i2b, 1) := by decide +kernel
theorem dX2_add_24 : decode cX2_add 24 = .ok (.bastore, 1) := by decide +kernel
theorem dX2_add_25 : decode cX2_add 25 = .ok (.aload_n 0, 1) := by decide +kernel
theorem dX2_add_26 : decode cX2_add 26 = .ok (.dup, 1) := by decide +kernel
theorem dX2_add_27 : decode cX2_add 27 = .ok (.getfield 21, 3) := by decide +kernel
theorem dX2_add_30 : decode cX2_add 30 = .ok (.iconst 1, 1) := by decide +kernel
theorem dX2_add_31 : decode cX2_add 31 = .ok (.iadd, 1) := by decide +kernel
theorem dX2_add_32 : decode cX2_add 32 = .ok (.putfield 21, 3) := by decide +kernel
theorem dX2_add_35 : decode cX2_add 35 = .ok (.iconst 1, 1) := by decide +kernel
theorem dX2_add_36 : decode cX2_add 36 = .ok (.ireturn, 1) := by decide +kernel
abbrev x_X2_add : Cx := (2, cX2_add, false, some (.boolean))
set_option maxRecDepth 10000 in
theorem g_X2_add_0 {E : Ev} {d : Nat} {G : Hp} {Q : Po} {x0 : Nat} {x1 : Int32} (h : (qFI E G x0 2 1 fun v1 => (qFR E G x0 2 0 fun v2 => (qL 2 E G v2 fun v3 => (if v1 < v3 then (qFR E G x0 2 0 fun v4 => (qFI E G x0 2 1 fun v5 => (qBS E G v4 v5 ((x1).toInt8.toInt32) fun G6 => (qFI E G6 x0 2 1 fun v7 => (qP E G6 x0 2 1 (.int ((v7 + (iv 1)))) fun G8 => Q (some (.int (iv 1))) G8))))) else Q (some (.int (iv 0))) G))))) : Xr E d x_X2_add 0 [some (.ref x0), some (.int x1)] [] G Q := by
  refine r_aload_n dX2_add_0 rfl ?_
  refine r_getI dX2_add_1 rfl (qFI_imp (fun v1 h => ?_) h)
  refine r_aload_n dX2_add_4 rfl ?_
  refine r_getR dX2_add_5 rfl (qFR_imp (fun v2 h => ?_) h)
  refine r_alen dX2_add_8 (qL_imp (fun v3 h => ?_) h)
  refine r_clt (tgt := 14) dX2_add_9 (by decide) (ite_imp (fun h => ?_) (fun h => ?_) h)
  · refine r_aload_n dX2_add_14 rfl ?_
    refine r_getR dX2_add_15 rfl (qFR_imp (fun v4 h => ?_) h)
    refine r_aload_n dX2_add_18 rfl ?_
    refine r_getI dX2_add_19 rfl (qFI_imp (fun v5 h => ?_) h)
    refine r_iload_n dX2_add_22 rfl ?_
    refine r_i2b dX2_add_23 ?_
    refine r_bast dX2_add_24 (qBS_imp (fun G6 h => ?_) h)
    refine r_aload_n dX2_add_25 rfl ?_
    refine r_dup dX2_add_26 rfl ?_
    refine r_getI dX2_add_27 rfl (qFI_imp (fun v7 h => ?_) h)
    refine r_iconst dX2_add_30 ?_
    refine r_iadd dX2_add_31 ?_
    refine r_put dX2_add_32 rfl rfl (by decide) (qP_imp (fun G8 h => ?_) h)
    refine r_iconst dX2_add_35 ?_
    exact r_iret dX2_add_36 rfl ⟨rfl, h⟩
  · refine r_iconst dX2_add_12 ?_
    exact r_iret dX2_add_13 rfl ⟨rfl, h⟩
theorem e_X2_add {E : Ev} {d : Nat} {G : Hp} {Q : Po} {x0 : Nat} {x1 : Int32} (h : (qFI E G x0 2 1 fun v1 => (qFR E G x0 2 0 fun v2 => (qL 2 E G v2 fun v3 => (if v1 < v3 then (qFR E G x0 2 0 fun v4 => (qFI E G x0 2 1 fun v5 => (qBS E G v4 v5 ((x1).toInt8.toInt32) fun G6 => (qFI E G6 x0 2 1 fun v7 => (qP E G6 x0 2 1 (.int ((v7 + (iv 1)))) fun G8 => Q (some (.int (iv 1))) G8))))) else Q (some (.int (iv 0))) G))))) : runs E (d + 1) i_X2_add [.ref x0, .int x1] G Q := by
  rw [runs_eq (m := (yX2_add, cX2_add, 2, some (.boolean), 1, 2, false, false)) rfl (Nat.le_of_ble_eq_true rfl)]
  exact g_X2_add_0 h
theorem dX2_addPart_0 : decode cX2_addPart 0 = .ok (.iload_n 3, 1) := by decide +kernel
theorem dX2_addPart_1 : decode cX2_addPart 1 = .ok (.iload_n 2, 1) := by decide +kernel
theorem dX2_addPart_2 : decode cX2_addPart 2 = .ok (.isub, 1) := by decide +kernel
theorem dX2_addPart_3 : decode cX2_addPart 3 = .ok (.istore 4, 2) := by decide +kernel
theorem dX2_addPart_5 : decode cX2_addPart 5 = .ok (.iload_n 2, 1) := by decide +kernel
theorem dX2_addPart_6 : decode cX2_addPart 6 = .ok (.ifCond .lt 31, 3) := by decide +kernel
theorem dX2_addPart_9 : decode cX2_addPart 9 = .ok (.iload 4, 2) := by decide +kernel
theorem dX2_addPart_11 : decode cX2_addPart 11 = .ok (.ifCond .lt 26, 3) := by decide +kernel
theorem dX2_addPart_14 : decode cX2_addPart 14 = .ok (.iload_n 3, 1) := by decide +kernel
theorem dX2_addPart_15 : decode cX2_addPart 15 = .ok (.aload_n 1, 1) := by decide +kernel
theorem dX2_addPart_16 : decode cX2_addPart 16 = .ok (.getfield 21, 3) := by decide +kernel
theorem dX2_addPart_19 : decode cX2_addPart 19 = .ok (.if_icmp .gt 18, 3) := by decide +kernel
theorem dX2_addPart_22 : decode cX2_addPart 22 = .ok (.iload 4, 2) := by decide +kernel
theorem dX2_addPart_24 : decode cX2_addPart 24 = .ok (.aload_n 0, 1) := by decide +kernel
theorem dX2_addPart_25 : decode cX2_addPart 25 = .ok (.getfield 15, 3) := by decide +kernel
theorem dX2_addPart_28 : decode cX2_addPart 28 = .ok (.arraylength, 1) := by decide +kernel
theorem dX2_addPart_29 : decode cX2_addPart 29 = .ok (.aload_n 0, 1) := by decide +kernel
theorem dX2_addPart_30 : decode cX2_addPart 30 = .ok (.getfield 21, 3) := by decide +kernel
theorem dX2_addPart_33 : decode cX2_addPart 33 = .ok (.isub, 1) := by decide +kernel
theorem dX2_addPart_34 : decode cX2_addPart 34 = .ok (.if_icmp .le 5, 3) := by decide +kernel
theorem dX2_addPart_37 : decode cX2_addPart 37 = .ok (.iconst 0, 1) := by decide +kernel
theorem dX2_addPart_38 : decode cX2_addPart 38 = .ok (.ireturn, 1) := by decide +kernel
theorem dX2_addPart_39 : decode cX2_addPart 39 = .ok (.aload_n 1, 1) := by decide +kernel
theorem dX2_addPart_40 : decode cX2_addPart 40 = .ok (.getfield 15, 3) := by decide +kernel
theorem dX2_addPart_43 : decode cX2_addPart 43 = .ok (.iload_n 2, 1) := by decide +kernel
theorem dX2_addPart_44 : decode cX2_addPart 44 = .ok (.aload_n 0, 1) := by decide +kernel
theorem dX2_addPart_45 : decode cX2_addPart 45 = .ok (.getfield 15, 3) := by decide +kernel
theorem dX2_addPart_48 : decode cX2_addPart 48 = .ok (.aload_n 0, 1) := by decide +kernel
theorem dX2_addPart_49 : decode cX2_addPart 49 = .ok (.getfield 21, 3) := by decide +kernel
theorem dX2_addPart_52 : decode cX2_addPart 52 = .ok (.iload 4, 2) := by decide +kernel
theorem dX2_addPart_54 : decode cX2_addPart 54 = .ok (.invokestatic 29, 3) := by decide +kernel
theorem dX2_addPart_57 : decode cX2_addPart 57 = .ok (.aload_n 0, 1) := by decide +kernel
theorem dX2_addPart_58 : decode cX2_addPart 58 = .ok (.dup, 1) := by decide +kernel
theorem dX2_addPart_59 : decode cX2_addPart 59 = .ok (.getfield 21, 3) := by decide +kernel
theorem dX2_addPart_62 : decode cX2_addPart 62 = .ok (.iload 4, 2) := by decide +kernel
theorem dX2_addPart_64 : decode cX2_addPart 64 = .ok (.iadd, 1) := by decide +kernel
theorem dX2_addPart_65 : decode cX2_addPart 65 = .ok (.putfield 21, 3) := by decide +kernel
theorem dX2_addPart_68 : decode cX2_addPart 68 = .ok (.iconst 1, 1) := by decide +kernel
theorem dX2_addPart_69 : decode cX2_addPart 69 = .ok (.ireturn, 1) := by decide +kernel
abbrev x_X2_addPart : Cx := (2, cX2_addPart, false, some (.boolean))
set_option maxRecDepth 10000 in
theorem g_X2_addPart_0 {E : Ev} {d : Nat} {G : Hp} {Q : Po} {x0 : Nat} {x1 : Nat} {x2 : Int32} {x3 : Int32} (h : (if x2 < 0 then Q (some (.int (iv 0))) G else (if (x3 - x2) < 0 then Q (some (.int (iv 0))) G else (qFI E G x1 2 1 fun v1 => (if v1 < x3 then Q (some (.int (iv 0))) G else (qFR E G x0 2 0 fun v2 => (qL 2 E G v2 fun v3 => (qFI E G x0 2 1 fun v4 => (if (x3 - x2) ≤ (v3 - v4) then (qFR E G x1 2 0 fun v5 => (qFR E G x0 2 0 fun v6 => (qFI E G x0 2 1 fun v7 => (qCp E G v5 x2 v6 v7 (x3 - x2) fun G8 => (qFI E G8 x0 2 1 fun v9 => (qP E G8 x0 2 1 (.int ((v9 + (x3 - x2)))) fun G10 => Q (some (.int (iv 1))) G10)))))) else Q (some (.int (iv 0))) G))))))))) : Xr E d x_X2_addPart 0 [some (.ref x0), some (.ref x1), some (.int x2), some (.int x3), none] [] G Q := by
  refine r_iload_n dX2_addPart_0 rfl ?_
  refine r_iload_n dX2_addPart_1 rfl ?_
  refine r_isub dX2_addPart_2 ?_
  refine r_istore dX2_addPart_3 rfl ?_
  refine r_iload_n dX2_addPart_5 rfl ?_
  refine r_iflt (tgt := 37) dX2_addPart_6 (by decide) (ite_imp (fun h => ?_) (fun h => ?_) h)
  · refine r_iconst dX2_addPart_37 ?_
    exact r_iret dX2_addPart_38 rfl ⟨rfl, h⟩
  · refine r_iload dX2_addPart_9 rfl ?_
    refine r_iflt (tgt := 37) dX2_addPart_11 (by decide) (ite_imp (fun h => ?_) (fun h => ?_) h)
    · refine r_iconst dX2_addPart_37 ?_
      exact r_iret dX2_addPart_38 rfl ⟨rfl, h⟩
    · refine r_iload_n dX2_addPart_14 rfl ?_
      refine r_aload_n dX2_addPart_15 rfl ?_
      refine r_getI dX2_addPart_16 rfl (qFI_imp (fun v1 h => ?_) h)
      refine r_cgt (tgt := 37) dX2_addPart_19 (by decide) (ite_imp (fun h => ?_) (fun h => ?_) h)
      · refine r_iconst dX2_addPart_37 ?_
        exact r_iret dX2_addPart_38 rfl ⟨rfl, h⟩
      · refine r_iload dX2_addPart_22 rfl ?_
        refine r_aload_n dX2_addPart_24 rfl ?_
        refine r_getR dX2_addPart_25 rfl (qFR_imp (fun v2 h => ?_) h)
        refine r_alen dX2_addPart_28 (qL_imp (fun v3 h => ?_) h)
        refine r_aload_n dX2_addPart_29 rfl ?_
        refine r_getI dX2_addPart_30 rfl (qFI_imp (fun v4 h => ?_) h)
        refine r_isub dX2_addPart_33 ?_
        refine r_cle (tgt := 39) dX2_addPart_34 (by decide) (ite_imp (fun h => ?_) (fun h => ?_) h)
        · refine r_aload_n dX2_addPart_39 rfl ?_
          refine r_getR dX2_addPart_40 rfl (qFR_imp (fun v5 h => ?_) h)
          refine r_iload_n dX2_addPart_43 rfl ?_
          refine r_aload_n dX2_addPart_44 rfl ?_
          refine r_getR dX2_addPart_45 rfl (qFR_imp (fun v6 h => ?_) h)
          refine r_aload_n dX2_addPart_48 rfl ?_
          refine r_getI dX2_addPart_49 rfl (qFI_imp (fun v7 h => ?_) h)
          refine r_iload dX2_addPart_52 rfl ?_
          refine r_cpy dX2_addPart_54 rfl (Nat.le_of_ble_eq_true rfl) (qCp_imp (fun G8 h => ?_) h)
          refine r_aload_n dX2_addPart_57 rfl ?_
          refine r_dup dX2_addPart_58 rfl ?_
          refine r_getI dX2_addPart_59 rfl (qFI_imp (fun v9 h => ?_) h)
          refine r_iload dX2_addPart_62 rfl ?_
          refine r_iadd dX2_addPart_64 ?_
          refine r_put dX2_addPart_65 rfl rfl (by decide) (qP_imp (fun G10 h => ?_) h)
          refine r_iconst dX2_addPart_68 ?_
          exact r_iret dX2_addPart_69 rfl ⟨rfl, h⟩
        · refine r_iconst dX2_addPart_37 ?_
          exact r_iret dX2_addPart_38 rfl ⟨rfl, h⟩
theorem e_X2_addPart {E : Ev} {d : Nat} {G : Hp} {Q : Po} {x0 : Nat} {x1 : Nat} {x2 : Int32} {x3 : Int32} (h : (if x2 < 0 then Q (some (.int (iv 0))) G else (if (x3 - x2) < 0 then Q (some (.int (iv 0))) G else (qFI E G x1 2 1 fun v1 => (if v1 < x3 then Q (some (.int (iv 0))) G else (qFR E G x0 2 0 fun v2 => (qL 2 E G v2 fun v3 => (qFI E G x0 2 1 fun v4 => (if (x3 - x2) ≤ (v3 - v4) then (qFR E G x1 2 0 fun v5 => (qFR E G x0 2 0 fun v6 => (qFI E G x0 2 1 fun v7 => (qCp E G v5 x2 v6 v7 (x3 - x2) fun G8 => (qFI E G8 x0 2 1 fun v9 => (qP E G8 x0 2 1 (.int ((v9 + (x3 - x2)))) fun G10 => Q (some (.int (iv 1))) G10)))))) else Q (some (.int (iv 0))) G))))))))) : runs E (d + 1) i_X2_addPart [.ref x0, .ref x1, .int x2, .int x3] G Q := by
  rw [runs_eq (m := (yX2_addPart, cX2_addPart, 5, some (.boolean), 3, 2, false, false)) rfl (Nat.le_of_ble_eq_true rfl)]
  exact g_X2_addPart_0 h
theorem dX2_become_0 : decode cX2_become 0 = .ok (.aload_n 0, 1) := by decide +kernel
theorem dX2_become_1 : decode cX2_become 1 = .ok (.iconst 0, 1) := by decide +kernel
theorem dX2_become_2 : decode cX2_become 2 = .ok (.putfield 21, 3) := by decide +kernel
theorem dX2_become_5 : decode cX2_become 5 = .ok (.aload_n 0, 1) := by decide +kernel
theorem dX2_become_6 : decode cX2_become 6 = .ok (.aload_n 1, 1) := by decide +kernel
theorem dX2_become_7 : decode cX2_become 7 = .ok (.iconst 0, 1) := by decide +kernel
theorem dX2_become_8 : decode cX2_become 8 = .ok (.aload_n 1, 1) := by decide +kernel
theorem dX2_become_9 : decode cX2_become 9 = .ok (.getfield 21, 3) := by decide +kernel
theorem dX2_become_12 : decode cX2_become 12 = .ok (.invokevirtual 35, 3) := by decide +kernel
theorem dX2_become_15 : decode cX2_become 15 = .ok (.pop, 1) := by decide +kernel
theorem dX2_become_16 : decode cX2_become 16 = .ok (.return_, 1) := by decide +kernel
abbrev x_X2_become : Cx := (2, cX2_become, false, none)
set_option maxRecDepth 10000 in
theorem g_X2_become_0 {E : Ev} {d : Nat} {G : Hp} {Q : Po} {x0 : Nat} {x1 : Nat} (h : (qP E G x0 2 1 (.int ((iv 0))) fun G1 => (qFI E G1 x1 2 1 fun v2 => (rcv E G1 x0 2 = true ∧ (qCI E d i_X2_addPart [.ref x0, .ref x1, .int ((iv 0)), .int v2] G1 fun v4 G3 => Q none G3))))) : Xr E d x_X2_become 0 [some (.ref x0), some (.ref x1)] [] G Q := by
  refine r_aload_n dX2_become_0 rfl ?_
  refine r_iconst dX2_become_1 ?_
  refine r_put dX2_become_2 rfl rfl (by decide) (qP_imp (fun G1 h => ?_) h)
  refine r_aload_n dX2_become_5 rfl ?_
  refine r_aload_n dX2_become_6 rfl ?_
  refine r_iconst dX2_become_7 ?_
  refine r_aload_n dX2_become_8 rfl ?_
  refine r_getI dX2_become_9 rfl (qFI_imp (fun v2 h => ?_) h)
  refine r_cI dX2_become_12 rfl (invV_eq rfl rfl rfl rfl rfl rfl ⟨rfl, Nat.le_of_ble_eq_true rfl⟩ h.1) (qCI_imp (fun v4 G3 h => ?_) h.2)
  refine r_pop dX2_become_15 rfl ?_
  exact r_vret dX2_become_16 rfl h
theorem e_X2_become {E : Ev} {d : Nat} {G : Hp} {Q : Po} {x0 : Nat} {x1 : Nat} (h : (qP E G x0 2 1 (.int ((iv 0))) fun G1 => (qFI E G1 x1 2 1 fun v2 => (rcv E G1 x0 2 = true ∧ (qCI E d i_X2_addPart [.ref x0, .ref x1, .int ((iv 0)), .int v2] G1 fun v4 G3 => Q none G3))))) : runs E (d + 1) i_X2_become [.ref x0, .ref x1] G Q := by
  rw [runs_eq (m := (yX2_become, cX2_become, 2, none, 1, 2, false, false)) rfl (Nat.le_of_ble_eq_true rfl)]
  exact g_X2_become_0 h
theorem dX2_endOf_0 : decode cX2_endOf 0 = .ok (.iconst 1, 1) := by decide +kernel
theorem dX2_endOf_1 : decode cX2_endOf 1 = .ok (.istore_n 2, 1) := by decide +kernel
theorem dX2_endOf_2 : decode cX2_endOf 2 = .ok (.iload_n 1, 1) := by decide +kernel
theorem dX2_endOf_3 : decode cX2_endOf 3 = .ok (.iconst 0, 1) := by decide +kernel
theorem dX2_endOf_4 : decode cX2_endOf 4 = .ok (.invokestatic 9, 3) := by decide +kernel
theorem dX2_endOf_7 : decode cX2_endOf 7 = .ok (.istore_n 3, 1) := by decide +kernel
theorem dX2_endOf_8 : decode cX2_endOf 8 = .ok (.iload_n 2, 1) := by decide +kernel
theorem dX2_endOf_9 : decode cX2_endOf 9 = .ok (.ifCond .le 31, 3) := by decide +kernel
theorem dX2_endOf_12 : decode cX2_endOf 12 = .ok (.iload_n 3, 1) := by decide +kernel
theorem dX2_endOf_13 : decode cX2_endOf 13 = .ok (.aload_n 0, 1) := by decide +kernel
theorem dX2_endOf_14 : decode cX2_endOf 14 = .ok (.getfield 21, 3) := by decide +kernel
theorem dX2_endOf_17 : decode cX2_endOf 17 = .ok (.if_icmp .ge 23, 3) := by decide +kernel
theorem dX2_endOf_20 : decode cX2_endOf 20 = .ok (.iload_n 2, 1) := by decide +kernel
theorem dX2_endOf_21 : decode cX2_endOf 21 = .ok (.aload_n 0, 1) := by decide +kernel
theorem dX2_endOf_22 : decode cX2_endOf 22 = .ok (.getfield 15, 3) := by decide +kernel
theorem dX2_endOf_25 : decode cX2_endOf 25 = .ok (.iload_n 3, 1) := by decide +kernel
theorem dX2_endOf_26 : decode cX2_endOf 26 = .ok (.baload, 1) := by decide +kernel
theorem dX2_endOf_27 : decode cX2_endOf 27 = .ok (.invokestatic 39, 3) := by decide +kernel
theorem dX2_endOf_30 : decode cX2_endOf 30 = .ok (.iconst 1, 1) := by decide +kernel
theorem dX2_endOf_31 : decode cX2_endOf 31 = .ok (.isub, 1) := by decide +kernel
theorem dX2_endOf_32 : decode cX2_endOf 32 = .ok (.iadd, 1) := by decide +kernel
theorem dX2_endOf_33 : decode cX2_endOf 33 = .ok (.istore_n 2, 1) := by decide +kernel
theorem dX2_endOf_34 : decode cX2_endOf 34 = .ok (.iinc 3 1, 3) := by decide +kernel
theorem dX2_endOf_37 : decode cX2_endOf 37 = .ok (.goto (-29), 3) := by decide +kernel
theorem dX2_endOf_40 : decode cX2_endOf 40 = .ok (.iload_n 3, 1) := by decide +kernel
theorem dX2_endOf_41 : decode cX2_endOf 41 = .ok (.ireturn, 1) := by decide +kernel
abbrev x_X2_endOf : Cx := (2, cX2_endOf, false, some (.int))
set_option maxRecDepth 10000 in
theorem g_X2_endOf_0 {E : Ev} {d : Nat} {G : Hp} {Q : Po} {x0 : Nat} {x1 : Int32} (h : Xr E d x_X2_endOf 8 [some (.ref x0), some (.int x1), some (.int ((iv 1))), some (.int ((imax x1 (iv 0))))] [] G Q) : Xr E d x_X2_endOf 0 [some (.ref x0), some (.int x1), none, none] [] G Q := by
  refine r_iconst dX2_endOf_0 ?_
  refine r_istore_n dX2_endOf_1 rfl ?_
  refine r_iload_n dX2_endOf_2 rfl ?_
  refine r_iconst dX2_endOf_3 ?_
  refine r_max dX2_endOf_4 rfl (Nat.le_of_ble_eq_true rfl) ?_
  refine r_istore_n dX2_endOf_7 rfl ?_
  exact h
theorem e_X2_endOf {E : Ev} {d : Nat} {G : Hp} {Q : Po} {x0 : Nat} {x1 : Int32} (h : Xr E d x_X2_endOf 8 [some (.ref x0), some (.int x1), some (.int ((iv 1))), some (.int ((imax x1 (iv 0))))] [] G Q) : runs E (d + 1) i_X2_endOf [.ref x0, .int x1] G Q := by
  rw [runs_eq (m := (yX2_endOf, cX2_endOf, 4, some (.int), 1, 2, false, false)) rfl (Nat.le_of_ble_eq_true rfl)]
  exact g_X2_endOf_0 h
set_option maxRecDepth 10000 in
theorem g_X2_endOf_8 {E : Ev} {d : Nat} {G : Hp} {Q : Po} {x0 : Nat} {x1 : Int32} {x2 : Int32} {x3 : Int32} (h : (if x2 ≤ 0 then Q (some (.int x3)) G else (qFI E G x0 2 1 fun v1 => (if v1 ≤ x3 then Q (some (.int x3)) G else (qFR E G x0 2 0 fun v2 => (qBA E G v2 x3 fun v3 => (qCI E d i_X6_arityOf [.int v3] G fun v5 G4 => Xr E d x_X2_endOf 8 [some (.ref x0), some (.int x1), some (.int ((x2 + (v5 - (iv 1))))), some (.int ((x3 + (iv 1))))] [] G4 Q))))))) : Xr E d x_X2_endOf 8 [some (.ref x0), some (.int x1), some (.int x2), some (.int x3)] [] G Q := by
  refine r_iload_n dX2_endOf_8 rfl ?_
  refine r_ifle (tgt := 40) dX2_endOf_9 (by decide) (ite_imp (fun h => ?_) (fun h => ?_) h)
  · refine r_iload_n dX2_endOf_40 rfl ?_
    exact r_iret dX2_endOf_41 rfl ⟨rfl, h⟩
  · refine r_iload_n dX2_endOf_12 rfl ?_
    refine r_aload_n dX2_endOf_13 rfl ?_
    refine r_getI dX2_endOf_14 rfl (qFI_imp (fun v1 h => ?_) h)
    refine r_cge (tgt := 40) dX2_endOf_17 (by decide) (ite_imp (fun h => ?_) (fun h => ?_) h)
    · refine r_iload_n dX2_endOf_40 rfl ?_
      exact r_iret dX2_endOf_41 rfl ⟨rfl, h⟩
    · refine r_iload_n dX2_endOf_20 rfl ?_
      refine r_aload_n dX2_endOf_21 rfl ?_
      refine r_getR dX2_endOf_22 rfl (qFR_imp (fun v2 h => ?_) h)
      refine r_iload_n dX2_endOf_25 rfl ?_
      refine r_bald dX2_endOf_26 (qBA_imp (fun v3 h => ?_) h)
      refine r_cI dX2_endOf_27 rfl (invS_eq rfl (by decide) rfl rfl rfl rfl ⟨rfl, Nat.le_of_ble_eq_true rfl⟩) (qCI_imp (fun v5 G4 h => ?_) h)
      refine r_iconst dX2_endOf_30 ?_
      refine r_isub dX2_endOf_31 ?_
      refine r_iadd dX2_endOf_32 ?_
      refine r_istore_n dX2_endOf_33 rfl ?_
      refine r_iinc dX2_endOf_34 rfl rfl ?_
      refine r_goto (tgt := 8) dX2_endOf_37 (by decide) ?_
      exact h
theorem dX2_expand_0 : decode cX2_expand 0 = .ok (.iload_n 2, 1) := by decide +kernel
theorem dX2_expand_1 : decode cX2_expand 1 = .ok (.iconst 1, 1) := by decide +kernel
theorem dX2_expand_2 : decode cX2_expand 2 = .ok (.iadd, 1) := by decide +kernel
theorem dX2_expand_3 : decode cX2_expand 3 = .ok (.istore 4, 2) := by decide +kernel
theorem dX2_expand_5 : decode cX2_expand 5 = .ok (.aload_n 1, 1) := by decide +kernel
theorem dX2_expand_6 : decode cX2_expand 6 = .ok (.iload 4, 2) := by decide +kernel
theorem dX2_expand_8 : decode cX2_expand 8 = .ok (.invokevirtual 43, 3) := by decide +kernel
theorem dX2_expand_11 : decode cX2_expand 11 = .ok (.istore 5, 2) := by decide +kernel
theorem dX2_expand_13 : decode cX2_expand 13 = .ok (.aload_n 1, 1) := by decide +kernel
theorem dX2_expand_14 : decode cX2_expand 14 = .ok (.iload_n 2, 1) := by decide +kernel
theorem dX2_expand_15 : decode cX2_expand 15 = .ok (.invokevirtual 43, 3) := by decide +kernel
theorem dX2_expand_18 : decode cX2_expand 18 = .ok (.istore 6, 2) := by decide +kernel
theorem dX2_expand_20 : decode cX2_expand 20 = .ok (.aload_n 0, 1) := by decide +kernel
theorem dX2_expand_21 : decode cX2_expand 21 = .ok (.iconst 0, 1) := by decide +kernel
theorem dX2_expand_22 : decode cX2_expand 22 = .ok (.putfield 21, 3) := by decide +kernel
theorem dX2_expand_25 : decode cX2_expand 25 = .ok (.aload_n 0, 1) := by decide +kernel
theorem dX2_expand_26 : decode cX2_expand 26 = .ok (.aload_n 1, 1) := by decide +kernel
theorem dX2_expand_27 : decode cX2_expand 27 = .ok (.iconst 0, 1) := by decide +kernel
theorem dX2_expand_28 : decode cX2_expand 28 = .ok (.iload_n 2, 1) := by decide +kernel
theorem dX2_expand_29 : decode cX2_expand 29 = .ok (.invokevirtual 35, 3) := by decide +kernel
theorem dX2_expand_32 : decode cX2_expand 32 = .ok (.istore 7, 2) := by decide +kernel
theorem dX2_expand_34 : decode cX2_expand 34 = .ok (.iconst 0, 1) := by decide +kernel
theorem dX2_expand_35 : decode cX2_expand 35 = .ok (.istore 8, 2) := by decide +kernel
theorem dX2_expand_37 : decode cX2_expand 37 = .ok (.iload 7, 2) := by decide +kernel
theorem dX2_expand_39 : decode cX2_expand 39 = .ok (.ifCond .eq 83, 3) := by decide +kernel
theorem dX2_expand_42 : decode cX2_expand 42 = .ok (.iload 8, 2) := by decide +kernel
theorem dX2_expand_44 : decode cX2_expand 44 = .ok (.aload_n 3, 1) := by decide +kernel
theorem dX2_expand_45 : decode cX2_expand 45 = .ok (.getfield 21, 3) := by decide +kernel
theorem dX2_expand_48 : decode cX2_expand 48 = .ok (.if_icmp .ge 74, 3) := by decide +kernel
theorem dX2_expand_51 : decode cX2_expand 51 = .ok (.aload_n 3, 1) := by decide +kernel
theorem dX2_expand_52 : decode cX2_expand 52 = .ok (.getfield 15, 3) := by decide +kernel
theorem dX2_expand_55 : decode cX2_expand 55 = .ok (.iload 8, 2) := by decide +kernel
theorem dX2_expand_57 : decode cX2_expand 57 = .ok (.baload, 1) := by decide +kernel
theorem dX2_expand_58 : decode cX2_expand 58 = .ok (.bipush 8, 2) := by decide +kernel
theorem dX2_expand_60 : decode cX2_expand 60 = .ok (.if_icmp .ne 17, 3) := by decide +kernel
theorem dX2_expand_63 : decode cX2_expand 63 = .ok (.aload_n 0, 1) := by decide +kernel
theorem dX2_expand_64 : decode cX2_expand 64 = .ok (.aload_n 1, 1) := by decide +kernel
theorem dX2_expand_65 : decode cX2_expand 65 = .ok (.iload 4, 2) := by decide +kernel
theorem dX2_expand_67 : decode cX2_expand 67 = .ok (.iload 5, 2) := by decide +kernel
theorem dX2_expand_69 : decode cX2_expand 69 = .ok (.invokevirtual 35, 3) := by decide +kernel
theorem dX2_expand_72 : decode cX2_expand 72 = .ok (.istore 7, 2) := by decide +kernel
theorem dX2_expand_74 : decode cX2_expand 74 = .ok (.goto 42, 3) := by decide +kernel
theorem dX2_expand_77 : decode cX2_expand 77 = .ok (.aload_n 3, 1) := by decide +kernel
theorem dX2_expand_78 : decode cX2_expand 78 = .ok (.getfield 15, 3) := by decide +kernel
theorem dX2_expand_81 : decode cX2_expand 81 = .ok (.iload 8, 2) := by decide +kernel
theorem dX2_expand_83 : decode cX2_expand 83 = .ok (.baload, 1) := by decide +kernel
theorem dX2_expand_84 : decode cX2_expand 84 = .ok (.bipush 9, 2) := by decide +kernel
theorem dX2_expand_86 : decode cX2_expand 86 = .ok (.if_icmp .ne 17, 3) := by decide +kernel
theorem dX2_expand_89 : decode cX2_expand 89 = .ok (.aload_n 0, 1) := by decide +kernel
theorem dX2_expand_90 : decode cX2_expand 90 = .ok (.aload_n 1, 1) := by decide +kernel
theorem dX2_expand_91 : decode cX2_expand 91 = .ok (.iload 5, 2) := by decide +kernel
theorem dX2_expand_93 : decode cX2_expand 93 = .ok (.iload 6, 2) := by decide +kernel
theorem dX2_expand_95 : decode cX2_expand 95 = .ok (.invokevirtual 35, 3) := by decide +kernel
theorem dX2_expand_98 : decode cX2_expand 98 = .ok (.istore 7, 2) := by decide +kernel
theorem dX2_expand_100 : decode cX2_expand 100 = .ok (.goto 16, 3) := by decide +kernel
theorem dX2_expand_103 : decode cX2_expand 103 = .ok (.aload_n 0, 1) := by decide +kernel
theorem dX2_expand_104 : decode cX2_expand 104 = .ok (.aload_n 3, 1) := by decide +kernel
theorem dX2_expand_105 : decode cX2_expand 105 = .ok (.getfield 15, 3) := by decide +kernel
theorem dX2_expand_108 : decode cX2_expand 108 = .ok (.iload 8, 2) := by decide +kernel
theorem dX2_expand_110 : decode cX2_expand 110 = .ok (.baload, 1) := by decide +kernel
theorem dX2_expand_111 : decode cX2_expand 111 = .ok (.invokevirtual 46, 3) := by decide +kernel
theorem dX2_expand_114 : decode cX2_expand 114 = .ok (.istore 7, 2) := by decide +kernel
theorem dX2_expand_116 : decode cX2_expand 116 = .ok (.iinc 8 1, 3) := by decide +kernel
theorem dX2_expand_119 : decode cX2_expand 119 = .ok (.goto (-82), 3) := by decide +kernel
theorem dX2_expand_122 : decode cX2_expand 122 = .ok (.iload 7, 2) := by decide +kernel
theorem dX2_expand_124 : decode cX2_expand 124 = .ok (.ifCond .eq 21, 3) := by decide +kernel
theorem dX2_expand_127 : decode cX2_expand 127 = .ok (.aload_n 0, 1) := by decide +kernel
theorem dX2_expand_128 : decode cX2_expand 128 = .ok (.aload_n 1, 1) := by decide +kernel
theorem dX2_expand_129 : decode cX2_expand 129 = .ok (.iload 6, 2) := by decide +kernel
theorem dX2_expand_131 : decode cX2_expand 131 = .ok (.aload_n 1, 1) := by decide +kernel
theorem dX2_expand_132 : decode cX2_expand 132 = .ok (.getfield 21, 3) := by decide +kernel
theorem dX2_expand_135 : decode cX2_expand 135 = .ok (.invokevirtual 35, 3) := by decide +kernel
theorem dX2_expand_138 : decode cX2_expand 138 = .ok (.ifCond .eq 7, 3) := by decide +kernel
theorem dX2_expand_141 : decode cX2_expand 141 = .ok (.iconst 1, 1) := by decide +kernel
theorem dX2_expand_142 : decode cX2_expand 142 = .ok (.goto 4, 3) := by decide +kernel
theorem dX2_expand_145 : decode cX2_expand 145 = .ok (.iconst 0, 1) := by decide +kernel
theorem dX2_expand_146 : decode cX2_expand 146 = .ok (.ireturn, 1) := by decide +kernel
abbrev x_X2_expand : Cx := (2, cX2_expand, false, some (.boolean))
set_option maxRecDepth 10000 in
theorem g_X2_expand_0 {E : Ev} {d : Nat} {G : Hp} {Q : Po} {x0 : Nat} {x1 : Nat} {x2 : Int32} {x3 : Nat} (h : (rcv E G x1 2 = true ∧ (qCI E d i_X2_endOf [.ref x1, .int ((x2 + (iv 1)))] G fun v2 G1 => (rcv E G1 x1 2 = true ∧ (qCI E d i_X2_endOf [.ref x1, .int x2] G1 fun v4 G3 => (qP E G3 x0 2 1 (.int ((iv 0))) fun G5 => (rcv E G5 x0 2 = true ∧ (qCI E d i_X2_addPart [.ref x0, .ref x1, .int ((iv 0)), .int x2] G5 fun v7 G6 => Xr E d x_X2_expand 37 [some (.ref x0), some (.ref x1), some (.int x2), some (.ref x3), some (.int ((x2 + (iv 1)))), some (.int v2), some (.int v4), some (.int v7), some (.int ((iv 0)))] [] G6 Q)))))))) : Xr E d x_X2_expand 0 [some (.ref x0), some (.ref x1), some (.int x2), some (.ref x3), none, none, none, none, none] [] G Q := by
  refine r_iload_n dX2_expand_0 rfl ?_
  refine r_iconst dX2_expand_1 ?_
  refine r_iadd dX2_expand_2 ?_
  refine r_istore dX2_expand_3 rfl ?_
  refine r_aload_n dX2_expand_5 rfl ?_
  refine r_iload dX2_expand_6 rfl ?_
  refine r_cI dX2_expand_8 rfl (invV_eq rfl rfl rfl rfl rfl rfl ⟨rfl, Nat.le_of_ble_eq_true rfl⟩ h.1) (qCI_imp (fun v2 G1 h => ?_) h.2)
  refine r_istore dX2_expand_11 rfl ?_
  refine r_aload_n dX2_expand_13 rfl ?_
  refine r_iload_n dX2_expand_14 rfl ?_
  refine r_cI dX2_expand_15 rfl (invV_eq rfl rfl rfl rfl rfl rfl ⟨rfl, Nat.le_of_ble_eq_true rfl⟩ h.1) (qCI_imp (fun v4 G3 h => ?_) h.2)
  refine r_istore dX2_expand_18 rfl ?_
  refine r_aload_n dX2_expand_20 rfl ?_
  refine r_iconst dX2_expand_21 ?_
  refine r_put dX2_expand_22 rfl rfl (by decide) (qP_imp (fun G5 h => ?_) h)
  refine r_aload_n dX2_expand_25 rfl ?_
  refine r_aload_n dX2_expand_26 rfl ?_
  refine r_iconst dX2_expand_27 ?_
  refine r_iload_n dX2_expand_28 rfl ?_
  refine r_cI dX2_expand_29 rfl (invV_eq rfl rfl rfl rfl rfl rfl ⟨rfl, Nat.le_of_ble_eq_true rfl⟩ h.1) (qCI_imp (fun v7 G6 h => ?_) h.2)
  refine r_istore dX2_expand_32 rfl ?_
  refine r_iconst dX2_expand_34 ?_
  refine r_istore dX2_expand_35 rfl ?_
  exact h
theorem e_X2_expand {E : Ev} {d : Nat} {G : Hp} {Q : Po} {x0 : Nat} {x1 : Nat} {x2 : Int32} {x3 : Nat} (h : (rcv E G x1 2 = true ∧ (qCI E d i_X2_endOf [.ref x1, .int ((x2 + (iv 1)))] G fun v2 G1 => (rcv E G1 x1 2 = true ∧ (qCI E d i_X2_endOf [.ref x1, .int x2] G1 fun v4 G3 => (qP E G3 x0 2 1 (.int ((iv 0))) fun G5 => (rcv E G5 x0 2 = true ∧ (qCI E d i_X2_addPart [.ref x0, .ref x1, .int ((iv 0)), .int x2] G5 fun v7 G6 => Xr E d x_X2_expand 37 [some (.ref x0), some (.ref x1), some (.int x2), some (.ref x3), some (.int ((x2 + (iv 1)))), some (.int v2), some (.int v4), some (.int v7), some (.int ((iv 0)))] [] G6 Q)))))))) : runs E (d + 1) i_X2_expand [.ref x0, .ref x1, .int x2, .ref x3] G Q := by
  rw [runs_eq (m := (yX2_expand, cX2_expand, 9, some (.boolean), 3, 2, false, false)) rfl (Nat.le_of_ble_eq_true rfl)]
  exact g_X2_expand_0 h
set_option maxRecDepth 10000 in
theorem g_X2_expand_37 {E : Ev} {d : Nat} {G : Hp} {Q : Po} {x0 : Nat} {x1 : Nat} {x2 : Int32} {x3 : Nat} {x4 : Int32} {x5 : Int32} {x6 : Int32} {x7 : Int32} {x8 : Int32} (h : (if x7 = 0 then Xr E d x_X2_expand 122 [some (.ref x0), some (.ref x1), some (.int x2), some (.ref x3), some (.int x4), some (.int x5), some (.int x6), some (.int x7), some (.int x8)] [] G Q else (qFI E G x3 2 1 fun v1 => (if v1 ≤ x8 then Xr E d x_X2_expand 122 [some (.ref x0), some (.ref x1), some (.int x2), some (.ref x3), some (.int x4), some (.int x5), some (.int x6), some (.int x7), some (.int x8)] [] G Q else (qFR E G x3 2 0 fun v2 => (qBA E G v2 x8 fun v3 => (if ¬ v3 = (iv 8) then (qFR E G x3 2 0 fun v4 => (qBA E G v4 x8 fun v5 => (if ¬ v5 = (iv 9) then (qFR E G x3 2 0 fun v6 => (qBA E G v6 x8 fun v7 => (rcv E G x0 2 = true ∧ (qCI E d i_X2_add [.ref x0, .int v7] G fun v9 G8 => Xr E d x_X2_expand 37 [some (.ref x0), some (.ref x1), some (.int x2), some (.ref x3), some (.int x4), some (.int x5), some (.int x6), some (.int v9), some (.int ((x8 + (iv 1))))] [] G8 Q)))) else (rcv E G x0 2 = true ∧ (qCI E d i_X2_addPart [.ref x0, .ref x1, .int x5, .int x6] G fun v11 G10 => Xr E d x_X2_expand 37 [some (.ref x0), some (.ref x1), some (.int x2), some (.ref x3), some (.int x4), some (.int x5), some (.int x6), some (.int v11), some (.int ((x8 + (iv 1))))] [] G10 Q))))) else (rcv E G x0 2 = true ∧ (qCI E d i_X2_addPart [.ref x0, .ref x1, .int x4, .int x5] G fun v13 G12 => Xr E d x_X2_expand 37 [some (.ref x0), some (.ref x1), some (.int x2), some (.ref x3), some (.int x4), some (.int x5), some (.int x6), some (.int v13), some (.int ((x8 + (iv 1))))] [] G12 Q))))))))) : Xr E d x_X2_expand 37 [some (.ref x0), some (.ref x1), some (.int x2), some (.ref x3), some (.int x4), some (.int x5), some (.int x6), some (.int x7), some (.int x8)] [] G Q := by
  refine r_iload dX2_expand_37 rfl ?_
  refine r_ifeq (tgt := 122) dX2_expand_39 (by decide) (ite_imp (fun h => ?_) (fun h => ?_) h)
  · exact h
  · refine r_iload dX2_expand_42 rfl ?_
    refine r_aload_n dX2_expand_44 rfl ?_
    refine r_getI dX2_expand_45 rfl (qFI_imp (fun v1 h => ?_) h)
    refine r_cge (tgt := 122) dX2_expand_48 (by decide) (ite_imp (fun h => ?_) (fun h => ?_) h)
    · exact h
    · refine r_aload_n dX2_expand_51 rfl ?_
      refine r_getR dX2_expand_52 rfl (qFR_imp (fun v2 h => ?_) h)
      refine r_iload dX2_expand_55 rfl ?_
      refine r_bald dX2_expand_57 (qBA_imp (fun v3 h => ?_) h)
      refine r_bipush dX2_expand_58 rfl ?_
      refine r_cne (tgt := 77) dX2_expand_60 (by decide) (ite_imp (fun h => ?_) (fun h => ?_) h)
      · refine r_aload_n dX2_expand_77 rfl ?_
        refine r_getR dX2_expand_78 rfl (qFR_imp (fun v4 h => ?_) h)
        refine r_iload dX2_expand_81 rfl ?_
        refine r_bald dX2_expand_83 (qBA_imp (fun v5 h => ?_) h)
        refine r_bipush dX2_expand_84 rfl ?_
        refine r_cne (tgt := 103) dX2_expand_86 (by decide) (ite_imp (fun h => ?_) (fun h => ?_) h)
        · refine r_aload_n dX2_expand_103 rfl ?_
          refine r_aload_n dX2_expand_104 rfl ?_
          refine r_getR dX2_expand_105 rfl (qFR_imp (fun v6 h => ?_) h)
          refine r_iload dX2_expand_108 rfl ?_
          refine r_bald dX2_expand_110 (qBA_imp (fun v7 h => ?_) h)
          refine r_cI dX2_expand_111 rfl (invV_eq rfl rfl rfl rfl rfl rfl ⟨rfl, Nat.le_of_ble_eq_true rfl⟩ h.1) (qCI_imp (fun v9 G8 h => ?_) h.2)
          refine r_istore dX2_expand_114 rfl ?_
          refine r_iinc dX2_expand_116 rfl rfl ?_
          refine r_goto (tgt := 37) dX2_expand_119 (by decide) ?_
          exact h
        · refine r_aload_n dX2_expand_89 rfl ?_
          refine r_aload_n dX2_expand_90 rfl ?_
          refine r_iload dX2_expand_91 rfl ?_
          refine r_iload dX2_expand_93 rfl ?_
          refine r_cI dX2_expand_95 rfl (invV_eq rfl rfl rfl rfl rfl rfl ⟨rfl, Nat.le_of_ble_eq_true rfl⟩ h.1) (qCI_imp (fun v11 G10 h => ?_) h.2)
          refine r_istore dX2_expand_98 rfl ?_
          refine r_goto (tgt := 116) dX2_expand_100 (by decide) ?_
          refine r_iinc dX2_expand_116 rfl rfl ?_
          refine r_goto (tgt := 37) dX2_expand_119 (by decide) ?_
          exact h
      · refine r_aload_n dX2_expand_63 rfl ?_
        refine r_aload_n dX2_expand_64 rfl ?_
        refine r_iload dX2_expand_65 rfl ?_
        refine r_iload dX2_expand_67 rfl ?_
        refine r_cI dX2_expand_69 rfl (invV_eq rfl rfl rfl rfl rfl rfl ⟨rfl, Nat.le_of_ble_eq_true rfl⟩ h.1) (qCI_imp (fun v13 G12 h => ?_) h.2)
        refine r_istore dX2_expand_72 rfl ?_
        refine r_goto (tgt := 116) dX2_expand_74 (by decide) ?_
        refine r_iinc dX2_expand_116 rfl rfl ?_
        refine r_goto (tgt := 37) dX2_expand_119 (by decide) ?_
        exact h
set_option maxRecDepth 10000 in
theorem g_X2_expand_122 {E : Ev} {d : Nat} {G : Hp} {Q : Po} {x0 : Nat} {x1 : Nat} {x2 : Int32} {x3 : Nat} {x4 : Int32} {x5 : Int32} {x6 : Int32} {x7 : Int32} {x8 : Int32} (h : (if x7 = 0 then Q (some (.int (iv 0))) G else (qFI E G x1 2 1 fun v1 => (rcv E G x0 2 = true ∧ (qCI E d i_X2_addPart [.ref x0, .ref x1, .int x6, .int v1] G fun v3 G2 => (if v3 = 0 then Q (some (.int (iv 0))) G2 else Q (some (.int (iv 1))) G2)))))) : Xr E d x_X2_expand 122 [some (.ref x0), some (.ref x1), some (.int x2), some (.ref x3), some (.int x4), some (.int x5), some (.int x6), some (.int x7), some (.int x8)] [] G Q := by
  refine r_iload dX2_expand_122 rfl ?_
  refine r_ifeq (tgt := 145) dX2_expand_124 (by decide) (ite_imp (fun h => ?_) (fun h => ?_) h)
  · refine r_iconst dX2_expand_145 ?_
    exact r_iret dX2_expand_146 rfl ⟨rfl, h⟩
  · refine r_aload_n dX2_expand_127 rfl ?_
    refine r_aload_n dX2_expand_128 rfl ?_
    refine r_iload dX2_expand_129 rfl ?_
    refine r_aload_n dX2_expand_131 rfl ?_
    refine r_getI dX2_expand_132 rfl (qFI_imp (fun v1 h => ?_) h)
    refine r_cI dX2_expand_135 rfl (invV_eq rfl rfl rfl rfl rfl rfl ⟨rfl, Nat.le_of_ble_eq_true rfl⟩ h.1) (qCI_imp (fun v3 G2 h => ?_) h.2)
    refine r_ifeq (tgt := 145) dX2_expand_138 (by decide) (ite_imp (fun h => ?_) (fun h => ?_) h)
    · refine r_iconst dX2_expand_145 ?_
      exact r_iret dX2_expand_146 rfl ⟨rfl, h⟩
    · refine r_iconst dX2_expand_141 ?_
      refine r_goto (tgt := 146) dX2_expand_142 (by decide) ?_
      exact r_iret dX2_expand_146 rfl ⟨rfl, h⟩
theorem dX2_nonterminals_0 : decode cX2_nonterminals 0 = .ok (.iconst 0, 1) := by decide +kernel
theorem dX2_nonterminals_1 : decode cX2_nonterminals 1 = .ok (.istore_n 1, 1) := by decide +kernel
theorem dX2_nonterminals_2 : decode cX2_nonterminals 2 = .ok (.iconst 0, 1) := by decide +kernel
theorem dX2_nonterminals_3 : decode cX2_nonterminals 3 = .ok (.istore_n 2, 1) := by decide +kernel
theorem dX2_nonterminals_4 : decode cX2_nonterminals 4 = .ok (.iload_n 2, 1) := by decide +kernel
theorem dX2_nonterminals_5 : decode cX2_nonterminals 5 = .ok (.aload_n 0, 1) := by decide +kernel
theorem dX2_nonterminals_6 : decode cX2_nonterminals 6 = .ok (.getfield 21, 3) := by decide +kernel
theorem dX2_nonterminals_9 : decode cX2_nonterminals 9 = .ok (.if_icmp .ge 31, 3) := by decide +kernel
theorem dX2_nonterminals_12 : decode cX2_nonterminals 12 = .ok (.aload_n 0, 1) := by decide +kernel
theorem dX2_nonterminals_13 : decode cX2_nonterminals 13 = .ok (.getfield 15, 3) := by decide +kernel
theorem dX2_nonterminals_16 : decode cX2_nonterminals 16 = .ok (.iload_n 2, 1) := by decide +kernel
theorem dX2_nonterminals_17 : decode cX2_nonterminals 17 = .ok (.baload, 1) := by decide +kernel
theorem dX2_nonterminals_18 : decode cX2_nonterminals 18 = .ok (.iconst 4, 1) := by decide +kernel
theorem dX2_nonterminals_19 : decode cX2_nonterminals 19 = .ok (.isub, 1) := by decide +kernel
theorem dX2_nonterminals_20 : decode cX2_nonterminals 20 = .ok (.istore_n 3, 1) := by decide +kernel
theorem dX2_nonterminals_21 : decode cX2_nonterminals 21 = .ok (.iload_n 3, 1) := by decide +kernel
theorem dX2_nonterminals_22 : decode cX2_nonterminals 22 = .ok (.invokestatic 49, 3) := by decide +kernel
theorem dX2_nonterminals_25 : decode cX2_nonterminals 25 = .ok (.ifCond .eq 9, 3) := by decide +kernel
theorem dX2_nonterminals_28 : decode cX2_nonterminals 28 = .ok (.iload_n 1, 1) := by decide +kernel
theorem dX2_nonterminals_29 : decode cX2_nonterminals 29 = .ok (.iconst 1, 1) := by decide +kernel
theorem dX2_nonterminals_30 : decode cX2_nonterminals 30 = .ok (.iload_n 3, 1) := by decide +kernel
theorem dX2_nonterminals_31 : decode cX2_nonterminals 31 = .ok (.ishl, 1) := by decide +kernel
theorem dX2_nonterminals_32 : decode cX2_nonterminals 32 = .ok (.ior, 1) := by decide +kernel
theorem dX2_nonterminals_33 : decode cX2_nonterminals 33 = .ok (.istore_n 1, 1) := by decide +kernel
theorem dX2_nonterminals_34 : decode cX2_nonterminals 34 = .ok (.iinc 2 1, 3) := by decide +kernel
theorem dX2_nonterminals_37 : decode cX2_nonterminals 37 = .ok (.goto (-33), 3) := by decide +kernel
theorem dX2_nonterminals_40 : decode cX2_nonterminals 40 = .ok (.iload_n 1, 1) := by decide +kernel
theorem dX2_nonterminals_41 : decode cX2_nonterminals 41 = .ok (.ireturn, 1) := by decide +kernel
abbrev x_X2_nonterminals : Cx := (2, cX2_nonterminals, false, some (.int))
set_option maxRecDepth 10000 in
theorem g_X2_nonterminals_0 {E : Ev} {d : Nat} {G : Hp} {Q : Po} {x0 : Nat} (h : Xr E d x_X2_nonterminals 4 [some (.ref x0), some (.int ((iv 0))), some (.int ((iv 0))), none] [] G Q) : Xr E d x_X2_nonterminals 0 [some (.ref x0), none, none, none] [] G Q := by
  refine r_iconst dX2_nonterminals_0 ?_
  refine r_istore_n dX2_nonterminals_1 rfl ?_
  refine r_iconst dX2_nonterminals_2 ?_
  refine r_istore_n dX2_nonterminals_3 rfl ?_
  exact h
theorem e_X2_nonterminals {E : Ev} {d : Nat} {G : Hp} {Q : Po} {x0 : Nat} (h : Xr E d x_X2_nonterminals 4 [some (.ref x0), some (.int ((iv 0))), some (.int ((iv 0))), none] [] G Q) : runs E (d + 1) i_X2_nonterminals [.ref x0] G Q := by
  rw [runs_eq (m := (yX2_nonterminals, cX2_nonterminals, 4, some (.int), 0, 2, false, false)) rfl (Nat.le_of_ble_eq_true rfl)]
  exact g_X2_nonterminals_0 h
set_option maxRecDepth 10000 in
theorem g_X2_nonterminals_4 {E : Ev} {d : Nat} {G : Hp} {Q : Po} {x0 : Nat} {x1 : Int32} {x2 : Int32} {l3 : Option Value} (h : (qFI E G x0 2 1 fun v1 => (if v1 ≤ x2 then Q (some (.int x1)) G else (qFR E G x0 2 0 fun v2 => (qBA E G v2 x2 fun v3 => (qCI E d i_X6_isNonterminal [.int ((v3 - (iv 4)))] G fun v5 G4 => (if v5 = 0 then Xr E d x_X2_nonterminals 4 [some (.ref x0), some (.int x1), some (.int ((x2 + (iv 1)))), some (.int ((v3 - (iv 4))))] [] G4 Q else Xr E d x_X2_nonterminals 4 [some (.ref x0), some (.int ((x1 ||| ((iv 1) <<< ((v3 - (iv 4)) &&& 31))))), some (.int ((x2 + (iv 1)))), some (.int ((v3 - (iv 4))))] [] G4 Q))))))) : Xr E d x_X2_nonterminals 4 [some (.ref x0), some (.int x1), some (.int x2), l3] [] G Q := by
  refine r_iload_n dX2_nonterminals_4 rfl ?_
  refine r_aload_n dX2_nonterminals_5 rfl ?_
  refine r_getI dX2_nonterminals_6 rfl (qFI_imp (fun v1 h => ?_) h)
  refine r_cge (tgt := 40) dX2_nonterminals_9 (by decide) (ite_imp (fun h => ?_) (fun h => ?_) h)
  · refine r_iload_n dX2_nonterminals_40 rfl ?_
    exact r_iret dX2_nonterminals_41 rfl ⟨rfl, h⟩
  · refine r_aload_n dX2_nonterminals_12 rfl ?_
    refine r_getR dX2_nonterminals_13 rfl (qFR_imp (fun v2 h => ?_) h)
    refine r_iload_n dX2_nonterminals_16 rfl ?_
    refine r_bald dX2_nonterminals_17 (qBA_imp (fun v3 h => ?_) h)
    refine r_iconst dX2_nonterminals_18 ?_
    refine r_isub dX2_nonterminals_19 ?_
    refine r_istore_n dX2_nonterminals_20 rfl ?_
    refine r_iload_n dX2_nonterminals_21 rfl ?_
    refine r_cI dX2_nonterminals_22 rfl (invS_eq rfl (by decide) rfl rfl rfl rfl ⟨rfl, Nat.le_of_ble_eq_true rfl⟩) (qCI_imp (fun v5 G4 h => ?_) h)
    refine r_ifeq (tgt := 34) dX2_nonterminals_25 (by decide) (ite_imp (fun h => ?_) (fun h => ?_) h)
    · refine r_iinc dX2_nonterminals_34 rfl rfl ?_
      refine r_goto (tgt := 4) dX2_nonterminals_37 (by decide) ?_
      exact h
    · refine r_iload_n dX2_nonterminals_28 rfl ?_
      refine r_iconst dX2_nonterminals_29 ?_
      refine r_iload_n dX2_nonterminals_30 rfl ?_
      refine r_ishl dX2_nonterminals_31 ?_
      refine r_ior dX2_nonterminals_32 ?_
      refine r_istore_n dX2_nonterminals_33 rfl ?_
      refine r_iinc dX2_nonterminals_34 rfl rfl ?_
      refine r_goto (tgt := 4) dX2_nonterminals_37 (by decide) ?_
      exact h
theorem dX2_swapSymbols_0 : decode cX2_swapSymbols 0 = .ok (.iconst 0, 1) := by decide +kernel
theorem dX2_swapSymbols_1 : decode cX2_swapSymbols 1 = .ok (.istore_n 3, 1) := by decide +kernel
theorem dX2_swapSymbols_2 : decode cX2_swapSymbols 2 = .ok (.iconst 0, 1) := by decide +kernel
theorem dX2_swapSymbols_3 : decode cX2_swapSymbols 3 = .ok (.istore 4, 2) := by decide +kernel
theorem dX2_swapSymbols_5 : decode cX2_swapSymbols 5 = .ok (.iload 4, 2) := by decide +kernel
theorem dX2_swapSymbols_7 : decode cX2_swapSymbols 7 = .ok (.aload_n 0, 1) := by decide +kernel
theorem dX2_swapSymbols_8 : decode cX2_swapSymbols 8 = .ok (.getfield 21, 3) := by decide +kernel
theorem dX2_swapSymbols_11 : decode cX2_swapSymbols 11 = .ok (.if_icmp .ge 53, 3) := by decide +kernel
theorem dX2_swapSymbols_14 : decode cX2_swapSymbols 14 = .ok (.aload_n 0, 1) := by decide +kernel
theorem dX2_swapSymbols_15 : decode cX2_swapSymbols 15 = .ok (.getfield 15, 3) := by decide +kernel
theorem dX2_swapSymbols_18 : decode cX2_swapSymbols 18 = .ok (.iload 4, 2) := by decide +kernel
theorem dX2_swapSymbols_20 : decode cX2_swapSymbols 20 = .ok (.baload, 1) := by decide +kernel
theorem dX2_swapSymbols_21 : decode cX2_swapSymbols 21 = .ok (.iload_n 1, 1) := by decide +kernel
theorem dX2_swapSymbols_22 : decode cX2_swapSymbols 22 = .ok (.if_icmp .eq 14, 3) := by decide +kernel
theorem dX2_swapSymbols_25 : decode cX2_swapSymbols 25 = .ok (.aload_n 0, 1) := by decide +kernel
theorem dX2_swapSymbols_26 : decode cX2_swapSymbols 26 = .ok (.getfield 15, 3) := by decide +kernel
theorem dX2_swapSymbols_29 : decode cX2_swapSymbols 29 = .ok (.iload 4, 2) := by decide +kernel
theorem dX2_swapSymbols_31 : decode cX2_swapSymbols 31 = .ok (.baload, 1) := by decide +kernel
theorem dX2_swapSymbols_32 : decode cX2_swapSymbols 32 = .ok (.iload_n 2, 1) := by decide +kernel
theorem dX2_swapSymbols_33 : decode cX2_swapSymbols 33 = .ok (.if_icmp .ne 25, 3) := by decide +kernel
theorem dX2_swapSymbols_36 : decode cX2_swapSymbols 36 = .ok (.aload_n 0, 1) := by decide +kernel
theorem dX2_swapSymbols_37 : decode cX2_swapSymbols 37 = .ok (.getfield 15, 3) := by decide +kernel
theorem dX2_swapSymbols_40 : decode cX2_swapSymbols 40 = .ok (.iload 4, 2) := by decide +kernel
theorem dX2_swapSymbols_42 : decode cX2_swapSymbols 42 = .ok (.iload_n 1, 1) := by decide +kernel
theorem dX2_swapSymbols_43 : decode cX2_swapSymbols 43 = .ok (.iload_n 2, 1) := by decide +kernel
theorem dX2_swapSymbols_44 : decode cX2_swapSymbols 44 = .ok (.iadd, 1) := by decide +kernel
theorem dX2_swapSymbols_45 : decode cX2_swapSymbols 45 = .ok (.aload_n 0, 1) := by decide +kernel
theorem dX2_swapSymbols_46 : decode cX2_swapSymbols 46 = .ok (.getfield 15, 3) := by decide +kernel
theorem dX2_swapSymbols_49 : decode cX2_swapSymbols 49 = .ok (.iload 4, 2) := by decide +kernel
theorem dX2_swapSymbols_51 : decode cX2_swapSymbols 51 = .ok (.baload, 1) := by decide +kernel
theorem dX2_swapSymbols_52 : decode cX2_swapSymbols 52 = .ok (.isub, 1) := by decide +kernel
theorem dX2_swapSymbols_53 : decode cX2_swapSymbols 53 = .ok (.i2b, 1) := by decide +kernel
theorem dX2_swapSymbols_54 : decode cX2_swapSymbols 54 = .ok (.bastore, 1) := by decide +kernel
theorem dX2_swapSymbols_55 : decode cX2_swapSymbols 55 = .ok (.iinc 3 1, 3) := by decide +kernel
theorem dX2_swapSymbols_58 : decode cX2_swapSymbols 58 = .ok (.iinc 4 1, 3) := by decide +kernel
theorem dX2_swapSymbols_61 : decode cX2_swapSymbols 61 = .ok (.goto (-56), 3) := by decide +kernel
theorem dX2_swapSymbols_64 : decode cX2_swapSymbols 64 = .ok (.iload_n 3, 1) := by decide +kernel
theorem dX2_swapSymbols_65 : decode cX2_swapSymbols 65 = .ok (.ireturn, 1) := by decide +kernel
abbrev x_X2_swapSymbols : Cx := (2, cX2_swapSymbols, false, some (.int))
set_option maxRecDepth 10000 in
theorem g_X2_swapSymbols_0 {E : Ev} {d : Nat} {G : Hp} {Q : Po} {x0 : Nat} {x1 : Int32} {x2 : Int32} (h : Xr E d x_X2_swapSymbols 5 [some (.ref x0), some (.int x1), some (.int x2), some (.int ((iv 0))), some (.int ((iv 0)))] [] G Q) : Xr E d x_X2_swapSymbols 0 [some (.ref x0), some (.int x1), some (.int x2), none, none] [] G Q := by
  refine r_iconst dX2_swapSymbols_0 ?_
  refine r_istore_n dX2_swapSymbols_1 rfl ?_
  refine r_iconst dX2_swapSymbols_2 ?_
  refine r_istore dX2_swapSymbols_3 rfl ?_
  exact h
theorem e_X2_swapSymbols {E : Ev} {d : Nat} {G : Hp} {Q : Po} {x0 : Nat} {x1 : Int32} {x2 : Int32} (h : Xr E d x_X2_swapSymbols 5 [some (.ref x0), some (.int x1), some (.int x2), some (.int ((iv 0))), some (.int ((iv 0)))] [] G Q) : runs E (d + 1) i_X2_swapSymbols [.ref x0, .int x1, .int x2] G Q := by
  rw [runs_eq (m := (yX2_swapSymbols, cX2_swapSymbols, 5, some (.int), 2, 2, false, false)) rfl (Nat.le_of_ble_eq_true rfl)]
  exact g_X2_swapSymbols_0 h
set_option maxRecDepth 10000 in
theorem g_X2_swapSymbols_5 {E : Ev} {d : Nat} {G : Hp} {Q : Po} {x0 : Nat} {x1 : Int32} {x2 : Int32} {x3 : Int32} {x4 : Int32} (h : (qFI E G x0 2 1 fun v1 => (if v1 ≤ x4 then Q (some (.int x3)) G else (qFR E G x0 2 0 fun v2 => (qBA E G v2 x4 fun v3 => (if v3 = x1 then Xr E d x_X2_swapSymbols 36 [some (.ref x0), some (.int x1), some (.int x2), some (.int x3), some (.int x4)] [] G Q else (qFR E G x0 2 0 fun v4 => (qBA E G v4 x4 fun v5 => (if ¬ v5 = x2 then Xr E d x_X2_swapSymbols 5 [some (.ref x0), some (.int x1), some (.int x2), some (.int x3), some (.int ((x4 + (iv 1))))] [] G Q else Xr E d x_X2_swapSymbols 36 [some (.ref x0), some (.int x1), some (.int x2), some (.int x3), some (.int x4)] [] G Q))))))))) : Xr E d x_X2_swapSymbols 5 [some (.ref x0), some (.int x1), some (.int x2), some (.int x3), some (.int x4)] [] G Q := by
  refine r_iload dX2_swapSymbols_5 rfl ?_
  refine r_aload_n dX2_swapSymbols_7 rfl ?_
  refine r_getI dX2_swapSymbols_8 rfl (qFI_imp (fun v1 h => ?_) h)
  refine r_cge (tgt := 64) dX2_swapSymbols_11 (by decide) (ite_imp (fun h => ?_) (fun h => ?_) h)
  · refine r_iload_n dX2_swapSymbols_64 rfl ?_
    exact r_iret dX2_swapSymbols_65 rfl ⟨rfl, h⟩
  · refine r_aload_n dX2_swapSymbols_14 rfl ?_
    refine r_getR dX2_swapSymbols_15 rfl (qFR_imp (fun v2 h => ?_) h)
    refine r_iload dX2_swapSymbols_18 rfl ?_
    refine r_bald dX2_swapSymbols_20 (qBA_imp (fun v3 h => ?_) h)
    refine r_iload_n dX2_swapSymbols_21 rfl ?_
    refine r_ceq (tgt := 36) dX2_swapSymbols_22 (by decide) (ite_imp (fun h => ?_) (fun h => ?_) h)
    · exact h
    · refine r_aload_n dX2_swapSymbols_25 rfl ?_
      refine r_getR dX2_swapSymbols_26 rfl (qFR_imp (fun v4 h => ?_) h)
      refine r_iload dX2_swapSymbols_29 rfl ?_
      refine r_bald dX2_swapSymbols_31 (qBA_imp (fun v5 h => ?_) h)
      refine r_iload_n dX2_swapSymbols_32 rfl ?_
      refine r_cne (tgt := 58) dX2_swapSymbols_33 (by decide) (ite_imp (fun h => ?_) (fun h => ?_) h)
      · refine r_iinc dX2_swapSymbols_58 rfl rfl ?_
        refine r_goto (tgt := 5) dX2_swapSymbols_61 (by decide) ?_
        exact h
      · exact h
set_option maxRecDepth 10000 in
theorem g_X2_swapSymbols_36 {E : Ev} {d : Nat} {G : Hp} {Q : Po} {x0 : Nat} {x1 : Int32} {x2 : Int32} {x3 : Int32} {x4 : Int32} (h : (qFR E G x0 2 0 fun v1 => (qFR E G x0 2 0 fun v2 => (qBA E G v2 x4 fun v3 => (qBS E G v1 x4 ((((x1 + x2) - v3)).toInt8.toInt32) fun G4 => Xr E d x_X2_swapSymbols 5 [some (.ref x0), some (.int x1), some (.int x2), some (.int ((x3 + (iv 1)))), some (.int ((x4 + (iv 1))))] [] G4 Q))))) : Xr E d x_X2_swapSymbols 36 [some (.ref x0), some (.int x1), some (.int x2), some (.int x3), some (.int x4)] [] G Q := by
  refine r_aload_n dX2_swapSymbols_36 rfl ?_
  refine r_getR dX2_swapSymbols_37 rfl (qFR_imp (fun v1 h => ?_) h)
  refine r_iload dX2_swapSymbols_40 rfl ?_
  refine r_iload_n dX2_swapSymbols_42 rfl ?_
  refine r_iload_n dX2_swapSymbols_43 rfl ?_
  refine r_iadd dX2_swapSymbols_44 ?_
  refine r_aload_n dX2_swapSymbols_45 rfl ?_
  refine r_getR dX2_swapSymbols_46 rfl (qFR_imp (fun v2 h => ?_) h)
  refine r_iload dX2_swapSymbols_49 rfl ?_
  refine r_bald dX2_swapSymbols_51 (qBA_imp (fun v3 h => ?_) h)
  refine r_isub dX2_swapSymbols_52 ?_
  refine r_i2b dX2_swapSymbols_53 ?_
  refine r_bast dX2_swapSymbols_54 (qBS_imp (fun G4 h => ?_) h)
  refine r_iinc dX2_swapSymbols_55 rfl rfl ?_
  refine r_iinc dX2_swapSymbols_58 rfl rfl ?_
  refine r_goto (tgt := 5) dX2_swapSymbols_61 (by decide) ?_
  exact h
