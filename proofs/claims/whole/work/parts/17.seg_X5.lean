/-! segments, by program (wip/whole/gen/seg.py) -/
theorem dX5_init_0 : decode cX5_init 0 = .ok (.aload_n 0, 1) := by decide +kernel
theorem dX5_init_1 : decode cX5_init 1 = .ok (.invokespecial 3, 3) := by decide +kernel
theorem dX5_init_4 : decode cX5_init 4 = .ok (.aload_n 0, 1) := by decide +kernel
theorem dX5_init_5 : decode cX5_init 5 = .ok (.aload_n 1, 1) := by decide +kernel
theorem dX5_init_6 : decode cX5_init 6 = .ok (.putfield 9, 3) := by decide +kernel
theorem dX5_init_9 : decode cX5_init 9 = .ok (.aload_n 0, 1) := by decide +kernel
theorem dX5_init_10 : decode cX5_init 10 = .ok (.bipush 8, 2) := by decide +kernel
theorem dX5_init_12 : decode cX5_init 12 = .ok (.bipush 64, 2) := by decide +kernel
theorem dX5_init_14 : decode cX5_init 14 = .ok (.multianewarray 15 2, 4) := by decide +kernel
theorem dX5_init_18 : decode cX5_init 18 = .ok (.putfield 17, 3) := by decide +kernel
theorem dX5_init_21 : decode cX5_init 21 = .ok (.aload_n 0, 1) := by decide +kernel
theorem dX5_init_22 : decode cX5_init 22 = .ok (.iconst 4, 1) := by decide +kernel
theorem dX5_init_23 : decode cX5_init 23 = .ok (.bipush 64, 2) := by decide +kernel
theorem dX5_init_25 : decode cX5_init 25 = .ok (.multianewarray 15 2, 4) := by decide +kernel
theorem dX5_init_29 : decode cX5_init 29 = .ok (.putfield 20, 3) := by decide +kernel
theorem dX5_init_32 : decode cX5_init 32 = .ok (.aload_n 0, 1) := by decide +kernel
theorem dX5_init_33 : decode cX5_init 33 = .ok (.bipush 30, 2) := by decide +kernel
theorem dX5_init_35 : decode cX5_init 35 = .ok (.newarray .int, 2) := by decide +kernel
theorem dX5_init_37 : decode cX5_init 37 = .ok (.putfield 23, 3) := by decide +kernel
theorem dX5_init_40 : decode cX5_init 40 = .ok (.aload_n 0, 1) := by decide +kernel
theorem dX5_init_41 : decode cX5_init 41 = .ok (.iconst 0, 1) := by decide +kernel
theorem dX5_init_42 : decode cX5_init 42 = .ok (.putfield 27, 3) := by decide +kernel
theorem dX5_init_45 : decode cX5_init 45 = .ok (.aload_n 0, 1) := by decide +kernel
theorem dX5_init_46 : decode cX5_init 46 = .ok (.iconst (-1), 1) := by decide +kernel
theorem dX5_init_47 : decode cX5_init 47 = .ok (.putfield 31, 3) := by decide +kernel
theorem dX5_init_50 : decode cX5_init 50 = .ok (.return_, 1) := by decide +kernel
abbrev x_X5_init : Cx := (5, cX5_init, true, none)
set_option maxRecDepth 10000 in
theorem g_X5_init_0 {E : Ev} {d : Nat} {G : Hp} {Q : Po} {x0 : Nat} {x1 : Nat} (h : (qP E G x0 5 0 (.ref x1) fun G1 => ((¬ (iv 8) < 0 ∧ ¬ (iv 64) < 0 ∧ ((iv 8)).toNatClampNeg ≤ 1000 ∧ ((iv 64)).toNatClampNeg ≤ 1000) ∧ (qP E (pshs (psh G1 (cR 2 ((iv 8)).toNatClampNeg (fun i => if i < ((iv 8)).toNatClampNeg then some (nxA E G1 + 1 + i) else none)) ((iv 8)).toNatClampNeg) ((iv 8)).toNatClampNeg ((iv 64)).toNatClampNeg) x0 5 1 (.ref ((nxA E G1))) fun G2 => ((¬ (iv 4) < 0 ∧ ¬ (iv 64) < 0 ∧ ((iv 4)).toNatClampNeg ≤ 1000 ∧ ((iv 64)).toNatClampNeg ≤ 1000) ∧ (qP E (pshs (psh G2 (cR 2 ((iv 4)).toNatClampNeg (fun i => if i < ((iv 4)).toNatClampNeg then some (nxA E G2 + 1 + i) else none)) ((iv 4)).toNatClampNeg) ((iv 4)).toNatClampNeg ((iv 64)).toNatClampNeg) x0 5 2 (.ref ((nxA E G2))) fun G3 => ((¬ (iv 30) < 0 ∧ ((iv 30)).toNatClampNeg ≤ 100000) ∧ (qP E (psh G3 (cA 0 ((iv 30)).toNatClampNeg (fun _ => 0)) ((iv 30)).toNatClampNeg) x0 5 3 (.ref ((nxA E G3))) fun G4 => (qP E G4 x0 5 4 (.int ((iv 0))) fun G5 => (qP E G5 x0 5 5 (.int ((iv (-1)))) fun G6 => Q none G6)))))))))) : Xr E d x_X5_init 0 [some (.ref x0), some (.ref x1)] [] G Q := by
  refine r_aload_n dX5_init_0 rfl ?_
  refine r_oinit dX5_init_1 rfl (Nat.le_of_ble_eq_true rfl) ?_
  refine r_aload_n dX5_init_4 rfl ?_
  refine r_aload_n dX5_init_5 rfl ?_
  refine r_put dX5_init_6 rfl rfl (by decide) (qP_imp (fun G1 h => ?_) h)
  refine r_aload_n dX5_init_9 rfl ?_
  refine r_bipush dX5_init_10 rfl ?_
  refine r_bipush dX5_init_12 rfl ?_
  refine r_newM dX5_init_14 rfl ⟨h.1, ?_⟩
  replace h := h.2
  refine r_put dX5_init_18 rfl rfl (by decide) (qP_imp (fun G2 h => ?_) h)
  refine r_aload_n dX5_init_21 rfl ?_
  refine r_iconst dX5_init_22 ?_
  refine r_bipush dX5_init_23 rfl ?_
  refine r_newM dX5_init_25 rfl ⟨h.1, ?_⟩
  replace h := h.2
  refine r_put dX5_init_29 rfl rfl (by decide) (qP_imp (fun G3 h => ?_) h)
  refine r_aload_n dX5_init_32 rfl ?_
  refine r_bipush dX5_init_33 rfl ?_
  refine r_newI dX5_init_35 ⟨h.1, ?_⟩
  replace h := h.2
  refine r_put dX5_init_37 rfl rfl (by decide) (qP_imp (fun G4 h => ?_) h)
  refine r_aload_n dX5_init_40 rfl ?_
  refine r_iconst dX5_init_41 ?_
  refine r_put dX5_init_42 rfl rfl (by decide) (qP_imp (fun G5 h => ?_) h)
  refine r_aload_n dX5_init_45 rfl ?_
  refine r_iconst dX5_init_46 ?_
  refine r_put dX5_init_47 rfl rfl (by decide) (qP_imp (fun G6 h => ?_) h)
  exact r_vret dX5_init_50 rfl h
theorem e_X5_init {E : Ev} {d : Nat} {G : Hp} {Q : Po} {x0 : Nat} {x1 : Nat} (h : (qP E G x0 5 0 (.ref x1) fun G1 => ((¬ (iv 8) < 0 ∧ ¬ (iv 64) < 0 ∧ ((iv 8)).toNatClampNeg ≤ 1000 ∧ ((iv 64)).toNatClampNeg ≤ 1000) ∧ (qP E (pshs (psh G1 (cR 2 ((iv 8)).toNatClampNeg (fun i => if i < ((iv 8)).toNatClampNeg then some (nxA E G1 + 1 + i) else none)) ((iv 8)).toNatClampNeg) ((iv 8)).toNatClampNeg ((iv 64)).toNatClampNeg) x0 5 1 (.ref ((nxA E G1))) fun G2 => ((¬ (iv 4) < 0 ∧ ¬ (iv 64) < 0 ∧ ((iv 4)).toNatClampNeg ≤ 1000 ∧ ((iv 64)).toNatClampNeg ≤ 1000) ∧ (qP E (pshs (psh G2 (cR 2 ((iv 4)).toNatClampNeg (fun i => if i < ((iv 4)).toNatClampNeg then some (nxA E G2 + 1 + i) else none)) ((iv 4)).toNatClampNeg) ((iv 4)).toNatClampNeg ((iv 64)).toNatClampNeg) x0 5 2 (.ref ((nxA E G2))) fun G3 => ((¬ (iv 30) < 0 ∧ ((iv 30)).toNatClampNeg ≤ 100000) ∧ (qP E (psh G3 (cA 0 ((iv 30)).toNatClampNeg (fun _ => 0)) ((iv 30)).toNatClampNeg) x0 5 3 (.ref ((nxA E G3))) fun G4 => (qP E G4 x0 5 4 (.int ((iv 0))) fun G5 => (qP E G5 x0 5 5 (.int ((iv (-1)))) fun G6 => Q none G6)))))))))) : runs E (d + 1) i_X5_init [.ref x0, .ref x1] G Q := by
  rw [runs_eq (m := (yX5_init, cX5_init, 2, none, 1, 5, true, false)) rfl (Nat.le_of_ble_eq_true rfl)]
  exact g_X5_init_0 h
theorem dX5_upToDate_0 : decode cX5_upToDate 0 = .ok (.aload_n 0, 1) := by decide +kernel
theorem dX5_upToDate_1 : decode cX5_upToDate 1 = .ok (.getfield 31, 3) := by decide +kernel
theorem dX5_upToDate_4 : decode cX5_upToDate 4 = .ok (.aload_n 0, 1) := by decide +kernel
theorem dX5_upToDate_5 : decode cX5_upToDate 5 = .ok (.getfield 9, 3) := by decide +kernel
theorem dX5_upToDate_8 : decode cX5_upToDate 8 = .ok (.invokevirtual 34, 3) := by decide +kernel
theorem dX5_upToDate_11 : decode cX5_upToDate 11 = .ok (.if_icmp .eq 57, 3) := by decide +kernel
theorem dX5_upToDate_14 : decode cX5_upToDate 14 = .ok (.aload_n 0, 1) := by decide +kernel
theorem dX5_upToDate_15 : decode cX5_upToDate 15 = .ok (.invokevirtual 40, 3) := by decide +kernel
theorem dX5_upToDate_18 : decode cX5_upToDate 18 = .ok (.iconst 1, 1) := by decide +kernel
theorem dX5_upToDate_19 : decode cX5_upToDate 19 = .ok (.istore_n 1, 1) := by decide +kernel
theorem dX5_upToDate_20 : decode cX5_upToDate 20 = .ok (.aload_n 0, 1) := by decide +kernel
theorem dX5_upToDate_21 : decode cX5_upToDate 21 = .ok (.iconst 0, 1) := by decide +kernel
theorem dX5_upToDate_22 : decode cX5_upToDate 22 = .ok (.putfield 27, 3) := by decide +kernel
theorem dX5_upToDate_25 : decode cX5_upToDate 25 = .ok (.iload_n 1, 1) := by decide +kernel
theorem dX5_upToDate_26 : decode cX5_upToDate 26 = .ok (.ifCond .eq 31, 3) := by decide +kernel
theorem dX5_upToDate_29 : decode cX5_upToDate 29 = .ok (.aload_n 0, 1) := by decide +kernel
theorem dX5_upToDate_30 : decode cX5_upToDate 30 = .ok (.getfield 27, 3) := by decide +kernel
theorem dX5_upToDate_33 : decode cX5_upToDate 33 = .ok (.sipush 243, 3) := by decide +kernel
theorem dX5_upToDate_36 : decode cX5_upToDate 36 = .ok (.if_icmp .gt 21, 3) := by decide +kernel
theorem dX5_upToDate_39 : decode cX5_upToDate 39 = .ok (.aload_n 0, 1) := by decide +kernel
theorem dX5_upToDate_40 : decode cX5_upToDate 40 = .ok (.invokevirtual 43, 3) := by decide +kernel
theorem dX5_upToDate_43 : decode cX5_upToDate 43 = .ok (.istore_n 1, 1) := by decide +kernel
theorem dX5_upToDate_44 : decode cX5_upToDate 44 = .ok (.aload_n 0, 1) := by decide +kernel
theorem dX5_upToDate_45 : decode cX5_upToDate 45 = .ok (.dup, 1) := by decide +kernel
theorem dX5_upToDate_46 : decode cX5_upToDate 46 = .ok (.getfield 27, 3) := by decide +kernel
theorem dX5_upToDate_49 : decode cX5_upToDate 49 = .ok (.iconst 1, 1) := by decide +kernel
theorem dX5_upToDate_50 : decode cX5_upToDate 50 = .ok (.iadd, 1) := by decide +kernel
theorem dX5_upToDate_51 : decode cX5_upToDate 51 = .ok (.putfield 27, 3) := by decide +kernel
theorem dX5_upToDate_54 : decode cX5_upToDate 54 = .ok (.goto (-29), 3) := by decide +kernel
theorem dX5_upToDate_57 : decode cX5_upToDate 57 = .ok (.aload_n 0, 1) := by decide +kernel
theorem dX5_upToDate_58 : decode cX5_upToDate 58 = .ok (.aload_n 0, 1) := by decide +kernel
theorem dX5_upToDate_59 : decode cX5_upToDate 59 = .ok (.getfield 9, 3) := by decide +kernel
theorem dX5_upToDate_62 : decode cX5_upToDate 62 = .ok (.invokevirtual 34, 3) := by decide +kernel
theorem dX5_upToDate_65 : decode cX5_upToDate 65 = .ok (.putfield 31, 3) := by decide +kernel
theorem dX5_upToDate_68 : decode cX5_upToDate 68 = .ok (.aload_n 0, 1) := by decide +kernel
theorem dX5_upToDate_69 : decode cX5_upToDate 69 = .ok (.areturn, 1) := by decide +kernel
abbrev x_X5_upToDate : Cx := (5, cX5_upToDate, false, some (.object "RecursionSchemes$TypeCheck"))
set_option maxRecDepth 10000 in
theorem g_X5_upToDate_0 {E : Ev} {d : Nat} {G : Hp} {Q : Po} {x0 : Nat} (h : (qFI E G x0 5 5 fun v1 => (qFR E G x0 5 0 fun v2 => (rcv E G v2 1 = true ∧ (qCI E d i_X1_edits [.ref v2] G fun v4 G3 => (if v1 = v4 then Q (some (.ref x0)) G3 else (rcv E G3 x0 5 = true ∧ (qCV E d i_X5_start [.ref x0] G3 fun G5 => (qP E G5 x0 5 4 (.int ((iv 0))) fun G6 => Xr E d x_X5_upToDate 25 [some (.ref x0), some (.int ((iv 1)))] [] G6 Q))))))))) : Xr E d x_X5_upToDate 0 [some (.ref x0), none] [] G Q := by
  refine r_aload_n dX5_upToDate_0 rfl ?_
  refine r_getI dX5_upToDate_1 rfl (qFI_imp (fun v1 h => ?_) h)
  refine r_aload_n dX5_upToDate_4 rfl ?_
  refine r_getR dX5_upToDate_5 rfl (qFR_imp (fun v2 h => ?_) h)
  refine r_cI dX5_upToDate_8 rfl (invV_eq rfl rfl rfl rfl rfl rfl ⟨rfl, Nat.le_of_ble_eq_true rfl⟩ h.1) (qCI_imp (fun v4 G3 h => ?_) h.2)
  refine r_ceq (tgt := 68) dX5_upToDate_11 (by decide) (ite_imp (fun h => ?_) (fun h => ?_) h)
  · refine r_aload_n dX5_upToDate_68 rfl ?_
    exact r_aret dX5_upToDate_69 rfl h
  · refine r_aload_n dX5_upToDate_14 rfl ?_
    refine r_cV dX5_upToDate_15 rfl (invV_eq rfl rfl rfl rfl rfl rfl ⟨rfl, Nat.le_of_ble_eq_true rfl⟩ h.1) (qCV_imp (fun G5 h => ?_) h.2)
    refine r_iconst dX5_upToDate_18 ?_
    refine r_istore_n dX5_upToDate_19 rfl ?_
    refine r_aload_n dX5_upToDate_20 rfl ?_
    refine r_iconst dX5_upToDate_21 ?_
    refine r_put dX5_upToDate_22 rfl rfl (by decide) (qP_imp (fun G6 h => ?_) h)
    exact h
theorem e_X5_upToDate {E : Ev} {d : Nat} {G : Hp} {Q : Po} {x0 : Nat} (h : (qFI E G x0 5 5 fun v1 => (qFR E G x0 5 0 fun v2 => (rcv E G v2 1 = true ∧ (qCI E d i_X1_edits [.ref v2] G fun v4 G3 => (if v1 = v4 then Q (some (.ref x0)) G3 else (rcv E G3 x0 5 = true ∧ (qCV E d i_X5_start [.ref x0] G3 fun G5 => (qP E G5 x0 5 4 (.int ((iv 0))) fun G6 => Xr E d x_X5_upToDate 25 [some (.ref x0), some (.int ((iv 1)))] [] G6 Q))))))))) : runs E (d + 1) i_X5_upToDate [.ref x0] G Q := by
  rw [runs_eq (m := (yX5_upToDate, cX5_upToDate, 2, some (.object "RecursionSchemes$TypeCheck"), 0, 5, false, false)) rfl (Nat.le_of_ble_eq_true rfl)]
  exact g_X5_upToDate_0 h
set_option maxRecDepth 10000 in
theorem g_X5_upToDate_25 {E : Ev} {d : Nat} {G : Hp} {Q : Po} {x0 : Nat} {x1 : Int32} (h : (if x1 = 0 then (qFR E G x0 5 0 fun v1 => (rcv E G v1 1 = true ∧ (qCI E d i_X1_edits [.ref v1] G fun v3 G2 => (qP E G2 x0 5 5 (.int v3) fun G4 => Q (some (.ref x0)) G4)))) else (qFI E G x0 5 4 fun v5 => (if (iv 243) < v5 then (qFR E G x0 5 0 fun v6 => (rcv E G v6 1 = true ∧ (qCI E d i_X1_edits [.ref v6] G fun v8 G7 => (qP E G7 x0 5 5 (.int v8) fun G9 => Q (some (.ref x0)) G9)))) else (rcv E G x0 5 = true ∧ (qCI E d i_X5_removeUnjustified [.ref x0] G fun v11 G10 => (qFI E G10 x0 5 4 fun v12 => (qP E G10 x0 5 4 (.int ((v12 + (iv 1)))) fun G13 => Xr E d x_X5_upToDate 25 [some (.ref x0), some (.int v11)] [] G13 Q)))))))) : Xr E d x_X5_upToDate 25 [some (.ref x0), some (.int x1)] [] G Q := by
  refine r_iload_n dX5_upToDate_25 rfl ?_
  refine r_ifeq (tgt := 57) dX5_upToDate_26 (by decide) (ite_imp (fun h => ?_) (fun h => ?_) h)
  · refine r_aload_n dX5_upToDate_57 rfl ?_
    refine r_aload_n dX5_upToDate_58 rfl ?_
    refine r_getR dX5_upToDate_59 rfl (qFR_imp (fun v1 h => ?_) h)
    refine r_cI dX5_upToDate_62 rfl (invV_eq rfl rfl rfl rfl rfl rfl ⟨rfl, Nat.le_of_ble_eq_true rfl⟩ h.1) (qCI_imp (fun v3 G2 h => ?_) h.2)
    refine r_put dX5_upToDate_65 rfl rfl (by decide) (qP_imp (fun G4 h => ?_) h)
    refine r_aload_n dX5_upToDate_68 rfl ?_
    exact r_aret dX5_upToDate_69 rfl h
  · refine r_aload_n dX5_upToDate_29 rfl ?_
    refine r_getI dX5_upToDate_30 rfl (qFI_imp (fun v5 h => ?_) h)
    refine r_sipush dX5_upToDate_33 rfl ?_
    refine r_cgt (tgt := 57) dX5_upToDate_36 (by decide) (ite_imp (fun h => ?_) (fun h => ?_) h)
    · refine r_aload_n dX5_upToDate_57 rfl ?_
      refine r_aload_n dX5_upToDate_58 rfl ?_
      refine r_getR dX5_upToDate_59 rfl (qFR_imp (fun v6 h => ?_) h)
      refine r_cI dX5_upToDate_62 rfl (invV_eq rfl rfl rfl rfl rfl rfl ⟨rfl, Nat.le_of_ble_eq_true rfl⟩ h.1) (qCI_imp (fun v8 G7 h => ?_) h.2)
      refine r_put dX5_upToDate_65 rfl rfl (by decide) (qP_imp (fun G9 h => ?_) h)
      refine r_aload_n dX5_upToDate_68 rfl ?_
      exact r_aret dX5_upToDate_69 rfl h
    · refine r_aload_n dX5_upToDate_39 rfl ?_
      refine r_cI dX5_upToDate_40 rfl (invV_eq rfl rfl rfl rfl rfl rfl ⟨rfl, Nat.le_of_ble_eq_true rfl⟩ h.1) (qCI_imp (fun v11 G10 h => ?_) h.2)
      refine r_istore_n dX5_upToDate_43 rfl ?_
      refine r_aload_n dX5_upToDate_44 rfl ?_
      refine r_dup dX5_upToDate_45 rfl ?_
      refine r_getI dX5_upToDate_46 rfl (qFI_imp (fun v12 h => ?_) h)
      refine r_iconst dX5_upToDate_49 ?_
      refine r_iadd dX5_upToDate_50 ?_
      refine r_put dX5_upToDate_51 rfl rfl (by decide) (qP_imp (fun G13 h => ?_) h)
      refine r_goto (tgt := 25) dX5_upToDate_54 (by decide) ?_
      exact h
theorem dX5_acceptance_0 : decode cX5_acceptance 0 = .ok (.aload_n 0, 1) := by decide +kernel
theorem dX5_acceptance_1 : decode cX5_acceptance 1 = .ok (.iconst 0, 1) := by decide +kernel
theorem dX5_acceptance_2 : decode cX5_acceptance 2 = .ok (.iconst 0, 1) := by decide +kernel
theorem dX5_acceptance_3 : decode cX5_acceptance 3 = .ok (.iconst 0, 1) := by decide +kernel
theorem dX5_acceptance_4 : decode cX5_acceptance 4 = .ok (.invokevirtual 47, 3) := by decide +kernel
theorem dX5_acceptance_7 : decode cX5_acceptance 7 = .ok (.ifCond .eq 7, 3) := by decide +kernel
theorem dX5_acceptance_10 : decode cX5_acceptance 10 = .ok (.iconst 1, 1) := by decide +kernel
theorem dX5_acceptance_11 : decode cX5_acceptance 11 = .ok (.goto 4, 3) := by decide +kernel
theorem dX5_acceptance_14 : decode cX5_acceptance 14 = .ok (.iconst 0, 1) := by decide +kernel
theorem dX5_acceptance_15 : decode cX5_acceptance 15 = .ok (.ireturn, 1) := by decide +kernel
abbrev x_X5_acceptance : Cx := (5, cX5_acceptance, false, some (.int))
set_option maxRecDepth 10000 in
theorem g_X5_acceptance_0 {E : Ev} {d : Nat} {G : Hp} {Q : Po} {x0 : Nat} (h : (rcv E G x0 5 = true ∧ (qCI E d i_X5_holds [.ref x0, .int ((iv 0)), .int ((iv 0)), .int ((iv 0))] G fun v2 G1 => (if v2 = 0 then Q (some (.int (iv 0))) G1 else Q (some (.int (iv 1))) G1)))) : Xr E d x_X5_acceptance 0 [some (.ref x0)] [] G Q := by
  refine r_aload_n dX5_acceptance_0 rfl ?_
  refine r_iconst dX5_acceptance_1 ?_
  refine r_iconst dX5_acceptance_2 ?_
  refine r_iconst dX5_acceptance_3 ?_
  refine r_cI dX5_acceptance_4 rfl (invV_eq rfl rfl rfl rfl rfl rfl ⟨rfl, Nat.le_of_ble_eq_true rfl⟩ h.1) (qCI_imp (fun v2 G1 h => ?_) h.2)
  refine r_ifeq (tgt := 14) dX5_acceptance_7 (by decide) (ite_imp (fun h => ?_) (fun h => ?_) h)
  · refine r_iconst dX5_acceptance_14 ?_
    exact r_iret dX5_acceptance_15 rfl ⟨rfl, h⟩
  · refine r_iconst dX5_acceptance_10 ?_
    refine r_goto (tgt := 15) dX5_acceptance_11 (by decide) ?_
    exact r_iret dX5_acceptance_15 rfl ⟨rfl, h⟩
theorem e_X5_acceptance {E : Ev} {d : Nat} {G : Hp} {Q : Po} {x0 : Nat} (h : (rcv E G x0 5 = true ∧ (qCI E d i_X5_holds [.ref x0, .int ((iv 0)), .int ((iv 0)), .int ((iv 0))] G fun v2 G1 => (if v2 = 0 then Q (some (.int (iv 0))) G1 else Q (some (.int (iv 1))) G1)))) : runs E (d + 1) i_X5_acceptance [.ref x0] G Q := by
  rw [runs_eq (m := (yX5_acceptance, cX5_acceptance, 1, some (.int), 0, 5, false, false)) rfl (Nat.le_of_ble_eq_true rfl)]
  exact g_X5_acceptance_0 h
theorem dX5_roundCount_0 : decode cX5_roundCount 0 = .ok (.aload_n 0, 1) := by decide +kernel
theorem dX5_roundCount_1 : decode cX5_roundCount 1 = .ok (.getfield 27, 3) := by decide +kernel
theorem dX5_roundCount_4 : decode cX5_roundCount 4 = .ok (.ireturn, 1) := by decide +kernel
abbrev x_X5_roundCount : Cx := (5, cX5_roundCount, false, some (.int))
set_option maxRecDepth 10000 in
theorem g_X5_roundCount_0 {E : Ev} {d : Nat} {G : Hp} {Q : Po} {x0 : Nat} (h : (qFI E G x0 5 4 fun v1 => Q (some (.int v1)) G)) : Xr E d x_X5_roundCount 0 [some (.ref x0)] [] G Q := by
  refine r_aload_n dX5_roundCount_0 rfl ?_
  refine r_getI dX5_roundCount_1 rfl (qFI_imp (fun v1 h => ?_) h)
  exact r_iret dX5_roundCount_4 rfl ⟨rfl, h⟩
theorem e_X5_roundCount {E : Ev} {d : Nat} {G : Hp} {Q : Po} {x0 : Nat} (h : (qFI E G x0 5 4 fun v1 => Q (some (.int v1)) G)) : runs E (d + 1) i_X5_roundCount [.ref x0] G Q := by
  rw [runs_eq (m := (yX5_roundCount, cX5_roundCount, 1, some (.int), 0, 5, false, false)) rfl (Nat.le_of_ble_eq_true rfl)]
  exact g_X5_roundCount_0 h
theorem dX5_holds_0 : decode cX5_holds 0 = .ok (.aload_n 0, 1) := by decide +kernel
theorem dX5_holds_1 : decode cX5_holds 1 = .ok (.getfield 17, 3) := by decide +kernel
theorem dX5_holds_4 : decode cX5_holds 4 = .ok (.iconst 4, 1) := by decide +kernel
theorem dX5_holds_5 : decode cX5_holds 5 = .ok (.iload_n 1, 1) := by decide +kernel
theorem dX5_holds_6 : decode cX5_holds 6 = .ok (.iadd, 1) := by decide +kernel
theorem dX5_holds_7 : decode cX5_holds 7 = .ok (.aaload, 1) := by decide +kernel
theorem dX5_holds_8 : decode cX5_holds 8 = .ok (.iload_n 3, 1) := by decide +kernel
theorem dX5_holds_9 : decode cX5_holds 9 = .ok (.baload, 1) := by decide +kernel
theorem dX5_holds_10 : decode cX5_holds 10 = .ok (.iload_n 2, 1) := by decide +kernel
theorem dX5_holds_11 : decode cX5_holds 11 = .ok (.ishr, 1) := by decide +kernel
theorem dX5_holds_12 : decode cX5_holds 12 = .ok (.iconst 1, 1) := by decide +kernel
theorem dX5_holds_13 : decode cX5_holds 13 = .ok (.iand, 1) := by decide +kernel
theorem dX5_holds_14 : decode cX5_holds 14 = .ok (.ifCond .eq 7, 3) := by decide +kernel
theorem dX5_holds_17 : decode cX5_holds 17 = .ok (.iconst 1, 1) := by decide +kernel
theorem dX5_holds_18 : decode cX5_holds 18 = .ok (.goto 4, 3) := by decide +kernel
theorem dX5_holds_21 : decode cX5_holds 21 = .ok (.iconst 0, 1) := by decide +kernel
theorem dX5_holds_22 : decode cX5_holds 22 = .ok (.ireturn, 1) := by decide +kernel
abbrev x_X5_holds : Cx := (5, cX5_holds, false, some (.boolean))
set_option maxRecDepth 10000 in
theorem g_X5_holds_0 {E : Ev} {d : Nat} {G : Hp} {Q : Po} {x0 : Nat} {x1 : Int32} {x2 : Int32} {x3 : Int32} (h : (qFR E G x0 5 1 fun v1 => (qRA E G v1 ((iv 4) + x1) fun v2 => (qBA E G v2 x3 fun v3 => (if ((v3 >>> (x2 &&& 31)) &&& (iv 1)) = 0 then Q (some (.int (iv 0))) G else Q (some (.int (iv 1))) G))))) : Xr E d x_X5_holds 0 [some (.ref x0), some (.int x1), some (.int x2), some (.int x3)] [] G Q := by
  refine r_aload_n dX5_holds_0 rfl ?_
  refine r_getR dX5_holds_1 rfl (qFR_imp (fun v1 h => ?_) h)
  refine r_iconst dX5_holds_4 ?_
  refine r_iload_n dX5_holds_5 rfl ?_
  refine r_iadd dX5_holds_6 ?_
  refine r_aald dX5_holds_7 (qRA_imp (fun v2 h => ?_) h)
  refine r_iload_n dX5_holds_8 rfl ?_
  refine r_bald dX5_holds_9 (qBA_imp (fun v3 h => ?_) h)
  refine r_iload_n dX5_holds_10 rfl ?_
  refine r_ishr dX5_holds_11 ?_
  refine r_iconst dX5_holds_12 ?_
  refine r_iand dX5_holds_13 ?_
  refine r_ifeq (tgt := 21) dX5_holds_14 (by decide) (ite_imp (fun h => ?_) (fun h => ?_) h)
  · refine r_iconst dX5_holds_21 ?_
    exact r_iret dX5_holds_22 rfl ⟨rfl, h⟩
  · refine r_iconst dX5_holds_17 ?_
    refine r_goto (tgt := 22) dX5_holds_18 (by decide) ?_
    exact r_iret dX5_holds_22 rfl ⟨rfl, h⟩
theorem e_X5_holds {E : Ev} {d : Nat} {G : Hp} {Q : Po} {x0 : Nat} {x1 : Int32} {x2 : Int32} {x3 : Int32} (h : (qFR E G x0 5 1 fun v1 => (qRA E G v1 ((iv 4) + x1) fun v2 => (qBA E G v2 x3 fun v3 => (if ((v3 >>> (x2 &&& 31)) &&& (iv 1)) = 0 then Q (some (.int (iv 0))) G else Q (some (.int (iv 1))) G))))) : runs E (d + 1) i_X5_holds [.ref x0, .int x1, .int x2, .int x3] G Q := by
  rw [runs_eq (m := (yX5_holds, cX5_holds, 4, some (.boolean), 3, 5, false, false)) rfl (Nat.le_of_ble_eq_true rfl)]
  exact g_X5_holds_0 h
theorem dX5_validCount_0 : decode cX5_validCount 0 = .ok (.iconst 0, 1) := by decide +kernel
theorem dX5_validCount_1 : decode cX5_validCount 1 = .ok (.istore_n 2, 1) := by decide +kernel
theorem dX5_validCount_2 : decode cX5_validCount 2 = .ok (.iconst 0, 1) := by decide +kernel
theorem dX5_validCount_3 : decode cX5_validCount 3 = .ok (.istore_n 3, 1) := by decide +kernel
theorem dX5_validCount_4 : decode cX5_validCount 4 = .ok (.iload_n 3, 1) := by decide +kernel
theorem dX5_validCount_5 : decode cX5_validCount 5 = .ok (.iload_n 1, 1) := by decide +kernel
theorem dX5_validCount_6 : decode cX5_validCount 6 = .ok (.invokestatic 51, 3) := by decide +kernel
theorem dX5_validCount_9 : decode cX5_validCount 9 = .ok (.if_icmp .ge 25, 3) := by decide +kernel
theorem dX5_validCount_12 : decode cX5_validCount 12 = .ok (.iload_n 2, 1) := by decide +kernel
theorem dX5_validCount_13 : decode cX5_validCount 13 = .ok (.aload_n 0, 1) := by decide +kernel
theorem dX5_validCount_14 : decode cX5_validCount 14 = .ok (.getfield 17, 3) := by decide +kernel
theorem dX5_validCount_17 : decode cX5_validCount 17 = .ok (.iconst 4, 1) := by decide +kernel
theorem dX5_validCount_18 : decode cX5_validCount 18 = .ok (.iload_n 1, 1) := by decide +kernel
theorem dX5_validCount_19 : decode cX5_validCount 19 = .ok (.iadd, 1) := by decide +kernel
theorem dX5_validCount_20 : decode cX5_validCount 20 = .ok (.aaload, 1) := by decide +kernel
theorem dX5_validCount_21 : decode cX5_validCount 21 = .ok (.iload_n 3, 1) := by decide +kernel
theorem dX5_validCount_22 : decode cX5_validCount 22 = .ok (.baload, 1) := by decide +kernel
theorem dX5_validCount_23 : decode cX5_validCount 23 = .ok (.invokestatic 55, 3) := by decide +kernel
theorem dX5_validCount_26 : decode cX5_validCount 26 = .ok (.iadd, 1) := by decide +kernel
theorem dX5_validCount_27 : decode cX5_validCount 27 = .ok (.istore_n 2, 1) := by decide +kernel
theorem dX5_validCount_28 : decode cX5_validCount 28 = .ok (.iinc 3 1, 3) := by decide +kernel
theorem dX5_validCount_31 : decode cX5_validCount 31 = .ok (.goto (-27), 3) := by decide +kernel
theorem dX5_validCount_34 : decode cX5_validCount 34 = .ok (.iload_n 2, 1) := by decide +kernel
theorem dX5_validCount_35 : decode cX5_validCount 35 = .ok (.ireturn, 1) := by decide +kernel
abbrev x_X5_validCount : Cx := (5, cX5_validCount, false, some (.int))
set_option maxRecDepth 10000 in
theorem g_X5_validCount_0 {E : Ev} {d : Nat} {G : Hp} {Q : Po} {x0 : Nat} {x1 : Int32} (h : Xr E d x_X5_validCount 4 [some (.ref x0), some (.int x1), some (.int ((iv 0))), some (.int ((iv 0)))] [] G Q) : Xr E d x_X5_validCount 0 [some (.ref x0), some (.int x1), none, none] [] G Q := by
  refine r_iconst dX5_validCount_0 ?_
  refine r_istore_n dX5_validCount_1 rfl ?_
  refine r_iconst dX5_validCount_2 ?_
  refine r_istore_n dX5_validCount_3 rfl ?_
  exact h
theorem e_X5_validCount {E : Ev} {d : Nat} {G : Hp} {Q : Po} {x0 : Nat} {x1 : Int32} (h : Xr E d x_X5_validCount 4 [some (.ref x0), some (.int x1), some (.int ((iv 0))), some (.int ((iv 0)))] [] G Q) : runs E (d + 1) i_X5_validCount [.ref x0, .int x1] G Q := by
  rw [runs_eq (m := (yX5_validCount, cX5_validCount, 4, some (.int), 1, 5, false, false)) rfl (Nat.le_of_ble_eq_true rfl)]
  exact g_X5_validCount_0 h
set_option maxRecDepth 10000 in
theorem g_X5_validCount_4 {E : Ev} {d : Nat} {G : Hp} {Q : Po} {x0 : Nat} {x1 : Int32} {x2 : Int32} {x3 : Int32} (h : (qCI E d i_X5_settingsOf [.int x1] G fun v2 G1 => (if v2 ≤ x3 then Q (some (.int x2)) G1 else (qFR E G1 x0 5 1 fun v3 => (qRA E G1 v3 ((iv 4) + x1) fun v4 => (qBA E G1 v4 x3 fun v5 => (qCI E d i_J6_bitCount_0f7a4 [.int v5] G1 fun v7 G6 => Xr E d x_X5_validCount 4 [some (.ref x0), some (.int x1), some (.int ((x2 + v7))), some (.int ((x3 + (iv 1))))] [] G6 Q))))))) : Xr E d x_X5_validCount 4 [some (.ref x0), some (.int x1), some (.int x2), some (.int x3)] [] G Q := by
  refine r_iload_n dX5_validCount_4 rfl ?_
  refine r_iload_n dX5_validCount_5 rfl ?_
  refine r_cI dX5_validCount_6 rfl (invS_eq rfl (by decide) rfl rfl rfl rfl ⟨rfl, Nat.le_of_ble_eq_true rfl⟩) (qCI_imp (fun v2 G1 h => ?_) h)
  refine r_cge (tgt := 34) dX5_validCount_9 (by decide) (ite_imp (fun h => ?_) (fun h => ?_) h)
  · refine r_iload_n dX5_validCount_34 rfl ?_
    exact r_iret dX5_validCount_35 rfl ⟨rfl, h⟩
  · refine r_iload_n dX5_validCount_12 rfl ?_
    refine r_aload_n dX5_validCount_13 rfl ?_
    refine r_getR dX5_validCount_14 rfl (qFR_imp (fun v3 h => ?_) h)
    refine r_iconst dX5_validCount_17 ?_
    refine r_iload_n dX5_validCount_18 rfl ?_
    refine r_iadd dX5_validCount_19 ?_
    refine r_aald dX5_validCount_20 (qRA_imp (fun v4 h => ?_) h)
    refine r_iload_n dX5_validCount_21 rfl ?_
    refine r_bald dX5_validCount_22 (qBA_imp (fun v5 h => ?_) h)
    refine r_cI dX5_validCount_23 rfl (invS_eq rfl (by decide) rfl rfl rfl rfl ⟨rfl, Nat.le_of_ble_eq_true rfl⟩) (qCI_imp (fun v7 G6 h => ?_) h)
    refine r_iadd dX5_validCount_26 ?_
    refine r_istore_n dX5_validCount_27 rfl ?_
    refine r_iinc dX5_validCount_28 rfl rfl ?_
    refine r_goto (tgt := 4) dX5_validCount_31 (by decide) ?_
    exact h
theorem dX5_commonSet_0 : decode cX5_commonSet 0 = .ok (.bipush 7, 2) := by decide +kernel
theorem dX5_commonSet_2 : decode cX5_commonSet 2 = .ok (.istore 4, 2) := by decide +kernel
theorem dX5_commonSet_4 : decode cX5_commonSet 4 = .ok (.iconst 0, 1) := by decide +kernel
theorem dX5_commonSet_5 : decode cX5_commonSet 5 = .ok (.istore 5, 2) := by decide +kernel
theorem dX5_commonSet_7 : decode cX5_commonSet 7 = .ok (.iconst 0, 1) := by decide +kernel
theorem dX5_commonSet_8 : decode cX5_commonSet 8 = .ok (.istore 6, 2) := by decide +kernel
theorem dX5_commonSet_10 : decode cX5_commonSet 10 = .ok (.iload 6, 2) := by decide +kernel
theorem dX5_commonSet_12 : decode cX5_commonSet 12 = .ok (.iload_n 1, 1) := by decide +kernel
theorem dX5_commonSet_13 : decode cX5_commonSet 13 = .ok (.invokestatic 51, 3) := by decide +kernel
theorem dX5_commonSet_16 : decode cX5_commonSet 16 = .ok (.if_icmp .ge 46, 3) := by decide +kernel
theorem dX5_commonSet_19 : decode cX5_commonSet 19 = .ok (.aload_n 0, 1) := by decide +kernel
theorem dX5_commonSet_20 : decode cX5_commonSet 20 = .ok (.iload_n 1, 1) := by decide +kernel
theorem dX5_commonSet_21 : decode cX5_commonSet 21 = .ok (.iload_n 2, 1) := by decide +kernel
theorem dX5_commonSet_22 : decode cX5_commonSet 22 = .ok (.iload 6, 2) := by decide +kernel
theorem dX5_commonSet_24 : decode cX5_commonSet 24 = .ok (.invokevirtual 47, 3) := by decide +kernel
theorem dX5_commonSet_27 : decode cX5_commonSet 27 = .ok (.ifCond .eq 29, 3) := by decide +kernel
theorem dX5_commonSet_30 : decode cX5_commonSet 30 = .ok (.iload 4, 2) := by decide +kernel
theorem dX5_commonSet_32 : decode cX5_commonSet 32 = .ok (.iload_n 3, 1) := by decide +kernel
theorem dX5_commonSet_33 : decode cX5_commonSet 33 = .ok (.iconst 1, 1) := by decide +kernel
theorem dX5_commonSet_34 : decode cX5_commonSet 34 = .ok (.if_icmp .ne 11, 3) := by decide +kernel
theorem dX5_commonSet_37 : decode cX5_commonSet 37 = .ok (.iload 6, 2) := by decide +kernel
theorem dX5_commonSet_39 : decode cX5_commonSet 39 = .ok (.invokestatic 60, 3) := by decide +kernel
theorem dX5_commonSet_42 : decode cX5_commonSet 42 = .ok (.goto 8, 3) := by decide +kernel
theorem dX5_commonSet_45 : decode cX5_commonSet 45 = .ok (.iload 6, 2) := by decide +kernel
theorem dX5_commonSet_47 : decode cX5_commonSet 47 = .ok (.invokestatic 63, 3) := by decide +kernel
theorem dX5_commonSet_50 : decode cX5_commonSet 50 = .ok (.iand, 1) := by decide +kernel
theorem dX5_commonSet_51 : decode cX5_commonSet 51 = .ok (.istore 4, 2) := by decide +kernel
theorem dX5_commonSet_53 : decode cX5_commonSet 53 = .ok (.iconst 1, 1) := by decide +kernel
theorem dX5_commonSet_54 : decode cX5_commonSet 54 = .ok (.istore 5, 2) := by decide +kernel
theorem dX5_commonSet_56 : decode cX5_commonSet 56 = .ok (.iinc 6 1, 3) := by decide +kernel
theorem dX5_commonSet_59 : decode cX5_commonSet 59 = .ok (.goto (-49), 3) := by decide +kernel
theorem dX5_commonSet_62 : decode cX5_commonSet 62 = .ok (.iload 5, 2) := by decide +kernel
theorem dX5_commonSet_64 : decode cX5_commonSet 64 = .ok (.ifCond .eq 8, 3) := by decide +kernel
theorem dX5_commonSet_67 : decode cX5_commonSet 67 = .ok (.iload 4, 2) := by decide +kernel
theorem dX5_commonSet_69 : decode cX5_commonSet 69 = .ok (.goto 5, 3) := by decide +kernel
theorem dX5_commonSet_72 : decode cX5_commonSet 72 = .ok (.bipush (-9), 2) := by decide +kernel
theorem dX5_commonSet_74 : decode cX5_commonSet 74 = .ok (.ireturn, 1) := by decide +kernel
abbrev x_X5_commonSet : Cx := (5, cX5_commonSet, false, some (.int))
set_option maxRecDepth 10000 in
theorem g_X5_commonSet_0 {E : Ev} {d : Nat} {G : Hp} {Q : Po} {x0 : Nat} {x1 : Int32} {x2 : Int32} {x3 : Int32} (h : Xr E d x_X5_commonSet 10 [some (.ref x0), some (.int x1), some (.int x2), some (.int x3), some (.int ((iv 7))), some (.int ((iv 0))), some (.int ((iv 0)))] [] G Q) : Xr E d x_X5_commonSet 0 [some (.ref x0), some (.int x1), some (.int x2), some (.int x3), none, none, none] [] G Q := by
  refine r_bipush dX5_commonSet_0 rfl ?_
  refine r_istore dX5_commonSet_2 rfl ?_
  refine r_iconst dX5_commonSet_4 ?_
  refine r_istore dX5_commonSet_5 rfl ?_
  refine r_iconst dX5_commonSet_7 ?_
  refine r_istore dX5_commonSet_8 rfl ?_
  exact h
theorem e_X5_commonSet {E : Ev} {d : Nat} {G : Hp} {Q : Po} {x0 : Nat} {x1 : Int32} {x2 : Int32} {x3 : Int32} (h : Xr E d x_X5_commonSet 10 [some (.ref x0), some (.int x1), some (.int x2), some (.int x3), some (.int ((iv 7))), some (.int ((iv 0))), some (.int ((iv 0)))] [] G Q) : runs E (d + 1) i_X5_commonSet [.ref x0, .int x1, .int x2, .int x3] G Q := by
  rw [runs_eq (m := (yX5_commonSet, cX5_commonSet, 7, some (.int), 3, 5, false, false)) rfl (Nat.le_of_ble_eq_true rfl)]
  exact g_X5_commonSet_0 h
set_option maxRecDepth 10000 in
theorem g_X5_commonSet_10 {E : Ev} {d : Nat} {G : Hp} {Q : Po} {x0 : Nat} {x1 : Int32} {x2 : Int32} {x3 : Int32} {x4 : Int32} {x5 : Int32} {x6 : Int32} (h : (qCI E d i_X5_settingsOf [.int x1] G fun v2 G1 => (if v2 ≤ x6 then (if x5 = 0 then Q (some (.int (iv (-9)))) G1 else Q (some (.int x4)) G1) else (rcv E G1 x0 5 = true ∧ (qCI E d i_X5_holds [.ref x0, .int x1, .int x2, .int x6] G1 fun v4 G3 => (if v4 = 0 then Xr E d x_X5_commonSet 10 [some (.ref x0), some (.int x1), some (.int x2), some (.int x3), some (.int x4), some (.int x5), some (.int ((x6 + (iv 1))))] [] G3 Q else (if ¬ x3 = (iv 1) then (qCI E d i_X6_secondOf [.int x6] G3 fun v6 G5 => Xr E d x_X5_commonSet 10 [some (.ref x0), some (.int x1), some (.int x2), some (.int x3), some (.int ((x4 &&& v6))), some (.int ((iv 1))), some (.int ((x6 + (iv 1))))] [] G5 Q) else (qCI E d i_X6_firstOf [.int x6] G3 fun v8 G7 => Xr E d x_X5_commonSet 10 [some (.ref x0), some (.int x1), some (.int x2), some (.int x3), some (.int ((x4 &&& v8))), some (.int ((iv 1))), some (.int ((x6 + (iv 1))))] [] G7 Q)))))))) : Xr E d x_X5_commonSet 10 [some (.ref x0), some (.int x1), some (.int x2), some (.int x3), some (.int x4), some (.int x5), some (.int x6)] [] G Q := by
  refine r_iload dX5_commonSet_10 rfl ?_
  refine r_iload_n dX5_commonSet_12 rfl ?_
  refine r_cI dX5_commonSet_13 rfl (invS_eq rfl (by decide) rfl rfl rfl rfl ⟨rfl, Nat.le_of_ble_eq_true rfl⟩) (qCI_imp (fun v2 G1 h => ?_) h)
  refine r_cge (tgt := 62) dX5_commonSet_16 (by decide) (ite_imp (fun h => ?_) (fun h => ?_) h)
  · refine r_iload dX5_commonSet_62 rfl ?_
    refine r_ifeq (tgt := 72) dX5_commonSet_64 (by decide) (ite_imp (fun h => ?_) (fun h => ?_) h)
    · refine r_bipush dX5_commonSet_72 rfl ?_
      exact r_iret dX5_commonSet_74 rfl ⟨rfl, h⟩
    · refine r_iload dX5_commonSet_67 rfl ?_
      refine r_goto (tgt := 74) dX5_commonSet_69 (by decide) ?_
      exact r_iret dX5_commonSet_74 rfl ⟨rfl, h⟩
  · refine r_aload_n dX5_commonSet_19 rfl ?_
    refine r_iload_n dX5_commonSet_20 rfl ?_
    refine r_iload_n dX5_commonSet_21 rfl ?_
    refine r_iload dX5_commonSet_22 rfl ?_
    refine r_cI dX5_commonSet_24 rfl (invV_eq rfl rfl rfl rfl rfl rfl ⟨rfl, Nat.le_of_ble_eq_true rfl⟩ h.1) (qCI_imp (fun v4 G3 h => ?_) h.2)
    refine r_ifeq (tgt := 56) dX5_commonSet_27 (by decide) (ite_imp (fun h => ?_) (fun h => ?_) h)
    · refine r_iinc dX5_commonSet_56 rfl rfl ?_
      refine r_goto (tgt := 10) dX5_commonSet_59 (by decide) ?_
      exact h
    · refine r_iload dX5_commonSet_30 rfl ?_
      refine r_iload_n dX5_commonSet_32 rfl ?_
      refine r_iconst dX5_commonSet_33 ?_
      refine r_cne (tgt := 45) dX5_commonSet_34 (by decide) (ite_imp (fun h => ?_) (fun h => ?_) h)
      · refine r_iload dX5_commonSet_45 rfl ?_
        refine r_cI dX5_commonSet_47 rfl (invS_eq rfl (by decide) rfl rfl rfl rfl ⟨rfl, Nat.le_of_ble_eq_true rfl⟩) (qCI_imp (fun v6 G5 h => ?_) h)
        refine r_iand dX5_commonSet_50 ?_
        refine r_istore dX5_commonSet_51 rfl ?_
        refine r_iconst dX5_commonSet_53 ?_
        refine r_istore dX5_commonSet_54 rfl ?_
        refine r_iinc dX5_commonSet_56 rfl rfl ?_
        refine r_goto (tgt := 10) dX5_commonSet_59 (by decide) ?_
        exact h
      · refine r_iload dX5_commonSet_37 rfl ?_
        refine r_cI dX5_commonSet_39 rfl (invS_eq rfl (by decide) rfl rfl rfl rfl ⟨rfl, Nat.le_of_ble_eq_true rfl⟩) (qCI_imp (fun v8 G7 h => ?_) h)
        refine r_goto (tgt := 50) dX5_commonSet_42 (by decide) ?_
        refine r_iand dX5_commonSet_50 ?_
        refine r_istore dX5_commonSet_51 rfl ?_
        refine r_iconst dX5_commonSet_53 ?_
        refine r_istore dX5_commonSet_54 rfl ?_
        refine r_iinc dX5_commonSet_56 rfl rfl ?_
        refine r_goto (tgt := 10) dX5_commonSet_59 (by decide) ?_
        exact h
theorem dX5_settingsOf_0 : decode cX5_settingsOf 0 = .ok (.iconst 1, 1) := by decide +kernel
theorem dX5_settingsOf_1 : decode cX5_settingsOf 1 = .ok (.iconst 3, 1) := by decide +kernel
theorem dX5_settingsOf_2 : decode cX5_settingsOf 2 = .ok (.iload_n 0, 1) := by decide +kernel
theorem dX5_settingsOf_3 : decode cX5_settingsOf 3 = .ok (.invokestatic 66, 3) := by decide +kernel
theorem dX5_settingsOf_6 : decode cX5_settingsOf 6 = .ok (.imul, 1) := by decide +kernel
theorem dX5_settingsOf_7 : decode cX5_settingsOf 7 = .ok (.ishl, 1) := by decide +kernel
theorem dX5_settingsOf_8 : decode cX5_settingsOf 8 = .ok (.ireturn, 1) := by decide +kernel
abbrev x_X5_settingsOf : Cx := (5, cX5_settingsOf, false, some (.int))
set_option maxRecDepth 10000 in
theorem g_X5_settingsOf_0 {E : Ev} {d : Nat} {G : Hp} {Q : Po} {x0 : Int32} (h : (qCI E d i_X6_arityOfNonterminal [.int x0] G fun v2 G1 => Q (some (.int ((iv 1) <<< (((iv 3) * v2) &&& 31)))) G1)) : Xr E d x_X5_settingsOf 0 [some (.int x0)] [] G Q := by
  refine r_iconst dX5_settingsOf_0 ?_
  refine r_iconst dX5_settingsOf_1 ?_
  refine r_iload_n dX5_settingsOf_2 rfl ?_
  refine r_cI dX5_settingsOf_3 rfl (invS_eq rfl (by decide) rfl rfl rfl rfl ⟨rfl, Nat.le_of_ble_eq_true rfl⟩) (qCI_imp (fun v2 G1 h => ?_) h)
  refine r_imul dX5_settingsOf_6 ?_
  refine r_ishl dX5_settingsOf_7 ?_
  exact r_iret dX5_settingsOf_8 rfl ⟨rfl, h⟩
theorem e_X5_settingsOf {E : Ev} {d : Nat} {G : Hp} {Q : Po} {x0 : Int32} (h : (qCI E d i_X6_arityOfNonterminal [.int x0] G fun v2 G1 => Q (some (.int ((iv 1) <<< (((iv 3) * v2) &&& 31)))) G1)) : runs E (d + 1) i_X5_settingsOf [.int x0] G Q := by
  rw [runs_eq (m := (yX5_settingsOf, cX5_settingsOf, 1, some (.int), 1, 5, false, true)) rfl (Nat.le_of_ble_eq_true rfl)]
  exact g_X5_settingsOf_0 h
theorem dX5_start_0 : decode cX5_start 0 = .ok (.iconst 0, 1) := by decide +kernel
theorem dX5_start_1 : decode cX5_start 1 = .ok (.istore_n 1, 1) := by decide +kernel
theorem dX5_start_2 : decode cX5_start 2 = .ok (.iload_n 1, 1) := by decide +kernel
theorem dX5_start_3 : decode cX5_start 3 = .ok (.iconst 4, 1) := by decide +kernel
theorem dX5_start_4 : decode cX5_start 4 = .ok (.if_icmp .ge 38, 3) := by decide +kernel
theorem dX5_start_7 : decode cX5_start 7 = .ok (.iconst 0, 1) := by decide +kernel
theorem dX5_start_8 : decode cX5_start 8 = .ok (.istore_n 2, 1) := by decide +kernel
theorem dX5_start_9 : decode cX5_start 9 = .ok (.iload_n 2, 1) := by decide +kernel
theorem dX5_start_10 : decode cX5_start 10 = .ok (.bipush 64, 2) := by decide +kernel
theorem dX5_start_12 : decode cX5_start 12 = .ok (.if_icmp .ge 24, 3) := by decide +kernel
theorem dX5_start_15 : decode cX5_start 15 = .ok (.aload_n 0, 1) := by decide +kernel
theorem dX5_start_16 : decode cX5_start 16 = .ok (.getfield 17, 3) := by decide +kernel
theorem dX5_start_19 : decode cX5_start 19 = .ok (.iload_n 1, 1) := by decide +kernel
theorem dX5_start_20 : decode cX5_start 20 = .ok (.aaload, 1) := by decide +kernel
theorem dX5_start_21 : decode cX5_start 21 = .ok (.iload_n 2, 1) := by decide +kernel
theorem dX5_start_22 : decode cX5_start 22 = .ok (.aload_n 0, 1) := by decide +kernel
theorem dX5_start_23 : decode cX5_start 23 = .ok (.iload_n 1, 1) := by decide +kernel
theorem dX5_start_24 : decode cX5_start 24 = .ok (.iload_n 2, 1) := by decide +kernel
theorem dX5_start_25 : decode cX5_start 25 = .ok (.invokevirtual 69, 3) := by decide +kernel
theorem dX5_start_28 : decode cX5_start 28 = .ok (.i2b, 1) := by decide +kernel
theorem dX5_start_29 : decode cX5_start 29 = .ok (.bastore, 1) := by decide +kernel
theorem dX5_start_30 : decode cX5_start 30 = .ok (.iinc 2 1, 3) := by decide +kernel
theorem dX5_start_33 : decode cX5_start 33 = .ok (.goto (-24), 3) := by decide +kernel
theorem dX5_start_36 : decode cX5_start 36 = .ok (.iinc 1 1, 3) := by decide +kernel
theorem dX5_start_39 : decode cX5_start 39 = .ok (.goto (-37), 3) := by decide +kernel
theorem dX5_start_42 : decode cX5_start 42 = .ok (.iconst 0, 1) := by decide +kernel
theorem dX5_start_43 : decode cX5_start 43 = .ok (.istore_n 1, 1) := by decide +kernel
theorem dX5_start_44 : decode cX5_start 44 = .ok (.iload_n 1, 1) := by decide +kernel
theorem dX5_start_45 : decode cX5_start 45 = .ok (.iconst 4, 1) := by decide +kernel
theorem dX5_start_46 : decode cX5_start 46 = .ok (.if_icmp .ge 22, 3) := by decide +kernel
theorem dX5_start_49 : decode cX5_start 49 = .ok (.aload_n 0, 1) := by decide +kernel
theorem dX5_start_50 : decode cX5_start 50 = .ok (.getfield 17, 3) := by decide +kernel
theorem dX5_start_53 : decode cX5_start 53 = .ok (.iconst 4, 1) := by decide +kernel
theorem dX5_start_54 : decode cX5_start 54 = .ok (.iload_n 1, 1) := by decide +kernel
theorem dX5_start_55 : decode cX5_start 55 = .ok (.iadd, 1) := by decide +kernel
theorem dX5_start_56 : decode cX5_start 56 = .ok (.aaload, 1) := by decide +kernel
theorem dX5_start_57 : decode cX5_start 57 = .ok (.bipush 7, 2) := by decide +kernel
theorem dX5_start_59 : decode cX5_start 59 = .ok (.invokestatic 73, 3) := by decide +kernel
theorem dX5_start_62 : decode cX5_start 62 = .ok (.iinc 1 1, 3) := by decide +kernel
theorem dX5_start_65 : decode cX5_start 65 = .ok (.goto (-21), 3) := by decide +kernel
theorem dX5_start_68 : decode cX5_start 68 = .ok (.return_, 1) := by decide +kernel
abbrev x_X5_start : Cx := (5, cX5_start, false, none)
set_option maxRecDepth 10000 in
theorem g_X5_start_0 {E : Ev} {d : Nat} {G : Hp} {Q : Po} {x0 : Nat} (h : Xr E d x_X5_start 2 [some (.ref x0), some (.int ((iv 0))), none] [] G Q) : Xr E d x_X5_start 0 [some (.ref x0), none, none] [] G Q := by
  refine r_iconst dX5_start_0 ?_
  refine r_istore_n dX5_start_1 rfl ?_
  exact h
theorem e_X5_start {E : Ev} {d : Nat} {G : Hp} {Q : Po} {x0 : Nat} (h : Xr E d x_X5_start 2 [some (.ref x0), some (.int ((iv 0))), none] [] G Q) : runs E (d + 1) i_X5_start [.ref x0] G Q := by
  rw [runs_eq (m := (yX5_start, cX5_start, 3, none, 0, 5, false, false)) rfl (Nat.le_of_ble_eq_true rfl)]
  exact g_X5_start_0 h
set_option maxRecDepth 10000 in
theorem g_X5_start_2 {E : Ev} {d : Nat} {G : Hp} {Q : Po} {x0 : Nat} {x1 : Int32} {l2 : Option Value} (h : (if (iv 4) ≤ x1 then Xr E d x_X5_start 44 [some (.ref x0), some (.int ((iv 0))), l2] [] G Q else Xr E d x_X5_start 9 [some (.ref x0), some (.int x1), some (.int ((iv 0)))] [] G Q)) : Xr E d x_X5_start 2 [some (.ref x0), some (.int x1), l2] [] G Q := by
  refine r_iload_n dX5_start_2 rfl ?_
  refine r_iconst dX5_start_3 ?_
  refine r_cge (tgt := 42) dX5_start_4 (by decide) (ite_imp (fun h => ?_) (fun h => ?_) h)
  · refine r_iconst dX5_start_42 ?_
    refine r_istore_n dX5_start_43 rfl ?_
    exact h
  · refine r_iconst dX5_start_7 ?_
    refine r_istore_n dX5_start_8 rfl ?_
    exact h
set_option maxRecDepth 10000 in
theorem g_X5_start_9 {E : Ev} {d : Nat} {G : Hp} {Q : Po} {x0 : Nat} {x1 : Int32} {x2 : Int32} (h : (if (iv 64) ≤ x2 then Xr E d x_X5_start 2 [some (.ref x0), some (.int ((x1 + (iv 1)))), some (.int x2)] [] G Q else (qFR E G x0 5 1 fun v1 => (qRA E G v1 x1 fun v2 => (rcv E G x0 5 = true ∧ (qCI E d i_X5_terminalTypes [.ref x0, .int x1, .int x2] G fun v4 G3 => (qBS E G3 v2 x2 ((v4).toInt8.toInt32) fun G5 => Xr E d x_X5_start 9 [some (.ref x0), some (.int x1), some (.int ((x2 + (iv 1))))] [] G5 Q))))))) : Xr E d x_X5_start 9 [some (.ref x0), some (.int x1), some (.int x2)] [] G Q := by
  refine r_iload_n dX5_start_9 rfl ?_
  refine r_bipush dX5_start_10 rfl ?_
  refine r_cge (tgt := 36) dX5_start_12 (by decide) (ite_imp (fun h => ?_) (fun h => ?_) h)
  · refine r_iinc dX5_start_36 rfl rfl ?_
    refine r_goto (tgt := 2) dX5_start_39 (by decide) ?_
    exact h
  · refine r_aload_n dX5_start_15 rfl ?_
    refine r_getR dX5_start_16 rfl (qFR_imp (fun v1 h => ?_) h)
    refine r_iload_n dX5_start_19 rfl ?_
    refine r_aald dX5_start_20 (qRA_imp (fun v2 h => ?_) h)
    refine r_iload_n dX5_start_21 rfl ?_
    refine r_aload_n dX5_start_22 rfl ?_
    refine r_iload_n dX5_start_23 rfl ?_
    refine r_iload_n dX5_start_24 rfl ?_
    refine r_cI dX5_start_25 rfl (invV_eq rfl rfl rfl rfl rfl rfl ⟨rfl, Nat.le_of_ble_eq_true rfl⟩ h.1) (qCI_imp (fun v4 G3 h => ?_) h.2)
    refine r_i2b dX5_start_28 ?_
    refine r_bast dX5_start_29 (qBS_imp (fun G5 h => ?_) h)
    refine r_iinc dX5_start_30 rfl rfl ?_
    refine r_goto (tgt := 9) dX5_start_33 (by decide) ?_
    exact h
set_option maxRecDepth 10000 in
theorem g_X5_start_44 {E : Ev} {d : Nat} {G : Hp} {Q : Po} {x0 : Nat} {x1 : Int32} {l2 : Option Value} (h : (if (iv 4) ≤ x1 then Q none G else (qFR E G x0 5 1 fun v1 => (qRA E G v1 ((iv 4) + x1) fun v2 => (qCV E d i_J7_fill_031fb [.ref v2, .int ((iv 7))] G fun G3 => Xr E d x_X5_start 44 [some (.ref x0), some (.int ((x1 + (iv 1)))), l2] [] G3 Q))))) : Xr E d x_X5_start 44 [some (.ref x0), some (.int x1), l2] [] G Q := by
  refine r_iload_n dX5_start_44 rfl ?_
  refine r_iconst dX5_start_45 ?_
  refine r_cge (tgt := 68) dX5_start_46 (by decide) (ite_imp (fun h => ?_) (fun h => ?_) h)
  · exact r_vret dX5_start_68 rfl h
  · refine r_aload_n dX5_start_49 rfl ?_
    refine r_getR dX5_start_50 rfl (qFR_imp (fun v1 h => ?_) h)
    refine r_iconst dX5_start_53 ?_
    refine r_iload_n dX5_start_54 rfl ?_
    refine r_iadd dX5_start_55 ?_
    refine r_aald dX5_start_56 (qRA_imp (fun v2 h => ?_) h)
    refine r_bipush dX5_start_57 rfl ?_
    refine r_cV dX5_start_59 rfl (invS_eq rfl (by decide) rfl rfl rfl rfl ⟨rfl, Nat.le_of_ble_eq_true rfl⟩) (qCV_imp (fun G3 h => ?_) h)
    refine r_iinc dX5_start_62 rfl rfl ?_
    refine r_goto (tgt := 44) dX5_start_65 (by decide) ?_
    exact h
theorem dX5_terminalTypes_0 : decode cX5_terminalTypes 0 = .ok (.iconst 0, 1) := by decide +kernel
theorem dX5_terminalTypes_1 : decode cX5_terminalTypes 1 = .ok (.istore_n 3, 1) := by decide +kernel
theorem dX5_terminalTypes_2 : decode cX5_terminalTypes 2 = .ok (.iconst 0, 1) := by decide +kernel
theorem dX5_terminalTypes_3 : decode cX5_terminalTypes 3 = .ok (.istore 4, 2) := by decide +kernel
theorem dX5_terminalTypes_5 : decode cX5_terminalTypes 5 = .ok (.iload 4, 2) := by decide +kernel
theorem dX5_terminalTypes_7 : decode cX5_terminalTypes 7 = .ok (.iconst 3, 1) := by decide +kernel
theorem dX5_terminalTypes_8 : decode cX5_terminalTypes 8 = .ok (.if_icmp .ge 115, 3) := by decide +kernel
theorem dX5_terminalTypes_11 : decode cX5_terminalTypes 11 = .ok (.aload_n 0, 1) := by decide +kernel
theorem dX5_terminalTypes_12 : decode cX5_terminalTypes 12 = .ok (.getfield 9, 3) := by decide +kernel
theorem dX5_terminalTypes_15 : decode cX5_terminalTypes 15 = .ok (.iload 4, 2) := by decide +kernel
theorem dX5_terminalTypes_17 : decode cX5_terminalTypes 17 = .ok (.iload_n 1, 1) := by decide +kernel
theorem dX5_terminalTypes_18 : decode cX5_terminalTypes 18 = .ok (.invokevirtual 79, 3) := by decide +kernel
theorem dX5_terminalTypes_21 : decode cX5_terminalTypes 21 = .ok (.istore 5, 2) := by decide +kernel
theorem dX5_terminalTypes_23 : decode cX5_terminalTypes 23 = .ok (.iload 5, 2) := by decide +kernel
theorem dX5_terminalTypes_25 : decode cX5_terminalTypes 25 = .ok (.ifCond .eq 39, 3) := by decide +kernel
theorem dX5_terminalTypes_28 : decode cX5_terminalTypes 28 = .ok (.iload_n 1, 1) := by decide +kernel
theorem dX5_terminalTypes_29 : decode cX5_terminalTypes 29 = .ok (.invokestatic 83, 3) := by decide +kernel
theorem dX5_terminalTypes_32 : decode cX5_terminalTypes 32 = .ok (.iconst 1, 1) := by decide +kernel
theorem dX5_terminalTypes_33 : decode cX5_terminalTypes 33 = .ok (.if_icmp .lt 31, 3) := by decide +kernel
theorem dX5_terminalTypes_36 : decode cX5_terminalTypes 36 = .ok (.iload_n 2, 1) := by decide +kernel
theorem dX5_terminalTypes_37 : decode cX5_terminalTypes 37 = .ok (.invokestatic 60, 3) := by decide +kernel
theorem dX5_terminalTypes_40 : decode cX5_terminalTypes 40 = .ok (.aload_n 0, 1) := by decide +kernel
theorem dX5_terminalTypes_41 : decode cX5_terminalTypes 41 = .ok (.getfield 9, 3) := by decide +kernel
theorem dX5_terminalTypes_44 : decode cX5_terminalTypes 44 = .ok (.iload 4, 2) := by decide +kernel
theorem dX5_terminalTypes_46 : decode cX5_terminalTypes 46 = .ok (.iload_n 1, 1) := by decide +kernel
theorem dX5_terminalTypes_47 : decode cX5_terminalTypes 47 = .ok (.iconst 1, 1) := by decide +kernel
theorem dX5_terminalTypes_48 : decode cX5_terminalTypes 48 = .ok (.invokevirtual 86, 3) := by decide +kernel
theorem dX5_terminalTypes_51 : decode cX5_terminalTypes 51 = .ok (.ishr, 1) := by decide +kernel
theorem dX5_terminalTypes_52 : decode cX5_terminalTypes 52 = .ok (.iconst 1, 1) := by decide +kernel
theorem dX5_terminalTypes_53 : decode cX5_terminalTypes 53 = .ok (.iand, 1) := by decide +kernel
theorem dX5_terminalTypes_54 : decode cX5_terminalTypes 54 = .ok (.ifCond .eq 7, 3) := by decide +kernel
theorem dX5_terminalTypes_57 : decode cX5_terminalTypes 57 = .ok (.iconst 1, 1) := by decide +kernel
theorem dX5_terminalTypes_58 : decode cX5_terminalTypes 58 = .ok (.goto 4, 3) := by decide +kernel
theorem dX5_terminalTypes_61 : decode cX5_terminalTypes 61 = .ok (.iconst 0, 1) := by decide +kernel
theorem dX5_terminalTypes_62 : decode cX5_terminalTypes 62 = .ok (.istore 5, 2) := by decide +kernel
theorem dX5_terminalTypes_64 : decode cX5_terminalTypes 64 = .ok (.iload 5, 2) := by decide +kernel
theorem dX5_terminalTypes_66 : decode cX5_terminalTypes 66 = .ok (.ifCond .eq 39, 3) := by decide +kernel
theorem dX5_terminalTypes_69 : decode cX5_terminalTypes 69 = .ok (.iload_n 1, 1) := by decide +kernel
theorem dX5_terminalTypes_70 : decode cX5_terminalTypes 70 = .ok (.invokestatic 83, 3) := by decide +kernel
theorem dX5_terminalTypes_73 : decode cX5_terminalTypes 73 = .ok (.iconst 2, 1) := by decide +kernel
theorem dX5_terminalTypes_74 : decode cX5_terminalTypes 74 = .ok (.if_icmp .lt 31, 3) := by decide +kernel
theorem dX5_terminalTypes_77 : decode cX5_terminalTypes 77 = .ok (.iload_n 2, 1) := by decide +kernel
theorem dX5_terminalTypes_78 : decode cX5_terminalTypes 78 = .ok (.invokestatic 63, 3) := by decide +kernel
theorem dX5_terminalTypes_81 : decode cX5_terminalTypes 81 = .ok (.aload_n 0, 1) := by decide +kernel
theorem dX5_terminalTypes_82 : decode cX5_terminalTypes 82 = .ok (.getfield 9, 3) := by decide +kernel
theorem dX5_terminalTypes_85 : decode cX5_terminalTypes 85 = .ok (.iload 4, 2) := by decide +kernel
theorem dX5_terminalTypes_87 : decode cX5_terminalTypes 87 = .ok (.iload_n 1, 1) := by decide +kernel
theorem dX5_terminalTypes_88 : decode cX5_terminalTypes 88 = .ok (.iconst 2, 1) := by decide +kernel
theorem dX5_terminalTypes_89 : decode cX5_terminalTypes 89 = .ok (.invokevirtual 86, 3) := by decide +kernel
theorem dX5_terminalTypes_92 : decode cX5_terminalTypes 92 = .ok (.ishr, 1) := by decide +kernel
theorem dX5_terminalTypes_93 : decode cX5_terminalTypes 93 = .ok (.iconst 1, 1) := by decide +kernel
theorem dX5_terminalTypes_94 : decode cX5_terminalTypes 94 = .ok (.iand, 1) := by decide +kernel
theorem dX5_terminalTypes_95 : decode cX5_terminalTypes 95 = .ok (.ifCond .eq 7, 3) := by decide +kernel
theorem dX5_terminalTypes_98 : decode cX5_terminalTypes 98 = .ok (.iconst 1, 1) := by decide +kernel
theorem dX5_terminalTypes_99 : decode cX5_terminalTypes 99 = .ok (.goto 4, 3) := by decide +kernel
theorem dX5_terminalTypes_102 : decode cX5_terminalTypes 102 = .ok (.iconst 0, 1) := by decide +kernel
theorem dX5_terminalTypes_103 : decode cX5_terminalTypes 103 = .ok (.istore 5, 2) := by decide +kernel
theorem dX5_terminalTypes_105 : decode cX5_terminalTypes 105 = .ok (.iload 5, 2) := by decide +kernel
theorem dX5_terminalTypes_107 : decode cX5_terminalTypes 107 = .ok (.ifCond .eq 10, 3) := by decide +kernel
theorem dX5_terminalTypes_110 : decode cX5_terminalTypes 110 = .ok (.iload_n 3, 1) := by decide +kernel
theorem dX5_terminalTypes_111 : decode cX5_terminalTypes 111 = .ok (.iconst 1, 1) := by decide +kernel
theorem dX5_terminalTypes_112 : decode cX5_terminalTypes 112 = .ok (.iload 4, 2) := by decide +kernel
theorem dX5_terminalTypes_114 : decode cX5_terminalTypes 114 = .ok (.ishl, 1) := by decide +kernel
theorem dX5_terminalTypes_115 : decode cX5_terminalTypes 115 = .ok (.ior, 1) := by decide +kernel
theorem dX5_terminalTypes_116 : decode cX5_terminalTypes 116 = .ok (.istore_n 3, 1) := by decide +kernel
theorem dX5_terminalTypes_117 : decode cX5_terminalTypes 117 = .ok (.iinc 4 1, 3) := by decide +kernel
theorem dX5_terminalTypes_120 : decode cX5_terminalTypes 120 = .ok (.goto (-115), 3) := by decide +kernel
theorem dX5_terminalTypes_123 : decode cX5_terminalTypes 123 = .ok (.iload_n 3, 1) := by decide +kernel
theorem dX5_terminalTypes_124 : decode cX5_terminalTypes 124 = .ok (.ireturn, 1) := by decide +kernel
abbrev x_X5_terminalTypes : Cx := (5, cX5_terminalTypes, false, some (.int))
set_option maxRecDepth 10000 in
theorem g_X5_terminalTypes_0 {E : Ev} {d : Nat} {G : Hp} {Q : Po} {x0 : Nat} {x1 : Int32} {x2 : Int32} (h : Xr E d x_X5_terminalTypes 5 [some (.ref x0), some (.int x1), some (.int x2), some (.int ((iv 0))), some (.int ((iv 0))), none] [] G Q) : Xr E d x_X5_terminalTypes 0 [some (.ref x0), some (.int x1), some (.int x2), none, none, none] [] G Q := by
  refine r_iconst dX5_terminalTypes_0 ?_
  refine r_istore_n dX5_terminalTypes_1 rfl ?_
  refine r_iconst dX5_terminalTypes_2 ?_
  refine r_istore dX5_terminalTypes_3 rfl ?_
  exact h
theorem e_X5_terminalTypes {E : Ev} {d : Nat} {G : Hp} {Q : Po} {x0 : Nat} {x1 : Int32} {x2 : Int32} (h : Xr E d x_X5_terminalTypes 5 [some (.ref x0), some (.int x1), some (.int x2), some (.int ((iv 0))), some (.int ((iv 0))), none] [] G Q) : runs E (d + 1) i_X5_terminalTypes [.ref x0, .int x1, .int x2] G Q := by
  rw [runs_eq (m := (yX5_terminalTypes, cX5_terminalTypes, 6, some (.int), 2, 5, false, false)) rfl (Nat.le_of_ble_eq_true rfl)]
  exact g_X5_terminalTypes_0 h
set_option maxRecDepth 10000 in
theorem g_X5_terminalTypes_5 {E : Ev} {d : Nat} {G : Hp} {Q : Po} {x0 : Nat} {x1 : Int32} {x2 : Int32} {x3 : Int32} {x4 : Int32} {l5 : Option Value} (h : (if (iv 3) ≤ x4 then Q (some (.int x3)) G else (qFR E G x0 5 0 fun v1 => (rcv E G v1 1 = true ∧ (qCI E d i_X1_canRead [.ref v1, .int x4, .int x1] G fun v3 G2 => (if v3 = 0 then Xr E d x_X5_terminalTypes 64 [some (.ref x0), some (.int x1), some (.int x2), some (.int x3), some (.int x4), some (.int v3)] [] G2 Q else (qCI E d i_X6_arityOf [.int x1] G2 fun v5 G4 => (if v5 < (iv 1) then Xr E d x_X5_terminalTypes 64 [some (.ref x0), some (.int x1), some (.int x2), some (.int x3), some (.int x4), some (.int v3)] [] G4 Q else (qCI E d i_X6_firstOf [.int x2] G4 fun v7 G6 => (qFR E G6 x0 5 0 fun v8 => (rcv E G6 v8 1 = true ∧ (qCI E d i_X1_target [.ref v8, .int x4, .int x1, .int ((iv 1))] G6 fun v10 G9 => (if ((v7 >>> (v10 &&& 31)) &&& (iv 1)) = 0 then Xr E d x_X5_terminalTypes 64 [some (.ref x0), some (.int x1), some (.int x2), some (.int x3), some (.int x4), some (.int ((iv 0)))] [] G9 Q else Xr E d x_X5_terminalTypes 64 [some (.ref x0), some (.int x1), some (.int x2), some (.int x3), some (.int x4), some (.int ((iv 1)))] [] G9 Q))))))))))))) : Xr E d x_X5_terminalTypes 5 [some (.ref x0), some (.int x1), some (.int x2), some (.int x3), some (.int x4), l5] [] G Q := by
  refine r_iload dX5_terminalTypes_5 rfl ?_
  refine r_iconst dX5_terminalTypes_7 ?_
  refine r_cge (tgt := 123) dX5_terminalTypes_8 (by decide) (ite_imp (fun h => ?_) (fun h => ?_) h)
  · refine r_iload_n dX5_terminalTypes_123 rfl ?_
    exact r_iret dX5_terminalTypes_124 rfl ⟨rfl, h⟩
  · refine r_aload_n dX5_terminalTypes_11 rfl ?_
    refine r_getR dX5_terminalTypes_12 rfl (qFR_imp (fun v1 h => ?_) h)
    refine r_iload dX5_terminalTypes_15 rfl ?_
    refine r_iload_n dX5_terminalTypes_17 rfl ?_
    refine r_cI dX5_terminalTypes_18 rfl (invV_eq rfl rfl rfl rfl rfl rfl ⟨rfl, Nat.le_of_ble_eq_true rfl⟩ h.1) (qCI_imp (fun v3 G2 h => ?_) h.2)
    refine r_istore dX5_terminalTypes_21 rfl ?_
    refine r_iload dX5_terminalTypes_23 rfl ?_
    refine r_ifeq (tgt := 64) dX5_terminalTypes_25 (by decide) (ite_imp (fun h => ?_) (fun h => ?_) h)
    · exact h
    · refine r_iload_n dX5_terminalTypes_28 rfl ?_
      refine r_cI dX5_terminalTypes_29 rfl (invS_eq rfl (by decide) rfl rfl rfl rfl ⟨rfl, Nat.le_of_ble_eq_true rfl⟩) (qCI_imp (fun v5 G4 h => ?_) h)
      refine r_iconst dX5_terminalTypes_32 ?_
      refine r_clt (tgt := 64) dX5_terminalTypes_33 (by decide) (ite_imp (fun h => ?_) (fun h => ?_) h)
      · exact h
      · refine r_iload_n dX5_terminalTypes_36 rfl ?_
        refine r_cI dX5_terminalTypes_37 rfl (invS_eq rfl (by decide) rfl rfl rfl rfl ⟨rfl, Nat.le_of_ble_eq_true rfl⟩) (qCI_imp (fun v7 G6 h => ?_) h)
        refine r_aload_n dX5_terminalTypes_40 rfl ?_
        refine r_getR dX5_terminalTypes_41 rfl (qFR_imp (fun v8 h => ?_) h)
        refine r_iload dX5_terminalTypes_44 rfl ?_
        refine r_iload_n dX5_terminalTypes_46 rfl ?_
        refine r_iconst dX5_terminalTypes_47 ?_
        refine r_cI dX5_terminalTypes_48 rfl (invV_eq rfl rfl rfl rfl rfl rfl ⟨rfl, Nat.le_of_ble_eq_true rfl⟩ h.1) (qCI_imp (fun v10 G9 h => ?_) h.2)
        refine r_ishr dX5_terminalTypes_51 ?_
        refine r_iconst dX5_terminalTypes_52 ?_
        refine r_iand dX5_terminalTypes_53 ?_
        refine r_ifeq (tgt := 61) dX5_terminalTypes_54 (by decide) (ite_imp (fun h => ?_) (fun h => ?_) h)
        · refine r_iconst dX5_terminalTypes_61 ?_
          refine r_istore dX5_terminalTypes_62 rfl ?_
          exact h
        · refine r_iconst dX5_terminalTypes_57 ?_
          refine r_goto (tgt := 62) dX5_terminalTypes_58 (by decide) ?_
          refine r_istore dX5_terminalTypes_62 rfl ?_
          exact h
set_option maxRecDepth 10000 in
theorem g_X5_terminalTypes_64 {E : Ev} {d : Nat} {G : Hp} {Q : Po} {x0 : Nat} {x1 : Int32} {x2 : Int32} {x3 : Int32} {x4 : Int32} {x5 : Int32} (h : (if x5 = 0 then Xr E d x_X5_terminalTypes 105 [some (.ref x0), some (.int x1), some (.int x2), some (.int x3), some (.int x4), some (.int x5)] [] G Q else (qCI E d i_X6_arityOf [.int x1] G fun v2 G1 => (if v2 < (iv 2) then Xr E d x_X5_terminalTypes 105 [some (.ref x0), some (.int x1), some (.int x2), some (.int x3), some (.int x4), some (.int x5)] [] G1 Q else (qCI E d i_X6_secondOf [.int x2] G1 fun v4 G3 => (qFR E G3 x0 5 0 fun v5 => (rcv E G3 v5 1 = true ∧ (qCI E d i_X1_target [.ref v5, .int x4, .int x1, .int ((iv 2))] G3 fun v7 G6 => (if ((v4 >>> (v7 &&& 31)) &&& (iv 1)) = 0 then Xr E d x_X5_terminalTypes 105 [some (.ref x0), some (.int x1), some (.int x2), some (.int x3), some (.int x4), some (.int ((iv 0)))] [] G6 Q else Xr E d x_X5_terminalTypes 105 [some (.ref x0), some (.int x1), some (.int x2), some (.int x3), some (.int x4), some (.int ((iv 1)))] [] G6 Q))))))))) : Xr E d x_X5_terminalTypes 64 [some (.ref x0), some (.int x1), some (.int x2), some (.int x3), some (.int x4), some (.int x5)] [] G Q := by
  refine r_iload dX5_terminalTypes_64 rfl ?_
  refine r_ifeq (tgt := 105) dX5_terminalTypes_66 (by decide) (ite_imp (fun h => ?_) (fun h => ?_) h)
  · exact h
  · refine r_iload_n dX5_terminalTypes_69 rfl ?_
    refine r_cI dX5_terminalTypes_70 rfl (invS_eq rfl (by decide) rfl rfl rfl rfl ⟨rfl, Nat.le_of_ble_eq_true rfl⟩) (qCI_imp (fun v2 G1 h => ?_) h)
    refine r_iconst dX5_terminalTypes_73 ?_
    refine r_clt (tgt := 105) dX5_terminalTypes_74 (by decide) (ite_imp (fun h => ?_) (fun h => ?_) h)
    · exact h
    · refine r_iload_n dX5_terminalTypes_77 rfl ?_
      refine r_cI dX5_terminalTypes_78 rfl (invS_eq rfl (by decide) rfl rfl rfl rfl ⟨rfl, Nat.le_of_ble_eq_true rfl⟩) (qCI_imp (fun v4 G3 h => ?_) h)
      refine r_aload_n dX5_terminalTypes_81 rfl ?_
      refine r_getR dX5_terminalTypes_82 rfl (qFR_imp (fun v5 h => ?_) h)
      refine r_iload dX5_terminalTypes_85 rfl ?_
      refine r_iload_n dX5_terminalTypes_87 rfl ?_
      refine r_iconst dX5_terminalTypes_88 ?_
      refine r_cI dX5_terminalTypes_89 rfl (invV_eq rfl rfl rfl rfl rfl rfl ⟨rfl, Nat.le_of_ble_eq_true rfl⟩ h.1) (qCI_imp (fun v7 G6 h => ?_) h.2)
      refine r_ishr dX5_terminalTypes_92 ?_
      refine r_iconst dX5_terminalTypes_93 ?_
      refine r_iand dX5_terminalTypes_94 ?_
      refine r_ifeq (tgt := 102) dX5_terminalTypes_95 (by decide) (ite_imp (fun h => ?_) (fun h => ?_) h)
      · refine r_iconst dX5_terminalTypes_102 ?_
        refine r_istore dX5_terminalTypes_103 rfl ?_
        exact h
      · refine r_iconst dX5_terminalTypes_98 ?_
        refine r_goto (tgt := 103) dX5_terminalTypes_99 (by decide) ?_
        refine r_istore dX5_terminalTypes_103 rfl ?_
        exact h
set_option maxRecDepth 10000 in
theorem g_X5_terminalTypes_105 {E : Ev} {d : Nat} {G : Hp} {Q : Po} {x0 : Nat} {x1 : Int32} {x2 : Int32} {x3 : Int32} {x4 : Int32} {x5 : Int32} (h : (if x5 = 0 then Xr E d x_X5_terminalTypes 5 [some (.ref x0), some (.int x1), some (.int x2), some (.int x3), some (.int ((x4 + (iv 1)))), some (.int x5)] [] G Q else Xr E d x_X5_terminalTypes 5 [some (.ref x0), some (.int x1), some (.int x2), some (.int ((x3 ||| ((iv 1) <<< (x4 &&& 31))))), some (.int ((x4 + (iv 1)))), some (.int x5)] [] G Q)) : Xr E d x_X5_terminalTypes 105 [some (.ref x0), some (.int x1), some (.int x2), some (.int x3), some (.int x4), some (.int x5)] [] G Q := by
  refine r_iload dX5_terminalTypes_105 rfl ?_
  refine r_ifeq (tgt := 117) dX5_terminalTypes_107 (by decide) (ite_imp (fun h => ?_) (fun h => ?_) h)
  · refine r_iinc dX5_terminalTypes_117 rfl rfl ?_
    refine r_goto (tgt := 5) dX5_terminalTypes_120 (by decide) ?_
    exact h
  · refine r_iload_n dX5_terminalTypes_110 rfl ?_
    refine r_iconst dX5_terminalTypes_111 ?_
    refine r_iload dX5_terminalTypes_112 rfl ?_
    refine r_ishl dX5_terminalTypes_114 ?_
    refine r_ior dX5_terminalTypes_115 ?_
    refine r_istore_n dX5_terminalTypes_116 rfl ?_
    refine r_iinc dX5_terminalTypes_117 rfl rfl ?_
    refine r_goto (tgt := 5) dX5_terminalTypes_120 (by decide) ?_
    exact h
theorem dX5_removeUnjustified_0 : decode cX5_removeUnjustified 0 = .ok (.iconst 0, 1) := by decide +kernel
theorem dX5_removeUnjustified_1 : decode cX5_removeUnjustified 1 = .ok (.istore_n 1, 1) := by decide +kernel
theorem dX5_removeUnjustified_2 : decode cX5_removeUnjustified 2 = .ok (.iconst 0, 1) := by decide +kernel
theorem dX5_removeUnjustified_3 : decode cX5_removeUnjustified 3 = .ok (.istore_n 2, 1) := by decide +kernel
theorem dX5_removeUnjustified_4 : decode cX5_removeUnjustified 4 = .ok (.iload_n 2, 1) := by decide +kernel
theorem dX5_removeUnjustified_5 : decode cX5_removeUnjustified 5 = .ok (.iconst 4, 1) := by decide +kernel
theorem dX5_removeUnjustified_6 : decode cX5_removeUnjustified 6 = .ok (.if_icmp .ge 81, 3) := by decide +kernel
theorem dX5_removeUnjustified_9 : decode cX5_removeUnjustified 9 = .ok (.iconst 0, 1) := by decide +kernel
theorem dX5_removeUnjustified_10 : decode cX5_removeUnjustified 10 = .ok (.istore_n 3, 1) := by decide +kernel
theorem dX5_removeUnjustified_11 : decode cX5_removeUnjustified 11 = .ok (.iload_n 3, 1) := by decide +kernel
theorem dX5_removeUnjustified_12 : decode cX5_removeUnjustified 12 = .ok (.iload_n 2, 1) := by decide +kernel
theorem dX5_removeUnjustified_13 : decode cX5_removeUnjustified 13 = .ok (.invokestatic 51, 3) := by decide +kernel
theorem dX5_removeUnjustified_16 : decode cX5_removeUnjustified 16 = .ok (.if_icmp .ge 65, 3) := by decide +kernel
theorem dX5_removeUnjustified_19 : decode cX5_removeUnjustified 19 = .ok (.aload_n 0, 1) := by decide +kernel
theorem dX5_removeUnjustified_20 : decode cX5_removeUnjustified 20 = .ok (.getfield 17, 3) := by decide +kernel
theorem dX5_removeUnjustified_23 : decode cX5_removeUnjustified 23 = .ok (.iconst 4, 1) := by decide +kernel
theorem dX5_removeUnjustified_24 : decode cX5_removeUnjustified 24 = .ok (.iload_n 2, 1) := by decide +kernel
theorem dX5_removeUnjustified_25 : decode cX5_removeUnjustified 25 = .ok (.iadd, 1) := by decide +kernel
theorem dX5_removeUnjustified_26 : decode cX5_removeUnjustified 26 = .ok (.aaload, 1) := by decide +kernel
theorem dX5_removeUnjustified_27 : decode cX5_removeUnjustified 27 = .ok (.iload_n 3, 1) := by decide +kernel
theorem dX5_removeUnjustified_28 : decode cX5_removeUnjustified 28 = .ok (.baload, 1) := by decide +kernel
theorem dX5_removeUnjustified_29 : decode cX5_removeUnjustified 29 = .ok (.istore 4, 2) := by decide +kernel
theorem dX5_removeUnjustified_31 : decode cX5_removeUnjustified 31 = .ok (.iload 4, 2) := by decide +kernel
theorem dX5_removeUnjustified_33 : decode cX5_removeUnjustified 33 = .ok (.aload_n 0, 1) := by decide +kernel
theorem dX5_removeUnjustified_34 : decode cX5_removeUnjustified 34 = .ok (.aload_n 0, 1) := by decide +kernel
theorem dX5_removeUnjustified_35 : decode cX5_removeUnjustified 35 = .ok (.getfield 9, 3) := by decide +kernel
theorem dX5_removeUnjustified_38 : decode cX5_removeUnjustified 38 = .ok (.iload_n 2, 1) := by decide +kernel
theorem dX5_removeUnjustified_39 : decode cX5_removeUnjustified 39 = .ok (.invokevirtual 90, 3) := by decide +kernel
theorem dX5_removeUnjustified_42 : decode cX5_removeUnjustified 42 = .ok (.iload_n 3, 1) := by decide +kernel
theorem dX5_removeUnjustified_43 : decode cX5_removeUnjustified 43 = .ok (.invokevirtual 94, 3) := by decide +kernel
theorem dX5_removeUnjustified_46 : decode cX5_removeUnjustified 46 = .ok (.iand, 1) := by decide +kernel
theorem dX5_removeUnjustified_47 : decode cX5_removeUnjustified 47 = .ok (.istore 5, 2) := by decide +kernel
theorem dX5_removeUnjustified_49 : decode cX5_removeUnjustified 49 = .ok (.aload_n 0, 1) := by decide +kernel
theorem dX5_removeUnjustified_50 : decode cX5_removeUnjustified 50 = .ok (.getfield 20, 3) := by decide +kernel
theorem dX5_removeUnjustified_53 : decode cX5_removeUnjustified 53 = .ok (.iload_n 2, 1) := by decide +kernel
theorem dX5_removeUnjustified_54 : decode cX5_removeUnjustified 54 = .ok (.aaload, 1) := by decide +kernel
theorem dX5_removeUnjustified_55 : decode cX5_removeUnjustified 55 = .ok (.iload_n 3, 1) := by decide +kernel
theorem dX5_removeUnjustified_56 : decode cX5_removeUnjustified 56 = .ok (.iload 5, 2) := by decide +kernel
theorem dX5_removeUnjustified_58 : decode cX5_removeUnjustified 58 = .ok (.i2b, 1) := by decide +kernel
theorem dX5_removeUnjustified_59 : decode cX5_removeUnjustified 59 = .ok (.bastore, 1) := by decide +kernel
theorem dX5_removeUnjustified_60 : decode cX5_removeUnjustified 60 = .ok (.iload_n 1, 1) := by decide +kernel
theorem dX5_removeUnjustified_61 : decode cX5_removeUnjustified 61 = .ok (.iload 5, 2) := by decide +kernel
theorem dX5_removeUnjustified_63 : decode cX5_removeUnjustified 63 = .ok (.iload 4, 2) := by decide +kernel
theorem dX5_removeUnjustified_65 : decode cX5_removeUnjustified 65 = .ok (.if_icmp .eq 7, 3) := by decide +kernel
theorem dX5_removeUnjustified_68 : decode cX5_removeUnjustified 68 = .ok (.iconst 1, 1) := by decide +kernel
theorem dX5_removeUnjustified_69 : decode cX5_removeUnjustified 69 = .ok (.goto 4, 3) := by decide +kernel
theorem dX5_removeUnjustified_72 : decode cX5_removeUnjustified 72 = .ok (.iconst 0, 1) := by decide +kernel
theorem dX5_removeUnjustified_73 : decode cX5_removeUnjustified 73 = .ok (.ior, 1) := by decide +kernel
theorem dX5_removeUnjustified_74 : decode cX5_removeUnjustified 74 = .ok (.istore_n 1, 1) := by decide +kernel
theorem dX5_removeUnjustified_75 : decode cX5_removeUnjustified 75 = .ok (.iinc 3 1, 3) := by decide +kernel
theorem dX5_removeUnjustified_78 : decode cX5_removeUnjustified 78 = .ok (.goto (-67), 3) := by decide +kernel
theorem dX5_removeUnjustified_81 : decode cX5_removeUnjustified 81 = .ok (.iinc 2 1, 3) := by decide +kernel
theorem dX5_removeUnjustified_84 : decode cX5_removeUnjustified 84 = .ok (.goto (-80), 3) := by decide +kernel
theorem dX5_removeUnjustified_87 : decode cX5_removeUnjustified 87 = .ok (.iconst 0, 1) := by decide +kernel
theorem dX5_removeUnjustified_88 : decode cX5_removeUnjustified 88 = .ok (.istore_n 2, 1) := by decide +kernel
theorem dX5_removeUnjustified_89 : decode cX5_removeUnjustified 89 = .ok (.iload_n 2, 1) := by decide +kernel
theorem dX5_removeUnjustified_90 : decode cX5_removeUnjustified 90 = .ok (.iconst 4, 1) := by decide +kernel
theorem dX5_removeUnjustified_91 : decode cX5_removeUnjustified 91 = .ok (.if_icmp .ge 32, 3) := by decide +kernel
theorem dX5_removeUnjustified_94 : decode cX5_removeUnjustified 94 = .ok (.aload_n 0, 1) := by decide +kernel
theorem dX5_removeUnjustified_95 : decode cX5_removeUnjustified 95 = .ok (.getfield 20, 3) := by decide +kernel
theorem dX5_removeUnjustified_98 : decode cX5_removeUnjustified 98 = .ok (.iload_n 2, 1) := by decide +kernel
theorem dX5_removeUnjustified_99 : decode cX5_removeUnjustified 99 = .ok (.aaload, 1) := by decide +kernel
theorem dX5_removeUnjustified_100 : decode cX5_removeUnjustified 100 = .ok (.iconst 0, 1) := by decide +kernel
theorem dX5_removeUnjustified_101 : decode cX5_removeUnjustified 101 = .ok (.aload_n 0, 1) := by decide +kernel
theorem dX5_removeUnjustified_102 : decode cX5_removeUnjustified 102 = .ok (.getfield 17, 3) := by decide +kernel
theorem dX5_removeUnjustified_105 : decode cX5_removeUnjustified 105 = .ok (.iconst 4, 1) := by decide +kernel
theorem dX5_removeUnjustified_106 : decode cX5_removeUnjustified 106 = .ok (.iload_n 2, 1) := by decide +kernel
theorem dX5_removeUnjustified_107 : decode cX5_removeUnjustified 107 = .ok (.iadd, 1) := by decide +kernel
theorem dX5_removeUnjustified_108 : decode cX5_removeUnjustified 108 = .ok (.aaload, 1) := by decide +kernel
theorem dX5_removeUnjustified_109 : decode cX5_removeUnjustified 109 = .ok (.iconst 0, 1) := by decide +kernel
theorem dX5_removeUnjustified_110 : decode cX5_removeUnjustified 110 = .ok (.iload_n 2, 1) := by decide +kernel
theorem dX5_removeUnjustified_111 : decode cX5_removeUnjustified 111 = .ok (.invokestatic 51, 3) := by decide +kernel
theorem dX5_removeUnjustified_114 : decode cX5_removeUnjustified 114 = .ok (.invokestatic 98, 3) := by decide +kernel
theorem dX5_removeUnjustified_117 : decode cX5_removeUnjustified 117 = .ok (.iinc 2 1, 3) := by decide +kernel
theorem dX5_removeUnjustified_120 : decode cX5_removeUnjustified 120 = .ok (.goto (-31), 3) := by decide +kernel
theorem dX5_removeUnjustified_123 : decode cX5_removeUnjustified 123 = .ok (.iload_n 1, 1) := by decide +kernel
theorem dX5_removeUnjustified_124 : decode cX5_removeUnjustified 124 = .ok (.ireturn, 1) := by decide +kernel
abbrev x_X5_removeUnjustified : Cx := (5, cX5_removeUnjustified, false, some (.boolean))
set_option maxRecDepth 10000 in
theorem g_X5_removeUnjustified_0 {E : Ev} {d : Nat} {G : Hp} {Q : Po} {x0 : Nat} (h : Xr E d x_X5_removeUnjustified 4 [some (.ref x0), some (.int ((iv 0))), some (.int ((iv 0))), none, none, none] [] G Q) : Xr E d x_X5_removeUnjustified 0 [some (.ref x0), none, none, none, none, none] [] G Q := by
  refine r_iconst dX5_removeUnjustified_0 ?_
  refine r_istore_n dX5_removeUnjustified_1 rfl ?_
  refine r_iconst dX5_removeUnjustified_2 ?_
  refine r_istore_n dX5_removeUnjustified_3 rfl ?_
  exact h
theorem e_X5_removeUnjustified {E : Ev} {d : Nat} {G : Hp} {Q : Po} {x0 : Nat} (h : Xr E d x_X5_removeUnjustified 4 [some (.ref x0), some (.int ((iv 0))), some (.int ((iv 0))), none, none, none] [] G Q) : runs E (d + 1) i_X5_removeUnjustified [.ref x0] G Q := by
  rw [runs_eq (m := (yX5_removeUnjustified, cX5_removeUnjustified, 6, some (.boolean), 0, 5, false, false)) rfl (Nat.le_of_ble_eq_true rfl)]
  exact g_X5_removeUnjustified_0 h
set_option maxRecDepth 10000 in
theorem g_X5_removeUnjustified_4 {E : Ev} {d : Nat} {G : Hp} {Q : Po} {x0 : Nat} {x1 : Int32} {x2 : Int32} {l3 : Option Value} {l4 : Option Value} {l5 : Option Value} (h : (if (iv 4) ≤ x2 then Xr E d x_X5_removeUnjustified 89 [some (.ref x0), some (.int x1), some (.int ((iv 0))), l3, l4, l5] [] G Q else Xr E d x_X5_removeUnjustified 11 [some (.ref x0), some (.int x1), some (.int x2), some (.int ((iv 0))), l4, l5] [] G Q)) : Xr E d x_X5_removeUnjustified 4 [some (.ref x0), some (.int x1), some (.int x2), l3, l4, l5] [] G Q := by
  refine r_iload_n dX5_removeUnjustified_4 rfl ?_
  refine r_iconst dX5_removeUnjustified_5 ?_
  refine r_cge (tgt := 87) dX5_removeUnjustified_6 (by decide) (ite_imp (fun h => ?_) (fun h => ?_) h)
  · refine r_iconst dX5_removeUnjustified_87 ?_
    refine r_istore_n dX5_removeUnjustified_88 rfl ?_
    exact h
  · refine r_iconst dX5_removeUnjustified_9 ?_
    refine r_istore_n dX5_removeUnjustified_10 rfl ?_
    exact h
set_option maxRecDepth 10000 in
theorem g_X5_removeUnjustified_11 {E : Ev} {d : Nat} {G : Hp} {Q : Po} {x0 : Nat} {x1 : Int32} {x2 : Int32} {x3 : Int32} {l4 : Option Value} {l5 : Option Value} (h : (qCI E d i_X5_settingsOf [.int x2] G fun v2 G1 => (if v2 ≤ x3 then Xr E d x_X5_removeUnjustified 4 [some (.ref x0), some (.int x1), some (.int ((x2 + (iv 1)))), some (.int x3), l4, l5] [] G1 Q else (qFR E G1 x0 5 1 fun v3 => (qRA E G1 v3 ((iv 4) + x2) fun v4 => (qBA E G1 v4 x3 fun v5 => (qFR E G1 x0 5 0 fun v6 => (rcv E G1 v6 1 = true ∧ (qCR E d i_X1_body [.ref v6, .int x2] G1 fun v8 G7 => (rcv E G7 x0 5 = true ∧ (qCI E d i_X5_bodyTypes [.ref x0, .ref v8, .int x3] G7 fun v10 G9 => (qFR E G9 x0 5 2 fun v11 => (qRA E G9 v11 x2 fun v12 => (qBS E G9 v12 x3 (((v5 &&& v10)).toInt8.toInt32) fun G13 => (if (v5 &&& v10) = v5 then Xr E d x_X5_removeUnjustified 11 [some (.ref x0), some (.int ((x1 ||| (iv 0)))), some (.int x2), some (.int ((x3 + (iv 1)))), some (.int v5), some (.int ((v5 &&& v10)))] [] G13 Q else Xr E d x_X5_removeUnjustified 11 [some (.ref x0), some (.int ((x1 ||| (iv 1)))), some (.int x2), some (.int ((x3 + (iv 1)))), some (.int v5), some (.int ((v5 &&& v10)))] [] G13 Q))))))))))))))) : Xr E d x_X5_removeUnjustified 11 [some (.ref x0), some (.int x1), some (.int x2), some (.int x3), l4, l5] [] G Q := by
  refine r_iload_n dX5_removeUnjustified_11 rfl ?_
  refine r_iload_n dX5_removeUnjustified_12 rfl ?_
  refine r_cI dX5_removeUnjustified_13 rfl (invS_eq rfl (by decide) rfl rfl rfl rfl ⟨rfl, Nat.le_of_ble_eq_true rfl⟩) (qCI_imp (fun v2 G1 h => ?_) h)
  refine r_cge (tgt := 81) dX5_removeUnjustified_16 (by decide) (ite_imp (fun h => ?_) (fun h => ?_) h)
  · refine r_iinc dX5_removeUnjustified_81 rfl rfl ?_
    refine r_goto (tgt := 4) dX5_removeUnjustified_84 (by decide) ?_
    exact h
  · refine r_aload_n dX5_removeUnjustified_19 rfl ?_
    refine r_getR dX5_removeUnjustified_20 rfl (qFR_imp (fun v3 h => ?_) h)
    refine r_iconst dX5_removeUnjustified_23 ?_
    refine r_iload_n dX5_removeUnjustified_24 rfl ?_
    refine r_iadd dX5_removeUnjustified_25 ?_
    refine r_aald dX5_removeUnjustified_26 (qRA_imp (fun v4 h => ?_) h)
    refine r_iload_n dX5_removeUnjustified_27 rfl ?_
    refine r_bald dX5_removeUnjustified_28 (qBA_imp (fun v5 h => ?_) h)
    refine r_istore dX5_removeUnjustified_29 rfl ?_
    refine r_iload dX5_removeUnjustified_31 rfl ?_
    refine r_aload_n dX5_removeUnjustified_33 rfl ?_
    refine r_aload_n dX5_removeUnjustified_34 rfl ?_
    refine r_getR dX5_removeUnjustified_35 rfl (qFR_imp (fun v6 h => ?_) h)
    refine r_iload_n dX5_removeUnjustified_38 rfl ?_
    refine r_cR dX5_removeUnjustified_39 rfl (invV_eq rfl rfl rfl rfl rfl rfl ⟨rfl, Nat.le_of_ble_eq_true rfl⟩ h.1) (qCR_imp (fun v8 G7 h => ?_) h.2)
    refine r_iload_n dX5_removeUnjustified_42 rfl ?_
    refine r_cI dX5_removeUnjustified_43 rfl (invV_eq rfl rfl rfl rfl rfl rfl ⟨rfl, Nat.le_of_ble_eq_true rfl⟩ h.1) (qCI_imp (fun v10 G9 h => ?_) h.2)
    refine r_iand dX5_removeUnjustified_46 ?_
    refine r_istore dX5_removeUnjustified_47 rfl ?_
    refine r_aload_n dX5_removeUnjustified_49 rfl ?_
    refine r_getR dX5_removeUnjustified_50 rfl (qFR_imp (fun v11 h => ?_) h)
    refine r_iload_n dX5_removeUnjustified_53 rfl ?_
    refine r_aald dX5_removeUnjustified_54 (qRA_imp (fun v12 h => ?_) h)
    refine r_iload_n dX5_removeUnjustified_55 rfl ?_
    refine r_iload dX5_removeUnjustified_56 rfl ?_
    refine r_i2b dX5_removeUnjustified_58 ?_
    refine r_bast dX5_removeUnjustified_59 (qBS_imp (fun G13 h => ?_) h)
    refine r_iload_n dX5_removeUnjustified_60 rfl ?_
    refine r_iload dX5_removeUnjustified_61 rfl ?_
    refine r_iload dX5_removeUnjustified_63 rfl ?_
    refine r_ceq (tgt := 72) dX5_removeUnjustified_65 (by decide) (ite_imp (fun h => ?_) (fun h => ?_) h)
    · refine r_iconst dX5_removeUnjustified_72 ?_
      refine r_ior dX5_removeUnjustified_73 ?_
      refine r_istore_n dX5_removeUnjustified_74 rfl ?_
      refine r_iinc dX5_removeUnjustified_75 rfl rfl ?_
      refine r_goto (tgt := 11) dX5_removeUnjustified_78 (by decide) ?_
      exact h
    · refine r_iconst dX5_removeUnjustified_68 ?_
      refine r_goto (tgt := 73) dX5_removeUnjustified_69 (by decide) ?_
      refine r_ior dX5_removeUnjustified_73 ?_
      refine r_istore_n dX5_removeUnjustified_74 rfl ?_
      refine r_iinc dX5_removeUnjustified_75 rfl rfl ?_
      refine r_goto (tgt := 11) dX5_removeUnjustified_78 (by decide) ?_
      exact h
set_option maxRecDepth 10000 in
theorem g_X5_removeUnjustified_89 {E : Ev} {d : Nat} {G : Hp} {Q : Po} {x0 : Nat} {x1 : Int32} {x2 : Int32} {l3 : Option Value} {l4 : Option Value} {l5 : Option Value} (h : (if (iv 4) ≤ x2 then (narrow .boolean (.int x1) = .int x1 ∧ Q (some (.int x1)) G) else (qFR E G x0 5 2 fun v1 => (qRA E G v1 x2 fun v2 => (qFR E G x0 5 1 fun v3 => (qRA E G v3 ((iv 4) + x2) fun v4 => (qCI E d i_X5_settingsOf [.int x2] G fun v6 G5 => (qCp E G5 v2 (iv 0) v4 (iv 0) v6 fun G7 => Xr E d x_X5_removeUnjustified 89 [some (.ref x0), some (.int x1), some (.int ((x2 + (iv 1)))), l3, l4, l5] [] G7 Q)))))))) : Xr E d x_X5_removeUnjustified 89 [some (.ref x0), some (.int x1), some (.int x2), l3, l4, l5] [] G Q := by
  refine r_iload_n dX5_removeUnjustified_89 rfl ?_
  refine r_iconst dX5_removeUnjustified_90 ?_
  refine r_cge (tgt := 123) dX5_removeUnjustified_91 (by decide) (ite_imp (fun h => ?_) (fun h => ?_) h)
  · refine r_iload_n dX5_removeUnjustified_123 rfl ?_
    exact r_iret dX5_removeUnjustified_124 rfl h
  · refine r_aload_n dX5_removeUnjustified_94 rfl ?_
    refine r_getR dX5_removeUnjustified_95 rfl (qFR_imp (fun v1 h => ?_) h)
    refine r_iload_n dX5_removeUnjustified_98 rfl ?_
    refine r_aald dX5_removeUnjustified_99 (qRA_imp (fun v2 h => ?_) h)
    refine r_iconst dX5_removeUnjustified_100 ?_
    refine r_aload_n dX5_removeUnjustified_101 rfl ?_
    refine r_getR dX5_removeUnjustified_102 rfl (qFR_imp (fun v3 h => ?_) h)
    refine r_iconst dX5_removeUnjustified_105 ?_
    refine r_iload_n dX5_removeUnjustified_106 rfl ?_
    refine r_iadd dX5_removeUnjustified_107 ?_
    refine r_aald dX5_removeUnjustified_108 (qRA_imp (fun v4 h => ?_) h)
    refine r_iconst dX5_removeUnjustified_109 ?_
    refine r_iload_n dX5_removeUnjustified_110 rfl ?_
    refine r_cI dX5_removeUnjustified_111 rfl (invS_eq rfl (by decide) rfl rfl rfl rfl ⟨rfl, Nat.le_of_ble_eq_true rfl⟩) (qCI_imp (fun v6 G5 h => ?_) h)
    refine r_cpy dX5_removeUnjustified_114 rfl (Nat.le_of_ble_eq_true rfl) (qCp_imp (fun G7 h => ?_) h)
    refine r_iinc dX5_removeUnjustified_117 rfl rfl ?_
    refine r_goto (tgt := 89) dX5_removeUnjustified_120 (by decide) ?_
    exact h
theorem dX5_bodyTypes_0 : decode cX5_bodyTypes 0 = .ok (.iconst 0, 1) := by decide +kernel
theorem dX5_bodyTypes_1 : decode cX5_bodyTypes 1 = .ok (.istore_n 3, 1) := by decide +kernel
theorem dX5_bodyTypes_2 : decode cX5_bodyTypes 2 = .ok (.aload_n 1, 1) := by decide +kernel
theorem dX5_bodyTypes_3 : decode cX5_bodyTypes 3 = .ok (.invokevirtual 104, 3) := by decide +kernel
theorem dX5_bodyTypes_6 : decode cX5_bodyTypes 6 = .ok (.iconst 1, 1) := by decide +kernel
theorem dX5_bodyTypes_7 : decode cX5_bodyTypes 7 = .ok (.isub, 1) := by decide +kernel
theorem dX5_bodyTypes_8 : decode cX5_bodyTypes 8 = .ok (.istore 4, 2) := by decide +kernel
theorem dX5_bodyTypes_10 : decode cX5_bodyTypes 10 = .ok (.iload 4, 2) := by decide +kernel
theorem dX5_bodyTypes_12 : decode cX5_bodyTypes 12 = .ok (.ifCond .lt 112, 3) := by decide +kernel
theorem dX5_bodyTypes_15 : decode cX5_bodyTypes 15 = .ok (.aload_n 1, 1) := by decide +kernel
theorem dX5_bodyTypes_16 : decode cX5_bodyTypes 16 = .ok (.iload 4, 2) := by decide +kernel
theorem dX5_bodyTypes_18 : decode cX5_bodyTypes 18 = .ok (.invokevirtual 109, 3) := by decide +kernel
theorem dX5_bodyTypes_21 : decode cX5_bodyTypes 21 = .ok (.istore 5, 2) := by decide +kernel
theorem dX5_bodyTypes_23 : decode cX5_bodyTypes 23 = .ok (.iload 5, 2) := by decide +kernel
theorem dX5_bodyTypes_25 : decode cX5_bodyTypes 25 = .ok (.invokestatic 83, 3) := by decide +kernel
theorem dX5_bodyTypes_28 : decode cX5_bodyTypes 28 = .ok (.istore 6, 2) := by decide +kernel
theorem dX5_bodyTypes_30 : decode cX5_bodyTypes 30 = .ok (.iload_n 3, 1) := by decide +kernel
theorem dX5_bodyTypes_31 : decode cX5_bodyTypes 31 = .ok (.iload 6, 2) := by decide +kernel
theorem dX5_bodyTypes_33 : decode cX5_bodyTypes 33 = .ok (.if_icmp .lt 15, 3) := by decide +kernel
theorem dX5_bodyTypes_36 : decode cX5_bodyTypes 36 = .ok (.iload_n 3, 1) := by decide +kernel
theorem dX5_bodyTypes_37 : decode cX5_bodyTypes 37 = .ok (.iload 6, 2) := by decide +kernel
theorem dX5_bodyTypes_39 : decode cX5_bodyTypes 39 = .ok (.isub, 1) := by decide +kernel
theorem dX5_bodyTypes_40 : decode cX5_bodyTypes 40 = .ok (.aload_n 0, 1) := by decide +kernel
theorem dX5_bodyTypes_41 : decode cX5_bodyTypes 41 = .ok (.getfield 23, 3) := by decide +kernel
theorem dX5_bodyTypes_44 : decode cX5_bodyTypes 44 = .ok (.arraylength, 1) := by decide +kernel
theorem dX5_bodyTypes_45 : decode cX5_bodyTypes 45 = .ok (.if_icmp .lt 5, 3) := by decide +kernel
theorem dX5_bodyTypes_48 : decode cX5_bodyTypes 48 = .ok (.iconst 0, 1) := by decide +kernel
theorem dX5_bodyTypes_49 : decode cX5_bodyTypes 49 = .ok (.ireturn, 1) := by decide +kernel
theorem dX5_bodyTypes_50 : decode cX5_bodyTypes 50 = .ok (.iload 6, 2) := by decide +kernel
theorem dX5_bodyTypes_52 : decode cX5_bodyTypes 52 = .ok (.iconst 1, 1) := by decide +kernel
theorem dX5_bodyTypes_53 : decode cX5_bodyTypes 53 = .ok (.if_icmp .lt 14, 3) := by decide +kernel
theorem dX5_bodyTypes_56 : decode cX5_bodyTypes 56 = .ok (.aload_n 0, 1) := by decide +kernel
theorem dX5_bodyTypes_57 : decode cX5_bodyTypes 57 = .ok (.getfield 23, 3) := by decide +kernel
theorem dX5_bodyTypes_60 : decode cX5_bodyTypes 60 = .ok (.iload_n 3, 1) := by decide +kernel
theorem dX5_bodyTypes_61 : decode cX5_bodyTypes 61 = .ok (.iconst 1, 1) := by decide +kernel
theorem dX5_bodyTypes_62 : decode cX5_bodyTypes 62 = .ok (.isub, 1) := by decide +kernel
theorem dX5_bodyTypes_63 : decode cX5_bodyTypes 63 = .ok (.iaload, 1) := by decide +kernel
theorem dX5_bodyTypes_64 : decode cX5_bodyTypes 64 = .ok (.goto 4, 3) := by decide +kernel
theorem dX5_bodyTypes_67 : decode cX5_bodyTypes 67 = .ok (.iconst 0, 1) := by decide +kernel
theorem dX5_bodyTypes_68 : decode cX5_bodyTypes 68 = .ok (.istore 7, 2) := by decide +kernel
theorem dX5_bodyTypes_70 : decode cX5_bodyTypes 70 = .ok (.iload 6, 2) := by decide +kernel
theorem dX5_bodyTypes_72 : decode cX5_bodyTypes 72 = .ok (.iconst 2, 1) := by decide +kernel
theorem dX5_bodyTypes_73 : decode cX5_bodyTypes 73 = .ok (.if_icmp .lt 14, 3) := by decide +kernel
theorem dX5_bodyTypes_76 : decode cX5_bodyTypes 76 = .ok (.aload_n 0, 1) := by decide +kernel
theorem dX5_bodyTypes_77 : decode cX5_bodyTypes 77 = .ok (.getfield 23, 3) := by decide +kernel
theorem dX5_bodyTypes_80 : decode cX5_bodyTypes 80 = .ok (.iload_n 3, 1) := by decide +kernel
theorem dX5_bodyTypes_81 : decode cX5_bodyTypes 81 = .ok (.iconst 2, 1) := by decide +kernel
theorem dX5_bodyTypes_82 : decode cX5_bodyTypes 82 = .ok (.isub, 1) := by decide +kernel
theorem dX5_bodyTypes_83 : decode cX5_bodyTypes 83 = .ok (.iaload, 1) := by decide +kernel
theorem dX5_bodyTypes_84 : decode cX5_bodyTypes 84 = .ok (.goto 4, 3) := by decide +kernel
theorem dX5_bodyTypes_87 : decode cX5_bodyTypes 87 = .ok (.iconst 0, 1) := by decide +kernel
theorem dX5_bodyTypes_88 : decode cX5_bodyTypes 88 = .ok (.istore 8, 2) := by decide +kernel
theorem dX5_bodyTypes_90 : decode cX5_bodyTypes 90 = .ok (.iload_n 3, 1) := by decide +kernel
theorem dX5_bodyTypes_91 : decode cX5_bodyTypes 91 = .ok (.iload 6, 2) := by decide +kernel
theorem dX5_bodyTypes_93 : decode cX5_bodyTypes 93 = .ok (.isub, 1) := by decide +kernel
theorem dX5_bodyTypes_94 : decode cX5_bodyTypes 94 = .ok (.istore_n 3, 1) := by decide +kernel
theorem dX5_bodyTypes_95 : decode cX5_bodyTypes 95 = .ok (.aload_n 0, 1) := by decide +kernel
theorem dX5_bodyTypes_96 : decode cX5_bodyTypes 96 = .ok (.getfield 23, 3) := by decide +kernel
theorem dX5_bodyTypes_99 : decode cX5_bodyTypes 99 = .ok (.iload_n 3, 1) := by decide +kernel
theorem dX5_bodyTypes_100 : decode cX5_bodyTypes 100 = .ok (.aload_n 0, 1) := by decide +kernel
theorem dX5_bodyTypes_101 : decode cX5_bodyTypes 101 = .ok (.iload 5, 2) := by decide +kernel
theorem dX5_bodyTypes_103 : decode cX5_bodyTypes 103 = .ok (.iload 7, 2) := by decide +kernel
theorem dX5_bodyTypes_105 : decode cX5_bodyTypes 105 = .ok (.iload 8, 2) := by decide +kernel
theorem dX5_bodyTypes_107 : decode cX5_bodyTypes 107 = .ok (.invokestatic 112, 3) := by decide +kernel
theorem dX5_bodyTypes_110 : decode cX5_bodyTypes 110 = .ok (.iload_n 2, 1) := by decide +kernel
theorem dX5_bodyTypes_111 : decode cX5_bodyTypes 111 = .ok (.invokevirtual 115, 3) := by decide +kernel
theorem dX5_bodyTypes_114 : decode cX5_bodyTypes 114 = .ok (.iastore, 1) := by decide +kernel
theorem dX5_bodyTypes_115 : decode cX5_bodyTypes 115 = .ok (.iinc 3 1, 3) := by decide +kernel
theorem dX5_bodyTypes_118 : decode cX5_bodyTypes 118 = .ok (.iinc 4 (-1), 3) := by decide +kernel
theorem dX5_bodyTypes_121 : decode cX5_bodyTypes 121 = .ok (.goto (-111), 3) := by decide +kernel
theorem dX5_bodyTypes_124 : decode cX5_bodyTypes 124 = .ok (.iload_n 3, 1) := by decide +kernel
theorem dX5_bodyTypes_125 : decode cX5_bodyTypes 125 = .ok (.iconst 1, 1) := by decide +kernel
theorem dX5_bodyTypes_126 : decode cX5_bodyTypes 126 = .ok (.if_icmp .ne 12, 3) := by decide +kernel
theorem dX5_bodyTypes_129 : decode cX5_bodyTypes 129 = .ok (.aload_n 0, 1) := by decide +kernel
theorem dX5_bodyTypes_130 : decode cX5_bodyTypes 130 = .ok (.getfield 23, 3) := by decide +kernel
theorem dX5_bodyTypes_133 : decode cX5_bodyTypes 133 = .ok (.iconst 0, 1) := by decide +kernel
theorem dX5_bodyTypes_134 : decode cX5_bodyTypes 134 = .ok (.iaload, 1) := by decide +kernel
theorem dX5_bodyTypes_135 : decode cX5_bodyTypes 135 = .ok (.goto 4, 3) := by decide +kernel
theorem dX5_bodyTypes_138 : decode cX5_bodyTypes 138 = .ok (.iconst 0, 1) := by decide +kernel
theorem dX5_bodyTypes_139 : decode cX5_bodyTypes 139 = .ok (.ireturn, 1) := by decide +kernel
abbrev x_X5_bodyTypes : Cx := (5, cX5_bodyTypes, false, some (.int))
set_option maxRecDepth 10000 in
theorem g_X5_bodyTypes_0 {E : Ev} {d : Nat} {G : Hp} {Q : Po} {x0 : Nat} {x1 : Nat} {x2 : Int32} (h : (rcv E G x1 2 = true ∧ (qCI E d i_X2_size [.ref x1] G fun v2 G1 => Xr E d x_X5_bodyTypes 10 [some (.ref x0), some (.ref x1), some (.int x2), some (.int ((iv 0))), some (.int ((v2 - (iv 1)))), none, none, none, none] [] G1 Q))) : Xr E d x_X5_bodyTypes 0 [some (.ref x0), some (.ref x1), some (.int x2), none, none, none, none, none, none] [] G Q := by
  refine r_iconst dX5_bodyTypes_0 ?_
  refine r_istore_n dX5_bodyTypes_1 rfl ?_
  refine r_aload_n dX5_bodyTypes_2 rfl ?_
  refine r_cI dX5_bodyTypes_3 rfl (invV_eq rfl rfl rfl rfl rfl rfl ⟨rfl, Nat.le_of_ble_eq_true rfl⟩ h.1) (qCI_imp (fun v2 G1 h => ?_) h.2)
  refine r_iconst dX5_bodyTypes_6 ?_
  refine r_isub dX5_bodyTypes_7 ?_
  refine r_istore dX5_bodyTypes_8 rfl ?_
  exact h
theorem e_X5_bodyTypes {E : Ev} {d : Nat} {G : Hp} {Q : Po} {x0 : Nat} {x1 : Nat} {x2 : Int32} (h : (rcv E G x1 2 = true ∧ (qCI E d i_X2_size [.ref x1] G fun v2 G1 => Xr E d x_X5_bodyTypes 10 [some (.ref x0), some (.ref x1), some (.int x2), some (.int ((iv 0))), some (.int ((v2 - (iv 1)))), none, none, none, none] [] G1 Q))) : runs E (d + 1) i_X5_bodyTypes [.ref x0, .ref x1, .int x2] G Q := by
  rw [runs_eq (m := (yX5_bodyTypes, cX5_bodyTypes, 9, some (.int), 2, 5, false, false)) rfl (Nat.le_of_ble_eq_true rfl)]
  exact g_X5_bodyTypes_0 h
set_option maxRecDepth 10000 in
theorem g_X5_bodyTypes_10 {E : Ev} {d : Nat} {G : Hp} {Q : Po} {x0 : Nat} {x1 : Nat} {x2 : Int32} {x3 : Int32} {x4 : Int32} {l5 : Option Value} {l6 : Option Value} {l7 : Option Value} {l8 : Option Value} (h : (if x4 < 0 then (if ¬ x3 = (iv 1) then Q (some (.int (iv 0))) G else (qFR E G x0 5 3 fun v1 => (qIA 5 E G v1 (iv 0) fun v2 => Q (some (.int v2)) G))) else (rcv E G x1 2 = true ∧ (qCI E d i_X2_symbol [.ref x1, .int x4] G fun v4 G3 => (qCI E d i_X6_arityOf [.int v4] G3 fun v6 G5 => (if x3 < v6 then Q (some (.int (iv 0))) G5 else (qFR E G5 x0 5 3 fun v7 => (qL 5 E G5 v7 fun v8 => (if (x3 - v6) < v8 then (if v6 < (iv 1) then (if v6 < (iv 2) then (qFR E G5 x0 5 3 fun v9 => (qCI E d i_X6_setsOf [.int ((iv 0)), .int ((iv 0))] G5 fun v11 G10 => (rcv E G10 x0 5 = true ∧ (qCI E d i_X5_symbolTypes [.ref x0, .int v4, .int v11, .int x2] G10 fun v13 G12 => (qIS E G12 v9 (x3 - v6) v13 fun G14 => Xr E d x_X5_bodyTypes 10 [some (.ref x0), some (.ref x1), some (.int x2), some (.int (((x3 - v6) + (iv 1)))), some (.int ((x4 + (iv (-1))))), some (.int v4), some (.int v6), some (.int ((iv 0))), some (.int ((iv 0)))] [] G14 Q))))) else (qFR E G5 x0 5 3 fun v15 => (qIA 5 E G5 v15 (x3 - (iv 2)) fun v16 => (qFR E G5 x0 5 3 fun v17 => (qCI E d i_X6_setsOf [.int ((iv 0)), .int v16] G5 fun v19 G18 => (rcv E G18 x0 5 = true ∧ (qCI E d i_X5_symbolTypes [.ref x0, .int v4, .int v19, .int x2] G18 fun v21 G20 => (qIS E G20 v17 (x3 - v6) v21 fun G22 => Xr E d x_X5_bodyTypes 10 [some (.ref x0), some (.ref x1), some (.int x2), some (.int (((x3 - v6) + (iv 1)))), some (.int ((x4 + (iv (-1))))), some (.int v4), some (.int v6), some (.int ((iv 0))), some (.int v16)] [] G22 Q)))))))) else (qFR E G5 x0 5 3 fun v23 => (qIA 5 E G5 v23 (x3 - (iv 1)) fun v24 => (if v6 < (iv 2) then (qFR E G5 x0 5 3 fun v25 => (qCI E d i_X6_setsOf [.int v24, .int ((iv 0))] G5 fun v27 G26 => (rcv E G26 x0 5 = true ∧ (qCI E d i_X5_symbolTypes [.ref x0, .int v4, .int v27, .int x2] G26 fun v29 G28 => (qIS E G28 v25 (x3 - v6) v29 fun G30 => Xr E d x_X5_bodyTypes 10 [some (.ref x0), some (.ref x1), some (.int x2), some (.int (((x3 - v6) + (iv 1)))), some (.int ((x4 + (iv (-1))))), some (.int v4), some (.int v6), some (.int v24), some (.int ((iv 0)))] [] G30 Q))))) else (qFR E G5 x0 5 3 fun v31 => (qIA 5 E G5 v31 (x3 - (iv 2)) fun v32 => (qFR E G5 x0 5 3 fun v33 => (qCI E d i_X6_setsOf [.int v24, .int v32] G5 fun v35 G34 => (rcv E G34 x0 5 = true ∧ (qCI E d i_X5_symbolTypes [.ref x0, .int v4, .int v35, .int x2] G34 fun v37 G36 => (qIS E G36 v33 (x3 - v6) v37 fun G38 => Xr E d x_X5_bodyTypes 10 [some (.ref x0), some (.ref x1), some (.int x2), some (.int (((x3 - v6) + (iv 1)))), some (.int ((x4 + (iv (-1))))), some (.int v4), some (.int v6), some (.int v24), some (.int v32)] [] G38 Q))))))))))) else Q (some (.int (iv 0))) G5))))))))) : Xr E d x_X5_bodyTypes 10 [some (.ref x0), some (.ref x1), some (.int x2), some (.int x3), some (.int x4), l5, l6, l7, l8] [] G Q := by
  refine r_iload dX5_bodyTypes_10 rfl ?_
  refine r_iflt (tgt := 124) dX5_bodyTypes_12 (by decide) (ite_imp (fun h => ?_) (fun h => ?_) h)
  · refine r_iload_n dX5_bodyTypes_124 rfl ?_
    refine r_iconst dX5_bodyTypes_125 ?_
    refine r_cne (tgt := 138) dX5_bodyTypes_126 (by decide) (ite_imp (fun h => ?_) (fun h => ?_) h)
    · refine r_iconst dX5_bodyTypes_138 ?_
      exact r_iret dX5_bodyTypes_139 rfl ⟨rfl, h⟩
    · refine r_aload_n dX5_bodyTypes_129 rfl ?_
      refine r_getR dX5_bodyTypes_130 rfl (qFR_imp (fun v1 h => ?_) h)
      refine r_iconst dX5_bodyTypes_133 ?_
      refine r_iald dX5_bodyTypes_134 (qIA_imp (fun v2 h => ?_) h)
      refine r_goto (tgt := 139) dX5_bodyTypes_135 (by decide) ?_
      exact r_iret dX5_bodyTypes_139 rfl ⟨rfl, h⟩
  · refine r_aload_n dX5_bodyTypes_15 rfl ?_
    refine r_iload dX5_bodyTypes_16 rfl ?_
    refine r_cI dX5_bodyTypes_18 rfl (invV_eq rfl rfl rfl rfl rfl rfl ⟨rfl, Nat.le_of_ble_eq_true rfl⟩ h.1) (qCI_imp (fun v4 G3 h => ?_) h.2)
    refine r_istore dX5_bodyTypes_21 rfl ?_
    refine r_iload dX5_bodyTypes_23 rfl ?_
    refine r_cI dX5_bodyTypes_25 rfl (invS_eq rfl (by decide) rfl rfl rfl rfl ⟨rfl, Nat.le_of_ble_eq_true rfl⟩) (qCI_imp (fun v6 G5 h => ?_) h)
    refine r_istore dX5_bodyTypes_28 rfl ?_
    refine r_iload_n dX5_bodyTypes_30 rfl ?_
    refine r_iload dX5_bodyTypes_31 rfl ?_
    refine r_clt (tgt := 48) dX5_bodyTypes_33 (by decide) (ite_imp (fun h => ?_) (fun h => ?_) h)
    · refine r_iconst dX5_bodyTypes_48 ?_
      exact r_iret dX5_bodyTypes_49 rfl ⟨rfl, h⟩
    · refine r_iload_n dX5_bodyTypes_36 rfl ?_
      refine r_iload dX5_bodyTypes_37 rfl ?_
      refine r_isub dX5_bodyTypes_39 ?_
      refine r_aload_n dX5_bodyTypes_40 rfl ?_
      refine r_getR dX5_bodyTypes_41 rfl (qFR_imp (fun v7 h => ?_) h)
      refine r_alen dX5_bodyTypes_44 (qL_imp (fun v8 h => ?_) h)
      refine r_clt (tgt := 50) dX5_bodyTypes_45 (by decide) (ite_imp (fun h => ?_) (fun h => ?_) h)
      · refine r_iload dX5_bodyTypes_50 rfl ?_
        refine r_iconst dX5_bodyTypes_52 ?_
        refine r_clt (tgt := 67) dX5_bodyTypes_53 (by decide) (ite_imp (fun h => ?_) (fun h => ?_) h)
        · refine r_iconst dX5_bodyTypes_67 ?_
          refine r_istore dX5_bodyTypes_68 rfl ?_
          refine r_iload dX5_bodyTypes_70 rfl ?_
          refine r_iconst dX5_bodyTypes_72 ?_
          refine r_clt (tgt := 87) dX5_bodyTypes_73 (by decide) (ite_imp (fun h => ?_) (fun h => ?_) h)
          · refine r_iconst dX5_bodyTypes_87 ?_
            refine r_istore dX5_bodyTypes_88 rfl ?_
            refine r_iload_n dX5_bodyTypes_90 rfl ?_
            refine r_iload dX5_bodyTypes_91 rfl ?_
            refine r_isub dX5_bodyTypes_93 ?_
            refine r_istore_n dX5_bodyTypes_94 rfl ?_
            refine r_aload_n dX5_bodyTypes_95 rfl ?_
            refine r_getR dX5_bodyTypes_96 rfl (qFR_imp (fun v9 h => ?_) h)
            refine r_iload_n dX5_bodyTypes_99 rfl ?_
            refine r_aload_n dX5_bodyTypes_100 rfl ?_
            refine r_iload dX5_bodyTypes_101 rfl ?_
            refine r_iload dX5_bodyTypes_103 rfl ?_
            refine r_iload dX5_bodyTypes_105 rfl ?_
            refine r_cI dX5_bodyTypes_107 rfl (invS_eq rfl (by decide) rfl rfl rfl rfl ⟨rfl, Nat.le_of_ble_eq_true rfl⟩) (qCI_imp (fun v11 G10 h => ?_) h)
            refine r_iload_n dX5_bodyTypes_110 rfl ?_
            refine r_cI dX5_bodyTypes_111 rfl (invV_eq rfl rfl rfl rfl rfl rfl ⟨rfl, Nat.le_of_ble_eq_true rfl⟩ h.1) (qCI_imp (fun v13 G12 h => ?_) h.2)
            refine r_iast dX5_bodyTypes_114 (qIS_imp (fun G14 h => ?_) h)
            refine r_iinc dX5_bodyTypes_115 rfl rfl ?_
            refine r_iinc dX5_bodyTypes_118 rfl rfl ?_
            refine r_goto (tgt := 10) dX5_bodyTypes_121 (by decide) ?_
            exact h
          · refine r_aload_n dX5_bodyTypes_76 rfl ?_
            refine r_getR dX5_bodyTypes_77 rfl (qFR_imp (fun v15 h => ?_) h)
            refine r_iload_n dX5_bodyTypes_80 rfl ?_
            refine r_iconst dX5_bodyTypes_81 ?_
            refine r_isub dX5_bodyTypes_82 ?_
            refine r_iald dX5_bodyTypes_83 (qIA_imp (fun v16 h => ?_) h)
            refine r_goto (tgt := 88) dX5_bodyTypes_84 (by decide) ?_
            refine r_istore dX5_bodyTypes_88 rfl ?_
            refine r_iload_n dX5_bodyTypes_90 rfl ?_
            refine r_iload dX5_bodyTypes_91 rfl ?_
            refine r_isub dX5_bodyTypes_93 ?_
            refine r_istore_n dX5_bodyTypes_94 rfl ?_
            refine r_aload_n dX5_bodyTypes_95 rfl ?_
            refine r_getR dX5_bodyTypes_96 rfl (qFR_imp (fun v17 h => ?_) h)
            refine r_iload_n dX5_bodyTypes_99 rfl ?_
            refine r_aload_n dX5_bodyTypes_100 rfl ?_
            refine r_iload dX5_bodyTypes_101 rfl ?_
            refine r_iload dX5_bodyTypes_103 rfl ?_
            refine r_iload dX5_bodyTypes_105 rfl ?_
            refine r_cI dX5_bodyTypes_107 rfl (invS_eq rfl (by decide) rfl rfl rfl rfl ⟨rfl, Nat.le_of_ble_eq_true rfl⟩) (qCI_imp (fun v19 G18 h => ?_) h)
            refine r_iload_n dX5_bodyTypes_110 rfl ?_
            refine r_cI dX5_bodyTypes_111 rfl (invV_eq rfl rfl rfl rfl rfl rfl ⟨rfl, Nat.le_of_ble_eq_true rfl⟩ h.1) (qCI_imp (fun v21 G20 h => ?_) h.2)
            refine r_iast dX5_bodyTypes_114 (qIS_imp (fun G22 h => ?_) h)
            refine r_iinc dX5_bodyTypes_115 rfl rfl ?_
            refine r_iinc dX5_bodyTypes_118 rfl rfl ?_
            refine r_goto (tgt := 10) dX5_bodyTypes_121 (by decide) ?_
            exact h
        · refine r_aload_n dX5_bodyTypes_56 rfl ?_
          refine r_getR dX5_bodyTypes_57 rfl (qFR_imp (fun v23 h => ?_) h)
          refine r_iload_n dX5_bodyTypes_60 rfl ?_
          refine r_iconst dX5_bodyTypes_61 ?_
          refine r_isub dX5_bodyTypes_62 ?_
          refine r_iald dX5_bodyTypes_63 (qIA_imp (fun v24 h => ?_) h)
          refine r_goto (tgt := 68) dX5_bodyTypes_64 (by decide) ?_
          refine r_istore dX5_bodyTypes_68 rfl ?_
          refine r_iload dX5_bodyTypes_70 rfl ?_
          refine r_iconst dX5_bodyTypes_72 ?_
          refine r_clt (tgt := 87) dX5_bodyTypes_73 (by decide) (ite_imp (fun h => ?_) (fun h => ?_) h)
          · refine r_iconst dX5_bodyTypes_87 ?_
            refine r_istore dX5_bodyTypes_88 rfl ?_
            refine r_iload_n dX5_bodyTypes_90 rfl ?_
            refine r_iload dX5_bodyTypes_91 rfl ?_
            refine r_isub dX5_bodyTypes_93 ?_
            refine r_istore_n dX5_bodyTypes_94 rfl ?_
            refine r_aload_n dX5_bodyTypes_95 rfl ?_
            refine r_getR dX5_bodyTypes_96 rfl (qFR_imp (fun v25 h => ?_) h)
            refine r_iload_n dX5_bodyTypes_99 rfl ?_
            refine r_aload_n dX5_bodyTypes_100 rfl ?_
            refine r_iload dX5_bodyTypes_101 rfl ?_
            refine r_iload dX5_bodyTypes_103 rfl ?_
            refine r_iload dX5_bodyTypes_105 rfl ?_
            refine r_cI dX5_bodyTypes_107 rfl (invS_eq rfl (by decide) rfl rfl rfl rfl ⟨rfl, Nat.le_of_ble_eq_true rfl⟩) (qCI_imp (fun v27 G26 h => ?_) h)
            refine r_iload_n dX5_bodyTypes_110 rfl ?_
            refine r_cI dX5_bodyTypes_111 rfl (invV_eq rfl rfl rfl rfl rfl rfl ⟨rfl, Nat.le_of_ble_eq_true rfl⟩ h.1) (qCI_imp (fun v29 G28 h => ?_) h.2)
            refine r_iast dX5_bodyTypes_114 (qIS_imp (fun G30 h => ?_) h)
            refine r_iinc dX5_bodyTypes_115 rfl rfl ?_
            refine r_iinc dX5_bodyTypes_118 rfl rfl ?_
            refine r_goto (tgt := 10) dX5_bodyTypes_121 (by decide) ?_
            exact h
          · refine r_aload_n dX5_bodyTypes_76 rfl ?_
            refine r_getR dX5_bodyTypes_77 rfl (qFR_imp (fun v31 h => ?_) h)
            refine r_iload_n dX5_bodyTypes_80 rfl ?_
            refine r_iconst dX5_bodyTypes_81 ?_
            refine r_isub dX5_bodyTypes_82 ?_
            refine r_iald dX5_bodyTypes_83 (qIA_imp (fun v32 h => ?_) h)
            refine r_goto (tgt := 88) dX5_bodyTypes_84 (by decide) ?_
            refine r_istore dX5_bodyTypes_88 rfl ?_
            refine r_iload_n dX5_bodyTypes_90 rfl ?_
            refine r_iload dX5_bodyTypes_91 rfl ?_
            refine r_isub dX5_bodyTypes_93 ?_
            refine r_istore_n dX5_bodyTypes_94 rfl ?_
            refine r_aload_n dX5_bodyTypes_95 rfl ?_
            refine r_getR dX5_bodyTypes_96 rfl (qFR_imp (fun v33 h => ?_) h)
            refine r_iload_n dX5_bodyTypes_99 rfl ?_
            refine r_aload_n dX5_bodyTypes_100 rfl ?_
            refine r_iload dX5_bodyTypes_101 rfl ?_
            refine r_iload dX5_bodyTypes_103 rfl ?_
            refine r_iload dX5_bodyTypes_105 rfl ?_
            refine r_cI dX5_bodyTypes_107 rfl (invS_eq rfl (by decide) rfl rfl rfl rfl ⟨rfl, Nat.le_of_ble_eq_true rfl⟩) (qCI_imp (fun v35 G34 h => ?_) h)
            refine r_iload_n dX5_bodyTypes_110 rfl ?_
            refine r_cI dX5_bodyTypes_111 rfl (invV_eq rfl rfl rfl rfl rfl rfl ⟨rfl, Nat.le_of_ble_eq_true rfl⟩ h.1) (qCI_imp (fun v37 G36 h => ?_) h.2)
            refine r_iast dX5_bodyTypes_114 (qIS_imp (fun G38 h => ?_) h)
            refine r_iinc dX5_bodyTypes_115 rfl rfl ?_
            refine r_iinc dX5_bodyTypes_118 rfl rfl ?_
            refine r_goto (tgt := 10) dX5_bodyTypes_121 (by decide) ?_
            exact h
      · refine r_iconst dX5_bodyTypes_48 ?_
        exact r_iret dX5_bodyTypes_49 rfl ⟨rfl, h⟩
theorem dX5_symbolTypes_0 : decode cX5_symbolTypes 0 = .ok (.iload_n 1, 1) := by decide +kernel
theorem dX5_symbolTypes_1 : decode cX5_symbolTypes 1 = .ok (.bipush 8, 2) := by decide +kernel
theorem dX5_symbolTypes_3 : decode cX5_symbolTypes 3 = .ok (.if_icmp .ne 8, 3) := by decide +kernel
theorem dX5_symbolTypes_6 : decode cX5_symbolTypes 6 = .ok (.iload_n 3, 1) := by decide +kernel
theorem dX5_symbolTypes_7 : decode cX5_symbolTypes 7 = .ok (.invokestatic 60, 3) := by decide +kernel
theorem dX5_symbolTypes_10 : decode cX5_symbolTypes 10 = .ok (.ireturn, 1) := by decide +kernel
theorem dX5_symbolTypes_11 : decode cX5_symbolTypes 11 = .ok (.iload_n 1, 1) := by decide +kernel
theorem dX5_symbolTypes_12 : decode cX5_symbolTypes 12 = .ok (.bipush 9, 2) := by decide +kernel
theorem dX5_symbolTypes_14 : decode cX5_symbolTypes 14 = .ok (.if_icmp .ne 8, 3) := by decide +kernel
theorem dX5_symbolTypes_17 : decode cX5_symbolTypes 17 = .ok (.iload_n 3, 1) := by decide +kernel
theorem dX5_symbolTypes_18 : decode cX5_symbolTypes 18 = .ok (.invokestatic 63, 3) := by decide +kernel
theorem dX5_symbolTypes_21 : decode cX5_symbolTypes 21 = .ok (.ireturn, 1) := by decide +kernel
theorem dX5_symbolTypes_22 : decode cX5_symbolTypes 22 = .ok (.iload_n 1, 1) := by decide +kernel
theorem dX5_symbolTypes_23 : decode cX5_symbolTypes 23 = .ok (.ifCond .lt 23, 3) := by decide +kernel
theorem dX5_symbolTypes_26 : decode cX5_symbolTypes 26 = .ok (.iload_n 1, 1) := by decide +kernel
theorem dX5_symbolTypes_27 : decode cX5_symbolTypes 27 = .ok (.aload_n 0, 1) := by decide +kernel
theorem dX5_symbolTypes_28 : decode cX5_symbolTypes 28 = .ok (.getfield 17, 3) := by decide +kernel
theorem dX5_symbolTypes_31 : decode cX5_symbolTypes 31 = .ok (.arraylength, 1) := by decide +kernel
theorem dX5_symbolTypes_32 : decode cX5_symbolTypes 32 = .ok (.if_icmp .ge 14, 3) := by decide +kernel
theorem dX5_symbolTypes_35 : decode cX5_symbolTypes 35 = .ok (.aload_n 0, 1) := by decide +kernel
theorem dX5_symbolTypes_36 : decode cX5_symbolTypes 36 = .ok (.getfield 17, 3) := by decide +kernel
theorem dX5_symbolTypes_39 : decode cX5_symbolTypes 39 = .ok (.iload_n 1, 1) := by decide +kernel
theorem dX5_symbolTypes_40 : decode cX5_symbolTypes 40 = .ok (.aaload, 1) := by decide +kernel
theorem dX5_symbolTypes_41 : decode cX5_symbolTypes 41 = .ok (.iload_n 2, 1) := by decide +kernel
theorem dX5_symbolTypes_42 : decode cX5_symbolTypes 42 = .ok (.baload, 1) := by decide +kernel
theorem dX5_symbolTypes_43 : decode cX5_symbolTypes 43 = .ok (.goto 4, 3) := by decide +kernel
theorem dX5_symbolTypes_46 : decode cX5_symbolTypes 46 = .ok (.iconst 0, 1) := by decide +kernel
theorem dX5_symbolTypes_47 : decode cX5_symbolTypes 47 = .ok (.ireturn, 1) := by decide +kernel
abbrev x_X5_symbolTypes : Cx := (5, cX5_symbolTypes, false, some (.int))
set_option maxRecDepth 10000 in
theorem g_X5_symbolTypes_0 {E : Ev} {d : Nat} {G : Hp} {Q : Po} {x0 : Nat} {x1 : Int32} {x2 : Int32} {x3 : Int32} (h : (if ¬ x1 = (iv 8) then (if ¬ x1 = (iv 9) then (if x1 < 0 then Q (some (.int (iv 0))) G else (qFR E G x0 5 1 fun v1 => (qL 5 E G v1 fun v2 => (if v2 ≤ x1 then Q (some (.int (iv 0))) G else (qFR E G x0 5 1 fun v3 => (qRA E G v3 x1 fun v4 => (qBA E G v4 x2 fun v5 => Q (some (.int v5)) G))))))) else (qCI E d i_X6_secondOf [.int x3] G fun v7 G6 => Q (some (.int v7)) G6)) else (qCI E d i_X6_firstOf [.int x3] G fun v9 G8 => Q (some (.int v9)) G8))) : Xr E d x_X5_symbolTypes 0 [some (.ref x0), some (.int x1), some (.int x2), some (.int x3)] [] G Q := by
  refine r_iload_n dX5_symbolTypes_0 rfl ?_
  refine r_bipush dX5_symbolTypes_1 rfl ?_
  refine r_cne (tgt := 11) dX5_symbolTypes_3 (by decide) (ite_imp (fun h => ?_) (fun h => ?_) h)
  · refine r_iload_n dX5_symbolTypes_11 rfl ?_
    refine r_bipush dX5_symbolTypes_12 rfl ?_
    refine r_cne (tgt := 22) dX5_symbolTypes_14 (by decide) (ite_imp (fun h => ?_) (fun h => ?_) h)
    · refine r_iload_n dX5_symbolTypes_22 rfl ?_
      refine r_iflt (tgt := 46) dX5_symbolTypes_23 (by decide) (ite_imp (fun h => ?_) (fun h => ?_) h)
      · refine r_iconst dX5_symbolTypes_46 ?_
        exact r_iret dX5_symbolTypes_47 rfl ⟨rfl, h⟩
      · refine r_iload_n dX5_symbolTypes_26 rfl ?_
        refine r_aload_n dX5_symbolTypes_27 rfl ?_
        refine r_getR dX5_symbolTypes_28 rfl (qFR_imp (fun v1 h => ?_) h)
        refine r_alen dX5_symbolTypes_31 (qL_imp (fun v2 h => ?_) h)
        refine r_cge (tgt := 46) dX5_symbolTypes_32 (by decide) (ite_imp (fun h => ?_) (fun h => ?_) h)
        · refine r_iconst dX5_symbolTypes_46 ?_
          exact r_iret dX5_symbolTypes_47 rfl ⟨rfl, h⟩
        · refine r_aload_n dX5_symbolTypes_35 rfl ?_
          refine r_getR dX5_symbolTypes_36 rfl (qFR_imp (fun v3 h => ?_) h)
          refine r_iload_n dX5_symbolTypes_39 rfl ?_
          refine r_aald dX5_symbolTypes_40 (qRA_imp (fun v4 h => ?_) h)
          refine r_iload_n dX5_symbolTypes_41 rfl ?_
          refine r_bald dX5_symbolTypes_42 (qBA_imp (fun v5 h => ?_) h)
          refine r_goto (tgt := 47) dX5_symbolTypes_43 (by decide) ?_
          exact r_iret dX5_symbolTypes_47 rfl ⟨rfl, h⟩
    · refine r_iload_n dX5_symbolTypes_17 rfl ?_
      refine r_cI dX5_symbolTypes_18 rfl (invS_eq rfl (by decide) rfl rfl rfl rfl ⟨rfl, Nat.le_of_ble_eq_true rfl⟩) (qCI_imp (fun v7 G6 h => ?_) h)
      exact r_iret dX5_symbolTypes_21 rfl ⟨rfl, h⟩
  · refine r_iload_n dX5_symbolTypes_6 rfl ?_
    refine r_cI dX5_symbolTypes_7 rfl (invS_eq rfl (by decide) rfl rfl rfl rfl ⟨rfl, Nat.le_of_ble_eq_true rfl⟩) (qCI_imp (fun v9 G8 h => ?_) h)
    exact r_iret dX5_symbolTypes_10 rfl ⟨rfl, h⟩
theorem e_X5_symbolTypes {E : Ev} {d : Nat} {G : Hp} {Q : Po} {x0 : Nat} {x1 : Int32} {x2 : Int32} {x3 : Int32} (h : (if ¬ x1 = (iv 8) then (if ¬ x1 = (iv 9) then (if x1 < 0 then Q (some (.int (iv 0))) G else (qFR E G x0 5 1 fun v1 => (qL 5 E G v1 fun v2 => (if v2 ≤ x1 then Q (some (.int (iv 0))) G else (qFR E G x0 5 1 fun v3 => (qRA E G v3 x1 fun v4 => (qBA E G v4 x2 fun v5 => Q (some (.int v5)) G))))))) else (qCI E d i_X6_secondOf [.int x3] G fun v7 G6 => Q (some (.int v7)) G6)) else (qCI E d i_X6_firstOf [.int x3] G fun v9 G8 => Q (some (.int v9)) G8))) : runs E (d + 1) i_X5_symbolTypes [.ref x0, .int x1, .int x2, .int x3] G Q := by
  rw [runs_eq (m := (yX5_symbolTypes, cX5_symbolTypes, 4, some (.int), 3, 5, false, false)) rfl (Nat.le_of_ble_eq_true rfl)]
  exact g_X5_symbolTypes_0 h
