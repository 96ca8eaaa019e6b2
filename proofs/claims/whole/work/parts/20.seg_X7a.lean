/-! segments, by program (wip/whole/gen/seg.py) -/
theorem dX7_init_0 : decode cX7_init 0 = .ok (.aload_n 0, 1) := by decide +kernel
theorem dX7_init_1 : decode cX7_init 1 = .ok (.invokespecial 1, 3) := by decide +kernel
theorem dX7_init_4 : decode cX7_init 4 = .ok (.aload_n 0, 1) := by decide +kernel
theorem dX7_init_5 : decode cX7_init 5 = .ok (.bipush 99, 2) := by decide +kernel
theorem dX7_init_7 : decode cX7_init 7 = .ok (.newarray .int, 2) := by decide +kernel
theorem dX7_init_9 : decode cX7_init 9 = .ok (.putfield 7, 3) := by decide +kernel
theorem dX7_init_12 : decode cX7_init 12 = .ok (.aload_n 0, 1) := by decide +kernel
theorem dX7_init_13 : decode cX7_init 13 = .ok (.sipush 160, 3) := by decide +kernel
theorem dX7_init_16 : decode cX7_init 16 = .ok (.newarray .int, 2) := by decide +kernel
theorem dX7_init_18 : decode cX7_init 18 = .ok (.putfield 13, 3) := by decide +kernel
theorem dX7_init_21 : decode cX7_init 21 = .ok (.aload_n 0, 1) := by decide +kernel
theorem dX7_init_22 : decode cX7_init 22 = .ok (.sipush 160, 3) := by decide +kernel
theorem dX7_init_25 : decode cX7_init 25 = .ok (.newarray .int, 2) := by decide +kernel
theorem dX7_init_27 : decode cX7_init 27 = .ok (.putfield 16, 3) := by decide +kernel
theorem dX7_init_30 : decode cX7_init 30 = .ok (.aload_n 0, 1) := by decide +kernel
theorem dX7_init_31 : decode cX7_init 31 = .ok (.sipush 160, 3) := by decide +kernel
theorem dX7_init_34 : decode cX7_init 34 = .ok (.newarray .int, 2) := by decide +kernel
theorem dX7_init_36 : decode cX7_init 36 = .ok (.putfield 19, 3) := by decide +kernel
theorem dX7_init_39 : decode cX7_init 39 = .ok (.aload_n 0, 1) := by decide +kernel
theorem dX7_init_40 : decode cX7_init 40 = .ok (.sipush 2240, 3) := by decide +kernel
theorem dX7_init_43 : decode cX7_init 43 = .ok (.newarray .int, 2) := by decide +kernel
theorem dX7_init_45 : decode cX7_init 45 = .ok (.putfield 22, 3) := by decide +kernel
theorem dX7_init_48 : decode cX7_init 48 = .ok (.aload_n 0, 1) := by decide +kernel
theorem dX7_init_49 : decode cX7_init 49 = .ok (.sipush 320, 3) := by decide +kernel
theorem dX7_init_52 : decode cX7_init 52 = .ok (.newarray .int, 2) := by decide +kernel
theorem dX7_init_54 : decode cX7_init 54 = .ok (.putfield 25, 3) := by decide +kernel
theorem dX7_init_57 : decode cX7_init 57 = .ok (.aload_n 0, 1) := by decide +kernel
theorem dX7_init_58 : decode cX7_init 58 = .ok (.iconst 2, 1) := by decide +kernel
theorem dX7_init_59 : decode cX7_init 59 = .ok (.newarray .boolean, 2) := by decide +kernel
theorem dX7_init_61 : decode cX7_init 61 = .ok (.putfield 28, 3) := by decide +kernel
theorem dX7_init_64 : decode cX7_init 64 = .ok (.aload_n 0, 1) := by decide +kernel
theorem dX7_init_65 : decode cX7_init 65 = .ok (.sipush 200, 3) := by decide +kernel
theorem dX7_init_68 : decode cX7_init 68 = .ok (.newarray .int, 2) := by decide +kernel
theorem dX7_init_70 : decode cX7_init 70 = .ok (.putfield 32, 3) := by decide +kernel
theorem dX7_init_73 : decode cX7_init 73 = .ok (.aload_n 0, 1) := by decide +kernel
theorem dX7_init_74 : decode cX7_init 74 = .ok (.sipush 200, 3) := by decide +kernel
theorem dX7_init_77 : decode cX7_init 77 = .ok (.newarray .int, 2) := by decide +kernel
theorem dX7_init_79 : decode cX7_init 79 = .ok (.putfield 35, 3) := by decide +kernel
theorem dX7_init_82 : decode cX7_init 82 = .ok (.aload_n 0, 1) := by decide +kernel
theorem dX7_init_83 : decode cX7_init 83 = .ok (.sipush 243, 3) := by decide +kernel
theorem dX7_init_86 : decode cX7_init 86 = .ok (.newarray .boolean, 2) := by decide +kernel
theorem dX7_init_88 : decode cX7_init 88 = .ok (.putfield 38, 3) := by decide +kernel
theorem dX7_init_91 : decode cX7_init 91 = .ok (.aload_n 0, 1) := by decide +kernel
theorem dX7_init_92 : decode cX7_init 92 = .ok (.sipush 243, 3) := by decide +kernel
theorem dX7_init_95 : decode cX7_init 95 = .ok (.newarray .boolean, 2) := by decide +kernel
theorem dX7_init_97 : decode cX7_init 97 = .ok (.putfield 41, 3) := by decide +kernel
theorem dX7_init_100 : decode cX7_init 100 = .ok (.aload_n 0, 1) := by decide +kernel
theorem dX7_init_101 : decode cX7_init 101 = .ok (.bipush 31, 2) := by decide +kernel
theorem dX7_init_103 : decode cX7_init 103 = .ok (.newarray .int, 2) := by decide +kernel
theorem dX7_init_105 : decode cX7_init 105 = .ok (.putfield 44, 3) := by decide +kernel
theorem dX7_init_108 : decode cX7_init 108 = .ok (.aload_n 0, 1) := by decide +kernel
theorem dX7_init_109 : decode cX7_init 109 = .ok (.getfield 13, 3) := by decide +kernel
theorem dX7_init_112 : decode cX7_init 112 = .ok (.invokestatic 47, 3) := by decide +kernel
theorem dX7_init_115 : decode cX7_init 115 = .ok (.return_, 1) := by decide +kernel
abbrev x_X7_init : Cx := (7, cX7_init, true, none)
set_option maxRecDepth 10000 in
theorem g_X7_init_0 {E : Ev} {d : Nat} {G : Hp} {Q : Po} {x0 : Nat} (h : ((¬ (iv 99) < 0 ∧ ((iv 99)).toNatClampNeg ≤ 100000) ∧ (qP E (psh G (cA 0 ((iv 99)).toNatClampNeg (fun _ => 0)) ((iv 99)).toNatClampNeg) x0 7 0 (.ref ((nxA E G))) fun G1 => ((¬ (iv 160) < 0 ∧ ((iv 160)).toNatClampNeg ≤ 100000) ∧ (qP E (psh G1 (cA 0 ((iv 160)).toNatClampNeg (fun _ => 0)) ((iv 160)).toNatClampNeg) x0 7 2 (.ref ((nxA E G1))) fun G2 => ((¬ (iv 160) < 0 ∧ ((iv 160)).toNatClampNeg ≤ 100000) ∧ (qP E (psh G2 (cA 0 ((iv 160)).toNatClampNeg (fun _ => 0)) ((iv 160)).toNatClampNeg) x0 7 3 (.ref ((nxA E G2))) fun G3 => ((¬ (iv 160) < 0 ∧ ((iv 160)).toNatClampNeg ≤ 100000) ∧ (qP E (psh G3 (cA 0 ((iv 160)).toNatClampNeg (fun _ => 0)) ((iv 160)).toNatClampNeg) x0 7 4 (.ref ((nxA E G3))) fun G4 => ((¬ (iv 2240) < 0 ∧ ((iv 2240)).toNatClampNeg ≤ 100000) ∧ (qP E (psh G4 (cA 0 ((iv 2240)).toNatClampNeg (fun _ => 0)) ((iv 2240)).toNatClampNeg) x0 7 5 (.ref ((nxA E G4))) fun G5 => ((¬ (iv 320) < 0 ∧ ((iv 320)).toNatClampNeg ≤ 100000) ∧ (qP E (psh G5 (cA 0 ((iv 320)).toNatClampNeg (fun _ => 0)) ((iv 320)).toNatClampNeg) x0 7 8 (.ref ((nxA E G5))) fun G6 => ((¬ (iv 2) < 0 ∧ ((iv 2)).toNatClampNeg ≤ 100000) ∧ (qP E (psh G6 (cA 2 ((iv 2)).toNatClampNeg (fun _ => 0)) ((iv 2)).toNatClampNeg) x0 7 9 (.ref ((nxA E G6))) fun G7 => ((¬ (iv 200) < 0 ∧ ((iv 200)).toNatClampNeg ≤ 100000) ∧ (qP E (psh G7 (cA 0 ((iv 200)).toNatClampNeg (fun _ => 0)) ((iv 200)).toNatClampNeg) x0 7 10 (.ref ((nxA E G7))) fun G8 => ((¬ (iv 200) < 0 ∧ ((iv 200)).toNatClampNeg ≤ 100000) ∧ (qP E (psh G8 (cA 0 ((iv 200)).toNatClampNeg (fun _ => 0)) ((iv 200)).toNatClampNeg) x0 7 12 (.ref ((nxA E G8))) fun G9 => ((¬ (iv 243) < 0 ∧ ((iv 243)).toNatClampNeg ≤ 100000) ∧ (qP E (psh G9 (cA 2 ((iv 243)).toNatClampNeg (fun _ => 0)) ((iv 243)).toNatClampNeg) x0 7 17 (.ref ((nxA E G9))) fun G10 => ((¬ (iv 243) < 0 ∧ ((iv 243)).toNatClampNeg ≤ 100000) ∧ (qP E (psh G10 (cA 2 ((iv 243)).toNatClampNeg (fun _ => 0)) ((iv 243)).toNatClampNeg) x0 7 18 (.ref ((nxA E G10))) fun G11 => ((¬ (iv 31) < 0 ∧ ((iv 31)).toNatClampNeg ≤ 100000) ∧ (qP E (psh G11 (cA 0 ((iv 31)).toNatClampNeg (fun _ => 0)) ((iv 31)).toNatClampNeg) x0 7 19 (.ref ((nxA E G11))) fun G12 => (qFR E G12 x0 7 2 fun v13 => (qCV E d i_X7_clear [.ref v13] G12 fun G14 => Q none G14))))))))))))))))))))))))))) : Xr E d x_X7_init 0 [some (.ref x0)] [] G Q := by
  refine r_aload_n dX7_init_0 rfl ?_
  refine r_oinit dX7_init_1 rfl (Nat.le_of_ble_eq_true rfl) ?_
  refine r_aload_n dX7_init_4 rfl ?_
  refine r_bipush dX7_init_5 rfl ?_
  refine r_newI dX7_init_7 ⟨h.1, ?_⟩
  replace h := h.2
  refine r_put dX7_init_9 rfl rfl (by decide) (qP_imp (fun G1 h => ?_) h)
  refine r_aload_n dX7_init_12 rfl ?_
  refine r_sipush dX7_init_13 rfl ?_
  refine r_newI dX7_init_16 ⟨h.1, ?_⟩
  replace h := h.2
  refine r_put dX7_init_18 rfl rfl (by decide) (qP_imp (fun G2 h => ?_) h)
  refine r_aload_n dX7_init_21 rfl ?_
  refine r_sipush dX7_init_22 rfl ?_
  refine r_newI dX7_init_25 ⟨h.1, ?_⟩
  replace h := h.2
  refine r_put dX7_init_27 rfl rfl (by decide) (qP_imp (fun G3 h => ?_) h)
  refine r_aload_n dX7_init_30 rfl ?_
  refine r_sipush dX7_init_31 rfl ?_
  refine r_newI dX7_init_34 ⟨h.1, ?_⟩
  replace h := h.2
  refine r_put dX7_init_36 rfl rfl (by decide) (qP_imp (fun G4 h => ?_) h)
  refine r_aload_n dX7_init_39 rfl ?_
  refine r_sipush dX7_init_40 rfl ?_
  refine r_newI dX7_init_43 ⟨h.1, ?_⟩
  replace h := h.2
  refine r_put dX7_init_45 rfl rfl (by decide) (qP_imp (fun G5 h => ?_) h)
  refine r_aload_n dX7_init_48 rfl ?_
  refine r_sipush dX7_init_49 rfl ?_
  refine r_newI dX7_init_52 ⟨h.1, ?_⟩
  replace h := h.2
  refine r_put dX7_init_54 rfl rfl (by decide) (qP_imp (fun G6 h => ?_) h)
  refine r_aload_n dX7_init_57 rfl ?_
  refine r_iconst dX7_init_58 ?_
  refine r_newZ dX7_init_59 ⟨h.1, ?_⟩
  replace h := h.2
  refine r_put dX7_init_61 rfl rfl (by decide) (qP_imp (fun G7 h => ?_) h)
  refine r_aload_n dX7_init_64 rfl ?_
  refine r_sipush dX7_init_65 rfl ?_
  refine r_newI dX7_init_68 ⟨h.1, ?_⟩
  replace h := h.2
  refine r_put dX7_init_70 rfl rfl (by decide) (qP_imp (fun G8 h => ?_) h)
  refine r_aload_n dX7_init_73 rfl ?_
  refine r_sipush dX7_init_74 rfl ?_
  refine r_newI dX7_init_77 ⟨h.1, ?_⟩
  replace h := h.2
  refine r_put dX7_init_79 rfl rfl (by decide) (qP_imp (fun G9 h => ?_) h)
  refine r_aload_n dX7_init_82 rfl ?_
  refine r_sipush dX7_init_83 rfl ?_
  refine r_newZ dX7_init_86 ⟨h.1, ?_⟩
  replace h := h.2
  refine r_put dX7_init_88 rfl rfl (by decide) (qP_imp (fun G10 h => ?_) h)
  refine r_aload_n dX7_init_91 rfl ?_
  refine r_sipush dX7_init_92 rfl ?_
  refine r_newZ dX7_init_95 ⟨h.1, ?_⟩
  replace h := h.2
  refine r_put dX7_init_97 rfl rfl (by decide) (qP_imp (fun G11 h => ?_) h)
  refine r_aload_n dX7_init_100 rfl ?_
  refine r_bipush dX7_init_101 rfl ?_
  refine r_newI dX7_init_103 ⟨h.1, ?_⟩
  replace h := h.2
  refine r_put dX7_init_105 rfl rfl (by decide) (qP_imp (fun G12 h => ?_) h)
  refine r_aload_n dX7_init_108 rfl ?_
  refine r_getR dX7_init_109 rfl (qFR_imp (fun v13 h => ?_) h)
  refine r_cV dX7_init_112 rfl (invS_eq rfl (by decide) rfl rfl rfl rfl ⟨rfl, Nat.le_of_ble_eq_true rfl⟩) (qCV_imp (fun G14 h => ?_) h)
  exact r_vret dX7_init_115 rfl h
theorem e_X7_init {E : Ev} {d : Nat} {G : Hp} {Q : Po} {x0 : Nat} (h : ((¬ (iv 99) < 0 ∧ ((iv 99)).toNatClampNeg ≤ 100000) ∧ (qP E (psh G (cA 0 ((iv 99)).toNatClampNeg (fun _ => 0)) ((iv 99)).toNatClampNeg) x0 7 0 (.ref ((nxA E G))) fun G1 => ((¬ (iv 160) < 0 ∧ ((iv 160)).toNatClampNeg ≤ 100000) ∧ (qP E (psh G1 (cA 0 ((iv 160)).toNatClampNeg (fun _ => 0)) ((iv 160)).toNatClampNeg) x0 7 2 (.ref ((nxA E G1))) fun G2 => ((¬ (iv 160) < 0 ∧ ((iv 160)).toNatClampNeg ≤ 100000) ∧ (qP E (psh G2 (cA 0 ((iv 160)).toNatClampNeg (fun _ => 0)) ((iv 160)).toNatClampNeg) x0 7 3 (.ref ((nxA E G2))) fun G3 => ((¬ (iv 160) < 0 ∧ ((iv 160)).toNatClampNeg ≤ 100000) ∧ (qP E (psh G3 (cA 0 ((iv 160)).toNatClampNeg (fun _ => 0)) ((iv 160)).toNatClampNeg) x0 7 4 (.ref ((nxA E G3))) fun G4 => ((¬ (iv 2240) < 0 ∧ ((iv 2240)).toNatClampNeg ≤ 100000) ∧ (qP E (psh G4 (cA 0 ((iv 2240)).toNatClampNeg (fun _ => 0)) ((iv 2240)).toNatClampNeg) x0 7 5 (.ref ((nxA E G4))) fun G5 => ((¬ (iv 320) < 0 ∧ ((iv 320)).toNatClampNeg ≤ 100000) ∧ (qP E (psh G5 (cA 0 ((iv 320)).toNatClampNeg (fun _ => 0)) ((iv 320)).toNatClampNeg) x0 7 8 (.ref ((nxA E G5))) fun G6 => ((¬ (iv 2) < 0 ∧ ((iv 2)).toNatClampNeg ≤ 100000) ∧ (qP E (psh G6 (cA 2 ((iv 2)).toNatClampNeg (fun _ => 0)) ((iv 2)).toNatClampNeg) x0 7 9 (.ref ((nxA E G6))) fun G7 => ((¬ (iv 200) < 0 ∧ ((iv 200)).toNatClampNeg ≤ 100000) ∧ (qP E (psh G7 (cA 0 ((iv 200)).toNatClampNeg (fun _ => 0)) ((iv 200)).toNatClampNeg) x0 7 10 (.ref ((nxA E G7))) fun G8 => ((¬ (iv 200) < 0 ∧ ((iv 200)).toNatClampNeg ≤ 100000) ∧ (qP E (psh G8 (cA 0 ((iv 200)).toNatClampNeg (fun _ => 0)) ((iv 200)).toNatClampNeg) x0 7 12 (.ref ((nxA E G8))) fun G9 => ((¬ (iv 243) < 0 ∧ ((iv 243)).toNatClampNeg ≤ 100000) ∧ (qP E (psh G9 (cA 2 ((iv 243)).toNatClampNeg (fun _ => 0)) ((iv 243)).toNatClampNeg) x0 7 17 (.ref ((nxA E G9))) fun G10 => ((¬ (iv 243) < 0 ∧ ((iv 243)).toNatClampNeg ≤ 100000) ∧ (qP E (psh G10 (cA 2 ((iv 243)).toNatClampNeg (fun _ => 0)) ((iv 243)).toNatClampNeg) x0 7 18 (.ref ((nxA E G10))) fun G11 => ((¬ (iv 31) < 0 ∧ ((iv 31)).toNatClampNeg ≤ 100000) ∧ (qP E (psh G11 (cA 0 ((iv 31)).toNatClampNeg (fun _ => 0)) ((iv 31)).toNatClampNeg) x0 7 19 (.ref ((nxA E G11))) fun G12 => (qFR E G12 x0 7 2 fun v13 => (qCV E d i_X7_clear [.ref v13] G12 fun G14 => Q none G14))))))))))))))))))))))))))) : runs E (d + 1) i_X7_init [.ref x0] G Q := by
  rw [runs_eq (m := (yX7_init, cX7_init, 1, none, 0, 7, true, false)) rfl (Nat.le_of_ble_eq_true rfl)]
  exact g_X7_init_0 h
theorem dX7_clear_0 : decode cX7_clear 0 = .ok (.iconst 0, 1) := by decide +kernel
theorem dX7_clear_1 : decode cX7_clear 1 = .ok (.istore_n 1, 1) := by decide +kernel
theorem dX7_clear_2 : decode cX7_clear 2 = .ok (.iload_n 1, 1) := by decide +kernel
theorem dX7_clear_3 : decode cX7_clear 3 = .ok (.sipush 160, 3) := by decide +kernel
theorem dX7_clear_6 : decode cX7_clear 6 = .ok (.if_icmp .ge 13, 3) := by decide +kernel
theorem dX7_clear_9 : decode cX7_clear 9 = .ok (.aload_n 0, 1) := by decide +kernel
theorem dX7_clear_10 : decode cX7_clear 10 = .ok (.iload_n 1, 1) := by decide +kernel
theorem dX7_clear_11 : decode cX7_clear 11 = .ok (.iconst 0, 1) := by decide +kernel
theorem dX7_clear_12 : decode cX7_clear 12 = .ok (.iastore, 1) := by decide +kernel
theorem dX7_clear_13 : decode cX7_clear 13 = .ok (.iinc 1 1, 3) := by decide +kernel
theorem dX7_clear_16 : decode cX7_clear 16 = .ok (.goto (-14), 3) := by decide +kernel
theorem dX7_clear_19 : decode cX7_clear 19 = .ok (.iconst 0, 1) := by decide +kernel
theorem dX7_clear_20 : decode cX7_clear 20 = .ok (.istore_n 1, 1) := by decide +kernel
theorem dX7_clear_21 : decode cX7_clear 21 = .ok (.iload_n 1, 1) := by decide +kernel
theorem dX7_clear_22 : decode cX7_clear 22 = .ok (.iconst 4, 1) := by decide +kernel
theorem dX7_clear_23 : decode cX7_clear 23 = .ok (.if_icmp .ge 26, 3) := by decide +kernel
theorem dX7_clear_26 : decode cX7_clear 26 = .ok (.aload_n 0, 1) := by decide +kernel
theorem dX7_clear_27 : decode cX7_clear 27 = .ok (.bipush 31, 2) := by decide +kernel
theorem dX7_clear_29 : decode cX7_clear 29 = .ok (.iload_n 1, 1) := by decide +kernel
theorem dX7_clear_30 : decode cX7_clear 30 = .ok (.imul, 1) := by decide +kernel
theorem dX7_clear_31 : decode cX7_clear 31 = .ok (.iconst 1, 1) := by decide +kernel
theorem dX7_clear_32 : decode cX7_clear 32 = .ok (.iastore, 1) := by decide +kernel
theorem dX7_clear_33 : decode cX7_clear 33 = .ok (.aload_n 0, 1) := by decide +kernel
theorem dX7_clear_34 : decode cX7_clear 34 = .ok (.bipush 31, 2) := by decide +kernel
theorem dX7_clear_36 : decode cX7_clear 36 = .ok (.iload_n 1, 1) := by decide +kernel
theorem dX7_clear_37 : decode cX7_clear 37 = .ok (.imul, 1) := by decide +kernel
theorem dX7_clear_38 : decode cX7_clear 38 = .ok (.iconst 1, 1) := by decide +kernel
theorem dX7_clear_39 : decode cX7_clear 39 = .ok (.iadd, 1) := by decide +kernel
theorem dX7_clear_40 : decode cX7_clear 40 = .ok (.bipush 99, 2) := by decide +kernel
theorem dX7_clear_42 : decode cX7_clear 42 = .ok (.iastore, 1) := by decide +kernel
theorem dX7_clear_43 : decode cX7_clear 43 = .ok (.iinc 1 1, 3) := by decide +kernel
theorem dX7_clear_46 : decode cX7_clear 46 = .ok (.goto (-25), 3) := by decide +kernel
theorem dX7_clear_49 : decode cX7_clear 49 = .ok (.return_, 1) := by decide +kernel
abbrev x_X7_clear : Cx := (7, cX7_clear, false, none)
set_option maxRecDepth 10000 in
theorem g_X7_clear_0 {E : Ev} {d : Nat} {G : Hp} {Q : Po} {x0 : Nat} (h : Xr E d x_X7_clear 2 [some (.ref x0), some (.int ((iv 0)))] [] G Q) : Xr E d x_X7_clear 0 [some (.ref x0), none] [] G Q := by
  refine r_iconst dX7_clear_0 ?_
  refine r_istore_n dX7_clear_1 rfl ?_
  exact h
theorem e_X7_clear {E : Ev} {d : Nat} {G : Hp} {Q : Po} {x0 : Nat} (h : Xr E d x_X7_clear 2 [some (.ref x0), some (.int ((iv 0)))] [] G Q) : runs E (d + 1) i_X7_clear [.ref x0] G Q := by
  rw [runs_eq (m := (yX7_clear, cX7_clear, 2, none, 1, 7, false, true)) rfl (Nat.le_of_ble_eq_true rfl)]
  exact g_X7_clear_0 h
set_option maxRecDepth 10000 in
theorem g_X7_clear_2 {E : Ev} {d : Nat} {G : Hp} {Q : Po} {x0 : Nat} {x1 : Int32} (h : (if (iv 160) ≤ x1 then Xr E d x_X7_clear 21 [some (.ref x0), some (.int ((iv 0)))] [] G Q else (qIS E G x0 x1 (iv 0) fun G1 => Xr E d x_X7_clear 2 [some (.ref x0), some (.int ((x1 + (iv 1))))] [] G1 Q))) : Xr E d x_X7_clear 2 [some (.ref x0), some (.int x1)] [] G Q := by
  refine r_iload_n dX7_clear_2 rfl ?_
  refine r_sipush dX7_clear_3 rfl ?_
  refine r_cge (tgt := 19) dX7_clear_6 (by decide) (ite_imp (fun h => ?_) (fun h => ?_) h)
  · refine r_iconst dX7_clear_19 ?_
    refine r_istore_n dX7_clear_20 rfl ?_
    exact h
  · refine r_aload_n dX7_clear_9 rfl ?_
    refine r_iload_n dX7_clear_10 rfl ?_
    refine r_iconst dX7_clear_11 ?_
    refine r_iast dX7_clear_12 (qIS_imp (fun G1 h => ?_) h)
    refine r_iinc dX7_clear_13 rfl rfl ?_
    refine r_goto (tgt := 2) dX7_clear_16 (by decide) ?_
    exact h
set_option maxRecDepth 10000 in
theorem g_X7_clear_21 {E : Ev} {d : Nat} {G : Hp} {Q : Po} {x0 : Nat} {x1 : Int32} (h : (if (iv 4) ≤ x1 then Q none G else (qIS E G x0 ((iv 31) * x1) (iv 1) fun G1 => (qIS E G1 x0 (((iv 31) * x1) + (iv 1)) (iv 99) fun G2 => Xr E d x_X7_clear 21 [some (.ref x0), some (.int ((x1 + (iv 1))))] [] G2 Q)))) : Xr E d x_X7_clear 21 [some (.ref x0), some (.int x1)] [] G Q := by
  refine r_iload_n dX7_clear_21 rfl ?_
  refine r_iconst dX7_clear_22 ?_
  refine r_cge (tgt := 49) dX7_clear_23 (by decide) (ite_imp (fun h => ?_) (fun h => ?_) h)
  · exact r_vret dX7_clear_49 rfl h
  · refine r_aload_n dX7_clear_26 rfl ?_
    refine r_bipush dX7_clear_27 rfl ?_
    refine r_iload_n dX7_clear_29 rfl ?_
    refine r_imul dX7_clear_30 ?_
    refine r_iconst dX7_clear_31 ?_
    refine r_iast dX7_clear_32 (qIS_imp (fun G1 h => ?_) h)
    refine r_aload_n dX7_clear_33 rfl ?_
    refine r_bipush dX7_clear_34 rfl ?_
    refine r_iload_n dX7_clear_36 rfl ?_
    refine r_imul dX7_clear_37 ?_
    refine r_iconst dX7_clear_38 ?_
    refine r_iadd dX7_clear_39 ?_
    refine r_bipush dX7_clear_40 rfl ?_
    refine r_iast dX7_clear_42 (qIS_imp (fun G2 h => ?_) h)
    refine r_iinc dX7_clear_43 rfl rfl ?_
    refine r_goto (tgt := 21) dX7_clear_46 (by decide) ?_
    exact h
theorem dX7_copy_0 : decode cX7_copy 0 = .ok (.iconst 0, 1) := by decide +kernel
theorem dX7_copy_1 : decode cX7_copy 1 = .ok (.istore_n 2, 1) := by decide +kernel
theorem dX7_copy_2 : decode cX7_copy 2 = .ok (.iload_n 2, 1) := by decide +kernel
theorem dX7_copy_3 : decode cX7_copy 3 = .ok (.sipush 160, 3) := by decide +kernel
theorem dX7_copy_6 : decode cX7_copy 6 = .ok (.if_icmp .ge 15, 3) := by decide +kernel
theorem dX7_copy_9 : decode cX7_copy 9 = .ok (.aload_n 1, 1) := by decide +kernel
theorem dX7_copy_10 : decode cX7_copy 10 = .ok (.iload_n 2, 1) := by decide +kernel
theorem dX7_copy_11 : decode cX7_copy 11 = .ok (.aload_n 0, 1) := by decide +kernel
theorem dX7_copy_12 : decode cX7_copy 12 = .ok (.iload_n 2, 1) := by decide +kernel
theorem dX7_copy_13 : decode cX7_copy 13 = .ok (.iaload, 1) := by decide +kernel
theorem dX7_copy_14 : decode cX7_copy 14 = .ok (.iastore, 1) := by decide +kernel
theorem dX7_copy_15 : decode cX7_copy 15 = .ok (.iinc 2 1, 3) := by decide +kernel
theorem dX7_copy_18 : decode cX7_copy 18 = .ok (.goto (-16), 3) := by decide +kernel
theorem dX7_copy_21 : decode cX7_copy 21 = .ok (.return_, 1) := by decide +kernel
abbrev x_X7_copy : Cx := (7, cX7_copy, false, none)
set_option maxRecDepth 10000 in
theorem g_X7_copy_0 {E : Ev} {d : Nat} {G : Hp} {Q : Po} {x0 : Nat} {x1 : Nat} (h : Xr E d x_X7_copy 2 [some (.ref x0), some (.ref x1), some (.int ((iv 0)))] [] G Q) : Xr E d x_X7_copy 0 [some (.ref x0), some (.ref x1), none] [] G Q := by
  refine r_iconst dX7_copy_0 ?_
  refine r_istore_n dX7_copy_1 rfl ?_
  exact h
theorem e_X7_copy {E : Ev} {d : Nat} {G : Hp} {Q : Po} {x0 : Nat} {x1 : Nat} (h : Xr E d x_X7_copy 2 [some (.ref x0), some (.ref x1), some (.int ((iv 0)))] [] G Q) : runs E (d + 1) i_X7_copy [.ref x0, .ref x1] G Q := by
  rw [runs_eq (m := (yX7_copy, cX7_copy, 3, none, 2, 7, false, true)) rfl (Nat.le_of_ble_eq_true rfl)]
  exact g_X7_copy_0 h
set_option maxRecDepth 10000 in
theorem g_X7_copy_2 {E : Ev} {d : Nat} {G : Hp} {Q : Po} {x0 : Nat} {x1 : Nat} {x2 : Int32} (h : (if (iv 160) ≤ x2 then Q none G else (qIA 7 E G x0 x2 fun v1 => (qIS E G x1 x2 v1 fun G2 => Xr E d x_X7_copy 2 [some (.ref x0), some (.ref x1), some (.int ((x2 + (iv 1))))] [] G2 Q)))) : Xr E d x_X7_copy 2 [some (.ref x0), some (.ref x1), some (.int x2)] [] G Q := by
  refine r_iload_n dX7_copy_2 rfl ?_
  refine r_sipush dX7_copy_3 rfl ?_
  refine r_cge (tgt := 21) dX7_copy_6 (by decide) (ite_imp (fun h => ?_) (fun h => ?_) h)
  · exact r_vret dX7_copy_21 rfl h
  · refine r_aload_n dX7_copy_9 rfl ?_
    refine r_iload_n dX7_copy_10 rfl ?_
    refine r_aload_n dX7_copy_11 rfl ?_
    refine r_iload_n dX7_copy_12 rfl ?_
    refine r_iald dX7_copy_13 (qIA_imp (fun v1 h => ?_) h)
    refine r_iast dX7_copy_14 (qIS_imp (fun G2 h => ?_) h)
    refine r_iinc dX7_copy_15 rfl rfl ?_
    refine r_goto (tgt := 2) dX7_copy_18 (by decide) ?_
    exact h
theorem dX7_in_0 : decode cX7_in 0 = .ok (.lload_n 0, 1) := by decide +kernel
theorem dX7_in_1 : decode cX7_in 1 = .ok (.lload_n 2, 1) := by decide +kernel
theorem dX7_in_2 : decode cX7_in 2 = .ok (.lcmp, 1) := by decide +kernel
theorem dX7_in_3 : decode cX7_in 3 = .ok (.ifCond .lt 14, 3) := by decide +kernel
theorem dX7_in_6 : decode cX7_in 6 = .ok (.lload_n 0, 1) := by decide +kernel
theorem dX7_in_7 : decode cX7_in 7 = .ok (.lload 4, 2) := by decide +kernel
theorem dX7_in_9 : decode cX7_in 9 = .ok (.lcmp, 1) := by decide +kernel
theorem dX7_in_10 : decode cX7_in 10 = .ok (.ifCond .gt 7, 3) := by decide +kernel
theorem dX7_in_13 : decode cX7_in 13 = .ok (.iconst 1, 1) := by decide +kernel
theorem dX7_in_14 : decode cX7_in 14 = .ok (.goto 4, 3) := by decide +kernel
theorem dX7_in_17 : decode cX7_in 17 = .ok (.iconst 0, 1) := by decide +kernel
theorem dX7_in_18 : decode cX7_in 18 = .ok (.ireturn, 1) := by decide +kernel
abbrev x_X7_in : Cx := (7, cX7_in, false, some (.boolean))
set_option maxRecDepth 10000 in
theorem g_X7_in_0 {E : Ev} {d : Nat} {G : Hp} {Q : Po} {x0 : Int64} {x2 : Int64} {x4 : Int64} (h : (if (lg_cmp x0 x2) < 0 then Q (some (.int (iv 0))) G else (if 0 < (lg_cmp x0 x4) then Q (some (.int (iv 0))) G else Q (some (.int (iv 1))) G))) : Xr E d x_X7_in 0 [some (.long x0), none, some (.long x2), none, some (.long x4), none] [] G Q := by
  refine r_lload_n dX7_in_0 rfl ?_
  refine r_lload_n dX7_in_1 rfl ?_
  refine r_lcmp dX7_in_2 ?_
  refine r_iflt (tgt := 17) dX7_in_3 (by decide) (ite_imp (fun h => ?_) (fun h => ?_) h)
  · refine r_iconst dX7_in_17 ?_
    exact r_iret dX7_in_18 rfl ⟨rfl, h⟩
  · refine r_lload_n dX7_in_6 rfl ?_
    refine r_lload dX7_in_7 rfl ?_
    refine r_lcmp dX7_in_9 ?_
    refine r_ifgt (tgt := 17) dX7_in_10 (by decide) (ite_imp (fun h => ?_) (fun h => ?_) h)
    · refine r_iconst dX7_in_17 ?_
      exact r_iret dX7_in_18 rfl ⟨rfl, h⟩
    · refine r_iconst dX7_in_13 ?_
      refine r_goto (tgt := 18) dX7_in_14 (by decide) ?_
      exact r_iret dX7_in_18 rfl ⟨rfl, h⟩
theorem e_X7_in {E : Ev} {d : Nat} {G : Hp} {Q : Po} {x0 : Int64} {x2 : Int64} {x4 : Int64} (h : (if (lg_cmp x0 x2) < 0 then Q (some (.int (iv 0))) G else (if 0 < (lg_cmp x0 x4) then Q (some (.int (iv 0))) G else Q (some (.int (iv 1))) G))) : runs E (d + 1) i_X7_in [.long x0, .long x2, .long x4] G Q := by
  rw [runs_eq (m := (yX7_in, cX7_in, 6, some (.boolean), 3, 7, false, true)) rfl (Nat.le_of_ble_eq_true rfl)]
  exact g_X7_in_0 h
theorem dX7_nonterminal_0 : decode cX7_nonterminal 0 = .ok (.iload_n 0, 1) := by decide +kernel
theorem dX7_nonterminal_1 : decode cX7_nonterminal 1 = .ok (.bipush 83, 2) := by decide +kernel
theorem dX7_nonterminal_3 : decode cX7_nonterminal 3 = .ok (.if_icmp .ne 7, 3) := by decide +kernel
theorem dX7_nonterminal_6 : decode cX7_nonterminal 6 = .ok (.iconst 0, 1) := by decide +kernel
theorem dX7_nonterminal_7 : decode cX7_nonterminal 7 = .ok (.goto 26, 3) := by decide +kernel
theorem dX7_nonterminal_10 : decode cX7_nonterminal 10 = .ok (.iload_n 0, 1) := by decide +kernel
theorem dX7_nonterminal_11 : decode cX7_nonterminal 11 = .ok (.i2l, 1) := by decide +kernel
theorem dX7_nonterminal_12 : decode cX7_nonterminal 12 = .ok (.ldc2_w 51, 3) := by decide +kernel
theorem dX7_nonterminal_15 : decode cX7_nonterminal 15 = .ok (.ldc2_w 53, 3) := by decide +kernel
theorem dX7_nonterminal_18 : decode cX7_nonterminal 18 = .ok (.invokestatic 55, 3) := by decide +kernel
theorem dX7_nonterminal_21 : decode cX7_nonterminal 21 = .ok (.ifCond .eq 10, 3) := by decide +kernel
theorem dX7_nonterminal_24 : decode cX7_nonterminal 24 = .ok (.iload_n 0, 1) := by decide +kernel
theorem dX7_nonterminal_25 : decode cX7_nonterminal 25 = .ok (.bipush 69, 2) := by decide +kernel
theorem dX7_nonterminal_27 : decode cX7_nonterminal 27 = .ok (.isub, 1) := by decide +kernel
theorem dX7_nonterminal_28 : decode cX7_nonterminal 28 = .ok (.goto 5, 3) := by decide +kernel
theorem dX7_nonterminal_31 : decode cX7_nonterminal 31 = .ok (.bipush (-9), 2) := by decide +kernel
theorem dX7_nonterminal_33 : decode cX7_nonterminal 33 = .ok (.ireturn, 1) := by decide +kernel
abbrev x_X7_nonterminal : Cx := (7, cX7_nonterminal, false, some (.int))
set_option maxRecDepth 10000 in
theorem g_X7_nonterminal_0 {E : Ev} {d : Nat} {G : Hp} {Q : Po} {x0 : Int32} (h : (if ¬ x0 = (iv 83) then (qCI E d i_X7_in [.long (((x0).toInt64)), .long 70, .long 72] G fun v2 G1 => (if v2 = 0 then Q (some (.int (iv (-9)))) G1 else Q (some (.int (x0 - (iv 69)))) G1)) else Q (some (.int (iv 0))) G)) : Xr E d x_X7_nonterminal 0 [some (.int x0)] [] G Q := by
  refine r_iload_n dX7_nonterminal_0 rfl ?_
  refine r_bipush dX7_nonterminal_1 rfl ?_
  refine r_cne (tgt := 10) dX7_nonterminal_3 (by decide) (ite_imp (fun h => ?_) (fun h => ?_) h)
  · refine r_iload_n dX7_nonterminal_10 rfl ?_
    refine r_i2l dX7_nonterminal_11 ?_
    refine r_ldc2 dX7_nonterminal_12 rfl ?_
    refine r_ldc2 dX7_nonterminal_15 rfl ?_
    refine r_cI dX7_nonterminal_18 rfl (invS_eq rfl (by decide) rfl rfl rfl rfl ⟨rfl, Nat.le_of_ble_eq_true rfl⟩) (qCI_imp (fun v2 G1 h => ?_) h)
    refine r_ifeq (tgt := 31) dX7_nonterminal_21 (by decide) (ite_imp (fun h => ?_) (fun h => ?_) h)
    · refine r_bipush dX7_nonterminal_31 rfl ?_
      exact r_iret dX7_nonterminal_33 rfl ⟨rfl, h⟩
    · refine r_iload_n dX7_nonterminal_24 rfl ?_
      refine r_bipush dX7_nonterminal_25 rfl ?_
      refine r_isub dX7_nonterminal_27 ?_
      refine r_goto (tgt := 33) dX7_nonterminal_28 (by decide) ?_
      exact r_iret dX7_nonterminal_33 rfl ⟨rfl, h⟩
  · refine r_iconst dX7_nonterminal_6 ?_
    refine r_goto (tgt := 33) dX7_nonterminal_7 (by decide) ?_
    exact r_iret dX7_nonterminal_33 rfl ⟨rfl, h⟩
theorem e_X7_nonterminal {E : Ev} {d : Nat} {G : Hp} {Q : Po} {x0 : Int32} (h : (if ¬ x0 = (iv 83) then (qCI E d i_X7_in [.long (((x0).toInt64)), .long 70, .long 72] G fun v2 G1 => (if v2 = 0 then Q (some (.int (iv (-9)))) G1 else Q (some (.int (x0 - (iv 69)))) G1)) else Q (some (.int (iv 0))) G)) : runs E (d + 1) i_X7_nonterminal [.int x0] G Q := by
  rw [runs_eq (m := (yX7_nonterminal, cX7_nonterminal, 1, some (.int), 1, 7, false, true)) rfl (Nat.le_of_ble_eq_true rfl)]
  exact g_X7_nonterminal_0 h
theorem dX7_terminal_0 : decode cX7_terminal 0 = .ok (.iload_n 0, 1) := by decide +kernel
theorem dX7_terminal_1 : decode cX7_terminal 1 = .ok (.i2l, 1) := by decide +kernel
theorem dX7_terminal_2 : decode cX7_terminal 2 = .ok (.ldc2_w 59, 3) := by decide +kernel
theorem dX7_terminal_5 : decode cX7_terminal 5 = .ok (.ldc2_w 61, 3) := by decide +kernel
theorem dX7_terminal_8 : decode cX7_terminal 8 = .ok (.invokestatic 55, 3) := by decide +kernel
theorem dX7_terminal_11 : decode cX7_terminal 11 = .ok (.ifCond .eq 10, 3) := by decide +kernel
theorem dX7_terminal_14 : decode cX7_terminal 14 = .ok (.iload_n 0, 1) := by decide +kernel
theorem dX7_terminal_15 : decode cX7_terminal 15 = .ok (.bipush 97, 2) := by decide +kernel
theorem dX7_terminal_17 : decode cX7_terminal 17 = .ok (.isub, 1) := by decide +kernel
theorem dX7_terminal_18 : decode cX7_terminal 18 = .ok (.goto 5, 3) := by decide +kernel
theorem dX7_terminal_21 : decode cX7_terminal 21 = .ok (.bipush (-9), 2) := by decide +kernel
theorem dX7_terminal_23 : decode cX7_terminal 23 = .ok (.ireturn, 1) := by decide +kernel
abbrev x_X7_terminal : Cx := (7, cX7_terminal, false, some (.int))
set_option maxRecDepth 10000 in
theorem g_X7_terminal_0 {E : Ev} {d : Nat} {G : Hp} {Q : Po} {x0 : Int32} (h : (qCI E d i_X7_in [.long (((x0).toInt64)), .long 97, .long 100] G fun v2 G1 => (if v2 = 0 then Q (some (.int (iv (-9)))) G1 else Q (some (.int (x0 - (iv 97)))) G1))) : Xr E d x_X7_terminal 0 [some (.int x0)] [] G Q := by
  refine r_iload_n dX7_terminal_0 rfl ?_
  refine r_i2l dX7_terminal_1 ?_
  refine r_ldc2 dX7_terminal_2 rfl ?_
  refine r_ldc2 dX7_terminal_5 rfl ?_
  refine r_cI dX7_terminal_8 rfl (invS_eq rfl (by decide) rfl rfl rfl rfl ⟨rfl, Nat.le_of_ble_eq_true rfl⟩) (qCI_imp (fun v2 G1 h => ?_) h)
  refine r_ifeq (tgt := 21) dX7_terminal_11 (by decide) (ite_imp (fun h => ?_) (fun h => ?_) h)
  · refine r_bipush dX7_terminal_21 rfl ?_
    exact r_iret dX7_terminal_23 rfl ⟨rfl, h⟩
  · refine r_iload_n dX7_terminal_14 rfl ?_
    refine r_bipush dX7_terminal_15 rfl ?_
    refine r_isub dX7_terminal_17 ?_
    refine r_goto (tgt := 23) dX7_terminal_18 (by decide) ?_
    exact r_iret dX7_terminal_23 rfl ⟨rfl, h⟩
theorem e_X7_terminal {E : Ev} {d : Nat} {G : Hp} {Q : Po} {x0 : Int32} (h : (qCI E d i_X7_in [.long (((x0).toInt64)), .long 97, .long 100] G fun v2 G1 => (if v2 = 0 then Q (some (.int (iv (-9)))) G1 else Q (some (.int (x0 - (iv 97)))) G1))) : runs E (d + 1) i_X7_terminal [.int x0] G Q := by
  rw [runs_eq (m := (yX7_terminal, cX7_terminal, 1, some (.int), 1, 7, false, true)) rfl (Nat.le_of_ble_eq_true rfl)]
  exact g_X7_terminal_0 h
theorem dX7_places_0 : decode cX7_places 0 = .ok (.iload_n 0, 1) := by decide +kernel
theorem dX7_places_1 : decode cX7_places 1 = .ok (.ifCond .ne 7, 3) := by decide +kernel
theorem dX7_places_4 : decode cX7_places 4 = .ok (.iconst 2, 1) := by decide +kernel
theorem dX7_places_5 : decode cX7_places 5 = .ok (.goto 13, 3) := by decide +kernel
theorem dX7_places_8 : decode cX7_places 8 = .ok (.iload_n 0, 1) := by decide +kernel
theorem dX7_places_9 : decode cX7_places 9 = .ok (.iconst 1, 1) := by decide +kernel
theorem dX7_places_10 : decode cX7_places 10 = .ok (.if_icmp .ne 7, 3) := by decide +kernel
theorem dX7_places_13 : decode cX7_places 13 = .ok (.iconst 1, 1) := by decide +kernel
theorem dX7_places_14 : decode cX7_places 14 = .ok (.goto 4, 3) := by decide +kernel
theorem dX7_places_17 : decode cX7_places 17 = .ok (.iconst 0, 1) := by decide +kernel
theorem dX7_places_18 : decode cX7_places 18 = .ok (.ireturn, 1) := by decide +kernel
abbrev x_X7_places : Cx := (7, cX7_places, false, some (.int))
set_option maxRecDepth 10000 in
theorem g_X7_places_0 {E : Ev} {d : Nat} {G : Hp} {Q : Po} {x0 : Int32} (h : (if ¬ x0 = 0 then (if ¬ x0 = (iv 1) then Q (some (.int (iv 0))) G else Q (some (.int (iv 1))) G) else Q (some (.int (iv 2))) G)) : Xr E d x_X7_places 0 [some (.int x0)] [] G Q := by
  refine r_iload_n dX7_places_0 rfl ?_
  refine r_ifne (tgt := 8) dX7_places_1 (by decide) (ite_imp (fun h => ?_) (fun h => ?_) h)
  · refine r_iload_n dX7_places_8 rfl ?_
    refine r_iconst dX7_places_9 ?_
    refine r_cne (tgt := 17) dX7_places_10 (by decide) (ite_imp (fun h => ?_) (fun h => ?_) h)
    · refine r_iconst dX7_places_17 ?_
      exact r_iret dX7_places_18 rfl ⟨rfl, h⟩
    · refine r_iconst dX7_places_13 ?_
      refine r_goto (tgt := 18) dX7_places_14 (by decide) ?_
      exact r_iret dX7_places_18 rfl ⟨rfl, h⟩
  · refine r_iconst dX7_places_4 ?_
    refine r_goto (tgt := 18) dX7_places_5 (by decide) ?_
    exact r_iret dX7_places_18 rfl ⟨rfl, h⟩
theorem e_X7_places {E : Ev} {d : Nat} {G : Hp} {Q : Po} {x0 : Int32} (h : (if ¬ x0 = 0 then (if ¬ x0 = (iv 1) then Q (some (.int (iv 0))) G else Q (some (.int (iv 1))) G) else Q (some (.int (iv 2))) G)) : runs E (d + 1) i_X7_places [.int x0] G Q := by
  rw [runs_eq (m := (yX7_places, cX7_places, 1, some (.int), 1, 7, false, true)) rfl (Nat.le_of_ble_eq_true rfl)]
  exact g_X7_places_0 h
theorem dX7_parameters_0 : decode cX7_parameters 0 = .ok (.iload_n 0, 1) := by decide +kernel
theorem dX7_parameters_1 : decode cX7_parameters 1 = .ok (.ifCond .ne 7, 3) := by decide +kernel
theorem dX7_parameters_4 : decode cX7_parameters 4 = .ok (.iconst 0, 1) := by decide +kernel
theorem dX7_parameters_5 : decode cX7_parameters 5 = .ok (.goto 13, 3) := by decide +kernel
theorem dX7_parameters_8 : decode cX7_parameters 8 = .ok (.iload_n 0, 1) := by decide +kernel
theorem dX7_parameters_9 : decode cX7_parameters 9 = .ok (.iconst 3, 1) := by decide +kernel
theorem dX7_parameters_10 : decode cX7_parameters 10 = .ok (.if_icmp .ne 7, 3) := by decide +kernel
theorem dX7_parameters_13 : decode cX7_parameters 13 = .ok (.iconst 2, 1) := by decide +kernel
theorem dX7_parameters_14 : decode cX7_parameters 14 = .ok (.goto 4, 3) := by decide +kernel
theorem dX7_parameters_17 : decode cX7_parameters 17 = .ok (.iconst 1, 1) := by decide +kernel
theorem dX7_parameters_18 : decode cX7_parameters 18 = .ok (.ireturn, 1) := by decide +kernel
abbrev x_X7_parameters : Cx := (7, cX7_parameters, false, some (.int))
set_option maxRecDepth 10000 in
theorem g_X7_parameters_0 {E : Ev} {d : Nat} {G : Hp} {Q : Po} {x0 : Int32} (h : (if ¬ x0 = 0 then (if ¬ x0 = (iv 3) then Q (some (.int (iv 1))) G else Q (some (.int (iv 2))) G) else Q (some (.int (iv 0))) G)) : Xr E d x_X7_parameters 0 [some (.int x0)] [] G Q := by
  refine r_iload_n dX7_parameters_0 rfl ?_
  refine r_ifne (tgt := 8) dX7_parameters_1 (by decide) (ite_imp (fun h => ?_) (fun h => ?_) h)
  · refine r_iload_n dX7_parameters_8 rfl ?_
    refine r_iconst dX7_parameters_9 ?_
    refine r_cne (tgt := 17) dX7_parameters_10 (by decide) (ite_imp (fun h => ?_) (fun h => ?_) h)
    · refine r_iconst dX7_parameters_17 ?_
      exact r_iret dX7_parameters_18 rfl ⟨rfl, h⟩
    · refine r_iconst dX7_parameters_13 ?_
      refine r_goto (tgt := 18) dX7_parameters_14 (by decide) ?_
      exact r_iret dX7_parameters_18 rfl ⟨rfl, h⟩
  · refine r_iconst dX7_parameters_4 ?_
    refine r_goto (tgt := 18) dX7_parameters_5 (by decide) ?_
    exact r_iret dX7_parameters_18 rfl ⟨rfl, h⟩
theorem e_X7_parameters {E : Ev} {d : Nat} {G : Hp} {Q : Po} {x0 : Int32} (h : (if ¬ x0 = 0 then (if ¬ x0 = (iv 3) then Q (some (.int (iv 1))) G else Q (some (.int (iv 2))) G) else Q (some (.int (iv 0))) G)) : runs E (d + 1) i_X7_parameters [.int x0] G Q := by
  rw [runs_eq (m := (yX7_parameters, cX7_parameters, 1, some (.int), 1, 7, false, true)) rfl (Nat.le_of_ble_eq_true rfl)]
  exact g_X7_parameters_0 h
theorem dX7_wants_0 : decode cX7_wants 0 = .ok (.iload_n 0, 1) := by decide +kernel
theorem dX7_wants_1 : decode cX7_wants 1 = .ok (.invokestatic 63, 3) := by decide +kernel
theorem dX7_wants_4 : decode cX7_wants 4 = .ok (.bipush (-9), 2) := by decide +kernel
theorem dX7_wants_6 : decode cX7_wants 6 = .ok (.if_icmp .eq 11, 3) := by decide +kernel
theorem dX7_wants_9 : decode cX7_wants 9 = .ok (.iload_n 0, 1) := by decide +kernel
theorem dX7_wants_10 : decode cX7_wants 10 = .ok (.invokestatic 63, 3) := by decide +kernel
theorem dX7_wants_13 : decode cX7_wants 13 = .ok (.invokestatic 67, 3) := by decide +kernel
theorem dX7_wants_16 : decode cX7_wants 16 = .ok (.ireturn, 1) := by decide +kernel
theorem dX7_wants_17 : decode cX7_wants 17 = .ok (.iload_n 0, 1) := by decide +kernel
theorem dX7_wants_18 : decode cX7_wants 18 = .ok (.invokestatic 70, 3) := by decide +kernel
theorem dX7_wants_21 : decode cX7_wants 21 = .ok (.bipush (-9), 2) := by decide +kernel
theorem dX7_wants_23 : decode cX7_wants 23 = .ok (.if_icmp .eq 11, 3) := by decide +kernel
theorem dX7_wants_26 : decode cX7_wants 26 = .ok (.iload_n 0, 1) := by decide +kernel
theorem dX7_wants_27 : decode cX7_wants 27 = .ok (.invokestatic 70, 3) := by decide +kernel
theorem dX7_wants_30 : decode cX7_wants 30 = .ok (.invokestatic 73, 3) := by decide +kernel
theorem dX7_wants_33 : decode cX7_wants 33 = .ok (.ireturn, 1) := by decide +kernel
theorem dX7_wants_34 : decode cX7_wants 34 = .ok (.iload_n 0, 1) := by decide +kernel
theorem dX7_wants_35 : decode cX7_wants 35 = .ok (.bipush 120, 2) := by decide +kernel
theorem dX7_wants_37 : decode cX7_wants 37 = .ok (.if_icmp .eq 9, 3) := by decide +kernel
theorem dX7_wants_40 : decode cX7_wants 40 = .ok (.iload_n 0, 1) := by decide +kernel
theorem dX7_wants_41 : decode cX7_wants 41 = .ok (.bipush 121, 2) := by decide +kernel
theorem dX7_wants_43 : decode cX7_wants 43 = .ok (.if_icmp .ne 7, 3) := by decide +kernel
theorem dX7_wants_46 : decode cX7_wants 46 = .ok (.iconst 0, 1) := by decide +kernel
theorem dX7_wants_47 : decode cX7_wants 47 = .ok (.goto 5, 3) := by decide +kernel
theorem dX7_wants_50 : decode cX7_wants 50 = .ok (.bipush (-9), 2) := by decide +kernel
theorem dX7_wants_52 : decode cX7_wants 52 = .ok (.ireturn, 1) := by decide +kernel
abbrev x_X7_wants : Cx := (7, cX7_wants, false, some (.int))
set_option maxRecDepth 10000 in
theorem g_X7_wants_0 {E : Ev} {d : Nat} {G : Hp} {Q : Po} {x0 : Int32} (h : (qCI E d i_X7_terminal [.int x0] G fun v2 G1 => (if v2 = (iv (-9)) then (qCI E d i_X7_nonterminal [.int x0] G1 fun v4 G3 => (if v4 = (iv (-9)) then (if x0 = (iv 120) then Q (some (.int (iv 0))) G3 else (if ¬ x0 = (iv 121) then Q (some (.int (iv (-9)))) G3 else Q (some (.int (iv 0))) G3)) else (qCI E d i_X7_nonterminal [.int x0] G3 fun v6 G5 => (qCI E d i_X7_parameters [.int v6] G5 fun v8 G7 => Q (some (.int v8)) G7)))) else (qCI E d i_X7_terminal [.int x0] G1 fun v10 G9 => (qCI E d i_X7_places [.int v10] G9 fun v12 G11 => Q (some (.int v12)) G11))))) : Xr E d x_X7_wants 0 [some (.int x0)] [] G Q := by
  refine r_iload_n dX7_wants_0 rfl ?_
  refine r_cI dX7_wants_1 rfl (invS_eq rfl (by decide) rfl rfl rfl rfl ⟨rfl, Nat.le_of_ble_eq_true rfl⟩) (qCI_imp (fun v2 G1 h => ?_) h)
  refine r_bipush dX7_wants_4 rfl ?_
  refine r_ceq (tgt := 17) dX7_wants_6 (by decide) (ite_imp (fun h => ?_) (fun h => ?_) h)
  · refine r_iload_n dX7_wants_17 rfl ?_
    refine r_cI dX7_wants_18 rfl (invS_eq rfl (by decide) rfl rfl rfl rfl ⟨rfl, Nat.le_of_ble_eq_true rfl⟩) (qCI_imp (fun v4 G3 h => ?_) h)
    refine r_bipush dX7_wants_21 rfl ?_
    refine r_ceq (tgt := 34) dX7_wants_23 (by decide) (ite_imp (fun h => ?_) (fun h => ?_) h)
    · refine r_iload_n dX7_wants_34 rfl ?_
      refine r_bipush dX7_wants_35 rfl ?_
      refine r_ceq (tgt := 46) dX7_wants_37 (by decide) (ite_imp (fun h => ?_) (fun h => ?_) h)
      · refine r_iconst dX7_wants_46 ?_
        refine r_goto (tgt := 52) dX7_wants_47 (by decide) ?_
        exact r_iret dX7_wants_52 rfl ⟨rfl, h⟩
      · refine r_iload_n dX7_wants_40 rfl ?_
        refine r_bipush dX7_wants_41 rfl ?_
        refine r_cne (tgt := 50) dX7_wants_43 (by decide) (ite_imp (fun h => ?_) (fun h => ?_) h)
        · refine r_bipush dX7_wants_50 rfl ?_
          exact r_iret dX7_wants_52 rfl ⟨rfl, h⟩
        · refine r_iconst dX7_wants_46 ?_
          refine r_goto (tgt := 52) dX7_wants_47 (by decide) ?_
          exact r_iret dX7_wants_52 rfl ⟨rfl, h⟩
    · refine r_iload_n dX7_wants_26 rfl ?_
      refine r_cI dX7_wants_27 rfl (invS_eq rfl (by decide) rfl rfl rfl rfl ⟨rfl, Nat.le_of_ble_eq_true rfl⟩) (qCI_imp (fun v6 G5 h => ?_) h)
      refine r_cI dX7_wants_30 rfl (invS_eq rfl (by decide) rfl rfl rfl rfl ⟨rfl, Nat.le_of_ble_eq_true rfl⟩) (qCI_imp (fun v8 G7 h => ?_) h)
      exact r_iret dX7_wants_33 rfl ⟨rfl, h⟩
  · refine r_iload_n dX7_wants_9 rfl ?_
    refine r_cI dX7_wants_10 rfl (invS_eq rfl (by decide) rfl rfl rfl rfl ⟨rfl, Nat.le_of_ble_eq_true rfl⟩) (qCI_imp (fun v10 G9 h => ?_) h)
    refine r_cI dX7_wants_13 rfl (invS_eq rfl (by decide) rfl rfl rfl rfl ⟨rfl, Nat.le_of_ble_eq_true rfl⟩) (qCI_imp (fun v12 G11 h => ?_) h)
    exact r_iret dX7_wants_16 rfl ⟨rfl, h⟩
theorem e_X7_wants {E : Ev} {d : Nat} {G : Hp} {Q : Po} {x0 : Int32} (h : (qCI E d i_X7_terminal [.int x0] G fun v2 G1 => (if v2 = (iv (-9)) then (qCI E d i_X7_nonterminal [.int x0] G1 fun v4 G3 => (if v4 = (iv (-9)) then (if x0 = (iv 120) then Q (some (.int (iv 0))) G3 else (if ¬ x0 = (iv 121) then Q (some (.int (iv (-9)))) G3 else Q (some (.int (iv 0))) G3)) else (qCI E d i_X7_nonterminal [.int x0] G3 fun v6 G5 => (qCI E d i_X7_parameters [.int v6] G5 fun v8 G7 => Q (some (.int v8)) G7)))) else (qCI E d i_X7_terminal [.int x0] G1 fun v10 G9 => (qCI E d i_X7_places [.int v10] G9 fun v12 G11 => Q (some (.int v12)) G11))))) : runs E (d + 1) i_X7_wants [.int x0] G Q := by
  rw [runs_eq (m := (yX7_wants, cX7_wants, 1, some (.int), 1, 7, false, true)) rfl (Nat.le_of_ble_eq_true rfl)]
  exact g_X7_wants_0 h
theorem dX7_isAllowed_0 : decode cX7_isAllowed 0 = .ok (.iload_n 1, 1) := by decide +kernel
theorem dX7_isAllowed_1 : decode cX7_isAllowed 1 = .ok (.bipush 120, 2) := by decide +kernel
theorem dX7_isAllowed_3 : decode cX7_isAllowed 3 = .ok (.if_icmp .ne 7, 3) := by decide +kernel
theorem dX7_isAllowed_6 : decode cX7_isAllowed 6 = .ok (.iload_n 0, 1) := by decide +kernel
theorem dX7_isAllowed_7 : decode cX7_isAllowed 7 = .ok (.ifCond .gt 14, 3) := by decide +kernel
theorem dX7_isAllowed_10 : decode cX7_isAllowed 10 = .ok (.iload_n 1, 1) := by decide +kernel
theorem dX7_isAllowed_11 : decode cX7_isAllowed 11 = .ok (.bipush 121, 2) := by decide +kernel
theorem dX7_isAllowed_13 : decode cX7_isAllowed 13 = .ok (.if_icmp .ne 12, 3) := by decide +kernel
theorem dX7_isAllowed_16 : decode cX7_isAllowed 16 = .ok (.iload_n 0, 1) := by decide +kernel
theorem dX7_isAllowed_17 : decode cX7_isAllowed 17 = .ok (.iconst 3, 1) := by decide +kernel
theorem dX7_isAllowed_18 : decode cX7_isAllowed 18 = .ok (.if_icmp .ne 7, 3) := by decide +kernel
theorem dX7_isAllowed_21 : decode cX7_isAllowed 21 = .ok (.iconst 1, 1) := by decide +kernel
theorem dX7_isAllowed_22 : decode cX7_isAllowed 22 = .ok (.goto 4, 3) := by decide +kernel
theorem dX7_isAllowed_25 : decode cX7_isAllowed 25 = .ok (.iconst 0, 1) := by decide +kernel
theorem dX7_isAllowed_26 : decode cX7_isAllowed 26 = .ok (.istore_n 2, 1) := by decide +kernel
theorem dX7_isAllowed_27 : decode cX7_isAllowed 27 = .ok (.iload_n 1, 1) := by decide +kernel
theorem dX7_isAllowed_28 : decode cX7_isAllowed 28 = .ok (.invokestatic 76, 3) := by decide +kernel
theorem dX7_isAllowed_31 : decode cX7_isAllowed 31 = .ok (.bipush (-9), 2) := by decide +kernel
theorem dX7_isAllowed_33 : decode cX7_isAllowed 33 = .ok (.if_icmp .eq 17, 3) := by decide +kernel
theorem dX7_isAllowed_36 : decode cX7_isAllowed 36 = .ok (.iload_n 1, 1) := by decide +kernel
theorem dX7_isAllowed_37 : decode cX7_isAllowed 37 = .ok (.bipush 120, 2) := by decide +kernel
theorem dX7_isAllowed_39 : decode cX7_isAllowed 39 = .ok (.if_icmp .lt 7, 3) := by decide +kernel
theorem dX7_isAllowed_42 : decode cX7_isAllowed 42 = .ok (.iload_n 2, 1) := by decide +kernel
theorem dX7_isAllowed_43 : decode cX7_isAllowed 43 = .ok (.ifCond .eq 7, 3) := by decide +kernel
theorem dX7_isAllowed_46 : decode cX7_isAllowed 46 = .ok (.iconst 1, 1) := by decide +kernel
theorem dX7_isAllowed_47 : decode cX7_isAllowed 47 = .ok (.goto 4, 3) := by decide +kernel
theorem dX7_isAllowed_50 : decode cX7_isAllowed 50 = .ok (.iconst 0, 1) := by decide +kernel
theorem dX7_isAllowed_51 : decode cX7_isAllowed 51 = .ok (.ireturn, 1) := by decide +kernel
abbrev x_X7_isAllowed : Cx := (7, cX7_isAllowed, false, some (.boolean))
set_option maxRecDepth 10000 in
theorem g_X7_isAllowed_0 {E : Ev} {d : Nat} {G : Hp} {Q : Po} {x0 : Int32} {x1 : Int32} (h : (if ¬ x1 = (iv 120) then Xr E d x_X7_isAllowed 10 [some (.int x0), some (.int x1), none] [] G Q else (if 0 < x0 then Xr E d x_X7_isAllowed 21 [some (.int x0), some (.int x1), none] [] G Q else Xr E d x_X7_isAllowed 10 [some (.int x0), some (.int x1), none] [] G Q))) : Xr E d x_X7_isAllowed 0 [some (.int x0), some (.int x1), none] [] G Q := by
  refine r_iload_n dX7_isAllowed_0 rfl ?_
  refine r_bipush dX7_isAllowed_1 rfl ?_
  refine r_cne (tgt := 10) dX7_isAllowed_3 (by decide) (ite_imp (fun h => ?_) (fun h => ?_) h)
  · exact h
  · refine r_iload_n dX7_isAllowed_6 rfl ?_
    refine r_ifgt (tgt := 21) dX7_isAllowed_7 (by decide) (ite_imp (fun h => ?_) (fun h => ?_) h)
    · exact h
    · exact h
theorem e_X7_isAllowed {E : Ev} {d : Nat} {G : Hp} {Q : Po} {x0 : Int32} {x1 : Int32} (h : (if ¬ x1 = (iv 120) then Xr E d x_X7_isAllowed 10 [some (.int x0), some (.int x1), none] [] G Q else (if 0 < x0 then Xr E d x_X7_isAllowed 21 [some (.int x0), some (.int x1), none] [] G Q else Xr E d x_X7_isAllowed 10 [some (.int x0), some (.int x1), none] [] G Q))) : runs E (d + 1) i_X7_isAllowed [.int x0, .int x1] G Q := by
  rw [runs_eq (m := (yX7_isAllowed, cX7_isAllowed, 3, some (.boolean), 2, 7, false, true)) rfl (Nat.le_of_ble_eq_true rfl)]
  exact g_X7_isAllowed_0 h
set_option maxRecDepth 10000 in
theorem g_X7_isAllowed_10 {E : Ev} {d : Nat} {G : Hp} {Q : Po} {x0 : Int32} {x1 : Int32} (h : (if ¬ x1 = (iv 121) then Xr E d x_X7_isAllowed 25 [some (.int x0), some (.int x1), none] [] G Q else (if ¬ x0 = (iv 3) then Xr E d x_X7_isAllowed 25 [some (.int x0), some (.int x1), none] [] G Q else Xr E d x_X7_isAllowed 21 [some (.int x0), some (.int x1), none] [] G Q))) : Xr E d x_X7_isAllowed 10 [some (.int x0), some (.int x1), none] [] G Q := by
  refine r_iload_n dX7_isAllowed_10 rfl ?_
  refine r_bipush dX7_isAllowed_11 rfl ?_
  refine r_cne (tgt := 25) dX7_isAllowed_13 (by decide) (ite_imp (fun h => ?_) (fun h => ?_) h)
  · exact h
  · refine r_iload_n dX7_isAllowed_16 rfl ?_
    refine r_iconst dX7_isAllowed_17 ?_
    refine r_cne (tgt := 25) dX7_isAllowed_18 (by decide) (ite_imp (fun h => ?_) (fun h => ?_) h)
    · exact h
    · exact h
set_option maxRecDepth 10000 in
theorem g_X7_isAllowed_21 {E : Ev} {d : Nat} {G : Hp} {Q : Po} {x0 : Int32} {x1 : Int32} (h : (qCI E d i_X7_wants [.int x1] G fun v2 G1 => (if v2 = (iv (-9)) then Q (some (.int (iv 0))) G1 else (if x1 < (iv 120) then Q (some (.int (iv 1))) G1 else (if (iv 1) = 0 then Q (some (.int (iv 0))) G1 else Q (some (.int (iv 1))) G1))))) : Xr E d x_X7_isAllowed 21 [some (.int x0), some (.int x1), none] [] G Q := by
  refine r_iconst dX7_isAllowed_21 ?_
  refine r_goto (tgt := 26) dX7_isAllowed_22 (by decide) ?_
  refine r_istore_n dX7_isAllowed_26 rfl ?_
  refine r_iload_n dX7_isAllowed_27 rfl ?_
  refine r_cI dX7_isAllowed_28 rfl (invS_eq rfl (by decide) rfl rfl rfl rfl ⟨rfl, Nat.le_of_ble_eq_true rfl⟩) (qCI_imp (fun v2 G1 h => ?_) h)
  refine r_bipush dX7_isAllowed_31 rfl ?_
  refine r_ceq (tgt := 50) dX7_isAllowed_33 (by decide) (ite_imp (fun h => ?_) (fun h => ?_) h)
  · refine r_iconst dX7_isAllowed_50 ?_
    exact r_iret dX7_isAllowed_51 rfl ⟨rfl, h⟩
  · refine r_iload_n dX7_isAllowed_36 rfl ?_
    refine r_bipush dX7_isAllowed_37 rfl ?_
    refine r_clt (tgt := 46) dX7_isAllowed_39 (by decide) (ite_imp (fun h => ?_) (fun h => ?_) h)
    · refine r_iconst dX7_isAllowed_46 ?_
      refine r_goto (tgt := 51) dX7_isAllowed_47 (by decide) ?_
      exact r_iret dX7_isAllowed_51 rfl ⟨rfl, h⟩
    · refine r_iload_n dX7_isAllowed_42 rfl ?_
      refine r_ifeq (tgt := 50) dX7_isAllowed_43 (by decide) (ite_imp (fun h => ?_) (fun h => ?_) h)
      · refine r_iconst dX7_isAllowed_50 ?_
        exact r_iret dX7_isAllowed_51 rfl ⟨rfl, h⟩
      · refine r_iconst dX7_isAllowed_46 ?_
        refine r_goto (tgt := 51) dX7_isAllowed_47 (by decide) ?_
        exact r_iret dX7_isAllowed_51 rfl ⟨rfl, h⟩
set_option maxRecDepth 10000 in
theorem g_X7_isAllowed_25 {E : Ev} {d : Nat} {G : Hp} {Q : Po} {x0 : Int32} {x1 : Int32} (h : (qCI E d i_X7_wants [.int x1] G fun v2 G1 => (if v2 = (iv (-9)) then Q (some (.int (iv 0))) G1 else (if x1 < (iv 120) then Q (some (.int (iv 1))) G1 else (if (iv 0) = 0 then Q (some (.int (iv 0))) G1 else Q (some (.int (iv 1))) G1))))) : Xr E d x_X7_isAllowed 25 [some (.int x0), some (.int x1), none] [] G Q := by
  refine r_iconst dX7_isAllowed_25 ?_
  refine r_istore_n dX7_isAllowed_26 rfl ?_
  refine r_iload_n dX7_isAllowed_27 rfl ?_
  refine r_cI dX7_isAllowed_28 rfl (invS_eq rfl (by decide) rfl rfl rfl rfl ⟨rfl, Nat.le_of_ble_eq_true rfl⟩) (qCI_imp (fun v2 G1 h => ?_) h)
  refine r_bipush dX7_isAllowed_31 rfl ?_
  refine r_ceq (tgt := 50) dX7_isAllowed_33 (by decide) (ite_imp (fun h => ?_) (fun h => ?_) h)
  · refine r_iconst dX7_isAllowed_50 ?_
    exact r_iret dX7_isAllowed_51 rfl ⟨rfl, h⟩
  · refine r_iload_n dX7_isAllowed_36 rfl ?_
    refine r_bipush dX7_isAllowed_37 rfl ?_
    refine r_clt (tgt := 46) dX7_isAllowed_39 (by decide) (ite_imp (fun h => ?_) (fun h => ?_) h)
    · refine r_iconst dX7_isAllowed_46 ?_
      refine r_goto (tgt := 51) dX7_isAllowed_47 (by decide) ?_
      exact r_iret dX7_isAllowed_51 rfl ⟨rfl, h⟩
    · refine r_iload_n dX7_isAllowed_42 rfl ?_
      refine r_ifeq (tgt := 50) dX7_isAllowed_43 (by decide) (ite_imp (fun h => ?_) (fun h => ?_) h)
      · refine r_iconst dX7_isAllowed_50 ?_
        exact r_iret dX7_isAllowed_51 rfl ⟨rfl, h⟩
      · refine r_iconst dX7_isAllowed_46 ?_
        refine r_goto (tgt := 51) dX7_isAllowed_47 (by decide) ?_
        exact r_iret dX7_isAllowed_51 rfl ⟨rfl, h⟩
theorem dX7_endOf_0 : decode cX7_endOf 0 = .ok (.iconst 1, 1) := by decide +kernel
theorem dX7_endOf_1 : decode cX7_endOf 1 = .ok (.istore_n 2, 1) := by decide +kernel
theorem dX7_endOf_2 : decode cX7_endOf 2 = .ok (.iload_n 1, 1) := by decide +kernel
theorem dX7_endOf_3 : decode cX7_endOf 3 = .ok (.istore_n 3, 1) := by decide +kernel
theorem dX7_endOf_4 : decode cX7_endOf 4 = .ok (.iload_n 2, 1) := by decide +kernel
theorem dX7_endOf_5 : decode cX7_endOf 5 = .ok (.ifCond .le 20, 3) := by decide +kernel
theorem dX7_endOf_8 : decode cX7_endOf 8 = .ok (.iload_n 2, 1) := by decide +kernel
theorem dX7_endOf_9 : decode cX7_endOf 9 = .ok (.aload_n 0, 1) := by decide +kernel
theorem dX7_endOf_10 : decode cX7_endOf 10 = .ok (.iload_n 3, 1) := by decide +kernel
theorem dX7_endOf_11 : decode cX7_endOf 11 = .ok (.iaload, 1) := by decide +kernel
theorem dX7_endOf_12 : decode cX7_endOf 12 = .ok (.invokestatic 76, 3) := by decide +kernel
theorem dX7_endOf_15 : decode cX7_endOf 15 = .ok (.iconst 1, 1) := by decide +kernel
theorem dX7_endOf_16 : decode cX7_endOf 16 = .ok (.isub, 1) := by decide +kernel
theorem dX7_endOf_17 : decode cX7_endOf 17 = .ok (.iadd, 1) := by decide +kernel
theorem dX7_endOf_18 : decode cX7_endOf 18 = .ok (.istore_n 2, 1) := by decide +kernel
theorem dX7_endOf_19 : decode cX7_endOf 19 = .ok (.iinc 3 1, 3) := by decide +kernel
theorem dX7_endOf_22 : decode cX7_endOf 22 = .ok (.goto (-18), 3) := by decide +kernel
theorem dX7_endOf_25 : decode cX7_endOf 25 = .ok (.iload_n 3, 1) := by decide +kernel
theorem dX7_endOf_26 : decode cX7_endOf 26 = .ok (.ireturn, 1) := by decide +kernel
abbrev x_X7_endOf : Cx := (7, cX7_endOf, false, some (.int))
set_option maxRecDepth 10000 in
theorem g_X7_endOf_0 {E : Ev} {d : Nat} {G : Hp} {Q : Po} {x0 : Nat} {x1 : Int32} (h : Xr E d x_X7_endOf 4 [some (.ref x0), some (.int x1), some (.int ((iv 1))), some (.int x1)] [] G Q) : Xr E d x_X7_endOf 0 [some (.ref x0), some (.int x1), none, none] [] G Q := by
  refine r_iconst dX7_endOf_0 ?_
  refine r_istore_n dX7_endOf_1 rfl ?_
  refine r_iload_n dX7_endOf_2 rfl ?_
  refine r_istore_n dX7_endOf_3 rfl ?_
  exact h
theorem e_X7_endOf {E : Ev} {d : Nat} {G : Hp} {Q : Po} {x0 : Nat} {x1 : Int32} (h : Xr E d x_X7_endOf 4 [some (.ref x0), some (.int x1), some (.int ((iv 1))), some (.int x1)] [] G Q) : runs E (d + 1) i_X7_endOf [.ref x0, .int x1] G Q := by
  rw [runs_eq (m := (yX7_endOf, cX7_endOf, 4, some (.int), 2, 7, false, true)) rfl (Nat.le_of_ble_eq_true rfl)]
  exact g_X7_endOf_0 h
set_option maxRecDepth 10000 in
theorem g_X7_endOf_4 {E : Ev} {d : Nat} {G : Hp} {Q : Po} {x0 : Nat} {x1 : Int32} {x2 : Int32} {x3 : Int32} (h : (if x2 ≤ 0 then Q (some (.int x3)) G else (qIA 7 E G x0 x3 fun v1 => (qCI E d i_X7_wants [.int v1] G fun v3 G2 => Xr E d x_X7_endOf 4 [some (.ref x0), some (.int x1), some (.int ((x2 + (v3 - (iv 1))))), some (.int ((x3 + (iv 1))))] [] G2 Q)))) : Xr E d x_X7_endOf 4 [some (.ref x0), some (.int x1), some (.int x2), some (.int x3)] [] G Q := by
  refine r_iload_n dX7_endOf_4 rfl ?_
  refine r_ifle (tgt := 25) dX7_endOf_5 (by decide) (ite_imp (fun h => ?_) (fun h => ?_) h)
  · refine r_iload_n dX7_endOf_25 rfl ?_
    exact r_iret dX7_endOf_26 rfl ⟨rfl, h⟩
  · refine r_iload_n dX7_endOf_8 rfl ?_
    refine r_aload_n dX7_endOf_9 rfl ?_
    refine r_iload_n dX7_endOf_10 rfl ?_
    refine r_iald dX7_endOf_11 (qIA_imp (fun v1 h => ?_) h)
    refine r_cI dX7_endOf_12 rfl (invS_eq rfl (by decide) rfl rfl rfl rfl ⟨rfl, Nat.le_of_ble_eq_true rfl⟩) (qCI_imp (fun v3 G2 h => ?_) h)
    refine r_iconst dX7_endOf_15 ?_
    refine r_isub dX7_endOf_16 ?_
    refine r_iadd dX7_endOf_17 ?_
    refine r_istore_n dX7_endOf_18 rfl ?_
    refine r_iinc dX7_endOf_19 rfl rfl ?_
    refine r_goto (tgt := 4) dX7_endOf_22 (by decide) ?_
    exact h
theorem dX7_append_0 : decode cX7_append 0 = .ok (.iload_n 1, 1) := by decide +kernel
theorem dX7_append_1 : decode cX7_append 1 = .ok (.i2l, 1) := by decide +kernel
theorem dX7_append_2 : decode cX7_append 2 = .ok (.lconst 0, 1) := by decide +kernel
theorem dX7_append_3 : decode cX7_append 3 = .ok (.ldc2_w 79, 3) := by decide +kernel
theorem dX7_append_6 : decode cX7_append 6 = .ok (.invokestatic 55, 3) := by decide +kernel
theorem dX7_append_9 : decode cX7_append 9 = .ok (.ifCond .ne 6, 3) := by decide +kernel
theorem dX7_append_12 : decode cX7_append 12 = .ok (.bipush (-2), 2) := by decide +kernel
theorem dX7_append_14 : decode cX7_append 14 = .ok (.ireturn, 1) := by decide +kernel
theorem dX7_append_15 : decode cX7_append 15 = .ok (.aload_n 0, 1) := by decide +kernel
theorem dX7_append_16 : decode cX7_append 16 = .ok (.getfield 81, 3) := by decide +kernel
theorem dX7_append_19 : decode cX7_append 19 = .ok (.bipush 99, 2) := by decide +kernel
theorem dX7_append_21 : decode cX7_append 21 = .ok (.if_icmp .ne 6, 3) := by decide +kernel
theorem dX7_append_24 : decode cX7_append 24 = .ok (.bipush (-4), 2) := by decide +kernel
theorem dX7_append_26 : decode cX7_append 26 = .ok (.ireturn, 1) := by decide +kernel
theorem dX7_append_27 : decode cX7_append 27 = .ok (.aload_n 0, 1) := by decide +kernel
theorem dX7_append_28 : decode cX7_append 28 = .ok (.getfield 7, 3) := by decide +kernel
theorem dX7_append_31 : decode cX7_append 31 = .ok (.aload_n 0, 1) := by decide +kernel
theorem dX7_append_32 : decode cX7_append 32 = .ok (.getfield 81, 3) := by decide +kernel
theorem dX7_append_35 : decode cX7_append 35 = .ok (.iload_n 1, 1) := by decide +kernel
theorem dX7_append_36 : decode cX7_append 36 = .ok (.iastore, 1) := by decide +kernel
theorem dX7_append_37 : decode cX7_append 37 = .ok (.aload_n 0, 1) := by decide +kernel
theorem dX7_append_38 : decode cX7_append 38 = .ok (.dup, 1) := by decide +kernel
theorem dX7_append_39 : decode cX7_append 39 = .ok (.getfield 81, 3) := by decide +kernel
theorem dX7_append_42 : decode cX7_append 42 = .ok (.iconst 1, 1) := by decide +kernel
theorem dX7_append_43 : decode cX7_append 43 = .ok (.iadd, 1) := by decide +kernel
theorem dX7_append_44 : decode cX7_append 44 = .ok (.putfield 81, 3) := by decide +kernel
theorem dX7_append_47 : decode cX7_append 47 = .ok (.aload_n 0, 1) := by decide +kernel
theorem dX7_append_48 : decode cX7_append 48 = .ok (.getfield 81, 3) := by decide +kernel
theorem dX7_append_51 : decode cX7_append 51 = .ok (.ireturn, 1) := by decide +kernel
abbrev x_X7_append : Cx := (7, cX7_append, false, some (.int))
set_option maxRecDepth 10000 in
theorem g_X7_append_0 {E : Ev} {d : Nat} {G : Hp} {Q : Po} {x0 : Nat} {x1 : Int32} (h : (qCI E d i_X7_in [.long (((x1).toInt64)), .long 0, .long 255] G fun v2 G1 => (if ¬ v2 = 0 then (qFI E G1 x0 7 1 fun v3 => (if ¬ v3 = (iv 99) then (qFR E G1 x0 7 0 fun v4 => (qFI E G1 x0 7 1 fun v5 => (qIS E G1 v4 v5 x1 fun G6 => (qFI E G6 x0 7 1 fun v7 => (qP E G6 x0 7 1 (.int ((v7 + (iv 1)))) fun G8 => (qFI E G8 x0 7 1 fun v9 => Q (some (.int v9)) G8)))))) else Q (some (.int (iv (-4)))) G1)) else Q (some (.int (iv (-2)))) G1))) : Xr E d x_X7_append 0 [some (.ref x0), some (.int x1)] [] G Q := by
  refine r_iload_n dX7_append_0 rfl ?_
  refine r_i2l dX7_append_1 ?_
  refine r_lconst (v := 0) dX7_append_2 rfl ?_
  refine r_ldc2 dX7_append_3 rfl ?_
  refine r_cI dX7_append_6 rfl (invS_eq rfl (by decide) rfl rfl rfl rfl ⟨rfl, Nat.le_of_ble_eq_true rfl⟩) (qCI_imp (fun v2 G1 h => ?_) h)
  refine r_ifne (tgt := 15) dX7_append_9 (by decide) (ite_imp (fun h => ?_) (fun h => ?_) h)
  · refine r_aload_n dX7_append_15 rfl ?_
    refine r_getI dX7_append_16 rfl (qFI_imp (fun v3 h => ?_) h)
    refine r_bipush dX7_append_19 rfl ?_
    refine r_cne (tgt := 27) dX7_append_21 (by decide) (ite_imp (fun h => ?_) (fun h => ?_) h)
    · refine r_aload_n dX7_append_27 rfl ?_
      refine r_getR dX7_append_28 rfl (qFR_imp (fun v4 h => ?_) h)
      refine r_aload_n dX7_append_31 rfl ?_
      refine r_getI dX7_append_32 rfl (qFI_imp (fun v5 h => ?_) h)
      refine r_iload_n dX7_append_35 rfl ?_
      refine r_iast dX7_append_36 (qIS_imp (fun G6 h => ?_) h)
      refine r_aload_n dX7_append_37 rfl ?_
      refine r_dup dX7_append_38 rfl ?_
      refine r_getI dX7_append_39 rfl (qFI_imp (fun v7 h => ?_) h)
      refine r_iconst dX7_append_42 ?_
      refine r_iadd dX7_append_43 ?_
      refine r_put dX7_append_44 rfl rfl (by decide) (qP_imp (fun G8 h => ?_) h)
      refine r_aload_n dX7_append_47 rfl ?_
      refine r_getI dX7_append_48 rfl (qFI_imp (fun v9 h => ?_) h)
      exact r_iret dX7_append_51 rfl ⟨rfl, h⟩
    · refine r_bipush dX7_append_24 rfl ?_
      exact r_iret dX7_append_26 rfl ⟨rfl, h⟩
  · refine r_bipush dX7_append_12 rfl ?_
    exact r_iret dX7_append_14 rfl ⟨rfl, h⟩
theorem e_X7_append {E : Ev} {d : Nat} {G : Hp} {Q : Po} {x0 : Nat} {x1 : Int32} (h : (qCI E d i_X7_in [.long (((x1).toInt64)), .long 0, .long 255] G fun v2 G1 => (if ¬ v2 = 0 then (qFI E G1 x0 7 1 fun v3 => (if ¬ v3 = (iv 99) then (qFR E G1 x0 7 0 fun v4 => (qFI E G1 x0 7 1 fun v5 => (qIS E G1 v4 v5 x1 fun G6 => (qFI E G6 x0 7 1 fun v7 => (qP E G6 x0 7 1 (.int ((v7 + (iv 1)))) fun G8 => (qFI E G8 x0 7 1 fun v9 => Q (some (.int v9)) G8)))))) else Q (some (.int (iv (-4)))) G1)) else Q (some (.int (iv (-2)))) G1))) : runs E (d + 1) i_X7_append [.ref x0, .int x1] G Q := by
  rw [runs_eq (m := (yX7_append, cX7_append, 2, some (.int), 1, 7, false, false)) rfl (Nat.le_of_ble_eq_true rfl)]
  exact g_X7_append_0 h
theorem dX7_clearText_0 : decode cX7_clearText 0 = .ok (.aload_n 0, 1) := by decide +kernel
theorem dX7_clearText_1 : decode cX7_clearText 1 = .ok (.getfield 81, 3) := by decide +kernel
theorem dX7_clearText_4 : decode cX7_clearText 4 = .ok (.istore_n 1, 1) := by decide +kernel
theorem dX7_clearText_5 : decode cX7_clearText 5 = .ok (.aload_n 0, 1) := by decide +kernel
theorem dX7_clearText_6 : decode cX7_clearText 6 = .ok (.iconst 0, 1) := by decide +kernel
theorem dX7_clearText_7 : decode cX7_clearText 7 = .ok (.putfield 81, 3) := by decide +kernel
theorem dX7_clearText_10 : decode cX7_clearText 10 = .ok (.iload_n 1, 1) := by decide +kernel
theorem dX7_clearText_11 : decode cX7_clearText 11 = .ok (.ireturn, 1) := by decide +kernel
abbrev x_X7_clearText : Cx := (7, cX7_clearText, false, some (.int))
set_option maxRecDepth 10000 in
theorem g_X7_clearText_0 {E : Ev} {d : Nat} {G : Hp} {Q : Po} {x0 : Nat} (h : (qFI E G x0 7 1 fun v1 => (qP E G x0 7 1 (.int ((iv 0))) fun G2 => Q (some (.int v1)) G2))) : Xr E d x_X7_clearText 0 [some (.ref x0), none] [] G Q := by
  refine r_aload_n dX7_clearText_0 rfl ?_
  refine r_getI dX7_clearText_1 rfl (qFI_imp (fun v1 h => ?_) h)
  refine r_istore_n dX7_clearText_4 rfl ?_
  refine r_aload_n dX7_clearText_5 rfl ?_
  refine r_iconst dX7_clearText_6 ?_
  refine r_put dX7_clearText_7 rfl rfl (by decide) (qP_imp (fun G2 h => ?_) h)
  refine r_iload_n dX7_clearText_10 rfl ?_
  exact r_iret dX7_clearText_11 rfl ⟨rfl, h⟩
theorem e_X7_clearText {E : Ev} {d : Nat} {G : Hp} {Q : Po} {x0 : Nat} (h : (qFI E G x0 7 1 fun v1 => (qP E G x0 7 1 (.int ((iv 0))) fun G2 => Q (some (.int v1)) G2))) : runs E (d + 1) i_X7_clearText [.ref x0] G Q := by
  rw [runs_eq (m := (yX7_clearText, cX7_clearText, 2, some (.int), 0, 7, false, false)) rfl (Nat.le_of_ble_eq_true rfl)]
  exact g_X7_clearText_0 h
theorem dX7_readBody_0 : decode cX7_readBody 0 = .ok (.iconst 1, 1) := by decide +kernel
theorem dX7_readBody_1 : decode cX7_readBody 1 = .ok (.istore_n 3, 1) := by decide +kernel
theorem dX7_readBody_2 : decode cX7_readBody 2 = .ok (.iload_n 2, 1) := by decide +kernel
theorem dX7_readBody_3 : decode cX7_readBody 3 = .ok (.istore 4, 2) := by decide +kernel
theorem dX7_readBody_5 : decode cX7_readBody 5 = .ok (.aload_n 0, 1) := by decide +kernel
theorem dX7_readBody_6 : decode cX7_readBody 6 = .ok (.getfield 19, 3) := by decide +kernel
theorem dX7_readBody_9 : decode cX7_readBody 9 = .ok (.bipush 31, 2) := by decide +kernel
theorem dX7_readBody_11 : decode cX7_readBody 11 = .ok (.iload_n 1, 1) := by decide +kernel
theorem dX7_readBody_12 : decode cX7_readBody 12 = .ok (.imul, 1) := by decide +kernel
theorem dX7_readBody_13 : decode cX7_readBody 13 = .ok (.iconst 0, 1) := by decide +kernel
theorem dX7_readBody_14 : decode cX7_readBody 14 = .ok (.iastore, 1) := by decide +kernel
theorem dX7_readBody_15 : decode cX7_readBody 15 = .ok (.iload_n 3, 1) := by decide +kernel
theorem dX7_readBody_16 : decode cX7_readBody 16 = .ok (.ifCond .le 84, 3) := by decide +kernel
theorem dX7_readBody_19 : decode cX7_readBody 19 = .ok (.iload 4, 2) := by decide +kernel
theorem dX7_readBody_21 : decode cX7_readBody 21 = .ok (.aload_n 0, 1) := by decide +kernel
theorem dX7_readBody_22 : decode cX7_readBody 22 = .ok (.getfield 81, 3) := by decide +kernel
theorem dX7_readBody_25 : decode cX7_readBody 25 = .ok (.if_icmp .eq 26, 3) := by decide +kernel
theorem dX7_readBody_28 : decode cX7_readBody 28 = .ok (.iload 4, 2) := by decide +kernel
theorem dX7_readBody_30 : decode cX7_readBody 30 = .ok (.iload_n 2, 1) := by decide +kernel
theorem dX7_readBody_31 : decode cX7_readBody 31 = .ok (.isub, 1) := by decide +kernel
theorem dX7_readBody_32 : decode cX7_readBody 32 = .ok (.bipush 30, 2) := by decide +kernel
theorem dX7_readBody_34 : decode cX7_readBody 34 = .ok (.if_icmp .eq 17, 3) := by decide +kernel
theorem dX7_readBody_37 : decode cX7_readBody 37 = .ok (.iload_n 1, 1) := by decide +kernel
theorem dX7_readBody_38 : decode cX7_readBody 38 = .ok (.aload_n 0, 1) := by decide +kernel
theorem dX7_readBody_39 : decode cX7_readBody 39 = .ok (.getfield 7, 3) := by decide +kernel
theorem dX7_readBody_42 : decode cX7_readBody 42 = .ok (.iload 4, 2) := by decide +kernel
theorem dX7_readBody_44 : decode cX7_readBody 44 = .ok (.iaload, 1) := by decide +kernel
theorem dX7_readBody_45 : decode cX7_readBody 45 = .ok (.invokestatic 85, 3) := by decide +kernel
theorem dX7_readBody_48 : decode cX7_readBody 48 = .ok (.ifCond .ne 8, 3) := by decide +kernel
theorem dX7_readBody_51 : decode cX7_readBody 51 = .ok (.iconst (-1), 1) := by decide +kernel
theorem dX7_readBody_52 : decode cX7_readBody 52 = .ok (.iload 4, 2) := by decide +kernel
theorem dX7_readBody_54 : decode cX7_readBody 54 = .ok (.isub, 1) := by decide +kernel
theorem dX7_readBody_55 : decode cX7_readBody 55 = .ok (.ireturn, 1) := by decide +kernel
theorem dX7_readBody_56 : decode cX7_readBody 56 = .ok (.iload_n 3, 1) := by decide +kernel
theorem dX7_readBody_57 : decode cX7_readBody 57 = .ok (.aload_n 0, 1) := by decide +kernel
theorem dX7_readBody_58 : decode cX7_readBody 58 = .ok (.getfield 7, 3) := by decide +kernel
theorem dX7_readBody_61 : decode cX7_readBody 61 = .ok (.iload 4, 2) := by decide +kernel
theorem dX7_readBody_63 : decode cX7_readBody 63 = .ok (.iaload, 1) := by decide +kernel
theorem dX7_readBody_64 : decode cX7_readBody 64 = .ok (.invokestatic 76, 3) := by decide +kernel
theorem dX7_readBody_67 : decode cX7_readBody 67 = .ok (.iconst 1, 1) := by decide +kernel
theorem dX7_readBody_68 : decode cX7_readBody 68 = .ok (.isub, 1) := by decide +kernel
theorem dX7_readBody_69 : decode cX7_readBody 69 = .ok (.iadd, 1) := by decide +kernel
theorem dX7_readBody_70 : decode cX7_readBody 70 = .ok (.istore_n 3, 1) := by decide +kernel
theorem dX7_readBody_71 : decode cX7_readBody 71 = .ok (.aload_n 0, 1) := by decide +kernel
theorem dX7_readBody_72 : decode cX7_readBody 72 = .ok (.getfield 19, 3) := by decide +kernel
theorem dX7_readBody_75 : decode cX7_readBody 75 = .ok (.bipush 31, 2) := by decide +kernel
theorem dX7_readBody_77 : decode cX7_readBody 77 = .ok (.iload_n 1, 1) := by decide +kernel
theorem dX7_readBody_78 : decode cX7_readBody 78 = .ok (.imul, 1) := by decide +kernel
theorem dX7_readBody_79 : decode cX7_readBody 79 = .ok (.iconst 1, 1) := by decide +kernel
theorem dX7_readBody_80 : decode cX7_readBody 80 = .ok (.iadd, 1) := by decide +kernel
theorem dX7_readBody_81 : decode cX7_readBody 81 = .ok (.iload 4, 2) := by decide +kernel
theorem dX7_readBody_83 : decode cX7_readBody 83 = .ok (.iadd, 1) := by decide +kernel
theorem dX7_readBody_84 : decode cX7_readBody 84 = .ok (.iload_n 2, 1) := by decide +kernel
theorem dX7_readBody_85 : decode cX7_readBody 85 = .ok (.isub, 1) := by decide +kernel
theorem dX7_readBody_86 : decode cX7_readBody 86 = .ok (.aload_n 0, 1) := by decide +kernel
theorem dX7_readBody_87 : decode cX7_readBody 87 = .ok (.getfield 7, 3) := by decide +kernel
theorem dX7_readBody_90 : decode cX7_readBody 90 = .ok (.iload 4, 2) := by decide +kernel
theorem dX7_readBody_92 : decode cX7_readBody 92 = .ok (.iaload, 1) := by decide +kernel
theorem dX7_readBody_93 : decode cX7_readBody 93 = .ok (.iastore, 1) := by decide +kernel
theorem dX7_readBody_94 : decode cX7_readBody 94 = .ok (.iinc 4 1, 3) := by decide +kernel
theorem dX7_readBody_97 : decode cX7_readBody 97 = .ok (.goto (-82), 3) := by decide +kernel
theorem dX7_readBody_100 : decode cX7_readBody 100 = .ok (.aload_n 0, 1) := by decide +kernel
theorem dX7_readBody_101 : decode cX7_readBody 101 = .ok (.getfield 19, 3) := by decide +kernel
theorem dX7_readBody_104 : decode cX7_readBody 104 = .ok (.bipush 31, 2) := by decide +kernel
theorem dX7_readBody_106 : decode cX7_readBody 106 = .ok (.iload_n 1, 1) := by decide +kernel
theorem dX7_readBody_107 : decode cX7_readBody 107 = .ok (.imul, 1) := by decide +kernel
theorem dX7_readBody_108 : decode cX7_readBody 108 = .ok (.iload 4, 2) := by decide +kernel
theorem dX7_readBody_110 : decode cX7_readBody 110 = .ok (.iload_n 2, 1) := by decide +kernel
theorem dX7_readBody_111 : decode cX7_readBody 111 = .ok (.isub, 1) := by decide +kernel
theorem dX7_readBody_112 : decode cX7_readBody 112 = .ok (.iastore, 1) := by decide +kernel
theorem dX7_readBody_113 : decode cX7_readBody 113 = .ok (.iload 4, 2) := by decide +kernel
theorem dX7_readBody_115 : decode cX7_readBody 115 = .ok (.ireturn, 1) := by decide +kernel
abbrev x_X7_readBody : Cx := (7, cX7_readBody, false, some (.int))
set_option maxRecDepth 10000 in
theorem g_X7_readBody_0 {E : Ev} {d : Nat} {G : Hp} {Q : Po} {x0 : Nat} {x1 : Int32} {x2 : Int32} (h : (qFR E G x0 7 4 fun v1 => (qIS E G v1 ((iv 31) * x1) (iv 0) fun G2 => Xr E d x_X7_readBody 15 [some (.ref x0), some (.int x1), some (.int x2), some (.int ((iv 1))), some (.int x2)] [] G2 Q))) : Xr E d x_X7_readBody 0 [some (.ref x0), some (.int x1), some (.int x2), none, none] [] G Q := by
  refine r_iconst dX7_readBody_0 ?_
  refine r_istore_n dX7_readBody_1 rfl ?_
  refine r_iload_n dX7_readBody_2 rfl ?_
  refine r_istore dX7_readBody_3 rfl ?_
  refine r_aload_n dX7_readBody_5 rfl ?_
  refine r_getR dX7_readBody_6 rfl (qFR_imp (fun v1 h => ?_) h)
  refine r_bipush dX7_readBody_9 rfl ?_
  refine r_iload_n dX7_readBody_11 rfl ?_
  refine r_imul dX7_readBody_12 ?_
  refine r_iconst dX7_readBody_13 ?_
  refine r_iast dX7_readBody_14 (qIS_imp (fun G2 h => ?_) h)
  exact h
theorem e_X7_readBody {E : Ev} {d : Nat} {G : Hp} {Q : Po} {x0 : Nat} {x1 : Int32} {x2 : Int32} (h : (qFR E G x0 7 4 fun v1 => (qIS E G v1 ((iv 31) * x1) (iv 0) fun G2 => Xr E d x_X7_readBody 15 [some (.ref x0), some (.int x1), some (.int x2), some (.int ((iv 1))), some (.int x2)] [] G2 Q))) : runs E (d + 1) i_X7_readBody [.ref x0, .int x1, .int x2] G Q := by
  rw [runs_eq (m := (yX7_readBody, cX7_readBody, 5, some (.int), 2, 7, false, false)) rfl (Nat.le_of_ble_eq_true rfl)]
  exact g_X7_readBody_0 h
set_option maxRecDepth 10000 in
theorem g_X7_readBody_15 {E : Ev} {d : Nat} {G : Hp} {Q : Po} {x0 : Nat} {x1 : Int32} {x2 : Int32} {x3 : Int32} {x4 : Int32} (h : (if x3 ≤ 0 then (qFR E G x0 7 4 fun v1 => (qIS E G v1 ((iv 31) * x1) (x4 - x2) fun G2 => Q (some (.int x4)) G2)) else (qFI E G x0 7 1 fun v3 => (if x4 = v3 then Q (some (.int ((iv (-1)) - x4))) G else (if (x4 - x2) = (iv 30) then Q (some (.int ((iv (-1)) - x4))) G else (qFR E G x0 7 0 fun v4 => (qIA 7 E G v4 x4 fun v5 => (qCI E d i_X7_isAllowed [.int x1, .int v5] G fun v7 G6 => (if ¬ v7 = 0 then (qFR E G6 x0 7 0 fun v8 => (qIA 7 E G6 v8 x4 fun v9 => (qCI E d i_X7_wants [.int v9] G6 fun v11 G10 => (qFR E G10 x0 7 4 fun v12 => (qFR E G10 x0 7 0 fun v13 => (qIA 7 E G10 v13 x4 fun v14 => (qIS E G10 v12 (((((iv 31) * x1) + (iv 1)) + x4) - x2) v14 fun G15 => Xr E d x_X7_readBody 15 [some (.ref x0), some (.int x1), some (.int x2), some (.int ((x3 + (v11 - (iv 1))))), some (.int ((x4 + (iv 1))))] [] G15 Q))))))) else Q (some (.int ((iv (-1)) - x4))) G6))))))))) : Xr E d x_X7_readBody 15 [some (.ref x0), some (.int x1), some (.int x2), some (.int x3), some (.int x4)] [] G Q := by
  refine r_iload_n dX7_readBody_15 rfl ?_
  refine r_ifle (tgt := 100) dX7_readBody_16 (by decide) (ite_imp (fun h => ?_) (fun h => ?_) h)
  · refine r_aload_n dX7_readBody_100 rfl ?_
    refine r_getR dX7_readBody_101 rfl (qFR_imp (fun v1 h => ?_) h)
    refine r_bipush dX7_readBody_104 rfl ?_
    refine r_iload_n dX7_readBody_106 rfl ?_
    refine r_imul dX7_readBody_107 ?_
    refine r_iload dX7_readBody_108 rfl ?_
    refine r_iload_n dX7_readBody_110 rfl ?_
    refine r_isub dX7_readBody_111 ?_
    refine r_iast dX7_readBody_112 (qIS_imp (fun G2 h => ?_) h)
    refine r_iload dX7_readBody_113 rfl ?_
    exact r_iret dX7_readBody_115 rfl ⟨rfl, h⟩
  · refine r_iload dX7_readBody_19 rfl ?_
    refine r_aload_n dX7_readBody_21 rfl ?_
    refine r_getI dX7_readBody_22 rfl (qFI_imp (fun v3 h => ?_) h)
    refine r_ceq (tgt := 51) dX7_readBody_25 (by decide) (ite_imp (fun h => ?_) (fun h => ?_) h)
    · refine r_iconst dX7_readBody_51 ?_
      refine r_iload dX7_readBody_52 rfl ?_
      refine r_isub dX7_readBody_54 ?_
      exact r_iret dX7_readBody_55 rfl ⟨rfl, h⟩
    · refine r_iload dX7_readBody_28 rfl ?_
      refine r_iload_n dX7_readBody_30 rfl ?_
      refine r_isub dX7_readBody_31 ?_
      refine r_bipush dX7_readBody_32 rfl ?_
      refine r_ceq (tgt := 51) dX7_readBody_34 (by decide) (ite_imp (fun h => ?_) (fun h => ?_) h)
      · refine r_iconst dX7_readBody_51 ?_
        refine r_iload dX7_readBody_52 rfl ?_
        refine r_isub dX7_readBody_54 ?_
        exact r_iret dX7_readBody_55 rfl ⟨rfl, h⟩
      · refine r_iload_n dX7_readBody_37 rfl ?_
        refine r_aload_n dX7_readBody_38 rfl ?_
        refine r_getR dX7_readBody_39 rfl (qFR_imp (fun v4 h => ?_) h)
        refine r_iload dX7_readBody_42 rfl ?_
        refine r_iald dX7_readBody_44 (qIA_imp (fun v5 h => ?_) h)
        refine r_cI dX7_readBody_45 rfl (invS_eq rfl (by decide) rfl rfl rfl rfl ⟨rfl, Nat.le_of_ble_eq_true rfl⟩) (qCI_imp (fun v7 G6 h => ?_) h)
        refine r_ifne (tgt := 56) dX7_readBody_48 (by decide) (ite_imp (fun h => ?_) (fun h => ?_) h)
        · refine r_iload_n dX7_readBody_56 rfl ?_
          refine r_aload_n dX7_readBody_57 rfl ?_
          refine r_getR dX7_readBody_58 rfl (qFR_imp (fun v8 h => ?_) h)
          refine r_iload dX7_readBody_61 rfl ?_
          refine r_iald dX7_readBody_63 (qIA_imp (fun v9 h => ?_) h)
          refine r_cI dX7_readBody_64 rfl (invS_eq rfl (by decide) rfl rfl rfl rfl ⟨rfl, Nat.le_of_ble_eq_true rfl⟩) (qCI_imp (fun v11 G10 h => ?_) h)
          refine r_iconst dX7_readBody_67 ?_
          refine r_isub dX7_readBody_68 ?_
          refine r_iadd dX7_readBody_69 ?_
          refine r_istore_n dX7_readBody_70 rfl ?_
          refine r_aload_n dX7_readBody_71 rfl ?_
          refine r_getR dX7_readBody_72 rfl (qFR_imp (fun v12 h => ?_) h)
          refine r_bipush dX7_readBody_75 rfl ?_
          refine r_iload_n dX7_readBody_77 rfl ?_
          refine r_imul dX7_readBody_78 ?_
          refine r_iconst dX7_readBody_79 ?_
          refine r_iadd dX7_readBody_80 ?_
          refine r_iload dX7_readBody_81 rfl ?_
          refine r_iadd dX7_readBody_83 ?_
          refine r_iload_n dX7_readBody_84 rfl ?_
          refine r_isub dX7_readBody_85 ?_
          refine r_aload_n dX7_readBody_86 rfl ?_
          refine r_getR dX7_readBody_87 rfl (qFR_imp (fun v13 h => ?_) h)
          refine r_iload dX7_readBody_90 rfl ?_
          refine r_iald dX7_readBody_92 (qIA_imp (fun v14 h => ?_) h)
          refine r_iast dX7_readBody_93 (qIS_imp (fun G15 h => ?_) h)
          refine r_iinc dX7_readBody_94 rfl rfl ?_
          refine r_goto (tgt := 15) dX7_readBody_97 (by decide) ?_
          exact h
        · refine r_iconst dX7_readBody_51 ?_
          refine r_iload dX7_readBody_52 rfl ?_
          refine r_isub dX7_readBody_54 ?_
          exact r_iret dX7_readBody_55 rfl ⟨rfl, h⟩
theorem dX7_readStep_0 : decode cX7_readStep 0 = .ok (.aload_n 0, 1) := by decide +kernel
theorem dX7_readStep_1 : decode cX7_readStep 1 = .ok (.getfield 7, 3) := by decide +kernel
theorem dX7_readStep_4 : decode cX7_readStep 4 = .ok (.iload_n 1, 1) := by decide +kernel
theorem dX7_readStep_5 : decode cX7_readStep 5 = .ok (.iaload, 1) := by decide +kernel
theorem dX7_readStep_6 : decode cX7_readStep 6 = .ok (.bipush 48, 2) := by decide +kernel
theorem dX7_readStep_8 : decode cX7_readStep 8 = .ok (.isub, 1) := by decide +kernel
theorem dX7_readStep_9 : decode cX7_readStep 9 = .ok (.istore_n 2, 1) := by decide +kernel
theorem dX7_readStep_10 : decode cX7_readStep 10 = .ok (.iload_n 1, 1) := by decide +kernel
theorem dX7_readStep_11 : decode cX7_readStep 11 = .ok (.iconst 1, 1) := by decide +kernel
theorem dX7_readStep_12 : decode cX7_readStep 12 = .ok (.iadd, 1) := by decide +kernel
theorem dX7_readStep_13 : decode cX7_readStep 13 = .ok (.aload_n 0, 1) := by decide +kernel
theorem dX7_readStep_14 : decode cX7_readStep 14 = .ok (.getfield 81, 3) := by decide +kernel
theorem dX7_readStep_17 : decode cX7_readStep 17 = .ok (.if_icmp .ge 17, 3) := by decide +kernel
theorem dX7_readStep_20 : decode cX7_readStep 20 = .ok (.aload_n 0, 1) := by decide +kernel
theorem dX7_readStep_21 : decode cX7_readStep 21 = .ok (.getfield 7, 3) := by decide +kernel
theorem dX7_readStep_24 : decode cX7_readStep 24 = .ok (.iload_n 1, 1) := by decide +kernel
theorem dX7_readStep_25 : decode cX7_readStep 25 = .ok (.iconst 1, 1) := by decide +kernel
theorem dX7_readStep_26 : decode cX7_readStep 26 = .ok (.iadd, 1) := by decide +kernel
theorem dX7_readStep_27 : decode cX7_readStep 27 = .ok (.iaload, 1) := by decide +kernel
theorem dX7_readStep_28 : decode cX7_readStep 28 = .ok (.invokestatic 63, 3) := by decide +kernel
theorem dX7_readStep_31 : decode cX7_readStep 31 = .ok (.goto 5, 3) := by decide +kernel
theorem dX7_readStep_34 : decode cX7_readStep 34 = .ok (.bipush (-9), 2) := by decide +kernel
theorem dX7_readStep_36 : decode cX7_readStep 36 = .ok (.istore_n 3, 1) := by decide +kernel
theorem dX7_readStep_37 : decode cX7_readStep 37 = .ok (.iload_n 3, 1) := by decide +kernel
theorem dX7_readStep_38 : decode cX7_readStep 38 = .ok (.bipush (-9), 2) := by decide +kernel
theorem dX7_readStep_40 : decode cX7_readStep 40 = .ok (.if_icmp .ne 8, 3) := by decide +kernel
theorem dX7_readStep_43 : decode cX7_readStep 43 = .ok (.bipush (-2), 2) := by decide +kernel
theorem dX7_readStep_45 : decode cX7_readStep 45 = .ok (.iload_n 1, 1) := by decide +kernel
theorem dX7_readStep_46 : decode cX7_readStep 46 = .ok (.isub, 1) := by decide +kernel
theorem dX7_readStep_47 : decode cX7_readStep 47 = .ok (.ireturn, 1) := by decide +kernel
theorem dX7_readStep_48 : decode cX7_readStep 48 = .ok (.bipush 124, 2) := by decide +kernel
theorem dX7_readStep_50 : decode cX7_readStep 50 = .ok (.iconst 3, 1) := by decide +kernel
theorem dX7_readStep_51 : decode cX7_readStep 51 = .ok (.iconst 4, 1) := by decide +kernel
theorem dX7_readStep_52 : decode cX7_readStep 52 = .ok (.iload_n 2, 1) := by decide +kernel
theorem dX7_readStep_53 : decode cX7_readStep 53 = .ok (.imul, 1) := by decide +kernel
theorem dX7_readStep_54 : decode cX7_readStep 54 = .ok (.iload_n 3, 1) := by decide +kernel
theorem dX7_readStep_55 : decode cX7_readStep 55 = .ok (.iadd, 1) := by decide +kernel
theorem dX7_readStep_56 : decode cX7_readStep 56 = .ok (.imul, 1) := by decide +kernel
theorem dX7_readStep_57 : decode cX7_readStep 57 = .ok (.iadd, 1) := by decide +kernel
theorem dX7_readStep_58 : decode cX7_readStep 58 = .ok (.istore 4, 2) := by decide +kernel
theorem dX7_readStep_60 : decode cX7_readStep 60 = .ok (.iload_n 1, 1) := by decide +kernel
theorem dX7_readStep_61 : decode cX7_readStep 61 = .ok (.iconst 2, 1) := by decide +kernel
theorem dX7_readStep_62 : decode cX7_readStep 62 = .ok (.iadd, 1) := by decide +kernel
theorem dX7_readStep_63 : decode cX7_readStep 63 = .ok (.istore 5, 2) := by decide +kernel
theorem dX7_readStep_65 : decode cX7_readStep 65 = .ok (.aload_n 0, 1) := by decide +kernel
theorem dX7_readStep_66 : decode cX7_readStep 66 = .ok (.getfield 19, 3) := by decide +kernel
theorem dX7_readStep_69 : decode cX7_readStep 69 = .ok (.iload 4, 2) := by decide +kernel
theorem dX7_readStep_71 : decode cX7_readStep 71 = .ok (.iconst 1, 1) := by decide +kernel
theorem dX7_readStep_72 : decode cX7_readStep 72 = .ok (.iadd, 1) := by decide +kernel
theorem dX7_readStep_73 : decode cX7_readStep 73 = .ok (.iconst 0, 1) := by decide +kernel
theorem dX7_readStep_74 : decode cX7_readStep 74 = .ok (.iastore, 1) := by decide +kernel
theorem dX7_readStep_75 : decode cX7_readStep 75 = .ok (.aload_n 0, 1) := by decide +kernel
theorem dX7_readStep_76 : decode cX7_readStep 76 = .ok (.getfield 19, 3) := by decide +kernel
theorem dX7_readStep_79 : decode cX7_readStep 79 = .ok (.iload 4, 2) := by decide +kernel
theorem dX7_readStep_81 : decode cX7_readStep 81 = .ok (.iconst 2, 1) := by decide +kernel
theorem dX7_readStep_82 : decode cX7_readStep 82 = .ok (.iadd, 1) := by decide +kernel
theorem dX7_readStep_83 : decode cX7_readStep 83 = .ok (.iconst 0, 1) := by decide +kernel
theorem dX7_readStep_84 : decode cX7_readStep 84 = .ok (.iastore, 1) := by decide +kernel
theorem dX7_readStep_85 : decode cX7_readStep 85 = .ok (.iconst 0, 1) := by decide +kernel
theorem dX7_readStep_86 : decode cX7_readStep 86 = .ok (.istore 6, 2) := by decide +kernel
theorem dX7_readStep_88 : decode cX7_readStep 88 = .ok (.iload 6, 2) := by decide +kernel
theorem dX7_readStep_90 : decode cX7_readStep 90 = .ok (.iload_n 3, 1) := by decide +kernel
theorem dX7_readStep_91 : decode cX7_readStep 91 = .ok (.invokestatic 67, 3) := by decide +kernel
theorem dX7_readStep_94 : decode cX7_readStep 94 = .ok (.if_icmp .ge 70, 3) := by decide +kernel
theorem dX7_readStep_97 : decode cX7_readStep 97 = .ok (.iload 5, 2) := by decide +kernel
theorem dX7_readStep_99 : decode cX7_readStep 99 = .ok (.aload_n 0, 1) := by decide +kernel
theorem dX7_readStep_100 : decode cX7_readStep 100 = .ok (.getfield 81, 3) := by decide +kernel
theorem dX7_readStep_103 : decode cX7_readStep 103 = .ok (.if_icmp .ge 16, 3) := by decide +kernel
theorem dX7_readStep_106 : decode cX7_readStep 106 = .ok (.aload_n 0, 1) := by decide +kernel
theorem dX7_readStep_107 : decode cX7_readStep 107 = .ok (.getfield 7, 3) := by decide +kernel
theorem dX7_readStep_110 : decode cX7_readStep 110 = .ok (.iload 5, 2) := by decide +kernel
theorem dX7_readStep_112 : decode cX7_readStep 112 = .ok (.iaload, 1) := by decide +kernel
theorem dX7_readStep_113 : decode cX7_readStep 113 = .ok (.bipush 48, 2) := by decide +kernel
theorem dX7_readStep_115 : decode cX7_readStep 115 = .ok (.isub, 1) := by decide +kernel
theorem dX7_readStep_116 : decode cX7_readStep 116 = .ok (.goto 5, 3) := by decide +kernel
theorem dX7_readStep_119 : decode cX7_readStep 119 = .ok (.bipush (-9), 2) := by decide +kernel
theorem dX7_readStep_121 : decode cX7_readStep 121 = .ok (.istore 7, 2) := by decide +kernel
theorem dX7_readStep_123 : decode cX7_readStep 123 = .ok (.iload 7, 2) := by decide +kernel
theorem dX7_readStep_125 : decode cX7_readStep 125 = .ok (.i2l, 1) := by decide +kernel
theorem dX7_readStep_126 : decode cX7_readStep 126 = .ok (.lconst 0, 1) := by decide +kernel
theorem dX7_readStep_127 : decode cX7_readStep 127 = .ok (.ldc2_w 89, 3) := by decide +kernel
theorem dX7_readStep_130 : decode cX7_readStep 130 = .ok (.invokestatic 55, 3) := by decide +kernel
theorem dX7_readStep_133 : decode cX7_readStep 133 = .ok (.ifCond .ne 8, 3) := by decide +kernel
theorem dX7_readStep_136 : decode cX7_readStep 136 = .ok (.iconst (-1), 1) := by decide +kernel
theorem dX7_readStep_137 : decode cX7_readStep 137 = .ok (.iload 5, 2) := by decide +kernel
theorem dX7_readStep_139 : decode cX7_readStep 139 = .ok (.isub, 1) := by decide +kernel
theorem dX7_readStep_140 : decode cX7_readStep 140 = .ok (.ireturn, 1) := by decide +kernel
theorem dX7_readStep_141 : decode cX7_readStep 141 = .ok (.aload_n 0, 1) := by decide +kernel
theorem dX7_readStep_142 : decode cX7_readStep 142 = .ok (.getfield 19, 3) := by decide +kernel
theorem dX7_readStep_145 : decode cX7_readStep 145 = .ok (.iload 4, 2) := by decide +kernel
theorem dX7_readStep_147 : decode cX7_readStep 147 = .ok (.iconst 1, 1) := by decide +kernel
theorem dX7_readStep_148 : decode cX7_readStep 148 = .ok (.iadd, 1) := by decide +kernel
theorem dX7_readStep_149 : decode cX7_readStep 149 = .ok (.iload 6, 2) := by decide +kernel
theorem dX7_readStep_151 : decode cX7_readStep 151 = .ok (.iadd, 1) := by decide +kernel
theorem dX7_readStep_152 : decode cX7_readStep 152 = .ok (.iload 7, 2) := by decide +kernel
theorem dX7_readStep_154 : decode cX7_readStep 154 = .ok (.iastore, 1) := by decide +kernel
theorem dX7_readStep_155 : decode cX7_readStep 155 = .ok (.iinc 5 1, 3) := by decide +kernel
theorem dX7_readStep_158 : decode cX7_readStep 158 = .ok (.iinc 6 1, 3) := by decide +kernel
theorem dX7_readStep_161 : decode cX7_readStep 161 = .ok (.goto (-73), 3) := by decide +kernel
theorem dX7_readStep_164 : decode cX7_readStep 164 = .ok (.aload_n 0, 1) := by decide +kernel
theorem dX7_readStep_165 : decode cX7_readStep 165 = .ok (.getfield 19, 3) := by decide +kernel
theorem dX7_readStep_168 : decode cX7_readStep 168 = .ok (.iload 4, 2) := by decide +kernel
theorem dX7_readStep_170 : decode cX7_readStep 170 = .ok (.iconst 1, 1) := by decide +kernel
theorem dX7_readStep_171 : decode cX7_readStep 171 = .ok (.iastore, 1) := by decide +kernel
theorem dX7_readStep_172 : decode cX7_readStep 172 = .ok (.iload 5, 2) := by decide +kernel
theorem dX7_readStep_174 : decode cX7_readStep 174 = .ok (.ireturn, 1) := by decide +kernel
abbrev x_X7_readStep : Cx := (7, cX7_readStep, false, some (.int))
set_option maxRecDepth 10000 in
theorem g_X7_readStep_0 {E : Ev} {d : Nat} {G : Hp} {Q : Po} {x0 : Nat} {x1 : Int32} (h : (qFR E G x0 7 0 fun v1 => (qIA 7 E G v1 x1 fun v2 => (qFI E G x0 7 1 fun v3 => (if v3 ≤ (x1 + (iv 1)) then (if ¬ (iv (-9)) = (iv (-9)) then (qFR E G x0 7 4 fun v4 => (qIS E G v4 (((iv 124) + ((iv 3) * (((iv 4) * (v2 - (iv 48))) + (iv (-9))))) + (iv 1)) (iv 0) fun G5 => (qFR E G5 x0 7 4 fun v6 => (qIS E G5 v6 (((iv 124) + ((iv 3) * (((iv 4) * (v2 - (iv 48))) + (iv (-9))))) + (iv 2)) (iv 0) fun G7 => Xr E d x_X7_readStep 88 [some (.ref x0), some (.int x1), some (.int ((v2 - (iv 48)))), some (.int ((iv (-9)))), some (.int (((iv 124) + ((iv 3) * (((iv 4) * (v2 - (iv 48))) + (iv (-9))))))), some (.int ((x1 + (iv 2)))), some (.int ((iv 0))), none] [] G7 Q)))) else Q (some (.int ((iv (-2)) - x1))) G) else (qFR E G x0 7 0 fun v8 => (qIA 7 E G v8 (x1 + (iv 1)) fun v9 => (qCI E d i_X7_terminal [.int v9] G fun v11 G10 => (if ¬ v11 = (iv (-9)) then (qFR E G10 x0 7 4 fun v12 => (qIS E G10 v12 (((iv 124) + ((iv 3) * (((iv 4) * (v2 - (iv 48))) + v11))) + (iv 1)) (iv 0) fun G13 => (qFR E G13 x0 7 4 fun v14 => (qIS E G13 v14 (((iv 124) + ((iv 3) * (((iv 4) * (v2 - (iv 48))) + v11))) + (iv 2)) (iv 0) fun G15 => Xr E d x_X7_readStep 88 [some (.ref x0), some (.int x1), some (.int ((v2 - (iv 48)))), some (.int v11), some (.int (((iv 124) + ((iv 3) * (((iv 4) * (v2 - (iv 48))) + v11))))), some (.int ((x1 + (iv 2)))), some (.int ((iv 0))), none] [] G15 Q)))) else Q (some (.int ((iv (-2)) - x1))) G10))))))))) : Xr E d x_X7_readStep 0 [some (.ref x0), some (.int x1), none, none, none, none, none, none] [] G Q := by
  refine r_aload_n dX7_readStep_0 rfl ?_
  refine r_getR dX7_readStep_1 rfl (qFR_imp (fun v1 h => ?_) h)
  refine r_iload_n dX7_readStep_4 rfl ?_
  refine r_iald dX7_readStep_5 (qIA_imp (fun v2 h => ?_) h)
  refine r_bipush dX7_readStep_6 rfl ?_
  refine r_isub dX7_readStep_8 ?_
  refine r_istore_n dX7_readStep_9 rfl ?_
  refine r_iload_n dX7_readStep_10 rfl ?_
  refine r_iconst dX7_readStep_11 ?_
  refine r_iadd dX7_readStep_12 ?_
  refine r_aload_n dX7_readStep_13 rfl ?_
  refine r_getI dX7_readStep_14 rfl (qFI_imp (fun v3 h => ?_) h)
  refine r_cge (tgt := 34) dX7_readStep_17 (by decide) (ite_imp (fun h => ?_) (fun h => ?_) h)
  · refine r_bipush dX7_readStep_34 rfl ?_
    refine r_istore_n dX7_readStep_36 rfl ?_
    refine r_iload_n dX7_readStep_37 rfl ?_
    refine r_bipush dX7_readStep_38 rfl ?_
    refine r_cne (tgt := 48) dX7_readStep_40 (by decide) (ite_imp (fun h => ?_) (fun h => ?_) h)
    · refine r_bipush dX7_readStep_48 rfl ?_
      refine r_iconst dX7_readStep_50 ?_
      refine r_iconst dX7_readStep_51 ?_
      refine r_iload_n dX7_readStep_52 rfl ?_
      refine r_imul dX7_readStep_53 ?_
      refine r_iload_n dX7_readStep_54 rfl ?_
      refine r_iadd dX7_readStep_55 ?_
      refine r_imul dX7_readStep_56 ?_
      refine r_iadd dX7_readStep_57 ?_
      refine r_istore dX7_readStep_58 rfl ?_
      refine r_iload_n dX7_readStep_60 rfl ?_
      refine r_iconst dX7_readStep_61 ?_
      refine r_iadd dX7_readStep_62 ?_
      refine r_istore dX7_readStep_63 rfl ?_
      refine r_aload_n dX7_readStep_65 rfl ?_
      refine r_getR dX7_readStep_66 rfl (qFR_imp (fun v4 h => ?_) h)
      refine r_iload dX7_readStep_69 rfl ?_
      refine r_iconst dX7_readStep_71 ?_
      refine r_iadd dX7_readStep_72 ?_
      refine r_iconst dX7_readStep_73 ?_
      refine r_iast dX7_readStep_74 (qIS_imp (fun G5 h => ?_) h)
      refine r_aload_n dX7_readStep_75 rfl ?_
      refine r_getR dX7_readStep_76 rfl (qFR_imp (fun v6 h => ?_) h)
      refine r_iload dX7_readStep_79 rfl ?_
      refine r_iconst dX7_readStep_81 ?_
      refine r_iadd dX7_readStep_82 ?_
      refine r_iconst dX7_readStep_83 ?_
      refine r_iast dX7_readStep_84 (qIS_imp (fun G7 h => ?_) h)
      refine r_iconst dX7_readStep_85 ?_
      refine r_istore dX7_readStep_86 rfl ?_
      exact h
    · refine r_bipush dX7_readStep_43 rfl ?_
      refine r_iload_n dX7_readStep_45 rfl ?_
      refine r_isub dX7_readStep_46 ?_
      exact r_iret dX7_readStep_47 rfl ⟨rfl, h⟩
  · refine r_aload_n dX7_readStep_20 rfl ?_
    refine r_getR dX7_readStep_21 rfl (qFR_imp (fun v8 h => ?_) h)
    refine r_iload_n dX7_readStep_24 rfl ?_
    refine r_iconst dX7_readStep_25 ?_
    refine r_iadd dX7_readStep_26 ?_
    refine r_iald dX7_readStep_27 (qIA_imp (fun v9 h => ?_) h)
    refine r_cI dX7_readStep_28 rfl (invS_eq rfl (by decide) rfl rfl rfl rfl ⟨rfl, Nat.le_of_ble_eq_true rfl⟩) (qCI_imp (fun v11 G10 h => ?_) h)
    refine r_goto (tgt := 36) dX7_readStep_31 (by decide) ?_
    refine r_istore_n dX7_readStep_36 rfl ?_
    refine r_iload_n dX7_readStep_37 rfl ?_
    refine r_bipush dX7_readStep_38 rfl ?_
    refine r_cne (tgt := 48) dX7_readStep_40 (by decide) (ite_imp (fun h => ?_) (fun h => ?_) h)
    · refine r_bipush dX7_readStep_48 rfl ?_
      refine r_iconst dX7_readStep_50 ?_
      refine r_iconst dX7_readStep_51 ?_
      refine r_iload_n dX7_readStep_52 rfl ?_
      refine r_imul dX7_readStep_53 ?_
      refine r_iload_n dX7_readStep_54 rfl ?_
      refine r_iadd dX7_readStep_55 ?_
      refine r_imul dX7_readStep_56 ?_
      refine r_iadd dX7_readStep_57 ?_
      refine r_istore dX7_readStep_58 rfl ?_
      refine r_iload_n dX7_readStep_60 rfl ?_
      refine r_iconst dX7_readStep_61 ?_
      refine r_iadd dX7_readStep_62 ?_
      refine r_istore dX7_readStep_63 rfl ?_
      refine r_aload_n dX7_readStep_65 rfl ?_
      refine r_getR dX7_readStep_66 rfl (qFR_imp (fun v12 h => ?_) h)
      refine r_iload dX7_readStep_69 rfl ?_
      refine r_iconst dX7_readStep_71 ?_
      refine r_iadd dX7_readStep_72 ?_
      refine r_iconst dX7_readStep_73 ?_
      refine r_iast dX7_readStep_74 (qIS_imp (fun G13 h => ?_) h)
      refine r_aload_n dX7_readStep_75 rfl ?_
      refine r_getR dX7_readStep_76 rfl (qFR_imp (fun v14 h => ?_) h)
      refine r_iload dX7_readStep_79 rfl ?_
      refine r_iconst dX7_readStep_81 ?_
      refine r_iadd dX7_readStep_82 ?_
      refine r_iconst dX7_readStep_83 ?_
      refine r_iast dX7_readStep_84 (qIS_imp (fun G15 h => ?_) h)
      refine r_iconst dX7_readStep_85 ?_
      refine r_istore dX7_readStep_86 rfl ?_
      exact h
    · refine r_bipush dX7_readStep_43 rfl ?_
      refine r_iload_n dX7_readStep_45 rfl ?_
      refine r_isub dX7_readStep_46 ?_
      exact r_iret dX7_readStep_47 rfl ⟨rfl, h⟩
theorem e_X7_readStep {E : Ev} {d : Nat} {G : Hp} {Q : Po} {x0 : Nat} {x1 : Int32} (h : (qFR E G x0 7 0 fun v1 => (qIA 7 E G v1 x1 fun v2 => (qFI E G x0 7 1 fun v3 => (if v3 ≤ (x1 + (iv 1)) then (if ¬ (iv (-9)) = (iv (-9)) then (qFR E G x0 7 4 fun v4 => (qIS E G v4 (((iv 124) + ((iv 3) * (((iv 4) * (v2 - (iv 48))) + (iv (-9))))) + (iv 1)) (iv 0) fun G5 => (qFR E G5 x0 7 4 fun v6 => (qIS E G5 v6 (((iv 124) + ((iv 3) * (((iv 4) * (v2 - (iv 48))) + (iv (-9))))) + (iv 2)) (iv 0) fun G7 => Xr E d x_X7_readStep 88 [some (.ref x0), some (.int x1), some (.int ((v2 - (iv 48)))), some (.int ((iv (-9)))), some (.int (((iv 124) + ((iv 3) * (((iv 4) * (v2 - (iv 48))) + (iv (-9))))))), some (.int ((x1 + (iv 2)))), some (.int ((iv 0))), none] [] G7 Q)))) else Q (some (.int ((iv (-2)) - x1))) G) else (qFR E G x0 7 0 fun v8 => (qIA 7 E G v8 (x1 + (iv 1)) fun v9 => (qCI E d i_X7_terminal [.int v9] G fun v11 G10 => (if ¬ v11 = (iv (-9)) then (qFR E G10 x0 7 4 fun v12 => (qIS E G10 v12 (((iv 124) + ((iv 3) * (((iv 4) * (v2 - (iv 48))) + v11))) + (iv 1)) (iv 0) fun G13 => (qFR E G13 x0 7 4 fun v14 => (qIS E G13 v14 (((iv 124) + ((iv 3) * (((iv 4) * (v2 - (iv 48))) + v11))) + (iv 2)) (iv 0) fun G15 => Xr E d x_X7_readStep 88 [some (.ref x0), some (.int x1), some (.int ((v2 - (iv 48)))), some (.int v11), some (.int (((iv 124) + ((iv 3) * (((iv 4) * (v2 - (iv 48))) + v11))))), some (.int ((x1 + (iv 2)))), some (.int ((iv 0))), none] [] G15 Q)))) else Q (some (.int ((iv (-2)) - x1))) G10))))))))) : runs E (d + 1) i_X7_readStep [.ref x0, .int x1] G Q := by
  rw [runs_eq (m := (yX7_readStep, cX7_readStep, 8, some (.int), 1, 7, false, false)) rfl (Nat.le_of_ble_eq_true rfl)]
  exact g_X7_readStep_0 h
set_option maxRecDepth 10000 in
theorem g_X7_readStep_88 {E : Ev} {d : Nat} {G : Hp} {Q : Po} {x0 : Nat} {x1 : Int32} {x2 : Int32} {x3 : Int32} {x4 : Int32} {x5 : Int32} {x6 : Int32} {l7 : Option Value} (h : (qCI E d i_X7_places [.int x3] G fun v2 G1 => (if v2 ≤ x6 then (qFR E G1 x0 7 4 fun v3 => (qIS E G1 v3 x4 (iv 1) fun G4 => Q (some (.int x5)) G4)) else (qFI E G1 x0 7 1 fun v5 => (if v5 ≤ x5 then (qCI E d i_X7_in [.long ((((iv (-9))).toInt64)), .long 0, .long 2] G1 fun v7 G6 => (if ¬ v7 = 0 then (qFR E G6 x0 7 4 fun v8 => (qIS E G6 v8 ((x4 + (iv 1)) + x6) (iv (-9)) fun G9 => Xr E d x_X7_readStep 88 [some (.ref x0), some (.int x1), some (.int x2), some (.int x3), some (.int x4), some (.int ((x5 + (iv 1)))), some (.int ((x6 + (iv 1)))), some (.int ((iv (-9))))] [] G9 Q)) else Q (some (.int ((iv (-1)) - x5))) G6)) else (qFR E G1 x0 7 0 fun v10 => (qIA 7 E G1 v10 x5 fun v11 => (qCI E d i_X7_in [.long ((((v11 - (iv 48))).toInt64)), .long 0, .long 2] G1 fun v13 G12 => (if ¬ v13 = 0 then (qFR E G12 x0 7 4 fun v14 => (qIS E G12 v14 ((x4 + (iv 1)) + x6) (v11 - (iv 48)) fun G15 => Xr E d x_X7_readStep 88 [some (.ref x0), some (.int x1), some (.int x2), some (.int x3), some (.int x4), some (.int ((x5 + (iv 1)))), some (.int ((x6 + (iv 1)))), some (.int ((v11 - (iv 48))))] [] G15 Q)) else Q (some (.int ((iv (-1)) - x5))) G12))))))))) : Xr E d x_X7_readStep 88 [some (.ref x0), some (.int x1), some (.int x2), some (.int x3), some (.int x4), some (.int x5), some (.int x6), l7] [] G Q := by
  refine r_iload dX7_readStep_88 rfl ?_
  refine r_iload_n dX7_readStep_90 rfl ?_
  refine r_cI dX7_readStep_91 rfl (invS_eq rfl (by decide) rfl rfl rfl rfl ⟨rfl, Nat.le_of_ble_eq_true rfl⟩) (qCI_imp (fun v2 G1 h => ?_) h)
  refine r_cge (tgt := 164) dX7_readStep_94 (by decide) (ite_imp (fun h => ?_) (fun h => ?_) h)
  · refine r_aload_n dX7_readStep_164 rfl ?_
    refine r_getR dX7_readStep_165 rfl (qFR_imp (fun v3 h => ?_) h)
    refine r_iload dX7_readStep_168 rfl ?_
    refine r_iconst dX7_readStep_170 ?_
    refine r_iast dX7_readStep_171 (qIS_imp (fun G4 h => ?_) h)
    refine r_iload dX7_readStep_172 rfl ?_
    exact r_iret dX7_readStep_174 rfl ⟨rfl, h⟩
  · refine r_iload dX7_readStep_97 rfl ?_
    refine r_aload_n dX7_readStep_99 rfl ?_
    refine r_getI dX7_readStep_100 rfl (qFI_imp (fun v5 h => ?_) h)
    refine r_cge (tgt := 119) dX7_readStep_103 (by decide) (ite_imp (fun h => ?_) (fun h => ?_) h)
    · refine r_bipush dX7_readStep_119 rfl ?_
      refine r_istore dX7_readStep_121 rfl ?_
      refine r_iload dX7_readStep_123 rfl ?_
      refine r_i2l dX7_readStep_125 ?_
      refine r_lconst (v := 0) dX7_readStep_126 rfl ?_
      refine r_ldc2 dX7_readStep_127 rfl ?_
      refine r_cI dX7_readStep_130 rfl (invS_eq rfl (by decide) rfl rfl rfl rfl ⟨rfl, Nat.le_of_ble_eq_true rfl⟩) (qCI_imp (fun v7 G6 h => ?_) h)
      refine r_ifne (tgt := 141) dX7_readStep_133 (by decide) (ite_imp (fun h => ?_) (fun h => ?_) h)
      · refine r_aload_n dX7_readStep_141 rfl ?_
        refine r_getR dX7_readStep_142 rfl (qFR_imp (fun v8 h => ?_) h)
        refine r_iload dX7_readStep_145 rfl ?_
        refine r_iconst dX7_readStep_147 ?_
        refine r_iadd dX7_readStep_148 ?_
        refine r_iload dX7_readStep_149 rfl ?_
        refine r_iadd dX7_readStep_151 ?_
        refine r_iload dX7_readStep_152 rfl ?_
        refine r_iast dX7_readStep_154 (qIS_imp (fun G9 h => ?_) h)
        refine r_iinc dX7_readStep_155 rfl rfl ?_
        refine r_iinc dX7_readStep_158 rfl rfl ?_
        refine r_goto (tgt := 88) dX7_readStep_161 (by decide) ?_
        exact h
      · refine r_iconst dX7_readStep_136 ?_
        refine r_iload dX7_readStep_137 rfl ?_
        refine r_isub dX7_readStep_139 ?_
        exact r_iret dX7_readStep_140 rfl ⟨rfl, h⟩
    · refine r_aload_n dX7_readStep_106 rfl ?_
      refine r_getR dX7_readStep_107 rfl (qFR_imp (fun v10 h => ?_) h)
      refine r_iload dX7_readStep_110 rfl ?_
      refine r_iald dX7_readStep_112 (qIA_imp (fun v11 h => ?_) h)
      refine r_bipush dX7_readStep_113 rfl ?_
      refine r_isub dX7_readStep_115 ?_
      refine r_goto (tgt := 121) dX7_readStep_116 (by decide) ?_
      refine r_istore dX7_readStep_121 rfl ?_
      refine r_iload dX7_readStep_123 rfl ?_
      refine r_i2l dX7_readStep_125 ?_
      refine r_lconst (v := 0) dX7_readStep_126 rfl ?_
      refine r_ldc2 dX7_readStep_127 rfl ?_
      refine r_cI dX7_readStep_130 rfl (invS_eq rfl (by decide) rfl rfl rfl rfl ⟨rfl, Nat.le_of_ble_eq_true rfl⟩) (qCI_imp (fun v13 G12 h => ?_) h)
      refine r_ifne (tgt := 141) dX7_readStep_133 (by decide) (ite_imp (fun h => ?_) (fun h => ?_) h)
      · refine r_aload_n dX7_readStep_141 rfl ?_
        refine r_getR dX7_readStep_142 rfl (qFR_imp (fun v14 h => ?_) h)
        refine r_iload dX7_readStep_145 rfl ?_
        refine r_iconst dX7_readStep_147 ?_
        refine r_iadd dX7_readStep_148 ?_
        refine r_iload dX7_readStep_149 rfl ?_
        refine r_iadd dX7_readStep_151 ?_
        refine r_iload dX7_readStep_152 rfl ?_
        refine r_iast dX7_readStep_154 (qIS_imp (fun G15 h => ?_) h)
        refine r_iinc dX7_readStep_155 rfl rfl ?_
        refine r_iinc dX7_readStep_158 rfl rfl ?_
        refine r_goto (tgt := 88) dX7_readStep_161 (by decide) ?_
        exact h
      · refine r_iconst dX7_readStep_136 ?_
        refine r_iload dX7_readStep_137 rfl ?_
        refine r_isub dX7_readStep_139 ?_
        exact r_iret dX7_readStep_140 rfl ⟨rfl, h⟩
theorem dX7_readItem_0 : decode cX7_readItem 0 = .ok (.aload_n 0, 1) := by decide +kernel
theorem dX7_readItem_1 : decode cX7_readItem 1 = .ok (.getfield 7, 3) := by decide +kernel
theorem dX7_readItem_4 : decode cX7_readItem 4 = .ok (.iload_n 1, 1) := by decide +kernel
theorem dX7_readItem_5 : decode cX7_readItem 5 = .ok (.iaload, 1) := by decide +kernel
theorem dX7_readItem_6 : decode cX7_readItem 6 = .ok (.invokestatic 70, 3) := by decide +kernel
theorem dX7_readItem_9 : decode cX7_readItem 9 = .ok (.istore_n 2, 1) := by decide +kernel
theorem dX7_readItem_10 : decode cX7_readItem 10 = .ok (.iload_n 2, 1) := by decide +kernel
theorem dX7_readItem_11 : decode cX7_readItem 11 = .ok (.bipush (-9), 2) := by decide +kernel
theorem dX7_readItem_13 : decode cX7_readItem 13 = .ok (.if_icmp .eq 42, 3) := by decide +kernel
theorem dX7_readItem_16 : decode cX7_readItem 16 = .ok (.iload_n 1, 1) := by decide +kernel
theorem dX7_readItem_17 : decode cX7_readItem 17 = .ok (.iconst 1, 1) := by decide +kernel
theorem dX7_readItem_18 : decode cX7_readItem 18 = .ok (.iadd, 1) := by decide +kernel
theorem dX7_readItem_19 : decode cX7_readItem 19 = .ok (.aload_n 0, 1) := by decide +kernel
theorem dX7_readItem_20 : decode cX7_readItem 20 = .ok (.getfield 81, 3) := by decide +kernel
theorem dX7_readItem_23 : decode cX7_readItem 23 = .ok (.if_icmp .ge 27, 3) := by decide +kernel
theorem dX7_readItem_26 : decode cX7_readItem 26 = .ok (.aload_n 0, 1) := by decide +kernel
theorem dX7_readItem_27 : decode cX7_readItem 27 = .ok (.getfield 7, 3) := by decide +kernel
theorem dX7_readItem_30 : decode cX7_readItem 30 = .ok (.iload_n 1, 1) := by decide +kernel
theorem dX7_readItem_31 : decode cX7_readItem 31 = .ok (.iconst 1, 1) := by decide +kernel
theorem dX7_readItem_32 : decode cX7_readItem 32 = .ok (.iadd, 1) := by decide +kernel
theorem dX7_readItem_33 : decode cX7_readItem 33 = .ok (.iaload, 1) := by decide +kernel
theorem dX7_readItem_34 : decode cX7_readItem 34 = .ok (.bipush 61, 2) := by decide +kernel
theorem dX7_readItem_36 : decode cX7_readItem 36 = .ok (.if_icmp .ne 14, 3) := by decide +kernel
theorem dX7_readItem_39 : decode cX7_readItem 39 = .ok (.aload_n 0, 1) := by decide +kernel
theorem dX7_readItem_40 : decode cX7_readItem 40 = .ok (.iload_n 2, 1) := by decide +kernel
theorem dX7_readItem_41 : decode cX7_readItem 41 = .ok (.iload_n 1, 1) := by decide +kernel
theorem dX7_readItem_42 : decode cX7_readItem 42 = .ok (.iconst 2, 1) := by decide +kernel
theorem dX7_readItem_43 : decode cX7_readItem 43 = .ok (.iadd, 1) := by decide +kernel
theorem dX7_readItem_44 : decode cX7_readItem 44 = .ok (.invokevirtual 91, 3) := by decide +kernel
theorem dX7_readItem_47 : decode cX7_readItem 47 = .ok (.goto 7, 3) := by decide +kernel
theorem dX7_readItem_50 : decode cX7_readItem 50 = .ok (.bipush (-2), 2) := by decide +kernel
theorem dX7_readItem_52 : decode cX7_readItem 52 = .ok (.iload_n 1, 1) := by decide +kernel
theorem dX7_readItem_53 : decode cX7_readItem 53 = .ok (.isub, 1) := by decide +kernel
theorem dX7_readItem_54 : decode cX7_readItem 54 = .ok (.ireturn, 1) := by decide +kernel
theorem dX7_readItem_55 : decode cX7_readItem 55 = .ok (.aload_n 0, 1) := by decide +kernel
theorem dX7_readItem_56 : decode cX7_readItem 56 = .ok (.getfield 7, 3) := by decide +kernel
theorem dX7_readItem_59 : decode cX7_readItem 59 = .ok (.iload_n 1, 1) := by decide +kernel
theorem dX7_readItem_60 : decode cX7_readItem 60 = .ok (.iaload, 1) := by decide +kernel
theorem dX7_readItem_61 : decode cX7_readItem 61 = .ok (.i2l, 1) := by decide +kernel
theorem dX7_readItem_62 : decode cX7_readItem 62 = .ok (.ldc2_w 95, 3) := by decide +kernel
theorem dX7_readItem_65 : decode cX7_readItem 65 = .ok (.ldc2_w 97, 3) := by decide +kernel
theorem dX7_readItem_68 : decode cX7_readItem 68 = .ok (.invokestatic 55, 3) := by decide +kernel
theorem dX7_readItem_71 : decode cX7_readItem 71 = .ok (.ifCond .eq 11, 3) := by decide +kernel
theorem dX7_readItem_74 : decode cX7_readItem 74 = .ok (.aload_n 0, 1) := by decide +kernel
theorem dX7_readItem_75 : decode cX7_readItem 75 = .ok (.iload_n 1, 1) := by decide +kernel
theorem dX7_readItem_76 : decode cX7_readItem 76 = .ok (.invokevirtual 99, 3) := by decide +kernel
theorem dX7_readItem_79 : decode cX7_readItem 79 = .ok (.goto 6, 3) := by decide +kernel
theorem dX7_readItem_82 : decode cX7_readItem 82 = .ok (.iconst (-1), 1) := by decide +kernel
theorem dX7_readItem_83 : decode cX7_readItem 83 = .ok (.iload_n 1, 1) := by decide +kernel
theorem dX7_readItem_84 : decode cX7_readItem 84 = .ok (.isub, 1) := by decide +kernel
theorem dX7_readItem_85 : decode cX7_readItem 85 = .ok (.ireturn, 1) := by decide +kernel
abbrev x_X7_readItem : Cx := (7, cX7_readItem, false, some (.int))
set_option maxRecDepth 10000 in
theorem g_X7_readItem_0 {E : Ev} {d : Nat} {G : Hp} {Q : Po} {x0 : Nat} {x1 : Int32} (h : (qFR E G x0 7 0 fun v1 => (qIA 7 E G v1 x1 fun v2 => (qCI E d i_X7_nonterminal [.int v2] G fun v4 G3 => (if v4 = (iv (-9)) then (qFR E G3 x0 7 0 fun v5 => (qIA 7 E G3 v5 x1 fun v6 => (qCI E d i_X7_in [.long (((v6).toInt64)), .long 48, .long 50] G3 fun v8 G7 => (if v8 = 0 then Q (some (.int ((iv (-1)) - x1))) G7 else (rcv E G7 x0 7 = true ∧ (qCI E d i_X7_readStep [.ref x0, .int x1] G7 fun v10 G9 => Q (some (.int v10)) G9)))))) else (qFI E G3 x0 7 1 fun v11 => (if v11 ≤ (x1 + (iv 1)) then Q (some (.int ((iv (-2)) - x1))) G3 else (qFR E G3 x0 7 0 fun v12 => (qIA 7 E G3 v12 (x1 + (iv 1)) fun v13 => (if ¬ v13 = (iv 61) then Q (some (.int ((iv (-2)) - x1))) G3 else (rcv E G3 x0 7 = true ∧ (qCI E d i_X7_readBody [.ref x0, .int v4, .int ((x1 + (iv 2)))] G3 fun v15 G14 => Q (some (.int v15)) G14)))))))))))) : Xr E d x_X7_readItem 0 [some (.ref x0), some (.int x1), none] [] G Q := by
  refine r_aload_n dX7_readItem_0 rfl ?_
  refine r_getR dX7_readItem_1 rfl (qFR_imp (fun v1 h => ?_) h)
  refine r_iload_n dX7_readItem_4 rfl ?_
  refine r_iald dX7_readItem_5 (qIA_imp (fun v2 h => ?_) h)
  refine r_cI dX7_readItem_6 rfl (invS_eq rfl (by decide) rfl rfl rfl rfl ⟨rfl, Nat.le_of_ble_eq_true rfl⟩) (qCI_imp (fun v4 G3 h => ?_) h)
  refine r_istore_n dX7_readItem_9 rfl ?_
  refine r_iload_n dX7_readItem_10 rfl ?_
  refine r_bipush dX7_readItem_11 rfl ?_
  refine r_ceq (tgt := 55) dX7_readItem_13 (by decide) (ite_imp (fun h => ?_) (fun h => ?_) h)
  · refine r_aload_n dX7_readItem_55 rfl ?_
    refine r_getR dX7_readItem_56 rfl (qFR_imp (fun v5 h => ?_) h)
    refine r_iload_n dX7_readItem_59 rfl ?_
    refine r_iald dX7_readItem_60 (qIA_imp (fun v6 h => ?_) h)
    refine r_i2l dX7_readItem_61 ?_
    refine r_ldc2 dX7_readItem_62 rfl ?_
    refine r_ldc2 dX7_readItem_65 rfl ?_
    refine r_cI dX7_readItem_68 rfl (invS_eq rfl (by decide) rfl rfl rfl rfl ⟨rfl, Nat.le_of_ble_eq_true rfl⟩) (qCI_imp (fun v8 G7 h => ?_) h)
    refine r_ifeq (tgt := 82) dX7_readItem_71 (by decide) (ite_imp (fun h => ?_) (fun h => ?_) h)
    · refine r_iconst dX7_readItem_82 ?_
      refine r_iload_n dX7_readItem_83 rfl ?_
      refine r_isub dX7_readItem_84 ?_
      exact r_iret dX7_readItem_85 rfl ⟨rfl, h⟩
    · refine r_aload_n dX7_readItem_74 rfl ?_
      refine r_iload_n dX7_readItem_75 rfl ?_
      refine r_cI dX7_readItem_76 rfl (invV_eq rfl rfl rfl rfl rfl rfl ⟨rfl, Nat.le_of_ble_eq_true rfl⟩ h.1) (qCI_imp (fun v10 G9 h => ?_) h.2)
      refine r_goto (tgt := 85) dX7_readItem_79 (by decide) ?_
      exact r_iret dX7_readItem_85 rfl ⟨rfl, h⟩
  · refine r_iload_n dX7_readItem_16 rfl ?_
    refine r_iconst dX7_readItem_17 ?_
    refine r_iadd dX7_readItem_18 ?_
    refine r_aload_n dX7_readItem_19 rfl ?_
    refine r_getI dX7_readItem_20 rfl (qFI_imp (fun v11 h => ?_) h)
    refine r_cge (tgt := 50) dX7_readItem_23 (by decide) (ite_imp (fun h => ?_) (fun h => ?_) h)
    · refine r_bipush dX7_readItem_50 rfl ?_
      refine r_iload_n dX7_readItem_52 rfl ?_
      refine r_isub dX7_readItem_53 ?_
      exact r_iret dX7_readItem_54 rfl ⟨rfl, h⟩
    · refine r_aload_n dX7_readItem_26 rfl ?_
      refine r_getR dX7_readItem_27 rfl (qFR_imp (fun v12 h => ?_) h)
      refine r_iload_n dX7_readItem_30 rfl ?_
      refine r_iconst dX7_readItem_31 ?_
      refine r_iadd dX7_readItem_32 ?_
      refine r_iald dX7_readItem_33 (qIA_imp (fun v13 h => ?_) h)
      refine r_bipush dX7_readItem_34 rfl ?_
      refine r_cne (tgt := 50) dX7_readItem_36 (by decide) (ite_imp (fun h => ?_) (fun h => ?_) h)
      · refine r_bipush dX7_readItem_50 rfl ?_
        refine r_iload_n dX7_readItem_52 rfl ?_
        refine r_isub dX7_readItem_53 ?_
        exact r_iret dX7_readItem_54 rfl ⟨rfl, h⟩
      · refine r_aload_n dX7_readItem_39 rfl ?_
        refine r_iload_n dX7_readItem_40 rfl ?_
        refine r_iload_n dX7_readItem_41 rfl ?_
        refine r_iconst dX7_readItem_42 ?_
        refine r_iadd dX7_readItem_43 ?_
        refine r_cI dX7_readItem_44 rfl (invV_eq rfl rfl rfl rfl rfl rfl ⟨rfl, Nat.le_of_ble_eq_true rfl⟩ h.1) (qCI_imp (fun v15 G14 h => ?_) h.2)
        refine r_goto (tgt := 54) dX7_readItem_47 (by decide) ?_
        exact r_iret dX7_readItem_54 rfl ⟨rfl, h⟩
theorem e_X7_readItem {E : Ev} {d : Nat} {G : Hp} {Q : Po} {x0 : Nat} {x1 : Int32} (h : (qFR E G x0 7 0 fun v1 => (qIA 7 E G v1 x1 fun v2 => (qCI E d i_X7_nonterminal [.int v2] G fun v4 G3 => (if v4 = (iv (-9)) then (qFR E G3 x0 7 0 fun v5 => (qIA 7 E G3 v5 x1 fun v6 => (qCI E d i_X7_in [.long (((v6).toInt64)), .long 48, .long 50] G3 fun v8 G7 => (if v8 = 0 then Q (some (.int ((iv (-1)) - x1))) G7 else (rcv E G7 x0 7 = true ∧ (qCI E d i_X7_readStep [.ref x0, .int x1] G7 fun v10 G9 => Q (some (.int v10)) G9)))))) else (qFI E G3 x0 7 1 fun v11 => (if v11 ≤ (x1 + (iv 1)) then Q (some (.int ((iv (-2)) - x1))) G3 else (qFR E G3 x0 7 0 fun v12 => (qIA 7 E G3 v12 (x1 + (iv 1)) fun v13 => (if ¬ v13 = (iv 61) then Q (some (.int ((iv (-2)) - x1))) G3 else (rcv E G3 x0 7 = true ∧ (qCI E d i_X7_readBody [.ref x0, .int v4, .int ((x1 + (iv 2)))] G3 fun v15 G14 => Q (some (.int v15)) G14)))))))))))) : runs E (d + 1) i_X7_readItem [.ref x0, .int x1] G Q := by
  rw [runs_eq (m := (yX7_readItem, cX7_readItem, 3, some (.int), 1, 7, false, false)) rfl (Nat.le_of_ble_eq_true rfl)]
  exact g_X7_readItem_0 h
theorem dX7_readText_0 : decode cX7_readText 0 = .ok (.aload_n 0, 1) := by decide +kernel
theorem dX7_readText_1 : decode cX7_readText 1 = .ok (.getfield 19, 3) := by decide +kernel
theorem dX7_readText_4 : decode cX7_readText 4 = .ok (.invokestatic 47, 3) := by decide +kernel
theorem dX7_readText_7 : decode cX7_readText 7 = .ok (.iconst 0, 1) := by decide +kernel
theorem dX7_readText_8 : decode cX7_readText 8 = .ok (.istore_n 1, 1) := by decide +kernel
theorem dX7_readText_9 : decode cX7_readText 9 = .ok (.iload_n 1, 1) := by decide +kernel
theorem dX7_readText_10 : decode cX7_readText 10 = .ok (.aload_n 0, 1) := by decide +kernel
theorem dX7_readText_11 : decode cX7_readText 11 = .ok (.getfield 81, 3) := by decide +kernel
theorem dX7_readText_14 : decode cX7_readText 14 = .ok (.if_icmp .ge 44, 3) := by decide +kernel
theorem dX7_readText_17 : decode cX7_readText 17 = .ok (.aload_n 0, 1) := by decide +kernel
theorem dX7_readText_18 : decode cX7_readText 18 = .ok (.iload_n 1, 1) := by decide +kernel
theorem dX7_readText_19 : decode cX7_readText 19 = .ok (.invokevirtual 102, 3) := by decide +kernel
theorem dX7_readText_22 : decode cX7_readText 22 = .ok (.istore_n 1, 1) := by decide +kernel
theorem dX7_readText_23 : decode cX7_readText 23 = .ok (.iload_n 1, 1) := by decide +kernel
theorem dX7_readText_24 : decode cX7_readText 24 = .ok (.ifCond .ge 7, 3) := by decide +kernel
theorem dX7_readText_27 : decode cX7_readText 27 = .ok (.iconst (-1), 1) := by decide +kernel
theorem dX7_readText_28 : decode cX7_readText 28 = .ok (.iload_n 1, 1) := by decide +kernel
theorem dX7_readText_29 : decode cX7_readText 29 = .ok (.isub, 1) := by decide +kernel
theorem dX7_readText_30 : decode cX7_readText 30 = .ok (.ireturn, 1) := by decide +kernel
theorem dX7_readText_31 : decode cX7_readText 31 = .ok (.iload_n 1, 1) := by decide +kernel
theorem dX7_readText_32 : decode cX7_readText 32 = .ok (.aload_n 0, 1) := by decide +kernel
theorem dX7_readText_33 : decode cX7_readText 33 = .ok (.getfield 81, 3) := by decide +kernel
theorem dX7_readText_36 : decode cX7_readText 36 = .ok (.if_icmp .eq 14, 3) := by decide +kernel
theorem dX7_readText_39 : decode cX7_readText 39 = .ok (.aload_n 0, 1) := by decide +kernel
theorem dX7_readText_40 : decode cX7_readText 40 = .ok (.getfield 7, 3) := by decide +kernel
theorem dX7_readText_43 : decode cX7_readText 43 = .ok (.iload_n 1, 1) := by decide +kernel
theorem dX7_readText_44 : decode cX7_readText 44 = .ok (.iaload, 1) := by decide +kernel
theorem dX7_readText_45 : decode cX7_readText 45 = .ok (.bipush 59, 2) := by decide +kernel
theorem dX7_readText_47 : decode cX7_readText 47 = .ok (.if_icmp .eq 5, 3) := by decide +kernel
theorem dX7_readText_50 : decode cX7_readText 50 = .ok (.iload_n 1, 1) := by decide +kernel
theorem dX7_readText_51 : decode cX7_readText 51 = .ok (.ireturn, 1) := by decide +kernel
theorem dX7_readText_52 : decode cX7_readText 52 = .ok (.iinc 1 1, 3) := by decide +kernel
theorem dX7_readText_55 : decode cX7_readText 55 = .ok (.goto (-46), 3) := by decide +kernel
theorem dX7_readText_58 : decode cX7_readText 58 = .ok (.bipush (-9), 2) := by decide +kernel
theorem dX7_readText_60 : decode cX7_readText 60 = .ok (.ireturn, 1) := by decide +kernel
abbrev x_X7_readText : Cx := (7, cX7_readText, false, some (.int))
set_option maxRecDepth 10000 in
theorem g_X7_readText_0 {E : Ev} {d : Nat} {G : Hp} {Q : Po} {x0 : Nat} (h : (qFR E G x0 7 4 fun v1 => (qCV E d i_X7_clear [.ref v1] G fun G2 => Xr E d x_X7_readText 9 [some (.ref x0), some (.int ((iv 0)))] [] G2 Q))) : Xr E d x_X7_readText 0 [some (.ref x0), none] [] G Q := by
  refine r_aload_n dX7_readText_0 rfl ?_
  refine r_getR dX7_readText_1 rfl (qFR_imp (fun v1 h => ?_) h)
  refine r_cV dX7_readText_4 rfl (invS_eq rfl (by decide) rfl rfl rfl rfl ⟨rfl, Nat.le_of_ble_eq_true rfl⟩) (qCV_imp (fun G2 h => ?_) h)
  refine r_iconst dX7_readText_7 ?_
  refine r_istore_n dX7_readText_8 rfl ?_
  exact h
theorem e_X7_readText {E : Ev} {d : Nat} {G : Hp} {Q : Po} {x0 : Nat} (h : (qFR E G x0 7 4 fun v1 => (qCV E d i_X7_clear [.ref v1] G fun G2 => Xr E d x_X7_readText 9 [some (.ref x0), some (.int ((iv 0)))] [] G2 Q))) : runs E (d + 1) i_X7_readText [.ref x0] G Q := by
  rw [runs_eq (m := (yX7_readText, cX7_readText, 2, some (.int), 0, 7, false, false)) rfl (Nat.le_of_ble_eq_true rfl)]
  exact g_X7_readText_0 h
set_option maxRecDepth 10000 in
theorem g_X7_readText_9 {E : Ev} {d : Nat} {G : Hp} {Q : Po} {x0 : Nat} {x1 : Int32} (h : (qFI E G x0 7 1 fun v1 => (if v1 ≤ x1 then Q (some (.int (iv (-9)))) G else (rcv E G x0 7 = true ∧ (qCI E d i_X7_readItem [.ref x0, .int x1] G fun v3 G2 => (if 0 ≤ v3 then (qFI E G2 x0 7 1 fun v4 => (if v3 = v4 then Q (some (.int v3)) G2 else (qFR E G2 x0 7 0 fun v5 => (qIA 7 E G2 v5 v3 fun v6 => (if v6 = (iv 59) then Xr E d x_X7_readText 9 [some (.ref x0), some (.int ((v3 + (iv 1))))] [] G2 Q else Q (some (.int v3)) G2))))) else Q (some (.int ((iv (-1)) - v3))) G2)))))) : Xr E d x_X7_readText 9 [some (.ref x0), some (.int x1)] [] G Q := by
  refine r_iload_n dX7_readText_9 rfl ?_
  refine r_aload_n dX7_readText_10 rfl ?_
  refine r_getI dX7_readText_11 rfl (qFI_imp (fun v1 h => ?_) h)
  refine r_cge (tgt := 58) dX7_readText_14 (by decide) (ite_imp (fun h => ?_) (fun h => ?_) h)
  · refine r_bipush dX7_readText_58 rfl ?_
    exact r_iret dX7_readText_60 rfl ⟨rfl, h⟩
  · refine r_aload_n dX7_readText_17 rfl ?_
    refine r_iload_n dX7_readText_18 rfl ?_
    refine r_cI dX7_readText_19 rfl (invV_eq rfl rfl rfl rfl rfl rfl ⟨rfl, Nat.le_of_ble_eq_true rfl⟩ h.1) (qCI_imp (fun v3 G2 h => ?_) h.2)
    refine r_istore_n dX7_readText_22 rfl ?_
    refine r_iload_n dX7_readText_23 rfl ?_
    refine r_ifge (tgt := 31) dX7_readText_24 (by decide) (ite_imp (fun h => ?_) (fun h => ?_) h)
    · refine r_iload_n dX7_readText_31 rfl ?_
      refine r_aload_n dX7_readText_32 rfl ?_
      refine r_getI dX7_readText_33 rfl (qFI_imp (fun v4 h => ?_) h)
      refine r_ceq (tgt := 50) dX7_readText_36 (by decide) (ite_imp (fun h => ?_) (fun h => ?_) h)
      · refine r_iload_n dX7_readText_50 rfl ?_
        exact r_iret dX7_readText_51 rfl ⟨rfl, h⟩
      · refine r_aload_n dX7_readText_39 rfl ?_
        refine r_getR dX7_readText_40 rfl (qFR_imp (fun v5 h => ?_) h)
        refine r_iload_n dX7_readText_43 rfl ?_
        refine r_iald dX7_readText_44 (qIA_imp (fun v6 h => ?_) h)
        refine r_bipush dX7_readText_45 rfl ?_
        refine r_ceq (tgt := 52) dX7_readText_47 (by decide) (ite_imp (fun h => ?_) (fun h => ?_) h)
        · refine r_iinc dX7_readText_52 rfl rfl ?_
          refine r_goto (tgt := 9) dX7_readText_55 (by decide) ?_
          exact h
        · refine r_iload_n dX7_readText_50 rfl ?_
          exact r_iret dX7_readText_51 rfl ⟨rfl, h⟩
    · refine r_iconst dX7_readText_27 ?_
      refine r_iload_n dX7_readText_28 rfl ?_
      refine r_isub dX7_readText_29 ?_
      exact r_iret dX7_readText_30 rfl ⟨rfl, h⟩
theorem dX7_errorPosition_0 : decode cX7_errorPosition 0 = .ok (.aload_n 0, 1) := by decide +kernel
theorem dX7_errorPosition_1 : decode cX7_errorPosition 1 = .ok (.invokevirtual 105, 3) := by decide +kernel
theorem dX7_errorPosition_4 : decode cX7_errorPosition 4 = .ok (.ireturn, 1) := by decide +kernel
abbrev x_X7_errorPosition : Cx := (7, cX7_errorPosition, false, some (.int))
set_option maxRecDepth 10000 in
theorem g_X7_errorPosition_0 {E : Ev} {d : Nat} {G : Hp} {Q : Po} {x0 : Nat} (h : (rcv E G x0 7 = true ∧ (qCI E d i_X7_readText [.ref x0] G fun v2 G1 => Q (some (.int v2)) G1))) : Xr E d x_X7_errorPosition 0 [some (.ref x0)] [] G Q := by
  refine r_aload_n dX7_errorPosition_0 rfl ?_
  refine r_cI dX7_errorPosition_1 rfl (invV_eq rfl rfl rfl rfl rfl rfl ⟨rfl, Nat.le_of_ble_eq_true rfl⟩ h.1) (qCI_imp (fun v2 G1 h => ?_) h.2)
  exact r_iret dX7_errorPosition_4 rfl ⟨rfl, h⟩
theorem e_X7_errorPosition {E : Ev} {d : Nat} {G : Hp} {Q : Po} {x0 : Nat} (h : (rcv E G x0 7 = true ∧ (qCI E d i_X7_readText [.ref x0] G fun v2 G1 => Q (some (.int v2)) G1))) : runs E (d + 1) i_X7_errorPosition [.ref x0] G Q := by
  rw [runs_eq (m := (yX7_errorPosition, cX7_errorPosition, 1, some (.int), 0, 7, false, false)) rfl (Nat.le_of_ble_eq_true rfl)]
  exact g_X7_errorPosition_0 h
theorem dX7_stepsOf_0 : decode cX7_stepsOf 0 = .ok (.iconst 0, 1) := by decide +kernel
theorem dX7_stepsOf_1 : decode cX7_stepsOf 1 = .ok (.istore_n 1, 1) := by decide +kernel
theorem dX7_stepsOf_2 : decode cX7_stepsOf 2 = .ok (.iconst 0, 1) := by decide +kernel
theorem dX7_stepsOf_3 : decode cX7_stepsOf 3 = .ok (.istore_n 2, 1) := by decide +kernel
theorem dX7_stepsOf_4 : decode cX7_stepsOf 4 = .ok (.iload_n 2, 1) := by decide +kernel
theorem dX7_stepsOf_5 : decode cX7_stepsOf 5 = .ok (.bipush 12, 2) := by decide +kernel
theorem dX7_stepsOf_7 : decode cX7_stepsOf 7 = .ok (.if_icmp .ge 20, 3) := by decide +kernel
theorem dX7_stepsOf_10 : decode cX7_stepsOf 10 = .ok (.iload_n 1, 1) := by decide +kernel
theorem dX7_stepsOf_11 : decode cX7_stepsOf 11 = .ok (.aload_n 0, 1) := by decide +kernel
theorem dX7_stepsOf_12 : decode cX7_stepsOf 12 = .ok (.bipush 124, 2) := by decide +kernel
theorem dX7_stepsOf_14 : decode cX7_stepsOf 14 = .ok (.iconst 3, 1) := by decide +kernel
theorem dX7_stepsOf_15 : decode cX7_stepsOf 15 = .ok (.iload_n 2, 1) := by decide +kernel
theorem dX7_stepsOf_16 : decode cX7_stepsOf 16 = .ok (.imul, 1) := by decide +kernel
theorem dX7_stepsOf_17 : decode cX7_stepsOf 17 = .ok (.iadd, 1) := by decide +kernel
theorem dX7_stepsOf_18 : decode cX7_stepsOf 18 = .ok (.iaload, 1) := by decide +kernel
theorem dX7_stepsOf_19 : decode cX7_stepsOf 19 = .ok (.iadd, 1) := by decide +kernel
theorem dX7_stepsOf_20 : decode cX7_stepsOf 20 = .ok (.istore_n 1, 1) := by decide +kernel
theorem dX7_stepsOf_21 : decode cX7_stepsOf 21 = .ok (.iinc 2 1, 3) := by decide +kernel
theorem dX7_stepsOf_24 : decode cX7_stepsOf 24 = .ok (.goto (-20), 3) := by decide +kernel
theorem dX7_stepsOf_27 : decode cX7_stepsOf 27 = .ok (.iload_n 1, 1) := by decide +kernel
theorem dX7_stepsOf_28 : decode cX7_stepsOf 28 = .ok (.ireturn, 1) := by decide +kernel
abbrev x_X7_stepsOf : Cx := (7, cX7_stepsOf, false, some (.int))
set_option maxRecDepth 10000 in
theorem g_X7_stepsOf_0 {E : Ev} {d : Nat} {G : Hp} {Q : Po} {x0 : Nat} (h : Xr E d x_X7_stepsOf 4 [some (.ref x0), some (.int ((iv 0))), some (.int ((iv 0)))] [] G Q) : Xr E d x_X7_stepsOf 0 [some (.ref x0), none, none] [] G Q := by
  refine r_iconst dX7_stepsOf_0 ?_
  refine r_istore_n dX7_stepsOf_1 rfl ?_
  refine r_iconst dX7_stepsOf_2 ?_
  refine r_istore_n dX7_stepsOf_3 rfl ?_
  exact h
theorem e_X7_stepsOf {E : Ev} {d : Nat} {G : Hp} {Q : Po} {x0 : Nat} (h : Xr E d x_X7_stepsOf 4 [some (.ref x0), some (.int ((iv 0))), some (.int ((iv 0)))] [] G Q) : runs E (d + 1) i_X7_stepsOf [.ref x0] G Q := by
  rw [runs_eq (m := (yX7_stepsOf, cX7_stepsOf, 3, some (.int), 1, 7, false, true)) rfl (Nat.le_of_ble_eq_true rfl)]
  exact g_X7_stepsOf_0 h
set_option maxRecDepth 10000 in
theorem g_X7_stepsOf_4 {E : Ev} {d : Nat} {G : Hp} {Q : Po} {x0 : Nat} {x1 : Int32} {x2 : Int32} (h : (if (iv 12) ≤ x2 then Q (some (.int x1)) G else (qIA 7 E G x0 ((iv 124) + ((iv 3) * x2)) fun v1 => Xr E d x_X7_stepsOf 4 [some (.ref x0), some (.int ((x1 + v1))), some (.int ((x2 + (iv 1))))] [] G Q))) : Xr E d x_X7_stepsOf 4 [some (.ref x0), some (.int x1), some (.int x2)] [] G Q := by
  refine r_iload_n dX7_stepsOf_4 rfl ?_
  refine r_bipush dX7_stepsOf_5 rfl ?_
  refine r_cge (tgt := 27) dX7_stepsOf_7 (by decide) (ite_imp (fun h => ?_) (fun h => ?_) h)
  · refine r_iload_n dX7_stepsOf_27 rfl ?_
    exact r_iret dX7_stepsOf_28 rfl ⟨rfl, h⟩
  · refine r_iload_n dX7_stepsOf_10 rfl ?_
    refine r_aload_n dX7_stepsOf_11 rfl ?_
    refine r_bipush dX7_stepsOf_12 rfl ?_
    refine r_iconst dX7_stepsOf_14 ?_
    refine r_iload_n dX7_stepsOf_15 rfl ?_
    refine r_imul dX7_stepsOf_16 ?_
    refine r_iadd dX7_stepsOf_17 ?_
    refine r_iald dX7_stepsOf_18 (qIA_imp (fun v1 h => ?_) h)
    refine r_iadd dX7_stepsOf_19 ?_
    refine r_istore_n dX7_stepsOf_20 rfl ?_
    refine r_iinc dX7_stepsOf_21 rfl rfl ?_
    refine r_goto (tgt := 4) dX7_stepsOf_24 (by decide) ?_
    exact h
theorem dX7_load_0 : decode cX7_load 0 = .ok (.aload_n 0, 1) := by decide +kernel
theorem dX7_load_1 : decode cX7_load 1 = .ok (.invokevirtual 105, 3) := by decide +kernel
theorem dX7_load_4 : decode cX7_load 4 = .ok (.bipush (-9), 2) := by decide +kernel
theorem dX7_load_6 : decode cX7_load 6 = .ok (.if_icmp .eq 6, 3) := by decide +kernel
theorem dX7_load_9 : decode cX7_load 9 = .ok (.bipush (-3), 2) := by decide +kernel
theorem dX7_load_11 : decode cX7_load 11 = .ok (.ireturn, 1) := by decide +kernel
theorem dX7_load_12 : decode cX7_load 12 = .ok (.aload_n 0, 1) := by decide +kernel
theorem dX7_load_13 : decode cX7_load 13 = .ok (.getfield 19, 3) := by decide +kernel
theorem dX7_load_16 : decode cX7_load 16 = .ok (.aload_n 0, 1) := by decide +kernel
theorem dX7_load_17 : decode cX7_load 17 = .ok (.getfield 13, 3) := by decide +kernel
theorem dX7_load_20 : decode cX7_load 20 = .ok (.invokestatic 109, 3) := by decide +kernel
theorem dX7_load_23 : decode cX7_load 23 = .ok (.aload_n 0, 1) := by decide +kernel
theorem dX7_load_24 : decode cX7_load 24 = .ok (.iconst 0, 1) := by decide +kernel
theorem dX7_load_25 : decode cX7_load 25 = .ok (.putfield 113, 3) := by decide +kernel
theorem dX7_load_28 : decode cX7_load 28 = .ok (.aload_n 0, 1) := by decide +kernel
theorem dX7_load_29 : decode cX7_load 29 = .ok (.getfield 28, 3) := by decide +kernel
theorem dX7_load_32 : decode cX7_load 32 = .ok (.iconst 0, 1) := by decide +kernel
theorem dX7_load_33 : decode cX7_load 33 = .ok (.iconst 0, 1) := by decide +kernel
theorem dX7_load_34 : decode cX7_load 34 = .ok (.bastore, 1) := by decide +kernel
theorem dX7_load_35 : decode cX7_load 35 = .ok (.aload_n 0, 1) := by decide +kernel
theorem dX7_load_36 : decode cX7_load 36 = .ok (.getfield 28, 3) := by decide +kernel
theorem dX7_load_39 : decode cX7_load 39 = .ok (.iconst 1, 1) := by decide +kernel
theorem dX7_load_40 : decode cX7_load 40 = .ok (.iconst 0, 1) := by decide +kernel
theorem dX7_load_41 : decode cX7_load 41 = .ok (.bastore, 1) := by decide +kernel
theorem dX7_load_42 : decode cX7_load 42 = .ok (.aload_n 0, 1) := by decide +kernel
theorem dX7_load_43 : decode cX7_load 43 = .ok (.getfield 13, 3) := by decide +kernel
theorem dX7_load_46 : decode cX7_load 46 = .ok (.invokestatic 116, 3) := by decide +kernel
theorem dX7_load_49 : decode cX7_load 49 = .ok (.ireturn, 1) := by decide +kernel
abbrev x_X7_load : Cx := (7, cX7_load, false, some (.int))
set_option maxRecDepth 10000 in
theorem g_X7_load_0 {E : Ev} {d : Nat} {G : Hp} {Q : Po} {x0 : Nat} (h : (rcv E G x0 7 = true ∧ (qCI E d i_X7_readText [.ref x0] G fun v2 G1 => (if v2 = (iv (-9)) then (qFR E G1 x0 7 4 fun v3 => (qFR E G1 x0 7 2 fun v4 => (qCV E d i_X7_copy [.ref v3, .ref v4] G1 fun G5 => (qP E G5 x0 7 6 (.int ((iv 0))) fun G6 => (qFR E G6 x0 7 9 fun v7 => (qBS E G6 v7 (iv 0) (iv 0) fun G8 => (qFR E G8 x0 7 9 fun v9 => (qBS E G8 v9 (iv 1) (iv 0) fun G10 => (qFR E G10 x0 7 2 fun v11 => (qCI E d i_X7_stepsOf [.ref v11] G10 fun v13 G12 => Q (some (.int v13)) G12)))))))))) else Q (some (.int (iv (-3)))) G1)))) : Xr E d x_X7_load 0 [some (.ref x0)] [] G Q := by
  refine r_aload_n dX7_load_0 rfl ?_
  refine r_cI dX7_load_1 rfl (invV_eq rfl rfl rfl rfl rfl rfl ⟨rfl, Nat.le_of_ble_eq_true rfl⟩ h.1) (qCI_imp (fun v2 G1 h => ?_) h.2)
  refine r_bipush dX7_load_4 rfl ?_
  refine r_ceq (tgt := 12) dX7_load_6 (by decide) (ite_imp (fun h => ?_) (fun h => ?_) h)
  · refine r_aload_n dX7_load_12 rfl ?_
    refine r_getR dX7_load_13 rfl (qFR_imp (fun v3 h => ?_) h)
    refine r_aload_n dX7_load_16 rfl ?_
    refine r_getR dX7_load_17 rfl (qFR_imp (fun v4 h => ?_) h)
    refine r_cV dX7_load_20 rfl (invS_eq rfl (by decide) rfl rfl rfl rfl ⟨rfl, Nat.le_of_ble_eq_true rfl⟩) (qCV_imp (fun G5 h => ?_) h)
    refine r_aload_n dX7_load_23 rfl ?_
    refine r_iconst dX7_load_24 ?_
    refine r_put dX7_load_25 rfl rfl (by decide) (qP_imp (fun G6 h => ?_) h)
    refine r_aload_n dX7_load_28 rfl ?_
    refine r_getR dX7_load_29 rfl (qFR_imp (fun v7 h => ?_) h)
    refine r_iconst dX7_load_32 ?_
    refine r_iconst dX7_load_33 ?_
    refine r_bast dX7_load_34 (qBS_imp (fun G8 h => ?_) h)
    refine r_aload_n dX7_load_35 rfl ?_
    refine r_getR dX7_load_36 rfl (qFR_imp (fun v9 h => ?_) h)
    refine r_iconst dX7_load_39 ?_
    refine r_iconst dX7_load_40 ?_
    refine r_bast dX7_load_41 (qBS_imp (fun G10 h => ?_) h)
    refine r_aload_n dX7_load_42 rfl ?_
    refine r_getR dX7_load_43 rfl (qFR_imp (fun v11 h => ?_) h)
    refine r_cI dX7_load_46 rfl (invS_eq rfl (by decide) rfl rfl rfl rfl ⟨rfl, Nat.le_of_ble_eq_true rfl⟩) (qCI_imp (fun v13 G12 h => ?_) h)
    exact r_iret dX7_load_49 rfl ⟨rfl, h⟩
  · refine r_bipush dX7_load_9 rfl ?_
    exact r_iret dX7_load_11 rfl ⟨rfl, h⟩
theorem e_X7_load {E : Ev} {d : Nat} {G : Hp} {Q : Po} {x0 : Nat} (h : (rcv E G x0 7 = true ∧ (qCI E d i_X7_readText [.ref x0] G fun v2 G1 => (if v2 = (iv (-9)) then (qFR E G1 x0 7 4 fun v3 => (qFR E G1 x0 7 2 fun v4 => (qCV E d i_X7_copy [.ref v3, .ref v4] G1 fun G5 => (qP E G5 x0 7 6 (.int ((iv 0))) fun G6 => (qFR E G6 x0 7 9 fun v7 => (qBS E G6 v7 (iv 0) (iv 0) fun G8 => (qFR E G8 x0 7 9 fun v9 => (qBS E G8 v9 (iv 1) (iv 0) fun G10 => (qFR E G10 x0 7 2 fun v11 => (qCI E d i_X7_stepsOf [.ref v11] G10 fun v13 G12 => Q (some (.int v13)) G12)))))))))) else Q (some (.int (iv (-3)))) G1)))) : runs E (d + 1) i_X7_load [.ref x0] G Q := by
  rw [runs_eq (m := (yX7_load, cX7_load, 1, some (.int), 0, 7, false, false)) rfl (Nat.le_of_ble_eq_true rfl)]
  exact g_X7_load_0 h
theorem dX7_isNonterminal_0 : decode cX7_isNonterminal 0 = .ok (.iload_n 0, 1) := by decide +kernel
theorem dX7_isNonterminal_1 : decode cX7_isNonterminal 1 = .ok (.i2l, 1) := by decide +kernel
theorem dX7_isNonterminal_2 : decode cX7_isNonterminal 2 = .ok (.lconst 0, 1) := by decide +kernel
theorem dX7_isNonterminal_3 : decode cX7_isNonterminal 3 = .ok (.ldc2_w 120, 3) := by decide +kernel
theorem dX7_isNonterminal_6 : decode cX7_isNonterminal 6 = .ok (.invokestatic 55, 3) := by decide +kernel
theorem dX7_isNonterminal_9 : decode cX7_isNonterminal 9 = .ok (.ireturn, 1) := by decide +kernel
abbrev x_X7_isNonterminal : Cx := (7, cX7_isNonterminal, false, some (.boolean))
set_option maxRecDepth 10000 in
theorem g_X7_isNonterminal_0 {E : Ev} {d : Nat} {G : Hp} {Q : Po} {x0 : Int32} (h : (qCI E d i_X7_in [.long (((x0).toInt64)), .long 0, .long 3] G fun v2 G1 => (narrow .boolean (.int v2) = .int v2 ∧ Q (some (.int v2)) G1))) : Xr E d x_X7_isNonterminal 0 [some (.int x0)] [] G Q := by
  refine r_iload_n dX7_isNonterminal_0 rfl ?_
  refine r_i2l dX7_isNonterminal_1 ?_
  refine r_lconst (v := 0) dX7_isNonterminal_2 rfl ?_
  refine r_ldc2 dX7_isNonterminal_3 rfl ?_
  refine r_cI dX7_isNonterminal_6 rfl (invS_eq rfl (by decide) rfl rfl rfl rfl ⟨rfl, Nat.le_of_ble_eq_true rfl⟩) (qCI_imp (fun v2 G1 h => ?_) h)
  exact r_iret dX7_isNonterminal_9 rfl h
theorem e_X7_isNonterminal {E : Ev} {d : Nat} {G : Hp} {Q : Po} {x0 : Int32} (h : (qCI E d i_X7_in [.long (((x0).toInt64)), .long 0, .long 3] G fun v2 G1 => (narrow .boolean (.int v2) = .int v2 ∧ Q (some (.int v2)) G1))) : runs E (d + 1) i_X7_isNonterminal [.int x0] G Q := by
  rw [runs_eq (m := (yX7_isNonterminal, cX7_isNonterminal, 1, some (.boolean), 1, 7, false, true)) rfl (Nat.le_of_ble_eq_true rfl)]
  exact g_X7_isNonterminal_0 h
theorem dX7_isPair_0 : decode cX7_isPair 0 = .ok (.iload_n 0, 1) := by decide +kernel
theorem dX7_isPair_1 : decode cX7_isPair 1 = .ok (.i2l, 1) := by decide +kernel
theorem dX7_isPair_2 : decode cX7_isPair 2 = .ok (.lconst 0, 1) := by decide +kernel
theorem dX7_isPair_3 : decode cX7_isPair 3 = .ok (.ldc2_w 89, 3) := by decide +kernel
theorem dX7_isPair_6 : decode cX7_isPair 6 = .ok (.invokestatic 55, 3) := by decide +kernel
theorem dX7_isPair_9 : decode cX7_isPair 9 = .ok (.ifCond .eq 19, 3) := by decide +kernel
theorem dX7_isPair_12 : decode cX7_isPair 12 = .ok (.iload_n 1, 1) := by decide +kernel
theorem dX7_isPair_13 : decode cX7_isPair 13 = .ok (.i2l, 1) := by decide +kernel
theorem dX7_isPair_14 : decode cX7_isPair 14 = .ok (.lconst 0, 1) := by decide +kernel
theorem dX7_isPair_15 : decode cX7_isPair 15 = .ok (.ldc2_w 120, 3) := by decide +kernel
theorem dX7_isPair_18 : decode cX7_isPair 18 = .ok (.invokestatic 55, 3) := by decide +kernel
theorem dX7_isPair_21 : decode cX7_isPair 21 = .ok (.ifCond .eq 7, 3) := by decide +kernel
theorem dX7_isPair_24 : decode cX7_isPair 24 = .ok (.iconst 1, 1) := by decide +kernel
theorem dX7_isPair_25 : decode cX7_isPair 25 = .ok (.goto 4, 3) := by decide +kernel
theorem dX7_isPair_28 : decode cX7_isPair 28 = .ok (.iconst 0, 1) := by decide +kernel
theorem dX7_isPair_29 : decode cX7_isPair 29 = .ok (.ireturn, 1) := by decide +kernel
abbrev x_X7_isPair : Cx := (7, cX7_isPair, false, some (.boolean))
set_option maxRecDepth 10000 in
theorem g_X7_isPair_0 {E : Ev} {d : Nat} {G : Hp} {Q : Po} {x0 : Int32} {x1 : Int32} (h : (qCI E d i_X7_in [.long (((x0).toInt64)), .long 0, .long 2] G fun v2 G1 => (if v2 = 0 then Q (some (.int (iv 0))) G1 else (qCI E d i_X7_in [.long (((x1).toInt64)), .long 0, .long 3] G1 fun v4 G3 => (if v4 = 0 then Q (some (.int (iv 0))) G3 else Q (some (.int (iv 1))) G3))))) : Xr E d x_X7_isPair 0 [some (.int x0), some (.int x1)] [] G Q := by
  refine r_iload_n dX7_isPair_0 rfl ?_
  refine r_i2l dX7_isPair_1 ?_
  refine r_lconst (v := 0) dX7_isPair_2 rfl ?_
  refine r_ldc2 dX7_isPair_3 rfl ?_
  refine r_cI dX7_isPair_6 rfl (invS_eq rfl (by decide) rfl rfl rfl rfl ⟨rfl, Nat.le_of_ble_eq_true rfl⟩) (qCI_imp (fun v2 G1 h => ?_) h)
  refine r_ifeq (tgt := 28) dX7_isPair_9 (by decide) (ite_imp (fun h => ?_) (fun h => ?_) h)
  · refine r_iconst dX7_isPair_28 ?_
    exact r_iret dX7_isPair_29 rfl ⟨rfl, h⟩
  · refine r_iload_n dX7_isPair_12 rfl ?_
    refine r_i2l dX7_isPair_13 ?_
    refine r_lconst (v := 0) dX7_isPair_14 rfl ?_
    refine r_ldc2 dX7_isPair_15 rfl ?_
    refine r_cI dX7_isPair_18 rfl (invS_eq rfl (by decide) rfl rfl rfl rfl ⟨rfl, Nat.le_of_ble_eq_true rfl⟩) (qCI_imp (fun v4 G3 h => ?_) h)
    refine r_ifeq (tgt := 28) dX7_isPair_21 (by decide) (ite_imp (fun h => ?_) (fun h => ?_) h)
    · refine r_iconst dX7_isPair_28 ?_
      exact r_iret dX7_isPair_29 rfl ⟨rfl, h⟩
    · refine r_iconst dX7_isPair_24 ?_
      refine r_goto (tgt := 29) dX7_isPair_25 (by decide) ?_
      exact r_iret dX7_isPair_29 rfl ⟨rfl, h⟩
theorem e_X7_isPair {E : Ev} {d : Nat} {G : Hp} {Q : Po} {x0 : Int32} {x1 : Int32} (h : (qCI E d i_X7_in [.long (((x0).toInt64)), .long 0, .long 2] G fun v2 G1 => (if v2 = 0 then Q (some (.int (iv 0))) G1 else (qCI E d i_X7_in [.long (((x1).toInt64)), .long 0, .long 3] G1 fun v4 G3 => (if v4 = 0 then Q (some (.int (iv 0))) G3 else Q (some (.int (iv 1))) G3))))) : runs E (d + 1) i_X7_isPair [.int x0, .int x1] G Q := by
  rw [runs_eq (m := (yX7_isPair, cX7_isPair, 2, some (.boolean), 2, 7, false, true)) rfl (Nat.le_of_ble_eq_true rfl)]
  exact g_X7_isPair_0 h
theorem dX7_stepAt_0 : decode cX7_stepAt 0 = .ok (.bipush 124, 2) := by decide +kernel
theorem dX7_stepAt_2 : decode cX7_stepAt 2 = .ok (.iconst 3, 1) := by decide +kernel
theorem dX7_stepAt_3 : decode cX7_stepAt 3 = .ok (.iconst 4, 1) := by decide +kernel
theorem dX7_stepAt_4 : decode cX7_stepAt 4 = .ok (.iload_n 0, 1) := by decide +kernel
theorem dX7_stepAt_5 : decode cX7_stepAt 5 = .ok (.imul, 1) := by decide +kernel
theorem dX7_stepAt_6 : decode cX7_stepAt 6 = .ok (.iload_n 1, 1) := by decide +kernel
theorem dX7_stepAt_7 : decode cX7_stepAt 7 = .ok (.iadd, 1) := by decide +kernel
theorem dX7_stepAt_8 : decode cX7_stepAt 8 = .ok (.imul, 1) := by decide +kernel
theorem dX7_stepAt_9 : decode cX7_stepAt 9 = .ok (.iadd, 1) := by decide +kernel
theorem dX7_stepAt_10 : decode cX7_stepAt 10 = .ok (.ireturn, 1) := by decide +kernel
abbrev x_X7_stepAt : Cx := (7, cX7_stepAt, false, some (.int))
set_option maxRecDepth 10000 in
theorem g_X7_stepAt_0 {E : Ev} {d : Nat} {G : Hp} {Q : Po} {x0 : Int32} {x1 : Int32} (h : Q (some (.int ((iv 124) + ((iv 3) * (((iv 4) * x0) + x1))))) G) : Xr E d x_X7_stepAt 0 [some (.int x0), some (.int x1)] [] G Q := by
  refine r_bipush dX7_stepAt_0 rfl ?_
  refine r_iconst dX7_stepAt_2 ?_
  refine r_iconst dX7_stepAt_3 ?_
  refine r_iload_n dX7_stepAt_4 rfl ?_
  refine r_imul dX7_stepAt_5 ?_
  refine r_iload_n dX7_stepAt_6 rfl ?_
  refine r_iadd dX7_stepAt_7 ?_
  refine r_imul dX7_stepAt_8 ?_
  refine r_iadd dX7_stepAt_9 ?_
  exact r_iret dX7_stepAt_10 rfl ⟨rfl, h⟩
theorem e_X7_stepAt {E : Ev} {d : Nat} {G : Hp} {Q : Po} {x0 : Int32} {x1 : Int32} (h : Q (some (.int ((iv 124) + ((iv 3) * (((iv 4) * x0) + x1))))) G) : runs E (d + 1) i_X7_stepAt [.int x0, .int x1] G Q := by
  rw [runs_eq (m := (yX7_stepAt, cX7_stepAt, 2, some (.int), 2, 7, false, true)) rfl (Nat.le_of_ble_eq_true rfl)]
  exact g_X7_stepAt_0 h
theorem dX7_bodyLength_0 : decode cX7_bodyLength 0 = .ok (.iload_n 1, 1) := by decide +kernel
theorem dX7_bodyLength_1 : decode cX7_bodyLength 1 = .ok (.invokestatic 122, 3) := by decide +kernel
theorem dX7_bodyLength_4 : decode cX7_bodyLength 4 = .ok (.ifCond .eq 15, 3) := by decide +kernel
theorem dX7_bodyLength_7 : decode cX7_bodyLength 7 = .ok (.aload_n 0, 1) := by decide +kernel
theorem dX7_bodyLength_8 : decode cX7_bodyLength 8 = .ok (.getfield 13, 3) := by decide +kernel
theorem dX7_bodyLength_11 : decode cX7_bodyLength 11 = .ok (.bipush 31, 2) := by decide +kernel
theorem dX7_bodyLength_13 : decode cX7_bodyLength 13 = .ok (.iload_n 1, 1) := by decide +kernel
theorem dX7_bodyLength_14 : decode cX7_bodyLength 14 = .ok (.imul, 1) := by decide +kernel
theorem dX7_bodyLength_15 : decode cX7_bodyLength 15 = .ok (.iaload, 1) := by decide +kernel
theorem dX7_bodyLength_16 : decode cX7_bodyLength 16 = .ok (.goto 4, 3) := by decide +kernel
theorem dX7_bodyLength_19 : decode cX7_bodyLength 19 = .ok (.iconst (-1), 1) := by decide +kernel
theorem dX7_bodyLength_20 : decode cX7_bodyLength 20 = .ok (.ireturn, 1) := by decide +kernel
abbrev x_X7_bodyLength : Cx := (7, cX7_bodyLength, false, some (.int))
set_option maxRecDepth 10000 in
theorem g_X7_bodyLength_0 {E : Ev} {d : Nat} {G : Hp} {Q : Po} {x0 : Nat} {x1 : Int32} (h : (qCI E d i_X7_isNonterminal [.int x1] G fun v2 G1 => (if v2 = 0 then Q (some (.int (iv (-1)))) G1 else (qFR E G1 x0 7 2 fun v3 => (qIA 7 E G1 v3 ((iv 31) * x1) fun v4 => Q (some (.int v4)) G1))))) : Xr E d x_X7_bodyLength 0 [some (.ref x0), some (.int x1)] [] G Q := by
  refine r_iload_n dX7_bodyLength_0 rfl ?_
  refine r_cI dX7_bodyLength_1 rfl (invS_eq rfl (by decide) rfl rfl rfl rfl ⟨rfl, Nat.le_of_ble_eq_true rfl⟩) (qCI_imp (fun v2 G1 h => ?_) h)
  refine r_ifeq (tgt := 19) dX7_bodyLength_4 (by decide) (ite_imp (fun h => ?_) (fun h => ?_) h)
  · refine r_iconst dX7_bodyLength_19 ?_
    exact r_iret dX7_bodyLength_20 rfl ⟨rfl, h⟩
  · refine r_aload_n dX7_bodyLength_7 rfl ?_
    refine r_getR dX7_bodyLength_8 rfl (qFR_imp (fun v3 h => ?_) h)
    refine r_bipush dX7_bodyLength_11 rfl ?_
    refine r_iload_n dX7_bodyLength_13 rfl ?_
    refine r_imul dX7_bodyLength_14 ?_
    refine r_iald dX7_bodyLength_15 (qIA_imp (fun v4 h => ?_) h)
    refine r_goto (tgt := 20) dX7_bodyLength_16 (by decide) ?_
    exact r_iret dX7_bodyLength_20 rfl ⟨rfl, h⟩
theorem e_X7_bodyLength {E : Ev} {d : Nat} {G : Hp} {Q : Po} {x0 : Nat} {x1 : Int32} (h : (qCI E d i_X7_isNonterminal [.int x1] G fun v2 G1 => (if v2 = 0 then Q (some (.int (iv (-1)))) G1 else (qFR E G1 x0 7 2 fun v3 => (qIA 7 E G1 v3 ((iv 31) * x1) fun v4 => Q (some (.int v4)) G1))))) : runs E (d + 1) i_X7_bodyLength [.ref x0, .int x1] G Q := by
  rw [runs_eq (m := (yX7_bodyLength, cX7_bodyLength, 2, some (.int), 1, 7, false, false)) rfl (Nat.le_of_ble_eq_true rfl)]
  exact g_X7_bodyLength_0 h
