/-! segments, by program (wip/whole/gen/seg.py) -/
theorem dJ6_bitCount_0f7a4_0 : decode cJ6_bitCount_0f7a4 0 = .ok (.iload_n 0, 1) := by decide +kernel
theorem dJ6_bitCount_0f7a4_1 : decode cJ6_bitCount_0f7a4 1 = .ok (.iload_n 0, 1) := by decide +kernel
theorem dJ6_bitCount_0f7a4_2 : decode cJ6_bitCount_0f7a4 2 = .ok (.iconst 1, 1) := by decide +kernel
theorem dJ6_bitCount_0f7a4_3 : decode cJ6_bitCount_0f7a4 3 = .ok (.iushr, 1) := by decide +kernel
theorem dJ6_bitCount_0f7a4_4 : decode cJ6_bitCount_0f7a4 4 = .ok (.ldc_w 265, 3) := by decide +kernel
theorem dJ6_bitCount_0f7a4_7 : decode cJ6_bitCount_0f7a4 7 = .ok (.iand, 1) := by decide +kernel
theorem dJ6_bitCount_0f7a4_8 : decode cJ6_bitCount_0f7a4 8 = .ok (.isub, 1) := by decide +kernel
theorem dJ6_bitCount_0f7a4_9 : decode cJ6_bitCount_0f7a4 9 = .ok (.istore_n 0, 1) := by decide +kernel
theorem dJ6_bitCount_0f7a4_10 : decode cJ6_bitCount_0f7a4 10 = .ok (.iload_n 0, 1) := by decide +kernel
theorem dJ6_bitCount_0f7a4_11 : decode cJ6_bitCount_0f7a4 11 = .ok (.ldc_w 266, 3) := by decide +kernel
theorem dJ6_bitCount_0f7a4_14 : decode cJ6_bitCount_0f7a4 14 = .ok (.iand, 1) := by decide +kernel
theorem dJ6_bitCount_0f7a4_15 : decode cJ6_bitCount_0f7a4 15 = .ok (.iload_n 0, 1) := by decide +kernel
theorem dJ6_bitCount_0f7a4_16 : decode cJ6_bitCount_0f7a4 16 = .ok (.iconst 2, 1) := by decide +kernel
theorem dJ6_bitCount_0f7a4_17 : decode cJ6_bitCount_0f7a4 17 = .ok (.iushr, 1) := by decide +kernel
theorem dJ6_bitCount_0f7a4_18 : decode cJ6_bitCount_0f7a4 18 = .ok (.ldc_w 266, 3) := by decide +kernel
theorem dJ6_bitCount_0f7a4_21 : decode cJ6_bitCount_0f7a4 21 = .ok (.iand, 1) := by decide +kernel
theorem dJ6_bitCount_0f7a4_22 : decode cJ6_bitCount_0f7a4 22 = .ok (.iadd, 1) := by decide +kernel
theorem dJ6_bitCount_0f7a4_23 : decode cJ6_bitCount_0f7a4 23 = .ok (.istore_n 0, 1) := by decide +kernel
theorem dJ6_bitCount_0f7a4_24 : decode cJ6_bitCount_0f7a4 24 = .ok (.iload_n 0, 1) := by decide +kernel
theorem dJ6_bitCount_0f7a4_25 : decode cJ6_bitCount_0f7a4 25 = .ok (.iload_n 0, 1) := by decide +kernel
theorem dJ6_bitCount_0f7a4_26 : decode cJ6_bitCount_0f7a4 26 = .ok (.iconst 4, 1) := by decide +kernel
theorem dJ6_bitCount_0f7a4_27 : decode cJ6_bitCount_0f7a4 27 = .ok (.iushr, 1) := by decide +kernel
theorem dJ6_bitCount_0f7a4_28 : decode cJ6_bitCount_0f7a4 28 = .ok (.iadd, 1) := by decide +kernel
theorem dJ6_bitCount_0f7a4_29 : decode cJ6_bitCount_0f7a4 29 = .ok (.ldc_w 267, 3) := by decide +kernel
theorem dJ6_bitCount_0f7a4_32 : decode cJ6_bitCount_0f7a4 32 = .ok (.iand, 1) := by decide +kernel
theorem dJ6_bitCount_0f7a4_33 : decode cJ6_bitCount_0f7a4 33 = .ok (.istore_n 0, 1) := by decide +kernel
theorem dJ6_bitCount_0f7a4_34 : decode cJ6_bitCount_0f7a4 34 = .ok (.iload_n 0, 1) := by decide +kernel
theorem dJ6_bitCount_0f7a4_35 : decode cJ6_bitCount_0f7a4 35 = .ok (.iload_n 0, 1) := by decide +kernel
theorem dJ6_bitCount_0f7a4_36 : decode cJ6_bitCount_0f7a4 36 = .ok (.bipush 8, 2) := by decide +kernel
theorem dJ6_bitCount_0f7a4_38 : decode cJ6_bitCount_0f7a4 38 = .ok (.iushr, 1) := by decide +kernel
theorem dJ6_bitCount_0f7a4_39 : decode cJ6_bitCount_0f7a4 39 = .ok (.iadd, 1) := by decide +kernel
theorem dJ6_bitCount_0f7a4_40 : decode cJ6_bitCount_0f7a4 40 = .ok (.istore_n 0, 1) := by decide +kernel
theorem dJ6_bitCount_0f7a4_41 : decode cJ6_bitCount_0f7a4 41 = .ok (.iload_n 0, 1) := by decide +kernel
theorem dJ6_bitCount_0f7a4_42 : decode cJ6_bitCount_0f7a4 42 = .ok (.iload_n 0, 1) := by decide +kernel
theorem dJ6_bitCount_0f7a4_43 : decode cJ6_bitCount_0f7a4 43 = .ok (.bipush 16, 2) := by decide +kernel
theorem dJ6_bitCount_0f7a4_45 : decode cJ6_bitCount_0f7a4 45 = .ok (.iushr, 1) := by decide +kernel
theorem dJ6_bitCount_0f7a4_46 : decode cJ6_bitCount_0f7a4 46 = .ok (.iadd, 1) := by decide +kernel
theorem dJ6_bitCount_0f7a4_47 : decode cJ6_bitCount_0f7a4 47 = .ok (.istore_n 0, 1) := by decide +kernel
theorem dJ6_bitCount_0f7a4_48 : decode cJ6_bitCount_0f7a4 48 = .ok (.iload_n 0, 1) := by decide +kernel
theorem dJ6_bitCount_0f7a4_49 : decode cJ6_bitCount_0f7a4 49 = .ok (.bipush 63, 2) := by decide +kernel
theorem dJ6_bitCount_0f7a4_51 : decode cJ6_bitCount_0f7a4 51 = .ok (.iand, 1) := by decide +kernel
theorem dJ6_bitCount_0f7a4_52 : decode cJ6_bitCount_0f7a4 52 = .ok (.ireturn, 1) := by decide +kernel
abbrev x_J6_bitCount_0f7a4 : Cx := (12, cJ6_bitCount_0f7a4, false, some (.int))
set_option maxRecDepth 10000 in
theorem g_J6_bitCount_0f7a4_0 {E : Ev} {d : Nat} {G : Hp} {Q : Po} {x0 : Int32} (h : Q (some (.int ((((((((x0 - (((x0).toUInt32 >>> (((iv 1)).toUInt32 &&& Int32.toUInt32 31)).toInt32 &&& (iv 1431655765))) &&& (iv 858993459)) + ((((x0 - (((x0).toUInt32 >>> (((iv 1)).toUInt32 &&& Int32.toUInt32 31)).toInt32 &&& (iv 1431655765)))).toUInt32 >>> (((iv 2)).toUInt32 &&& Int32.toUInt32 31)).toInt32 &&& (iv 858993459))) + (((((x0 - (((x0).toUInt32 >>> (((iv 1)).toUInt32 &&& Int32.toUInt32 31)).toInt32 &&& (iv 1431655765))) &&& (iv 858993459)) + ((((x0 - (((x0).toUInt32 >>> (((iv 1)).toUInt32 &&& Int32.toUInt32 31)).toInt32 &&& (iv 1431655765)))).toUInt32 >>> (((iv 2)).toUInt32 &&& Int32.toUInt32 31)).toInt32 &&& (iv 858993459)))).toUInt32 >>> (((iv 4)).toUInt32 &&& Int32.toUInt32 31)).toInt32) &&& (iv 252645135)) + (((((((x0 - (((x0).toUInt32 >>> (((iv 1)).toUInt32 &&& Int32.toUInt32 31)).toInt32 &&& (iv 1431655765))) &&& (iv 858993459)) + ((((x0 - (((x0).toUInt32 >>> (((iv 1)).toUInt32 &&& Int32.toUInt32 31)).toInt32 &&& (iv 1431655765)))).toUInt32 >>> (((iv 2)).toUInt32 &&& Int32.toUInt32 31)).toInt32 &&& (iv 858993459))) + (((((x0 - (((x0).toUInt32 >>> (((iv 1)).toUInt32 &&& Int32.toUInt32 31)).toInt32 &&& (iv 1431655765))) &&& (iv 858993459)) + ((((x0 - (((x0).toUInt32 >>> (((iv 1)).toUInt32 &&& Int32.toUInt32 31)).toInt32 &&& (iv 1431655765)))).toUInt32 >>> (((iv 2)).toUInt32 &&& Int32.toUInt32 31)).toInt32 &&& (iv 858993459)))).toUInt32 >>> (((iv 4)).toUInt32 &&& Int32.toUInt32 31)).toInt32) &&& (iv 252645135))).toUInt32 >>> (((iv 8)).toUInt32 &&& Int32.toUInt32 31)).toInt32) + ((((((((x0 - (((x0).toUInt32 >>> (((iv 1)).toUInt32 &&& Int32.toUInt32 31)).toInt32 &&& (iv 1431655765))) &&& (iv 858993459)) + ((((x0 - (((x0).toUInt32 >>> (((iv 1)).toUInt32 &&& Int32.toUInt32 31)).toInt32 &&& (iv 1431655765)))).toUInt32 >>> (((iv 2)).toUInt32 &&& Int32.toUInt32 31)).toInt32 &&& (iv 858993459))) + (((((x0 - (((x0).toUInt32 >>> (((iv 1)).toUInt32 &&& Int32.toUInt32 31)).toInt32 &&& (iv 1431655765))) &&& (iv 858993459)) + ((((x0 - (((x0).toUInt32 >>> (((iv 1)).toUInt32 &&& Int32.toUInt32 31)).toInt32 &&& (iv 1431655765)))).toUInt32 >>> (((iv 2)).toUInt32 &&& Int32.toUInt32 31)).toInt32 &&& (iv 858993459)))).toUInt32 >>> (((iv 4)).toUInt32 &&& Int32.toUInt32 31)).toInt32) &&& (iv 252645135)) + (((((((x0 - (((x0).toUInt32 >>> (((iv 1)).toUInt32 &&& Int32.toUInt32 31)).toInt32 &&& (iv 1431655765))) &&& (iv 858993459)) + ((((x0 - (((x0).toUInt32 >>> (((iv 1)).toUInt32 &&& Int32.toUInt32 31)).toInt32 &&& (iv 1431655765)))).toUInt32 >>> (((iv 2)).toUInt32 &&& Int32.toUInt32 31)).toInt32 &&& (iv 858993459))) + (((((x0 - (((x0).toUInt32 >>> (((iv 1)).toUInt32 &&& Int32.toUInt32 31)).toInt32 &&& (iv 1431655765))) &&& (iv 858993459)) + ((((x0 - (((x0).toUInt32 >>> (((iv 1)).toUInt32 &&& Int32.toUInt32 31)).toInt32 &&& (iv 1431655765)))).toUInt32 >>> (((iv 2)).toUInt32 &&& Int32.toUInt32 31)).toInt32 &&& (iv 858993459)))).toUInt32 >>> (((iv 4)).toUInt32 &&& Int32.toUInt32 31)).toInt32) &&& (iv 252645135))).toUInt32 >>> (((iv 8)).toUInt32 &&& Int32.toUInt32 31)).toInt32)).toUInt32 >>> (((iv 16)).toUInt32 &&& Int32.toUInt32 31)).toInt32) &&& (iv 63)))) G) : Xr E d x_J6_bitCount_0f7a4 0 [some (.int x0)] [] G Q := by
  refine r_iload_n dJ6_bitCount_0f7a4_0 rfl ?_
  refine r_iload_n dJ6_bitCount_0f7a4_1 rfl ?_
  refine r_iconst dJ6_bitCount_0f7a4_2 ?_
  refine r_iushr dJ6_bitCount_0f7a4_3 ?_
  refine r_ldcw (z := 1431655765) dJ6_bitCount_0f7a4_4 rfl rfl ?_
  refine r_iand dJ6_bitCount_0f7a4_7 ?_
  refine r_isub dJ6_bitCount_0f7a4_8 ?_
  refine r_istore_n dJ6_bitCount_0f7a4_9 rfl ?_
  refine r_iload_n dJ6_bitCount_0f7a4_10 rfl ?_
  refine r_ldcw (z := 858993459) dJ6_bitCount_0f7a4_11 rfl rfl ?_
  refine r_iand dJ6_bitCount_0f7a4_14 ?_
  refine r_iload_n dJ6_bitCount_0f7a4_15 rfl ?_
  refine r_iconst dJ6_bitCount_0f7a4_16 ?_
  refine r_iushr dJ6_bitCount_0f7a4_17 ?_
  refine r_ldcw (z := 858993459) dJ6_bitCount_0f7a4_18 rfl rfl ?_
  refine r_iand dJ6_bitCount_0f7a4_21 ?_
  refine r_iadd dJ6_bitCount_0f7a4_22 ?_
  refine r_istore_n dJ6_bitCount_0f7a4_23 rfl ?_
  refine r_iload_n dJ6_bitCount_0f7a4_24 rfl ?_
  refine r_iload_n dJ6_bitCount_0f7a4_25 rfl ?_
  refine r_iconst dJ6_bitCount_0f7a4_26 ?_
  refine r_iushr dJ6_bitCount_0f7a4_27 ?_
  refine r_iadd dJ6_bitCount_0f7a4_28 ?_
  refine r_ldcw (z := 252645135) dJ6_bitCount_0f7a4_29 rfl rfl ?_
  refine r_iand dJ6_bitCount_0f7a4_32 ?_
  refine r_istore_n dJ6_bitCount_0f7a4_33 rfl ?_
  refine r_iload_n dJ6_bitCount_0f7a4_34 rfl ?_
  refine r_iload_n dJ6_bitCount_0f7a4_35 rfl ?_
  refine r_bipush dJ6_bitCount_0f7a4_36 rfl ?_
  refine r_iushr dJ6_bitCount_0f7a4_38 ?_
  refine r_iadd dJ6_bitCount_0f7a4_39 ?_
  refine r_istore_n dJ6_bitCount_0f7a4_40 rfl ?_
  refine r_iload_n dJ6_bitCount_0f7a4_41 rfl ?_
  refine r_iload_n dJ6_bitCount_0f7a4_42 rfl ?_
  refine r_bipush dJ6_bitCount_0f7a4_43 rfl ?_
  refine r_iushr dJ6_bitCount_0f7a4_45 ?_
  refine r_iadd dJ6_bitCount_0f7a4_46 ?_
  refine r_istore_n dJ6_bitCount_0f7a4_47 rfl ?_
  refine r_iload_n dJ6_bitCount_0f7a4_48 rfl ?_
  refine r_bipush dJ6_bitCount_0f7a4_49 rfl ?_
  refine r_iand dJ6_bitCount_0f7a4_51 ?_
  exact r_iret dJ6_bitCount_0f7a4_52 rfl ⟨rfl, h⟩
theorem e_J6_bitCount_0f7a4 {E : Ev} {d : Nat} {G : Hp} {Q : Po} {x0 : Int32} (h : Q (some (.int ((((((((x0 - (((x0).toUInt32 >>> (((iv 1)).toUInt32 &&& Int32.toUInt32 31)).toInt32 &&& (iv 1431655765))) &&& (iv 858993459)) + ((((x0 - (((x0).toUInt32 >>> (((iv 1)).toUInt32 &&& Int32.toUInt32 31)).toInt32 &&& (iv 1431655765)))).toUInt32 >>> (((iv 2)).toUInt32 &&& Int32.toUInt32 31)).toInt32 &&& (iv 858993459))) + (((((x0 - (((x0).toUInt32 >>> (((iv 1)).toUInt32 &&& Int32.toUInt32 31)).toInt32 &&& (iv 1431655765))) &&& (iv 858993459)) + ((((x0 - (((x0).toUInt32 >>> (((iv 1)).toUInt32 &&& Int32.toUInt32 31)).toInt32 &&& (iv 1431655765)))).toUInt32 >>> (((iv 2)).toUInt32 &&& Int32.toUInt32 31)).toInt32 &&& (iv 858993459)))).toUInt32 >>> (((iv 4)).toUInt32 &&& Int32.toUInt32 31)).toInt32) &&& (iv 252645135)) + (((((((x0 - (((x0).toUInt32 >>> (((iv 1)).toUInt32 &&& Int32.toUInt32 31)).toInt32 &&& (iv 1431655765))) &&& (iv 858993459)) + ((((x0 - (((x0).toUInt32 >>> (((iv 1)).toUInt32 &&& Int32.toUInt32 31)).toInt32 &&& (iv 1431655765)))).toUInt32 >>> (((iv 2)).toUInt32 &&& Int32.toUInt32 31)).toInt32 &&& (iv 858993459))) + (((((x0 - (((x0).toUInt32 >>> (((iv 1)).toUInt32 &&& Int32.toUInt32 31)).toInt32 &&& (iv 1431655765))) &&& (iv 858993459)) + ((((x0 - (((x0).toUInt32 >>> (((iv 1)).toUInt32 &&& Int32.toUInt32 31)).toInt32 &&& (iv 1431655765)))).toUInt32 >>> (((iv 2)).toUInt32 &&& Int32.toUInt32 31)).toInt32 &&& (iv 858993459)))).toUInt32 >>> (((iv 4)).toUInt32 &&& Int32.toUInt32 31)).toInt32) &&& (iv 252645135))).toUInt32 >>> (((iv 8)).toUInt32 &&& Int32.toUInt32 31)).toInt32) + ((((((((x0 - (((x0).toUInt32 >>> (((iv 1)).toUInt32 &&& Int32.toUInt32 31)).toInt32 &&& (iv 1431655765))) &&& (iv 858993459)) + ((((x0 - (((x0).toUInt32 >>> (((iv 1)).toUInt32 &&& Int32.toUInt32 31)).toInt32 &&& (iv 1431655765)))).toUInt32 >>> (((iv 2)).toUInt32 &&& Int32.toUInt32 31)).toInt32 &&& (iv 858993459))) + (((((x0 - (((x0).toUInt32 >>> (((iv 1)).toUInt32 &&& Int32.toUInt32 31)).toInt32 &&& (iv 1431655765))) &&& (iv 858993459)) + ((((x0 - (((x0).toUInt32 >>> (((iv 1)).toUInt32 &&& Int32.toUInt32 31)).toInt32 &&& (iv 1431655765)))).toUInt32 >>> (((iv 2)).toUInt32 &&& Int32.toUInt32 31)).toInt32 &&& (iv 858993459)))).toUInt32 >>> (((iv 4)).toUInt32 &&& Int32.toUInt32 31)).toInt32) &&& (iv 252645135)) + (((((((x0 - (((x0).toUInt32 >>> (((iv 1)).toUInt32 &&& Int32.toUInt32 31)).toInt32 &&& (iv 1431655765))) &&& (iv 858993459)) + ((((x0 - (((x0).toUInt32 >>> (((iv 1)).toUInt32 &&& Int32.toUInt32 31)).toInt32 &&& (iv 1431655765)))).toUInt32 >>> (((iv 2)).toUInt32 &&& Int32.toUInt32 31)).toInt32 &&& (iv 858993459))) + (((((x0 - (((x0).toUInt32 >>> (((iv 1)).toUInt32 &&& Int32.toUInt32 31)).toInt32 &&& (iv 1431655765))) &&& (iv 858993459)) + ((((x0 - (((x0).toUInt32 >>> (((iv 1)).toUInt32 &&& Int32.toUInt32 31)).toInt32 &&& (iv 1431655765)))).toUInt32 >>> (((iv 2)).toUInt32 &&& Int32.toUInt32 31)).toInt32 &&& (iv 858993459)))).toUInt32 >>> (((iv 4)).toUInt32 &&& Int32.toUInt32 31)).toInt32) &&& (iv 252645135))).toUInt32 >>> (((iv 8)).toUInt32 &&& Int32.toUInt32 31)).toInt32)).toUInt32 >>> (((iv 16)).toUInt32 &&& Int32.toUInt32 31)).toInt32) &&& (iv 63)))) G) : runs E (d + 1) i_J6_bitCount_0f7a4 [.int x0] G Q := by
  rw [runs_eq (m := (yJ6_bitCount_0f7a4, cJ6_bitCount_0f7a4, 1, some (.int), 1, 12, false, true)) rfl (Nat.le_of_ble_eq_true rfl)]
  exact g_J6_bitCount_0f7a4_0 h
theorem dJ9_max_7cf53_0 : decode cJ9_max_7cf53 0 = .ok (.iload_n 0, 1) := by decide +kernel
theorem dJ9_max_7cf53_1 : decode cJ9_max_7cf53 1 = .ok (.iload_n 1, 1) := by decide +kernel
theorem dJ9_max_7cf53_2 : decode cJ9_max_7cf53 2 = .ok (.if_icmp .lt 7, 3) := by decide +kernel
theorem dJ9_max_7cf53_5 : decode cJ9_max_7cf53 5 = .ok (.iload_n 0, 1) := by decide +kernel
theorem dJ9_max_7cf53_6 : decode cJ9_max_7cf53 6 = .ok (.goto 4, 3) := by decide +kernel
theorem dJ9_max_7cf53_9 : decode cJ9_max_7cf53 9 = .ok (.iload_n 1, 1) := by decide +kernel
theorem dJ9_max_7cf53_10 : decode cJ9_max_7cf53 10 = .ok (.ireturn, 1) := by decide +kernel
abbrev x_J9_max_7cf53 : Cx := (14, cJ9_max_7cf53, false, some (.int))
set_option maxRecDepth 10000 in
theorem g_J9_max_7cf53_0 {E : Ev} {d : Nat} {G : Hp} {Q : Po} {x0 : Int32} {x1 : Int32} (h : (if x0 < x1 then Q (some (.int x1)) G else Q (some (.int x0)) G)) : Xr E d x_J9_max_7cf53 0 [some (.int x0), some (.int x1)] [] G Q := by
  refine r_iload_n dJ9_max_7cf53_0 rfl ?_
  refine r_iload_n dJ9_max_7cf53_1 rfl ?_
  refine r_clt (tgt := 9) dJ9_max_7cf53_2 (by decide) (ite_imp (fun h => ?_) (fun h => ?_) h)
  · refine r_iload_n dJ9_max_7cf53_9 rfl ?_
    exact r_iret dJ9_max_7cf53_10 rfl ⟨rfl, h⟩
  · refine r_iload_n dJ9_max_7cf53_5 rfl ?_
    refine r_goto (tgt := 10) dJ9_max_7cf53_6 (by decide) ?_
    exact r_iret dJ9_max_7cf53_10 rfl ⟨rfl, h⟩
theorem e_J9_max_7cf53 {E : Ev} {d : Nat} {G : Hp} {Q : Po} {x0 : Int32} {x1 : Int32} (h : (if x0 < x1 then Q (some (.int x1)) G else Q (some (.int x0)) G)) : runs E (d + 1) i_J9_max_7cf53 [.int x0, .int x1] G Q := by
  rw [runs_eq (m := (yJ9_max_7cf53, cJ9_max_7cf53, 2, some (.int), 2, 14, false, true)) rfl (Nat.le_of_ble_eq_true rfl)]
  exact g_J9_max_7cf53_0 h
theorem dJ9_min_7cf53_0 : decode cJ9_min_7cf53 0 = .ok (.iload_n 0, 1) := by decide +kernel
theorem dJ9_min_7cf53_1 : decode cJ9_min_7cf53 1 = .ok (.iload_n 1, 1) := by decide +kernel
theorem dJ9_min_7cf53_2 : decode cJ9_min_7cf53 2 = .ok (.if_icmp .gt 7, 3) := by decide +kernel
theorem dJ9_min_7cf53_5 : decode cJ9_min_7cf53 5 = .ok (.iload_n 0, 1) := by decide +kernel
theorem dJ9_min_7cf53_6 : decode cJ9_min_7cf53 6 = .ok (.goto 4, 3) := by decide +kernel
theorem dJ9_min_7cf53_9 : decode cJ9_min_7cf53 9 = .ok (.iload_n 1, 1) := by decide +kernel
theorem dJ9_min_7cf53_10 : decode cJ9_min_7cf53 10 = .ok (.ireturn, 1) := by decide +kernel
abbrev x_J9_min_7cf53 : Cx := (14, cJ9_min_7cf53, false, some (.int))
set_option maxRecDepth 10000 in
theorem g_J9_min_7cf53_0 {E : Ev} {d : Nat} {G : Hp} {Q : Po} {x0 : Int32} {x1 : Int32} (h : (if x1 < x0 then Q (some (.int x1)) G else Q (some (.int x0)) G)) : Xr E d x_J9_min_7cf53 0 [some (.int x0), some (.int x1)] [] G Q := by
  refine r_iload_n dJ9_min_7cf53_0 rfl ?_
  refine r_iload_n dJ9_min_7cf53_1 rfl ?_
  refine r_cgt (tgt := 9) dJ9_min_7cf53_2 (by decide) (ite_imp (fun h => ?_) (fun h => ?_) h)
  · refine r_iload_n dJ9_min_7cf53_9 rfl ?_
    exact r_iret dJ9_min_7cf53_10 rfl ⟨rfl, h⟩
  · refine r_iload_n dJ9_min_7cf53_5 rfl ?_
    refine r_goto (tgt := 10) dJ9_min_7cf53_6 (by decide) ?_
    exact r_iret dJ9_min_7cf53_10 rfl ⟨rfl, h⟩
theorem e_J9_min_7cf53 {E : Ev} {d : Nat} {G : Hp} {Q : Po} {x0 : Int32} {x1 : Int32} (h : (if x1 < x0 then Q (some (.int x1)) G else Q (some (.int x0)) G)) : runs E (d + 1) i_J9_min_7cf53 [.int x0, .int x1] G Q := by
  rw [runs_eq (m := (yJ9_min_7cf53, cJ9_min_7cf53, 2, some (.int), 2, 14, false, true)) rfl (Nat.le_of_ble_eq_true rfl)]
  exact g_J9_min_7cf53_0 h
theorem dJ0_length_8abf5_0 : decode cJ0_length_8abf5 0 = .ok (.aload_n 0, 1) := by decide +kernel
theorem dJ0_length_8abf5_1 : decode cJ0_length_8abf5 1 = .ok (.getfield 9, 3) := by decide +kernel
theorem dJ0_length_8abf5_4 : decode cJ0_length_8abf5 4 = .ok (.arraylength, 1) := by decide +kernel
theorem dJ0_length_8abf5_5 : decode cJ0_length_8abf5 5 = .ok (.aload_n 0, 1) := by decide +kernel
theorem dJ0_length_8abf5_6 : decode cJ0_length_8abf5 6 = .ok (.invokevirtual 335, 3) := by decide +kernel
theorem dJ0_length_8abf5_9 : decode cJ0_length_8abf5 9 = .ok (.ishr, 1) := by decide +kernel
theorem dJ0_length_8abf5_10 : decode cJ0_length_8abf5 10 = .ok (.ireturn, 1) := by decide +kernel
abbrev x_J0_length_8abf5 : Cx := (9, cJ0_length_8abf5, false, some (.int))
set_option maxRecDepth 10000 in
theorem g_J0_length_8abf5_0 {E : Ev} {d : Nat} {G : Hp} {Q : Po} {x0 : Nat} (h : ((gt E G x0 = none ∧ x0 = eS E) ∧ (qL 9 E G (eV E) fun v1 => (rcv E G x0 9 = true ∧ (qCI E d i_J0_coder_7d493 [.ref x0] G fun v3 G2 => Q (some (.int (v1 >>> (v3 &&& 31)))) G2))))) : Xr E d x_J0_length_8abf5 0 [some (.ref x0)] [] G Q := by
  refine r_aload_n dJ0_length_8abf5_0 rfl ?_
  obtain ⟨⟨hgn, hes⟩, h⟩ := h
  refine r_getH (v := .ref ((eV E))) dJ0_length_8abf5_1 rfl (by rw [hes]; exact hT_9) ⟨hgn, ?_⟩
  refine r_alen dJ0_length_8abf5_4 (qL_imp (fun v1 h => ?_) h)
  refine r_aload_n dJ0_length_8abf5_5 rfl ?_
  refine r_cI dJ0_length_8abf5_6 rfl (invV_eq rfl rfl rfl rfl rfl rfl ⟨rfl, Nat.le_of_ble_eq_true rfl⟩ h.1) (qCI_imp (fun v3 G2 h => ?_) h.2)
  refine r_ishr dJ0_length_8abf5_9 ?_
  exact r_iret dJ0_length_8abf5_10 rfl ⟨rfl, h⟩
theorem e_J0_length_8abf5 {E : Ev} {d : Nat} {G : Hp} {Q : Po} {x0 : Nat} (h : ((gt E G x0 = none ∧ x0 = eS E) ∧ (qL 9 E G (eV E) fun v1 => (rcv E G x0 9 = true ∧ (qCI E d i_J0_coder_7d493 [.ref x0] G fun v3 G2 => Q (some (.int (v1 >>> (v3 &&& 31)))) G2))))) : runs E (d + 1) i_J0_length_8abf5 [.ref x0] G Q := by
  rw [runs_eq (m := (yJ0_length_8abf5, cJ0_length_8abf5, 1, some (.int), 0, 9, false, false)) rfl (Nat.le_of_ble_eq_true rfl)]
  exact g_J0_length_8abf5_0 h
theorem dJ0_charAt_5068e_0 : decode cJ0_charAt_5068e 0 = .ok (.aload_n 0, 1) := by decide +kernel
theorem dJ0_charAt_5068e_1 : decode cJ0_charAt_5068e 1 = .ok (.invokevirtual 492, 3) := by decide +kernel
theorem dJ0_charAt_5068e_4 : decode cJ0_charAt_5068e 4 = .ok (.ifCond .eq 12, 3) := by decide +kernel
theorem dJ0_charAt_5068e_7 : decode cJ0_charAt_5068e 7 = .ok (.aload_n 0, 1) := by decide +kernel
theorem dJ0_charAt_5068e_8 : decode cJ0_charAt_5068e 8 = .ok (.getfield 9, 3) := by decide +kernel
theorem dJ0_charAt_5068e_11 : decode cJ0_charAt_5068e 11 = .ok (.iload_n 1, 1) := by decide +kernel
theorem dJ0_charAt_5068e_12 : decode cJ0_charAt_5068e 12 = .ok (.invokestatic 495, 3) := by decide +kernel
theorem dJ0_charAt_5068e_15 : decode cJ0_charAt_5068e 15 = .ok (.ireturn, 1) := by decide +kernel
theorem dJ0_charAt_5068e_16 : decode cJ0_charAt_5068e 16 = .ok (.aload_n 0, 1) := by decide +kernel
theorem dJ0_charAt_5068e_17 : decode cJ0_charAt_5068e 17 = .ok (.getfield 9, 3) := by decide +kernel
theorem dJ0_charAt_5068e_20 : decode cJ0_charAt_5068e 20 = .ok (.iload_n 1, 1) := by decide +kernel
theorem dJ0_charAt_5068e_21 : decode cJ0_charAt_5068e 21 = .ok (.invokestatic 498, 3) := by decide +kernel
theorem dJ0_charAt_5068e_24 : decode cJ0_charAt_5068e 24 = .ok (.ireturn, 1) := by decide +kernel
abbrev x_J0_charAt_5068e : Cx := (9, cJ0_charAt_5068e, false, some (.char))
set_option maxRecDepth 10000 in
theorem g_J0_charAt_5068e_0 {E : Ev} {d : Nat} {G : Hp} {Q : Po} {x0 : Nat} {x1 : Int32} (h : (rcv E G x0 9 = true ∧ (qCI E d i_J0_isLatin1_aae02 [.ref x0] G fun v2 G1 => (if v2 = 0 then ((gt E G1 x0 = none ∧ x0 = eS E) ∧ False) else ((gt E G1 x0 = none ∧ x0 = eS E) ∧ (qCI E d i_J1_charAt_3b067 [.ref ((eV E)), .int x1] G1 fun v4 G3 => (narrow .char (.int v4) = .int v4 ∧ Q (some (.int v4)) G3))))))) : Xr E d x_J0_charAt_5068e 0 [some (.ref x0), some (.int x1)] [] G Q := by
  refine r_aload_n dJ0_charAt_5068e_0 rfl ?_
  refine r_cI dJ0_charAt_5068e_1 rfl (invV_eq rfl rfl rfl rfl rfl rfl ⟨rfl, Nat.le_of_ble_eq_true rfl⟩ h.1) (qCI_imp (fun v2 G1 h => ?_) h.2)
  refine r_ifeq (tgt := 16) dJ0_charAt_5068e_4 (by decide) (ite_imp (fun h => ?_) (fun h => ?_) h)
  · refine r_aload_n dJ0_charAt_5068e_16 rfl ?_
    obtain ⟨⟨hgn, hes⟩, h⟩ := h
    refine r_getH (v := .ref ((eV E))) dJ0_charAt_5068e_17 rfl (by rw [hes]; exact hT_9) ⟨hgn, ?_⟩
    refine r_iload_n dJ0_charAt_5068e_20 rfl ?_
    exact h.elim
  · refine r_aload_n dJ0_charAt_5068e_7 rfl ?_
    obtain ⟨⟨hgn, hes⟩, h⟩ := h
    refine r_getH (v := .ref ((eV E))) dJ0_charAt_5068e_8 rfl (by rw [hes]; exact hT_9) ⟨hgn, ?_⟩
    refine r_iload_n dJ0_charAt_5068e_11 rfl ?_
    refine r_cI dJ0_charAt_5068e_12 rfl (invS_eq rfl (by decide) rfl rfl rfl rfl ⟨rfl, Nat.le_of_ble_eq_true rfl⟩) (qCI_imp (fun v4 G3 h => ?_) h)
    exact r_iret dJ0_charAt_5068e_15 rfl h
theorem e_J0_charAt_5068e {E : Ev} {d : Nat} {G : Hp} {Q : Po} {x0 : Nat} {x1 : Int32} (h : (rcv E G x0 9 = true ∧ (qCI E d i_J0_isLatin1_aae02 [.ref x0] G fun v2 G1 => (if v2 = 0 then ((gt E G1 x0 = none ∧ x0 = eS E) ∧ False) else ((gt E G1 x0 = none ∧ x0 = eS E) ∧ (qCI E d i_J1_charAt_3b067 [.ref ((eV E)), .int x1] G1 fun v4 G3 => (narrow .char (.int v4) = .int v4 ∧ Q (some (.int v4)) G3))))))) : runs E (d + 1) i_J0_charAt_5068e [.ref x0, .int x1] G Q := by
  rw [runs_eq (m := (yJ0_charAt_5068e, cJ0_charAt_5068e, 2, some (.char), 1, 9, false, false)) rfl (Nat.le_of_ble_eq_true rfl)]
  exact g_J0_charAt_5068e_0 h
theorem dJ0_indexOf_0f7a4_0 : decode cJ0_indexOf_0f7a4 0 = .ok (.aload_n 0, 1) := by decide +kernel
theorem dJ0_indexOf_0f7a4_1 : decode cJ0_indexOf_0f7a4 1 = .ok (.iload_n 1, 1) := by decide +kernel
theorem dJ0_indexOf_0f7a4_2 : decode cJ0_indexOf_0f7a4 2 = .ok (.iconst 0, 1) := by decide +kernel
theorem dJ0_indexOf_0f7a4_3 : decode cJ0_indexOf_0f7a4 3 = .ok (.invokevirtual 633, 3) := by decide +kernel
theorem dJ0_indexOf_0f7a4_6 : decode cJ0_indexOf_0f7a4 6 = .ok (.ireturn, 1) := by decide +kernel
abbrev x_J0_indexOf_0f7a4 : Cx := (9, cJ0_indexOf_0f7a4, false, some (.int))
set_option maxRecDepth 10000 in
theorem g_J0_indexOf_0f7a4_0 {E : Ev} {d : Nat} {G : Hp} {Q : Po} {x0 : Nat} {x1 : Int32} (h : (rcv E G x0 9 = true ∧ (qCI E d i_J0_indexOf_7cf53 [.ref x0, .int x1, .int ((iv 0))] G fun v2 G1 => Q (some (.int v2)) G1))) : Xr E d x_J0_indexOf_0f7a4 0 [some (.ref x0), some (.int x1)] [] G Q := by
  refine r_aload_n dJ0_indexOf_0f7a4_0 rfl ?_
  refine r_iload_n dJ0_indexOf_0f7a4_1 rfl ?_
  refine r_iconst dJ0_indexOf_0f7a4_2 ?_
  refine r_cI dJ0_indexOf_0f7a4_3 rfl (invV_eq rfl rfl rfl rfl rfl rfl ⟨rfl, Nat.le_of_ble_eq_true rfl⟩ h.1) (qCI_imp (fun v2 G1 h => ?_) h.2)
  exact r_iret dJ0_indexOf_0f7a4_6 rfl ⟨rfl, h⟩
theorem e_J0_indexOf_0f7a4 {E : Ev} {d : Nat} {G : Hp} {Q : Po} {x0 : Nat} {x1 : Int32} (h : (rcv E G x0 9 = true ∧ (qCI E d i_J0_indexOf_7cf53 [.ref x0, .int x1, .int ((iv 0))] G fun v2 G1 => Q (some (.int v2)) G1))) : runs E (d + 1) i_J0_indexOf_0f7a4 [.ref x0, .int x1] G Q := by
  rw [runs_eq (m := (yJ0_indexOf_0f7a4, cJ0_indexOf_0f7a4, 2, some (.int), 1, 9, false, false)) rfl (Nat.le_of_ble_eq_true rfl)]
  exact g_J0_indexOf_0f7a4_0 h
theorem dJ0_indexOf_7cf53_0 : decode cJ0_indexOf_7cf53 0 = .ok (.aload_n 0, 1) := by decide +kernel
theorem dJ0_indexOf_7cf53_1 : decode cJ0_indexOf_7cf53 1 = .ok (.invokevirtual 492, 3) := by decide +kernel
theorem dJ0_indexOf_7cf53_4 : decode cJ0_indexOf_7cf53 4 = .ok (.ifCond .eq 19, 3) := by decide +kernel
theorem dJ0_indexOf_7cf53_7 : decode cJ0_indexOf_7cf53 7 = .ok (.aload_n 0, 1) := by decide +kernel
theorem dJ0_indexOf_7cf53_8 : decode cJ0_indexOf_7cf53 8 = .ok (.getfield 9, 3) := by decide +kernel
theorem dJ0_indexOf_7cf53_11 : decode cJ0_indexOf_7cf53 11 = .ok (.iload_n 1, 1) := by decide +kernel
theorem dJ0_indexOf_7cf53_12 : decode cJ0_indexOf_7cf53 12 = .ok (.iload_n 2, 1) := by decide +kernel
theorem dJ0_indexOf_7cf53_13 : decode cJ0_indexOf_7cf53 13 = .ok (.aload_n 0, 1) := by decide +kernel
theorem dJ0_indexOf_7cf53_14 : decode cJ0_indexOf_7cf53 14 = .ok (.invokevirtual 505, 3) := by decide +kernel
theorem dJ0_indexOf_7cf53_17 : decode cJ0_indexOf_7cf53 17 = .ok (.invokestatic 637, 3) := by decide +kernel
theorem dJ0_indexOf_7cf53_20 : decode cJ0_indexOf_7cf53 20 = .ok (.goto 16, 3) := by decide +kernel
theorem dJ0_indexOf_7cf53_23 : decode cJ0_indexOf_7cf53 23 = .ok (.aload_n 0, 1) := by decide +kernel
theorem dJ0_indexOf_7cf53_24 : decode cJ0_indexOf_7cf53 24 = .ok (.getfield 9, 3) := by decide +kernel
theorem dJ0_indexOf_7cf53_27 : decode cJ0_indexOf_7cf53 27 = .ok (.iload_n 1, 1) := by decide +kernel
theorem dJ0_indexOf_7cf53_28 : decode cJ0_indexOf_7cf53 28 = .ok (.iload_n 2, 1) := by decide +kernel
theorem dJ0_indexOf_7cf53_29 : decode cJ0_indexOf_7cf53 29 = .ok (.aload_n 0, 1) := by decide +kernel
theorem dJ0_indexOf_7cf53_30 : decode cJ0_indexOf_7cf53 30 = .ok (.invokevirtual 505, 3) := by decide +kernel
theorem dJ0_indexOf_7cf53_33 : decode cJ0_indexOf_7cf53 33 = .ok (.invokestatic 640, 3) := by decide +kernel
theorem dJ0_indexOf_7cf53_36 : decode cJ0_indexOf_7cf53 36 = .ok (.ireturn, 1) := by decide +kernel
abbrev x_J0_indexOf_7cf53 : Cx := (9, cJ0_indexOf_7cf53, false, some (.int))
set_option maxRecDepth 10000 in
theorem g_J0_indexOf_7cf53_0 {E : Ev} {d : Nat} {G : Hp} {Q : Po} {x0 : Nat} {x1 : Int32} {x2 : Int32} (h : (rcv E G x0 9 = true ∧ (qCI E d i_J0_isLatin1_aae02 [.ref x0] G fun v2 G1 => (if v2 = 0 then ((gt E G1 x0 = none ∧ x0 = eS E) ∧ (rcv E G1 x0 9 = true ∧ (qCI E d i_J0_length_8abf5 [.ref x0] G1 fun v4 G3 => False))) else ((gt E G1 x0 = none ∧ x0 = eS E) ∧ (rcv E G1 x0 9 = true ∧ (qCI E d i_J0_length_8abf5 [.ref x0] G1 fun v6 G5 => (qCI E d i_J1_indexOf_4cfef [.ref ((eV E)), .int x1, .int x2, .int v6] G5 fun v8 G7 => Q (some (.int v8)) G7)))))))) : Xr E d x_J0_indexOf_7cf53 0 [some (.ref x0), some (.int x1), some (.int x2)] [] G Q := by
  refine r_aload_n dJ0_indexOf_7cf53_0 rfl ?_
  refine r_cI dJ0_indexOf_7cf53_1 rfl (invV_eq rfl rfl rfl rfl rfl rfl ⟨rfl, Nat.le_of_ble_eq_true rfl⟩ h.1) (qCI_imp (fun v2 G1 h => ?_) h.2)
  refine r_ifeq (tgt := 23) dJ0_indexOf_7cf53_4 (by decide) (ite_imp (fun h => ?_) (fun h => ?_) h)
  · refine r_aload_n dJ0_indexOf_7cf53_23 rfl ?_
    obtain ⟨⟨hgn, hes⟩, h⟩ := h
    refine r_getH (v := .ref ((eV E))) dJ0_indexOf_7cf53_24 rfl (by rw [hes]; exact hT_9) ⟨hgn, ?_⟩
    refine r_iload_n dJ0_indexOf_7cf53_27 rfl ?_
    refine r_iload_n dJ0_indexOf_7cf53_28 rfl ?_
    refine r_aload_n dJ0_indexOf_7cf53_29 rfl ?_
    refine r_cI dJ0_indexOf_7cf53_30 rfl (invV_eq rfl rfl rfl rfl rfl rfl ⟨rfl, Nat.le_of_ble_eq_true rfl⟩ h.1) (qCI_imp (fun v4 G3 h => ?_) h.2)
    exact h.elim
  · refine r_aload_n dJ0_indexOf_7cf53_7 rfl ?_
    obtain ⟨⟨hgn, hes⟩, h⟩ := h
    refine r_getH (v := .ref ((eV E))) dJ0_indexOf_7cf53_8 rfl (by rw [hes]; exact hT_9) ⟨hgn, ?_⟩
    refine r_iload_n dJ0_indexOf_7cf53_11 rfl ?_
    refine r_iload_n dJ0_indexOf_7cf53_12 rfl ?_
    refine r_aload_n dJ0_indexOf_7cf53_13 rfl ?_
    refine r_cI dJ0_indexOf_7cf53_14 rfl (invV_eq rfl rfl rfl rfl rfl rfl ⟨rfl, Nat.le_of_ble_eq_true rfl⟩ h.1) (qCI_imp (fun v6 G5 h => ?_) h.2)
    refine r_cI dJ0_indexOf_7cf53_17 rfl (invS_eq rfl (by decide) rfl rfl rfl rfl ⟨rfl, Nat.le_of_ble_eq_true rfl⟩) (qCI_imp (fun v8 G7 h => ?_) h)
    refine r_goto (tgt := 36) dJ0_indexOf_7cf53_20 (by decide) ?_
    exact r_iret dJ0_indexOf_7cf53_36 rfl ⟨rfl, h⟩
theorem e_J0_indexOf_7cf53 {E : Ev} {d : Nat} {G : Hp} {Q : Po} {x0 : Nat} {x1 : Int32} {x2 : Int32} (h : (rcv E G x0 9 = true ∧ (qCI E d i_J0_isLatin1_aae02 [.ref x0] G fun v2 G1 => (if v2 = 0 then ((gt E G1 x0 = none ∧ x0 = eS E) ∧ (rcv E G1 x0 9 = true ∧ (qCI E d i_J0_length_8abf5 [.ref x0] G1 fun v4 G3 => False))) else ((gt E G1 x0 = none ∧ x0 = eS E) ∧ (rcv E G1 x0 9 = true ∧ (qCI E d i_J0_length_8abf5 [.ref x0] G1 fun v6 G5 => (qCI E d i_J1_indexOf_4cfef [.ref ((eV E)), .int x1, .int x2, .int v6] G5 fun v8 G7 => Q (some (.int v8)) G7)))))))) : runs E (d + 1) i_J0_indexOf_7cf53 [.ref x0, .int x1, .int x2] G Q := by
  rw [runs_eq (m := (yJ0_indexOf_7cf53, cJ0_indexOf_7cf53, 3, some (.int), 2, 9, false, false)) rfl (Nat.le_of_ble_eq_true rfl)]
  exact g_J0_indexOf_7cf53_0 h
theorem dJ0_coder_7d493_0 : decode cJ0_coder_7d493 0 = .ok (.getstatic 38, 3) := by decide +kernel
theorem dJ0_coder_7d493_3 : decode cJ0_coder_7d493 3 = .ok (.ifCond .eq 10, 3) := by decide +kernel
theorem dJ0_coder_7d493_6 : decode cJ0_coder_7d493 6 = .ok (.aload_n 0, 1) := by decide +kernel
theorem dJ0_coder_7d493_7 : decode cJ0_coder_7d493 7 = .ok (.getfield 15, 3) := by decide +kernel
theorem dJ0_coder_7d493_10 : decode cJ0_coder_7d493 10 = .ok (.goto 4, 3) := by decide +kernel
theorem dJ0_coder_7d493_13 : decode cJ0_coder_7d493 13 = .ok (.iconst 1, 1) := by decide +kernel
theorem dJ0_coder_7d493_14 : decode cJ0_coder_7d493 14 = .ok (.ireturn, 1) := by decide +kernel
abbrev x_J0_coder_7d493 : Cx := (9, cJ0_coder_7d493, false, some (.byte))
set_option maxRecDepth 10000 in
theorem g_J0_coder_7d493_0 {E : Ev} {d : Nat} {G : Hp} {Q : Po} {x0 : Nat} (h : (if (iv 1) = 0 then Q (some (.int (iv 1))) G else ((gt E G x0 = none ∧ x0 = eS E) ∧ Q (some (.int (iv 0))) G))) : Xr E d x_J0_coder_7d493 0 [some (.ref x0)] [] G Q := by
  refine r_gets dJ0_coder_7d493_0 rfl ?_
  refine r_ifeq (tgt := 13) dJ0_coder_7d493_3 (by decide) (ite_imp (fun h => ?_) (fun h => ?_) h)
  · refine r_iconst dJ0_coder_7d493_13 ?_
    exact r_iret dJ0_coder_7d493_14 rfl ⟨rfl, h⟩
  · refine r_aload_n dJ0_coder_7d493_6 rfl ?_
    obtain ⟨⟨hgn, hes⟩, h⟩ := h
    refine r_getH (v := .int ((iv 0))) dJ0_coder_7d493_7 rfl (by rw [hes]; exact hT_15) ⟨hgn, ?_⟩
    refine r_goto (tgt := 14) dJ0_coder_7d493_10 (by decide) ?_
    exact r_iret dJ0_coder_7d493_14 rfl ⟨rfl, h⟩
theorem e_J0_coder_7d493 {E : Ev} {d : Nat} {G : Hp} {Q : Po} {x0 : Nat} (h : (if (iv 1) = 0 then Q (some (.int (iv 1))) G else ((gt E G x0 = none ∧ x0 = eS E) ∧ Q (some (.int (iv 0))) G))) : runs E (d + 1) i_J0_coder_7d493 [.ref x0] G Q := by
  rw [runs_eq (m := (yJ0_coder_7d493, cJ0_coder_7d493, 1, some (.byte), 0, 9, false, false)) rfl (Nat.le_of_ble_eq_true rfl)]
  exact g_J0_coder_7d493_0 h
theorem dJ0_isLatin1_aae02_0 : decode cJ0_isLatin1_aae02 0 = .ok (.getstatic 38, 3) := by decide +kernel
theorem dJ0_isLatin1_aae02_3 : decode cJ0_isLatin1_aae02 3 = .ok (.ifCond .eq 14, 3) := by decide +kernel
theorem dJ0_isLatin1_aae02_6 : decode cJ0_isLatin1_aae02 6 = .ok (.aload_n 0, 1) := by decide +kernel
theorem dJ0_isLatin1_aae02_7 : decode cJ0_isLatin1_aae02 7 = .ok (.getfield 15, 3) := by decide +kernel
theorem dJ0_isLatin1_aae02_10 : decode cJ0_isLatin1_aae02 10 = .ok (.ifCond .ne 7, 3) := by decide +kernel
theorem dJ0_isLatin1_aae02_13 : decode cJ0_isLatin1_aae02 13 = .ok (.iconst 1, 1) := by decide +kernel
theorem dJ0_isLatin1_aae02_14 : decode cJ0_isLatin1_aae02 14 = .ok (.goto 4, 3) := by decide +kernel
theorem dJ0_isLatin1_aae02_17 : decode cJ0_isLatin1_aae02 17 = .ok (.iconst 0, 1) := by decide +kernel
theorem dJ0_isLatin1_aae02_18 : decode cJ0_isLatin1_aae02 18 = .ok (.ireturn, 1) := by decide +kernel
abbrev x_J0_isLatin1_aae02 : Cx := (9, cJ0_isLatin1_aae02, false, some (.boolean))
set_option maxRecDepth 10000 in
theorem g_J0_isLatin1_aae02_0 {E : Ev} {d : Nat} {G : Hp} {Q : Po} {x0 : Nat} (h : (if (iv 1) = 0 then Q (some (.int (iv 0))) G else ((gt E G x0 = none ∧ x0 = eS E) ∧ (if ¬ (iv 0) = 0 then Q (some (.int (iv 0))) G else Q (some (.int (iv 1))) G)))) : Xr E d x_J0_isLatin1_aae02 0 [some (.ref x0)] [] G Q := by
  refine r_gets dJ0_isLatin1_aae02_0 rfl ?_
  refine r_ifeq (tgt := 17) dJ0_isLatin1_aae02_3 (by decide) (ite_imp (fun h => ?_) (fun h => ?_) h)
  · refine r_iconst dJ0_isLatin1_aae02_17 ?_
    exact r_iret dJ0_isLatin1_aae02_18 rfl ⟨rfl, h⟩
  · refine r_aload_n dJ0_isLatin1_aae02_6 rfl ?_
    obtain ⟨⟨hgn, hes⟩, h⟩ := h
    refine r_getH (v := .int ((iv 0))) dJ0_isLatin1_aae02_7 rfl (by rw [hes]; exact hT_15) ⟨hgn, ?_⟩
    refine r_ifne (tgt := 17) dJ0_isLatin1_aae02_10 (by decide) (ite_imp (fun h => ?_) (fun h => ?_) h)
    · refine r_iconst dJ0_isLatin1_aae02_17 ?_
      exact r_iret dJ0_isLatin1_aae02_18 rfl ⟨rfl, h⟩
    · refine r_iconst dJ0_isLatin1_aae02_13 ?_
      refine r_goto (tgt := 18) dJ0_isLatin1_aae02_14 (by decide) ?_
      exact r_iret dJ0_isLatin1_aae02_18 rfl ⟨rfl, h⟩
theorem e_J0_isLatin1_aae02 {E : Ev} {d : Nat} {G : Hp} {Q : Po} {x0 : Nat} (h : (if (iv 1) = 0 then Q (some (.int (iv 0))) G else ((gt E G x0 = none ∧ x0 = eS E) ∧ (if ¬ (iv 0) = 0 then Q (some (.int (iv 0))) G else Q (some (.int (iv 1))) G)))) : runs E (d + 1) i_J0_isLatin1_aae02 [.ref x0] G Q := by
  rw [runs_eq (m := (yJ0_isLatin1_aae02, cJ0_isLatin1_aae02, 1, some (.boolean), 0, 9, false, false)) rfl (Nat.le_of_ble_eq_true rfl)]
  exact g_J0_isLatin1_aae02_0 h
theorem dJ1_charAt_3b067_0 : decode cJ1_charAt_3b067 0 = .ok (.iload_n 1, 1) := by decide +kernel
theorem dJ1_charAt_3b067_1 : decode cJ1_charAt_3b067 1 = .ok (.aload_n 0, 1) := by decide +kernel
theorem dJ1_charAt_3b067_2 : decode cJ1_charAt_3b067 2 = .ok (.arraylength, 1) := by decide +kernel
theorem dJ1_charAt_3b067_3 : decode cJ1_charAt_3b067 3 = .ok (.invokestatic 9, 3) := by decide +kernel
theorem dJ1_charAt_3b067_6 : decode cJ1_charAt_3b067 6 = .ok (.aload_n 0, 1) := by decide +kernel
theorem dJ1_charAt_3b067_7 : decode cJ1_charAt_3b067 7 = .ok (.iload_n 1, 1) := by decide +kernel
theorem dJ1_charAt_3b067_8 : decode cJ1_charAt_3b067 8 = .ok (.baload, 1) := by decide +kernel
theorem dJ1_charAt_3b067_9 : decode cJ1_charAt_3b067 9 = .ok (.sipush 255, 3) := by decide +kernel
theorem dJ1_charAt_3b067_12 : decode cJ1_charAt_3b067 12 = .ok (.iand, 1) := by decide +kernel
theorem dJ1_charAt_3b067_13 : decode cJ1_charAt_3b067 13 = .ok (.i2c, 1) := by decide +kernel
theorem dJ1_charAt_3b067_14 : decode cJ1_charAt_3b067 14 = .ok (.ireturn, 1) := by decide +kernel
abbrev x_J1_charAt_3b067 : Cx := (10, cJ1_charAt_3b067, false, some (.char))
set_option maxRecDepth 10000 in
theorem g_J1_charAt_3b067_0 {E : Ev} {d : Nat} {G : Hp} {Q : Po} {x0 : Nat} {x1 : Int32} (h : (qL 10 E G x0 fun v1 => (qCV E d i_J0_checkIndex_df160 [.int x1, .int v1] G fun G2 => (qBA E G2 x0 x1 fun v3 => (narrow .char (.int ((((v3 &&& (iv 255))).toUInt32 % 65536).toInt32)) = .int ((((v3 &&& (iv 255))).toUInt32 % 65536).toInt32) ∧ Q (some (.int ((((v3 &&& (iv 255))).toUInt32 % 65536).toInt32))) G2))))) : Xr E d x_J1_charAt_3b067 0 [some (.ref x0), some (.int x1)] [] G Q := by
  refine r_iload_n dJ1_charAt_3b067_0 rfl ?_
  refine r_aload_n dJ1_charAt_3b067_1 rfl ?_
  refine r_alen dJ1_charAt_3b067_2 (qL_imp (fun v1 h => ?_) h)
  refine r_cV dJ1_charAt_3b067_3 rfl (invS_eq rfl (by decide) rfl rfl rfl rfl ⟨rfl, Nat.le_of_ble_eq_true rfl⟩) (qCV_imp (fun G2 h => ?_) h)
  refine r_aload_n dJ1_charAt_3b067_6 rfl ?_
  refine r_iload_n dJ1_charAt_3b067_7 rfl ?_
  refine r_bald dJ1_charAt_3b067_8 (qBA_imp (fun v3 h => ?_) h)
  refine r_sipush dJ1_charAt_3b067_9 rfl ?_
  refine r_iand dJ1_charAt_3b067_12 ?_
  refine r_i2c dJ1_charAt_3b067_13 ?_
  exact r_iret dJ1_charAt_3b067_14 rfl h
theorem e_J1_charAt_3b067 {E : Ev} {d : Nat} {G : Hp} {Q : Po} {x0 : Nat} {x1 : Int32} (h : (qL 10 E G x0 fun v1 => (qCV E d i_J0_checkIndex_df160 [.int x1, .int v1] G fun G2 => (qBA E G2 x0 x1 fun v3 => (narrow .char (.int ((((v3 &&& (iv 255))).toUInt32 % 65536).toInt32)) = .int ((((v3 &&& (iv 255))).toUInt32 % 65536).toInt32) ∧ Q (some (.int ((((v3 &&& (iv 255))).toUInt32 % 65536).toInt32))) G2))))) : runs E (d + 1) i_J1_charAt_3b067 [.ref x0, .int x1] G Q := by
  rw [runs_eq (m := (yJ1_charAt_3b067, cJ1_charAt_3b067, 2, some (.char), 2, 10, false, true)) rfl (Nat.le_of_ble_eq_true rfl)]
  exact g_J1_charAt_3b067_0 h
theorem dJ1_canEncode_9a6ad_0 : decode cJ1_canEncode_9a6ad 0 = .ok (.iload_n 0, 1) := by decide +kernel
theorem dJ1_canEncode_9a6ad_1 : decode cJ1_canEncode_9a6ad 1 = .ok (.ifCond .lt 14, 3) := by decide +kernel
theorem dJ1_canEncode_9a6ad_4 : decode cJ1_canEncode_9a6ad 4 = .ok (.iload_n 0, 1) := by decide +kernel
theorem dJ1_canEncode_9a6ad_5 : decode cJ1_canEncode_9a6ad 5 = .ok (.sipush 255, 3) := by decide +kernel
theorem dJ1_canEncode_9a6ad_8 : decode cJ1_canEncode_9a6ad 8 = .ok (.if_icmp .gt 7, 3) := by decide +kernel
theorem dJ1_canEncode_9a6ad_11 : decode cJ1_canEncode_9a6ad 11 = .ok (.iconst 1, 1) := by decide +kernel
theorem dJ1_canEncode_9a6ad_12 : decode cJ1_canEncode_9a6ad 12 = .ok (.goto 4, 3) := by decide +kernel
theorem dJ1_canEncode_9a6ad_15 : decode cJ1_canEncode_9a6ad 15 = .ok (.iconst 0, 1) := by decide +kernel
theorem dJ1_canEncode_9a6ad_16 : decode cJ1_canEncode_9a6ad 16 = .ok (.ireturn, 1) := by decide +kernel
abbrev x_J1_canEncode_9a6ad : Cx := (10, cJ1_canEncode_9a6ad, false, some (.boolean))
set_option maxRecDepth 10000 in
theorem g_J1_canEncode_9a6ad_0 {E : Ev} {d : Nat} {G : Hp} {Q : Po} {x0 : Int32} (h : (if x0 < 0 then Q (some (.int (iv 0))) G else (if (iv 255) < x0 then Q (some (.int (iv 0))) G else Q (some (.int (iv 1))) G))) : Xr E d x_J1_canEncode_9a6ad 0 [some (.int x0)] [] G Q := by
  refine r_iload_n dJ1_canEncode_9a6ad_0 rfl ?_
  refine r_iflt (tgt := 15) dJ1_canEncode_9a6ad_1 (by decide) (ite_imp (fun h => ?_) (fun h => ?_) h)
  · refine r_iconst dJ1_canEncode_9a6ad_15 ?_
    exact r_iret dJ1_canEncode_9a6ad_16 rfl ⟨rfl, h⟩
  · refine r_iload_n dJ1_canEncode_9a6ad_4 rfl ?_
    refine r_sipush dJ1_canEncode_9a6ad_5 rfl ?_
    refine r_cgt (tgt := 15) dJ1_canEncode_9a6ad_8 (by decide) (ite_imp (fun h => ?_) (fun h => ?_) h)
    · refine r_iconst dJ1_canEncode_9a6ad_15 ?_
      exact r_iret dJ1_canEncode_9a6ad_16 rfl ⟨rfl, h⟩
    · refine r_iconst dJ1_canEncode_9a6ad_11 ?_
      refine r_goto (tgt := 16) dJ1_canEncode_9a6ad_12 (by decide) ?_
      exact r_iret dJ1_canEncode_9a6ad_16 rfl ⟨rfl, h⟩
theorem e_J1_canEncode_9a6ad {E : Ev} {d : Nat} {G : Hp} {Q : Po} {x0 : Int32} (h : (if x0 < 0 then Q (some (.int (iv 0))) G else (if (iv 255) < x0 then Q (some (.int (iv 0))) G else Q (some (.int (iv 1))) G))) : runs E (d + 1) i_J1_canEncode_9a6ad [.int x0] G Q := by
  rw [runs_eq (m := (yJ1_canEncode_9a6ad, cJ1_canEncode_9a6ad, 1, some (.boolean), 1, 10, false, true)) rfl (Nat.le_of_ble_eq_true rfl)]
  exact g_J1_canEncode_9a6ad_0 h
theorem dJ1_indexOf_4cfef_0 : decode cJ1_indexOf_4cfef 0 = .ok (.iload_n 1, 1) := by decide +kernel
theorem dJ1_indexOf_4cfef_1 : decode cJ1_indexOf_4cfef 1 = .ok (.invokestatic 88, 3) := by decide +kernel
theorem dJ1_indexOf_4cfef_4 : decode cJ1_indexOf_4cfef 4 = .ok (.ifCond .ne 5, 3) := by decide +kernel
theorem dJ1_indexOf_4cfef_7 : decode cJ1_indexOf_4cfef 7 = .ok (.iconst (-1), 1) := by decide +kernel
theorem dJ1_indexOf_4cfef_8 : decode cJ1_indexOf_4cfef 8 = .ok (.ireturn, 1) := by decide +kernel
theorem dJ1_indexOf_4cfef_9 : decode cJ1_indexOf_4cfef 9 = .ok (.iload_n 2, 1) := by decide +kernel
theorem dJ1_indexOf_4cfef_10 : decode cJ1_indexOf_4cfef 10 = .ok (.iconst 0, 1) := by decide +kernel
theorem dJ1_indexOf_4cfef_11 : decode cJ1_indexOf_4cfef 11 = .ok (.invokestatic 92, 3) := by decide +kernel
theorem dJ1_indexOf_4cfef_14 : decode cJ1_indexOf_4cfef 14 = .ok (.istore_n 2, 1) := by decide +kernel
theorem dJ1_indexOf_4cfef_15 : decode cJ1_indexOf_4cfef 15 = .ok (.iload_n 3, 1) := by decide +kernel
theorem dJ1_indexOf_4cfef_16 : decode cJ1_indexOf_4cfef 16 = .ok (.aload_n 0, 1) := by decide +kernel
theorem dJ1_indexOf_4cfef_17 : decode cJ1_indexOf_4cfef 17 = .ok (.arraylength, 1) := by decide +kernel
theorem dJ1_indexOf_4cfef_18 : decode cJ1_indexOf_4cfef 18 = .ok (.invokestatic 38, 3) := by decide +kernel
theorem dJ1_indexOf_4cfef_21 : decode cJ1_indexOf_4cfef 21 = .ok (.istore_n 3, 1) := by decide +kernel
theorem dJ1_indexOf_4cfef_22 : decode cJ1_indexOf_4cfef 22 = .ok (.iload_n 2, 1) := by decide +kernel
theorem dJ1_indexOf_4cfef_23 : decode cJ1_indexOf_4cfef 23 = .ok (.iload_n 3, 1) := by decide +kernel
theorem dJ1_indexOf_4cfef_24 : decode cJ1_indexOf_4cfef 24 = .ok (.if_icmp .lt 5, 3) := by decide +kernel
theorem dJ1_indexOf_4cfef_27 : decode cJ1_indexOf_4cfef 27 = .ok (.iconst (-1), 1) := by decide +kernel
theorem dJ1_indexOf_4cfef_28 : decode cJ1_indexOf_4cfef 28 = .ok (.ireturn, 1) := by decide +kernel
theorem dJ1_indexOf_4cfef_29 : decode cJ1_indexOf_4cfef 29 = .ok (.aload_n 0, 1) := by decide +kernel
theorem dJ1_indexOf_4cfef_30 : decode cJ1_indexOf_4cfef 30 = .ok (.iload_n 1, 1) := by decide +kernel
theorem dJ1_indexOf_4cfef_31 : decode cJ1_indexOf_4cfef 31 = .ok (.iload_n 2, 1) := by decide +kernel
theorem dJ1_indexOf_4cfef_32 : decode cJ1_indexOf_4cfef 32 = .ok (.iload_n 3, 1) := by decide +kernel
theorem dJ1_indexOf_4cfef_33 : decode cJ1_indexOf_4cfef 33 = .ok (.invokestatic 95, 3) := by decide +kernel
theorem dJ1_indexOf_4cfef_36 : decode cJ1_indexOf_4cfef 36 = .ok (.ireturn, 1) := by decide +kernel
abbrev x_J1_indexOf_4cfef : Cx := (10, cJ1_indexOf_4cfef, false, some (.int))
set_option maxRecDepth 10000 in
theorem g_J1_indexOf_4cfef_0 {E : Ev} {d : Nat} {G : Hp} {Q : Po} {x0 : Nat} {x1 : Int32} {x2 : Int32} {x3 : Int32} (h : (qCI E d i_J1_canEncode_9a6ad [.int x1] G fun v2 G1 => (if ¬ v2 = 0 then (qL 10 E G1 x0 fun v3 => (if (imax x2 (iv 0)) < (imin x3 v3) then (qCI E d i_J1_indexOfChar_4cfef [.ref x0, .int x1, .int ((imax x2 (iv 0))), .int ((imin x3 v3))] G1 fun v5 G4 => Q (some (.int v5)) G4) else Q (some (.int (iv (-1)))) G1)) else Q (some (.int (iv (-1)))) G1))) : Xr E d x_J1_indexOf_4cfef 0 [some (.ref x0), some (.int x1), some (.int x2), some (.int x3)] [] G Q := by
  refine r_iload_n dJ1_indexOf_4cfef_0 rfl ?_
  refine r_cI dJ1_indexOf_4cfef_1 rfl (invS_eq rfl (by decide) rfl rfl rfl rfl ⟨rfl, Nat.le_of_ble_eq_true rfl⟩) (qCI_imp (fun v2 G1 h => ?_) h)
  refine r_ifne (tgt := 9) dJ1_indexOf_4cfef_4 (by decide) (ite_imp (fun h => ?_) (fun h => ?_) h)
  · refine r_iload_n dJ1_indexOf_4cfef_9 rfl ?_
    refine r_iconst dJ1_indexOf_4cfef_10 ?_
    refine r_max dJ1_indexOf_4cfef_11 rfl (Nat.le_of_ble_eq_true rfl) ?_
    refine r_istore_n dJ1_indexOf_4cfef_14 rfl ?_
    refine r_iload_n dJ1_indexOf_4cfef_15 rfl ?_
    refine r_aload_n dJ1_indexOf_4cfef_16 rfl ?_
    refine r_alen dJ1_indexOf_4cfef_17 (qL_imp (fun v3 h => ?_) h)
    refine r_min dJ1_indexOf_4cfef_18 rfl (Nat.le_of_ble_eq_true rfl) ?_
    refine r_istore_n dJ1_indexOf_4cfef_21 rfl ?_
    refine r_iload_n dJ1_indexOf_4cfef_22 rfl ?_
    refine r_iload_n dJ1_indexOf_4cfef_23 rfl ?_
    refine r_clt (tgt := 29) dJ1_indexOf_4cfef_24 (by decide) (ite_imp (fun h => ?_) (fun h => ?_) h)
    · refine r_aload_n dJ1_indexOf_4cfef_29 rfl ?_
      refine r_iload_n dJ1_indexOf_4cfef_30 rfl ?_
      refine r_iload_n dJ1_indexOf_4cfef_31 rfl ?_
      refine r_iload_n dJ1_indexOf_4cfef_32 rfl ?_
      refine r_cI dJ1_indexOf_4cfef_33 rfl (invS_eq rfl (by decide) rfl rfl rfl rfl ⟨rfl, Nat.le_of_ble_eq_true rfl⟩) (qCI_imp (fun v5 G4 h => ?_) h)
      exact r_iret dJ1_indexOf_4cfef_36 rfl ⟨rfl, h⟩
    · refine r_iconst dJ1_indexOf_4cfef_27 ?_
      exact r_iret dJ1_indexOf_4cfef_28 rfl ⟨rfl, h⟩
  · refine r_iconst dJ1_indexOf_4cfef_7 ?_
    exact r_iret dJ1_indexOf_4cfef_8 rfl ⟨rfl, h⟩
theorem e_J1_indexOf_4cfef {E : Ev} {d : Nat} {G : Hp} {Q : Po} {x0 : Nat} {x1 : Int32} {x2 : Int32} {x3 : Int32} (h : (qCI E d i_J1_canEncode_9a6ad [.int x1] G fun v2 G1 => (if ¬ v2 = 0 then (qL 10 E G1 x0 fun v3 => (if (imax x2 (iv 0)) < (imin x3 v3) then (qCI E d i_J1_indexOfChar_4cfef [.ref x0, .int x1, .int ((imax x2 (iv 0))), .int ((imin x3 v3))] G1 fun v5 G4 => Q (some (.int v5)) G4) else Q (some (.int (iv (-1)))) G1)) else Q (some (.int (iv (-1)))) G1))) : runs E (d + 1) i_J1_indexOf_4cfef [.ref x0, .int x1, .int x2, .int x3] G Q := by
  rw [runs_eq (m := (yJ1_indexOf_4cfef, cJ1_indexOf_4cfef, 4, some (.int), 4, 10, false, true)) rfl (Nat.le_of_ble_eq_true rfl)]
  exact g_J1_indexOf_4cfef_0 h
theorem dJ1_indexOfChar_4cfef_0 : decode cJ1_indexOfChar_4cfef 0 = .ok (.iload_n 1, 1) := by decide +kernel
theorem dJ1_indexOfChar_4cfef_1 : decode cJ1_indexOfChar_4cfef 1 = .ok (.i2b, 1) := by decide +kernel
theorem dJ1_indexOfChar_4cfef_2 : decode cJ1_indexOfChar_4cfef 2 = .ok (.istore 4, 2) := by decide +kernel
theorem dJ1_indexOfChar_4cfef_4 : decode cJ1_indexOfChar_4cfef 4 = .ok (.iload_n 2, 1) := by decide +kernel
theorem dJ1_indexOfChar_4cfef_5 : decode cJ1_indexOfChar_4cfef 5 = .ok (.istore 5, 2) := by decide +kernel
theorem dJ1_indexOfChar_4cfef_7 : decode cJ1_indexOfChar_4cfef 7 = .ok (.iload 5, 2) := by decide +kernel
theorem dJ1_indexOfChar_4cfef_9 : decode cJ1_indexOfChar_4cfef 9 = .ok (.iload_n 3, 1) := by decide +kernel
theorem dJ1_indexOfChar_4cfef_10 : decode cJ1_indexOfChar_4cfef 10 = .ok (.if_icmp .ge 21, 3) := by decide +kernel
theorem dJ1_indexOfChar_4cfef_13 : decode cJ1_indexOfChar_4cfef 13 = .ok (.aload_n 0, 1) := by decide +kernel
theorem dJ1_indexOfChar_4cfef_14 : decode cJ1_indexOfChar_4cfef 14 = .ok (.iload 5, 2) := by decide +kernel
theorem dJ1_indexOfChar_4cfef_16 : decode cJ1_indexOfChar_4cfef 16 = .ok (.baload, 1) := by decide +kernel
theorem dJ1_indexOfChar_4cfef_17 : decode cJ1_indexOfChar_4cfef 17 = .ok (.iload 4, 2) := by decide +kernel
theorem dJ1_indexOfChar_4cfef_19 : decode cJ1_indexOfChar_4cfef 19 = .ok (.if_icmp .ne 6, 3) := by decide +kernel
theorem dJ1_indexOfChar_4cfef_22 : decode cJ1_indexOfChar_4cfef 22 = .ok (.iload 5, 2) := by decide +kernel
theorem dJ1_indexOfChar_4cfef_24 : decode cJ1_indexOfChar_4cfef 24 = .ok (.ireturn, 1) := by decide +kernel
theorem dJ1_indexOfChar_4cfef_25 : decode cJ1_indexOfChar_4cfef 25 = .ok (.iinc 5 1, 3) := by decide +kernel
theorem dJ1_indexOfChar_4cfef_28 : decode cJ1_indexOfChar_4cfef 28 = .ok (.goto (-21), 3) := by decide +kernel
theorem dJ1_indexOfChar_4cfef_31 : decode cJ1_indexOfChar_4cfef 31 = .ok (.iconst (-1), 1) := by decide +kernel
theorem dJ1_indexOfChar_4cfef_32 : decode cJ1_indexOfChar_4cfef 32 = .ok (.ireturn, 1) := by decide +kernel
abbrev x_J1_indexOfChar_4cfef : Cx := (10, cJ1_indexOfChar_4cfef, false, some (.int))
set_option maxRecDepth 10000 in
theorem g_J1_indexOfChar_4cfef_0 {E : Ev} {d : Nat} {G : Hp} {Q : Po} {x0 : Nat} {x1 : Int32} {x2 : Int32} {x3 : Int32} (h : Xr E d x_J1_indexOfChar_4cfef 7 [some (.ref x0), some (.int x1), some (.int x2), some (.int x3), some (.int (((x1).toInt8.toInt32))), some (.int x2)] [] G Q) : Xr E d x_J1_indexOfChar_4cfef 0 [some (.ref x0), some (.int x1), some (.int x2), some (.int x3), none, none] [] G Q := by
  refine r_iload_n dJ1_indexOfChar_4cfef_0 rfl ?_
  refine r_i2b dJ1_indexOfChar_4cfef_1 ?_
  refine r_istore dJ1_indexOfChar_4cfef_2 rfl ?_
  refine r_iload_n dJ1_indexOfChar_4cfef_4 rfl ?_
  refine r_istore dJ1_indexOfChar_4cfef_5 rfl ?_
  exact h
theorem e_J1_indexOfChar_4cfef {E : Ev} {d : Nat} {G : Hp} {Q : Po} {x0 : Nat} {x1 : Int32} {x2 : Int32} {x3 : Int32} (h : Xr E d x_J1_indexOfChar_4cfef 7 [some (.ref x0), some (.int x1), some (.int x2), some (.int x3), some (.int (((x1).toInt8.toInt32))), some (.int x2)] [] G Q) : runs E (d + 1) i_J1_indexOfChar_4cfef [.ref x0, .int x1, .int x2, .int x3] G Q := by
  rw [runs_eq (m := (yJ1_indexOfChar_4cfef, cJ1_indexOfChar_4cfef, 6, some (.int), 4, 10, false, true)) rfl (Nat.le_of_ble_eq_true rfl)]
  exact g_J1_indexOfChar_4cfef_0 h
set_option maxRecDepth 10000 in
theorem g_J1_indexOfChar_4cfef_7 {E : Ev} {d : Nat} {G : Hp} {Q : Po} {x0 : Nat} {x1 : Int32} {x2 : Int32} {x3 : Int32} {x4 : Int32} {x5 : Int32} (h : (if x3 ≤ x5 then Q (some (.int (iv (-1)))) G else (qBA E G x0 x5 fun v1 => (if ¬ v1 = x4 then Xr E d x_J1_indexOfChar_4cfef 7 [some (.ref x0), some (.int x1), some (.int x2), some (.int x3), some (.int x4), some (.int ((x5 + (iv 1))))] [] G Q else Q (some (.int x5)) G)))) : Xr E d x_J1_indexOfChar_4cfef 7 [some (.ref x0), some (.int x1), some (.int x2), some (.int x3), some (.int x4), some (.int x5)] [] G Q := by
  refine r_iload dJ1_indexOfChar_4cfef_7 rfl ?_
  refine r_iload_n dJ1_indexOfChar_4cfef_9 rfl ?_
  refine r_cge (tgt := 31) dJ1_indexOfChar_4cfef_10 (by decide) (ite_imp (fun h => ?_) (fun h => ?_) h)
  · refine r_iconst dJ1_indexOfChar_4cfef_31 ?_
    exact r_iret dJ1_indexOfChar_4cfef_32 rfl ⟨rfl, h⟩
  · refine r_aload_n dJ1_indexOfChar_4cfef_13 rfl ?_
    refine r_iload dJ1_indexOfChar_4cfef_14 rfl ?_
    refine r_bald dJ1_indexOfChar_4cfef_16 (qBA_imp (fun v1 h => ?_) h)
    refine r_iload dJ1_indexOfChar_4cfef_17 rfl ?_
    refine r_cne (tgt := 25) dJ1_indexOfChar_4cfef_19 (by decide) (ite_imp (fun h => ?_) (fun h => ?_) h)
    · refine r_iinc dJ1_indexOfChar_4cfef_25 rfl rfl ?_
      refine r_goto (tgt := 7) dJ1_indexOfChar_4cfef_28 (by decide) ?_
      exact h
    · refine r_iload dJ1_indexOfChar_4cfef_22 rfl ?_
      exact r_iret dJ1_indexOfChar_4cfef_24 rfl ⟨rfl, h⟩
theorem dJ7_fill_53178_0 : decode cJ7_fill_53178 0 = .ok (.iconst 0, 1) := by decide +kernel
theorem dJ7_fill_53178_1 : decode cJ7_fill_53178 1 = .ok (.istore_n 2, 1) := by decide +kernel
theorem dJ7_fill_53178_2 : decode cJ7_fill_53178 2 = .ok (.aload_n 0, 1) := by decide +kernel
theorem dJ7_fill_53178_3 : decode cJ7_fill_53178 3 = .ok (.arraylength, 1) := by decide +kernel
theorem dJ7_fill_53178_4 : decode cJ7_fill_53178 4 = .ok (.istore_n 3, 1) := by decide +kernel
theorem dJ7_fill_53178_5 : decode cJ7_fill_53178 5 = .ok (.iload_n 2, 1) := by decide +kernel
theorem dJ7_fill_53178_6 : decode cJ7_fill_53178 6 = .ok (.iload_n 3, 1) := by decide +kernel
theorem dJ7_fill_53178_7 : decode cJ7_fill_53178 7 = .ok (.if_icmp .ge 13, 3) := by decide +kernel
theorem dJ7_fill_53178_10 : decode cJ7_fill_53178 10 = .ok (.aload_n 0, 1) := by decide +kernel
theorem dJ7_fill_53178_11 : decode cJ7_fill_53178 11 = .ok (.iload_n 2, 1) := by decide +kernel
theorem dJ7_fill_53178_12 : decode cJ7_fill_53178 12 = .ok (.iload_n 1, 1) := by decide +kernel
theorem dJ7_fill_53178_13 : decode cJ7_fill_53178 13 = .ok (.iastore, 1) := by decide +kernel
theorem dJ7_fill_53178_14 : decode cJ7_fill_53178 14 = .ok (.iinc 2 1, 3) := by decide +kernel
theorem dJ7_fill_53178_17 : decode cJ7_fill_53178 17 = .ok (.goto (-12), 3) := by decide +kernel
theorem dJ7_fill_53178_20 : decode cJ7_fill_53178 20 = .ok (.return_, 1) := by decide +kernel
abbrev x_J7_fill_53178 : Cx := (13, cJ7_fill_53178, false, none)
set_option maxRecDepth 10000 in
theorem g_J7_fill_53178_0 {E : Ev} {d : Nat} {G : Hp} {Q : Po} {x0 : Nat} {x1 : Int32} (h : (qL 13 E G x0 fun v1 => Xr E d x_J7_fill_53178 5 [some (.ref x0), some (.int x1), some (.int ((iv 0))), some (.int v1)] [] G Q)) : Xr E d x_J7_fill_53178 0 [some (.ref x0), some (.int x1), none, none] [] G Q := by
  refine r_iconst dJ7_fill_53178_0 ?_
  refine r_istore_n dJ7_fill_53178_1 rfl ?_
  refine r_aload_n dJ7_fill_53178_2 rfl ?_
  refine r_alen dJ7_fill_53178_3 (qL_imp (fun v1 h => ?_) h)
  refine r_istore_n dJ7_fill_53178_4 rfl ?_
  exact h
theorem e_J7_fill_53178 {E : Ev} {d : Nat} {G : Hp} {Q : Po} {x0 : Nat} {x1 : Int32} (h : (qL 13 E G x0 fun v1 => Xr E d x_J7_fill_53178 5 [some (.ref x0), some (.int x1), some (.int ((iv 0))), some (.int v1)] [] G Q)) : runs E (d + 1) i_J7_fill_53178 [.ref x0, .int x1] G Q := by
  rw [runs_eq (m := (yJ7_fill_53178, cJ7_fill_53178, 4, none, 2, 13, false, true)) rfl (Nat.le_of_ble_eq_true rfl)]
  exact g_J7_fill_53178_0 h
set_option maxRecDepth 10000 in
theorem g_J7_fill_53178_5 {E : Ev} {d : Nat} {G : Hp} {Q : Po} {x0 : Nat} {x1 : Int32} {x2 : Int32} {x3 : Int32} (h : (if x3 ≤ x2 then Q none G else (qIS E G x0 x2 x1 fun G1 => Xr E d x_J7_fill_53178 5 [some (.ref x0), some (.int x1), some (.int ((x2 + (iv 1)))), some (.int x3)] [] G1 Q))) : Xr E d x_J7_fill_53178 5 [some (.ref x0), some (.int x1), some (.int x2), some (.int x3)] [] G Q := by
  refine r_iload_n dJ7_fill_53178_5 rfl ?_
  refine r_iload_n dJ7_fill_53178_6 rfl ?_
  refine r_cge (tgt := 20) dJ7_fill_53178_7 (by decide) (ite_imp (fun h => ?_) (fun h => ?_) h)
  · exact r_vret dJ7_fill_53178_20 rfl h
  · refine r_aload_n dJ7_fill_53178_10 rfl ?_
    refine r_iload_n dJ7_fill_53178_11 rfl ?_
    refine r_iload_n dJ7_fill_53178_12 rfl ?_
    refine r_iast dJ7_fill_53178_13 (qIS_imp (fun G1 h => ?_) h)
    refine r_iinc dJ7_fill_53178_14 rfl rfl ?_
    refine r_goto (tgt := 5) dJ7_fill_53178_17 (by decide) ?_
    exact h
theorem dJ7_fill_031fb_0 : decode cJ7_fill_031fb 0 = .ok (.iconst 0, 1) := by decide +kernel
theorem dJ7_fill_031fb_1 : decode cJ7_fill_031fb 1 = .ok (.istore_n 2, 1) := by decide +kernel
theorem dJ7_fill_031fb_2 : decode cJ7_fill_031fb 2 = .ok (.aload_n 0, 1) := by decide +kernel
theorem dJ7_fill_031fb_3 : decode cJ7_fill_031fb 3 = .ok (.arraylength, 1) := by decide +kernel
theorem dJ7_fill_031fb_4 : decode cJ7_fill_031fb 4 = .ok (.istore_n 3, 1) := by decide +kernel
theorem dJ7_fill_031fb_5 : decode cJ7_fill_031fb 5 = .ok (.iload_n 2, 1) := by decide +kernel
theorem dJ7_fill_031fb_6 : decode cJ7_fill_031fb 6 = .ok (.iload_n 3, 1) := by decide +kernel
theorem dJ7_fill_031fb_7 : decode cJ7_fill_031fb 7 = .ok (.if_icmp .ge 13, 3) := by decide +kernel
theorem dJ7_fill_031fb_10 : decode cJ7_fill_031fb 10 = .ok (.aload_n 0, 1) := by decide +kernel
theorem dJ7_fill_031fb_11 : decode cJ7_fill_031fb 11 = .ok (.iload_n 2, 1) := by decide +kernel
theorem dJ7_fill_031fb_12 : decode cJ7_fill_031fb 12 = .ok (.iload_n 1, 1) := by decide +kernel
theorem dJ7_fill_031fb_13 : decode cJ7_fill_031fb 13 = .ok (.bastore, 1) := by decide +kernel
theorem dJ7_fill_031fb_14 : decode cJ7_fill_031fb 14 = .ok (.iinc 2 1, 3) := by decide +kernel
theorem dJ7_fill_031fb_17 : decode cJ7_fill_031fb 17 = .ok (.goto (-12), 3) := by decide +kernel
theorem dJ7_fill_031fb_20 : decode cJ7_fill_031fb 20 = .ok (.return_, 1) := by decide +kernel
abbrev x_J7_fill_031fb : Cx := (13, cJ7_fill_031fb, false, none)
set_option maxRecDepth 10000 in
theorem g_J7_fill_031fb_0 {E : Ev} {d : Nat} {G : Hp} {Q : Po} {x0 : Nat} {x1 : Int32} (h : (qL 13 E G x0 fun v1 => Xr E d x_J7_fill_031fb 5 [some (.ref x0), some (.int x1), some (.int ((iv 0))), some (.int v1)] [] G Q)) : Xr E d x_J7_fill_031fb 0 [some (.ref x0), some (.int x1), none, none] [] G Q := by
  refine r_iconst dJ7_fill_031fb_0 ?_
  refine r_istore_n dJ7_fill_031fb_1 rfl ?_
  refine r_aload_n dJ7_fill_031fb_2 rfl ?_
  refine r_alen dJ7_fill_031fb_3 (qL_imp (fun v1 h => ?_) h)
  refine r_istore_n dJ7_fill_031fb_4 rfl ?_
  exact h
theorem e_J7_fill_031fb {E : Ev} {d : Nat} {G : Hp} {Q : Po} {x0 : Nat} {x1 : Int32} (h : (qL 13 E G x0 fun v1 => Xr E d x_J7_fill_031fb 5 [some (.ref x0), some (.int x1), some (.int ((iv 0))), some (.int v1)] [] G Q)) : runs E (d + 1) i_J7_fill_031fb [.ref x0, .int x1] G Q := by
  rw [runs_eq (m := (yJ7_fill_031fb, cJ7_fill_031fb, 4, none, 2, 13, false, true)) rfl (Nat.le_of_ble_eq_true rfl)]
  exact g_J7_fill_031fb_0 h
set_option maxRecDepth 10000 in
theorem g_J7_fill_031fb_5 {E : Ev} {d : Nat} {G : Hp} {Q : Po} {x0 : Nat} {x1 : Int32} {x2 : Int32} {x3 : Int32} (h : (if x3 ≤ x2 then Q none G else (qBS E G x0 x2 x1 fun G1 => Xr E d x_J7_fill_031fb 5 [some (.ref x0), some (.int x1), some (.int ((x2 + (iv 1)))), some (.int x3)] [] G1 Q))) : Xr E d x_J7_fill_031fb 5 [some (.ref x0), some (.int x1), some (.int x2), some (.int x3)] [] G Q := by
  refine r_iload_n dJ7_fill_031fb_5 rfl ?_
  refine r_iload_n dJ7_fill_031fb_6 rfl ?_
  refine r_cge (tgt := 20) dJ7_fill_031fb_7 (by decide) (ite_imp (fun h => ?_) (fun h => ?_) h)
  · exact r_vret dJ7_fill_031fb_20 rfl h
  · refine r_aload_n dJ7_fill_031fb_10 rfl ?_
    refine r_iload_n dJ7_fill_031fb_11 rfl ?_
    refine r_iload_n dJ7_fill_031fb_12 rfl ?_
    refine r_bast dJ7_fill_031fb_13 (qBS_imp (fun G1 h => ?_) h)
    refine r_iinc dJ7_fill_031fb_14 rfl rfl ?_
    refine r_goto (tgt := 5) dJ7_fill_031fb_17 (by decide) ?_
    exact h
