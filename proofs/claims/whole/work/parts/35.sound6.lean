section SNM
variable {p : Program} {l : Launch} {e : Env} {R : Room} {s : State} {m : MethodId} {args : Array Value} {below : List Frame} {meth : Method} {c : Code} {Q : State → Prop} {E : Ev} {D : va_G} {Y : Yc} {nL N0 S0 : Nat} {cx : Cx} {pc : Nat} {lo : Lo} {t : List Value} {G : Hp} {r : Nat × Lo × List Value × Hp}
theorem ss_mna {x dm : Nat} (hM : MC p s m args meth c E D Y cx nL) (hd : decode cx.2.1 pc = .ok (.multianewarray x dm, 4)) (h : stpI E cx (.multianewarray x dm) pc lo t G = some (.inl r)) (hbd : r.2.2.2.1.length - N0 ≤ R.cells ∧ r.2.2.2.2 - S0 ≤ R.slots) (k : WP p l e R s m args below meth c Q E D Y nL N0 S0 r.1 r.2.1 r.2.2.1 r.2.2.2) : WP p l e R s m args below meth c Q E D Y nL N0 S0 pc lo t G := by
  sorry
end SNM
/-! THE WHOLE: a run of the abstract machine is one of the machine -/
section SNA
variable {p : Program} {l : Launch} {e : Env} {R : Room} {s : State} {m : MethodId} {args : Array Value} {below : List Frame} {meth : Method} {c : Code} {Q : State → Prop} {E : Ev} {D : va_G} {Y : Yc} {nL N0 S0 : Nat} {cx : Cx} {pc : Nat} {lo : Lo} {t : List Value} {G : Hp} {r : Nat × Lo × List Value × Hp}
set_option maxHeartbeats 4000000 in
theorem ss_all (hR : 1 ≤ R.frames ∧ 60 ≤ R.locals) (hM : MC p s m args meth c E D Y cx nL) {i : Instr} {n : Nat} (hd : decode cx.2.1 pc = .ok (i, n)) (hl : lenOk i n = true) (h : stpI E cx i pc lo t G = some (.inl r)) (hbd : r.2.2.2.1.length - N0 ≤ R.cells ∧ r.2.2.2.2 - S0 ≤ R.slots) (k : WP p l e R s m args below meth c Q E D Y nL N0 S0 r.1 r.2.1 r.2.2.1 r.2.2.2) : WP p l e R s m args below meth c Q E D Y nL N0 S0 pc lo t G := by
  cases i
  case iconst _ => cases (eq_of_beq hl : n = 1); exact ss_iconst hM hd h k
  case bipush _ => cases (eq_of_beq hl : n = 2); exact ss_bipush hM hd h k
  case sipush _ => cases (eq_of_beq hl : n = 3); exact ss_sipush hM hd h k
  case lconst _ => cases (eq_of_beq hl : n = 1); exact ss_lconst hM hd h k
  case ldc _ => cases (eq_of_beq hl : n = 2); exact ss_ldc hM hd h k
  case ldc_w _ => cases (eq_of_beq hl : n = 3); exact ss_ldcw hM hd h k
  case ldc2_w _ => cases (eq_of_beq hl : n = 3); exact ss_ldc2 hM hd h k
  case iload_n _ => cases (eq_of_beq hl : n = 1); exact ss_iload_n hM hd h k
  case iload _ => cases (eq_of_beq hl : n = 2); exact ss_iload hM hd h k
  case lload_n _ => cases (eq_of_beq hl : n = 1); exact ss_lload_n hM hd h k
  case lload _ => cases (eq_of_beq hl : n = 2); exact ss_lload hM hd h k
  case aload_n _ => cases (eq_of_beq hl : n = 1); exact ss_aload_n hM hd h k
  case aload _ => cases (eq_of_beq hl : n = 2); exact ss_aload hM hd h k
  case istore_n _ => cases (eq_of_beq hl : n = 1); exact ss_istore_n hM hd h k
  case istore _ => cases (eq_of_beq hl : n = 2); exact ss_istore hM hd h k
  case astore_n _ => cases (eq_of_beq hl : n = 1); exact ss_astore_n hM hd h k
  case astore _ => cases (eq_of_beq hl : n = 2); exact ss_astore hM hd h k
  case lstore_n _ => cases (eq_of_beq hl : n = 1); exact ss_lstore_n hM hd h k
  case lstore _ => cases (eq_of_beq hl : n = 2); exact ss_lstore hM hd h k
  case iinc _ _ => cases (eq_of_beq hl : n = 3); exact ss_iinc hM hd h k
  case goto _ => cases (eq_of_beq hl : n = 3); exact ss_goto hM hd h k
  case tableswitch _ _ _ _ => exact ss_tsw hM hd h k
  case getfield _ => cases (eq_of_beq hl : n = 3); exact ss_getfield hM hd h k
  case putfield _ => cases (eq_of_beq hl : n = 3); exact ss_putfield hM hd h k
  case getstatic _ => cases (eq_of_beq hl : n = 3); exact ss_getstatic hM hd h k
  case iadd  => cases (eq_of_beq hl : n = 1); exact ss_iadd hM hd h k
  case isub  => cases (eq_of_beq hl : n = 1); exact ss_isub hM hd h k
  case imul  => cases (eq_of_beq hl : n = 1); exact ss_imul hM hd h k
  case iand  => cases (eq_of_beq hl : n = 1); exact ss_iand hM hd h k
  case ior  => cases (eq_of_beq hl : n = 1); exact ss_ior hM hd h k
  case ixor  => cases (eq_of_beq hl : n = 1); exact ss_ixor hM hd h k
  case ishl  => cases (eq_of_beq hl : n = 1); exact ss_ishl hM hd h k
  case ishr  => cases (eq_of_beq hl : n = 1); exact ss_ishr hM hd h k
  case iushr  => cases (eq_of_beq hl : n = 1); exact ss_iushr hM hd h k
  case idiv  => cases (eq_of_beq hl : n = 1); exact ss_idiv hM hd h k
  case irem  => cases (eq_of_beq hl : n = 1); exact ss_irem hM hd h k
  case ladd  => cases (eq_of_beq hl : n = 1); exact ss_ladd hM hd h k
  case lsub  => cases (eq_of_beq hl : n = 1); exact ss_lsub hM hd h k
  case lmul  => cases (eq_of_beq hl : n = 1); exact ss_lmul hM hd h k
  case land  => cases (eq_of_beq hl : n = 1); exact ss_land hM hd h k
  case lor  => cases (eq_of_beq hl : n = 1); exact ss_lor hM hd h k
  case ldiv  => cases (eq_of_beq hl : n = 1); exact ss_ldiv hM hd h k
  case lrem  => cases (eq_of_beq hl : n = 1); exact ss_lrem hM hd h k
  case lushr  => cases (eq_of_beq hl : n = 1); exact ss_lushr hM hd h k
  case lshl  => cases (eq_of_beq hl : n = 1); exact ss_lshl hM hd h k
  case lcmp  => cases (eq_of_beq hl : n = 1); exact ss_lcmp hM hd h k
  case i2l  => cases (eq_of_beq hl : n = 1); exact ss_i2l hM hd h k
  case l2i  => cases (eq_of_beq hl : n = 1); exact ss_l2i hM hd h k
  case i2b  => cases (eq_of_beq hl : n = 1); exact ss_i2b hM hd h k
  case i2c  => cases (eq_of_beq hl : n = 1); exact ss_i2c hM hd h k
  case dup  => cases (eq_of_beq hl : n = 1); exact ss_dup hM hd h k
  case pop  => cases (eq_of_beq hl : n = 1); exact ss_pop hM hd h k
  case iaload  => cases (eq_of_beq hl : n = 1); exact ss_iaload hM hd h k
  case baload  => cases (eq_of_beq hl : n = 1); exact ss_baload hM hd h k
  case aaload  => cases (eq_of_beq hl : n = 1); exact ss_aaload hM hd h k
  case iastore  => cases (eq_of_beq hl : n = 1); exact ss_iastore hM hd h k
  case bastore  => cases (eq_of_beq hl : n = 1); exact ss_bastore hM hd h k
  case aastore  => cases (eq_of_beq hl : n = 1); exact ss_aastore hM hd h k
  case arraylength  => cases (eq_of_beq hl : n = 1); exact ss_alen hM hd h k
  case newarray _ => cases (eq_of_beq hl : n = 2); exact ss_newarray hM hd h hbd k
  case anewarray _ => cases (eq_of_beq hl : n = 3); exact ss_anewarray hM hd h hbd k
  case new _ => cases (eq_of_beq hl : n = 3); exact ss_new hM hd h hbd k
  case invokespecial _ => cases (eq_of_beq hl : n = 3); exact ss_invI hR hM hd h k
  case invokestatic _ => cases (eq_of_beq hl : n = 3); exact ss_invS hR hbd hM hd h k
  case ifCond cnd off =>
    cases (eq_of_beq hl : n = 3)
    cases cnd
    · exact ss_ifeq hM hd h k
    · exact ss_ifne hM hd h k
    · exact ss_iflt hM hd h k
    · exact ss_ifge hM hd h k
    · exact ss_ifgt hM hd h k
    · exact ss_ifle hM hd h k
  case if_icmp cnd off =>
    cases (eq_of_beq hl : n = 3)
    cases cnd
    · exact ss_ceq hM hd h k
    · exact ss_cne hM hd h k
    · exact ss_clt hM hd h k
    · exact ss_cge hM hd h k
    · exact ss_cgt hM hd h k
    · exact ss_cle hM hd h k
  case invokevirtual x =>
    exfalso
    have h : invV E cx.1 x pc t G = some (.inl r) := h
    unfold invV at h
    obtain ⟨q, -, h2⟩ := ov_inj h
    split at h2
    · exact callA_no h2
    · cases h2
  case multianewarray x dm =>
    cases (eq_of_beq hl : n = 4)
    exact ss_mna hM hd h hbd k
  case ireturn =>
    exfalso
    have h : (match (generalizing := false) t with | [.int v] => (match cx.2.2.2 with | some ty => gd (narrow ty (.int v) = .int v) inferInstance (some (Sum.inr (Sum.inr (some (Value.int v))))) | none => none) | _ => none) = some (Sum.inl r) := h
    repeat' split at h
    all_goals first | (cases h; done) | (have h2 := (gd_inj h).2; cases h2; done)
  case lreturn =>
    exfalso
    have h : (match (generalizing := false) t with | [.long v] => gd (cx.2.2.2 = some .long) inferInstance (some (Sum.inr (Sum.inr (some (Value.long v))))) | _ => none) = some (Sum.inl r) := h
    repeat' split at h
    all_goals first | (cases h; done) | (have h2 := (gd_inj h).2; cases h2; done)
  case areturn =>
    exfalso
    have h : ((match (generalizing := false) t with | [.ref v] => (match cx.2.2.2 with | some (.object _) => some (Sum.inr (Sum.inr (some (Value.ref v)))) | some (.array _) => some (Sum.inr (Sum.inr (some (Value.ref v)))) | _ => none) | _ => none) : Option Rs) = some (Sum.inl r) := h
    repeat' split at h
    all_goals cases h
  case return_ =>
    exfalso
    have h : ((match (generalizing := false) t with | [] => gd (cx.2.2.2 = none) inferInstance (some (Sum.inr (Sum.inr none))) | _ => none) : Option Rs) = some (Sum.inl r) := h
    repeat' split at h
    all_goals first | (cases h; done) | (have h2 := (gd_inj h).2; cases h2; done)
  all_goals
    exfalso
    cases h
end SNA
