theorem outer_eq (c : ClassId) (N h0 : Nat) : ∀ i : Nat, Jvm.Free.Multi.outerC c N h0 i = arrV c N (fun j => va_rf (if j < i then some (h0 + 1 + j) else none)) := by
  intro i
  induction i with
  | zero =>
    show ({ cls := c, slots := Array.replicate N .null, vm := .none } : Cell) = _
    rw [arrV_new]
    refine congrArg (arrV c N) (funext fun j => ?_)
    simp [va_rf]
  | succ i ih =>
    show (Jvm.Free.Multi.outerC c N h0 i).setSlot i (.ref (h0 + 1 + i)) = _
    rw [ih, arrV_store]
    refine congrArg (arrV c N) (funext fun j => ?_)
    by_cases e : j = i
    · subst e
      simp [updV, va_rf]
    · by_cases h : j < i
      · simp [updV, e, h, Nat.lt_succ_of_lt h]
      · simp [updV, e, h, show ¬ j < i + 1 by omega]
section SNM
variable {p : Program} {l : Launch} {e : Env} {R : Room} {s : State} {m : MethodId} {args : Array Value} {below : List Frame} {meth : Method} {c : Code} {Q : State → Prop} {E : Ev} {D : va_G} {Y : Yc} {nL N0 S0 : Nat} {cx : Cx} {pc : Nat} {lo : Lo} {t : List Value} {G : Hp} {r : Nat × Lo × List Value × Hp}
theorem ss_mna {x dm : Nat} (hM : MC p s m args meth c E D Y cx nL) (hd : decode cx.2.1 pc = .ok (.multianewarray x dm, 4)) (h : stpI E cx (.multianewarray x dm) pc lo t G = some (.inl r)) (hbd : r.2.2.2.1.length - N0 ≤ R.cells ∧ r.2.2.2.2 - S0 ≤ R.slots) (k : WP p l e R s m args below meth c Q E D Y nL N0 S0 r.1 r.2.1 r.2.2.1 r.2.2.2) : WP p l e R s m args below meth c Q E D Y nL N0 S0 pc lo t G := by
  obtain ⟨⟨hx, hb, hml, hr, hlk⟩, hown, hini, hts, hK⟩ := hM
  match dm, hd, h with
  | 0, _, h => cases h
  | 1, _, h => cases h
  | dm + 3, _, h => cases h
  | 2, hd, h =>
    obtain ⟨n, kz, t', rfl, h2⟩ := p2i_inj h
    obtain ⟨⟨ho, hxx, hn, hk, hn1, hk1⟩, h3⟩ := gd_inj h2
    cases nx_inj h3
    obtain ⟨o, cc⟩ := cx
    have ho : o = 5 := ho
    subst ho
    subst hxx
    intro H locs ls hl hI hS g1 g2
    have b1 : G.1.length + 1 + n.toNatClampNeg - N0 ≤ R.cells := by
      have := hbd.1
      simp only [psh, pshs, List.length_append, List.length_cons, List.length_nil, List.length_replicate] at this
      exact this
    have b2 : G.2 + n.toNatClampNeg + n.toNatClampNeg * kz.toNatClampNeg - S0 ≤ R.slots := by
      have := hbd.2
      simp only [psh, pshs] at this
      exact this
    intro T hT X
    obtain ⟨vm₁, cA, comp, -, fA, fC, -, -, X', step⟩ := X.multianewarray2F (ty := .byte) (own := RX5) (index := 15) hx hown (hts _ (LW_t 131 (by decide +kernel) rfl)) hK.2.2.1.2.2 (hts _ (LW_t 66 (by decide +kernel) rfl)) (g := F0 m pc ls (.int kz :: .int n :: t')) rfl (by rw [hb]; exact hd) rfl hn hk (by omega) (by show kz.toNatClampNeg * 1 ≤ _; omega) (by omega) rfl rfl (by omega) (by omega)
    have ecA : cA = yr Y 2 := Option.some.inj (fA.symm.trans (hK.1.2 5 _ rfl).2)
    have eco : comp = yk Y 1 := Option.some.inj (fC.symm.trans (hK.1.2 1 _ rfl).2)
    subst ecA
    subst eco
    generalize hF : Jvm.Free.Multi.fill (T.setVm vm₁) (yr Y 2) (yk Y 1) n.toNatClampNeg kz.toNatClampNeg (defaultValue .byte) n.toNatClampNeg = F at X' step
    have hTh : (T.setVm vm₁).heap = H := hT
    obtain ⟨f1, f2, -, -⟩ := Jvm.Free.Multi.fill_facts (T.setVm vm₁) (yr Y 2) (yk Y 1) n.toNatClampNeg kz.toNatClampNeg (defaultValue .byte) n.toNatClampNeg
    rw [hF, hTh] at f1 f2
    have hold : ∀ x : Nat, x < H.size → F.heap[x]? = H[x]? := fun x hx => by
      have := Jvm.Free.Multi.fill_old (T.setVm vm₁) (yr Y 2) (yk Y 1) n.toNatClampNeg kz.toNatClampNeg (defaultValue .byte) (a := x) (by rw [hTh]; exact hx) n.toNatClampNeg
      rw [hF, hTh] at this
      exact this
    have hrow : ∀ j : Nat, j < n.toNatClampNeg → F.heap[H.size + 1 + j]? = some (Jvm.Free.Multi.innerC (yk Y 1) kz.toNatClampNeg (defaultValue .byte)) := fun j hj => by
      have := Jvm.Free.Multi.fill_inner (T.setVm vm₁) (yr Y 2) (yk Y 1) n.toNatClampNeg kz.toNatClampNeg (defaultValue .byte) n.toNatClampNeg j hj
      rw [hF, hTh] at this
      exact this
    have hsz : H.size = eB E + G.1.length := hI.2
    have hI2 : IV E D Y (pshs (psh G (cR 2 n.toNatClampNeg (fun i => if i < n.toNatClampNeg then some (nxA E G + 1 + i) else none)) n.toNatClampNeg) n.toNatClampNeg kz.toNatClampNeg) F.heap := by
      refine ⟨?_, ?_⟩
      · intro i q hq
        rw [trW_get] at hq
        show va_at D clsT q F.heap
        simp only [psh, pshs] at hq
        by_cases h1 : i < G.1.length
        · rw [List.append_assoc, List.getElem?_append_left h1] at hq
          have hq2 : (trW Y (eB E) G.1)[i]? = some q := by rw [trW_get]; exact hq
          exact (hI.1 i q hq2).kept (hold _ (hI.1 i q hq2).lt)
        · by_cases h2 : i = G.1.length
          · subst h2
            rw [List.append_assoc, List.getElem?_append_right (Nat.le_refl _), Nat.sub_self] at hq
            cases hq
            show F.heap[eB E + G.1.length]? = some (vp_cell (yr Y 2) (n.toNatClampNeg, .inr (.inr (.inr (.inr (fun i => if i < n.toNatClampNeg then some (nxA E G + 1 + i) else none))))))
            rw [← hsz, f2, outer_eq, vp_cell_q, hsz]
            rfl
          · rw [List.getElem?_append_right (by simp; omega), List.getElem?_replicate] at hq
            split at hq
            · next hlt =>
              cases hq
              simp only [List.length_append, List.length_cons, List.length_nil] at hlt
              show F.heap[eB E + i]? = some (vp_cell (yk Y 1) (kz.toNatClampNeg, .inl (fun _ => 0)))
              have e1 : eB E + i = H.size + 1 + (i - (G.1.length + 1)) := by omega
              rw [e1, hrow _ hlt]
              show some ({ cls := _, slots := Array.replicate _ _, vm := .none } : Cell) = _
              rw [arrV_new]
              rfl
            · cases hq
      · rw [f1, hsz]
        simp only [psh, pshs, List.length_append, List.length_cons, List.length_nil, List.length_replicate]
        omega
    have kk := k F.heap locs ls hl hI2 (hS.psh (by omega) hold) (by simp only [psh, pshs, List.length_append]; omega) (by simp only [psh, pshs]; omega)
    dsimp only at kk
    have c1 : (pshs (psh G (cR 2 n.toNatClampNeg (fun i => if i < n.toNatClampNeg then some (nxA E G + 1 + i) else none)) n.toNatClampNeg) n.toNatClampNeg kz.toNatClampNeg).1.length - N0 = G.1.length - N0 + 1 + n.toNatClampNeg := by
      simp only [psh, pshs, List.length_append, List.length_cons, List.length_nil, List.length_replicate]
      omega
    have c2 : (pshs (psh G (cR 2 n.toNatClampNeg (fun i => if i < n.toNatClampNeg then some (nxA E G + 1 + i) else none)) n.toNatClampNeg) n.toNatClampNeg kz.toNatClampNeg).2 - S0 = G.2 - S0 + n.toNatClampNeg + n.toNatClampNeg * kz.toNatClampNeg := by
      simp only [psh, pshs]
      omega
    rw [c1, c2] at kk
    obtain ⟨t9, a1, b9⟩ := kk F rfl X'
    refine ⟨t9, step t9 ?_, b9⟩
    have e9 : T.heap.size = nxA E G := by rw [hT]; exact hI.2
    rw [e9]
    exact a1
end SNM
/-! THE WHOLE: a run of the abstract machine is one of the machine -/
section SNA
variable {p : Program} {l : Launch} {e : Env} {R : Room} {s : State} {m : MethodId} {args : Array Value} {below : List Frame} {meth : Method} {c : Code} {Q : State → Prop} {E : Ev} {D : va_G} {Y : Yc} {nL N0 S0 : Nat} {cx : Cx} {pc : Nat} {lo : Lo} {t : List Value} {G : Hp} {r : Nat × Lo × List Value × Hp}
set_option maxHeartbeats 4000000 in
theorem ss_all (hR : 1 ≤ R.frames ∧ 60 ≤ R.locals) (hM : MC p s m args meth c E D Y cx nL) {i : Instr} {n : Nat} (hd : decode cx.2.1 pc = .ok (i, n)) (hl : lenOk i n = true) (h : stpI E cx i pc lo t G = some (.inl r)) (hbd : r.2.2.2.1.length - N0 ≤ R.cells ∧ r.2.2.2.2 - S0 ≤ R.slots) (k : WP p l e R s m args below meth c Q E D Y nL N0 S0 r.1 r.2.1 r.2.2.1 r.2.2.2) : WP p l e R s m args below meth c Q E D Y nL N0 S0 pc lo t G := by
  cases i
  case iconst _ => cases (eq_of_beq hl : n = 1); exact ss_iconst hM hd h k
  case bipush _ => cases (eq_of_beq hl : n = 2); exact ss_bipush hM hd h k
  case sipush _ => cases (eq_of_beq hl : n = 3); exact ss_sipush hM hd h k
  case lconst _ => cases (eq_of_beq hl : n = 1); exact ss_lconst hM hd h k
  case ldc _ => cases (eq_of_beq hl : n = 2); exact ss_ldc hM hd h k
  case ldc_w _ => cases (eq_of_beq hl : n = 3); exact ss_ldcw hM hd h k
  case ldc2_w _ => cases (eq_of_beq hl : n = 3); exact ss_ldc2 hM hd h k
  case iload_n _ => cases (eq_of_beq hl : n = 1); exact ss_iload_n hM hd h k
  case iload _ => cases (eq_of_beq hl : n = 2); exact ss_iload hM hd h k
  case lload_n _ => cases (eq_of_beq hl : n = 1); exact ss_lload_n hM hd h k
  case lload _ => cases (eq_of_beq hl : n = 2); exact ss_lload hM hd h k
  case aload_n _ => cases (eq_of_beq hl : n = 1); exact ss_aload_n hM hd h k
  case aload _ => cases (eq_of_beq hl : n = 2); exact ss_aload hM hd h k
  case istore_n _ => cases (eq_of_beq hl : n = 1); exact ss_istore_n hM hd h k
  case istore _ => cases (eq_of_beq hl : n = 2); exact ss_istore hM hd h k
  case astore_n _ => cases (eq_of_beq hl : n = 1); exact ss_astore_n hM hd h k
  case astore _ => cases (eq_of_beq hl : n = 2); exact ss_astore hM hd h k
  case lstore_n _ => cases (eq_of_beq hl : n = 1); exact ss_lstore_n hM hd h k
  case lstore _ => cases (eq_of_beq hl : n = 2); exact ss_lstore hM hd h k
  case iinc _ _ => cases (eq_of_beq hl : n = 3); exact ss_iinc hM hd h k
  case goto _ => cases (eq_of_beq hl : n = 3); exact ss_goto hM hd h k
  case tableswitch _ _ _ _ => exact ss_tsw hM hd h k
  case getfield _ => cases (eq_of_beq hl : n = 3); exact ss_getfield hM hd h k
  case putfield _ => cases (eq_of_beq hl : n = 3); exact ss_putfield hM hd h k
  case getstatic _ => cases (eq_of_beq hl : n = 3); exact ss_getstatic hM hd h k
  case iadd  => cases (eq_of_beq hl : n = 1); exact ss_iadd hM hd h k
  case isub  => cases (eq_of_beq hl : n = 1); exact ss_isub hM hd h k
  case imul  => cases (eq_of_beq hl : n = 1); exact ss_imul hM hd h k
  case iand  => cases (eq_of_beq hl : n = 1); exact ss_iand hM hd h k
  case ior  => cases (eq_of_beq hl : n = 1); exact ss_ior hM hd h k
  case ixor  => cases (eq_of_beq hl : n = 1); exact ss_ixor hM hd h k
  case ishl  => cases (eq_of_beq hl : n = 1); exact ss_ishl hM hd h k
  case ishr  => cases (eq_of_beq hl : n = 1); exact ss_ishr hM hd h k
  case iushr  => cases (eq_of_beq hl : n = 1); exact ss_iushr hM hd h k
  case idiv  => cases (eq_of_beq hl : n = 1); exact ss_idiv hM hd h k
  case irem  => cases (eq_of_beq hl : n = 1); exact ss_irem hM hd h k
  case ladd  => cases (eq_of_beq hl : n = 1); exact ss_ladd hM hd h k
  case lsub  => cases (eq_of_beq hl : n = 1); exact ss_lsub hM hd h k
  case lmul  => cases (eq_of_beq hl : n = 1); exact ss_lmul hM hd h k
  case land  => cases (eq_of_beq hl : n = 1); exact ss_land hM hd h k
  case lor  => cases (eq_of_beq hl : n = 1); exact ss_lor hM hd h k
  case ldiv  => cases (eq_of_beq hl : n = 1); exact ss_ldiv hM hd h k
  case lrem  => cases (eq_of_beq hl : n = 1); exact ss_lrem hM hd h k
  case lushr  => cases (eq_of_beq hl : n = 1); exact ss_lushr hM hd h k
  case lshl  => cases (eq_of_beq hl : n = 1); exact ss_lshl hM hd h k
  case lcmp  => cases (eq_of_beq hl : n = 1); exact ss_lcmp hM hd h k
  case i2l  => cases (eq_of_beq hl : n = 1); exact ss_i2l hM hd h k
  case l2i  => cases (eq_of_beq hl : n = 1); exact ss_l2i hM hd h k
  case i2b  => cases (eq_of_beq hl : n = 1); exact ss_i2b hM hd h k
  case i2c  => cases (eq_of_beq hl : n = 1); exact ss_i2c hM hd h k
  case dup  => cases (eq_of_beq hl : n = 1); exact ss_dup hM hd h k
  case pop  => cases (eq_of_beq hl : n = 1); exact ss_pop hM hd h k
  case iaload  => cases (eq_of_beq hl : n = 1); exact ss_iaload hM hd h k
  case baload  => cases (eq_of_beq hl : n = 1); exact ss_baload hM hd h k
  case aaload  => cases (eq_of_beq hl : n = 1); exact ss_aaload hM hd h k
  case iastore  => cases (eq_of_beq hl : n = 1); exact ss_iastore hM hd h k
  case bastore  => cases (eq_of_beq hl : n = 1); exact ss_bastore hM hd h k
  case aastore  => cases (eq_of_beq hl : n = 1); exact ss_aastore hM hd h k
  case arraylength  => cases (eq_of_beq hl : n = 1); exact ss_alen hM hd h k
  case newarray _ => cases (eq_of_beq hl : n = 2); exact ss_newarray hM hd h hbd k
  case anewarray _ => cases (eq_of_beq hl : n = 3); exact ss_anewarray hM hd h hbd k
  case new _ => cases (eq_of_beq hl : n = 3); exact ss_new hM hd h hbd k
  case invokespecial _ => cases (eq_of_beq hl : n = 3); exact ss_invI hR hM hd h k
  case invokestatic _ => cases (eq_of_beq hl : n = 3); exact ss_invS hR hbd hM hd h k
  case ifCond cnd off =>
    cases (eq_of_beq hl : n = 3)
    cases cnd
    · exact ss_ifeq hM hd h k
    · exact ss_ifne hM hd h k
    · exact ss_iflt hM hd h k
    · exact ss_ifge hM hd h k
    · exact ss_ifgt hM hd h k
    · exact ss_ifle hM hd h k
  case if_icmp cnd off =>
    cases (eq_of_beq hl : n = 3)
    cases cnd
    · exact ss_ceq hM hd h k
    · exact ss_cne hM hd h k
    · exact ss_clt hM hd h k
    · exact ss_cge hM hd h k
    · exact ss_cgt hM hd h k
    · exact ss_cle hM hd h k
  case invokevirtual x =>
    exfalso
    have h : invV E cx.1 x pc t G = some (.inl r) := h
    unfold invV at h
    obtain ⟨q, -, h2⟩ := ov_inj h
    split at h2
    · exact callA_no h2
    · cases h2
  case multianewarray x dm =>
    cases (eq_of_beq hl : n = 4)
    exact ss_mna hM hd h hbd k
  case ireturn =>
    exfalso
    have h : (match (generalizing := false) t with | [.int v] => (match cx.2.2.2 with | some ty => gd (narrow ty (.int v) = .int v) inferInstance (some (Sum.inr (Sum.inr (some (Value.int v))))) | none => none) | _ => none) = some (Sum.inl r) := h
    repeat' split at h
    all_goals first | (cases h; done) | (have h2 := (gd_inj h).2; cases h2; done)
  case lreturn =>
    exfalso
    have h : (match (generalizing := false) t with | [.long v] => gd (cx.2.2.2 = some .long) inferInstance (some (Sum.inr (Sum.inr (some (Value.long v))))) | _ => none) = some (Sum.inl r) := h
    repeat' split at h
    all_goals first | (cases h; done) | (have h2 := (gd_inj h).2; cases h2; done)
  case areturn =>
    exfalso
    have h : ((match (generalizing := false) t with | [.ref v] => (match cx.2.2.2 with | some (.object _) => some (Sum.inr (Sum.inr (some (Value.ref v)))) | some (.array _) => some (Sum.inr (Sum.inr (some (Value.ref v)))) | _ => none) | _ => none) : Option Rs) = some (Sum.inl r) := h
    repeat' split at h
    all_goals cases h
  case return_ =>
    exfalso
    have h : ((match (generalizing := false) t with | [] => gd (cx.2.2.2 = none) inferInstance (some (Sum.inr (Sum.inr none))) | _ => none) : Option Rs) = some (Sum.inl r) := h
    repeat' split at h
    all_goals first | (cases h; done) | (have h2 := (gd_inj h).2; cases h2; done)
  all_goals
    exfalso
    cases h
end SNA
