/-! THE CLAIM OUT OF ONE WALK OF THE LAW'S BODY. Your part is whole_start (and what it stands on); all else here is the same for every law, but numbers. -/
def R_law : String := "RecursionSchemesLaw"
def lw_P (b : Addr) (xs : List Int32) (args : Array Value) (s : State) : Prop := args = #[.ref b] ∧ s.IntsAt b xs ∧ xs.length ≤ 2560 ∧ (Jvm.Cond.and given_1 narrow_1).before args s = true
def lw_Q (_ : Array Value) (s : State) (o : Outcome) (t : State) : Prop := o = .returned (some (.int 1)) ∧ Framed s o t [] 600000 7302250
def lw_Z (below : List Frame) (a : Array Value) (s : State) : State → Prop := fun t => ∃ o, t.status = .running ∧ Ended t below o ∧ lw_Q a s o t
/-- the law's own end, with 1 on the stack, nothing written that was there before, its room as the claim has it -/
theorem lw_ret {p : Program} {l : Launch} {e : Env} {s : State} {m : MethodId} {below : List Frame} {meth : Method} {c : Code} {b : Nat} (hx : p.tables.exec = Jvm.exec) (hb : c.code = code) (hr : meth.sig.returnType = ret) (hlocks : meth.locks = false) {pc : Nat} {H : Heap} {ls : Array Slot} (hdg : decode code pc = .ok (.ireturn, 1)) : W p l e room_1 s m #[Value.ref b] below meth c H [] 600000 7302250 (lw_Z below #[Value.ref b] s) (F0 m pc ls [.int 1]) := by
  intro T hT X
  obtain ⟨fs, hret, hrun, hended, hW, hframe⟩ := X.leave (v := some (.int 1)) (hlocks := hlocks) (fun h => by rw [hr] at h; cases h)
  have hmeth' : T.vm.method? m = some meth := X.method'
  refine ⟨T.setFrames fs, ?_, .returned (some (.int 1)), hrun, hended, rfl, ⟨_, rfl⟩, hW, hframe⟩
  jvm_step X.here [X.here.top, hx, hb, hdg, hmeth', hr, ret, narrow_b1]
  (try refine ⟨rfl, ?_⟩); (try refine ⟨rfl, ?_⟩)
  first | (intro acts; rw [hret _ acts rfl rfl rfl]) | rw [hret _ _ rfl rfl rfl]
  exact Steps.refl _
/-- what holds at the law's entry: the machine, the code, the tables' words (any of lw_tbl by 'hts w (by decide +kernel)'), the script of L ints xs at the cell b, what the Statement gives of the start (any of its parts by flat_of_before) -/
def lw_At (p : Program) (s : State) (m : MethodId) (meth : Method) (c : Code) (b L : Nat) (xs : Nat → Int32) : Prop :=
  p.tables.exec = Jvm.exec ∧ c.code = code ∧ meth.sig.returnType = ret ∧ c.maxLocals = 4 ∧ s.vm.findClass R_law = some m.cls ∧ (∀ w ∈ lw_tbl, w.before #[Value.ref b] s = true) ∧ va_X b L xs s s.heap ∧ b < s.heap.size ∧ meth.locks = false ∧ (Jvm.Cond.and given_1 narrow_1).before #[Value.ref b] s = true
theorem tb_in {w : Cond} (i : Nat) (h : tables_1[i]? = some w) : w ∈ lw_tbl := List.mem_append_right _ (List.mem_of_getElem? h)
theorem arr_prim {s : State} {ty : FieldType} {c : ClassId} {k : Class} {comp : ClassId} (h2 : s.vm.classes[c]? = some k) (h3 : k.kind = .array comp ty) : ArrOfT s c ty := fun n z => ⟨fun k h => (by cases h), k, h2, comp, h3⟩
set_option maxHeartbeats 4000000 in
set_option maxRecDepth 100000 in
theorem kn_start {p : Program} {s : State} {m : MethodId} {meth : Method} {c : Code} {b L : Nat} {xs : Nat → Int32} (C0 : lw_At p s m meth c b L xs) : ∃ (E : Ev) (D : va_G) (Y : Yc), KN E D Y s ∧ (eB E = s.heap.size ∧ eb E = b ∧ eL E = L ∧ ex E = xs) ∧ (eA E < eB E ∧ eS E < eB E ∧ eV E < eB E) ∧ (eF E).category = 1 := by
  obtain ⟨hx, hb, hr, hml, hown, hts, hX, hbl, hlocks, hgv⟩ := C0
  have htsL : ∀ w ∈ LW, w.before #[Value.ref b] s = true := fun w hw => hts w (List.mem_filter.mp hw).1
  have hs := flat_of_before _ hgv
  have hA : ∀ a : Nat, a < s.heap.size → ¬ (fun q : Nat => s.heap.size ≤ q) a := fun a h => Nat.not_le.mpr h
  have hcl : ∀ ci : Nat, ∃ q : ClassId × (Nat → Nat), ci < 8 → u_Kn s (tN ci) (fTb ci) (fSz ci) q.1 q.2 := by
    intro ci
    by_cases h : ci < 8
    · obtain ⟨cC, iS, hk⟩ := u_known htsL (cls_in h) (htsL _ (cls_inst h))
      exact ⟨(cC, iS), fun _ => hk⟩
    · exact ⟨(0, fun _ => 0), fun z => absurd z h⟩
  obtain ⟨fD, hfD⟩ := Classical.axiomOfChoice hcl
  obtain ⟨yI, kI, cI, i1, i2, i3⟩ := Cond.arrayClass_spec (htsL (.arrayClass .int) (LW_t 42 (by decide +kernel) rfl))
  obtain ⟨yB, kB, cB, b1, b2, b3⟩ := Cond.arrayClass_spec (htsL (.arrayClass .byte) (LW_t 66 (by decide +kernel) rfl))
  obtain ⟨yZ, kZ, cZ, z1, z2, z3⟩ := Cond.arrayClass_spec (htsL (.arrayClass .boolean) (LW_t 207 (by decide +kernel) rfl))
  have hoS := hts (.arrayOver (.object RX1)) (tb_in 159 (by decide +kernel))
  have hoT := hts (.arrayOver (.object RX2)) (tb_in 50 (by decide +kernel))
  have hoB := hts (.arrayOver (.array .byte)) (tb_in 132 (by decide +kernel))
  obtain ⟨cS, yS, kS, s1, s2, s3, s4, s5⟩ := Cond.arrayOver_spec hoS
  obtain ⟨cT, yT, kT', t1, t2, t3, t4, t5⟩ := Cond.arrayOver_spec hoT
  obtain ⟨cQ, yQ, kQ, q1, q2, q3, q4⟩ := Cond.arrayOver_specA hoB
  have hK : va_K (fun c => (fD c).1, fun c => (fD c).2) clsT (tyY (yI, yB, yZ, yS, yT, yQ)) s := by
    refine ⟨fun ci q hq => ?_, fun k q hq => ?_⟩
    · have h8 : ci < 8 := (List.getElem?_eq_some_iff.mp hq).1
      rw [cls_at h8] at hq
      cases hq
      exact hfD ci h8
    · match k, hq with
      | 0, hq => cases hq; exact ⟨arr_prim i2 i3, i1⟩
      | 1, hq => cases hq; exact ⟨arr_prim b2 b3, b1⟩
      | 2, hq => cases hq; exact ⟨arr_prim z2 z3, z1⟩
      | 3, hq => cases hq; exact ⟨arr_prim s3 s4, kS, cS, s3, s4, s1, s5⟩
      | 4, hq => cases hq; exact ⟨arr_prim t3 t4, kT', cT, t3, t4, t1, t5⟩
      | 5, hq => cases hq; exact ⟨arr_prim q2 q3, q4⟩
      | k + 6, hq => cases hq
  obtain ⟨tA, hvA, hTA⟩ := va_Tof (args := #[Value.ref b]) (s := s) (tm := .static RX6 "ARITIES" "[I") (ty := .int) (N := 10) (f := fun j => .int (arit j)) (A := fun q : Nat => s.heap.size ≤ q) (by decide) (hs _ (by decide +kernel)) (va_eqt (hs _ (by decide +kernel))) (fun j hj => by
    match j, hj with
    | 0, _ => exact va_eqt (hs _ (by decide +kernel))
    | 1, _ => exact va_eqt (hs _ (by decide +kernel))
    | 2, _ => exact va_eqt (hs _ (by decide +kernel))
    | 3, _ => exact va_eqt (hs _ (by decide +kernel))
    | 4, _ => exact va_eqt (hs _ (by decide +kernel))
    | 5, _ => exact va_eqt (hs _ (by decide +kernel))
    | 6, _ => exact va_eqt (hs _ (by decide +kernel))
    | 7, _ => exact va_eqt (hs _ (by decide +kernel))
    | 8, _ => exact va_eqt (hs _ (by decide +kernel))
    | 9, _ => exact va_eqt (hs _ (by decide +kernel))) hA
  have hZA : va_Z RX6 "ARITIES" "[I" (.ref tA) (fun q : Nat => s.heap.size ≤ q) s s.heap := va_Zref (hts _ (tb_in 357 (by decide +kernel))) (hts _ (tb_in 1 (by decide +kernel))) hvA hA
  have hZC : va_Z RJ0 "COMPACT_STRINGS" "Z" (.int 1) (fun q : Nat => s.heap.size ≤ q) s s.heap := va_Zof (hts _ (tb_in 263 (by decide +kernel))) (hts _ (tb_in 11 (by decide +kernel))) (va_eqi (hs _ (by decide +kernel))) hA
  have hZF : va_Zq RJ3 "SIOOBE_FORMATTER" "Ljava/util/function/BiFunction;" (fun q : Nat => s.heap.size ≤ q) s s.heap := va_Zqof (hts _ (tb_in 304 (by decide +kernel))) (hts _ (tb_in 14 (by decide +kernel))) (hs _ (by decide +kernel)) hA
  obtain ⟨vF, hcF, hZF⟩ : ∃ vF : Value, vF.category = 1 ∧ va_Z RJ3 "SIOOBE_FORMATTER" "Ljava/util/function/BiFunction;" vF (fun q : Nat => s.heap.size ≤ q) s s.heap := by
    rcases hZF with h | ⟨t, h⟩
    · exact ⟨.null, rfl, h⟩
    · exact ⟨.ref t, rfl, h⟩
  obtain ⟨adK, adV, hvk, hev⟩ := vk_Sof (args := #[Value.ref b]) (s := s) (N := 1) (tm := fun _ => .string RX3 90) (len := [10]) (byt := [[97, 98, 99, 100, 83, 70, 71, 72, 120, 121]]) (A := fun q : Nat => s.heap.size ≤ q)
    (fun i hi => by match i, hi with | 0, _ => decide) (fun i hi => hs _ (by decide +kernel)) (fun i hi => hs _ (by decide +kernel)) (fun i hi => hs _ (by decide +kernel)) (fun i hi => by match i, hi with | 0, _ => exact hs _ (by decide +kernel))
    (fun i hi j hj => by
      match i, hi with
      | 0, _ =>
        match j, hj with
        | 0, _ => exact hs _ (by decide +kernel)
        | 1, _ => exact hs _ (by decide +kernel)
        | 2, _ => exact hs _ (by decide +kernel)
        | 3, _ => exact hs _ (by decide +kernel)
        | 4, _ => exact hs _ (by decide +kernel)
        | 5, _ => exact hs _ (by decide +kernel)
        | 6, _ => exact hs _ (by decide +kernel)
        | 7, _ => exact hs _ (by decide +kernel)
        | 8, _ => exact hs _ (by decide +kernel)
        | 9, _ => exact hs _ (by decide +kernel))
    (fun i j hi hj hne => absurd (show i = j by omega) hne) hA
  obtain ⟨v1, v2, v3, v4⟩ := hvk.1 0 (by decide)
  have hev0 := hev 0 (by decide)
  have hR3 : vk_R RX3 90 "abcdSFGHxy" (adK 0) s := vk_R.of (hts _ (tb_in 249 (by decide +kernel))) hev0
  have hev6 : (Term.string RX6 253).eval #[Value.ref b] s none [] s = some (.ref (adK 0)) := by
    have h := hs (Cond.eq (.string RX3 90) (.string RX6 253)) (by decide +kernel)
    obtain ⟨w, h1, h2⟩ := Cond.eq_one (show (Cond.eq (.string RX3 90) (.string RX6 253)).holds #[Value.ref b] s none s [] = true from h)
    rw [hev0] at h1
    cases h1
    exact h2
  have hR6 : vk_R RX6 253 "abcdSFGHxy" (adK 0) s := vk_R.of (hts _ (tb_in 438 (by decide +kernel))) hev6
  refine ⟨(s.heap.size, adK 0, adV 0, tA, vF, b, L, xs), (fun c => (fD c).1, fun c => (fD c).2), (yI, yB, yZ, yS, yT, yQ), ⟨hK, ?_, ⟨va_AO.of hoS, va_AO.of hoT, hoB⟩, ⟨hZA, hTA⟩, hZC, hZF, ⟨v1, v2, v3, v4⟩, ⟨hR3, hR6⟩, hX, hbl, Nat.le_refl _⟩, ⟨rfl, rfl, rfl, rfl⟩, ⟨?_, ?_, ?_⟩, hcF⟩
  · intro o idx id p hf
    have h5 := fM_ok hf
    exact va_Nw.of rfl (hts _ (tb_in _ h5))
  · obtain ⟨cell, h1, -⟩ := hTA
    exact (Array.getElem?_eq_some_iff.mp h1).1
  · obtain ⟨cell, h1, -⟩ := v1
    exact (Array.getElem?_eq_some_iff.mp h1).1
  · obtain ⟨cell, h1, -⟩ := v4
    exact (Array.getElem?_eq_some_iff.mp h1).1
/-- the claim out of a run of the law on the abstract machine -/
def lawOK (E : Ev) : Prop := Xr E 60 x_L_law 0 (ent [.ref (eb E)] 4) [] ([], 0) (fun v G => v = some (.int (iv 1)) ∧ G.1.length ≤ 600000 ∧ G.2 ≤ 7302250)
def envOK (E : Ev) : Prop := eL E ≤ 2560 ∧ (eb E < eB E ∧ eA E < eB E ∧ eS E < eB E ∧ eV E < eB E) ∧ (eF E).category = 1
theorem start_of (hlaw : ∀ E, envOK E → lawOK E) {p : Program} {e : Env} {s : State} {m : MethodId} {below : List Frame} {meth : Method} {c : Code} (l : Launch) {b L : Nat} {xs : Nat → Int32} (hL : L ≤ 2560) (C0 : lw_At p s m meth c b L xs) : W p l e room_1 s m #[Value.ref b] below meth c s.heap [] 0 0 (lw_Z below #[Value.ref b] s) (entryFrame m ([Value.ref b] : List Value).toArray 4) := by
  obtain ⟨E, D, Y, hK, ⟨hB, hb0, hL0, hx0⟩, ⟨hA1, hA2, hA3⟩, hF⟩ := kn_start C0
  obtain ⟨hx, hb, hr, hml, hown, hts, hX, hbl, hlocks, hgv⟩ := C0
  have htsL : ∀ w ∈ LW, w.before #[Value.ref b] s = true := fun w hw => hts w (List.mem_filter.mp hw).1
  obtain ⟨k, hk⟩ := hlaw E ⟨by rw [hL0]; exact hL, ⟨by rw [hb0, hB]; exact hbl, hA1, hA2, hA3⟩, hF⟩
  rw [hb0] at hk
  obtain ⟨v, G', ⟨hv, hg1, hg2⟩, hk2, -⟩ := X_res (runs_mono 60) (runs_res 60) _ _ _ _ _ _ hk
  have hM : MC p s m #[Value.ref b] meth c E D Y x_L_law 4 := ⟨⟨hx, hb, hml, hr, hlocks⟩, hown, (fun h => by cases h), htsL, hK⟩
  rw [lg_entry_eq]
  have key := s_X (R := room_1) (p := p) (e := e) (below := below) (N0 := 0) (S0 := 0) (Q := lw_Z below #[Value.ref b] s) (sound l E D Y 60) ⟨Nat.le_of_ble_eq_true rfl, Nat.le_of_ble_eq_true rfl⟩ hM (v := v) (G' := G') ⟨hg1, hg2⟩ ?_ k 0 (ent [.ref b] 4) [] ([], 0) hk2
  · exact key s.heap [] _ (LR.ent (vs := [.ref b]) (n := 4) (Nat.le_of_ble_eq_true rfl)) ⟨(fun k q h => by simp [trW] at h), by rw [hB]; rfl⟩ va_S.rf (Nat.zero_le _) (Nat.zero_le _)
  · intro pc lo t i hd hst
    intro H locs ls hl hI2 hS g1 g2
    subst hv
    rcases ret_only hst with ⟨rfl, x, ty, rfl, e1, hty, hn⟩ | ⟨rfl, x, rfl, e1, hty⟩ | ⟨rfl, x, rfl, e1, hty⟩ | ⟨rfl, rfl, e1, hty⟩
    · cases e1
      refine va_forget (fun q hq => by have := hS.2.2 q hq; unfold AA at this; rw [hB] at this; exact this) ?_
      refine W.widen (k := 600000) (n := 7302250) hg1 hg2 ?_
      rw [iv1]
      exact lw_ret hx hb hr hlocks hd
    · cases e1
    · cases e1
    · cases e1
