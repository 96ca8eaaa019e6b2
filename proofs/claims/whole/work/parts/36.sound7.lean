/-- a piece that is no call and no end -/
def isN (x : Option Rs) : Prop := ∀ q, x ≠ some (.inr q)
theorem isN_none : isN none := fun q h => by cases h
theorem isN_nx {pc lo s G} : isN (nx pc lo s G) := fun q h => by cases h
theorem isN_gd {c : Prop} {d : Decidable c} {x : Option Rs} (h : isN x) : isN (gd c d x) := fun q e => h q (gd_inj e).2
theorem isN_ov {α : Type} {x : Option α} {f : α → Option Rs} (h : ∀ v, isN (f v)) : isN (ov x f) := fun q e => by
  obtain ⟨v, -, h2⟩ := ov_inj e
  exact h v q h2
theorem isN_ite {c : Prop} [Decidable c] {x y : Option Rs} (h : isN x) (g : isN y) : isN (if c then x else y) := by
  by_cases hc : c
  · rw [if_pos hc]; exact h
  · rw [if_neg hc]; exact g
theorem isN_jmp {pc off lo s G} : isN (jmp pc off lo s G) := isN_gd isN_nx
theorem isN_bra {b pc off lo s G} : isN (bra b pc off lo s G) := by
  unfold bra
  refine isN_gd ?_
  cases b
  · exact isN_nx
  · exact isN_nx
theorem isN_p1i {s f} (h : ∀ x r, isN (f x r)) : isN (p1i s f) := by unfold p1i; split; exact h _ _; exact isN_none
theorem isN_p2i {s f} (h : ∀ x y r, isN (f x y r)) : isN (p2i s f) := by unfold p2i; split; exact h _ _ _; exact isN_none
theorem isN_p1l {s f} (h : ∀ x r, isN (f x r)) : isN (p1l s f) := by unfold p1l; split; exact h _ _; exact isN_none
theorem isN_p2l {s f} (h : ∀ x y r, isN (f x y r)) : isN (p2l s f) := by unfold p2l; split; exact h _ _ _; exact isN_none
theorem isN_pli {s f} (h : ∀ x y r, isN (f x y r)) : isN (pli s f) := by unfold pli; split; exact h _ _ _; exact isN_none
theorem isN_p1r {s f} (h : ∀ x r, isN (f x r)) : isN (p1r s f) := by unfold p1r; split; exact h _ _; exact isN_none
theorem isN_pir {s f} (h : ∀ x y r, isN (f x y r)) : isN (pir s f) := by unfold pir; split; exact h _ _ _; exact isN_none
theorem isN_piir {s f} (h : ∀ x y z r, isN (f x y z r)) : isN (piir s f) := by unfold piir; split; exact h _ _ _ _; exact isN_none
theorem isN_prir {s f} (h : ∀ x y z r, isN (f x y z r)) : isN (prir s f) := by unfold prir; split; exact h _ _ _ _; exact isN_none
theorem isN_pvr {s f} (h : ∀ x y r, isN (f x y r)) : isN (pvr s f) := by unfold pvr; split; exact h _ _ _; exact isN_none
theorem isN_gtA {E : Ev} {G : Hp} {a f g} (h : ∀ x y z, isN (f x y z)) (k : isN g) : isN (gtA E G a f g) := by unfold gtA; split; exact h _ _ _; exact k; exact isN_none
theorem isN_gtR {E : Ev} {G : Hp} {a f} (h : ∀ x y z, isN (f x y z)) : isN (gtR E G a f) := by unfold gtR; split; exact h _ _ _; exact isN_none
theorem isN_gtO {E : Ev} {G : Hp} {a f g} (h : ∀ x y, isN (f x y)) (k : isN g) : isN (gtO E G a f g) := by unfold gtO; split; exact h _ _; exact k; exact isN_none
theorem isN_ld {p pc i lo s G} : isN (ld p pc i lo s G) := isN_ov fun _ => isN_gd isN_nx
theorem isN_sto1 {p pc i lo s G} : isN (sto1 p pc i lo s G) := by unfold sto1; split; exact isN_gd (isN_ov fun _ => isN_nx); exact isN_none
theorem isN_sto2 {pc i lo s G} : isN (sto2 pc i lo s G) := isN_p1l fun _ _ => isN_ov fun _ => isN_nx
set_option maxHeartbeats 4000000 in
theorem inr_only {E : Ev} {cx : Cx} {i : Instr} {pc : Nat} {lo : Lo} {t : List Value} {G : Hp} : isN (stpI E cx i pc lo t G) ∨ (∃ x, i = .invokestatic x) ∨ (∃ x, i = .invokevirtual x) ∨ (∃ x, i = .invokespecial x) ∨ i = .ireturn ∨ i = .lreturn ∨ i = .areturn ∨ i = .return_ := by
  unfold stpI
  split
  all_goals first
    | exact Or.inr (Or.inl ⟨_, rfl⟩)
    | exact Or.inr (Or.inr (Or.inl ⟨_, rfl⟩))
    | exact Or.inr (Or.inr (Or.inr (Or.inl ⟨_, rfl⟩)))
    | exact Or.inr (Or.inr (Or.inr (Or.inr (Or.inl rfl))))
    | exact Or.inr (Or.inr (Or.inr (Or.inr (Or.inr (Or.inl rfl)))))
    | exact Or.inr (Or.inr (Or.inr (Or.inr (Or.inr (Or.inr (Or.inl rfl))))))
    | exact Or.inr (Or.inr (Or.inr (Or.inr (Or.inr (Or.inr (Or.inr rfl))))))
    | refine Or.inl ?_
  all_goals first
    | exact isN_none
    | exact isN_nx
    | exact isN_gd isN_nx
    | exact isN_ov fun _ => isN_nx
    | exact isN_ld
    | exact isN_sto1
    | exact isN_sto2
    | exact isN_jmp
    | exact isN_p2i fun _ _ _ => isN_nx
    | exact isN_p2i fun _ _ _ => isN_gd isN_nx
    | exact isN_p2l fun _ _ _ => isN_nx
    | exact isN_p2l fun _ _ _ => isN_gd isN_nx
    | exact isN_pli fun _ _ _ => isN_nx
    | exact isN_p1i fun _ _ => isN_nx
    | exact isN_p1l fun _ _ => isN_nx
    | exact isN_p1i fun _ _ => isN_bra
    | exact isN_p2i fun _ _ _ => isN_bra
    | exact isN_p1i fun _ _ => isN_ite isN_jmp (isN_ov fun _ => isN_jmp)
    | exact isN_pvr fun _ _ _ => isN_ov fun _ => isN_gtO (fun _ _ => isN_gd isN_nx) isN_none
    | exact isN_pir fun _ _ _ => isN_gtA (fun _ _ _ => isN_gd isN_nx) (isN_ov fun _ => isN_gd isN_nx)
    | exact isN_pir fun _ _ _ => isN_gtR fun _ _ _ => isN_gd (isN_ov fun _ => isN_nx)
    | exact isN_piir fun _ _ _ _ => isN_gtA (fun _ _ _ => isN_gd isN_nx) isN_none
    | exact isN_prir fun _ _ _ _ => isN_gtR fun _ _ _ => isN_gd (isN_gtO (fun _ _ => isN_gd isN_nx) isN_none)
    | exact isN_p1i fun _ _ => isN_ov fun _ => isN_gd isN_nx
    | exact isN_ov fun _ => isN_gd isN_nx
    | skip
  · split
    · exact isN_nx
    · exact isN_ov fun _ => isN_nx
  · refine isN_ov fun v => ?_
    split
    · exact isN_ov fun _ => isN_nx
    · exact isN_none
  · split
    · exact isN_gd isN_nx
    · exact isN_none
  · split
    · exact isN_gd isN_nx
    · exact isN_none
  · refine isN_p1r fun a r => ?_
    split
    · exact isN_gtO (fun _ _ => isN_gd (isN_ov fun _ => isN_nx)) isN_none
    · exact isN_gtO (fun _ _ => isN_none) (isN_ov fun _ => isN_nx)
  · refine isN_p1r fun a r => ?_
    split
    · exact isN_nx
    · exact isN_gd isN_nx
    · exact isN_none
    · exact isN_ov fun _ => isN_nx
  · refine isN_p1i fun n r => isN_gd ?_
    split
    · exact isN_nx
    · exact isN_nx
    · exact isN_nx
    · exact isN_none
theorem callA_nr {E : Ev} {kind id pc : Nat} {s : List Value} {G : Hp} {v} (h : callA E kind id pc s G = some (.inr (.inr v))) : False := by
  unfold callA at h
  obtain ⟨m, -, h⟩ := ov_inj h
  unfold callB at h
  obtain ⟨-, h⟩ := gd_inj h
  split at h
  · split at h
    · obtain ⟨-, h⟩ := gd_inj h
      cases h
    · cases h
  · split at h
    · obtain ⟨-, h⟩ := gd_inj h
      cases h
    · cases h
  · obtain ⟨-, h⟩ := gd_inj h
    cases h
theorem ret_nc {E : Ev} {cx : Cx} {i : Instr} {pc : Nat} {lo : Lo} {t : List Value} {G : Hp} {r : Nat × List Value × Nat × List Value} (hi : i = .ireturn ∨ i = .lreturn ∨ i = .areturn ∨ i = .return_) (h0 : stpI E cx i pc lo t G = some (.inr (.inl r))) : False := by
  rcases hi with rfl | rfl | rfl | rfl
  · have h : (match (generalizing := false) t with | [.int v] => (match cx.2.2.2 with | some ty => gd (narrow ty (.int v) = .int v) inferInstance (some (Sum.inr (Sum.inr (some (Value.int v))))) | none => none) | _ => none) = some (Sum.inr (Sum.inl r)) := h0
    clear h0
    repeat' split at h
    all_goals first | (cases h; done) | (have h2 := (gd_inj h).2; cases h2; done)
  · have h : (match (generalizing := false) t with | [.long v] => gd (cx.2.2.2 = some .long) inferInstance (some (Sum.inr (Sum.inr (some (Value.long v))))) | _ => none) = some (Sum.inr (Sum.inl r)) := h0
    clear h0
    repeat' split at h
    all_goals first | (cases h; done) | (have h2 := (gd_inj h).2; cases h2; done)
  · have h : ((match (generalizing := false) t with | [.ref v] => (match cx.2.2.2 with | some (.object _) => some (Sum.inr (Sum.inr (some (Value.ref v)))) | some (.array _) => some (Sum.inr (Sum.inr (some (Value.ref v)))) | _ => none) | _ => none) : Option Rs) = some (Sum.inr (Sum.inl r)) := h0
    clear h0
    repeat' split at h
    all_goals cases h
  · have h : ((match (generalizing := false) t with | [] => gd (cx.2.2.2 = none) inferInstance (some (Sum.inr (Sum.inr none))) | _ => none) : Option Rs) = some (Sum.inr (Sum.inl r)) := h0
    clear h0
    repeat' split at h
    all_goals first | (cases h; done) | (have h2 := (gd_inj h).2; cases h2; done)
theorem ret_only {E : Ev} {cx : Cx} {i : Instr} {pc : Nat} {lo : Lo} {t : List Value} {G : Hp} {v : Option Value} (h : stpI E cx i pc lo t G = some (.inr (.inr v))) : (i = .ireturn ∧ ∃ x ty, t = [.int x] ∧ v = some (.int x) ∧ cx.2.2.2 = some ty ∧ narrow ty (.int x) = .int x) ∨ (i = .lreturn ∧ ∃ x, t = [.long x] ∧ v = some (.long x) ∧ cx.2.2.2 = some .long) ∨ (i = .areturn ∧ ∃ x, t = [.ref x] ∧ v = some (.ref x) ∧ ((∃ n, cx.2.2.2 = some (.object n)) ∨ ∃ ty, cx.2.2.2 = some (.array ty))) ∨ (i = .return_ ∧ t = [] ∧ v = none ∧ cx.2.2.2 = none) := by
  rcases inr_only (E := E) (cx := cx) (pc := pc) (lo := lo) (t := t) (G := G) (i := i) with z | ⟨x, rfl⟩ | ⟨x, rfl⟩ | ⟨x, rfl⟩ | rfl | rfl | rfl | rfl
  · exact absurd h (z _)
  · exfalso
    have h : invS E cx.1 x pc lo t G = some (.inr (.inr v)) := h
    unfold invS at h
    obtain ⟨q, -, h2⟩ := ov_inj h
    split at h2
    · exact callA_nr h2
    · exact callA_nr h2
    · obtain ⟨a0, sp, a, dp, n, t', -, h3⟩ := pcp_inj h2
      rcases gtA_inj h3 with ⟨k0, n0, f, -, h4⟩ | ⟨-, h4⟩
      · rcases gtA_inj h4 with ⟨k0, n0, f, -, h5⟩ | ⟨-, h5⟩
        · obtain ⟨-, h6⟩ := gd_inj h5
          cases h6
        · cases h5
      · cases h4
    · obtain ⟨a, b, t', -, h3⟩ := p2i_inj h2
      obtain ⟨-, h4⟩ := gd_inj h3
      cases h4
    · obtain ⟨a, b, t', -, h3⟩ := p2i_inj h2
      obtain ⟨-, h4⟩ := gd_inj h3
      cases h4
    · cases h2
  · exfalso
    have h : invV E cx.1 x pc t G = some (.inr (.inr v)) := h
    unfold invV at h
    obtain ⟨q, -, h2⟩ := ov_inj h
    split at h2
    · exact callA_nr h2
    · cases h2
  · exfalso
    have h : invI E cx.1 x pc lo t G = some (.inr (.inr v)) := h
    unfold invI at h
    obtain ⟨q, -, h2⟩ := ov_inj h
    split at h2
    · exact callA_nr h2
    · obtain ⟨a, t', -, h3⟩ := p1r_inj h2
      obtain ⟨-, h4⟩ := gd_inj h3
      cases h4
    · cases h2
  · have h1 : (match (generalizing := false) t with | [.int v] => (match cx.2.2.2 with | some ty => gd (narrow ty (.int v) = .int v) inferInstance (some (Sum.inr (Sum.inr (some (Value.int v))))) | none => none) | _ => none) = some (Sum.inr (Sum.inr v)) := h
    clear h
    split at h1
    · split at h1
      · next ty hty =>
        obtain ⟨h2, h3⟩ := gd_inj h1
        cases h3
        exact Or.inl ⟨rfl, _, ty, rfl, rfl, hty, h2⟩
      · cases h1
    · cases h1
  · have h1 : (match (generalizing := false) t with | [.long v] => gd (cx.2.2.2 = some .long) inferInstance (some (Sum.inr (Sum.inr (some (Value.long v))))) | _ => none) = some (Sum.inr (Sum.inr v)) := h
    clear h
    split at h1
    · obtain ⟨h2, h3⟩ := gd_inj h1
      cases h3
      exact Or.inr (Or.inl ⟨rfl, _, rfl, rfl, h2⟩)
    · cases h1
  · have h1 : ((match (generalizing := false) t with | [.ref v] => (match cx.2.2.2 with | some (.object _) => some (Sum.inr (Sum.inr (some (Value.ref v)))) | some (.array _) => some (Sum.inr (Sum.inr (some (Value.ref v)))) | _ => none) | _ => none) : Option Rs) = some (Sum.inr (Sum.inr v)) := h
    clear h
    split at h1
    · split at h1
      · next n hn =>
        cases h1
        exact Or.inr (Or.inr (Or.inl ⟨rfl, _, rfl, rfl, Or.inl ⟨n, hn⟩⟩))
      · next n hn =>
        cases h1
        exact Or.inr (Or.inr (Or.inl ⟨rfl, _, rfl, rfl, Or.inr ⟨n, hn⟩⟩))
      · cases h1
    · cases h1
  · have h1 : ((match (generalizing := false) t with | [] => gd (cx.2.2.2 = none) inferInstance (some (Sum.inr (Sum.inr none))) | _ => none) : Option Rs) = some (Sum.inr (Sum.inr v)) := h
    clear h
    split at h1
    · obtain ⟨h2, h3⟩ := gd_inj h1
      cases h3
      exact Or.inr (Or.inr (Or.inr ⟨rfl, rfl, rfl, h2⟩))
    · cases h1
def rmD (d k n : Nat) : Room := { frames := d, cells := k, slots := n, locals := 100 * d }
def PcA (E : Ev) (D : va_G) (Y : Yc) (a : List Value) (G : Hp) : Array Value → State → Prop := fun v U => v = a.toArray ∧ IV E D Y G U.heap ∧ KN E D Y U
def QcA (E : Ev) (D : va_G) (Y : Yc) (v : Option Value) (G : Hp) : Array Value → State → Outcome → State → Prop := fun _ st oc t => oc = .returned v ∧ IV E D Y G t.heap ∧ va_F (AA E) st t
def wsM (m : Mi) : List Cond := Cond.code m.1 m.2.1 m.2.2.1 m.2.2.2.1 :: LW
theorem wsM_good {m : Mi} (h : GM m) : GoodIn LW (wsM m) := by
  intro w hw
  rcases List.mem_cons.mp hw with rfl | hw
  · exact ⟨h.1, LW_good h.1⟩
  · exact ⟨hw, LW_good hw⟩
def SDd (l : Launch) (E : Ev) (D : va_G) (Y : Yc) (d : Nat) : Prop := ∀ (id : Nat) (m : Mi) (a : List Value) (G : Hp) (v : Option Value) (G' : Hp), tY[id]? = some m → m.2.2.2.2.2.1 ≠ 14 → runs E d id a G (fun v' G'' => v' = v ∧ G'' = G') → Met l m.1 (wsM m) (rmD d (G'.1.length - G.1.length) (G'.2 - G.2)) (PcA E D Y a G) (QcA E D Y v G') (G'.1.length - G.1.length) (G'.2 - G.2) (AA E)
theorem KN_blind {E : Ev} {D : va_G} {Y : Yc} {a : List Value} {G : Hp} : FrameBlind (PcA E D Y a G) := by
  intro v U g mk h
  obtain ⟨h1, h2, h3⟩ := h
  exact ⟨h1, h2, h3.to (U := U.calling g mk v) (State.WarmedH.refl U) rfl (locs := []) va_S.rf⟩
section SNC
variable {p : Program} {l : Launch} {e : Env} {R : Room} {s : State} {m : MethodId} {args : Array Value} {below : List Frame} {meth : Method} {c : Code} {Q : State → Prop} {E : Ev} {D : va_G} {Y : Yc} {nL N0 S0 : Nat} {cx : Cx} {pc : Nat} {lo : Lo} {t : List Value} {G : Hp}
theorem callX {H : Heap} {locs : List Loc} {cells slots mc ms : Nat} {ls : Array Slot} {st0 rest : List Value} {v : Option Value} {G' : Hp} {a : Array Value} (hr : va_Run p l e R s m args below meth c H locs cells slots mc ms (F0 m pc ls st0) rest (QcA E D Y v G' a) (AA E)) (hS : va_S (AA E) s.heap H locs)
    (kk : ∀ (H1 : Heap) (locs1 : List Loc), IV E D Y G' H1 → va_S (AA E) s.heap H1 locs1 → W p l e R s m args below meth c H1 locs1 (cells + mc) (slots + ms) Q (F0 m (pc + 3) ls (v.toList ++ rest))) : W p l e R s m args below meth c H locs cells slots Q (F0 m pc ls st0) := by
  intro T hT X
  obtain ⟨v0, st₀, t, T', L, h0, X', hL, e1, e2, ⟨hv, hI, hz, hk⟩, st⟩ := hr T hT X
  cases hv
  rw [h0] at hz hk
  obtain ⟨t2, a1, b1⟩ := kk T'.heap (locs ++ L) (by rw [e1]; exact hI)
    ⟨Nat.le_trans hS.1 (by rw [e1]; exact hz), fun q h1 h2 => by rw [e1, hk q (Nat.lt_of_lt_of_le h1 hS.1) h2]; exact hS.2.1 q h1 h2, fun q hq => by
      rcases List.mem_append.mp hq with h | h
      · exact hS.2.2 q h
      · exact hL q h⟩ T' rfl X'
  exact ⟨t2, st t2 a1, b1⟩
theorem preA {H : Heap} {locs : List Loc} {a : List Value} (hK : KN E D Y s) (hI : IV E D Y G H) (hS : va_S (AA E) s.heap H locs) : PreS s H (PcA E D Y a G) a :=
  ⟨KN_blind, fun U hU hW => ⟨rfl, by rw [hU]; exact hI, hK.to hW hU hS⟩⟩
theorem rcv_at {H : Heap} {locs : List Loc} {b o : Nat} (hK : KN E D Y s) (hI : IV E D Y G H) (hS : va_S (AA E) s.heap H locs) (h : rcv E G b o = true) : ∃ cell : Cell, H[b]? = some cell ∧ cell.vm.isStatics = false ∧ s.vm.findClass (tN o) = some cell.cls := by
  unfold rcv at h
  split at h
  · next c0 fs hg =>
    have e0 : c0 = o := eq_of_beq h
    subst e0
    obtain ⟨q', h1, cell, g1, g2, g3, -⟩ := hI.at hg
    have hc : c0 < 8 := by
      have := (List.getElem?_eq_some_iff.mp h1).1
      exact this
    refine ⟨cell, g1, by rw [g3]; rfl, by rw [g2]; exact (hK.1.1 c0 _ (cls_at hc)).2.1⟩
  · rw [Bool.and_eq_true] at h
    have e1 : b = eS E := eq_of_beq h.1
    have e2 : o = 9 := eq_of_beq h.2
    subst e1; subst e2
    obtain ⟨cell, h1, h2, h3, -⟩ := hK.2.2.2.2.2.2.1.1.kept hS.2.1
    exact ⟨cell, h1, h2, h3⟩
  · cases h
/-- what a call of the abstract machine is -/
theorem call_inj {kind id0 : Nat} {r : Nat × List Value × Nat × List Value} (h : callA E kind id0 pc t G = some (.inr (.inl r))) : ∃ mi, tY[id0]? = some mi ∧ r = (id0, (t.take (nA mi)).reverse, pc + 3, t.drop (nA mi)) ∧ (t.take (nA mi)).reverse.length = nA mi ∧ (t.drop (nA mi)).length ≤ 4 ∧ (kind = 1 → ∃ b as, (t.take (nA mi)).reverse = .ref b :: as ∧ mi.2.2.2.2.2.2.2 = false ∧ mi.2.2.2.2.2.2.1 = false ∧ rcv E G b mi.2.2.2.2.2.1 = true) ∧ (kind = 2 → ∃ b as, (t.take (nA mi)).reverse = .ref b :: as ∧ mi.2.2.2.2.2.2.2 = false ∧ mi.2.2.2.2.2.2.1 = true) ∧ (kind ≠ 1 → kind ≠ 2 → mi.2.2.2.2.2.2.2 = true) := by
  unfold callA at h
  obtain ⟨mi, h1, h2⟩ := ov_inj h
  unfold callB at h2
  obtain ⟨h3, h4⟩ := gd_inj h2
  refine ⟨mi, h1, ?_⟩
  split at h4
  · split at h4
    · next b as he =>
      obtain ⟨h5, h6⟩ := gd_inj h4
      cases h6
      exact ⟨rfl, h3.1, h3.2, fun _ => ⟨b, as, he, h5⟩, (fun h => by cases h), fun h => absurd rfl h⟩
    · cases h4
  · split at h4
    · next b as he =>
      obtain ⟨h5, h6⟩ := gd_inj h4
      cases h6
      exact ⟨rfl, h3.1, h3.2, (fun h => by cases h), fun _ => ⟨b, as, he, h5⟩, fun _ h => absurd rfl h⟩
    · cases h4
  · next n1 n2 =>
    obtain ⟨h5, h6⟩ := gd_inj h4
    cases h6
    exact ⟨rfl, h3.1, h3.2, fun h => absurd h n1, fun h => absurd h n2, fun _ _ => h5⟩
theorem spl {n : Nat} (t : List Value) : t = (t.take n).reverse.reverse ++ t.drop n := by rw [List.reverse_reverse, List.take_append_drop]
set_option maxHeartbeats 4000000 in
theorem s_call {d : Nat} (IH : SDd l E D Y d) (hR : d + 1 ≤ R.frames ∧ 100 * d + 60 ≤ R.locals) (hM : MC p s m args meth c E D Y cx nL) {i : Instr} (hd : decode cx.2.1 pc = .ok (i, 3)) {r : Nat × List Value × Nat × List Value} (h : stpI E cx i pc lo t G = some (.inr (.inl r))) {v : Option Value} {G' : Hp} (hgr : grows G G') (hbd : G'.1.length - N0 ≤ R.cells ∧ G'.2 - S0 ≤ R.slots) (hrun : runs E d r.1 r.2.1 G (fun v' G'' => v' = v ∧ G'' = G'))
    (k : WP p l e R s m args below meth c Q E D Y nL N0 S0 r.2.2.1 lo (v.toList ++ r.2.2.2) G') : WP p l e R s m args below meth c Q E D Y nL N0 S0 pc lo t G := by
  obtain ⟨⟨hx, hb, hml, hr, hlk⟩, hown, hini, hts, hK⟩ := hM
  intro H locs ls hl hI hS g1 g2
  have fin : ∀ (H1 : Heap) (locs1 : List Loc), IV E D Y G' H1 → va_S (AA E) s.heap H1 locs1 → W p l e R s m args below meth c H1 locs1 (G.1.length - N0 + (G'.1.length - G.1.length)) (G.2 - S0 + (G'.2 - G.2)) Q (F0 m r.2.2.1 ls (v.toList ++ r.2.2.2)) := by
    intro H1 locs1 hI1 hS1
    have kk := k H1 locs1 ls hl hI1 hS1 (Nat.le_trans g1 hgr.1) (Nat.le_trans g2 hgr.2)
    have c1 : G'.1.length - N0 = G.1.length - N0 + (G'.1.length - G.1.length) := by have := hgr.1; omega
    have c2 : G'.2 - S0 = G.2 - S0 + (G'.2 - G.2) := by have := hgr.2; omega
    rw [c1, c2] at kk
    exact kk
  have hf : G.1.length - N0 + (G'.1.length - G.1.length) ≤ R.cells ∧ G.2 - S0 + (G'.2 - G.2) ≤ R.slots := by
    have := hgr.1
    have := hgr.2
    omega
  have hrm : ∀ q : Nat, q ≤ 40 → (rmD d (G'.1.length - G.1.length) (G'.2 - G.2)).frames + 1 ≤ R.frames ∧ 8 + (q + 11) + (rmD d (G'.1.length - G.1.length) (G'.2 - G.2)).locals ≤ R.locals := fun q hq => ⟨hR.1, by show 8 + (q + 11) + 100 * d ≤ _; omega⟩
  rcases inr_only (E := E) (cx := cx) (pc := pc) (lo := lo) (t := t) (G := G) (i := i) with z | ⟨x, rfl⟩ | ⟨x, rfl⟩ | ⟨x, rfl⟩ | z | z | z | z
  · exact absurd h (z _)
  · have h : invS E cx.1 x pc lo t G = some (.inr (.inl r)) := h
    unfold invS at h
    obtain ⟨q, hq, h2⟩ := ov_inj h
    have hf0 := fM_ok hq
    have go : ∀ kind : Nat, kind ≠ 1 → kind ≠ 2 → callA E kind q.2.1 pc t G = some (.inr (.inl r)) → (kind = 5 → va_Nw (.methodLinkNest (tN cx.1) x (yOf q.2.1) RX6) s) → (kind ≠ 5 → tables_1[q.2.2]? = some (.methodLink (tN cx.1) x (yOf q.2.1))) → (∀ mi, tY[q.2.1]? = some mi → mi.2.2.2.2.2.1 ≠ 14) → W p l e R s m args below meth c H locs (G.1.length - N0) (G.2 - S0) Q (F0 m pc ls t) := by
      intro kind n1 n2 h3 hN hL hn14
      obtain ⟨mi, hmi, hre, hla, hlr, -, -, hst⟩ := call_inj h3
      have hgm := gm_at hmi
      have hst := hst n1 n2
      have hyo := yOf_at hmi
      have hnp : nA mi = mi.2.2.2.2.1 := by unfold nA; rw [hst]; rfl
      subst hre
      dsimp only at hrun fin
      · have M := IH q.2.1 mi _ G v G' hmi (hn14 mi hmi) hrun
        by_cases hk5 : kind = 5
        · have cw := va_cnB (R := R) (own := tN cx.1) (host := RX6) (index := x) (y := mi.1) (bytes := mi.2.1) (maxL := mi.2.2.1) (ret := mi.2.2.2.1) (ws := wsM mi) (rm := rmD d (G'.1.length - G.1.length) (G'.2 - G.2)) (mc := G'.1.length - G.1.length) (ms := G'.2 - G.2) mi.2.2.2.2.1 hts (wsM_good hgm) rfl rfl rfl (by rw [← hyo]; exact hN hk5) (hts _ hgm.2.1) ⟨hgm.2.2.1.2.1, hgm.2.2.1.2.2.1, hgm.2.2.1.2.2.2⟩ (hrm _ hgm.2.2.2.1.2)
          exact callX (va_runSN (As := (t.take (nA mi)).reverse) (rest := t.drop (nA mi)) ⟨hx, hb, hml, hown, hts⟩ M ⟨cw, hts _ (hgm.2.2.2.2.2.1 hst), trivial⟩ (preA hK hI hS) rfl (hla.trans hnp) hl.2.1 (spl t) (lv_room (cat_8 hlr)) hd hf) hS fin
        · have cb := callB_of (R := R) (own := tN cx.1) (index := x) (y := mi.1) (bytes := mi.2.1) (maxL := mi.2.2.1) (ret := mi.2.2.2.1) (ws := wsM mi) (rm := rmD d (G'.1.length - G.1.length) (G'.2 - G.2)) (mc := G'.1.length - G.1.length) (ms := G'.2 - G.2) mi.2.2.2.2.1 hts (wsM_good hgm) rfl rfl rfl (hts _ hgm.2.1) (hts _ (LW_t _ (by rw [← hyo]; exact hL hk5) rfl)) ⟨hgm.2.2.1.2.1, hgm.2.2.1.2.2.1, hgm.2.2.1.2.2.2⟩ (hrm _ hgm.2.2.2.1.2)
          exact callX (va_runS (As := (t.take (nA mi)).reverse) (rest := t.drop (nA mi)) ⟨hx, hb, hml, hown, hts⟩ M ⟨cb, hts _ (hgm.2.2.2.2.2.1 hst)⟩ (preA hK hI hS) rfl (hla.trans hnp) hl.2.1 (spl t) (lv_room (cat_8 hlr)) hd hf) hS fin
    split at h2
    · next e0 =>
      obtain ⟨q1, q2, q3⟩ := q
      have e0 : q1 = 0 := e0
      subst e0
      exact go 0 (by decide) (by decide) h2 (fun h => by cases h) (fun _ => hf0) (fun mi hmi => fM_n hq (by decide) hmi)
    · next e0 =>
      obtain ⟨q1, q2, q3⟩ := q
      have e0 : q1 = 5 := e0
      subst e0
      exact go 5 (by decide) (by decide) h2 (fun _ => hK.2.1 cx.1 x q2 q3 hq) (fun h => absurd rfl h) (fun mi hmi => fM_n hq (by decide) hmi)
    · exfalso
      obtain ⟨a0, sp, a, dp, n, t', -, h3⟩ := pcp_inj h2
      rcases gtA_inj h3 with ⟨k0, n0, f, -, h4⟩ | ⟨-, h4⟩
      · rcases gtA_inj h4 with ⟨k0, n0, f, -, h5⟩ | ⟨-, h5⟩
        · obtain ⟨-, h6⟩ := gd_inj h5
          cases h6
        · cases h5
      · cases h4
    · exfalso
      obtain ⟨a, b, t', -, h3⟩ := p2i_inj h2
      obtain ⟨-, h4⟩ := gd_inj h3
      cases h4
    · exfalso
      obtain ⟨a, b, t', -, h3⟩ := p2i_inj h2
      obtain ⟨-, h4⟩ := gd_inj h3
      cases h4
    · cases h2
  · have h : invV E cx.1 x pc t G = some (.inr (.inl r)) := h
    unfold invV at h
    obtain ⟨q, hq, h2⟩ := ov_inj h
    have hf0 := fM_ok hq
    split at h2
    · next e0 =>
      obtain ⟨q1, q2, q3⟩ := q
      have e0 : q1 = 1 := e0
      subst e0
      obtain ⟨mi, hmi, hre, hla, hlr, hv1, -, -⟩ := call_inj h2
      obtain ⟨b, as, hba, hst, hin, hrc⟩ := hv1 rfl
      have hgm := gm_at hmi
      have hyo := yOf_at hmi
      have hnp : nA mi = mi.2.2.2.2.1 + 1 := by unfold nA; rw [hst]; rfl
      subst hre
      dsimp only at hrun fin
      have h14 : mi.2.2.2.2.2.1 ≠ 14 := fM_n hq (by decide) hmi
      have M := IH q2 mi _ G v G' hmi h14 hrun
      have cb := callB_of (R := R) (own := tN cx.1) (index := x) (y := mi.1) (bytes := mi.2.1) (maxL := mi.2.2.1) (ret := mi.2.2.2.1) (ws := wsM mi) (rm := rmD d (G'.1.length - G.1.length) (G'.2 - G.2)) (mc := G'.1.length - G.1.length) (ms := G'.2 - G.2) mi.2.2.2.2.1 hts (wsM_good hgm) rfl rfl rfl (hts _ hgm.2.1) (hts _ (LW_t _ (by rw [← hyo]; exact hf0) rfl)) ⟨hgm.2.2.1.2.1, hgm.2.2.1.2.2.1, hgm.2.2.1.2.2.2⟩ (hrm _ hgm.2.2.2.1.2)
      have hsel := hgm.2.2.2.2.2.2 hst
      have pre := preA (a := (t.take (nA mi)).reverse) hK hI hS
      rw [hba] at pre M
      refine callX (v := v) (G' := G') (va_runV (C := mi.1.cls) (b := b) (As := as) (rest := t.drop (nA mi)) ⟨hx, hb, hml, hown, hts⟩ M ⟨cb, hts _ hsel.1, hts _ (hsel.2 hin)⟩ ⟨pre.1, ?_, pre.2⟩ rfl ?_ hl.2.1 ?_ (lv_room (cat_8 hlr)) hd hf) hS fin
      · rw [hgm.2.2.2.1.1]
        exact rcv_at hK hI hS hrc
      · rw [hba, List.length_cons, hnp] at hla
        omega
      · have e := spl (n := nA mi) t
        rw [hba] at e
        show t = _
        rw [List.reverse_cons, List.append_assoc] at e
        exact e
    · cases h2
  · have h : invI E cx.1 x pc lo t G = some (.inr (.inl r)) := h
    unfold invI at h
    obtain ⟨q, hq, h2⟩ := ov_inj h
    have hf0 := fM_ok hq
    split at h2
    · next e0 =>
      obtain ⟨q1, q2, q3⟩ := q
      have e0 : q1 = 2 := e0
      subst e0
      obtain ⟨mi, hmi, hre, hla, hlr, -, hv1, -⟩ := call_inj h2
      obtain ⟨b, as, hba, hst, hin⟩ := hv1 rfl
      have hgm := gm_at hmi
      have hyo := yOf_at hmi
      have hnp : nA mi = mi.2.2.2.2.1 + 1 := by unfold nA; rw [hst]; rfl
      subst hre
      dsimp only at hrun fin
      have h14 : mi.2.2.2.2.2.1 ≠ 14 := fM_n hq (by decide) hmi
      have M := IH q2 mi _ G v G' hmi h14 hrun
      obtain ⟨hnm, hrt⟩ := hgm.2.2.2.2.1 hin
      have cb := callB_of (R := R) (own := tN cx.1) (index := x) (y := mi.1) (bytes := mi.2.1) (maxL := mi.2.2.1) (ret := none) (ws := wsM mi) (rm := rmD d (G'.1.length - G.1.length) (G'.2 - G.2)) (mc := G'.1.length - G.1.length) (ms := G'.2 - G.2) mi.2.2.2.2.1 hts (wsM_good hgm) (by unfold wsM; rw [hrt]) rfl rfl (hts _ hgm.2.1) (hts _ (LW_t _ (by rw [← hyo]; exact hf0) rfl)) ⟨hgm.2.2.1.2.1, hgm.2.2.1.2.2.1, hgm.2.2.1.2.2.2⟩ (hrm _ hgm.2.2.2.1.2)
      have hsel := hgm.2.2.2.2.2.2 hst
      have pre := preA (a := (t.take (nA mi)).reverse) hK hI hS
      rw [hba] at pre M
      refine callX (v := v) (G' := G') (va_runI (b := b) (As := as) (rest := t.drop (nA mi)) ⟨hx, hb, hml, hown, hts⟩ M ⟨cb, hnm, hts _ hsel.1⟩ pre rfl ?_ hl.2.1 ?_ (lv_room (cat_8 hlr)) hd hf) hS fin
      · rw [hba, List.length_cons, hnp] at hla
        omega
      · have e := spl (n := nA mi) t
        rw [hba] at e
        show t = _
        rw [List.reverse_cons, List.append_assoc] at e
        exact e
    · exfalso
      obtain ⟨a, t', -, h3⟩ := p1r_inj h2
      obtain ⟨-, h4⟩ := gd_inj h3
      cases h4
    · cases h2
  · exact (ret_nc (Or.inl z) h).elim
  · exact (ret_nc (Or.inr (Or.inl z)) h).elim
  · exact (ret_nc (Or.inr (Or.inr (Or.inl z))) h).elim
  · exact (ret_nc (Or.inr (Or.inr (Or.inr z))) h).elim
theorem dec_of {r : Rs} (h : stp E cx pc lo t G = some r) : ∃ i n, decode cx.2.1 pc = .ok (i, n) ∧ lenOk i n = true ∧ stpI E cx i pc lo t G = some r := by
  unfold stp at h
  split at h
  · next i n hd =>
    obtain ⟨h1, h2⟩ := gd_inj h
    exact ⟨i, n, hd, h1, h2⟩
  · cases h
theorem call_len {i : Instr} {n : Nat} {r : Nat × List Value × Nat × List Value} (hl : lenOk i n = true) (h : stpI E cx i pc lo t G = some (.inr (.inl r))) : n = 3 := by
  rcases inr_only (E := E) (cx := cx) (pc := pc) (lo := lo) (t := t) (G := G) (i := i) with z | ⟨x, rfl⟩ | ⟨x, rfl⟩ | ⟨x, rfl⟩ | z | z | z | z
  · exact absurd h (z _)
  · exact eq_of_beq hl
  · exact eq_of_beq hl
  · exact eq_of_beq hl
  · exact (ret_nc (Or.inl z) h).elim
  · exact (ret_nc (Or.inr (Or.inl z)) h).elim
  · exact (ret_nc (Or.inr (Or.inr (Or.inl z))) h).elim
  · exact (ret_nc (Or.inr (Or.inr (Or.inr z))) h).elim
/-- a run of a method's code -/
theorem s_X {d : Nat} (IH : SDd l E D Y d) (hR : d + 1 ≤ R.frames ∧ 100 * d + 60 ≤ R.locals) (hM : MC p s m args meth c E D Y cx nL) {v : Option Value} {G' : Hp} (hbd : G'.1.length - N0 ≤ R.cells ∧ G'.2 - S0 ≤ R.slots)
    (hret : ∀ (pc : Nat) (lo : Lo) (t : List Value) (i : Instr), decode cx.2.1 pc = .ok (i, 1) → stpI E cx i pc lo t G' = some (.inr (.inr v)) → WP p l e R s m args below meth c Q E D Y nL N0 S0 pc lo t G') :
    ∀ k pc lo t G, X (runs E d) E cx k pc lo t G (fun v' G'' => v' = v ∧ G'' = G') → WP p l e R s m args below meth c Q E D Y nL N0 S0 pc lo t G := by
  intro k
  induction k with
  | zero => intro pc lo t G h; exact h.elim
  | succ k ih =>
    intro pc lo t G h
    have h9 := h
    unfold X at h
    cases hs : stp E cx pc lo t G with
    | none => rw [hs] at h; exact h.elim
    | some r =>
      rw [hs] at h
      obtain ⟨i, n, hd, hl, hst⟩ := dec_of hs
      rcases r with r | r | w
      · obtain ⟨v1, G1, h1, h2, h3⟩ := X_res (runs_mono d) (runs_res d) _ _ _ _ _ _ h
        obtain ⟨rfl, rfl⟩ := h1
        have hb : r.2.2.2.1.length - N0 ≤ R.cells ∧ r.2.2.2.2 - S0 ≤ R.slots := by
          have := h3.1
          have := h3.2
          have := hbd.1
          have := hbd.2
          omega
        exact ss_all ⟨by omega, by omega⟩ hM hd hl hst hb (ih _ _ _ _ h)
      · have en := call_len hl hst
        subst en
        obtain ⟨v1, G1, h1, h2, h3⟩ := runs_res d _ _ _ _ h
        obtain ⟨v2, G2, e2, h4, h5⟩ := X_res (runs_mono d) (runs_res d) _ _ _ _ _ _ h1
        obtain ⟨rfl, rfl⟩ := e2
        have hb : G1.1.length - N0 ≤ R.cells ∧ G1.2 - S0 ≤ R.slots := by
          have := h5.1
          have := h5.2
          have := hbd.1
          have := hbd.2
          omega
        exact s_call IH hR hM hd hst h3 hb h2 (ih _ _ _ _ h1)
      · obtain ⟨rfl, rfl⟩ := h
        have en : n = 1 := by
          rcases ret_only hst with ⟨rfl, -⟩ | ⟨rfl, -⟩ | ⟨rfl, -⟩ | ⟨rfl, -⟩ <;> exact eq_of_beq hl
        subst en
        exact hret pc lo t i hd hst
end SNC
theorem sound (l : Launch) (E : Ev) (D : va_G) (Y : Yc) : ∀ d, SDd l E D Y d := by
  intro d
  induction d with
  | zero => intro id m a G v G' hm h14 h; exact h.elim
  | succ d IH =>
    intro id mi a G v G' hm h14 h
    have hgm := gm_at hm
    unfold runs at h
    rw [hm] at h
    obtain ⟨hes, k, hX⟩ := h
    have hplain : plainName mi.1.cls = true := by
      rcases hgm.2.2.1.1 with h | h
      · exact absurd h h14
      · exact h
    refine Met.ofW (cc := mi.2.1) (maxL := mi.2.2.1) (ret := mi.2.2.2.1) hplain rfl ?_
    intro p e s m args below meth c s₁ B hml hv
    obtain ⟨rfl, hI, hK⟩ := hv
    have hts : ∀ w ∈ LW, w.before a.toArray s = true := fun w hw => atoms_spec (ws := wsM mi) B.pre w (List.mem_cons_of_mem _ hw)
    have hown : s.vm.findClass (tN mi.2.2.2.2.2.1) = some m.cls := by
      rw [← hgm.2.2.2.1.1]
      exact findClass_of_methodNamed B.named
    have hM : MC p s m a.toArray meth c E D Y (cxM mi) mi.2.2.1 := ⟨⟨B.exec, B.bytes, hml, B.returns, B.notSynchronized⟩, hown, fun hi => by rw [(name_of_methodNamed B.named B.method).1]; exact (hgm.2.2.2.2.1 hi).1, hts, hK⟩
    rw [lg_entry_eq]
    obtain ⟨v1, G1, e1, -, hgr⟩ := X_res (runs_mono d) (runs_res d) _ _ _ _ _ _ hX
    obtain ⟨rfl, rfl⟩ := e1
    have key := s_X (R := rmD (d + 1) (G1.1.length - G.1.length) (G1.2 - G.2)) (p := p) (e := e) (below := below) (N0 := G.1.length) (S0 := G.2) (Q := MQ below (QcA E D Y v1 G1) a.toArray s (G1.1.length - G.1.length) (G1.2 - G.2) (AA E)) IH ⟨Nat.le_refl _, by show 100 * d + 60 ≤ 100 * (d + 1); omega⟩ hM (v := v1) (G' := G1) ⟨Nat.le_refl _, Nat.le_refl _⟩ ?_ k 0 (ent a mi.2.2.1) [] G hX
    · have kk := key s.heap [] _ (LR.ent hes) hI va_S.rf (Nat.le_refl _) (Nat.le_refl _)
      rw [Nat.sub_self, Nat.sub_self] at kk
      exact kk
    · intro pc lo t i hd hst
      obtain ⟨⟨hx, hb, hml2, hr, hlk⟩, -⟩ := hM
      intro H locs ls hl hI2 hS g1 g2
      rcases ret_only hst with ⟨rfl, x, ty, rfl, rfl, hty, hn⟩ | ⟨rfl, x, rfl, rfl, hty⟩ | ⟨rfl, x, rfl, rfl, hty⟩ | ⟨rfl, rfl, rfl, hty⟩
      · exact W.zret hx hb (hr.trans hty) hn (fun t ht _ => ⟨rfl, by rw [ht]; exact hI2, hS.F ht⟩) hS.2.2 hd hlk
      · exact W.lret hx hb (hr.trans hty) (fun t ht _ => ⟨rfl, by rw [ht]; exact hI2, hS.F ht⟩) hS.2.2 hd hlk
      · rcases hty with ⟨n, hty⟩ | ⟨n, hty⟩
        · exact W.aret hx hb (hr.trans hty) (Or.inl ⟨n, rfl⟩) (Or.inr ⟨x, rfl⟩) (fun t ht _ => ⟨rfl, by rw [ht]; exact hI2, hS.F ht⟩) hS.2.2 hd hlk
        · exact W.aret hx hb (hr.trans hty) (Or.inr ⟨n, rfl⟩) (Or.inr ⟨x, rfl⟩) (fun t ht _ => ⟨rfl, by rw [ht]; exact hI2, hS.F ht⟩) hS.2.2 hd hlk
      · exact W.vret hx hb (hr.trans hty) (fun t ht _ => ⟨rfl, by rw [ht]; exact hI2, hS.F ht⟩) hS.2.2 hd hlk

