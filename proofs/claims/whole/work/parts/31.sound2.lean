/-! each instruction of the abstract machine is one of the machine -/
/-- what a method's walk knows all along -/
def MC (p : Program) (s : State) (m : MethodId) (args : Array Value) (meth : Method) (c : Code) (E : Ev) (D : va_G) (Y : Yc) (cx : Cx) (nL : Nat) : Prop :=
  (p.tables.exec = Jvm.exec ∧ c.code = cx.2.1 ∧ c.maxLocals = nL ∧ meth.sig.returnType = cx.2.2.2 ∧ meth.locks = false) ∧ s.vm.findClass (tN cx.1) = some m.cls ∧ (cx.2.2.1 = true → meth.name = "<init>") ∧ (∀ w ∈ LW, w.before args s = true) ∧ KN E D Y s
def WP (p : Program) (l : Launch) (e : Env) (R : Room) (s : State) (m : MethodId) (args : Array Value) (below : List Frame) (meth : Method) (c : Code) (Q : State → Prop) (E : Ev) (D : va_G) (Y : Yc) (nL N0 S0 pc : Nat) (lo : Lo) (t : List Value) (G : Hp) : Prop :=
  ∀ (H : Heap) (locs : List Loc) (ls : Array Slot), LR ls nL lo → IV E D Y G H → va_S (AA E) s.heap H locs → N0 ≤ G.1.length → S0 ≤ G.2 → W p l e R s m args below meth c H locs (G.1.length - N0) (G.2 - S0) Q (F0 m pc ls t)
section SND
variable {p : Program} {l : Launch} {e : Env} {R : Room} {s : State} {m : MethodId} {args : Array Value} {below : List Frame} {meth : Method} {c : Code} {Q : State → Prop} {E : Ev} {D : va_G} {Y : Yc} {nL N0 S0 : Nat} {cx : Cx} {pc : Nat} {lo : Lo} {t : List Value} {G : Hp} {r : Nat × Lo × List Value × Hp}
theorem nx_inj {pc : Nat} {lo : Lo} {t : List Value} {G : Hp} (h : nx pc lo t G = some (.inl r)) : r = (pc, lo, t, G) := by
  unfold nx at h
  cases h
  rfl
theorem gd_inj {c : Prop} {d : Decidable c} {x : Option Rs} {y : Rs} (h : gd c d x = some y) : c ∧ x = some y := by
  unfold gd at h
  split at h
  · next hc => exact ⟨hc, h⟩
  · cases h
theorem ov_inj {α : Type} {x : Option α} {f : α → Option Rs} {y : Rs} (h : ov x f = some y) : ∃ v, x = some v ∧ f v = some y := by
  unfold ov at h
  split at h
  · next v => exact ⟨v, rfl, h⟩
  · cases h
theorem jmp_inj {pc : Nat} {off : Int} (h : jmp pc off lo t G = some (.inl r)) : ∃ tgt : Nat, (pc : Int) + off = (tgt : Int) ∧ r = (tgt, lo, t, G) := by
  obtain ⟨h1, h2⟩ := gd_inj h
  exact ⟨((pc : Int) + off).toNat, by omega, nx_inj h2⟩
theorem bra_inj {b : Bool} {pc : Nat} {off : Int} (h : bra b pc off lo t G = some (.inl r)) : ∃ tgt : Nat, (pc : Int) + off = (tgt : Int) ∧ ((b = true ∧ r = (tgt, lo, t, G)) ∨ (b = false ∧ r = (pc + 3, lo, t, G))) := by
  obtain ⟨h1, h2⟩ := gd_inj h
  refine ⟨((pc : Int) + off).toNat, by omega, ?_⟩
  cases b
  · exact Or.inr ⟨rfl, nx_inj h2⟩
  · exact Or.inl ⟨rfl, nx_inj h2⟩
theorem ld_inj {f : Value → Bool} {pc i : Nat} (h : ld f pc i lo t G = some (.inl r)) : ∃ v, lget lo i = some v ∧ f v = true ∧ r = (pc, lo, v :: t, G) := by
  obtain ⟨v, h1, h2⟩ := ov_inj h
  obtain ⟨h3, h4⟩ := gd_inj h2
  exact ⟨v, h1, h3, nx_inj h4⟩
theorem sto1_inj {f : Value → Bool} {pc i : Nat} (h : sto1 f pc i lo t G = some (.inl r)) : ∃ v t' lo', t = v :: t' ∧ f v = true ∧ lst1 lo i v = some lo' ∧ r = (pc, lo', t', G) := by
  unfold sto1 at h
  split at h
  · next v t' =>
    obtain ⟨h3, h4⟩ := gd_inj h
    obtain ⟨lo', h5, h6⟩ := ov_inj h4
    exact ⟨v, t', lo', rfl, h3, h5, nx_inj h6⟩
  · cases h
theorem isI_inj {v : Value} (h : isI v = true) : ∃ x, v = .int x := by cases v <;> first | exact ⟨_, rfl⟩ | cases h
theorem isL_inj {v : Value} (h : isL v = true) : ∃ x, v = .long x := by cases v <;> first | exact ⟨_, rfl⟩ | cases h
theorem isR_inj {v : Value} (h : isR v = true) : ∃ x, v = .ref x := by cases v <;> first | exact ⟨_, rfl⟩ | cases h

theorem ss_iconst {n : Int} (hM : MC p s m args meth c E D Y cx nL) (hd : decode cx.2.1 pc = .ok (.iconst n, 1)) (h : stpI E cx (.iconst n) pc lo t G = some (.inl r))  (k : WP p l e R s m args below meth c Q E D Y nL N0 S0 r.1 r.2.1 r.2.2.1 r.2.2.2) : WP p l e R s m args below meth c Q E D Y nL N0 S0 pc lo t G := by
  obtain ⟨⟨hx, hb, hml, hr, hlk⟩, hown, hini, hts, hK⟩ := hM
  cases nx_inj h
  intro H locs ls hl hI hS g1 g2
  exact lv_iconst hx hb hd rfl (k H locs ls hl hI hS g1 g2)
theorem ss_bipush {n : Int} (hM : MC p s m args meth c E D Y cx nL) (hd : decode cx.2.1 pc = .ok (.bipush n, 2)) (h : stpI E cx (.bipush n) pc lo t G = some (.inl r))  (k : WP p l e R s m args below meth c Q E D Y nL N0 S0 r.1 r.2.1 r.2.2.1 r.2.2.2) : WP p l e R s m args below meth c Q E D Y nL N0 S0 pc lo t G := by
  obtain ⟨⟨hx, hb, hml, hr, hlk⟩, hown, hini, hts, hK⟩ := hM
  obtain ⟨h0, h⟩ := gd_inj h
  cases nx_inj h
  intro H locs ls hl hI hS g1 g2
  exact lv_bipush hx hb hd h0 (k H locs ls hl hI hS g1 g2)
theorem ss_sipush {n : Int} (hM : MC p s m args meth c E D Y cx nL) (hd : decode cx.2.1 pc = .ok (.sipush n, 3)) (h : stpI E cx (.sipush n) pc lo t G = some (.inl r))  (k : WP p l e R s m args below meth c Q E D Y nL N0 S0 r.1 r.2.1 r.2.2.1 r.2.2.2) : WP p l e R s m args below meth c Q E D Y nL N0 S0 pc lo t G := by
  obtain ⟨⟨hx, hb, hml, hr, hlk⟩, hown, hini, hts, hK⟩ := hM
  obtain ⟨h0, h⟩ := gd_inj h
  cases nx_inj h
  intro H locs ls hl hI hS g1 g2
  exact lv_sipush hx hb hd h0 (k H locs ls hl hI hS g1 g2)
theorem ss_lconst {n : Fin 2} (hM : MC p s m args meth c E D Y cx nL) (hd : decode cx.2.1 pc = .ok (.lconst n, 1)) (h : stpI E cx (.lconst n) pc lo t G = some (.inl r))  (k : WP p l e R s m args below meth c Q E D Y nL N0 S0 r.1 r.2.1 r.2.2.1 r.2.2.2) : WP p l e R s m args below meth c Q E D Y nL N0 S0 pc lo t G := by
  obtain ⟨⟨hx, hb, hml, hr, hlk⟩, hown, hini, hts, hK⟩ := hM
  cases nx_inj h
  intro H locs ls hl hI hS g1 g2
  exact lv_lconst hx hb hd rfl (k H locs ls hl hI hS g1 g2)
theorem ss_iload_n {i : Fin 4} (hM : MC p s m args meth c E D Y cx nL) (hd : decode cx.2.1 pc = .ok (.iload_n i, 1)) (h : stpI E cx (.iload_n i) pc lo t G = some (.inl r))  (k : WP p l e R s m args below meth c Q E D Y nL N0 S0 r.1 r.2.1 r.2.2.1 r.2.2.2) : WP p l e R s m args below meth c Q E D Y nL N0 S0 pc lo t G := by
  obtain ⟨⟨hx, hb, hml, hr, hlk⟩, hown, hini, hts, hK⟩ := hM
  obtain ⟨v, h1, h2, h3⟩ := ld_inj h
  obtain ⟨x, rfl⟩ := isI_inj h2
  cases h3
  intro H locs ls hl hI hS g1 g2
  exact lv_iload_n hx hb hd rfl (hl.at h1) (k H locs ls hl hI hS g1 g2)
theorem ss_iload {i : Nat} (hM : MC p s m args meth c E D Y cx nL) (hd : decode cx.2.1 pc = .ok (.iload i, 2)) (h : stpI E cx (.iload i) pc lo t G = some (.inl r))  (k : WP p l e R s m args below meth c Q E D Y nL N0 S0 r.1 r.2.1 r.2.2.1 r.2.2.2) : WP p l e R s m args below meth c Q E D Y nL N0 S0 pc lo t G := by
  obtain ⟨⟨hx, hb, hml, hr, hlk⟩, hown, hini, hts, hK⟩ := hM
  obtain ⟨v, h1, h2, h3⟩ := ld_inj h
  obtain ⟨x, rfl⟩ := isI_inj h2
  cases h3
  intro H locs ls hl hI hS g1 g2
  exact lv_iload hx hb hd (hl.at h1) (k H locs ls hl hI hS g1 g2)
theorem ss_lload_n {i : Fin 4} (hM : MC p s m args meth c E D Y cx nL) (hd : decode cx.2.1 pc = .ok (.lload_n i, 1)) (h : stpI E cx (.lload_n i) pc lo t G = some (.inl r))  (k : WP p l e R s m args below meth c Q E D Y nL N0 S0 r.1 r.2.1 r.2.2.1 r.2.2.2) : WP p l e R s m args below meth c Q E D Y nL N0 S0 pc lo t G := by
  obtain ⟨⟨hx, hb, hml, hr, hlk⟩, hown, hini, hts, hK⟩ := hM
  obtain ⟨v, h1, h2, h3⟩ := ld_inj h
  obtain ⟨x, rfl⟩ := isL_inj h2
  cases h3
  intro H locs ls hl hI hS g1 g2
  exact lv_lload_n hx hb hd rfl (hl.at h1) (k H locs ls hl hI hS g1 g2)
theorem ss_lload {i : Nat} (hM : MC p s m args meth c E D Y cx nL) (hd : decode cx.2.1 pc = .ok (.lload i, 2)) (h : stpI E cx (.lload i) pc lo t G = some (.inl r))  (k : WP p l e R s m args below meth c Q E D Y nL N0 S0 r.1 r.2.1 r.2.2.1 r.2.2.2) : WP p l e R s m args below meth c Q E D Y nL N0 S0 pc lo t G := by
  obtain ⟨⟨hx, hb, hml, hr, hlk⟩, hown, hini, hts, hK⟩ := hM
  obtain ⟨v, h1, h2, h3⟩ := ld_inj h
  obtain ⟨x, rfl⟩ := isL_inj h2
  cases h3
  intro H locs ls hl hI hS g1 g2
  exact lv_lload hx hb hd (hl.at h1) (k H locs ls hl hI hS g1 g2)
theorem ss_aload_n {i : Fin 4} (hM : MC p s m args meth c E D Y cx nL) (hd : decode cx.2.1 pc = .ok (.aload_n i, 1)) (h : stpI E cx (.aload_n i) pc lo t G = some (.inl r))  (k : WP p l e R s m args below meth c Q E D Y nL N0 S0 r.1 r.2.1 r.2.2.1 r.2.2.2) : WP p l e R s m args below meth c Q E D Y nL N0 S0 pc lo t G := by
  obtain ⟨⟨hx, hb, hml, hr, hlk⟩, hown, hini, hts, hK⟩ := hM
  obtain ⟨v, h1, h2, h3⟩ := ld_inj h
  obtain ⟨x, rfl⟩ := isR_inj h2
  cases h3
  intro H locs ls hl hI hS g1 g2
  exact lv_aload_n hx hb hd rfl (hl.at h1) (k H locs ls hl hI hS g1 g2)
theorem ss_aload {i : Nat} (hM : MC p s m args meth c E D Y cx nL) (hd : decode cx.2.1 pc = .ok (.aload i, 2)) (h : stpI E cx (.aload i) pc lo t G = some (.inl r))  (k : WP p l e R s m args below meth c Q E D Y nL N0 S0 r.1 r.2.1 r.2.2.1 r.2.2.2) : WP p l e R s m args below meth c Q E D Y nL N0 S0 pc lo t G := by
  obtain ⟨⟨hx, hb, hml, hr, hlk⟩, hown, hini, hts, hK⟩ := hM
  obtain ⟨v, h1, h2, h3⟩ := ld_inj h
  obtain ⟨x, rfl⟩ := isR_inj h2
  cases h3
  intro H locs ls hl hI hS g1 g2
  exact lv_aload hx hb hd (hl.at h1) (k H locs ls hl hI hS g1 g2)
theorem ss_istore_n {i : Fin 4} (hM : MC p s m args meth c E D Y cx nL) (hd : decode cx.2.1 pc = .ok (.istore_n i, 1)) (h : stpI E cx (.istore_n i) pc lo t G = some (.inl r))  (k : WP p l e R s m args below meth c Q E D Y nL N0 S0 r.1 r.2.1 r.2.2.1 r.2.2.2) : WP p l e R s m args below meth c Q E D Y nL N0 S0 pc lo t G := by
  obtain ⟨⟨hx, hb, hml, hr, hlk⟩, hown, hini, hts, hK⟩ := hM
  obtain ⟨v, t', lo', rfl, h2, h3, h4⟩ := sto1_inj h
  obtain ⟨x, rfl⟩ := isI_inj h2
  cases h4
  intro H locs ls hl hI hS g1 g2
  have hi : (i : Nat) < nL := by
    have := h3
    unfold lst1 at this
    split at this
    · next hc => rw [← hl.1]; exact hc.1
    · cases this
  exact lv_istore_n hx hb hd rfl hl.2 hi rfl (fun ls' hl' => k H locs ls' (LR.st1 hl.1 h3 hl').1 hI hS g1 g2)
theorem ss_istore {i : Nat} (hM : MC p s m args meth c E D Y cx nL) (hd : decode cx.2.1 pc = .ok (.istore i, 2)) (h : stpI E cx (.istore i) pc lo t G = some (.inl r))  (k : WP p l e R s m args below meth c Q E D Y nL N0 S0 r.1 r.2.1 r.2.2.1 r.2.2.2) : WP p l e R s m args below meth c Q E D Y nL N0 S0 pc lo t G := by
  obtain ⟨⟨hx, hb, hml, hr, hlk⟩, hown, hini, hts, hK⟩ := hM
  obtain ⟨v, t', lo', rfl, h2, h3, h4⟩ := sto1_inj h
  obtain ⟨x, rfl⟩ := isI_inj h2
  cases h4
  intro H locs ls hl hI hS g1 g2
  have hi : (i : Nat) < nL := by
    have := h3
    unfold lst1 at this
    split at this
    · next hc => rw [← hl.1]; exact hc.1
    · cases this
  exact lv_istore hx hb hd hl.2 hi rfl (fun ls' hl' => k H locs ls' (LR.st1 hl.1 h3 hl').1 hI hS g1 g2)
theorem ss_astore_n {i : Fin 4} (hM : MC p s m args meth c E D Y cx nL) (hd : decode cx.2.1 pc = .ok (.astore_n i, 1)) (h : stpI E cx (.astore_n i) pc lo t G = some (.inl r))  (k : WP p l e R s m args below meth c Q E D Y nL N0 S0 r.1 r.2.1 r.2.2.1 r.2.2.2) : WP p l e R s m args below meth c Q E D Y nL N0 S0 pc lo t G := by
  obtain ⟨⟨hx, hb, hml, hr, hlk⟩, hown, hini, hts, hK⟩ := hM
  obtain ⟨v, t', lo', rfl, h2, h3, h4⟩ := sto1_inj h
  obtain ⟨x, rfl⟩ := isR_inj h2
  cases h4
  intro H locs ls hl hI hS g1 g2
  have hi : (i : Nat) < nL := by
    have := h3
    unfold lst1 at this
    split at this
    · next hc => rw [← hl.1]; exact hc.1
    · cases this
  exact lv_astore_n hx hb hd rfl hl.2 hi rfl (fun ls' hl' => k H locs ls' (LR.st1 hl.1 h3 hl').1 hI hS g1 g2)
theorem ss_astore {i : Nat} (hM : MC p s m args meth c E D Y cx nL) (hd : decode cx.2.1 pc = .ok (.astore i, 2)) (h : stpI E cx (.astore i) pc lo t G = some (.inl r))  (k : WP p l e R s m args below meth c Q E D Y nL N0 S0 r.1 r.2.1 r.2.2.1 r.2.2.2) : WP p l e R s m args below meth c Q E D Y nL N0 S0 pc lo t G := by
  obtain ⟨⟨hx, hb, hml, hr, hlk⟩, hown, hini, hts, hK⟩ := hM
  obtain ⟨v, t', lo', rfl, h2, h3, h4⟩ := sto1_inj h
  obtain ⟨x, rfl⟩ := isR_inj h2
  cases h4
  intro H locs ls hl hI hS g1 g2
  have hi : (i : Nat) < nL := by
    have := h3
    unfold lst1 at this
    split at this
    · next hc => rw [← hl.1]; exact hc.1
    · cases this
  exact lv_astore hx hb hd hl.2 hi rfl (fun ls' hl' => k H locs ls' (LR.st1 hl.1 h3 hl').1 hI hS g1 g2)
theorem ss_lstore_n {i : Fin 4} (hM : MC p s m args meth c E D Y cx nL) (hd : decode cx.2.1 pc = .ok (.lstore_n i, 1)) (h : stpI E cx (.lstore_n i) pc lo t G = some (.inl r))  (k : WP p l e R s m args below meth c Q E D Y nL N0 S0 r.1 r.2.1 r.2.2.1 r.2.2.2) : WP p l e R s m args below meth c Q E D Y nL N0 S0 pc lo t G := by
  obtain ⟨⟨hx, hb, hml, hr, hlk⟩, hown, hini, hts, hK⟩ := hM
  have h : sto2 (pc + 1) i lo t G = some (.inl r) := h
  unfold sto2 p1l at h
  split at h
  · next x t' =>
    obtain ⟨lo', h3, h4⟩ := ov_inj h
    cases nx_inj h4
    intro H locs ls hl hI hS g1 g2
    have hi : (i : Nat) + 1 < nL := by
      have := h3
      unfold lst2 at this
      split at this
      · next hc => rw [← hl.1]; exact hc.1
      · cases this
    exact lv_lstore_n hx hb hd rfl hl.2 hi rfl (fun ls' hl' => k H locs ls' (LR.st2 hl.1 h3 hl').1 hI hS g1 g2)
  · cases h
theorem ss_lstore {i : Nat} (hM : MC p s m args meth c E D Y cx nL) (hd : decode cx.2.1 pc = .ok (.lstore i, 2)) (h : stpI E cx (.lstore i) pc lo t G = some (.inl r))  (k : WP p l e R s m args below meth c Q E D Y nL N0 S0 r.1 r.2.1 r.2.2.1 r.2.2.2) : WP p l e R s m args below meth c Q E D Y nL N0 S0 pc lo t G := by
  obtain ⟨⟨hx, hb, hml, hr, hlk⟩, hown, hini, hts, hK⟩ := hM
  have h : sto2 (pc + 2) i lo t G = some (.inl r) := h
  unfold sto2 p1l at h
  split at h
  · next x t' =>
    obtain ⟨lo', h3, h4⟩ := ov_inj h
    cases nx_inj h4
    intro H locs ls hl hI hS g1 g2
    have hi : (i : Nat) + 1 < nL := by
      have := h3
      unfold lst2 at this
      split at this
      · next hc => rw [← hl.1]; exact hc.1
      · cases this
    exact lv_lstore hx hb hd hl.2 hi rfl (fun ls' hl' => k H locs ls' (LR.st2 hl.1 h3 hl').1 hI hS g1 g2)
  · cases h
theorem ss_iinc {i : Nat} {n : Int} (hM : MC p s m args meth c E D Y cx nL) (hd : decode cx.2.1 pc = .ok (.iinc i n, 3)) (h : stpI E cx (.iinc i n) pc lo t G = some (.inl r))  (k : WP p l e R s m args below meth c Q E D Y nL N0 S0 r.1 r.2.1 r.2.2.1 r.2.2.2) : WP p l e R s m args below meth c Q E D Y nL N0 S0 pc lo t G := by
  obtain ⟨⟨hx, hb, hml, hr, hlk⟩, hown, hini, hts, hK⟩ := hM
  obtain ⟨v, h1, h2⟩ := ov_inj h
  split at h2
  · next x =>
    obtain ⟨lo', h3, h4⟩ := ov_inj h2
    cases nx_inj h4
    intro H locs ls hl hI hS g1 g2
    have hi : i < nL := by
      have := h3
      unfold lst1 at this
      split at this
      · next hc => rw [← hl.1]; exact hc.1
      · cases this
    have hm : (i, Value.int x) ∈ toA lo := by
      refine toA_mem.mpr ?_
      unfold lget at h1
      split at h1
      · next y hy => cases h1; exact hy
      · cases h1
    obtain ⟨q, hq⟩ := List.getElem?_of_mem hm
    exact lv_iinc (k := q) hx hb hd hl.2 hq rfl hi rfl (fun ls' hl' => k H locs ls' (LR.st1 hl.1 h3 hl').1 hI hS g1 g2)
  · cases h2
theorem ss_iadd  (hM : MC p s m args meth c E D Y cx nL) (hd : decode cx.2.1 pc = .ok (.iadd, 1)) (h : stpI E cx (.iadd) pc lo t G = some (.inl r))  (k : WP p l e R s m args below meth c Q E D Y nL N0 S0 r.1 r.2.1 r.2.2.1 r.2.2.2) : WP p l e R s m args below meth c Q E D Y nL N0 S0 pc lo t G := by
  obtain ⟨⟨hx, hb, hml, hr, hlk⟩, hown, hini, hts, hK⟩ := hM
  have h : p2i t _ = some (.inl r) := h
  unfold p2i at h
  split at h
  · next y x t' =>
    cases nx_inj h
    intro H locs ls hl hI hS g1 g2
    exact lv_iadd hx hb hd (k H locs ls hl hI hS g1 g2)
  · cases h
theorem ss_isub  (hM : MC p s m args meth c E D Y cx nL) (hd : decode cx.2.1 pc = .ok (.isub, 1)) (h : stpI E cx (.isub) pc lo t G = some (.inl r))  (k : WP p l e R s m args below meth c Q E D Y nL N0 S0 r.1 r.2.1 r.2.2.1 r.2.2.2) : WP p l e R s m args below meth c Q E D Y nL N0 S0 pc lo t G := by
  obtain ⟨⟨hx, hb, hml, hr, hlk⟩, hown, hini, hts, hK⟩ := hM
  have h : p2i t _ = some (.inl r) := h
  unfold p2i at h
  split at h
  · next y x t' =>
    cases nx_inj h
    intro H locs ls hl hI hS g1 g2
    exact lv_isub hx hb hd (k H locs ls hl hI hS g1 g2)
  · cases h
theorem ss_imul  (hM : MC p s m args meth c E D Y cx nL) (hd : decode cx.2.1 pc = .ok (.imul, 1)) (h : stpI E cx (.imul) pc lo t G = some (.inl r))  (k : WP p l e R s m args below meth c Q E D Y nL N0 S0 r.1 r.2.1 r.2.2.1 r.2.2.2) : WP p l e R s m args below meth c Q E D Y nL N0 S0 pc lo t G := by
  obtain ⟨⟨hx, hb, hml, hr, hlk⟩, hown, hini, hts, hK⟩ := hM
  have h : p2i t _ = some (.inl r) := h
  unfold p2i at h
  split at h
  · next y x t' =>
    cases nx_inj h
    intro H locs ls hl hI hS g1 g2
    exact lv_imul hx hb hd (k H locs ls hl hI hS g1 g2)
  · cases h
theorem ss_iand  (hM : MC p s m args meth c E D Y cx nL) (hd : decode cx.2.1 pc = .ok (.iand, 1)) (h : stpI E cx (.iand) pc lo t G = some (.inl r))  (k : WP p l e R s m args below meth c Q E D Y nL N0 S0 r.1 r.2.1 r.2.2.1 r.2.2.2) : WP p l e R s m args below meth c Q E D Y nL N0 S0 pc lo t G := by
  obtain ⟨⟨hx, hb, hml, hr, hlk⟩, hown, hini, hts, hK⟩ := hM
  have h : p2i t _ = some (.inl r) := h
  unfold p2i at h
  split at h
  · next y x t' =>
    cases nx_inj h
    intro H locs ls hl hI hS g1 g2
    exact lv_iand hx hb hd (k H locs ls hl hI hS g1 g2)
  · cases h
theorem ss_ior  (hM : MC p s m args meth c E D Y cx nL) (hd : decode cx.2.1 pc = .ok (.ior, 1)) (h : stpI E cx (.ior) pc lo t G = some (.inl r))  (k : WP p l e R s m args below meth c Q E D Y nL N0 S0 r.1 r.2.1 r.2.2.1 r.2.2.2) : WP p l e R s m args below meth c Q E D Y nL N0 S0 pc lo t G := by
  obtain ⟨⟨hx, hb, hml, hr, hlk⟩, hown, hini, hts, hK⟩ := hM
  have h : p2i t _ = some (.inl r) := h
  unfold p2i at h
  split at h
  · next y x t' =>
    cases nx_inj h
    intro H locs ls hl hI hS g1 g2
    exact lv_ior hx hb hd (k H locs ls hl hI hS g1 g2)
  · cases h
theorem ss_ixor  (hM : MC p s m args meth c E D Y cx nL) (hd : decode cx.2.1 pc = .ok (.ixor, 1)) (h : stpI E cx (.ixor) pc lo t G = some (.inl r))  (k : WP p l e R s m args below meth c Q E D Y nL N0 S0 r.1 r.2.1 r.2.2.1 r.2.2.2) : WP p l e R s m args below meth c Q E D Y nL N0 S0 pc lo t G := by
  obtain ⟨⟨hx, hb, hml, hr, hlk⟩, hown, hini, hts, hK⟩ := hM
  have h : p2i t _ = some (.inl r) := h
  unfold p2i at h
  split at h
  · next y x t' =>
    cases nx_inj h
    intro H locs ls hl hI hS g1 g2
    exact lv_ixor hx hb hd (k H locs ls hl hI hS g1 g2)
  · cases h
theorem ss_ishl  (hM : MC p s m args meth c E D Y cx nL) (hd : decode cx.2.1 pc = .ok (.ishl, 1)) (h : stpI E cx (.ishl) pc lo t G = some (.inl r))  (k : WP p l e R s m args below meth c Q E D Y nL N0 S0 r.1 r.2.1 r.2.2.1 r.2.2.2) : WP p l e R s m args below meth c Q E D Y nL N0 S0 pc lo t G := by
  obtain ⟨⟨hx, hb, hml, hr, hlk⟩, hown, hini, hts, hK⟩ := hM
  have h : p2i t _ = some (.inl r) := h
  unfold p2i at h
  split at h
  · next y x t' =>
    cases nx_inj h
    intro H locs ls hl hI hS g1 g2
    exact lv_ishl hx hb hd (k H locs ls hl hI hS g1 g2)
  · cases h
theorem ss_ishr  (hM : MC p s m args meth c E D Y cx nL) (hd : decode cx.2.1 pc = .ok (.ishr, 1)) (h : stpI E cx (.ishr) pc lo t G = some (.inl r))  (k : WP p l e R s m args below meth c Q E D Y nL N0 S0 r.1 r.2.1 r.2.2.1 r.2.2.2) : WP p l e R s m args below meth c Q E D Y nL N0 S0 pc lo t G := by
  obtain ⟨⟨hx, hb, hml, hr, hlk⟩, hown, hini, hts, hK⟩ := hM
  have h : p2i t _ = some (.inl r) := h
  unfold p2i at h
  split at h
  · next y x t' =>
    cases nx_inj h
    intro H locs ls hl hI hS g1 g2
    exact lv_ishr hx hb hd (k H locs ls hl hI hS g1 g2)
  · cases h
theorem ss_iushr  (hM : MC p s m args meth c E D Y cx nL) (hd : decode cx.2.1 pc = .ok (.iushr, 1)) (h : stpI E cx (.iushr) pc lo t G = some (.inl r))  (k : WP p l e R s m args below meth c Q E D Y nL N0 S0 r.1 r.2.1 r.2.2.1 r.2.2.2) : WP p l e R s m args below meth c Q E D Y nL N0 S0 pc lo t G := by
  obtain ⟨⟨hx, hb, hml, hr, hlk⟩, hown, hini, hts, hK⟩ := hM
  have h : p2i t _ = some (.inl r) := h
  unfold p2i at h
  split at h
  · next y x t' =>
    cases nx_inj h
    intro H locs ls hl hI hS g1 g2
    exact lv_iushr hx hb hd rfl (k H locs ls hl hI hS g1 g2)
  · cases h
theorem ss_idiv  (hM : MC p s m args meth c E D Y cx nL) (hd : decode cx.2.1 pc = .ok (.idiv, 1)) (h : stpI E cx (.idiv) pc lo t G = some (.inl r))  (k : WP p l e R s m args below meth c Q E D Y nL N0 S0 r.1 r.2.1 r.2.2.1 r.2.2.2) : WP p l e R s m args below meth c Q E D Y nL N0 S0 pc lo t G := by
  obtain ⟨⟨hx, hb, hml, hr, hlk⟩, hown, hini, hts, hK⟩ := hM
  have h : p2i t _ = some (.inl r) := h
  unfold p2i at h
  split at h
  · next y x t' =>
    obtain ⟨h0, h⟩ := gd_inj h
    cases nx_inj h
    intro H locs ls hl hI hS g1 g2
    exact lv_idiv hx hb hd h0 (k H locs ls hl hI hS g1 g2)
  · cases h
theorem ss_irem  (hM : MC p s m args meth c E D Y cx nL) (hd : decode cx.2.1 pc = .ok (.irem, 1)) (h : stpI E cx (.irem) pc lo t G = some (.inl r))  (k : WP p l e R s m args below meth c Q E D Y nL N0 S0 r.1 r.2.1 r.2.2.1 r.2.2.2) : WP p l e R s m args below meth c Q E D Y nL N0 S0 pc lo t G := by
  obtain ⟨⟨hx, hb, hml, hr, hlk⟩, hown, hini, hts, hK⟩ := hM
  have h : p2i t _ = some (.inl r) := h
  unfold p2i at h
  split at h
  · next y x t' =>
    obtain ⟨h0, h⟩ := gd_inj h
    cases nx_inj h
    intro H locs ls hl hI hS g1 g2
    exact lv_irem hx hb hd h0 (k H locs ls hl hI hS g1 g2)
  · cases h
theorem ss_ladd  (hM : MC p s m args meth c E D Y cx nL) (hd : decode cx.2.1 pc = .ok (.ladd, 1)) (h : stpI E cx (.ladd) pc lo t G = some (.inl r))  (k : WP p l e R s m args below meth c Q E D Y nL N0 S0 r.1 r.2.1 r.2.2.1 r.2.2.2) : WP p l e R s m args below meth c Q E D Y nL N0 S0 pc lo t G := by
  obtain ⟨⟨hx, hb, hml, hr, hlk⟩, hown, hini, hts, hK⟩ := hM
  have h : p2l t _ = some (.inl r) := h
  unfold p2l at h
  split at h
  · next y x t' =>
    cases nx_inj h
    intro H locs ls hl hI hS g1 g2
    exact lv_ladd hx hb hd (k H locs ls hl hI hS g1 g2)
  · cases h
theorem ss_lsub  (hM : MC p s m args meth c E D Y cx nL) (hd : decode cx.2.1 pc = .ok (.lsub, 1)) (h : stpI E cx (.lsub) pc lo t G = some (.inl r))  (k : WP p l e R s m args below meth c Q E D Y nL N0 S0 r.1 r.2.1 r.2.2.1 r.2.2.2) : WP p l e R s m args below meth c Q E D Y nL N0 S0 pc lo t G := by
  obtain ⟨⟨hx, hb, hml, hr, hlk⟩, hown, hini, hts, hK⟩ := hM
  have h : p2l t _ = some (.inl r) := h
  unfold p2l at h
  split at h
  · next y x t' =>
    cases nx_inj h
    intro H locs ls hl hI hS g1 g2
    exact lv_lsub hx hb hd (k H locs ls hl hI hS g1 g2)
  · cases h
theorem ss_lmul  (hM : MC p s m args meth c E D Y cx nL) (hd : decode cx.2.1 pc = .ok (.lmul, 1)) (h : stpI E cx (.lmul) pc lo t G = some (.inl r))  (k : WP p l e R s m args below meth c Q E D Y nL N0 S0 r.1 r.2.1 r.2.2.1 r.2.2.2) : WP p l e R s m args below meth c Q E D Y nL N0 S0 pc lo t G := by
  obtain ⟨⟨hx, hb, hml, hr, hlk⟩, hown, hini, hts, hK⟩ := hM
  have h : p2l t _ = some (.inl r) := h
  unfold p2l at h
  split at h
  · next y x t' =>
    cases nx_inj h
    intro H locs ls hl hI hS g1 g2
    exact lv_lmul hx hb hd (k H locs ls hl hI hS g1 g2)
  · cases h
theorem ss_land  (hM : MC p s m args meth c E D Y cx nL) (hd : decode cx.2.1 pc = .ok (.land, 1)) (h : stpI E cx (.land) pc lo t G = some (.inl r))  (k : WP p l e R s m args below meth c Q E D Y nL N0 S0 r.1 r.2.1 r.2.2.1 r.2.2.2) : WP p l e R s m args below meth c Q E D Y nL N0 S0 pc lo t G := by
  obtain ⟨⟨hx, hb, hml, hr, hlk⟩, hown, hini, hts, hK⟩ := hM
  have h : p2l t _ = some (.inl r) := h
  unfold p2l at h
  split at h
  · next y x t' =>
    cases nx_inj h
    intro H locs ls hl hI hS g1 g2
    exact lv_land hx hb hd (k H locs ls hl hI hS g1 g2)
  · cases h
theorem ss_lor  (hM : MC p s m args meth c E D Y cx nL) (hd : decode cx.2.1 pc = .ok (.lor, 1)) (h : stpI E cx (.lor) pc lo t G = some (.inl r))  (k : WP p l e R s m args below meth c Q E D Y nL N0 S0 r.1 r.2.1 r.2.2.1 r.2.2.2) : WP p l e R s m args below meth c Q E D Y nL N0 S0 pc lo t G := by
  obtain ⟨⟨hx, hb, hml, hr, hlk⟩, hown, hini, hts, hK⟩ := hM
  have h : p2l t _ = some (.inl r) := h
  unfold p2l at h
  split at h
  · next y x t' =>
    cases nx_inj h
    intro H locs ls hl hI hS g1 g2
    exact lv_lor hx hb hd (k H locs ls hl hI hS g1 g2)
  · cases h
theorem ss_ldiv  (hM : MC p s m args meth c E D Y cx nL) (hd : decode cx.2.1 pc = .ok (.ldiv, 1)) (h : stpI E cx (.ldiv) pc lo t G = some (.inl r))  (k : WP p l e R s m args below meth c Q E D Y nL N0 S0 r.1 r.2.1 r.2.2.1 r.2.2.2) : WP p l e R s m args below meth c Q E D Y nL N0 S0 pc lo t G := by
  obtain ⟨⟨hx, hb, hml, hr, hlk⟩, hown, hini, hts, hK⟩ := hM
  have h : p2l t _ = some (.inl r) := h
  unfold p2l at h
  split at h
  · next y x t' =>
    obtain ⟨h0, h⟩ := gd_inj h
    cases nx_inj h
    intro H locs ls hl hI hS g1 g2
    exact lv_ldiv hx hb hd h0 (k H locs ls hl hI hS g1 g2)
  · cases h
theorem ss_lrem  (hM : MC p s m args meth c E D Y cx nL) (hd : decode cx.2.1 pc = .ok (.lrem, 1)) (h : stpI E cx (.lrem) pc lo t G = some (.inl r))  (k : WP p l e R s m args below meth c Q E D Y nL N0 S0 r.1 r.2.1 r.2.2.1 r.2.2.2) : WP p l e R s m args below meth c Q E D Y nL N0 S0 pc lo t G := by
  obtain ⟨⟨hx, hb, hml, hr, hlk⟩, hown, hini, hts, hK⟩ := hM
  have h : p2l t _ = some (.inl r) := h
  unfold p2l at h
  split at h
  · next y x t' =>
    obtain ⟨h0, h⟩ := gd_inj h
    cases nx_inj h
    intro H locs ls hl hI hS g1 g2
    exact lv_lrem hx hb hd h0 (k H locs ls hl hI hS g1 g2)
  · cases h
theorem ss_lushr  (hM : MC p s m args meth c E D Y cx nL) (hd : decode cx.2.1 pc = .ok (.lushr, 1)) (h : stpI E cx (.lushr) pc lo t G = some (.inl r))  (k : WP p l e R s m args below meth c Q E D Y nL N0 S0 r.1 r.2.1 r.2.2.1 r.2.2.2) : WP p l e R s m args below meth c Q E D Y nL N0 S0 pc lo t G := by
  obtain ⟨⟨hx, hb, hml, hr, hlk⟩, hown, hini, hts, hK⟩ := hM
  have h : pli t _ = some (.inl r) := h
  unfold pli at h
  split at h
  · next y x t' =>
    cases nx_inj h
    intro H locs ls hl hI hS g1 g2
    exact lv_lushr hx hb hd rfl (k H locs ls hl hI hS g1 g2)
  · cases h
theorem ss_lshl  (hM : MC p s m args meth c E D Y cx nL) (hd : decode cx.2.1 pc = .ok (.lshl, 1)) (h : stpI E cx (.lshl) pc lo t G = some (.inl r))  (k : WP p l e R s m args below meth c Q E D Y nL N0 S0 r.1 r.2.1 r.2.2.1 r.2.2.2) : WP p l e R s m args below meth c Q E D Y nL N0 S0 pc lo t G := by
  obtain ⟨⟨hx, hb, hml, hr, hlk⟩, hown, hini, hts, hK⟩ := hM
  have h : pli t _ = some (.inl r) := h
  unfold pli at h
  split at h
  · next y x t' =>
    cases nx_inj h
    intro H locs ls hl hI hS g1 g2
    exact lv_lshl hx hb hd rfl (k H locs ls hl hI hS g1 g2)
  · cases h
theorem ss_lcmp  (hM : MC p s m args meth c E D Y cx nL) (hd : decode cx.2.1 pc = .ok (.lcmp, 1)) (h : stpI E cx (.lcmp) pc lo t G = some (.inl r))  (k : WP p l e R s m args below meth c Q E D Y nL N0 S0 r.1 r.2.1 r.2.2.1 r.2.2.2) : WP p l e R s m args below meth c Q E D Y nL N0 S0 pc lo t G := by
  obtain ⟨⟨hx, hb, hml, hr, hlk⟩, hown, hini, hts, hK⟩ := hM
  have h : p2l t _ = some (.inl r) := h
  unfold p2l at h
  split at h
  · next y x t' =>
    cases nx_inj h
    intro H locs ls hl hI hS g1 g2
    exact W.lcmp hx hb hd (k H locs ls hl hI hS g1 g2)
  · cases h
theorem ss_i2l  (hM : MC p s m args meth c E D Y cx nL) (hd : decode cx.2.1 pc = .ok (.i2l, 1)) (h : stpI E cx (.i2l) pc lo t G = some (.inl r))  (k : WP p l e R s m args below meth c Q E D Y nL N0 S0 r.1 r.2.1 r.2.2.1 r.2.2.2) : WP p l e R s m args below meth c Q E D Y nL N0 S0 pc lo t G := by
  obtain ⟨⟨hx, hb, hml, hr, hlk⟩, hown, hini, hts, hK⟩ := hM
  have h : p1i t _ = some (.inl r) := h
  unfold p1i at h
  split at h
  · next x t' =>
    cases nx_inj h
    intro H locs ls hl hI hS g1 g2
    exact lv_i2l hx hb hd rfl (k H locs ls hl hI hS g1 g2)
  · cases h
theorem ss_l2i  (hM : MC p s m args meth c E D Y cx nL) (hd : decode cx.2.1 pc = .ok (.l2i, 1)) (h : stpI E cx (.l2i) pc lo t G = some (.inl r))  (k : WP p l e R s m args below meth c Q E D Y nL N0 S0 r.1 r.2.1 r.2.2.1 r.2.2.2) : WP p l e R s m args below meth c Q E D Y nL N0 S0 pc lo t G := by
  obtain ⟨⟨hx, hb, hml, hr, hlk⟩, hown, hini, hts, hK⟩ := hM
  have h : p1l t _ = some (.inl r) := h
  unfold p1l at h
  split at h
  · next x t' =>
    cases nx_inj h
    intro H locs ls hl hI hS g1 g2
    exact lv_l2i hx hb hd rfl (k H locs ls hl hI hS g1 g2)
  · cases h
theorem ss_i2b  (hM : MC p s m args meth c E D Y cx nL) (hd : decode cx.2.1 pc = .ok (.i2b, 1)) (h : stpI E cx (.i2b) pc lo t G = some (.inl r))  (k : WP p l e R s m args below meth c Q E D Y nL N0 S0 r.1 r.2.1 r.2.2.1 r.2.2.2) : WP p l e R s m args below meth c Q E D Y nL N0 S0 pc lo t G := by
  obtain ⟨⟨hx, hb, hml, hr, hlk⟩, hown, hini, hts, hK⟩ := hM
  have h : p1i t _ = some (.inl r) := h
  unfold p1i at h
  split at h
  · next x t' =>
    cases nx_inj h
    intro H locs ls hl hI hS g1 g2
    exact lv_i2b hx hb hd rfl (k H locs ls hl hI hS g1 g2)
  · cases h
theorem ss_i2c  (hM : MC p s m args meth c E D Y cx nL) (hd : decode cx.2.1 pc = .ok (.i2c, 1)) (h : stpI E cx (.i2c) pc lo t G = some (.inl r))  (k : WP p l e R s m args below meth c Q E D Y nL N0 S0 r.1 r.2.1 r.2.2.1 r.2.2.2) : WP p l e R s m args below meth c Q E D Y nL N0 S0 pc lo t G := by
  obtain ⟨⟨hx, hb, hml, hr, hlk⟩, hown, hini, hts, hK⟩ := hM
  have h : p1i t _ = some (.inl r) := h
  unfold p1i at h
  split at h
  · next x t' =>
    cases nx_inj h
    intro H locs ls hl hI hS g1 g2
    exact lv_i2c hx hb hd rfl (k H locs ls hl hI hS g1 g2)
  · cases h
theorem ss_dup  (hM : MC p s m args meth c E D Y cx nL) (hd : decode cx.2.1 pc = .ok (.dup, 1)) (h : stpI E cx (.dup) pc lo t G = some (.inl r))  (k : WP p l e R s m args below meth c Q E D Y nL N0 S0 r.1 r.2.1 r.2.2.1 r.2.2.2) : WP p l e R s m args below meth c Q E D Y nL N0 S0 pc lo t G := by
  obtain ⟨⟨hx, hb, hml, hr, hlk⟩, hown, hini, hts, hK⟩ := hM
  cases t with
  | nil => cases h
  | cons v t' =>
    obtain ⟨h0, h⟩ := gd_inj h
    cases nx_inj h
    intro H locs ls hl hI hS g1 g2
    exact lv_dup hx hb hd h0 (k H locs ls hl hI hS g1 g2)
theorem ss_pop  (hM : MC p s m args meth c E D Y cx nL) (hd : decode cx.2.1 pc = .ok (.pop, 1)) (h : stpI E cx (.pop) pc lo t G = some (.inl r))  (k : WP p l e R s m args below meth c Q E D Y nL N0 S0 r.1 r.2.1 r.2.2.1 r.2.2.2) : WP p l e R s m args below meth c Q E D Y nL N0 S0 pc lo t G := by
  obtain ⟨⟨hx, hb, hml, hr, hlk⟩, hown, hini, hts, hK⟩ := hM
  cases t with
  | nil => cases h
  | cons v t' =>
    obtain ⟨h0, h⟩ := gd_inj h
    cases nx_inj h
    intro H locs ls hl hI hS g1 g2
    exact lv_pop hx hb hd h0 (k H locs ls hl hI hS g1 g2)
theorem ss_goto {off : Int} (hM : MC p s m args meth c E D Y cx nL) (hd : decode cx.2.1 pc = .ok (.goto off, 3)) (h : stpI E cx (.goto off) pc lo t G = some (.inl r))  (k : WP p l e R s m args below meth c Q E D Y nL N0 S0 r.1 r.2.1 r.2.2.1 r.2.2.2) : WP p l e R s m args below meth c Q E D Y nL N0 S0 pc lo t G := by
  obtain ⟨⟨hx, hb, hml, hr, hlk⟩, hown, hini, hts, hK⟩ := hM
  obtain ⟨tgt, h1, h2⟩ := jmp_inj h
  cases h2
  intro H locs ls hl hI hS g1 g2
  exact lv_goto hx hb hd h1 (k H locs ls hl hI hS g1 g2)
theorem ss_ifeq {off : Int} (hM : MC p s m args meth c E D Y cx nL) (hd : decode cx.2.1 pc = .ok (.ifCond .eq off, 3)) (h : stpI E cx (.ifCond .eq off) pc lo t G = some (.inl r))  (k : WP p l e R s m args below meth c Q E D Y nL N0 S0 r.1 r.2.1 r.2.2.1 r.2.2.2) : WP p l e R s m args below meth c Q E D Y nL N0 S0 pc lo t G := by
  obtain ⟨⟨hx, hb, hml, hr, hlk⟩, hown, hini, hts, hK⟩ := hM
  have h : p1i t _ = some (.inl r) := h
  unfold p1i at h
  split at h
  · next x t' =>
    obtain ⟨tgt, h1, ⟨hb1, h2⟩ | ⟨hb1, h2⟩⟩ := bra_inj h
    · have hb1 := of_decide_eq_true hb1
      cases h2
      intro H locs ls hl hI hS g1 g2
      exact lv_if_eq hx hb hd h1 (fun _ => k H locs ls hl hI hS g1 g2) (fun z => absurd hb1 z)
    · have hb1 := of_decide_eq_false hb1
      cases h2
      intro H locs ls hl hI hS g1 g2
      exact lv_if_eq hx hb hd h1 (fun z => absurd z hb1) (fun z => k H locs ls hl hI hS g1 g2)
  · cases h
theorem ss_ifne {off : Int} (hM : MC p s m args meth c E D Y cx nL) (hd : decode cx.2.1 pc = .ok (.ifCond .ne off, 3)) (h : stpI E cx (.ifCond .ne off) pc lo t G = some (.inl r))  (k : WP p l e R s m args below meth c Q E D Y nL N0 S0 r.1 r.2.1 r.2.2.1 r.2.2.2) : WP p l e R s m args below meth c Q E D Y nL N0 S0 pc lo t G := by
  obtain ⟨⟨hx, hb, hml, hr, hlk⟩, hown, hini, hts, hK⟩ := hM
  have h : p1i t _ = some (.inl r) := h
  unfold p1i at h
  split at h
  · next x t' =>
    obtain ⟨tgt, h1, ⟨hb1, h2⟩ | ⟨hb1, h2⟩⟩ := bra_inj h
    · have hb1 := of_decide_eq_true hb1
      cases h2
      intro H locs ls hl hI hS g1 g2
      exact lv_if_ne hx hb hd h1 (fun _ => k H locs ls hl hI hS g1 g2) (fun z => absurd z hb1)
    · have hb1 := of_decide_eq_false hb1
      cases h2
      intro H locs ls hl hI hS g1 g2
      exact lv_if_ne hx hb hd h1 (fun z => absurd z hb1) (fun z => k H locs ls hl hI hS g1 g2)
  · cases h
theorem ss_iflt {off : Int} (hM : MC p s m args meth c E D Y cx nL) (hd : decode cx.2.1 pc = .ok (.ifCond .lt off, 3)) (h : stpI E cx (.ifCond .lt off) pc lo t G = some (.inl r))  (k : WP p l e R s m args below meth c Q E D Y nL N0 S0 r.1 r.2.1 r.2.2.1 r.2.2.2) : WP p l e R s m args below meth c Q E D Y nL N0 S0 pc lo t G := by
  obtain ⟨⟨hx, hb, hml, hr, hlk⟩, hown, hini, hts, hK⟩ := hM
  have h : p1i t _ = some (.inl r) := h
  unfold p1i at h
  split at h
  · next x t' =>
    obtain ⟨tgt, h1, ⟨hb1, h2⟩ | ⟨hb1, h2⟩⟩ := bra_inj h
    · have hb1 := of_decide_eq_true hb1
      cases h2
      intro H locs ls hl hI hS g1 g2
      exact lv_if_lt hx hb hd h1 (fun _ => k H locs ls hl hI hS g1 g2) (fun z => absurd hb1 z)
    · have hb1 := of_decide_eq_false hb1
      cases h2
      intro H locs ls hl hI hS g1 g2
      exact lv_if_lt hx hb hd h1 (fun z => absurd z hb1) (fun z => k H locs ls hl hI hS g1 g2)
  · cases h
theorem ss_ifge {off : Int} (hM : MC p s m args meth c E D Y cx nL) (hd : decode cx.2.1 pc = .ok (.ifCond .ge off, 3)) (h : stpI E cx (.ifCond .ge off) pc lo t G = some (.inl r))  (k : WP p l e R s m args below meth c Q E D Y nL N0 S0 r.1 r.2.1 r.2.2.1 r.2.2.2) : WP p l e R s m args below meth c Q E D Y nL N0 S0 pc lo t G := by
  obtain ⟨⟨hx, hb, hml, hr, hlk⟩, hown, hini, hts, hK⟩ := hM
  have h : p1i t _ = some (.inl r) := h
  unfold p1i at h
  split at h
  · next x t' =>
    obtain ⟨tgt, h1, ⟨hb1, h2⟩ | ⟨hb1, h2⟩⟩ := bra_inj h
    · have hb1 := of_decide_eq_true hb1
      cases h2
      intro H locs ls hl hI hS g1 g2
      exact lv_if_ge hx hb hd h1 (fun _ => k H locs ls hl hI hS g1 g2) (fun z => absurd hb1 z)
    · have hb1 := of_decide_eq_false hb1
      cases h2
      intro H locs ls hl hI hS g1 g2
      exact lv_if_ge hx hb hd h1 (fun z => absurd z hb1) (fun z => k H locs ls hl hI hS g1 g2)
  · cases h
theorem ss_ifgt {off : Int} (hM : MC p s m args meth c E D Y cx nL) (hd : decode cx.2.1 pc = .ok (.ifCond .gt off, 3)) (h : stpI E cx (.ifCond .gt off) pc lo t G = some (.inl r))  (k : WP p l e R s m args below meth c Q E D Y nL N0 S0 r.1 r.2.1 r.2.2.1 r.2.2.2) : WP p l e R s m args below meth c Q E D Y nL N0 S0 pc lo t G := by
  obtain ⟨⟨hx, hb, hml, hr, hlk⟩, hown, hini, hts, hK⟩ := hM
  have h : p1i t _ = some (.inl r) := h
  unfold p1i at h
  split at h
  · next x t' =>
    obtain ⟨tgt, h1, ⟨hb1, h2⟩ | ⟨hb1, h2⟩⟩ := bra_inj h
    · have hb1 := of_decide_eq_true hb1
      cases h2
      intro H locs ls hl hI hS g1 g2
      exact lv_if_gt hx hb hd h1 (fun _ => k H locs ls hl hI hS g1 g2) (fun z => absurd hb1 z)
    · have hb1 := of_decide_eq_false hb1
      cases h2
      intro H locs ls hl hI hS g1 g2
      exact lv_if_gt hx hb hd h1 (fun z => absurd z hb1) (fun z => k H locs ls hl hI hS g1 g2)
  · cases h
theorem ss_ifle {off : Int} (hM : MC p s m args meth c E D Y cx nL) (hd : decode cx.2.1 pc = .ok (.ifCond .le off, 3)) (h : stpI E cx (.ifCond .le off) pc lo t G = some (.inl r))  (k : WP p l e R s m args below meth c Q E D Y nL N0 S0 r.1 r.2.1 r.2.2.1 r.2.2.2) : WP p l e R s m args below meth c Q E D Y nL N0 S0 pc lo t G := by
  obtain ⟨⟨hx, hb, hml, hr, hlk⟩, hown, hini, hts, hK⟩ := hM
  have h : p1i t _ = some (.inl r) := h
  unfold p1i at h
  split at h
  · next x t' =>
    obtain ⟨tgt, h1, ⟨hb1, h2⟩ | ⟨hb1, h2⟩⟩ := bra_inj h
    · have hb1 := of_decide_eq_true hb1
      cases h2
      intro H locs ls hl hI hS g1 g2
      exact lv_if_le hx hb hd h1 (fun _ => k H locs ls hl hI hS g1 g2) (fun z => absurd hb1 z)
    · have hb1 := of_decide_eq_false hb1
      cases h2
      intro H locs ls hl hI hS g1 g2
      exact lv_if_le hx hb hd h1 (fun z => absurd z hb1) (fun z => k H locs ls hl hI hS g1 g2)
  · cases h
theorem ss_ceq {off : Int} (hM : MC p s m args meth c E D Y cx nL) (hd : decode cx.2.1 pc = .ok (.if_icmp .eq off, 3)) (h : stpI E cx (.if_icmp .eq off) pc lo t G = some (.inl r))  (k : WP p l e R s m args below meth c Q E D Y nL N0 S0 r.1 r.2.1 r.2.2.1 r.2.2.2) : WP p l e R s m args below meth c Q E D Y nL N0 S0 pc lo t G := by
  obtain ⟨⟨hx, hb, hml, hr, hlk⟩, hown, hini, hts, hK⟩ := hM
  have h : p2i t _ = some (.inl r) := h
  unfold p2i at h
  split at h
  · next y x t' =>
    obtain ⟨tgt, h1, ⟨hb1, h2⟩ | ⟨hb1, h2⟩⟩ := bra_inj h
    · have hb1 := of_decide_eq_true hb1
      cases h2
      intro H locs ls hl hI hS g1 g2
      exact lv_icmp_eq hx hb hd h1 (fun _ => k H locs ls hl hI hS g1 g2) (fun z => absurd hb1 z)
    · have hb1 := of_decide_eq_false hb1
      cases h2
      intro H locs ls hl hI hS g1 g2
      exact lv_icmp_eq hx hb hd h1 (fun z => absurd z hb1) (fun z => k H locs ls hl hI hS g1 g2)
  · cases h
theorem ss_cne {off : Int} (hM : MC p s m args meth c E D Y cx nL) (hd : decode cx.2.1 pc = .ok (.if_icmp .ne off, 3)) (h : stpI E cx (.if_icmp .ne off) pc lo t G = some (.inl r))  (k : WP p l e R s m args below meth c Q E D Y nL N0 S0 r.1 r.2.1 r.2.2.1 r.2.2.2) : WP p l e R s m args below meth c Q E D Y nL N0 S0 pc lo t G := by
  obtain ⟨⟨hx, hb, hml, hr, hlk⟩, hown, hini, hts, hK⟩ := hM
  have h : p2i t _ = some (.inl r) := h
  unfold p2i at h
  split at h
  · next y x t' =>
    obtain ⟨tgt, h1, ⟨hb1, h2⟩ | ⟨hb1, h2⟩⟩ := bra_inj h
    · have hb1 := of_decide_eq_true hb1
      cases h2
      intro H locs ls hl hI hS g1 g2
      exact lv_icmp_ne hx hb hd h1 (fun _ => k H locs ls hl hI hS g1 g2) (fun z => absurd z hb1)
    · have hb1 := of_decide_eq_false hb1
      cases h2
      intro H locs ls hl hI hS g1 g2
      exact lv_icmp_ne hx hb hd h1 (fun z => absurd z hb1) (fun z => k H locs ls hl hI hS g1 g2)
  · cases h
theorem ss_clt {off : Int} (hM : MC p s m args meth c E D Y cx nL) (hd : decode cx.2.1 pc = .ok (.if_icmp .lt off, 3)) (h : stpI E cx (.if_icmp .lt off) pc lo t G = some (.inl r))  (k : WP p l e R s m args below meth c Q E D Y nL N0 S0 r.1 r.2.1 r.2.2.1 r.2.2.2) : WP p l e R s m args below meth c Q E D Y nL N0 S0 pc lo t G := by
  obtain ⟨⟨hx, hb, hml, hr, hlk⟩, hown, hini, hts, hK⟩ := hM
  have h : p2i t _ = some (.inl r) := h
  unfold p2i at h
  split at h
  · next y x t' =>
    obtain ⟨tgt, h1, ⟨hb1, h2⟩ | ⟨hb1, h2⟩⟩ := bra_inj h
    · have hb1 := of_decide_eq_true hb1
      cases h2
      intro H locs ls hl hI hS g1 g2
      exact lv_icmp_lt hx hb hd h1 (fun _ => k H locs ls hl hI hS g1 g2) (fun z => absurd hb1 z)
    · have hb1 := of_decide_eq_false hb1
      cases h2
      intro H locs ls hl hI hS g1 g2
      exact lv_icmp_lt hx hb hd h1 (fun z => absurd z hb1) (fun z => k H locs ls hl hI hS g1 g2)
  · cases h
theorem ss_cge {off : Int} (hM : MC p s m args meth c E D Y cx nL) (hd : decode cx.2.1 pc = .ok (.if_icmp .ge off, 3)) (h : stpI E cx (.if_icmp .ge off) pc lo t G = some (.inl r))  (k : WP p l e R s m args below meth c Q E D Y nL N0 S0 r.1 r.2.1 r.2.2.1 r.2.2.2) : WP p l e R s m args below meth c Q E D Y nL N0 S0 pc lo t G := by
  obtain ⟨⟨hx, hb, hml, hr, hlk⟩, hown, hini, hts, hK⟩ := hM
  have h : p2i t _ = some (.inl r) := h
  unfold p2i at h
  split at h
  · next y x t' =>
    obtain ⟨tgt, h1, ⟨hb1, h2⟩ | ⟨hb1, h2⟩⟩ := bra_inj h
    · have hb1 := of_decide_eq_true hb1
      cases h2
      intro H locs ls hl hI hS g1 g2
      exact lv_icmp_ge hx hb hd h1 (fun _ => k H locs ls hl hI hS g1 g2) (fun z => absurd hb1 z)
    · have hb1 := of_decide_eq_false hb1
      cases h2
      intro H locs ls hl hI hS g1 g2
      exact lv_icmp_ge hx hb hd h1 (fun z => absurd z hb1) (fun z => k H locs ls hl hI hS g1 g2)
  · cases h
theorem ss_cgt {off : Int} (hM : MC p s m args meth c E D Y cx nL) (hd : decode cx.2.1 pc = .ok (.if_icmp .gt off, 3)) (h : stpI E cx (.if_icmp .gt off) pc lo t G = some (.inl r))  (k : WP p l e R s m args below meth c Q E D Y nL N0 S0 r.1 r.2.1 r.2.2.1 r.2.2.2) : WP p l e R s m args below meth c Q E D Y nL N0 S0 pc lo t G := by
  obtain ⟨⟨hx, hb, hml, hr, hlk⟩, hown, hini, hts, hK⟩ := hM
  have h : p2i t _ = some (.inl r) := h
  unfold p2i at h
  split at h
  · next y x t' =>
    obtain ⟨tgt, h1, ⟨hb1, h2⟩ | ⟨hb1, h2⟩⟩ := bra_inj h
    · have hb1 := of_decide_eq_true hb1
      cases h2
      intro H locs ls hl hI hS g1 g2
      exact lv_icmp_gt hx hb hd h1 (fun _ => k H locs ls hl hI hS g1 g2) (fun z => absurd hb1 z)
    · have hb1 := of_decide_eq_false hb1
      cases h2
      intro H locs ls hl hI hS g1 g2
      exact lv_icmp_gt hx hb hd h1 (fun z => absurd z hb1) (fun z => k H locs ls hl hI hS g1 g2)
  · cases h
theorem ss_cle {off : Int} (hM : MC p s m args meth c E D Y cx nL) (hd : decode cx.2.1 pc = .ok (.if_icmp .le off, 3)) (h : stpI E cx (.if_icmp .le off) pc lo t G = some (.inl r))  (k : WP p l e R s m args below meth c Q E D Y nL N0 S0 r.1 r.2.1 r.2.2.1 r.2.2.2) : WP p l e R s m args below meth c Q E D Y nL N0 S0 pc lo t G := by
  obtain ⟨⟨hx, hb, hml, hr, hlk⟩, hown, hini, hts, hK⟩ := hM
  have h : p2i t _ = some (.inl r) := h
  unfold p2i at h
  split at h
  · next y x t' =>
    obtain ⟨tgt, h1, ⟨hb1, h2⟩ | ⟨hb1, h2⟩⟩ := bra_inj h
    · have hb1 := of_decide_eq_true hb1
      cases h2
      intro H locs ls hl hI hS g1 g2
      exact lv_icmp_le hx hb hd h1 (fun _ => k H locs ls hl hI hS g1 g2) (fun z => absurd hb1 z)
    · have hb1 := of_decide_eq_false hb1
      cases h2
      intro H locs ls hl hI hS g1 g2
      exact lv_icmp_le hx hb hd h1 (fun z => absurd z hb1) (fun z => k H locs ls hl hI hS g1 g2)
  · cases h
theorem ss_tsw {dflt lw hh : Int} {offs : Array Int} {n : Nat} (hM : MC p s m args meth c E D Y cx nL) (hd : decode cx.2.1 pc = .ok (.tableswitch dflt lw hh offs, n)) (h : stpI E cx (.tableswitch dflt lw hh offs) pc lo t G = some (.inl r))  (k : WP p l e R s m args below meth c Q E D Y nL N0 S0 r.1 r.2.1 r.2.2.1 r.2.2.2) : WP p l e R s m args below meth c Q E D Y nL N0 S0 pc lo t G := by
  obtain ⟨⟨hx, hb, hml, hr, hlk⟩, hown, hini, hts, hK⟩ := hM
  have h : p1i t _ = some (.inl r) := h
  unfold p1i at h
  split at h
  · next x t' =>
    dsimp only at h
    split at h
    · next hc =>
      obtain ⟨tgt, h1, h2⟩ := jmp_inj h
      cases h2
      intro H locs ls hl hI hS g1 g2
      exact lv_tableOut hx hb hd hc h1 (k H locs ls hl hI hS g1 g2)
    · next hc =>
      obtain ⟨off, h0, h⟩ := ov_inj h
      obtain ⟨tgt, h1, h2⟩ := jmp_inj h
      cases h2
      intro H locs ls hl hI hS g1 g2
      exact lv_tableIn hx hb hd (fun z => hc (Or.inl z)) (fun z => hc (Or.inr z)) h0 h1 (k H locs ls hl hI hS g1 g2)
  · cases h
end SND
