theorem X_mono {call : Nat → List Value → Hp → Po → Prop} {E : Ev} {cx : Cx} (hc : ∀ id a G (P P' : Po), (∀ v G', P v G' → P' v G') → call id a G P → call id a G P') :
    ∀ k pc lo s G (Q Q' : Po), (∀ v G', Q v G' → Q' v G') → X call E cx k pc lo s G Q → X call E cx k pc lo s G Q' := by
  intro k
  induction k with
  | zero => intro pc lo s G Q Q' _ h; exact h
  | succ k ih =>
    intro pc lo s G Q Q' hQ h
    unfold X at h ⊢
    cases hs : stp E cx pc lo s G with
    | none => rw [hs] at h; exact h
    | some r =>
      rw [hs] at h
      rcases r with r | r | v
      · exact ih _ _ _ _ _ _ hQ h
      · exact hc _ _ _ _ _ (fun v G' q => ih _ _ _ _ _ _ hQ q) h
      · exact hQ _ _ h
theorem runs_mono {E : Ev} : ∀ d id a G (P P' : Po), (∀ v G', P v G' → P' v G') → runs E d id a G P → runs E d id a G P' := by
  intro d
  induction d with
  | zero => intro id a G P P' _ h; exact h
  | succ d ih =>
    intro id a G P P' hP h
    unfold runs at h ⊢
    cases hs : tY[id]? with
    | none => rw [hs] at h; exact h
    | some m =>
      rw [hs] at h
      obtain ⟨h1, k, h2⟩ := h
      exact ⟨h1, k, X_mono ih _ _ _ _ _ _ _ hP h2⟩
def grows (G G' : Hp) : Prop := G.1.length ≤ G'.1.length ∧ G.2 ≤ G'.2
theorem grows_rf {G : Hp} : grows G G := ⟨Nat.le_refl _, Nat.le_refl _⟩
theorem grows_st {E : Ev} {G : Hp} {a : Nat} {c : Cl} : grows G (st E G a c) := by
  unfold st
  split
  · exact ⟨by simp, Nat.le_refl _⟩
  · exact grows_rf
theorem grows_psh {G : Hp} {c : Cl} {n : Nat} : grows G (psh G c n) := ⟨by simp [psh], by simp [psh]⟩
theorem grows_pshs {G : Hp} {k n : Nat} : grows G (pshs G n k) := ⟨by simp [pshs], by simp [pshs]⟩
theorem grows_tr {A B C : Hp} (h : grows A B) (g : grows B C) : grows A C := ⟨Nat.le_trans h.1 g.1, Nat.le_trans h.2 g.2⟩
/-- what a piece of a step says of the heap behind it -/
def gro (G : Hp) (x : Option Rs) : Prop := ∀ r, x = some (.inl r) → grows G r.2.2.2
theorem gro_none {G : Hp} : gro G none := fun r h => by cases h
theorem gro_r {G : Hp} {q} : gro G (some (.inr q)) := fun r h => by cases h
theorem gro_nx {G G' : Hp} {pc lo s} (h : grows G G') : gro G (nx pc lo s G') := fun r e => by unfold nx at e; cases e; exact h
theorem gro_gd {G : Hp} {c : Prop} {d : Decidable c} {x : Option Rs} (h : gro G x) : gro G (gd c d x) := by
  unfold gd
  by_cases hc : c
  · rw [if_pos hc]; exact h
  · rw [if_neg hc]; exact gro_none
theorem gro_ov {G : Hp} {α : Type} {x : Option α} {f : α → Option Rs} (h : ∀ v, gro G (f v)) : gro G (ov x f) := by
  unfold ov
  cases x with
  | none => exact gro_none
  | some v => exact h v
theorem gro_ite {G : Hp} {c : Prop} [Decidable c] {x y : Option Rs} (h : gro G x) (g : gro G y) : gro G (if c then x else y) := by
  by_cases hc : c
  · rw [if_pos hc]; exact h
  · rw [if_neg hc]; exact g
theorem gro_jmp {G : Hp} {pc off lo s} : gro G (jmp pc off lo s G) := gro_gd (gro_nx grows_rf)
theorem gro_bra {G : Hp} {b pc off lo s} : gro G (bra b pc off lo s G) := by
  unfold bra
  refine gro_gd ?_
  cases b
  · exact gro_nx grows_rf
  · exact gro_nx grows_rf
theorem gro_p1i {G : Hp} {s f} (h : ∀ x r, gro G (f x r)) : gro G (p1i s f) := by unfold p1i; split; exact h _ _; exact gro_none
theorem gro_p2i {G : Hp} {s f} (h : ∀ x y r, gro G (f x y r)) : gro G (p2i s f) := by unfold p2i; split; exact h _ _ _; exact gro_none
theorem gro_p1l {G : Hp} {s f} (h : ∀ x r, gro G (f x r)) : gro G (p1l s f) := by unfold p1l; split; exact h _ _; exact gro_none
theorem gro_p2l {G : Hp} {s f} (h : ∀ x y r, gro G (f x y r)) : gro G (p2l s f) := by unfold p2l; split; exact h _ _ _; exact gro_none
theorem gro_pli {G : Hp} {s f} (h : ∀ x y r, gro G (f x y r)) : gro G (pli s f) := by unfold pli; split; exact h _ _ _; exact gro_none
theorem gro_p1r {G : Hp} {s f} (h : ∀ x r, gro G (f x r)) : gro G (p1r s f) := by unfold p1r; split; exact h _ _; exact gro_none
theorem gro_pir {G : Hp} {s f} (h : ∀ x y r, gro G (f x y r)) : gro G (pir s f) := by unfold pir; split; exact h _ _ _; exact gro_none
theorem gro_piir {G : Hp} {s f} (h : ∀ x y z r, gro G (f x y z r)) : gro G (piir s f) := by unfold piir; split; exact h _ _ _ _; exact gro_none
theorem gro_prir {G : Hp} {s f} (h : ∀ x y z r, gro G (f x y z r)) : gro G (prir s f) := by unfold prir; split; exact h _ _ _ _; exact gro_none
theorem gro_pvr {G : Hp} {s f} (h : ∀ x y r, gro G (f x y r)) : gro G (pvr s f) := by unfold pvr; split; exact h _ _ _; exact gro_none
theorem gro_pcp {G : Hp} {s f} (h : ∀ a b c d e r, gro G (f a b c d e r)) : gro G (pcp s f) := by unfold pcp; split; exact h _ _ _ _ _ _; exact gro_none
theorem gro_gtA {E : Ev} {G : Hp} {a f g} (h : ∀ x y z, gro G (f x y z)) (k : gro G g) : gro G (gtA E G a f g) := by unfold gtA; split; exact h _ _ _; exact k; exact gro_none
theorem gro_gtR {E : Ev} {G : Hp} {a f} (h : ∀ x y z, gro G (f x y z)) : gro G (gtR E G a f) := by unfold gtR; split; exact h _ _ _; exact gro_none
theorem gro_gtO {E : Ev} {G : Hp} {a f g} (h : ∀ x y, gro G (f x y)) (k : gro G g) : gro G (gtO E G a f g) := by unfold gtO; split; exact h _ _; exact k; exact gro_none
theorem gro_ld {G : Hp} {p pc i lo s} : gro G (ld p pc i lo s G) := gro_ov fun _ => gro_gd (gro_nx grows_rf)
theorem gro_sto1 {G : Hp} {p pc i lo s} : gro G (sto1 p pc i lo s G) := by unfold sto1; split; exact gro_gd (gro_ov fun _ => gro_nx grows_rf); exact gro_none
theorem gro_sto2 {G : Hp} {pc i lo s} : gro G (sto2 pc i lo s G) := gro_p1l fun _ _ => gro_ov fun _ => gro_nx grows_rf
theorem gro_callA {E : Ev} {G : Hp} {kind id pc s} : gro G (callA E kind id pc s G) := by
  unfold callA
  refine gro_ov fun m => ?_
  unfold callB
  refine gro_gd ?_
  split
  · split
    · exact gro_gd gro_r
    · exact gro_none
  · split
    · exact gro_gd gro_r
    · exact gro_none
  · exact gro_gd gro_r
theorem gro_invS {E : Ev} {G : Hp} {o x pc lo s} : gro G (invS E o x pc lo s G) := by
  unfold invS
  refine gro_ov fun q => ?_
  split
  · exact gro_callA
  · exact gro_callA
  · exact gro_pcp fun _ _ _ _ _ _ => gro_gtA (fun _ _ _ => gro_gtA (fun _ _ _ => gro_gd (gro_nx grows_st)) gro_none) gro_none
  · exact gro_p2i fun _ _ _ => gro_gd (gro_nx grows_rf)
  · exact gro_p2i fun _ _ _ => gro_gd (gro_nx grows_rf)
  · exact gro_none
theorem gro_invI {E : Ev} {G : Hp} {o x pc lo s} : gro G (invI E o x pc lo s G) := by
  unfold invI
  refine gro_ov fun q => ?_
  split
  · exact gro_callA
  · exact gro_p1r fun _ _ => gro_gd (gro_nx grows_rf)
  · exact gro_none
theorem gro_invV {E : Ev} {G : Hp} {o x pc s} : gro G (invV E o x pc s G) := by
  unfold invV
  refine gro_ov fun q => ?_
  split
  · exact gro_callA
  · exact gro_none
set_option maxHeartbeats 4000000 in
theorem gro_stpI {E : Ev} {cx : Cx} {i : Instr} {pc : Nat} {lo : Lo} {s : List Value} {G : Hp} : gro G (stpI E cx i pc lo s G) := by
  unfold stpI
  split
  all_goals first
    | exact gro_none
    | exact gro_nx grows_rf
    | exact gro_gd (gro_nx grows_rf)
    | exact gro_ov fun _ => gro_nx grows_rf
    | exact gro_ld
    | exact gro_sto1
    | exact gro_sto2
    | exact gro_jmp
    | exact gro_p2i fun _ _ _ => gro_nx grows_rf
    | exact gro_p2i fun _ _ _ => gro_gd (gro_nx grows_rf)
    | exact gro_p2l fun _ _ _ => gro_nx grows_rf
    | exact gro_p2l fun _ _ _ => gro_gd (gro_nx grows_rf)
    | exact gro_pli fun _ _ _ => gro_nx grows_rf
    | exact gro_p1i fun _ _ => gro_nx grows_rf
    | exact gro_p1l fun _ _ => gro_nx grows_rf
    | exact gro_p1i fun _ _ => gro_bra
    | exact gro_p2i fun _ _ _ => gro_bra
    | exact gro_p1i fun _ _ => gro_ite gro_jmp (gro_ov fun _ => gro_jmp)
    | exact gro_invS
    | exact gro_invI
    | exact gro_invV
    | exact gro_pvr fun _ _ _ => gro_ov fun _ => gro_gtO (fun _ _ => gro_gd (gro_nx grows_st)) gro_none
    | exact gro_pir fun _ _ _ => gro_gtA (fun _ _ _ => gro_gd (gro_nx grows_rf)) (gro_ov fun _ => gro_gd (gro_nx grows_rf))
    | exact gro_pir fun _ _ _ => gro_gtR fun _ _ _ => gro_gd (gro_ov fun _ => gro_nx grows_rf)
    | exact gro_piir fun _ _ _ _ => gro_gtA (fun _ _ _ => gro_gd (gro_nx grows_st)) gro_none
    | exact gro_prir fun _ _ _ _ => gro_gtR fun _ _ _ => gro_gd (gro_gtO (fun _ _ => gro_gd (gro_nx grows_st)) gro_none)
    | exact gro_p1i fun _ _ => gro_ov fun _ => gro_gd (gro_nx grows_psh)
    | exact gro_ov fun _ => gro_gd (gro_nx grows_psh)
    | exact gro_p2i fun _ _ _ => gro_gd (gro_nx (grows_tr grows_psh grows_pshs))
    | skip
  · split
    · exact gro_nx grows_rf
    · exact gro_ov fun _ => gro_nx grows_rf
  · refine gro_ov fun v => ?_
    split
    · exact gro_ov fun _ => gro_nx grows_rf
    · exact gro_none
  · split
    · exact gro_gd (gro_nx grows_rf)
    · exact gro_none
  · split
    · exact gro_gd (gro_nx grows_rf)
    · exact gro_none
  · refine gro_p1r fun a r => ?_
    split
    · exact gro_gtO (fun _ _ => gro_gd (gro_ov fun _ => gro_nx grows_rf)) gro_none
    · exact gro_gtO (fun _ _ => gro_none) (gro_ov fun _ => gro_nx grows_rf)
  · refine gro_p1r fun a r => ?_
    split
    · exact gro_nx grows_rf
    · exact gro_gd (gro_nx grows_rf)
    · exact gro_none
    · exact gro_ov fun _ => gro_nx grows_rf
  · refine gro_p1i fun n r => gro_gd ?_
    split
    · exact gro_nx grows_psh
    · exact gro_nx grows_psh
    · exact gro_nx grows_psh
    · exact gro_none
  all_goals
    repeat' split
  all_goals first
    | exact gro_gd gro_r
    | exact gro_r
    | exact gro_none
theorem stp_grows {E : Ev} {cx : Cx} {pc : Nat} {lo : Lo} {s : List Value} {G : Hp} {r} (h : stp E cx pc lo s G = some (.inl r)) : grows G r.2.2.2 := by
  unfold stp at h
  split at h
  · exact gro_gd gro_stpI _ h
  · cases h
/-- the run comes to one end -/
theorem X_res {call : Nat → List Value → Hp → Po → Prop} {E : Ev} {cx : Cx} (hc : ∀ id a G (P P' : Po), (∀ v G', P v G' → P' v G') → call id a G P → call id a G P')
    (hr : ∀ id a G (P : Po), call id a G P → ∃ v G', P v G' ∧ call id a G (fun v' G'' => v' = v ∧ G'' = G') ∧ grows G G') :
    ∀ k pc lo s G (Q : Po), X call E cx k pc lo s G Q → ∃ v G', Q v G' ∧ X call E cx k pc lo s G (fun v' G'' => v' = v ∧ G'' = G') ∧ grows G G' := by
  intro k
  induction k with
  | zero => intro pc lo s G Q h; exact h.elim
  | succ k ih =>
    intro pc lo s G Q h
    unfold X at h
    cases hs : stp E cx pc lo s G with
    | none => rw [hs] at h; exact h.elim
    | some r =>
      rw [hs] at h
      rcases r with r | r | v
      · obtain ⟨v, G', h1, h2, h3⟩ := ih _ _ _ _ _ h
        refine ⟨v, G', h1, ?_, grows_tr (stp_grows hs) h3⟩
        unfold X
        rw [hs]
        exact h2
      · obtain ⟨v1, G1, h1, h2, h3⟩ := hr _ _ _ _ h
        obtain ⟨v, G', g1, g2, g3⟩ := ih _ _ _ _ _ h1
        refine ⟨v, G', g1, ?_, grows_tr h3 g3⟩
        unfold X
        rw [hs]
        refine hc _ _ _ _ _ (fun v' G'' q => ?_) h2
        obtain ⟨rfl, rfl⟩ := q
        exact g2
      · refine ⟨v, G, h, ?_, grows_rf⟩
        unfold X
        rw [hs]
        exact ⟨rfl, rfl⟩
theorem runs_res {E : Ev} : ∀ d id a G (P : Po), runs E d id a G P → ∃ v G', P v G' ∧ runs E d id a G (fun v' G'' => v' = v ∧ G'' = G') ∧ grows G G' := by
  intro d
  induction d with
  | zero => intro id a G P h; exact h.elim
  | succ d ih =>
    intro id a G P h
    unfold runs at h
    cases hs : tY[id]? with
    | none => rw [hs] at h; exact h.elim
    | some m =>
      rw [hs] at h
      obtain ⟨h1, k, h2⟩ := h
      obtain ⟨v, G', g1, g2, g3⟩ := X_res (runs_mono d) ih _ _ _ _ _ _ h2
      refine ⟨v, G', g1, ?_, g3⟩
      unfold runs
      rw [hs]
      exact ⟨h1, k, g2⟩
/-! the rows of X -/
theorem Xr_nx {E : Ev} {d : Nat} {cx : Cx} {pc : Nat} {lo : Lo} {s : List Value} {G : Hp} {Q : Po} {pc' : Nat} {lo' : Lo} {s' : List Value} {G' : Hp} (h : stp E cx pc lo s G = nx pc' lo' s' G') : Xr E d cx pc lo s G Q = Xr E d cx pc' lo' s' G' Q := by
  apply propext
  constructor
  · rintro ⟨k, hk⟩
    cases k with
    | zero => exact hk.elim
    | succ k => unfold X at hk; rw [h] at hk; exact ⟨k, hk⟩
  · rintro ⟨k, hk⟩
    refine ⟨k + 1, ?_⟩
    unfold X
    rw [h]
    exact hk
theorem Xr_ret {E : Ev} {d : Nat} {cx : Cx} {pc : Nat} {lo : Lo} {s : List Value} {G : Hp} {Q : Po} {v : Option Value} (h : stp E cx pc lo s G = some (.inr (.inr v))) : Xr E d cx pc lo s G Q = Q v G := by
  apply propext
  constructor
  · rintro ⟨k, hk⟩
    cases k with
    | zero => exact hk.elim
    | succ k => unfold X at hk; rw [h] at hk; exact hk
  · intro hq
    refine ⟨1, ?_⟩
    unfold X
    rw [h]
    exact hq
theorem Xr_call {E : Ev} {d : Nat} {cx : Cx} {pc : Nat} {lo : Lo} {s : List Value} {G : Hp} {Q : Po} {id : Nat} {a : List Value} {pc' : Nat} {r : List Value} (h : stp E cx pc lo s G = some (.inr (.inl (id, a, pc', r)))) : Xr E d cx pc lo s G Q = runs E d id a G (fun v G' => Xr E d cx pc' lo (v.toList ++ r) G' Q) := by
  apply propext
  constructor
  · rintro ⟨k, hk⟩
    cases k with
    | zero => exact hk.elim
    | succ k =>
      unfold X at hk
      rw [h] at hk
      exact runs_mono _ _ _ _ _ _ (fun v G' q => ⟨k, q⟩) hk
  · intro hq
    obtain ⟨v, G', ⟨k, h1⟩, h2, -⟩ := runs_res _ _ _ _ _ hq
    refine ⟨k + 1, ?_⟩
    unfold X
    rw [h]
    refine runs_mono _ _ _ _ _ _ (fun v' G'' q => ?_) h2
    obtain ⟨rfl, rfl⟩ := q
    exact h1
theorem runs_eq {E : Ev} {d id : Nat} {a : List Value} {G : Hp} {Q : Po} {m : Mi} (hm : tY[id]? = some m) (hl : entS a ≤ m.2.2.1) : runs E (d + 1) id a G Q = Xr E d (cxM m) 0 (ent a m.2.2.1) [] G Q := by
  unfold runs Xr
  rw [hm]
  exact propext ⟨fun h => h.2, fun h => ⟨hl, h⟩⟩
/-- one end alone -/
theorem X_det {call : Nat → List Value → Hp → Po → Prop} {E : Ev} {cx : Cx} (hd : ∀ id a G (P P' : Po), call id a G P → call id a G P' → ∃ v G', P v G' ∧ P' v G') :
    ∀ k k' pc lo s G (Q Q' : Po), X call E cx k pc lo s G Q → X call E cx k' pc lo s G Q' → ∃ v G', Q v G' ∧ Q' v G' := by
  intro k
  induction k with
  | zero => intro k' pc lo s G Q Q' h; exact h.elim
  | succ k ih =>
    intro k' pc lo s G Q Q' h h'
    cases k' with
    | zero => exact h'.elim
    | succ k' =>
      unfold X at h h'
      cases hs : stp E cx pc lo s G with
      | none => rw [hs] at h; exact h.elim
      | some r =>
        rw [hs] at h h'
        rcases r with r | r | v
        · exact ih _ _ _ _ _ _ _ h h'
        · obtain ⟨v, G', h1, h2⟩ := hd _ _ _ _ _ h h'
          exact ih _ _ _ _ _ _ _ h1 h2
        · exact ⟨v, G, h, h'⟩
theorem runs_det {E : Ev} : ∀ d id a G (P P' : Po), runs E d id a G P → runs E d id a G P' → ∃ v G', P v G' ∧ P' v G' := by
  intro d
  induction d with
  | zero => intro id a G P P' h; exact h.elim
  | succ d ih =>
    intro id a G P P' h h'
    unfold runs at h h'
    cases hs : tY[id]? with
    | none => rw [hs] at h; exact h.elim
    | some m =>
      rw [hs] at h h'
      obtain ⟨-, k, h2⟩ := h
      obtain ⟨-, k', h2'⟩ := h'
      exact X_det ih _ _ _ _ _ _ _ _ h2 h2'
/-- a contract as an equation -/
theorem runs_one {E : Ev} {d id : Nat} {a : List Value} {G : Hp} {v : Option Value} {G' : Hp} (h : ∀ P : Po, P v G' → runs E d id a G P) (P : Po) : runs E d id a G P = P v G' := by
  apply propext
  refine ⟨fun q => ?_, h P⟩
  obtain ⟨v1, G1, h1, h2⟩ := runs_det d id a G _ _ q (h (fun v' G'' => v' = v ∧ G'' = G') ⟨rfl, rfl⟩)
  rw [← h2.1, ← h2.2]
  exact h1
theorem gt_st_self {E : Ev} {G : Hp} {a : Nat} {c : Cl} (h : (gt E G a).isSome = true) : gt E (st E G a c) a = some c := by
  unfold gt at h ⊢
  unfold st
  split at h
  · next hb =>
    rw [if_pos hb, if_pos hb]
    have hl : a - eB E < G.1.length := by
      rw [Option.isSome_iff_exists] at h
      obtain ⟨x, hx⟩ := h
      exact (List.getElem?_eq_some_iff.mp hx).1
    simp [hl]
  · cases h
theorem gt_st_ne {E : Ev} {G : Hp} {a b : Nat} {c : Cl} (h : b ≠ a) : gt E (st E G a c) b = gt E G b := by
  unfold gt st
  by_cases hb : eB E ≤ b
  · rw [if_pos hb, if_pos hb]
    by_cases ha : eB E ≤ a
    · rw [if_pos ha]
      have hn : a - eB E ≠ b - eB E := by omega
      simp [hn]
    · rw [if_neg ha]
  · rw [if_neg hb, if_neg hb]
theorem gt_psh {E : Ev} {G : Hp} {a n : Nat} {c : Cl} (h : a < nxA E G) : gt E (psh G c n) a = gt E G a := by
  unfold gt psh
  unfold nxA at h
  by_cases hb : eB E ≤ a
  · rw [if_pos hb, if_pos hb]
    rw [List.getElem?_append_left (by omega)]
  · rw [if_neg hb, if_neg hb]
theorem gt_psh_self {E : Ev} {G : Hp} {n : Nat} {c : Cl} : gt E (psh G c n) (nxA E G) = some c := by
  unfold gt psh nxA
  rw [if_pos (by omega)]
  simp
theorem nxA_st {E : Ev} {G : Hp} {a : Nat} {c : Cl} : nxA E (st E G a c) = nxA E G := by
  unfold nxA st
  split <;> simp
theorem nxA_psh {E : Ev} {G : Hp} {n : Nat} {c : Cl} : nxA E (psh G c n) = nxA E G + 1 := by
  unfold nxA psh
  simp
  omega
