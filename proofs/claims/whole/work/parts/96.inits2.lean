-- uses 41 42 43 44 45 46 47 48 49 50 51 52 53 54 55 56 57 58 59 60 61 62 63 69 70 71 72 73 95
/-! the constructors: History, Tree, TypeCheck -/
section IN2
variable {E : Ev} {d : Nat} {G : Hp} {P : Po}
theorem i_hiL {h : Nat} {y1 y2 : Value} (hn : nxA E G = h + 1) : ∀ (r k : Nat) (G1 : Hp), k + r = 14 → gt E G1 h = some (cO 0 [.ref (h + 1), y1, y2]) → (∃ g, gt E G1 (h + 1) = some (cR 0 14 g) ∧ ∀ j, j < k → g j = some (h + 2 + 12 * j)) → (∀ j, j < k → Sx E G1 (h + 2 + 12 * j) false S0 1) → grw E G G1 (fun a => a = h) (1 + 12 * k) (14 + 160 * k) → (∀ G2, Hi E G2 h (fun _ => S0) 0 0 → grw E G G2 (fun a => a = h) 169 2254 → P none G2) → Xr E (d + 3) x_X0_init 15 [some (.ref h), some (.int (iv (k : Int)))] [] G1 P := by
  intro r
  induction r with
  | zero =>
    intro k G1 hk h1 h2 h3 h4 hP
    have : k = 14 := by omega
    subst this
    refine g_X0_init_15 ?_
    obtain ⟨g, g1, g2⟩ := h2
    rw [if_pos (by decide), u_P h1 (by show 1 < 3; decide)]
    have e1 := gt_st_self (E := E) (G := G1) (a := h) (c := cO 0 ([.ref (h + 1), y1, y2].set 1 (.int (iv 0)))) (by rw [h1]; rfl)
    rw [u_P e1 (by show 2 < 3; decide)]
    refine hP _ ⟨gt_st_self (by rw [e1]; rfl), ⟨g, ?_, g2⟩, fun n hn => ⟨1, Sx_k (h3 n hn) (fun a x y => ?_)⟩, by decide, by decide⟩ (grw_s (grw_s h4 (Or.inl rfl)) (Or.inl rfl))
    · rw [gt_st_ne (by omega), gt_st_ne (by omega)]; exact g1
    · rw [gt_st_ne (by omega), gt_st_ne (by omega)]
  | succ r ih =>
    intro k G1 hk h1 h2 h3 h4 hP
    refine g_X0_init_15 ?_
    obtain ⟨g, g1, g2⟩ := h2
    have hn1 : nxA E G1 = h + 2 + 12 * k := by rw [h4.2.1, hn]; omega
    rw [if_neg (by rw [iv_le (by decide) (by constructor <;> omega)]; omega), u_FR h1 rfl]
    refine n_sch (d := d) hn1 ?_
    intro G2 a1 a2
    have q1 : gt E G2 h = _ := (a2.1 h (by omega) (fun z => z)).trans h1
    have q2 : gt E G2 (h + 1) = _ := (a2.1 (h + 1) (by omega) (fun z => z)).trans g1
    rw [hn1, u_RS q2 (by decide) (by omega) a1.1 rfl, i_s]
    have q3 := gt_st_self (E := E) (G := G2) (a := h + 1) (c := cR 0 14 (va_up g (((k : Nat) : Int)).toNat (some (h + 2 + 12 * k)))) (by rw [q2]; rfl)
    have q4 : ∀ a, a ≠ h + 1 → gt E (st E G2 (h + 1) (cR 0 14 (va_up g (((k : Nat) : Int)).toNat (some (h + 2 + 12 * k))))) a = gt E G2 a := fun a y => gt_st_ne y
    refine ih (k + 1) _ (by omega) ((q4 _ (by omega)).trans q1) ⟨_, q3, fun j hj => ?_⟩ (fun j hj => ?_) ?_ hP
    · show (if j = k then some (h + 2 + 12 * k) else g j) = _
      by_cases z : j = k
      · rw [if_pos z, z]
      · rw [if_neg z]
        exact g2 j (by omega)
    · by_cases z : j = k
      · subst z
        exact Sx_k a1 (fun a x y => q4 a (by omega))
      · exact Sx_k (h3 j (by omega)) (fun a x y => (q4 a (by omega)).trans (a2.1 a (by omega) (fun z => z)))
    · exact grw_m (R := fun a => a = h) (grw_s (grw_tr h4 a2 (fun a ha => ha.elim)) (Or.inr (by omega))) (by omega) (by omega)
theorem n_hist {h : Nat} (hn : nxA E G = h) {F : Hp → Prop} (k : ∀ G1, Hi E G1 h (fun _ => S0) 0 0 → grw E G G1 (fun _ => False) 170 2257 → F G1) : qCV E (d + 4) i_X0_init [.ref (nxA E G)] (psh G (cO 0 (fDf 0)) (fSz 0)) F := by
  rw [hn]
  have h0 : gt E (psh G (cO 0 (fDf 0)) (fSz 0)) h = some (cO 0 [.null, .int 0, .int 0]) := by rw [← hn]; exact gt_psh_self
  have hn0 : nxA E (psh G (cO 0 (fDf 0)) (fSz 0)) = h + 1 := by rw [nxA_psh, hn]
  have g0 : grw E G (psh G (cO 0 (fDf 0)) (fSz 0)) (fun _ => False) 1 3 := grw_p grw_rf
  generalize psh G (cO 0 (fDf 0)) (fSz 0) = G0 at *
  have main : runs E (d + 4) i_X0_init [.ref h] G0 (fun v G1 => v = none ∧ Hi E G1 h (fun _ => S0) 0 0 ∧ grw E G0 G1 (fun a => a = h) 169 2254) := by
    refine e_X0_init ?_
    have hl := n_cl (n := 14) (by omega)
    rw [show iv 14 = iv ((14 : Nat) : Int) from rfl, hl.2, hn0]
    refine ⟨⟨hl.1.1, by omega⟩, ?_⟩
    have b1 : gt E (psh G0 (cR 0 14 (fun _ => none)) 14) h = _ := (gt_psh (by omega)).trans h0
    rw [u_P b1 (by show 0 < 3; decide)]
    refine i_hiL (d := d) hn0 14 0 _ (by omega) (gt_st_self (by rw [b1]; rfl)) ⟨fun _ => none, ?_, fun j hj => absurd hj (Nat.not_lt_zero _)⟩ (fun j hj => absurd hj (Nat.not_lt_zero _)) ?_ (fun G2 a b => ⟨rfl, a, b⟩)
    · rw [gt_st_ne (by omega), ← hn0]
      exact gt_psh_self
    · exact grw_m (R := fun a => a = h) (k := 0 + 1) (s := 0 + 14) (k2 := 1 + 12 * 0) (s2 := 14 + 160 * 0) (grw_s (grw_p grw_rf) (Or.inl rfl)) rfl (by omega)
  refine u_V main ?_
  rintro v G1 ⟨rfl, a1, a2⟩
  refine ⟨rfl, k G1 a1 ?_⟩
  exact grw_m (grw_tr g0 a2 (fun a ha => Or.inr (by have : a = h := ha; omega))) rfl (by omega)
/-! Tree -/
theorem i_trL {t s : Nat} {y2 y3 y4 y5 y6 : Value} (hn : nxA E G = t + 1) : ∀ (r k : Nat) (G1 : Hp), k + r = 7 → gt E G1 t = some (cO 4 [.ref s, .ref (t + 1), y2, y3, y4, y5, y6]) → (∃ g, gt E G1 (t + 1) = some (cR 1 7 g) ∧ ∀ j, j < k → g j = some (t + 2 + 2 * j)) → (∀ j, j < k → Tm E G1 (t + 2 + 2 * j) 200 []) → grw E G G1 (fun a => a = t) (1 + 2 * k) (7 + 202 * k) → (∀ G2 L f, TrP E G2 t s (-1) L f → grw E G G2 (fun a => a = t) 20 2007 → P none G2) → Xr E (d + 1) x_X4_init 20 [some (.ref t), some (.ref s), some (.int (iv (k : Int)))] [] G1 P := by
  intro r
  induction r with
  | zero =>
    intro k G1 hk h1 h2 h3 h4 hP
    have : k = 7 := by omega
    subst this
    refine g_X4_init_20 ?_
    obtain ⟨g, g1, g2⟩ := h2
    have hl := n_cl (n := 128) (by omega)
    have hn1 : nxA E G1 = t + 16 := by rw [h4.2.1, hn]
    rw [if_pos (by decide), show iv 200 = iv ((200 : Nat) : Int) from rfl]
    refine n_term (d := d) hn1 (by decide) ?_
    intro G2 a1 a2
    have q1 : gt E G2 t = _ := (a2.1 t (by omega) (fun z => z)).trans h1
    have hn2 : nxA E G2 = t + 18 := by rw [a2.2.1, hn1]
    rw [hn1, u_P q1 (by show 2 < 7; decide)]
    have b1 := gt_st_self (E := E) (G := G2) (a := t) (c := cO 4 ([.ref s, .ref (t + 1), y2, y3, y4, y5, y6].set 2 (.ref (t + 16)))) (by rw [q1]; rfl)
    have b2 : ∀ a, a ≠ t → gt E (st E G2 t (cO 4 ([.ref s, .ref (t + 1), y2, y3, y4, y5, y6].set 2 (.ref (t + 16))))) a = gt E G2 a := fun a y => gt_st_ne y
    have b3 : grw E G (st E G2 t (cO 4 ([.ref s, .ref (t + 1), y2, y3, y4, y5, y6].set 2 (.ref (t + 16))))) (fun a => a = t) 17 1623 := grw_m (R := fun a => a = t) (grw_s (grw_tr h4 a2 (fun a ha => ha.elim)) (Or.inl rfl)) (by omega) (by omega)
    generalize st E G2 t (cO 4 ([.ref s, .ref (t + 1), y2, y3, y4, y5, y6].set 2 (.ref (t + 16)))) = G3 at *
    have hn3 : nxA E G3 = t + 18 := by rw [b3.2.1, hn]
    rw [show iv 128 = iv ((128 : Nat) : Int) from rfl, hl.2, hn3]
    refine ⟨⟨hl.1.1, by omega⟩, ?_⟩
    have c1 : gt E (psh G3 (cA 0 128 (fun _ => 0)) 128) t = _ := (gt_psh (by omega)).trans b1
    rw [u_P c1 (by show 3 < 7; decide)]
    have c2 := gt_st_self (E := E) (G := psh G3 (cA 0 128 (fun _ => 0)) 128) (a := t) (c := cO 4 (([.ref s, .ref (t + 1), y2, y3, y4, y5, y6].set 2 (.ref (t + 16))).set 3 (.ref (t + 18)))) (by rw [c1]; rfl)
    have c3 : ∀ a, a ≠ t → a < t + 18 → gt E (st E (psh G3 (cA 0 128 (fun _ => 0)) 128) t (cO 4 (([.ref s, .ref (t + 1), y2, y3, y4, y5, y6].set 2 (.ref (t + 16))).set 3 (.ref (t + 18))))) a = gt E G3 a := fun a y z => by rw [gt_st_ne y, gt_psh (by omega)]
    have c4 : gt E (st E (psh G3 (cA 0 128 (fun _ => 0)) 128) t (cO 4 (([.ref s, .ref (t + 1), y2, y3, y4, y5, y6].set 2 (.ref (t + 16))).set 3 (.ref (t + 18))))) (t + 18) = some (cA 0 128 (fun _ => 0)) := by
      rw [gt_st_ne (by omega), ← hn3]; exact gt_psh_self
    have c5 : grw E G (st E (psh G3 (cA 0 128 (fun _ => 0)) 128) t (cO 4 (([.ref s, .ref (t + 1), y2, y3, y4, y5, y6].set 2 (.ref (t + 16))).set 3 (.ref (t + 18))))) (fun a => a = t) 18 1751 := grw_m (R := fun a => a = t) (grw_s (grw_p b3) (Or.inl rfl)) (by omega) (by omega)
    generalize st E (psh G3 (cA 0 128 (fun _ => 0)) 128) t (cO 4 (([.ref s, .ref (t + 1), y2, y3, y4, y5, y6].set 2 (.ref (t + 16))).set 3 (.ref (t + 18)))) = G4 at *
    have hn4 : nxA E G4 = t + 19 := by rw [c5.2.1, hn]
    rw [hn4]
    refine ⟨⟨hl.1.1, by omega⟩, ?_⟩
    have d1 : gt E (psh G4 (cA 0 128 (fun _ => 0)) 128) t = _ := (gt_psh (by omega)).trans c2
    rw [u_P d1 (by show 4 < 7; decide)]
    have d2 := gt_st_self (E := E) (G := psh G4 (cA 0 128 (fun _ => 0)) 128) (a := t) (c := cO 4 ((([.ref s, .ref (t + 1), y2, y3, y4, y5, y6].set 2 (.ref (t + 16))).set 3 (.ref (t + 18))).set 4 (.ref (t + 19)))) (by rw [d1]; rfl)
    have d3 : ∀ a, a ≠ t → a < t + 19 → gt E (st E (psh G4 (cA 0 128 (fun _ => 0)) 128) t (cO 4 ((([.ref s, .ref (t + 1), y2, y3, y4, y5, y6].set 2 (.ref (t + 16))).set 3 (.ref (t + 18))).set 4 (.ref (t + 19))))) a = gt E G4 a := fun a y z => by rw [gt_st_ne y, gt_psh (by omega)]
    have d4 : gt E (st E (psh G4 (cA 0 128 (fun _ => 0)) 128) t (cO 4 ((([.ref s, .ref (t + 1), y2, y3, y4, y5, y6].set 2 (.ref (t + 16))).set 3 (.ref (t + 18))).set 4 (.ref (t + 19))))) (t + 19) = some (cA 0 128 (fun _ => 0)) := by
      rw [gt_st_ne (by omega), ← hn4]; exact gt_psh_self
    have d5 : grw E G (st E (psh G4 (cA 0 128 (fun _ => 0)) 128) t (cO 4 ((([.ref s, .ref (t + 1), y2, y3, y4, y5, y6].set 2 (.ref (t + 16))).set 3 (.ref (t + 18))).set 4 (.ref (t + 19))))) (fun a => a = t) 19 1879 := grw_m (R := fun a => a = t) (grw_s (grw_p c5) (Or.inl rfl)) (by omega) (by omega)
    generalize st E (psh G4 (cA 0 128 (fun _ => 0)) 128) t (cO 4 ((([.ref s, .ref (t + 1), y2, y3, y4, y5, y6].set 2 (.ref (t + 16))).set 3 (.ref (t + 18))).set 4 (.ref (t + 19)))) = G5 at *
    have hn5 : nxA E G5 = t + 20 := by rw [d5.2.1, hn]
    rw [hn5]
    refine ⟨⟨hl.1.1, by omega⟩, ?_⟩
    have e1 : gt E (psh G5 (cA 0 128 (fun _ => 0)) 128) t = _ := (gt_psh (by omega)).trans d2
    rw [u_P e1 (by show 5 < 7; decide)]
    have e2 := gt_st_self (E := E) (G := psh G5 (cA 0 128 (fun _ => 0)) 128) (a := t) (c := cO 4 (((([.ref s, .ref (t + 1), y2, y3, y4, y5, y6].set 2 (.ref (t + 16))).set 3 (.ref (t + 18))).set 4 (.ref (t + 19))).set 5 (.ref (t + 20)))) (by rw [e1]; rfl)
    have e3 : ∀ a, a ≠ t → a < t + 20 → gt E (st E (psh G5 (cA 0 128 (fun _ => 0)) 128) t (cO 4 (((([.ref s, .ref (t + 1), y2, y3, y4, y5, y6].set 2 (.ref (t + 16))).set 3 (.ref (t + 18))).set 4 (.ref (t + 19))).set 5 (.ref (t + 20))))) a = gt E G5 a := fun a y z => by rw [gt_st_ne y, gt_psh (by omega)]
    have e4 : gt E (st E (psh G5 (cA 0 128 (fun _ => 0)) 128) t (cO 4 (((([.ref s, .ref (t + 1), y2, y3, y4, y5, y6].set 2 (.ref (t + 16))).set 3 (.ref (t + 18))).set 4 (.ref (t + 19))).set 5 (.ref (t + 20))))) (t + 20) = some (cA 0 128 (fun _ => 0)) := by
      rw [gt_st_ne (by omega), ← hn5]; exact gt_psh_self
    have e5 : grw E G (st E (psh G5 (cA 0 128 (fun _ => 0)) 128) t (cO 4 (((([.ref s, .ref (t + 1), y2, y3, y4, y5, y6].set 2 (.ref (t + 16))).set 3 (.ref (t + 18))).set 4 (.ref (t + 19))).set 5 (.ref (t + 20))))) (fun a => a = t) 20 2007 := grw_m (R := fun a => a = t) (grw_s (grw_p d5) (Or.inl rfl)) (by omega) (by omega)
    generalize st E (psh G5 (cA 0 128 (fun _ => 0)) 128) t (cO 4 (((([.ref s, .ref (t + 1), y2, y3, y4, y5, y6].set 2 (.ref (t + 16))).set 3 (.ref (t + 18))).set 4 (.ref (t + 19))).set 5 (.ref (t + 20)))) = G6 at *
    rw [u_P e2 (by show 6 < 7; decide)]
    have back : ∀ a, a ≠ t → a < t + 18 → gt E (st E G6 t (cO 4 ((((([.ref s, .ref (t + 1), y2, y3, y4, y5, y6].set 2 (.ref (t + 16))).set 3 (.ref (t + 18))).set 4 (.ref (t + 19))).set 5 (.ref (t + 20))).set 6 (.int (iv (-1)))))) a = gt E G2 a := fun a y z => by rw [gt_st_ne y, e3 a y (by omega), d3 a y (by omega), c3 a y (by omega), b2 a y]
    refine hP _ (fun _ => 0, fun _ => 0) (fun _ => 0) ⟨⟨gt_st_self (by rw [e2]; rfl), ⟨g, ?_, g2⟩⟩, ⟨fun j _ hj => ⟨[], ?_⟩, ⟨[], ?_⟩, ⟨fun _ => 0, ?_, fun _ _ => iv_z⟩, ⟨fun _ => 0, ?_, fun _ _ => iv_z⟩⟩, ⟨fun _ => 0, ?_, fun _ _ => iv_z⟩⟩ (grw_s e5 (Or.inl rfl))
    · rw [back _ (by omega) (by omega), a2.1 _ (by omega) (fun z => z)]; exact g1
    · exact Tm_k (h3 j (by omega)) (fun a x y => by rw [back _ (by omega) (by omega)]; exact a2.1 _ (by omega) (fun z => z))
    · exact Tm_k a1 (fun a x y => back _ (by omega) (by omega))
    · rw [gt_st_ne (by omega), e3 _ (by omega) (by omega), d3 _ (by omega) (by omega)]; exact c4
    · rw [gt_st_ne (by omega), e3 _ (by omega) (by omega)]; exact d4
    · rw [gt_st_ne (by omega)]; exact e4
  | succ r ih =>
    intro k G1 hk h1 h2 h3 h4 hP
    refine g_X4_init_20 ?_
    obtain ⟨g, g1, g2⟩ := h2
    have hn1 : nxA E G1 = t + 2 + 2 * k := by rw [h4.2.1, hn]; omega
    rw [if_neg (by rw [iv_lt (by decide) (by constructor <;> omega)]; omega), u_FR h1 rfl, show iv 200 = iv ((200 : Nat) : Int) from rfl]
    refine n_term (d := d) hn1 (by decide) ?_
    intro G2 a1 a2
    have q1 : gt E G2 t = _ := (a2.1 t (by omega) (fun z => z)).trans h1
    have q2 : gt E G2 (t + 1) = _ := (a2.1 (t + 1) (by omega) (fun z => z)).trans g1
    rw [hn1, u_RS q2 (by decide) (by omega) a1.1 rfl, i_s]
    have q3 := gt_st_self (E := E) (G := G2) (a := t + 1) (c := cR 1 7 (va_up g (((k : Nat) : Int)).toNat (some (t + 2 + 2 * k)))) (by rw [q2]; rfl)
    have q4 : ∀ a, a ≠ t + 1 → gt E (st E G2 (t + 1) (cR 1 7 (va_up g (((k : Nat) : Int)).toNat (some (t + 2 + 2 * k))))) a = gt E G2 a := fun a y => gt_st_ne y
    refine ih (k + 1) _ (by omega) ((q4 _ (by omega)).trans q1) ⟨_, q3, fun j hj => ?_⟩ (fun j hj => ?_) ?_ hP
    · show (if j = k then some (t + 2 + 2 * k) else g j) = _
      by_cases z : j = k
      · rw [if_pos z, z]
      · rw [if_neg z]
        exact g2 j (by omega)
    · by_cases z : j = k
      · subst z
        exact Tm_k a1 (fun a x y => q4 a (by omega))
      · exact Tm_k (h3 j (by omega)) (fun a x y => (q4 a (by omega)).trans (a2.1 a (by omega) (fun z => z)))
    · exact grw_m (R := fun a => a = t) (grw_s (grw_tr h4 a2 (fun a ha => ha.elim)) (Or.inr (by omega))) (by omega) (by omega)
theorem i_tree {t s : Nat} {y0 y1 y2 y3 y4 y5 y6 : Value} (h : gt E G t = some (cO 4 [y0, y1, y2, y3, y4, y5, y6])) (hn : nxA E G = t + 1) : runs E (d + 2) i_X4_init [.ref t, .ref s] G (fun v G1 => v = none ∧ (∃ L f, TrP E G1 t s (-1) L f) ∧ grw E G G1 (fun a => a = t) 20 2007) := by
  refine e_X4_init ?_
  rw [u_P h (by show 0 < 7; decide)]
  have a1 := gt_st_self (E := E) (G := G) (a := t) (c := cO 4 ([y0, y1, y2, y3, y4, y5, y6].set 0 (.ref s))) (by rw [h]; rfl)
  have a2 : grw E G (st E G t (cO 4 ([y0, y1, y2, y3, y4, y5, y6].set 0 (.ref s)))) (fun a => a = t) 0 0 := grw_s grw_rf (Or.inl rfl)
  generalize st E G t (cO 4 ([y0, y1, y2, y3, y4, y5, y6].set 0 (.ref s))) = G1 at *
  have hl := n_cl (n := 7) (by omega)
  have hn1 : nxA E G1 = t + 1 := by rw [a2.2.1, hn]
  rw [show iv 7 = iv ((7 : Nat) : Int) from rfl, hl.2, hn1]
  refine ⟨⟨hl.1.1, by omega⟩, ?_⟩
  have b1 : gt E (psh G1 (cR 1 7 (fun _ => none)) 7) t = _ := (gt_psh (by omega)).trans a1
  rw [u_P b1 (by show 1 < 7; decide)]
  refine i_trL (d := d) hn 7 0 _ (by omega) (gt_st_self (by rw [b1]; rfl)) ⟨fun _ => none, ?_, fun j hj => absurd hj (Nat.not_lt_zero _)⟩ (fun j hj => absurd hj (Nat.not_lt_zero _)) ?_ (fun G2 L f a b => ⟨rfl, ⟨L, f, a⟩, b⟩)
  · rw [gt_st_ne (by omega), ← hn1]
    exact gt_psh_self
  · exact grw_m (R := fun a => a = t) (k := 0 + 1) (s := 0 + 7) (k2 := 1 + 2 * 0) (s2 := 7 + 202 * 0) (grw_s (grw_p a2) (Or.inl rfl)) rfl (by omega)
/-! TypeCheck -/
theorem nxA_pshs {n k : Nat} : nxA E (pshs G n k) = nxA E G + n := by
  unfold nxA pshs
  simp
  omega
theorem gt_pshs {a n k : Nat} (h : a < nxA E G) : gt E (pshs G n k) a = gt E G a := by
  unfold gt pshs
  unfold nxA at h
  by_cases hb : eB E ≤ a
  · rw [if_pos hb, if_pos hb, List.getElem?_append_left (by omega)]
  · rw [if_neg hb, if_neg hb]
theorem gt_pshs_n {i n k : Nat} (h : i < n) : gt E (pshs G n k) (nxA E G + i) = some (cA 1 k (fun _ => 0)) := by
  unfold gt pshs nxA
  rw [if_pos (by omega), List.getElem?_append_right (by omega)]
  rw [show eB E + G.1.length + i - eB E - G.1.length = i by omega, List.getElem?_replicate]
  rw [if_pos h]
theorem gt_pshs_b {b i n k : Nat} (hb : nxA E G = b) (h : i < n) : gt E (pshs G n k) (b + i) = some (cA 1 k (fun _ => 0)) := by
  rw [← hb]
  exact gt_pshs_n h
theorem grw_ps {G1 : Hp} {R : Nat → Prop} {k s n l : Nat} (h : grw E G G1 R k s) : grw E G (pshs G1 n l) R (k + n) (s + n * l) := by
  refine ⟨fun a ha hn => ?_, by rw [nxA_pshs, h.2.1]; omega, ?_⟩
  · rw [gt_pshs (by rw [h.2.1]; omega)]
    exact h.1 a ha hn
  · show G1.2 + n * l ≤ _
    have := h.2.2
    omega
theorem i_types {c s : Nat} {y0 y1 y2 y3 y4 y5 : Value} (h : gt E G c = some (cO 5 [y0, y1, y2, y3, y4, y5])) (hn : nxA E G = c + 1) : runs E (d + 1) i_X5_init [.ref c, .ref s] G (fun v G1 => v = none ∧ Yn E G1 c s ∧ grw E G G1 (fun a => a = c) 15 810) := by
  refine e_X5_init ?_
  rw [u_P h (by show 0 < 6; decide)]
  have a1 := gt_st_self (E := E) (G := G) (a := c) (c := cO 5 ([y0, y1, y2, y3, y4, y5].set 0 (.ref s))) (by rw [h]; rfl)
  have a2 : grw E G (st E G c (cO 5 ([y0, y1, y2, y3, y4, y5].set 0 (.ref s)))) (fun a => a = c) 0 0 := grw_s grw_rf (Or.inl rfl)
  generalize st E G c (cO 5 ([y0, y1, y2, y3, y4, y5].set 0 (.ref s))) = G1 at *
  have l8 := n_cl (n := 8) (by omega)
  have l4 := n_cl (n := 4) (by omega)
  have l64 := n_cl (n := 64) (by omega)
  have l30 := n_cl (n := 30) (by omega)
  have hn1 : nxA E G1 = c + 1 := by rw [a2.2.1, hn]
  rw [show iv 8 = iv ((8 : Nat) : Int) from rfl, show iv 64 = iv ((64 : Nat) : Int) from rfl, show iv 4 = iv ((4 : Nat) : Int) from rfl, show iv 30 = iv ((30 : Nat) : Int) from rfl, l8.2, l64.2, l4.2, l30.2, hn1]
  refine ⟨⟨l8.1.1, l64.1.1, by omega, by omega⟩, ?_⟩
  have b0 : nxA E (psh G1 (cR 2 8 (fun i => if i < 8 then some (c + 1 + 1 + i) else none)) 8) = c + 2 := by rw [nxA_psh, hn1]
  have b1 : gt E (pshs (psh G1 (cR 2 8 (fun i => if i < 8 then some (c + 1 + 1 + i) else none)) 8) 8 64) c = _ := (gt_pshs (by omega)).trans ((gt_psh (by omega)).trans a1)
  have b2 : gt E (pshs (psh G1 (cR 2 8 (fun i => if i < 8 then some (c + 1 + 1 + i) else none)) 8) 8 64) (c + 1) = some (cR 2 8 (fun i => if i < 8 then some (c + 1 + 1 + i) else none)) := (gt_pshs (by omega)).trans (by rw [← hn1]; exact gt_psh_self)
  have b3 : ∀ i, i < 8 → gt E (pshs (psh G1 (cR 2 8 (fun i => if i < 8 then some (c + 1 + 1 + i) else none)) 8) 8 64) (c + 2 + i) = some (cA 1 64 (fun _ => 0)) := fun i hi => gt_pshs_b b0 hi
  have b4 : grw E G (pshs (psh G1 (cR 2 8 (fun i => if i < 8 then some (c + 1 + 1 + i) else none)) 8) 8 64) (fun a => a = c) 9 520 := grw_m (R := fun a => a = c) (k := 0 + 1 + 8) (s := 0 + 8 + 8 * 64) (grw_ps (grw_p a2)) rfl (by omega)
  generalize pshs (psh G1 (cR 2 8 (fun i => if i < 8 then some (c + 1 + 1 + i) else none)) 8) 8 64 = G2 at *
  rw [u_P b1 (by show 1 < 6; decide)]
  have c1 := gt_st_self (E := E) (G := G2) (a := c) (c := cO 5 (([y0, y1, y2, y3, y4, y5].set 0 (.ref s)).set 1 (.ref (c + 1)))) (by rw [b1]; rfl)
  have c2 : ∀ a, a ≠ c → gt E (st E G2 c (cO 5 (([y0, y1, y2, y3, y4, y5].set 0 (.ref s)).set 1 (.ref (c + 1))))) a = gt E G2 a := fun a y => gt_st_ne y
  have c3 : grw E G (st E G2 c (cO 5 (([y0, y1, y2, y3, y4, y5].set 0 (.ref s)).set 1 (.ref (c + 1))))) (fun a => a = c) 9 520 := grw_s b4 (Or.inl rfl)
  generalize st E G2 c (cO 5 (([y0, y1, y2, y3, y4, y5].set 0 (.ref s)).set 1 (.ref (c + 1)))) = G3 at *
  have hn3 : nxA E G3 = c + 10 := by rw [c3.2.1, hn]
  rw [hn3]
  refine ⟨⟨l4.1.1, l64.1.1, by omega, by omega⟩, ?_⟩
  have d0 : nxA E (psh G3 (cR 2 4 (fun i => if i < 4 then some (c + 10 + 1 + i) else none)) 4) = c + 11 := by rw [nxA_psh, hn3]
  have d1 : gt E (pshs (psh G3 (cR 2 4 (fun i => if i < 4 then some (c + 10 + 1 + i) else none)) 4) 4 64) c = _ := (gt_pshs (by omega)).trans ((gt_psh (by omega)).trans c1)
  have d2 : gt E (pshs (psh G3 (cR 2 4 (fun i => if i < 4 then some (c + 10 + 1 + i) else none)) 4) 4 64) (c + 10) = some (cR 2 4 (fun i => if i < 4 then some (c + 10 + 1 + i) else none)) := (gt_pshs (by omega)).trans (by rw [← hn3]; exact gt_psh_self)
  have d3 : ∀ i, i < 4 → gt E (pshs (psh G3 (cR 2 4 (fun i => if i < 4 then some (c + 10 + 1 + i) else none)) 4) 4 64) (c + 11 + i) = some (cA 1 64 (fun _ => 0)) := fun i hi => gt_pshs_b d0 hi
  have d4 : grw E G (pshs (psh G3 (cR 2 4 (fun i => if i < 4 then some (c + 10 + 1 + i) else none)) 4) 4 64) (fun a => a = c) 14 780 := grw_m (R := fun a => a = c) (k := 9 + 1 + 4) (s := 520 + 4 + 4 * 64) (grw_ps (grw_p c3)) rfl (by omega)
  have d5 : ∀ a, a < c + 10 → gt E (pshs (psh G3 (cR 2 4 (fun i => if i < 4 then some (c + 10 + 1 + i) else none)) 4) 4 64) a = gt E G3 a := fun a y => (gt_pshs (by omega)).trans (gt_psh (by omega))
  generalize pshs (psh G3 (cR 2 4 (fun i => if i < 4 then some (c + 10 + 1 + i) else none)) 4) 4 64 = G4 at *
  rw [u_P d1 (by show 2 < 6; decide)]
  have e1 := gt_st_self (E := E) (G := G4) (a := c) (c := cO 5 ((([y0, y1, y2, y3, y4, y5].set 0 (.ref s)).set 1 (.ref (c + 1))).set 2 (.ref (c + 10)))) (by rw [d1]; rfl)
  have e2 : ∀ a, a ≠ c → gt E (st E G4 c (cO 5 ((([y0, y1, y2, y3, y4, y5].set 0 (.ref s)).set 1 (.ref (c + 1))).set 2 (.ref (c + 10))))) a = gt E G4 a := fun a y => gt_st_ne y
  have e3 : grw E G (st E G4 c (cO 5 ((([y0, y1, y2, y3, y4, y5].set 0 (.ref s)).set 1 (.ref (c + 1))).set 2 (.ref (c + 10))))) (fun a => a = c) 14 780 := grw_s d4 (Or.inl rfl)
  generalize st E G4 c (cO 5 ((([y0, y1, y2, y3, y4, y5].set 0 (.ref s)).set 1 (.ref (c + 1))).set 2 (.ref (c + 10)))) = G5 at *
  have hn5 : nxA E G5 = c + 15 := by rw [e3.2.1, hn]
  rw [hn5]
  refine ⟨⟨l30.1.1, by omega⟩, ?_⟩
  have f1 : gt E (psh G5 (cA 0 30 (fun _ => 0)) 30) c = _ := (gt_psh (by omega)).trans e1
  rw [u_P f1 (by show 3 < 6; decide)]
  have f2 := gt_st_self (E := E) (G := psh G5 (cA 0 30 (fun _ => 0)) 30) (a := c) (c := cO 5 (((([y0, y1, y2, y3, y4, y5].set 0 (.ref s)).set 1 (.ref (c + 1))).set 2 (.ref (c + 10))).set 3 (.ref (c + 15)))) (by rw [f1]; rfl)
  have f3 : ∀ a, a ≠ c → a < c + 15 → gt E (st E (psh G5 (cA 0 30 (fun _ => 0)) 30) c (cO 5 (((([y0, y1, y2, y3, y4, y5].set 0 (.ref s)).set 1 (.ref (c + 1))).set 2 (.ref (c + 10))).set 3 (.ref (c + 15))))) a = gt E G5 a := fun a y z => by rw [gt_st_ne y, gt_psh (by omega)]
  have f4 : gt E (st E (psh G5 (cA 0 30 (fun _ => 0)) 30) c (cO 5 (((([y0, y1, y2, y3, y4, y5].set 0 (.ref s)).set 1 (.ref (c + 1))).set 2 (.ref (c + 10))).set 3 (.ref (c + 15))))) (c + 15) = some (cA 0 30 (fun _ => 0)) := by
    rw [gt_st_ne (by omega), ← hn5]; exact gt_psh_self
  have f5 : grw E G (st E (psh G5 (cA 0 30 (fun _ => 0)) 30) c (cO 5 (((([y0, y1, y2, y3, y4, y5].set 0 (.ref s)).set 1 (.ref (c + 1))).set 2 (.ref (c + 10))).set 3 (.ref (c + 15))))) (fun a => a = c) 15 810 := grw_m (R := fun a => a = c) (grw_s (grw_p e3) (Or.inl rfl)) (by omega) (by omega)
  generalize st E (psh G5 (cA 0 30 (fun _ => 0)) 30) c (cO 5 (((([y0, y1, y2, y3, y4, y5].set 0 (.ref s)).set 1 (.ref (c + 1))).set 2 (.ref (c + 10))).set 3 (.ref (c + 15)))) = G6 at *
  rw [u_P f2 (by show 4 < 6; decide)]
  have j1 := gt_st_self (E := E) (G := G6) (a := c) (c := cO 5 ((((([y0, y1, y2, y3, y4, y5].set 0 (.ref s)).set 1 (.ref (c + 1))).set 2 (.ref (c + 10))).set 3 (.ref (c + 15))).set 4 (.int (iv 0)))) (by rw [f2]; rfl)
  rw [u_P j1 (by show 5 < 6; decide)]
  have back : ∀ a, a ≠ c → gt E (st E (st E G6 c (cO 5 ((((([y0, y1, y2, y3, y4, y5].set 0 (.ref s)).set 1 (.ref (c + 1))).set 2 (.ref (c + 10))).set 3 (.ref (c + 15))).set 4 (.int (iv 0))))) c (cO 5 (((((([y0, y1, y2, y3, y4, y5].set 0 (.ref s)).set 1 (.ref (c + 1))).set 2 (.ref (c + 10))).set 3 (.ref (c + 15))).set 4 (.int (iv 0))).set 5 (.int (iv (-1)))))) a = gt E G6 a := fun a y => by rw [gt_st_ne y, gt_st_ne y]
  refine ⟨rfl, ⟨0, ⟨gt_st_self (by rw [j1]; rfl), ⟨fun i => if i < 8 then some (c + 1 + 1 + i) else none, ?_, fun k hk => ?_⟩, ⟨fun i => if i < 4 then some (c + 10 + 1 + i) else none, ?_, fun k hk => ?_⟩⟩, fun k hk => ⟨fun _ => 0, ?_, fun i hi => absurd hi (Nat.not_lt_zero _)⟩, ⟨fun k hk => ⟨fun _ => 0, ?_, fun i hi => absurd hi (Nat.not_lt_zero _)⟩, ⟨fun _ => 0, ?_⟩⟩⟩, grw_s (grw_s f5 (Or.inl rfl)) (Or.inl rfl)⟩
  · rw [back _ (by omega), f3 _ (by omega) (by omega), e2 _ (by omega), d5 _ (by omega), c2 _ (by omega)]; exact b2
  · show (if k < 8 then some (c + 1 + 1 + k) else none) = _
    rw [if_pos hk]
  · rw [back _ (by omega), f3 _ (by omega) (by omega), e2 _ (by omega)]; exact d2
  · show (if k < 4 then some (c + 10 + 1 + k) else none) = _
    rw [if_pos hk]
  · rw [back _ (by omega), f3 _ (by omega) (by omega), e2 _ (by omega), d5 _ (by omega), c2 _ (by omega)]; exact b3 k hk
  · rw [back _ (by omega), f3 _ (by omega) (by omega), e2 _ (by omega)]; exact d3 k hk
  · rw [back _ (by omega)]; exact f4
end IN2
