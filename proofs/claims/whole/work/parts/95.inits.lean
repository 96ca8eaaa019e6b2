-- uses 41 42 43 44 45 46 47 48 49 50 51 52 53 54 55 56 57 58 59 60 61 62 63 69 70 71 72 73
/-! the constructors: parts -/
/-- G1 is G with k cells more; R may have changed -/
def grw (E : Ev) (G G1 : Hp) (R : Nat → Prop) (k s : Nat) : Prop := (∀ a, a < nxA E G → ¬ R a → gt E G1 a = gt E G a) ∧ nxA E G1 = nxA E G + k ∧ G1.2 ≤ G.2 + s
section GRO
variable {E : Ev} {G G1 G2 : Hp} {R R' : Nat → Prop} {k s k' s' : Nat}
theorem grw_rf : grw E G G R 0 0 := ⟨fun _ _ _ => rfl, rfl, Nat.le_refl _⟩
theorem grw_tr (h : grw E G G1 R k s) (h2 : grw E G1 G2 R' k' s') (hr : ∀ a, R' a → R a ∨ nxA E G ≤ a) : grw E G G2 R (k + k') (s + s') := by
  refine ⟨fun a ha hn => ?_, by rw [h2.2.1, h.2.1]; omega, by have := h.2.2; have := h2.2.2; omega⟩
  rw [h2.1 a (by rw [h.2.1]; omega) (fun z => by rcases hr a z with y | y; exact hn y; omega)]
  exact h.1 a ha hn
theorem grw_p {c : Cl} {n : Nat} (h : grw E G G1 R k s) : grw E G (psh G1 c n) R (k + 1) (s + n) := by
  refine ⟨fun a ha hn => ?_, by rw [nxA_psh, h.2.1]; omega, ?_⟩
  · rw [gt_psh (by rw [h.2.1]; omega)]
    exact h.1 a ha hn
  · show G1.2 + n ≤ _
    have := h.2.2
    omega
theorem grw_s {a : Nat} {c : Cl} (h : grw E G G1 R k s) (ha : R a ∨ nxA E G ≤ a) : grw E G (st E G1 a c) R k s := by
  refine ⟨fun b hb hn => ?_, by rw [nxA_st]; exact h.2.1, by rw [st_len0.2]; exact h.2.2⟩
  rw [gt_st_ne (by intro e; subst e; rcases ha with y | y; exact hn y; omega)]
  exact h.1 b hb hn
theorem grw_m (h : grw E G G1 R k s) {k2 s2 : Nat} (hk : k = k2) (hs : s ≤ s2) : grw E G G1 R k2 s2 := ⟨h.1, by rw [← hk]; exact h.2.1, by have := h.2.2; omega⟩
theorem grw_sam (h : sam E G G1 R) : grw E G G1 R 0 0 := ⟨fun a _ hn => h.1 a hn, by unfold nxA; rw [h.2.1]; rfl, by rw [h.2.2]; exact Nat.le_refl _⟩
theorem Tm_k {t cap : Nat} {xs : List Nat} (h : Tm E G t cap xs) (k : ∀ a, t ≤ a → a < t + 2 → gt E G1 a = gt E G a) : Tm E G1 t cap xs := by
  obtain ⟨a, ⟨f, b, c⟩, d, e⟩ := h
  exact ⟨(k _ (by omega) (by omega)).trans a, ⟨f, (k _ (by omega) (by omega)).trans b, c⟩, d, e⟩
theorem Tx_k {x p : Nat} {tx : List Nat} (h : Tx E G x tx p) (k : ∀ a, x ≤ a → a < x + 2 → gt E G1 a = gt E G a) : Tx E G1 x tx p := by
  obtain ⟨a, ⟨f, b, c⟩, d⟩ := h
  exact ⟨(k _ (by omega) (by omega)).trans a, ⟨f, (k _ (by omega) (by omega)).trans b, c⟩, d⟩
theorem Sx_k {s ed : Nat} {w : Bool} {S : Sc} (h : Sx E G s w S ed) (k : ∀ a, s ≤ a → a < s + 12 → gt E G1 a = gt E G a) : Sx E G1 s w S ed := by
  obtain ⟨h1, ⟨g, h2, h3⟩, h4, ⟨f, h5, h6⟩, ⟨f', h7, h8⟩⟩ := h
  refine ⟨(k _ (by omega) (by omega)).trans h1, ⟨g, (k _ (by omega) (by omega)).trans h2, h3⟩, fun n hn => ?_, ⟨f, (k _ (by omega) (by omega)).trans h5, h6⟩, ⟨f', (k _ (by omega) (by omega)).trans h7, h8⟩⟩
  have := bp_in (s := s) (w := w) hn
  exact Tm_k (h4 n hn) (fun a x y => k a (by omega) (by omega))
theorem Hi_k {h : Nat} {R : Nat → Sc} {nx ct : Nat} (q : Hi E G h R nx ct) (k : ∀ a, h ≤ a → a < h + 170 → gt E G1 a = gt E G a) : Hi E G1 h R nx ct := by
  obtain ⟨k1, ⟨g, k2, k3⟩, k4, k5⟩ := q
  refine ⟨(k _ (by omega) (by omega)).trans k1, ⟨g, (k _ (by omega) (by omega)).trans k2, k3⟩, fun n hn => ?_, k5⟩
  obtain ⟨e, he⟩ := k4 n hn
  exact ⟨e, Sx_k he (fun a x y => k a (by omega) (by omega))⟩
theorem AI_k {a N : Nat} {l : Nat → Int} (h : AI E G a N l) (k : gt E G1 a = gt E G a) : AI E G1 a N l := by
  obtain ⟨f, b, c⟩ := h
  exact ⟨f, k.trans b, c⟩
theorem TrP_k {t s : Nat} {se : Int} {L : LL} {f : Nat → Int} (h : TrP E G t s se L f) (k : ∀ a, t ≤ a → a < t + 21 → gt E G1 a = gt E G a) : TrP E G1 t s se L f := by
  obtain ⟨⟨h1, ⟨g, h2, h3⟩⟩, ⟨h4, ⟨ws, h5⟩, h6, h7⟩, h8⟩ := h
  refine ⟨⟨(k _ (by omega) (by omega)).trans h1, ⟨g, (k _ (by omega) (by omega)).trans h2, h3⟩⟩, ⟨fun j x y => ?_, ⟨ws, Tm_k h5 (fun a x y => k a (by omega) (by omega))⟩, AI_k h6 (k _ (by omega) (by omega)), AI_k h7 (k _ (by omega) (by omega))⟩, AI_k h8 (k _ (by omega) (by omega))⟩
  obtain ⟨w, hw⟩ := h4 j x y
  exact ⟨w, Tm_k hw (fun a x y => k a (by omega) (by omega))⟩
/-- the type check, new -/
def Yn (E : Ev) (G : Hp) (c s : Nat) : Prop := ∃ rm, TcO E G c s rm (-1) ∧ TcA E G c ∧ TcJ E G c
theorem Yn_k {c s : Nat} (h : Yn E G c s) (k : ∀ a, c ≤ a → a < c + 16 → gt E G1 a = gt E G a) : Yn E G1 c s := by
  obtain ⟨rm, ⟨h1, ⟨g, h2, h3⟩, ⟨g', h4, h5⟩⟩, h6, ⟨h7, ⟨f, h8⟩⟩⟩ := h
  refine ⟨rm, ⟨(k _ (by omega) (by omega)).trans h1, ⟨g, (k _ (by omega) (by omega)).trans h2, h3⟩, ⟨g', (k _ (by omega) (by omega)).trans h4, h5⟩⟩, fun j hj => ?_, ⟨fun j hj => ?_, ⟨f, (k _ (by omega) (by omega)).trans h8⟩⟩⟩
  · obtain ⟨f, b, c⟩ := h6 j hj
    exact ⟨f, (k _ (by omega) (by omega)).trans b, c⟩
  · obtain ⟨f, b, c⟩ := h7 j hj
    exact ⟨f, (k _ (by omega) (by omega)).trans b, c⟩
end GRO
section INI
variable {E : Ev} {d : Nat} {G : Hp} {P : Po}
theorem n_cl {n : Nat} (h : n ≤ 100000) : (¬ iv (n : Int) < 0 ∧ (iv (n : Int)).toNatClampNeg ≤ 100000) ∧ (iv (n : Int)).toNatClampNeg = n := by
  have hr : Rg (n : Int) := by constructor <;> omega
  rw [iv_lt0 hr, iv_cl hr, Int.toNat_natCast]
  omega
theorem i_term {t cap : Nat} {x y : Value} (h : gt E G t = some (cO 2 [x, y])) (hn : nxA E G = t + 1) (hc : 1 ≤ cap ∧ cap ≤ 200) : runs E (d + 1) i_X2_init [.ref t, .int (iv (cap : Int))] G (fun v G1 => v = none ∧ Tm E G1 t cap [] ∧ grw E G G1 (fun a => a = t) 1 cap) := by
  refine e_X2_init ?_
  have hl := n_cl (n := cap) (by omega)
  rw [iv_max (by constructor <;> omega) (by decide), show max (cap : Int) 1 = (cap : Int) by omega, hl.2, hn]
  refine ⟨⟨hl.1.1, by omega⟩, ?_⟩
  have h1 : gt E (psh G (cA 1 cap (fun _ => 0)) cap) t = some (cO 2 [x, y]) := (gt_psh (by omega)).trans h
  rw [u_P h1 (by show 0 < 2; decide)]
  have h2 := gt_st_self (E := E) (G := psh G (cA 1 cap (fun _ => 0)) cap) (a := t) (c := cO 2 ([x, y].set 0 (.ref (t + 1)))) (by rw [h1]; rfl)
  rw [u_P h2 (by show 1 < 2; decide)]
  refine ⟨rfl, ⟨gt_st_self (by rw [h2]; rfl), ⟨fun _ => 0, ?_, fun i hi => absurd hi (Nat.not_lt_zero _)⟩, ⟨Nat.zero_le _, hc.2⟩, fun i hi => absurd hi (Nat.not_lt_zero _)⟩, ?_⟩
  · rw [gt_st_ne (by omega), gt_st_ne (by omega), ← hn]
    exact gt_psh_self
  · exact grw_m (R := fun a => a = t) (k := 0 + 1) (s := 0 + cap) (k2 := 1) (s2 := cap) (grw_s (grw_s (grw_p grw_rf) (Or.inl rfl)) (Or.inl rfl)) rfl (by omega)
theorem i_text {t : Nat} {x y z : Value} (h : gt E G t = some (cO 3 [x, y, z])) (hn : nxA E G = t + 1) : runs E (d + 1) i_X3_init [.ref t] G (fun v G1 => v = none ∧ Tx E G1 t [] 0 ∧ grw E G G1 (fun a => a = t) 1 99) := by
  refine e_X3_init ?_
  have hl := n_cl (n := 99) (by omega)
  rw [show iv 99 = iv ((99 : Nat) : Int) from rfl, hl.2, hn]
  refine ⟨⟨hl.1.1, by omega⟩, ?_⟩
  have h1 : gt E (psh G (cA 0 99 (fun _ => 0)) 99) t = some (cO 3 [x, y, z]) := (gt_psh (by omega)).trans h
  rw [u_P h1 (by show 0 < 3; decide)]
  have h2 := gt_st_self (E := E) (G := psh G (cA 0 99 (fun _ => 0)) 99) (a := t) (c := cO 3 ([x, y, z].set 0 (.ref (t + 1)))) (by rw [h1]; rfl)
  rw [u_P h2 (by show 1 < 3; decide)]
  have h3 := gt_st_self (E := E) (G := st E (psh G (cA 0 99 (fun _ => 0)) 99) t (cO 3 ([x, y, z].set 0 (.ref (t + 1))))) (a := t) (c := cO 3 (([x, y, z].set 0 (.ref (t + 1))).set 1 (.int (iv 0)))) (by rw [h2]; rfl)
  rw [u_P h3 (by show 2 < 3; decide)]
  refine ⟨rfl, ⟨gt_st_self (by rw [h3]; rfl), ⟨fun _ => 0, ?_, fun i hi => absurd hi (Nat.not_lt_zero _)⟩, Nat.zero_le _, fun i hi => absurd hi (Nat.not_lt_zero _)⟩, ?_⟩
  · rw [gt_st_ne (by omega), gt_st_ne (by omega), gt_st_ne (by omega), ← hn]
    exact gt_psh_self
  · exact grw_m (R := fun a => a = t) (k := 0 + 1) (s := 0 + 99) (k2 := 1) (s2 := 99) (grw_s (grw_s (grw_s (grw_p grw_rf) (Or.inl rfl)) (Or.inl rfl)) (Or.inl rfl)) rfl (by omega)
/-- a new term object, then its constructor -/
theorem n_term {t cap : Nat} (hn : nxA E G = t) (hc : 1 ≤ cap ∧ cap ≤ 200) {F : Hp → Prop} (k : ∀ G1, Tm E G1 t cap [] → grw E G G1 (fun _ => False) 2 (cap + 2) → F G1) : qCV E (d + 1) i_X2_init [.ref (nxA E G), .int (iv (cap : Int))] (psh G (cO 2 (fDf 2)) (fSz 2)) F := by
  rw [hn]
  have h0 : gt E (psh G (cO 2 (fDf 2)) (fSz 2)) t = some (cO 2 [.null, .int 0]) := by rw [← hn]; exact gt_psh_self
  refine u_V (i_term (d := d) h0 (by rw [nxA_psh, hn]) hc) ?_
  rintro v G1 ⟨rfl, a1, a2⟩
  refine ⟨rfl, k G1 a1 ?_⟩
  exact grw_m (grw_tr (R := fun _ => False) (grw_p grw_rf) a2 (fun a ha => Or.inr (by have : a = t := ha; omega))) rfl (by show 0 + 2 + cap ≤ cap + 2; omega)
theorem i_schL {s : Nat} {x1 x2 x3 : Value} (hn : nxA E G = s + 1) : ∀ (r k : Nat) (G1 : Hp), k + r = 4 → gt E G1 s = some (cO 1 [.ref (s + 1), x1, x2, x3]) → (∃ g, gt E G1 (s + 1) = some (cR 1 4 g) ∧ ∀ j, j < k → g j = some (s + 2 + 2 * j)) → (∀ j, j < k → Tm E G1 (s + 2 + 2 * j) 30 []) → grw E G G1 (fun a => a = s) (1 + 2 * k) (4 + 32 * k) → (∀ G2, Sx E G2 s false S0 1 → grw E G G2 (fun a => a = s) 11 156 → P none G2) → Xr E (d + 2) x_X1_init 14 [some (.ref s), some (.int (iv (k : Int)))] [] G1 P := by
  intro r
  induction r with
  | zero =>
    intro k G1 hk h1 h2 h3 h4 hP
    have : k = 4 := by omega
    subst this
    refine g_X1_init_14 ?_
    have hl := n_cl (n := 12) (by omega)
    have hn1 : nxA E G1 = s + 10 := by rw [h4.2.1, hn]
    obtain ⟨g, g1, g2⟩ := h2
    rw [if_pos (by decide), show iv 12 = iv ((12 : Nat) : Int) from rfl, hl.2, hn1]
    refine ⟨⟨hl.1.1, by omega⟩, ?_⟩
    have b1 : gt E (psh G1 (cA 0 12 (fun _ => 0)) 12) s = _ := (gt_psh (by omega)).trans h1
    rw [u_P b1 (by show 1 < 4; decide)]
    have e1 : gt E (st E (psh G1 (cA 0 12 (fun _ => 0)) 12) s (cO 1 ([.ref (s + 1), x1, x2, x3].set 1 (.ref (s + 10))))) (s + 10) = some (cA 0 12 (fun _ => 0)) := by
      rw [gt_st_ne (by omega), ← hn1]
      exact gt_psh_self
    have e2 := gt_st_self (E := E) (G := psh G1 (cA 0 12 (fun _ => 0)) 12) (a := s) (c := cO 1 ([.ref (s + 1), x1, x2, x3].set 1 (.ref (s + 10)))) (by rw [b1]; rfl)
    have e3 : grw E G (st E (psh G1 (cA 0 12 (fun _ => 0)) 12) s (cO 1 ([.ref (s + 1), x1, x2, x3].set 1 (.ref (s + 10))))) (fun a => a = s) 10 144 := grw_m (grw_s (grw_p h4) (Or.inl rfl)) rfl (by omega)
    have e4 : ∀ a, a ≠ s → a < s + 10 → gt E (st E (psh G1 (cA 0 12 (fun _ => 0)) 12) s (cO 1 ([.ref (s + 1), x1, x2, x3].set 1 (.ref (s + 10))))) a = gt E G1 a := fun a y z => by rw [gt_st_ne y, gt_psh (by omega)]
    generalize st E (psh G1 (cA 0 12 (fun _ => 0)) 12) s (cO 1 ([.ref (s + 1), x1, x2, x3].set 1 (.ref (s + 10)))) = G2 at *
    have hn2 : nxA E G2 = s + 11 := by rw [e3.2.1, hn]
    rw [hn2]
    refine ⟨⟨hl.1.1, by omega⟩, ?_⟩
    have f1 : gt E (psh G2 (cA 0 12 (fun _ => 0)) 12) s = _ := (gt_psh (by omega)).trans e2
    rw [u_P f1 (by show 2 < 4; decide)]
    have f2 := gt_st_self (E := E) (G := psh G2 (cA 0 12 (fun _ => 0)) 12) (a := s) (c := cO 1 (([.ref (s + 1), x1, x2, x3].set 1 (.ref (s + 10))).set 2 (.ref (s + 11)))) (by rw [f1]; rfl)
    have f3 : grw E G (st E (psh G2 (cA 0 12 (fun _ => 0)) 12) s (cO 1 (([.ref (s + 1), x1, x2, x3].set 1 (.ref (s + 10))).set 2 (.ref (s + 11))))) (fun a => a = s) 11 156 := grw_m (grw_s (grw_p e3) (Or.inl rfl)) rfl (by omega)
    have f4 : gt E (st E (psh G2 (cA 0 12 (fun _ => 0)) 12) s (cO 1 (([.ref (s + 1), x1, x2, x3].set 1 (.ref (s + 10))).set 2 (.ref (s + 11))))) (s + 11) = some (cA 0 12 (fun _ => 0)) := by
      rw [gt_st_ne (by omega), ← hn2]
      exact gt_psh_self
    have f5 : ∀ a, a ≠ s → a < s + 11 → gt E (st E (psh G2 (cA 0 12 (fun _ => 0)) 12) s (cO 1 (([.ref (s + 1), x1, x2, x3].set 1 (.ref (s + 10))).set 2 (.ref (s + 11))))) a = gt E G2 a := fun a y z => by rw [gt_st_ne y, gt_psh (by omega)]
    generalize st E (psh G2 (cA 0 12 (fun _ => 0)) 12) s (cO 1 (([.ref (s + 1), x1, x2, x3].set 1 (.ref (s + 10))).set 2 (.ref (s + 11)))) = G3 at *
    rw [u_P f2 (by show 3 < 4; decide)]
    have i1 := gt_st_self (E := E) (G := G3) (a := s) (c := cO 1 ((([.ref (s + 1), x1, x2, x3].set 1 (.ref (s + 10))).set 2 (.ref (s + 11))).set 3 (.int (iv 0)))) (by rw [f2]; rfl)
    have i2 : grw E G (st E G3 s (cO 1 ((([.ref (s + 1), x1, x2, x3].set 1 (.ref (s + 10))).set 2 (.ref (s + 11))).set 3 (.int (iv 0))))) (fun a => a = s) 11 156 := grw_s f3 (Or.inl rfl)
    have i3 : ∀ a, a ≠ s → gt E (st E G3 s (cO 1 ((([.ref (s + 1), x1, x2, x3].set 1 (.ref (s + 10))).set 2 (.ref (s + 11))).set 3 (.int (iv 0))))) a = gt E G3 a := fun a y => gt_st_ne y
    generalize st E G3 s (cO 1 ((([.ref (s + 1), x1, x2, x3].set 1 (.ref (s + 10))).set 2 (.ref (s + 11))).set 3 (.int (iv 0)))) = G4 at *
    have back : ∀ a, a ≠ s → a < s + 10 → gt E G4 a = gt E G1 a := fun a y z => by rw [i3 a y, f5 a y (by omega), e4 a y z]
    have hbp : ∀ j, bp s false j = s + 2 + 2 * j := fun j => by unfold bp; simp
    have hS : Sm E G4 s false (fun _ => []) (fun _ => 0) (fun _ => 0) 0 := by
      refine ⟨i1, ⟨g, (back _ (by omega) (by omega)).trans g1, fun j hj => by rw [hbp]; exact g2 j hj⟩, fun j hj => ?_, ⟨_, (i3 _ (by omega)).trans ((f5 _ (by omega) (by omega)).trans e1), fun k _ => iv_z⟩, ⟨_, (i3 _ (by omega)).trans f4, fun k _ => iv_z⟩⟩
      rw [hbp]
      exact Tm_k (h3 j hj) (fun a y z => back a (by omega) (by omega))
    rw [Sm_rc hS]
    refine ⟨trivial, u_V (c_reset (d := d) hS) ?_⟩
    rintro v G5 ⟨rfl, j1, j2⟩
    refine ⟨rfl, hP G5 j1 ?_⟩
    exact grw_tr i2 (grw_sam j2) (fun a ha => by unfold ivl at ha; by_cases z : a = s; exact Or.inl z; exact Or.inr (by omega))
  | succ r ih =>
    intro k G1 hk h1 h2 h3 h4 hP
    refine g_X1_init_14 ?_
    obtain ⟨g, g1, g2⟩ := h2
    have hn1 : nxA E G1 = s + 2 + 2 * k := by rw [h4.2.1, hn]; omega
    rw [if_neg (by rw [iv_le (by decide) (by constructor <;> omega)]; omega), u_FR h1 rfl, show iv 30 = iv ((30 : Nat) : Int) from rfl]
    refine n_term (d := d + 1) hn1 (by decide) ?_
    intro G2 a1 a2
    have q1 : gt E G2 s = _ := (a2.1 s (by omega) (fun z => z)).trans h1
    have q2 : gt E G2 (s + 1) = _ := (a2.1 (s + 1) (by omega) (fun z => z)).trans g1
    rw [hn1, u_RS q2 (by decide) (by omega) a1.1 rfl, i_s]
    have q3 := gt_st_self (E := E) (G := G2) (a := s + 1) (c := cR 1 4 (va_up g (((k : Nat) : Int)).toNat (some (s + 2 + 2 * k)))) (by rw [q2]; rfl)
    have q4 : ∀ a, a ≠ s + 1 → gt E (st E G2 (s + 1) (cR 1 4 (va_up g (((k : Nat) : Int)).toNat (some (s + 2 + 2 * k))))) a = gt E G2 a := fun a y => gt_st_ne y
    refine ih (k + 1) _ (by omega) ((q4 _ (by omega)).trans q1) ⟨_, q3, fun j hj => ?_⟩ (fun j hj => ?_) ?_ hP
    · show (if j = k then some (s + 2 + 2 * k) else g j) = _
      by_cases z : j = k
      · rw [if_pos z, z]
      · rw [if_neg z]
        exact g2 j (by omega)
    · by_cases z : j = k
      · subst z
        exact Tm_k a1 (fun a x y => q4 a (by omega))
      · exact Tm_k (h3 j (by omega)) (fun a x y => (q4 a (by omega)).trans (a2.1 a (by omega) (fun z => z)))
    · exact grw_m (grw_s (grw_tr h4 a2 (fun a ha => ha.elim)) (Or.inr (by omega))) (by omega) (by omega)
theorem i_sch {s : Nat} {x0 x1 x2 x3 : Value} (h : gt E G s = some (cO 1 [x0, x1, x2, x3])) (hn : nxA E G = s + 1) : runs E (d + 3) i_X1_init [.ref s] G (fun v G1 => v = none ∧ Sx E G1 s false S0 1 ∧ grw E G G1 (fun a => a = s) 11 156) := by
  refine e_X1_init ?_
  have hl := n_cl (n := 4) (by omega)
  rw [show iv 4 = iv ((4 : Nat) : Int) from rfl, hl.2, hn]
  refine ⟨⟨hl.1.1, by omega⟩, ?_⟩
  have b1 : gt E (psh G (cR 1 4 (fun _ => none)) 4) s = _ := (gt_psh (by omega)).trans h
  rw [u_P b1 (by show 0 < 4; decide)]
  refine i_schL (d := d) hn 4 0 _ (by omega) (gt_st_self (by rw [b1]; rfl)) ⟨fun _ => none, ?_, fun j hj => absurd hj (Nat.not_lt_zero _)⟩ (fun j hj => absurd hj (Nat.not_lt_zero _)) ?_ (fun G2 a b => ⟨rfl, a, b⟩)
  · rw [gt_st_ne (by omega), ← hn]
    exact gt_psh_self
  · exact grw_m (R := fun a => a = s) (k := 0 + 1) (s := 0 + 4) (k2 := 1 + 2 * 0) (s2 := 4 + 32 * 0) (grw_s (grw_p grw_rf) (Or.inl rfl)) rfl (by omega)
theorem n_sch {s : Nat} (hn : nxA E G = s) {F : Hp → Prop} (k : ∀ G1, Sx E G1 s false S0 1 → grw E G G1 (fun _ => False) 12 160 → F G1) : qCV E (d + 3) i_X1_init [.ref (nxA E G)] (psh G (cO 1 (fDf 1)) (fSz 1)) F := by
  rw [hn]
  have h0 : gt E (psh G (cO 1 (fDf 1)) (fSz 1)) s = some (cO 1 [.null, .null, .null, .int 0]) := by rw [← hn]; exact gt_psh_self
  refine u_V (i_sch (d := d) h0 (by rw [nxA_psh, hn])) ?_
  rintro v G1 ⟨rfl, a1, a2⟩
  refine ⟨rfl, k G1 a1 ?_⟩
  exact grw_m (grw_tr (R := fun _ => False) (grw_p grw_rf) a2 (fun a ha => Or.inr (by have : a = s := ha; omega))) rfl (by show 0 + 4 + 156 ≤ 160; omega)
end INI
