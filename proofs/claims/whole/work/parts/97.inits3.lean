-- uses 41 42 43 44 45 46 47 48 49 50 51 52 53 54 55 56 57 58 59 60 61 62 63 64 65 66 67 68 69 70 71 72 73 74 75 76 77 78 79 80 81 82 90 95 96
/-! the constructors: the class, the reference -/
def A0 : As := As.mk [] S0 (fun _ => S0) 0 0 (fun _ => S0) (fun _ => false)
section IN3
variable {E : Ev} {d : Nat} {G : Hp} {P : Po}
/-- a part has been made, a field is set -/
theorem stg {G1 : Hp} {c j k s : Nat} {fs : List Value} {v : Value} {F : Hp → Prop} {R : Nat → Prop} (h : gt E G c = some (cO 6 fs)) (hg : grw E G G1 R k s) (hr : ∀ a, R a → nxA E G ≤ a) (hc : c < nxA E G) (hj : j < fs.length) (kk : ∀ G2, gt E G2 c = some (cO 6 (fs.set j v)) → grw E G G2 (fun a => a = c) k s → (∀ a, a ≠ c → gt E G2 a = gt E G1 a) → F G2) : qP E G1 c 6 j v F := by
  have h1 : gt E G1 c = some (cO 6 fs) := (hg.1 c hc (fun z => by have := hr c z; omega)).trans h
  rw [u_P h1 hj]
  refine kk _ (gt_st_self (by rw [h1]; rfl)) ?_ (fun a y => gt_st_ne y)
  have g2 : grw E G G1 (fun a => a = c) k s := ⟨fun a ha _ => hg.1 a ha (fun z => by have := hr a z; omega), hg.2⟩
  exact grw_s g2 (Or.inl rfl)
theorem i_cl3 {c : Nat} {y6 y7 y8 y9 y10 : Value} {A8 : Hp} (f8 : gt E A8 c = some (cO 6 [.ref (c + 1), .ref (c + 3), .ref (c + 15), .ref (c + 36), .ref (c + 52), .ref (c + 222), y6, y7, y8, y9, y10])) (n8 : nxA E A8 = c + 247) (hP : ∀ A13, gt E A13 c = some (cO 6 (CF c)) → gt E A13 (c + 247) = some (cA 2 2 (fun _ => 0)) → Sx E A13 (c + 248) false S0 1 → Tm E A13 (c + 260) 30 [] → Sx E A13 (c + 262) false S0 1 → Yn E A13 (c + 274) (c + 262) → grw E A8 A13 (fun a => a = c) 43 1172 → P none A13) : Xr E (d + 4) x_X6_init 77 [some (.ref c), some (.int (iv ((0 + 1 + 1 : Nat) : Int)))] [] A8 P := by
  have fls : ∀ {X : Nat}, ∀ a, (fun _ : Nat => False) a → X ≤ a := fun a z => z.elim
  have l2 := n_cl (n := 2) (by omega)
  refine g_X6_init_77 ?_
  rw [if_pos (by decide), show iv 2 = iv ((2 : Nat) : Int) from rfl, l2.2, n8]
  refine ⟨⟨l2.1.1, by omega⟩, ?_⟩
  have r9 : grw E A8 (psh A8 (cA 2 2 (fun _ => 0)) 2) (fun _ => False) 1 2 := grw_p grw_rf
  refine stg f8 r9 fls (by omega) (by show 6 < 11; decide) ?_
  intro A9 f9 g9 e9
  have n9 : nxA E A9 = c + 248 := by rw [g9.2.1, n8]
  have p9 : gt E A9 (c + 247) = some (cA 2 2 (fun _ => 0)) := (e9 _ (by omega)).trans (by rw [← n8]; exact gt_psh_self)
  -- the draft
  refine n_sch (d := d + 1) n9 ?_
  intro B10 p10 q10
  rw [n9]
  refine stg f9 q10 fls (by omega) (by show 7 < 11; decide) ?_
  intro A10 f10 g10 e10
  have n10 : nxA E A10 = c + 260 := by rw [g10.2.1, n9]
  rw [show iv 30 = iv ((30 : Nat) : Int) from rfl]
  refine n_term (d := d + 3) n10 (by decide) ?_
  intro B11 p11 q11
  rw [n10]
  refine stg f10 q11 fls (by omega) (by show 8 < 11; decide) ?_
  intro A11 f11 g11 e11
  have n11 : nxA E A11 = c + 262 := by rw [g11.2.1, n10]
  -- the copy
  refine n_sch (d := d + 1) n11 ?_
  intro B12 p12 q12
  rw [n11]
  refine stg f11 q12 fls (by omega) (by show 9 < 11; decide) ?_
  intro A12 f12 g12 e12
  have n12 : nxA E A12 = c + 274 := by rw [g12.2.1, n11]
  have t13 : gt E (psh A12 (cO 5 (fDf 5)) (fSz 5)) (c + 274) = some (cO 5 [.null, .null, .null, .null, .int 0, .int 0]) := by rw [← n12]; exact gt_psh_self
  have t13' : gt E (psh A12 (cO 5 (fDf 5)) (fSz 5)) c = some (cO 6 [.ref (c + 1), .ref (c + 3), .ref (c + 15), .ref (c + 36), .ref (c + 52), .ref (c + 222), .ref (c + 247), .ref (c + 248), .ref (c + 260), .ref (c + 262), y10]) := (gt_psh (by omega)).trans f12
  rw [n12, u_FR t13' rfl]
  refine u_V (i_types (d := d + 3) (s := c + 262) t13 (by rw [nxA_psh, n12])) ?_
  rintro v B13 ⟨rfl, p13, q13⟩
  refine ⟨rfl, ?_⟩
  have r13 : grw E A12 B13 (fun a => a = c + 274) 16 816 := grw_m (grw_tr (R := fun a => a = c + 274) (grw_p (c := cO 5 (fDf 5)) (n := fSz 5) grw_rf) q13 (fun a ha => Or.inl ha)) rfl (by show 0 + 6 + 810 ≤ 816; omega)
  refine stg f12 r13 (fun a ha => by have : a = c + 274 := ha; omega) (by omega) (by show 10 < 11; decide) ?_
  intro A13 f13 g13 e13
  have w12 : grw E A12 A13 (fun a => a = c) 16 816 := g13
  have w11 : grw E A11 A13 (fun a => a = c) (12 + 16) (160 + 816) := grw_tr g12 w12 (fun a z => Or.inl z)
  have w10 : grw E A10 A13 (fun a => a = c) (2 + (12 + 16)) (32 + (160 + 816)) := grw_tr g11 w11 (fun a z => Or.inl z)
  have w9 : grw E A9 A13 (fun a => a = c) (12 + (2 + (12 + 16))) (160 + (32 + (160 + 816))) := grw_tr g10 w10 (fun a z => Or.inl z)
  have w8 : grw E A8 A13 (fun a => a = c) (1 + (12 + (2 + (12 + 16)))) (2 + (160 + (32 + (160 + 816)))) := grw_tr g9 w9 (fun a z => Or.inl z)
  refine hP A13 f13 ((w9.1 _ (by omega) (by omega)).trans p9) (Sx_k (Sx_k p10 (fun a x y => e10 a (by omega))) (fun a x y => w10.1 a (by omega) (by omega))) (Tm_k (Tm_k p11 (fun a x y => e11 a (by omega))) (fun a x y => w11.1 a (by omega) (by omega))) (Sx_k (Sx_k p12 (fun a x y => e12 a (by omega))) (fun a x y => w12.1 a (by omega) (by omega))) (Yn_k p13 (fun a x y => e13 a (by omega))) (grw_m w8 rfl (by omega))
theorem i_cl2 {c : Nat} {y5 y6 y7 y8 y9 y10 : Value} {A5 : Hp} (f5 : gt E A5 c = some (cO 6 [.ref (c + 1), .ref (c + 3), .ref (c + 15), .ref (c + 36), .ref (c + 52), y5, y6, y7, y8, y9, y10])) (n5 : nxA E A5 = c + 222) (hP : ∀ A13, gt E A13 c = some (cO 6 (CF c)) → K5 E A13 c (fun _ => S0) (fun _ => false) → K6 E A13 c → Sx E A13 (c + 262) false S0 1 → Yn E A13 (c + 274) (c + 262) → grw E A5 A13 (fun a => a = c) 68 1494 → P none A13) : (¬ (iv 2) < 0 ∧ ((iv 2)).toNatClampNeg ≤ 100000) ∧ (qP E (psh A5 (cR 0 ((iv 2)).toNatClampNeg (fun _ => none)) ((iv 2)).toNatClampNeg) c 6 5 (.ref ((nxA E A5))) fun G13 => Xr E (d + 4) x_X6_init 77 [some (.ref c), some (.int (iv 0))] [] G13 P) := by
  have fls : ∀ {X : Nat}, ∀ a, (fun _ : Nat => False) a → X ≤ a := fun a z => z.elim
  -- the slots
  have l2 := n_cl (n := 2) (by omega)
  rw [show iv 2 = iv ((2 : Nat) : Int) from rfl, l2.2, n5]
  refine ⟨⟨l2.1.1, by omega⟩, ?_⟩
  have r6 : grw E A5 (psh A5 (cR 0 2 (fun _ => none)) 2) (fun _ => False) 1 2 := grw_p grw_rf
  refine stg f5 r6 fls (by omega) (by show 5 < 11; decide) ?_
  intro A6 f6 g6 e6
  have n6 : nxA E A6 = c + 223 := by rw [g6.2.1, n5]
  have p6 : gt E A6 (c + 222) = some (cR 0 2 (fun _ => none)) := (e6 _ (by omega)).trans (by rw [← n5]; exact gt_psh_self)
  refine g_X6_init_77 ?_
  rw [if_neg (by decide), u_FR f6 rfl]
  refine n_sch (d := d + 1) n6 ?_
  intro B7 p7 q7
  have p67 : gt E B7 (c + 222) = some (cR 0 2 (fun _ => none)) := (q7.1 _ (by omega) (fun z => z)).trans p6
  rw [n6, show iv 0 = iv ((0 : Nat) : Int) from rfl, u_RS p67 (by decide) (by omega) p7.1 rfl, i_s]
  have a7 := gt_st_self (E := E) (G := B7) (a := c + 222) (c := cR 0 2 (va_up (fun _ => none) (((0 : Nat) : Int)).toNat (some (c + 223)))) (by rw [p67]; rfl)
  have e7 : ∀ a, a ≠ c + 222 → gt E (st E B7 (c + 222) (cR 0 2 (va_up (fun _ => none) (((0 : Nat) : Int)).toNat (some (c + 223))))) a = gt E B7 a := fun a y => gt_st_ne y
  have g7 : grw E A6 (st E B7 (c + 222) (cR 0 2 (va_up (fun _ => none) (((0 : Nat) : Int)).toNat (some (c + 223))))) (fun a => a = c + 222) 12 160 := grw_s ⟨fun a ha _ => q7.1 a ha (fun z => z), q7.2⟩ (Or.inl rfl)
  generalize st E B7 (c + 222) (cR 0 2 (va_up (fun _ => none) (((0 : Nat) : Int)).toNat (some (c + 223)))) = A7 at *
  have n7 : nxA E A7 = c + 235 := by rw [g7.2.1, n6]
  have f7 : gt E A7 c = some (cO 6 [.ref (c + 1), .ref (c + 3), .ref (c + 15), .ref (c + 36), .ref (c + 52), .ref (c + 222), y6, y7, y8, y9, y10]) := (g7.1 c (by omega) (by omega)).trans f6
  refine g_X6_init_77 ?_
  rw [if_neg (by decide), u_FR f7 rfl]
  refine n_sch (d := d + 1) n7 ?_
  intro B8 p8 q8
  have p78 := (q8.1 (c + 222) (by omega) (fun z => z)).trans a7
  rw [n7, u_RS p78 (by decide) (by decide) p8.1 rfl, i_s]
  have a8 := gt_st_self (E := E) (G := B8) (a := c + 222) (c := cR 0 2 (va_up (va_up (fun _ => none) (((0 : Nat) : Int)).toNat (some (c + 223))) (((0 + 1 : Nat) : Int)).toNat (some (c + 235)))) (by rw [p78]; rfl)
  have e8 : ∀ a, a ≠ c + 222 → gt E (st E B8 (c + 222) (cR 0 2 (va_up (va_up (fun _ => none) (((0 : Nat) : Int)).toNat (some (c + 223))) (((0 + 1 : Nat) : Int)).toNat (some (c + 235))))) a = gt E B8 a := fun a y => gt_st_ne y
  have g8 : grw E A7 (st E B8 (c + 222) (cR 0 2 (va_up (va_up (fun _ => none) (((0 : Nat) : Int)).toNat (some (c + 223))) (((0 + 1 : Nat) : Int)).toNat (some (c + 235))))) (fun a => a = c + 222) 12 160 := grw_s ⟨fun a ha _ => q8.1 a ha (fun z => z), q8.2⟩ (Or.inl rfl)
  generalize st E B8 (c + 222) (cR 0 2 (va_up (va_up (fun _ => none) (((0 : Nat) : Int)).toNat (some (c + 223))) (((0 + 1 : Nat) : Int)).toNat (some (c + 235)))) = A8 at *
  have n8 : nxA E A8 = c + 247 := by rw [g8.2.1, n7]
  have f8 : gt E A8 c = some (cO 6 [.ref (c + 1), .ref (c + 3), .ref (c + 15), .ref (c + 36), .ref (c + 52), .ref (c + 222), y6, y7, y8, y9, y10]) := (g8.1 c (by omega) (by omega)).trans f7
  refine i_cl3 (d := d) f8 n8 ?_
  intro A13 f13 p9 p10 p11 p12 p13 g13
  have w8 : grw E A8 A13 (fun a => a = c ∨ a = c + 222) 43 1172 := ⟨fun a x y => g13.1 a x (fun z => y (Or.inl z)), g13.2⟩
  have w7 : grw E A7 A13 (fun a => a = c ∨ a = c + 222) (12 + 43) (160 + 1172) := grw_tr (R := fun a => a = c ∨ a = c + 222) ⟨fun a x y => g8.1 a x (fun z => y (Or.inr z)), g8.2⟩ w8 (fun a z => Or.inl z)
  have w6 : grw E A6 A13 (fun a => a = c ∨ a = c + 222) (12 + (12 + 43)) (160 + (160 + 1172)) := grw_tr (R := fun a => a = c ∨ a = c + 222) ⟨fun a x y => g7.1 a x (fun z => y (Or.inr z)), g7.2⟩ w7 (fun a z => Or.inl z)
  have w5 : grw E A5 A13 (fun a => a = c) (1 + (12 + (12 + 43))) (2 + (160 + (160 + 1172))) := grw_tr g6 w6 (fun a z => by rcases z with y | y; exact Or.inl y; exact Or.inr (by omega))
  have x7 := Sx_k (Sx_k p7 (fun a x y => e7 a (by omega))) (fun a x y => w7.1 a (by omega) (by omega))
  have x8 := Sx_k (Sx_k p8 (fun a x y => e8 a (by omega))) (fun a x y => w8.1 a (by omega) (by omega))
  have x222 := (g13.1 (c + 222) (by omega) (by omega)).trans a8
  refine hP A13 f13 ⟨⟨_, x222, fun i hi => ?_⟩, fun i hi => ?_, ⟨_, p9, fun i _ => iv_z⟩⟩ ⟨⟨S0, 1, p10⟩, ⟨[], p11⟩⟩ p12 p13 (grw_m w5 rfl (by omega))
  · rcases (by omega : i = 0 ∨ i = 1) with rfl | rfl <;> rfl
  · rcases (by omega : i = 0 ∨ i = 1) with rfl | rfl
    · exact ⟨1, x7⟩
    · exact ⟨1, x8⟩
set_option maxRecDepth 2000 in
theorem i_class {c : Nat} {y0 y1 y2 y3 y4 y5 y6 y7 y8 y9 y10 : Value} (h : gt E G c = some (cO 6 [y0, y1, y2, y3, y4, y5, y6, y7, y8, y9, y10])) (hn : nxA E G = c + 1) : runs E (d + 5) i_X6_init [.ref c] G (fun v G1 => v = none ∧ CI E G1 c A0 1 ∧ nxA E G1 = c + 290 ∧ G1.2 ≤ G.2 + 8000) := by
  refine e_X6_init ?_
  have fls : ∀ {X : Nat}, ∀ a, (fun _ : Nat => False) a → X ≤ a := fun a z => z.elim
  -- the text
  have t0 : gt E (psh G (cO 3 (fDf 3)) (fSz 3)) (c + 1) = some (cO 3 [.null, .int 0, .int 0]) := by rw [← hn]; exact gt_psh_self
  rw [hn]
  refine u_V (i_text (d := d + 3) t0 (by rw [nxA_psh, hn])) ?_
  rintro v B1 ⟨rfl, p1, q1⟩
  refine ⟨rfl, ?_⟩
  have r1 : grw E G B1 (fun a => a = c + 1) 2 102 := grw_m (grw_tr (R := fun a => a = c + 1) (grw_p (c := cO 3 (fDf 3)) (n := fSz 3) grw_rf) q1 (fun a ha => Or.inl ha)) rfl (by show 0 + 3 + 99 ≤ 102; omega)
  refine stg h r1 (fun a ha => by have : a = c + 1 := ha; omega) (by omega) (by show 0 < 11; decide) ?_
  intro A1 f1 g1 e1
  have n1 : nxA E A1 = c + 3 := by rw [g1.2.1, hn]
  -- the scheme
  refine n_sch (d := d + 1) n1 ?_
  intro B2 p2 q2
  rw [n1]
  refine stg f1 q2 fls (by omega) (by show 1 < 11; decide) ?_
  intro A2 f2 g2 e2
  have n2 : nxA E A2 = c + 15 := by rw [g2.2.1, n1]
  -- the tree
  have t3 : gt E (psh A2 (cO 4 (fDf 4)) (fSz 4)) (c + 15) = some (cO 4 [.null, .null, .null, .null, .null, .null, .int 0]) := by rw [← n2]; exact gt_psh_self
  have t3' : gt E (psh A2 (cO 4 (fDf 4)) (fSz 4)) c = some (cO 6 [.ref (c + 1), .ref (c + 3), y2, y3, y4, y5, y6, y7, y8, y9, y10]) := (gt_psh (by omega)).trans f2
  rw [n2, u_FR t3' rfl]
  refine u_V (i_tree (d := d + 2) (s := c + 3) t3 (by rw [nxA_psh, n2])) ?_
  rintro v B3 ⟨rfl, ⟨L3, F3, p3⟩, q3⟩
  refine ⟨rfl, ?_⟩
  have r3 : grw E A2 B3 (fun a => a = c + 15) 21 2014 := grw_m (grw_tr (R := fun a => a = c + 15) (grw_p (c := cO 4 (fDf 4)) (n := fSz 4) grw_rf) q3 (fun a ha => Or.inl ha)) rfl (by show 0 + 7 + 2007 ≤ 2014; omega)
  refine stg f2 r3 (fun a ha => by have : a = c + 15 := ha; omega) (by omega) (by show 2 < 11; decide) ?_
  intro A3 f3 g3 e3
  have n3 : nxA E A3 = c + 36 := by rw [g3.2.1, n2]
  -- the types
  have t4 : gt E (psh A3 (cO 5 (fDf 5)) (fSz 5)) (c + 36) = some (cO 5 [.null, .null, .null, .null, .int 0, .int 0]) := by rw [← n3]; exact gt_psh_self
  have t4' : gt E (psh A3 (cO 5 (fDf 5)) (fSz 5)) c = some (cO 6 [.ref (c + 1), .ref (c + 3), .ref (c + 15), y3, y4, y5, y6, y7, y8, y9, y10]) := (gt_psh (by omega)).trans f3
  rw [n3, u_FR t4' rfl]
  refine u_V (i_types (d := d + 3) (s := c + 3) t4 (by rw [nxA_psh, n3])) ?_
  rintro v B4 ⟨rfl, p4, q4⟩
  refine ⟨rfl, ?_⟩
  have r4 : grw E A3 B4 (fun a => a = c + 36) 16 816 := grw_m (grw_tr (R := fun a => a = c + 36) (grw_p (c := cO 5 (fDf 5)) (n := fSz 5) grw_rf) q4 (fun a ha => Or.inl ha)) rfl (by show 0 + 6 + 810 ≤ 816; omega)
  refine stg f3 r4 (fun a ha => by have : a = c + 36 := ha; omega) (by omega) (by show 3 < 11; decide) ?_
  intro A4 f4 g4 e4
  have n4 : nxA E A4 = c + 52 := by rw [g4.2.1, n3]
  -- the history
  refine n_hist (d := d) n4 ?_
  intro B5 p5 q5
  rw [n4]
  refine stg f4 q5 fls (by omega) (by show 4 < 11; decide) ?_
  intro A5 f5 g5 e5
  have n5 : nxA E A5 = c + 222 := by rw [g5.2.1, n4]
  refine i_cl2 (d := d) f5 n5 ?_
  intro A13 f13 k5 k6 p12 p13 w5
  have w4 : grw E A4 A13 (fun a => a = c) (170 + 68) (2257 + 1494) := grw_tr g5 w5 (fun a z => Or.inl z)
  have w3 : grw E A3 A13 (fun a => a = c) (16 + (170 + 68)) (816 + (2257 + 1494)) := grw_tr g4 w4 (fun a z => Or.inl z)
  have w2 : grw E A2 A13 (fun a => a = c) (21 + (16 + (170 + 68))) (2014 + (816 + (2257 + 1494))) := grw_tr g3 w3 (fun a z => Or.inl z)
  have w1 : grw E A1 A13 (fun a => a = c) (12 + (21 + (16 + (170 + 68)))) (160 + (2014 + (816 + (2257 + 1494)))) := grw_tr g2 w2 (fun a z => Or.inl z)
  have x1 := Tx_k (Tx_k p1 (fun a x y => e1 a (by omega))) (fun a x y => w1.1 a (by omega) (by omega))
  have x2 := Sx_k (Sx_k p2 (fun a x y => e2 a (by omega))) (fun a x y => w2.1 a (by omega) (by omega))
  have x3 := TrP_k (TrP_k p3 (fun a x y => e3 a (by omega))) (fun a x y => w3.1 a (by omega) (by omega))
  have x4 := Yn_k (Yn_k p4 (fun a x y => e4 a (by omega))) (fun a x y => w4.1 a (by omega) (by omega))
  have x5 := Hi_k (Hi_k p5 (fun a x y => e5 a (by omega))) (fun a x y => w5.1 a (by omega) (by omega))
  obtain ⟨rm4, y4a, y4b, y4c⟩ := x4
  obtain ⟨rm13, y13a, y13b, y13c⟩ := p13
  refine ⟨rfl, ⟨f13, ⟨0, x1⟩, ⟨false, 1, by decide, x2, Or.inr ⟨-1, L3, F3, x3, by decide, by decide⟩, Or.inr ⟨-1, rm4, ⟨y4a, y4b, y4c⟩, by decide, by decide⟩⟩, x5, k5, k6, ⟨S0, 1, by decide, p12, Or.inr ⟨-1, rm13, ⟨y13a, y13b, y13c⟩, by decide, by decide⟩⟩⟩, ?_, ?_⟩
  · rw [w1.2.1, n1]
  · have := w1.2.2
    have := g1.2.2
    omega
/-! the reference -/
theorem fr_tr {G1 G2 : Hp} {m b b' : Nat} (h1 : ∀ a, a ≠ m → a < b → gt E G1 a = gt E G a) (h2 : ∀ a, a ≠ m → a < b' → gt E G2 a = gt E G1 a) (hb : b ≤ b') : ∀ a, a ≠ m → a < b → gt E G2 a = gt E G a := fun a x y => (h2 a x (Nat.lt_of_lt_of_le y hb)).trans (h1 a x y)
theorem nb {m k : Nat} (h : 0 < k) : m + k ≠ m := by omega
theorem lb {m j k : Nat} (h : j < k) : m + j < m + k := by omega
theorem stpM {m j n : Nat} {fs : List Value} {cl : Cl} {F : Hp → Prop} {b : Nat} (h : gt E G m = some (cO 7 fs)) (hb : nxA E G = b) (hn : m < b) (hj : j < fs.length) (k : ∀ G2, gt E G2 m = some (cO 7 (fs.set j (.ref b))) → gt E G2 b = some cl → nxA E G2 = b + 1 → (∀ a, a ≠ m → a < b → gt E G2 a = gt E G a) → G2.2 ≤ G.2 + n → F G2) : qP E (psh G cl n) m 7 j (.ref b) F := by
  have h1 : gt E (psh G cl n) m = some (cO 7 fs) := (gt_psh (by omega)).trans h
  rw [u_P h1 hj]
  refine k _ (gt_st_self (by rw [h1]; rfl)) ?_ (by rw [nxA_st, nxA_psh, hb]) (fun a x y => by rw [gt_st_ne x, gt_psh (by omega)]) (by rw [st_len0.2]; exact Nat.le_refl _)
  rw [gt_st_ne (by omega), ← hb]
  exact gt_psh_self
def M0 : Md := Md.mk 0 0 0 0 0 0 0 0 (fun _ => 0) (fun _ => 0) (fun _ => 0) (fun _ => 0) (fun _ => 0) (fun _ => 0) (fun _ => 0) (fun _ => 0) (fun _ => 0) (fun _ => 0) (fun _ => 0) (fun _ => 0)
set_option maxRecDepth 2000 in
theorem i_model {m : Nat} (h : gt E G m = some (cO 7 (fDf 7))) (hn : nxA E G = m + 1) : runs E (d + 2) i_X7_init [.ref m] G (fun v G1 => v = none ∧ MH E G1 m A0 ∧ nxA E G1 = m + 13 ∧ G1.2 ≤ G.2 + 5000 ∧ ∀ a, a < m → gt E G1 a = gt E G a) := by
  refine e_X7_init ?_
  have l99 := n_cl (n := 99) (by omega)
  have l160 := n_cl (n := 160) (by omega)
  have l2240 := n_cl (n := 2240) (by omega)
  have l320 := n_cl (n := 320) (by omega)
  have l2 := n_cl (n := 2) (by omega)
  have l200 := n_cl (n := 200) (by omega)
  have l243 := n_cl (n := 243) (by omega)
  have l31 := n_cl (n := 31) (by omega)
  have h' : gt E G m = some (cO 7 [.null, .int 0, .null, .null, .null, .null, .int 0, .int 0, .null, .null, .null, .int 0, .null, .int 0, .int 0, .int 0, .int 0, .null, .null, .null]) := h
  rw [show iv 99 = iv ((99 : Nat) : Int) from rfl, show iv 160 = iv ((160 : Nat) : Int) from rfl, show iv 2240 = iv ((2240 : Nat) : Int) from rfl, show iv 320 = iv ((320 : Nat) : Int) from rfl, show iv 2 = iv ((2 : Nat) : Int) from rfl, show iv 200 = iv ((200 : Nat) : Int) from rfl, show iv 243 = iv ((243 : Nat) : Int) from rfl, show iv 31 = iv ((31 : Nat) : Int) from rfl, l99.2, l160.2, l2240.2, l320.2, l2.2, l200.2, l243.2, l31.2, hn]
  refine ⟨⟨l99.1.1, by omega⟩, ?_⟩
  refine stpM h' hn (by omega) (by show 0 < 20; decide) ?_
  intro G1 f1 p1 n1' e1 s1
  have n1 : nxA E G1 = m + 2 := n1'
  rw [n1]
  refine ⟨⟨l160.1.1, by omega⟩, ?_⟩
  refine stpM f1 n1 (by omega) (by show 2 < 20; decide) ?_
  intro G2 f2 p2 n2' e2 s2
  have n2 : nxA E G2 = m + 3 := n2'
  rw [n2]
  refine ⟨⟨l160.1.1, by omega⟩, ?_⟩
  refine stpM f2 n2 (by omega) (by show 3 < 20; decide) ?_
  intro G3 f3 p3 n3' e3 s3
  have n3 : nxA E G3 = m + 4 := n3'
  rw [n3]
  refine ⟨⟨l160.1.1, by omega⟩, ?_⟩
  refine stpM f3 n3 (by omega) (by show 4 < 20; decide) ?_
  intro G4 f4 p4 n4' e4 s4
  have n4 : nxA E G4 = m + 5 := n4'
  rw [n4]
  refine ⟨⟨l2240.1.1, by omega⟩, ?_⟩
  refine stpM f4 n4 (by omega) (by show 5 < 20; decide) ?_
  intro G5 f5 p5 n5' e5 s5
  have n5 : nxA E G5 = m + 6 := n5'
  rw [n5]
  refine ⟨⟨l320.1.1, by omega⟩, ?_⟩
  refine stpM f5 n5 (by omega) (by show 8 < 20; decide) ?_
  intro G6 f6 p6 n6' e6 s6
  have n6 : nxA E G6 = m + 7 := n6'
  rw [n6]
  refine ⟨⟨l2.1.1, by omega⟩, ?_⟩
  refine stpM f6 n6 (by omega) (by show 9 < 20; decide) ?_
  intro G7 f7 p7 n7' e7 s7
  have n7 : nxA E G7 = m + 8 := n7'
  rw [n7]
  refine ⟨⟨l200.1.1, by omega⟩, ?_⟩
  refine stpM f7 n7 (by omega) (by show 10 < 20; decide) ?_
  intro G8 f8 p8 n8' e8 s8
  have n8 : nxA E G8 = m + 9 := n8'
  rw [n8]
  refine ⟨⟨l200.1.1, by omega⟩, ?_⟩
  refine stpM f8 n8 (by omega) (by show 12 < 20; decide) ?_
  intro G9 f9 p9 n9' e9 s9
  have n9 : nxA E G9 = m + 10 := n9'
  rw [n9]
  refine ⟨⟨l243.1.1, by omega⟩, ?_⟩
  refine stpM f9 n9 (by omega) (by show 17 < 20; decide) ?_
  intro G10 f10 p10 n10' e10 s10
  have n10 : nxA E G10 = m + 11 := n10'
  rw [n10]
  refine ⟨⟨l243.1.1, by omega⟩, ?_⟩
  refine stpM f10 n10 (by omega) (by show 18 < 20; decide) ?_
  intro G11 f11 p11 n11' e11 s11
  have n11 : nxA E G11 = m + 12 := n11'
  rw [n11]
  refine ⟨⟨l31.1.1, by omega⟩, ?_⟩
  refine stpM f11 n11 (by omega) (by show 19 < 20; decide) ?_
  intro G12 f12 p12 n12' e12 s12
  have n12 : nxA E G12 = m + 13 := n12'
  have u11 : ∀ a, a ≠ m → a < m + 12 → gt E G12 a = gt E G11 a := e12
  have u10 : ∀ a, a ≠ m → a < m + 11 → gt E G12 a = gt E G10 a := fr_tr e11 u11 (Nat.add_le_add_left (by decide) m)
  have u9 : ∀ a, a ≠ m → a < m + 10 → gt E G12 a = gt E G9 a := fr_tr e10 u10 (Nat.add_le_add_left (by decide) m)
  have u8 : ∀ a, a ≠ m → a < m + 9 → gt E G12 a = gt E G8 a := fr_tr e9 u9 (Nat.add_le_add_left (by decide) m)
  have u7 : ∀ a, a ≠ m → a < m + 8 → gt E G12 a = gt E G7 a := fr_tr e8 u8 (Nat.add_le_add_left (by decide) m)
  have u6 : ∀ a, a ≠ m → a < m + 7 → gt E G12 a = gt E G6 a := fr_tr e7 u7 (Nat.add_le_add_left (by decide) m)
  have u5 : ∀ a, a ≠ m → a < m + 6 → gt E G12 a = gt E G5 a := fr_tr e6 u6 (Nat.add_le_add_left (by decide) m)
  have u4 : ∀ a, a ≠ m → a < m + 5 → gt E G12 a = gt E G4 a := fr_tr e5 u5 (Nat.add_le_add_left (by decide) m)
  have u3 : ∀ a, a ≠ m → a < m + 4 → gt E G12 a = gt E G3 a := fr_tr e4 u4 (Nat.add_le_add_left (by decide) m)
  have u2 : ∀ a, a ≠ m → a < m + 3 → gt E G12 a = gt E G2 a := fr_tr e3 u3 (Nat.add_le_add_left (by decide) m)
  have u1 : ∀ a, a ≠ m → a < m + 2 → gt E G12 a = gt E G1 a := fr_tr e2 u2 (Nat.add_le_add_left (by decide) m)
  have u0 : ∀ a, a ≠ m → a < m + 1 → gt E G12 a = gt E G a := fr_tr e1 u1 (Nat.add_le_add_left (by decide) m)
  have hm : Mo E G12 m M0 := ⟨f12, (u1 _ (nb (by decide)) (lb (by decide))).trans p1, (u2 _ (nb (by decide)) (lb (by decide))).trans p2, (u3 _ (nb (by decide)) (lb (by decide))).trans p3, (u4 _ (nb (by decide)) (lb (by decide))).trans p4, (u5 _ (nb (by decide)) (lb (by decide))).trans p5, (u6 _ (nb (by decide)) (lb (by decide))).trans p6, (u7 _ (nb (by decide)) (lb (by decide))).trans p7, (u8 _ (nb (by decide)) (lb (by decide))).trans p8, (u9 _ (nb (by decide)) (lb (by decide))).trans p9, (u10 _ (nb (by decide)) (lb (by decide))).trans p10, (u11 _ (nb (by decide)) (lb (by decide))).trans p11, p12⟩
  rw [Mo_nw hm]
  refine u_V (c_clear (d := d) (Ma_nw hm)) ?_
  rintro v G13 ⟨rfl, ⟨f, b1, b2⟩, b3⟩
  refine ⟨rfl, rfl, ⟨(Md.mk M0.len M0.acts M0.nxt M0.ts M0.bs M0.lab M0.xp M0.sta M0.tx f M0.tr M0.rd M0.di M0.ke M0.ik M0.te M0.bu M0.va M0.ju M0.ma), ?_, ?_⟩, ?_, ?_, ?_⟩
  · obtain ⟨h0, h1, h2, h3, h4, h5, h6, h7, h8, h9, h10, h11, h12⟩ := hm
    have ne : ∀ x, x ≠ m + 2 → gt E G13 x = gt E G12 x := fun x hx => b3.1 x (fun z => by unfold ivl at z; omega)
    exact ⟨(ne _ (by omega)).trans h0, (ne _ (by omega)).trans h1, b1, (ne _ (by omega)).trans h3, (ne _ (by omega)).trans h4, (ne _ (by omega)).trans h5, (ne _ (by omega)).trans h6, (ne _ (by omega)).trans h7, (ne _ (by omega)).trans h8, (ne _ (by omega)).trans h9, (ne _ (by omega)).trans h10, (ne _ (by omega)).trans h11, (ne _ (by omega)).trans h12⟩
  · refine ⟨⟨rfl, fun i hi => absurd hi (Nat.not_lt_zero _), Nat.zero_le _, fun i hi => absurd hi (Nat.not_lt_zero _)⟩, ⟨b2, okS_0⟩, ⟨rfl, rfl, by decide, by decide⟩, fun i h1 h2 => absurd (Nat.le_trans h1 h2) (by show ¬ 1 ≤ 0; decide), fun j hj => ⟨iv_z, fun z => by cases z⟩⟩
  · have := b3.2.1
    unfold nxA at n12 ⊢
    rw [this]; omega
  · have := b3.2.2
    omega
  · intro a ha
    rw [b3.1 a (by unfold ivl; omega)]
    exact u0 a (by omega) (by omega)
end IN3
