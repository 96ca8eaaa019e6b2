-- uses 41 42 43 44 45 46 47 48 49 50 51 52 53 54 55 56 57 58 59 60 61 62 63 64 65 66 67 68 69 70 71 72 73 74 75 76 77 78 79 80 81 82 83 84 85 86 87 88 89 90 91 92 93 94 95 96 97
/-! the law: both walk along (written by wip/whole/gen/law.py) -/
section LAW
variable {E : Ev} {G : Hp} {c m n : Nat} {A : As}
theorem MH_s {G1 : Hp} (h : MH E G m A) (k : sam E G G1 (ivl c 290)) (hc : c + 290 ≤ m) : MH E G1 m A := by
  obtain ⟨M, h1, h2⟩ := h
  exact ⟨M, Mo_sam h1 k (fun a x y => by unfold ivl; omega), h2⟩
theorem core {G0 : Hp} {idx idm : Nat} {as : List Value} {r : Int × As} {Nx Q0 : Hp → Prop} (hcm : c + 290 = m) (hC : CI E G c A n) (hM : MH E G m A) (hl : G.1.length = G0.1.length ∧ G.2 = G0.2) (hx : runs E 60 idx (.ref c :: as) G (cP E G c n r)) (hm : ∀ G1, MH E G1 m A → runs E 60 idm (.ref m :: as) G1 (mP E G1 m r)) (next : ∀ (A' : As) (G2 : Hp), CI E G2 c A' (n + 10) → MH E G2 m A' → (G2.1.length = G0.1.length ∧ G2.2 = G0.2) → Nx G2) : rcv E G c 6 = true ∧ qCI E 60 idx (.ref c :: as) G (fun v5 G4 => rcv E G4 m 7 = true ∧ qCI E 60 idm (.ref m :: as) G4 (fun v8 G7 => if v5 = v8 then Nx G7 else Q0 G7)) := by
  rw [k_rc hC.1]
  refine ⟨trivial, u_I hx ?_⟩
  rintro v G1 ⟨rfl, b1, b2⟩
  refine ⟨_, rfl, ?_⟩
  have hM1 := MH_s hM b2 (by omega)
  have hrc : (rcv E G1 m 7 = true) = True := by
    obtain ⟨M, h1, h2⟩ := hM1
    exact Mo_rc h1
  rw [hrc]
  refine ⟨trivial, u_I (hm G1 hM1) ?_⟩
  rintro v G2 ⟨rfl, d1, d2⟩
  refine ⟨_, rfl, ?_⟩
  rw [if_pos rfl]
  exact next r.2 G2 (CI_s b1 d2 (by omega)) d1 ⟨by rw [d2.2.1, b2.2.1]; exact hl.1, by rw [d2.2.2, b2.2.2]; exact hl.2⟩
theorem u_sl (hb : eb E < eB E) {F : Int32 → Prop} : qL 8 E G (eb E) F = F (iv (eL E : Nat)) := by
  have ho : gt E G (eb E) = none := gt_old hb
  have h1 : oL 8 E (eb E) = some (eL E) := by simp [oL]
  simp only [qL, ho, h1, iv_nat]
theorem u_sc (hb : eb E < eB E) (hL : eL E ≤ 2560) {i : Nat} (hi : i < eL E) {F : Int32 → Prop} : qIA 8 E G (eb E) (iv (i : Int)) F = F (ex E i) := by
  have ho : gt E G (eb E) = none := gt_old hb
  have h2 : oI 8 E (eb E) = some (eL E, ex E) := by simp [oI]
  simp only [qIA, ho, h2, true_and, iv_in (show 0 ≤ (i : Int) ∧ (i : Int) < (eL E : Nat) by omega) (by omega), not_false_iff, iv_cl (show Rg (i : Int) by constructor <;> omega), Int.toNat_natCast]
end LAW
def lawP : Po := fun v G => v = some (.int (iv 1)) ∧ G.1.length ≤ 600000 ∧ G.2 ≤ 7302250
set_option maxRecDepth 4000 in
theorem c_law18 {E : Ev} (hK : envOK E) {G0 : Hp} (hG0 : G0.1.length ≤ 600000 ∧ G0.2 ≤ 7302250) {c m : Nat} (hcm : c + 290 = m) : ∀ (r j : Nat) (G : Hp) (A : As), eL E ≤ 5 * j + 5 * r → j + r ≤ 520 → CI E G c A (1 + 10 * j) → MH E G m A → (G.1.length = G0.1.length ∧ G.2 = G0.2) → Xr E 60 x_L_law 18 [some (.ref (eb E)), some (.ref c), some (.ref m), some (.int (iv ((5 * j : Nat) : Int)))] [] G lawP := by
  obtain ⟨hL, ⟨hb, hE1, hE2, hE3⟩, hF⟩ := hK
  have hE : EK E := ⟨hE1, hE2, hE3⟩
  intro r
  induction r with
  | zero =>
    intro j G A hr hj hC hM hl
    refine g_L_law_18 ?_
    rw [u_sl hb, iv_sub, if_pos (by rw [iv_lt (by constructor <;> omega) (by constructor <;> omega)]; omega)]
    exact ⟨rfl, by rw [hl.1]; exact hG0.1, by rw [hl.2]; exact hG0.2⟩
  | succ r ih =>
    intro j G A hr hj hC hM hl
    refine g_L_law_18 ?_
    rw [u_sl hb, iv_sub]
    by_cases cL : (eL E : Int) - 5 < (5 * j : Nat)
    · rw [if_pos (by rw [iv_lt (by constructor <;> omega) (by constructor <;> omega)]; exact cL)]
      exact ⟨rfl, by rw [hl.1]; exact hG0.1, by rw [hl.2]; exact hG0.2⟩
    rw [if_neg (by rw [iv_lt (by constructor <;> omega) (by constructor <;> omega)]; exact cL), u_sc hb hL (by omega)]
    have hA : okA A := by
      obtain ⟨M, _, z⟩ := hM
      exact MI_A z
    have hN : 1 + 10 * j ≤ 1999990 := by omega
    have hN2 : 1 + 10 * j ≤ 1999900 := by omega
    obtain ⟨a1, h1, e1⟩ := iv_ex (ex E (5 * j + 1))
    have r1 : ∀ (G : Hp) (F : Int32 → Prop), qIA 8 E G (eb E) (iv ((5 * j : Nat) : Int) + iv 1) F = F (iv a1) := by
      intro G F
      rw [show iv ((5 * j : Nat) : Int) + iv 1 = iv ((5 * j + 1 : Nat) : Int) by rw [iv_add]; rfl, u_sc hb hL (by omega), e1]
    obtain ⟨a2, h2, e2⟩ := iv_ex (ex E (5 * j + 2))
    have r2 : ∀ (G : Hp) (F : Int32 → Prop), qIA 8 E G (eb E) (iv ((5 * j : Nat) : Int) + iv 2) F = F (iv a2) := by
      intro G F
      rw [show iv ((5 * j : Nat) : Int) + iv 2 = iv ((5 * j + 2 : Nat) : Int) by rw [iv_add]; rfl, u_sc hb hL (by omega), e2]
    obtain ⟨a3, h3, e3⟩ := iv_ex (ex E (5 * j + 3))
    have r3 : ∀ (G : Hp) (F : Int32 → Prop), qIA 8 E G (eb E) (iv ((5 * j : Nat) : Int) + iv 3) F = F (iv a3) := by
      intro G F
      rw [show iv ((5 * j : Nat) : Int) + iv 3 = iv ((5 * j + 3 : Nat) : Int) by rw [iv_add]; rfl, u_sc hb hL (by omega), e3]
    obtain ⟨a4, h4, e4⟩ := iv_ex (ex E (5 * j + 4))
    have r4 : ∀ (G : Hp) (F : Int32 → Prop), qIA 8 E G (eb E) (iv ((5 * j : Nat) : Int) + iv 4) F = F (iv a4) := by
      intro G F
      rw [show iv ((5 * j : Nat) : Int) + iv 4 = iv ((5 * j + 4 : Nat) : Int) by rw [iv_add]; rfl, u_sc hb hL (by omega), e4]
    have nx : ∀ (A' : As) (G2 : Hp), CI E G2 c A' (1 + 10 * j + 10) → MH E G2 m A' → (G2.1.length = G0.1.length ∧ G2.2 = G0.2) → Xr E 60 x_L_law 18 [some (.ref (eb E)), some (.ref c), some (.ref m), some (.int (iv ((5 * j : Nat) : Int) + iv 5))] [] G2 lawP := by
      intro A' G2 b1 b2 b3
      rw [show iv ((5 * j : Nat) : Int) + iv 5 = iv ((5 * (j + 1) : Nat) : Int) by rw [iv_add, show ((5 * j : Nat) : Int) + 5 = ((5 * (j + 1) : Nat) : Int) by omega]]
      exact ih (j + 1) G2 A' (by omega) (by omega) b1 b2 b3
    generalize iv ((5 * j : Nat) : Int) + iv 1 = i1 at r1
    generalize iv ((5 * j : Nat) : Int) + iv 2 = i2 at r2
    generalize iv ((5 * j : Nat) : Int) + iv 3 = i3 at r3
    generalize iv ((5 * j : Nat) : Int) + iv 4 = i4 at r4
    generalize iv ((5 * j : Nat) : Int) + iv 5 = i5 at nx
    generalize ((ex E (5 * j)) &&& iv 31).toInt = t
    by_cases c0 : t = 0
    · rw [if_pos c0]
      simp only [r1]
      exact core hcm hC hM hl (x_append (d := 58) hA hC h1) (fun G1 z => m_append (d := 58) h1 z) nx
    rw [if_neg c0]
    by_cases c1 : t = 1
    · rw [if_pos c1]
      exact core hcm hC hM hl (x_clearText (d := 58) hC) (fun G1 z => m_clearText (d := 59) z) nx
    rw [if_neg c1]
    by_cases c2 : t = 2
    · rw [if_pos c2]
      exact core hcm hC hM hl (x_errorPosition (d := 50) hE hC) (fun G1 z => m_errorPosition (d := 52) z) nx
    rw [if_neg c2]
    by_cases c3 : t = 3
    · rw [if_pos c3]
      exact core hcm hC hM hl (x_load (d := 50) hE hA hC) (fun G1 z => m_load (d := 52) z) nx
    rw [if_neg c3]
    by_cases c4 : t = 4
    · rw [if_pos c4]
      simp only [r1]
      exact core hcm hC hM hl (x_bodyLength (d := 58) hC h1) (fun G1 z => m_bodyLength (d := 57) h1 z) nx
    rw [if_neg c4]
    by_cases c5 : t = 5
    · rw [if_pos c5]
      simp only [r1, r2]
      exact core hcm hC hM hl (x_bodySymbol (d := 54) hE hF hA hC h1 h2) (fun G1 z => m_bodySymbol (d := 57) h1 h2 z) nx
    rw [if_neg c5]
    by_cases c6 : t = 6
    · rw [if_pos c6]
      simp only [r1, r2, r3]
      exact core hcm hC hM hl (x_transition (d := 58) hE hA hC h1 h2 h3) (fun G1 z => m_transition (d := 57) h1 h2 h3 z) nx
    rw [if_neg c6]
    by_cases c7 : t = 7
    · rw [if_pos c7]
      simp only [r1, r2]
      exact core hcm hC hM hl (x_hasTransition (d := 58) hA hC h1 h2) (fun G1 z => m_hasTransition (d := 57) h1 h2 z) nx
    rw [if_neg c7]
    by_cases c8 : t = 8
    · rw [if_pos c8]
      exact core hcm hC hM hl (x_reachable (d := 57) hC) (fun G1 z => m_reachable (d := 57) z) nx
    rw [if_neg c8]
    by_cases c9 : t = 9
    · rw [if_pos c9]
      simp only [r1]
      exact core hcm hC hM hl (x_setBody (d := 52) hE hA hC h1) (fun G1 z => m_setBody (d := 54) h1 z) nx
    rw [if_neg c9]
    by_cases c10 : t = 10
    · rw [if_pos c10]
      simp only [r1, r2, r3, r4]
      exact core hcm hC hM hl (x_setTransition (d := 55) hE hA hC h1 h2 h3 h4) (fun G1 z => m_setTransition (d := 57) h1 h2 h3 h4 z) nx
    rw [if_neg c10]
    by_cases c11 : t = 11
    · rw [if_pos c11]
      simp only [r1, r2]
      exact core hcm hC hM hl (x_removeTransition (d := 55) hA hC h1 h2) (fun G1 z => m_removeTransition (d := 57) h1 h2 z) nx
    rw [if_neg c11]
    by_cases c12 : t = 12
    · rw [if_pos c12]
      simp only [r1, r2]
      exact core hcm hC hM hl (x_inline (d := 55) hE hA hC h1 h2) (fun G1 z => m_inline (d := 54) h1 h2 z) nx
    rw [if_neg c12]
    by_cases c13 : t = 13
    · rw [if_pos c13]
      exact core hcm hC hM hl (x_exchange (d := 55) hC) (fun G1 z => m_exchange (d := 58) z) nx
    rw [if_neg c13]
    by_cases c14 : t = 14
    · rw [if_pos c14]
      exact core hcm hC hM hl (x_undo (d := 55) hA hC) (fun G1 z => m_undo (d := 59) z) nx
    rw [if_neg c14]
    by_cases c15 : t = 15
    · rw [if_pos c15]
      simp only [r1]
      exact core hcm hC hM hl (x_labelAt (d := 46) hE hF hA hN hC h1) (fun G1 z => m_labelAt (d := 51) h1 z) nx
    rw [if_neg c15]
    by_cases c16 : t = 16
    · rw [if_pos c16]
      simp only [r1]
      exact core hcm hC hM hl (x_expansionsAt (d := 46) hE hA hN hC h1) (fun G1 z => m_expansionsAt (d := 51) h1 z) nx
    rw [if_neg c16]
    by_cases c17 : t = 17
    · rw [if_pos c17]
      simp only [r1]
      exact core hcm hC hM hl (x_stateAt (d := 46) hE hA hN hC h1) (fun G1 z => m_stateAt (d := 51) h1 z) nx
    rw [if_neg c17]
    by_cases c18 : t = 18
    · rw [if_pos c18]
      simp only [r1]
      exact core hcm hC hM hl (x_nodesAtDepth (d := 46) hE hA hN hC h1) (fun G1 z => m_nodesAtDepth (d := 50) h1 z) nx
    rw [if_neg c18]
    by_cases c19 : t = 19
    · rw [if_pos c19]
      simp only [r1]
      exact core hcm hC hM hl (x_wrongBranch (d := 46) hE hA hN hC h1) (fun G1 z => m_wrongBranch (d := 51) h1 z) nx
    rw [if_neg c19]
    by_cases c20 : t = 20
    · rw [if_pos c20]
      exact core hcm hC hM hl (x_accepts (d := 54) hE hA hN hC) (fun G1 z => m_accepts (d := 51) z) nx
    rw [if_neg c20]
    by_cases c21 : t = 21
    · rw [if_pos c21]
      exact core hcm hC hM hl (x_rounds (d := 54) hE hA hN hC) (fun G1 z => m_rounds (d := 52) z) nx
    rw [if_neg c21]
    by_cases c22 : t = 22
    · rw [if_pos c22]
      simp only [r1]
      exact core hcm hC hM hl (x_typingCount (d := 54) hE hA hN hC h1) (fun G1 z => m_typingCount (d := 51) h1 z) nx
    rw [if_neg c22]
    by_cases c23 : t = 23
    · rw [if_pos c23]
      simp only [r1, r2, r3, r4]
      exact core hcm hC hM hl (x_isValid (d := 54) hE hA hN hC h1 h2 h3 h4) (fun G1 z => m_isValid (d := 52) h1 h2 h3 h4 z) nx
    rw [if_neg c23]
    by_cases c24 : t = 24
    · rw [if_pos c24]
      simp only [r1, r2, r3]
      exact core hcm hC hM hl (x_demand (d := 54) hE hA hN hC h1 h2 h3) (fun G1 z => m_demand (d := 52) h1 h2 h3 z) nx
    rw [if_neg c24]
    by_cases c25 : t = 25
    · rw [if_pos c25]
      simp only [r1, r2, r3]
      exact core hcm hC hM hl (x_runScript (d := 45) hE hA hN2 hC h1) (fun G1 z => m_runScript (d := 49) h1 z) nx
    rw [if_neg c25]
    by_cases c26 : t = 26
    · rw [if_pos c26]
      simp only [r1, r2, r3]
      exact core hcm hC hM hl (x_descend (d := 46) hE hA hN hC h3) (fun G1 z => m_descend (d := 52) h3 z) nx
    rw [if_neg c26]
    by_cases c27 : t = 27
    · rw [if_pos c27]
      simp only [r1]
      exact core hcm hC hM hl (x_save (d := 56) hA hC h1) (fun G1 z => m_save (d := 58) h1 z) nx
    rw [if_neg c27]
    by_cases c28 : t = 28
    · rw [if_pos c28]
      simp only [r1]
      exact core hcm hC hM hl (x_restore (d := 56) hA hC h1) (fun G1 z => m_restore (d := 58) h1 z) nx
    rw [if_neg c28]
    exact nx A G (CI_m hC (by omega)) hM hl
theorem AB_k {E : Ev} {G G1 : Hp} {a N : Nat} {l : Nat → Nat} (h : AB E G a N l) (k : gt E G1 a = gt E G a) : AB E G1 a N l := by
  obtain ⟨f, b, c⟩ := h
  exact ⟨f, k.trans b, c⟩
theorem TcO_k {E : Ev} {G G1 : Hp} {c s : Nat} {rm se : Int} (h : TcO E G c s rm se) (k : ∀ a, c ≤ a → a < c + 16 → gt E G1 a = gt E G a) : TcO E G1 c s rm se := by
  obtain ⟨h1, ⟨g, h2, h3⟩, ⟨g', h4, h5⟩⟩ := h
  exact ⟨(k _ (by omega) (by omega)).trans h1, ⟨g, (k _ (by omega) (by omega)).trans h2, h3⟩, ⟨g', (k _ (by omega) (by omega)).trans h4, h5⟩⟩
theorem TcJ_k {E : Ev} {G G1 : Hp} {c : Nat} (h : TcJ E G c) (k : ∀ a, c ≤ a → a < c + 16 → gt E G1 a = gt E G a) : TcJ E G1 c := by
  obtain ⟨h1, ⟨f, h2⟩⟩ := h
  exact ⟨fun j hj => AB_k (h1 j hj) (k _ (by omega) (by omega)), ⟨f, (k _ (by omega) (by omega)).trans h2⟩⟩
theorem Yok_k {E : Ev} {G G1 : Hp} {c s ed : Nat} {S : Sc} (h : Yok E G c s S ed) (k : ∀ a, c ≤ a → a < c + 16 → gt E G1 a = gt E G a) : Yok E G1 c s S ed := by
  rcases h with ⟨h1, h2, h3, h4⟩ | ⟨se, rm, ⟨h1, h2, h3⟩, h4⟩
  · exact Or.inl ⟨TcO_k h1 k, fun t ht => AB_k (h2 t ht) (k _ (by omega) (by omega)), fun t ht => AB_k (h3 t ht) (k _ (by omega) (by omega)), TcJ_k h4 k⟩
  · exact Or.inr ⟨se, rm, ⟨TcO_k h1 k, fun t ht => AB_k (h2 t ht) (k _ (by omega) (by omega)), TcJ_k h3 k⟩, h4⟩
theorem Tok_k {E : Ev} {G G1 : Hp} {t s ed : Nat} {S : Sc} (h : Tok E G t s S ed) (k : ∀ a, t ≤ a → a < t + 21 → gt E G1 a = gt E G a) : Tok E G1 t s S ed := by
  rcases h with ⟨x0, h⟩ | ⟨se, L, f, h1, h2⟩
  · exact Or.inl ⟨x0, TrP_k h k⟩
  · exact Or.inr ⟨se, L, f, TrP_k h1 k, h2⟩
theorem CI_k {E : Ev} {G G1 : Hp} {c n : Nat} {A : As} (h : CI E G c A n) (k : ∀ a, c ≤ a → a < c + 290 → gt E G1 a = gt E G a) : CI E G1 c A n := by
  obtain ⟨h0, ⟨p, h1⟩, ⟨w, ed, g1, g2, g3, g4⟩, h4, ⟨⟨g, i1, i2⟩, i3, ⟨f, i4, i5⟩⟩, ⟨⟨Sd, e6, j1⟩, ⟨zs, j2⟩⟩, ⟨T, e7, l1, l2, l3⟩⟩ := h
  refine ⟨(k _ (by omega) (by omega)).trans h0, ⟨p, Tx_k h1 (fun a x y => k a (by omega) (by omega))⟩, ⟨w, ed, g1, Sx_k g2 (fun a x y => k a (by omega) (by omega)), Tok_k g3 (fun a x y => k a (by omega) (by omega)), Yok_k g4 (fun a x y => k a (by omega) (by omega))⟩, Hi_k h4 (fun a x y => k a (by omega) (by omega)), ⟨⟨g, (k _ (by omega) (by omega)).trans i1, i2⟩, fun i hi => ?_, ⟨f, (k _ (by omega) (by omega)).trans i4, i5⟩⟩, ⟨⟨Sd, e6, Sx_k j1 (fun a x y => k a (by omega) (by omega))⟩, ⟨zs, Tm_k j2 (fun a x y => k a (by omega) (by omega))⟩⟩, ⟨T, e7, l1, Sx_k l2 (fun a x y => k a (by omega) (by omega)), Yok_k l3 (fun a x y => k a (by omega) (by omega))⟩⟩
  obtain ⟨e, he⟩ := i3 i hi
  exact ⟨e, Sx_k he (fun a x y => k a (by omega) (by omega))⟩
theorem law_ok : ∀ E, envOK E → lawOK E := by
  intro E hK
  show Xr E 60 x_L_law 0 [some (.ref (eb E)), none, none, none] [] ([], 0) lawP
  refine g_L_law_0 ?_
  have h0 : gt E (psh ([], 0) (cO 6 (fDf 6)) (fSz 6)) (nxA E ([], 0)) = some (cO 6 [.null, .null, .null, .null, .null, .null, .null, .null, .null, .null, .null]) := gt_psh_self
  refine u_V (i_class (d := 55) h0 nxA_psh) ?_
  rintro v G1 ⟨rfl, a1, a2, a3⟩
  refine ⟨rfl, ?_⟩
  generalize hc : nxA E ([], 0) = c at *
  have h1 : gt E (psh G1 (cO 7 (fDf 7)) (fSz 7)) (c + 290) = some (cO 7 (fDf 7)) := by rw [← a2]; exact gt_psh_self
  rw [a2]
  refine u_V (i_model (d := 58) h1 (by rw [nxA_psh, a2])) ?_
  rintro v G2 ⟨rfl, b1, b2, b3, b4⟩
  refine ⟨rfl, ?_⟩
  have hC : CI E G2 c A0 1 := CI_k a1 (fun a x y => by rw [b4 a y, gt_psh (by omega)])
  have hs1 : G1.2 ≤ 8011 := a3
  have hs2 : G2.2 ≤ G1.2 + 20 + 5000 := b3
  have hlen : G2.1.length ≤ 303 := by
    have hc' : eB E + 0 = c := hc
    have b2' : eB E + G2.1.length = c + 290 + 13 := b2
    omega
  have hL := hK.1
  exact c_law18 hK (G0 := G2) ⟨by omega, by omega⟩ rfl 513 0 G2 A0 (by omega) (by omega) hC b1 ⟨rfl, rfl⟩
