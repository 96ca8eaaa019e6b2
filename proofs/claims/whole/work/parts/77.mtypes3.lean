-- uses 41 42 43 44 45 46 47 48 49 50 51 52 53 54 55 56 57 58 59 60 69 70 72 75 76
/-! the reference's types: bodies -/
section MTB
variable {E : Ev} {d : Nat} {G : Hp} {P : Po} {m : Nat} {T : Tb} {S : Sc}
theorem chr120 : ∀ y : Fin 10, (iv (chr y.val : Nat) < iv 120 ↔ y.val < 8) ∧ (iv (chr y.val : Nat) = iv 120 ↔ y.val = 8) ∧ sy (chr y.val) = y.val ∧ chr y.val ≤ 255 := by decide +kernel
theorem p_arg {y a1 a2 : Nat} (hy : 4 ≤ y) (h8 : y < 8) (h1 : a1 < 8) (h2 : a2 < 8) (z1 : ar y < 1 → a1 = 0) (z2 : ar y < 2 → a2 = 0) : a1 < p1 (y - 4) ∧ a2 < p2 (y - 4) := by
  unfold p1 p2
  rw [show 4 + (y - 4) = y by omega]
  constructor
  · split
    · exact h1
    · have := z1 (by omega); omega
  · split
    · exact h2
    · have := z2 (by omega); omega
theorem c_mbtL {bb : Bool} {n s1 s2 : Nat} {xs : List Nat} {z5 : Int32} (hT8 : T8 T) (hmo : mon T) (h1 : s1 < 8) (h2 : s2 < 8) (hx : okB n xs) : ∀ (r : Nat) (G1 : Hp) (M : Md) (l7 l8 l9 l10 : Option Value), r ≤ xs.length → Mo E G1 m M → okR M bb S → VaM M T → (∀ i, i < xs.length → M.bu i = iv (chr (xs.getD i 0) : Nat)) → (∀ j, r ≤ j → j < xs.length → M.ma j = iv ((tyS (smT S T (s1 + 8 * s2)) (xs.drop j)).getD 0 0 : Nat)) → sam E G G1 (ivl m 13) → (∀ G2 ma', Mo E G2 m (Md.mk M.len M.acts M.nxt M.ts M.bs M.lab M.xp M.sta M.tx M.nw M.tr M.rd M.di M.ke M.ik M.te M.bu M.va M.ju ma') → sam E G G2 (ivl m 13) → P (some (.int (iv ((tyS (smT S T (s1 + 8 * s2)) xs).getD 0 0 : Nat)))) G2) → Xr E (d + 4) x_X7_bodyTypes 48 [some (.ref m), some (.ref (rA m bb)), some (.int (iv (n : Int))), some (.int (iv (s1 : Int))), some (.int (iv (s2 : Int))), some (.int z5), some (.int (iv ((r : Int) - 1))), l7, l8, l9, l10] [] G1 P := by
  intro r
  have hse : s1 + 8 * s2 < 64 := by omega
  have hsm : ∀ y a b, smT S T (s1 + 8 * s2) y a b < 8 := fun y a b => smT_lt hT8 hse
  have hwf : ∀ r, r ≤ xs.length → ∃ o, wfo o (xs.drop r) := by
    intro r hr
    have := hx.2.1
    rw [← List.take_append_drop r xs] at this
    obtain ⟨o, h1, h2⟩ := wfo_ctx _ _ _ this
    exact ⟨o, h1⟩
  have hpos : 0 < xs.length := by
    have := hx.2.1
    cases xs with
    | nil => exact this.elim
    | cons x xs => simp
  have hl30 := hx.1
  induction r with
  | zero =>
    intro G1 M l7 l8 l9 l10 hr hm hR hV hb hma hs hP
    refine g_X7_bodyTypes_48 ?_
    rw [if_pos (by decide), Mo_ma hm, show iv 0 = iv ((0 : Nat) : Int) from rfl, Mg_ma hm (by decide), hma 0 (by omega) hpos, List.drop_zero]
    exact hP G1 M.ma hm hs
  | succ r ih =>
    intro G1 M l7 l8 l9 l10 hr hm hR hV hb hma hs hP
    have hrl : r < xs.length := by omega
    have hy := hx.2.2 r hrl
    have hy10 := hy.1
    have ha := ar_le (xs.getD r 0)
    obtain ⟨o, hw⟩ := hwf r (by omega)
    rw [dropC hrl] at hw
    cases o with
    | zero => exact hw.elim
    | succ o =>
    have hw2 : wfo (o + ar (xs.getD r 0)) (xs.drop (r + 1)) := hw
    have hlen := tyS_len (f := smT S T (s1 + 8 * s2)) _ _ hw2
    have e1 : tyS (smT S T (s1 + 8 * s2)) (xs.drop r) = smT S T (s1 + 8 * s2) (xs.getD r 0) (if 1 ≤ ar (xs.getD r 0) then (tyS (smT S T (s1 + 8 * s2)) (xs.drop (r + 1))).getD 0 0 else 0) (if 2 ≤ ar (xs.getD r 0) then (tyS (smT S T (s1 + 8 * s2)) (xs.drop (r + 1))).getD 1 0 else 0) :: (tyS (smT S T (s1 + 8 * s2)) (xs.drop (r + 1))).drop (ar (xs.getD r 0)) := by
      rw [dropC hrl]
      rfl
    have g8 := fun i => tyS_g hsm (xs.drop (r + 1)) i
    have cy := chr120 ⟨xs.getD r 0, hy10⟩
    dsimp only [Sc_b, Sc_u, Sc_v, Md_len, Md_acts, Md_nxt, Md_ts, Md_bs, Md_lab, Md_xp, Md_sta, Md_tx, Md_nw, Md_tr, Md_rd, Md_di, Md_ke, Md_ik, Md_te, Md_bu, Md_va, Md_ju, Md_ma] at cy
    refine g_X7_bodyTypes_48 ?_
    rw [show ((r + 1 : Nat) : Int) - 1 = ((r : Nat) : Int) by omega, if_neg (show ¬ iv ((r : Nat) : Int) < 0 by rw [iv_lt0 (by constructor <;> omega)]; omega), Mo_bu hm, Mg_bu hm (by omega), hb r hrl, v_I (fun P => c_wants (d := d + 1) (P := P) cy.2.2.2), cy.2.2.1, show (if xs.getD r 0 = 10 then (-9 : Int) else ((ar (xs.getD r 0) : Nat) : Int)) = ((ar (xs.getD r 0) : Nat) : Int) from if_neg (by omega)]
    -- the value is put
    have put : ∀ (a1 a2 : Nat) (l7 l8 l9 l10 : Option Value), a1 = (if 1 ≤ ar (xs.getD r 0) then (tyS (smT S T (s1 + 8 * s2)) (xs.drop (r + 1))).getD 0 0 else 0) → a2 = (if 2 ≤ ar (xs.getD r 0) then (tyS (smT S T (s1 + 8 * s2)) (xs.drop (r + 1))).getD 1 0 else 0) →
        (if iv ((chr (xs.getD r 0) : Nat) : Int) < iv 120 then (qCI E (d + 4) i_X7_terminal [.int (iv ((chr (xs.getD r 0) : Nat) : Int))] G1 fun v8 G7 => (if v8 = iv (-9) then (qFR E G7 m 7 19 fun v9 => (qCI E (d + 4) i_X7_nonterminal [.int (iv ((chr (xs.getD r 0) : Nat) : Int))] G7 fun v11 G10 => (rcv E G10 m 7 = true ∧ (qCI E (d + 4) i_X7_appliedTypes [.ref m, .int v11, .int (iv (a1 : Int)), .int (iv (a2 : Int))] G10 fun v13 G12 => (qIS E G12 v9 (iv (r : Int)) v13 fun G14 => Xr E (d + 4) x_X7_bodyTypes 48 [some (.ref m), some (.ref (rA m bb)), some (.int (iv (n : Int))), some (.int (iv (s1 : Int))), some (.int (iv (s2 : Int))), some (.int z5), some (.int (iv (r : Int) + iv (-1))), l7, l8, l9, l10] [] G14 P))))) else (qFR E G7 m 7 19 fun v15 => (qCI E (d + 4) i_X7_terminal [.int (iv ((chr (xs.getD r 0) : Nat) : Int))] G7 fun v17 G16 => (rcv E G16 m 7 = true ∧ (qCI E (d + 4) i_X7_terminalTypes [.ref m, .ref (rA m bb), .int v17, .int (iv (a1 : Int)), .int (iv (a2 : Int))] G16 fun v19 G18 => (qIS E G18 v15 (iv (r : Int)) v19 fun G20 => Xr E (d + 4) x_X7_bodyTypes 48 [some (.ref m), some (.ref (rA m bb)), some (.int (iv (n : Int))), some (.int (iv (s1 : Int))), some (.int (iv (s2 : Int))), some (.int z5), some (.int (iv (r : Int) + iv (-1))), l7, l8, l9, l10] [] G20 P))))))) else (qFR E G1 m 7 19 fun v21 => (if ¬ iv ((chr (xs.getD r 0) : Nat) : Int) = iv 120 then (qIS E G1 v21 (iv (r : Int)) (iv (s2 : Int)) fun G22 => Xr E (d + 4) x_X7_bodyTypes 48 [some (.ref m), some (.ref (rA m bb)), some (.int (iv (n : Int))), some (.int (iv (s1 : Int))), some (.int (iv (s2 : Int))), some (.int z5), some (.int (iv (r : Int) + iv (-1))), l7, l8, l9, l10] [] G22 P) else (qIS E G1 v21 (iv (r : Int)) (iv (s1 : Int)) fun G23 => Xr E (d + 4) x_X7_bodyTypes 48 [some (.ref m), some (.ref (rA m bb)), some (.int (iv (n : Int))), some (.int (iv (s1 : Int))), some (.int (iv (s2 : Int))), some (.int z5), some (.int (iv (r : Int) + iv (-1))), l7, l8, l9, l10] [] G23 P)))) := by
      intro a1 a2 l7 l8 l9 l10 q1 q2
      have ha1 : a1 < 8 := by
        rw [q1]
        split
        · exact g8 0
        · decide
      have ha2 : a2 < 8 := by
        rw [q2]
        split
        · exact g8 1
        · decide
      -- what follows the store
      have nx : ∀ (v : Nat), v = smT S T (s1 + 8 * s2) (xs.getD r 0) a1 a2 → qIS E G1 (m + 12) (iv (r : Int)) (iv (v : Int)) (fun G14 => Xr E (d + 4) x_X7_bodyTypes 48 [some (.ref m), some (.ref (rA m bb)), some (.int (iv (n : Int))), some (.int (iv (s1 : Int))), some (.int (iv (s2 : Int))), some (.int z5), some (.int (iv (r : Int) + iv (-1))), l7, l8, l9, l10] [] G14 P) := by
        intro v hv
        refine Ms_ma hm (by omega) ?_
        intro G2 b1 b2
        rw [show iv (r : Int) + iv (-1) = iv ((r : Int) - 1) by rw [iv_add]; rfl]
        refine ih G2 _ _ _ _ _ (by omega) b1 hR hV hb ?_ (sam_tr hs b2) ?_
        · intro j hj1 hj2
          show upd M.ma r _ j = _
          unfold upd
          by_cases z : j = r
          · rw [if_pos z, z, e1, hv, q1, q2]
            rfl
          · rw [if_neg z]
            exact hma j (by omega) hj2
        · intro G3 ma' d1 d2
          exact hP G3 ma' d1 d2
      simp only [cy.1, cy.2.1]
      by_cases c8 : xs.getD r 0 < 8
      · rw [if_pos c8, v_I (fun P => c_teS (d := d + 2) (P := P) cy.2.2.2), cy.2.2.1]
        by_cases c4 : xs.getD r 0 < 4
        · rw [if_pos c4]
          simp (disch := first | assumption | omega | decide) only [iv_eq]
          rw [if_neg (by omega), Mo_ma hm, v_I (fun P => c_teS (d := d + 2) (P := P) cy.2.2.2), cy.2.2.1, if_pos c4, Mo_rc hm]
          refine ⟨trivial, ?_⟩
          rw [v_I (fun P => c_mTerminalTypes (d := d + 2) (P := P) hm hR c4 ha1 ha2)]
          refine nx _ ?_
          unfold smT
          rw [if_neg (by omega), if_neg (by omega), if_pos c4]
        · rw [if_neg c4]
          simp only [if_true]
          have pa := p_arg (y := xs.getD r 0) (by omega) c8 ha1 ha2 (fun z => by rw [q1, if_neg (by omega)]) (fun z => by rw [q2, if_neg (by omega)])
          rw [Mo_ma hm, v_I (fun P => c_ntS (d := d + 2) (P := P) cy.2.2.2), cy.2.2.1, if_pos (by omega), Mo_rc hm]
          refine ⟨trivial, ?_⟩
          rw [v_I (fun P => c_appliedTypes (d := d + 2) (P := P) hT8 hmo hm hV (show xs.getD r 0 - 4 < 4 by omega) pa.1 pa.2)]
          refine nx _ ?_
          unfold smT
          rw [if_neg (by omega), if_neg (by omega), if_neg c4]
      · rw [if_neg c8, Mo_ma hm]
        by_cases c9 : xs.getD r 0 = 8
        · rw [if_neg (fun z => z c9)]
          refine nx _ ?_
          unfold smT
          rw [if_pos c9]
          omega
        · rw [if_pos c9]
          refine nx _ ?_
          unfold smT
          rw [if_neg c9, if_pos (by omega)]
          omega
    have l0 : (iv ((ar (xs.getD r 0) : Nat) : Int) ≤ 0) = (((ar (xs.getD r 0) : Nat) : Int) ≤ 0) := iv_le0 (by constructor <;> omega)
    have l1 : (iv ((ar (xs.getD r 0) : Nat) : Int) ≤ iv 1) = (((ar (xs.getD r 0) : Nat) : Int) ≤ 1) := iv_le (by constructor <;> omega) (by decide)
    rcases (by omega : ar (xs.getD r 0) = 0 ∨ ar (xs.getD r 0) = 1 ∨ ar (xs.getD r 0) = 2) with q | q | q
    · rw [if_pos (by rw [l0]; omega), if_pos (by rw [l1]; omega)]
      exact put 0 0 _ _ _ _ (by rw [if_neg (by omega)]) (by rw [if_neg (by omega)])
    · have hr1 : r + 1 < xs.length := by
        rcases Nat.lt_or_ge (r + 1) xs.length with z | z
        · exact z
        · rw [List.drop_eq_nil_of_le z, q] at hw2
          exact hw2.elim
      rw [if_neg (by rw [l0]; omega), Mo_ma hm, i_s, Mg_ma hm (by omega), hma (r + 1) (by omega) hr1, if_pos (by rw [l1]; omega)]
      exact put ((tyS (smT S T (s1 + 8 * s2)) (xs.drop (r + 1))).getD 0 0) 0 _ _ _ _ (by rw [if_pos (by omega)]) (by rw [if_neg (by omega)])
    · have hr1 : r + 1 < xs.length := by
        rcases Nat.lt_or_ge (r + 1) xs.length with z | z
        · exact z
        · rw [List.drop_eq_nil_of_le z, q] at hw2
          exact hw2.elim
      rw [q, show o + 2 = 1 + (o + 1) by omega] at hw2
      obtain ⟨a, b, ee, w1, w2⟩ := wfo_spl _ _ _ hw2
      have el : eol 1 (xs.drop (r + 1)) = a.length := by rw [ee]; exact (eol_app a b 1 w1).1
      have hcp : cpl 1 (xs.drop (r + 1)) := by rw [ee]; exact (eol_app a b 1 w1).2
      have edr : xs.drop (r + 1 + a.length) = b := by rw [← List.drop_drop, ee, List.drop_left]
      have hbpos : 0 < b.length := by
        cases b with
        | nil => exact w2.elim
        | cons x b => simp
      have hll : xs.length - (r + 1) = a.length + b.length := by rw [← List.length_drop, ee, List.length_append]
      have e5 : (tyS (smT S T (s1 + 8 * s2)) (xs.drop (r + 1))).getD 1 0 = (tyS (smT S T (s1 + 8 * s2)) b).getD 0 0 := by
        rw [ee, tyS_app a b 1 w1, gD_r (by rw [tyS_len a 1 w1]; exact Nat.le_refl _), tyS_len a 1 w1]
      rw [if_neg (by rw [l0]; omega), Mo_ma hm, i_s, Mg_ma hm (by omega), hma (r + 1) (by omega) hr1, if_neg (by rw [l1]; omega), Mo_ma hm, Mo_bu hm, v_I (fun P => c_mEndOf (d := d) (P := P) (Ma_bu hm) (by omega) hb (fun i hi => (hx.2.2 i hi).1) (by omega) hcp), el, Mg_ma hm (by omega), hma (r + 1 + a.length) (by omega) (by omega), edr, ← e5]
      exact put _ _ _ _ _ _ (by rw [if_pos (by omega)]) (by rw [if_pos (by omega)])
theorem c_mbcL {bb : Bool} {n s1 s2 : Nat} {xs : List Nat} (hT8 : T8 T) (hmo : mon T) (hn : n < 4) (h1 : s1 < 8) (h2 : s2 < 8) (hx : okB n xs) : ∀ (k i : Nat) (G1 : Hp) (M : Md), i + k = xs.length → Mo E G1 m M → okR M bb S → S.b n = xs → VaM M T → (∀ j, j < i → M.bu j = iv (chr (xs.getD j 0) : Nat)) → sam E G G1 (ivl m 13) → (∀ G2 (bu' ma' : Nat → Int32), Mo E G2 m (Md.mk M.len M.acts M.nxt M.ts M.bs M.lab M.xp M.sta M.tx M.nw M.tr M.rd M.di M.ke M.ik M.te bu' M.va M.ju ma') → sam E G G2 (ivl m 13) → P (some (.int (iv ((tyS (smT S T (s1 + 8 * s2)) xs).getD 0 0 : Nat)))) G2) → Xr E (d + 4) x_X7_bodyTypes 11 [some (.ref m), some (.ref (rA m bb)), some (.int (iv (n : Int))), some (.int (iv (s1 : Int))), some (.int (iv (s2 : Int))), some (.int (iv (xs.length : Int))), some (.int (iv (i : Int))), none, none, none, none] [] G1 P := by
  intro k
  have hl30 := hx.1
  induction k with
  | zero =>
    intro i G1 M hi hm hR hSb hV hb hs hP
    refine g_X7_bodyTypes_11 ?_
    simp (disch := first | assumption | omega | decide) only [iv_le]
    rw [if_pos (by omega), iv_sub]
    exact c_mbtL (G := G) hT8 hmo h1 h2 hx xs.length G1 M none none none none (Nat.le_refl _) hm hR hV (fun j hj => hb j (by omega)) (fun j h1 h2 => by omega) hs (fun G2 ma' d1 d2 => hP G2 M.bu ma' d1 d2)
  | succ k ih =>
    intro i G1 M hi hm hR hSb hV hb hs hP
    refine g_X7_bodyTypes_11 ?_
    simp (disch := first | assumption | omega | decide) only [iv_le]
    have hrow := hR.1.1 n hn
    rw [hSb] at hrow
    rw [if_neg (by omega), Mo_bu hm, show iv 31 * iv (n : Int) + iv 1 + iv (i : Int) = iv ((31 * n + 1 + i : Nat) : Int) by rw [iv_mul, iv_add, iv_add]; rfl, u_IAn (Ma_row hm) (by omega), hrow.2 i (by omega), i_s]
    refine Ms_bu hm (by omega) ?_
    intro G2 a1 a2
    refine ih (i + 1) G2 _ (by omega) a1 hR hSb hV ?_ (sam_tr hs a2) ?_
    · intro j hj
      show upd M.bu i _ j = _
      unfold upd
      by_cases z : j = i
      · rw [if_pos z, z]
      · rw [if_neg z]
        exact hb j (by omega)
    · intro G3 bu' ma' d1 d2
      exact hP G3 bu' ma' d1 d2
theorem c_mBodyTypes {bb : Bool} {n s1 s2 : Nat} {M : Md} (hT8 : T8 T) (hmo : mon T) (hn : n < 4) (h1 : s1 < 8) (h2 : s2 < 8) (hm : Mo E G m M) (hR : okR M bb S) (hV : VaM M T) : runs E (d + 5) i_X7_bodyTypes [.ref m, .ref (rA m bb), .int (iv (n : Int)), .int (iv (s1 : Int)), .int (iv (s2 : Int))] G (fun v G1 => v = some (.int (iv (bodyT S T n (s1 + 8 * s2) : Nat))) ∧ (∃ bu' ma' : Nat → Int32, Mo E G1 m (Md.mk M.len M.acts M.nxt M.ts M.bs M.lab M.xp M.sta M.tx M.nw M.tr M.rd M.di M.ke M.ik M.te bu' M.va M.ju ma')) ∧ sam E G G1 (ivl m 13)) := by
  refine e_X7_bodyTypes ?_
  have hrow := hR.1.1 n hn
  have hb := hR.2.1 n hn
  rw [show iv 31 * iv (n : Int) = iv ((31 * n : Nat) : Int) from nmul (a := 31), u_IAn (Ma_row hm) (by omega), hrow.1]
  exact c_mbcL (G := G) hT8 hmo hn h1 h2 hb (S.b n).length 0 G M (by omega) hm hR rfl hV (fun j hj => absurd hj (Nat.not_lt_zero _)) sam_rf (fun G2 bu' ma' d1 d2 => ⟨rfl, ⟨bu', ma', d1⟩, d2⟩)
end MTB
