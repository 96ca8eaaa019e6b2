-- uses 41 42 43 44 45 46 47 48 49 50 51 52 53 54 55 56 57 58 59 60 69 70 75
/-! the reference's types: terminals, bodies -/
section MTZ
variable {E : Ev} {d : Nat} {G : Hp} {P : Po} {m : Nat} {M : Md} {T : Tb} {S : Sc}
theorem c_mttL {bb : Bool} (hm : Mo E G m M) (hR : okR M bb S) {t a1 a2 : Nat} (ht : t < 4) (h1 : a1 < 8) (h2 : a2 < 8) : ∀ (r q : Nat) (l7 l8 : Option Value), q + r = 3 → P (some (.int (iv (tmT S t a1 a2 : Nat)))) G → Xr E (d + 1) x_X7_terminalTypes 6 [some (.ref m), some (.ref (rA m bb)), some (.int (iv (t : Int))), some (.int (iv (a1 : Int))), some (.int (iv (a2 : Int))), some (.int (iv (tmK S t a1 a2 q : Nat))), some (.int (iv (q : Int))), l7, l8] [] G P := by
  intro r
  have ha := ar_le t
  induction r with
  | zero =>
    intro q l7 l8 hq hP
    have : q = 3 := by omega
    subst this
    refine g_X7_terminalTypes_6 ?_
    rw [if_pos (by decide)]
    exact hP
  | succ r ih =>
    intro q l7 l8 hq hP
    have hq3 : q < 3 := by omega
    have hk12 : 4 * q + t < 12 := by omega
    have hrow := hR.1.2 (4 * q + t) hk12
    have nx := fun l7 l8 => ih (q + 1) l7 l8 (by omega) hP
    have e1 : tmK S t a1 a2 (q + 1) = tmK S t a1 a2 q ||| bq (tmQ S t a1 a2 q) q := rfl
    rw [e1] at nx
    have hx8 := tmK_lt (S := S) (t := t) (a1 := a1) (a2 := a2) q (by omega)
    have no : ∀ l7 x8, tmQ S t a1 a2 q = false → Xr E (d + 1) x_X7_terminalTypes 101 [some (.ref m), some (.ref (rA m bb)), some (.int (iv (t : Int))), some (.int (iv (a1 : Int))), some (.int (iv (a2 : Int))), some (.int (iv (tmK S t a1 a2 q : Nat))), some (.int (iv (q : Int))), some (.int l7), some (.int x8)] [] G P := by
      intro l7 x8 hh
      refine g_X7_terminalTypes_101 ?_
      rw [hh] at nx
      have h0 : iv ((tmK S t a1 a2 q : Nat) : Int) ||| iv 0 = iv ((tmK S t a1 a2 q ||| bq false q : Nat) : Int) := iv_or _ 0
      rw [if_pos (by decide), i_s, h0]
      exact nx _ _
    have yes : ∀ l7 x8, tmQ S t a1 a2 q = true → Xr E (d + 1) x_X7_terminalTypes 97 [some (.ref m), some (.ref (rA m bb)), some (.int (iv (t : Int))), some (.int (iv (a1 : Int))), some (.int (iv (a2 : Int))), some (.int (iv (tmK S t a1 a2 q : Nat))), some (.int (iv (q : Int))), some (.int l7), some (.int x8)] [] G P := by
      intro l7 x8 hh
      refine g_X7_terminalTypes_97 ?_
      rw [hh] at nx
      have h1 := tm_one (b := true) hx8 hq3
      rw [if_pos rfl] at h1
      rw [if_neg (by decide), i_s, h1]
      exact nx _ _
    have hno : ∀ l7 x8, tmQ S t a1 a2 q = false → Xr E (d + 1) x_X7_terminalTypes 66 [some (.ref m), some (.ref (rA m bb)), some (.int (iv (t : Int))), some (.int (iv (a1 : Int))), some (.int (iv (a2 : Int))), some (.int (iv (tmK S t a1 a2 q : Nat))), some (.int (iv (q : Int))), some (.int l7), some (.int x8)] [] G P := by
      intro l7 x8 hh
      refine g_X7_terminalTypes_66 ?_
      rw [if_pos (by decide)]
      exact no _ _ hh
    refine g_X7_terminalTypes_6 ?_
    simp (disch := first | assumption | omega | decide) only [iv_le]
    rw [if_neg (by omega), v_I (fun P => c_stepAt (d := d) (P := P)), u_IAn (Ma_row hm) (by omega), hrow.1]
    by_cases cu : S.u (4 * q + t) = -1
    · rw [if_pos cu, if_pos (by decide), if_pos (by decide)]
      exact hno _ _ (by unfold tmQ; simp [cu])
    · have hv : (0 ≤ S.u (4 * q + t) ∧ S.u (4 * q + t) < 3) ∧ (0 ≤ S.v (4 * q + t) ∧ S.v (4 * q + t) < 3) := by
        rcases hR.2.2 (4 * q + t) hk12 with z | z
        · exact absurd z.1 cu
        · exact z
      obtain ⟨uu, hu⟩ := Int.eq_ofNat_of_zero_le hv.1.1
      obtain ⟨vv, hvv⟩ := Int.eq_ofNat_of_zero_le hv.2.1
      have hr2 := hrow.2 cu
      rw [hu] at hr2
      have eQ : tmQ S t a1 a2 q = ((decide (ar t < 1) || a1.testBit uu) && (decide (ar t < 2) || a2.testBit vv)) := by
        unfold tmQ
        rw [hu, hvv, Int.toNat_natCast, Int.toNat_natCast]
        have : decide ((uu : Int) ≠ -1) = true := by simp
        rw [this, Bool.true_and]
      rw [if_neg cu, if_neg (by decide), if_neg (by decide), v_I (fun P => c_places (d := d) (P := P) ht)]
      simp (disch := first | assumption | omega | decide) only [iv_lt]
      -- the second place
      have sec : (decide (ar t < 1) || a1.testBit uu) = true → ∀ x8, Xr E (d + 1) x_X7_terminalTypes 62 [some (.ref m), some (.ref (rA m bb)), some (.int (iv (t : Int))), some (.int (iv (a1 : Int))), some (.int (iv (a2 : Int))), some (.int (iv (tmK S t a1 a2 q : Nat))), some (.int (iv (q : Int))), some (.int (iv ((124 + 3 * (4 * q + t) : Nat) : Int))), some (.int x8)] [] G P := by
        intro hh x8
        rw [hh, Bool.true_and] at eQ
        refine g_X7_terminalTypes_62 ?_
        rw [if_neg (by decide), v_I (fun P => c_places (d := d) (P := P) ht)]
        simp (disch := first | assumption | omega | decide) only [iv_lt]
        by_cases c2 : ar t < 2
        · rw [if_pos (by omega)]
          exact yes _ _ (by rw [eQ]; simp [c2])
        · have ar2 : ∀ y : Fin 4, 2 ≤ ar y.val → y.val = 0 := by decide
          have ht0 := ar2 ⟨t, ht⟩ (by show 2 ≤ ar t; omega)
          dsimp only [Sc_b, Sc_u, Sc_v, Md_len, Md_acts, Md_nxt, Md_ts, Md_bs, Md_lab, Md_xp, Md_sta, Md_tx, Md_nw, Md_tr, Md_rd, Md_di, Md_ke, Md_ik, Md_te, Md_bu, Md_va, Md_ju, Md_ma] at ht0
          have h3 := hr2.2 (by omega)
          rw [hvv] at h3
          rw [if_neg (by omega), show iv ((124 + 3 * (4 * q + t) : Nat) : Int) + iv 2 = iv ((124 + 3 * (4 * q + t) + 2 : Nat) : Int) by rw [iv_add]; rfl, u_IAn (Ma_row hm) (by omega), h3, i_bit (by omega) (by omega)]
          simp only [b_1]
          cases hx : a2.testBit vv with
          | false =>
            rw [if_pos (by decide)]
            exact no _ _ (by rw [eQ, hx]; simp [c2])
          | true =>
            rw [if_neg (by decide)]
            exact yes _ _ (by rw [eQ, hx]; simp)
      by_cases c1 : ar t < 1
      · rw [if_pos (by omega)]
        exact sec (by simp [c1]) _
      · rw [if_neg (by omega), i_s, u_IAn (Ma_row hm) (by omega), hr2.1, i_bit (by omega) (by omega)]
        simp only [b_1]
        cases hx : a1.testBit uu with
        | false =>
          rw [if_pos (by decide)]
          exact hno _ _ (by rw [eQ, hx]; simp [c1])
        | true =>
          rw [if_neg (by decide)]
          exact sec (by rw [hx]; simp) _
theorem c_mTerminalTypes {bb : Bool} (hm : Mo E G m M) (hR : okR M bb S) {t a1 a2 : Nat} (ht : t < 4) (h1 : a1 < 8) (h2 : a2 < 8) : runs E (d + 2) i_X7_terminalTypes [.ref m, .ref (rA m bb), .int (iv (t : Int)), .int (iv (a1 : Int)), .int (iv (a2 : Int))] G P = P (some (.int (iv (tmT S t a1 a2 : Nat)))) G := by
  refine runs_one (fun P hP => e_X7_terminalTypes ?_) P
  exact c_mttL hm hR ht h1 h2 3 0 none none (by omega) hP
end MTZ
