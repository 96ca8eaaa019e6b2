-- uses 41 42 43 44 45 46 47 48 49 50 51 52 53 54 55 56 57 58 59 60 61 62 63 64 65 66 67 68 69 70 71 72 73 74 75 76 77 78 79 80 81 82 83 84 85 86 87 88 89 90 91 92
/-! the class: descend -/
section CDS
variable {E : Ev} {d : Nat} {G : Hp} {P : Po} {c n : Nat} {A : As}
theorem c_xd43 (hE : EK E) (hA : okA A) {ed : Nat} {x0 : Nat → Int} (h0 : K0 E G c) (hT : TrP E G (c + 15) (c + 3) (ed : Int) (tL A.S x0) (raN A.S (tL A.S x0).1 63)) {x1 : Int64} {m k : Nat} : ∀ (r dp sm : Nat) (p : List Nat) (w : Wa) (z : Int64) (l10 : Option Value), dp + r = 6 → p.length = dp → dig p → wks A.S (some (w0 A.S)) p = some w → (∀ l8 l9 l10', Xr E (d + 2) x_X6_descend 31 [some (.ref c), some (.long x1), none, some (.int (iv (m : Int))), some (.long (dsc1 A.S r w z).2), none, some (.int (iv ((sm + (dsc1 A.S r w z).1 : Nat) : Int))), some (.int (iv ((k + 1 : Nat) : Int))), l8, l9, l10'] [] G P) → Xr E (d + 2) x_X6_descend 43 [some (.ref c), some (.long x1), none, some (.int (iv (m : Int))), some (.long z), none, some (.int (iv (sm : Int))), some (.int (iv (k : Int))), some (.int (iv (nd 1 p : Nat))), some (.int (iv (dp : Int))), l10] [] G P := by
  intro r
  induction r with
  | zero =>
    intro dp sm p w z l10 hdp hl hp hw hP
    have : dp = 6 := by omega
    subst this
    refine g_X6_descend_43 ?_
    rw [if_pos (by decide), i_s]
    exact hP _ _ _
  | succ r ih =>
    intro dp sm p w z l10 hdp hl hp hw hP
    refine g_X6_descend_43 ?_
    have hr := nd_rg hp (show p.length ≤ 6 by omega)
    have ht := tree_at (x0 := x0) hA.1 p.length p rfl (by omega) hp
    rw [hw] at ht
    dsimp only [Sc_b, Sc_u, Sc_v, Md_len, Md_acts, Md_nxt, Md_ts, Md_bs, Md_lab, Md_xp, Md_sta, Md_tx, Md_nw, Md_tr, Md_rd, Md_di, Md_ke, Md_ik, Md_te, Md_bu, Md_va, Md_ju, Md_ma, As_tx, As_S, As_R, As_nx, As_ct, As_K, As_F] at ht
    have hc2 := chW_le (w := w)
    have ec : ∀ (P : Po), runs E (d + 2) i_X4_childCount [.ref (c + 15), .int (iv (nd 1 p : Nat))] G P = P (some (.int (iv ((chW w : Nat) : Int)))) G := by
      intro P
      rw [c_childCount (d := d) hE hT okL_tL ⟨hr.1, hr.2.1⟩, ht.1]
      unfold lbN chW
      by_cases c4 : hd w.1 < 4
      · rw [if_pos c4, if_pos c4, if_pos (by omega)]; rfl
      · rw [if_neg c4, if_neg c4, if_neg (by decide)]; rfl
    rw [if_neg (by rw [iv_le (by decide) (by constructor <;> omega)]; omega), k_2 h0, u_rcv hT.1.1]
    refine ⟨trivial, ?_⟩
    rw [v_I ec]
    by_cases c0 : chW w = 0
    · rw [if_neg (by rw [iv_0lt (by constructor <;> omega)]; omega), i_s]
      have := hP (some (.int (iv (nd 1 p : Nat)))) (some (.int (iv (dp : Int)))) (some (.int (iv ((chW w : Nat) : Int))))
      unfold dsc1 at this
      rw [if_pos c0] at this
      exact this
    · have hcc : chW w = 1 ∨ chW w = 2 := by omega
      have hml : rn (nxz z) % chW w < chW w := Nat.mod_lt _ (by omega)
      rw [if_pos (by rw [iv_0lt (by constructor <;> omega)]; omega)]
      refine ⟨by rw [iv_eq0 (by constructor <;> omega)]; omega, ?_⟩
      obtain ⟨w', hw'⟩ := wd_s (S := A.S) (w := w) (c := 1 + rn (nxz z) % chW w) (by omega) c0
      have hnd : 2 * ((nd 1 p : Nat) : Int) + ((1 + rn (nxz z) % chW w : Nat) : Int) - 1 = ((nd 1 (p ++ [1 + rn (nxz z) % chW w]) : Nat) : Int) := by
        rw [nd_app]
        omega
      rw [show z * 6364136223846793005 + 1442695040888963407 = nxz z from rfl, rn_e, rn_m hcc, show iv 1 + iv ((rn (nxz z) % chW w : Nat) : Int) = iv ((1 + rn (nxz z) % chW w : Nat) : Int) by rw [iv_add]; rfl, v_I (fun P => c_childOf (d := d + 1) (P := P)), hnd, i_s, i_s]
      refine ih (dp + 1) (sm + 1) _ w' (nxz z) _ (by omega) (by rw [List.length_append]; show p.length + 1 = _; omega) ?_ ?_ ?_
      · intro y hy
        rcases List.mem_append.mp hy with y1 | y1
        · exact hp y y1
        · rcases List.mem_cons.mp y1 with y2 | y2
          · rw [y2]; omega
          · cases y2
      · rw [wks_app, hw]
        exact hw'
      · intro l8 l9 l10'
        have := hP l8 l9 l10'
        unfold dsc1 at this
        rw [if_neg c0, hw'] at this
        dsimp only [Sc_b, Sc_u, Sc_v, Md_len, Md_acts, Md_nxt, Md_ts, Md_bs, Md_lab, Md_xp, Md_sta, Md_tx, Md_nw, Md_tr, Md_rd, Md_di, Md_ke, Md_ik, Md_te, Md_bu, Md_va, Md_ju, Md_ma, As_tx, As_S, As_R, As_nx, As_ct, As_K, As_F] at this
        rw [show sm + ((dsc1 A.S r w' (nxz z)).1 + 1) = sm + 1 + (dsc1 A.S r w' (nxz z)).1 by omega] at this
        exact this
theorem c_xd31 (hE : EK E) (hA : okA A) {ed : Nat} {x0 : Nat → Int} (h0 : K0 E G c) (hT : TrP E G (c + 15) (c + 3) (ed : Int) (tL A.S x0) (raN A.S (tL A.S x0).1 63)) {x1 : Int64} {m : Nat} (hm : m ≤ 30) : ∀ (r k sm : Nat) (z : Int64) (l8 l9 l10 : Option Value), k + r = m → P (some (.int (iv ((sm + dscL A.S r z : Nat) : Int)))) G → Xr E (d + 2) x_X6_descend 31 [some (.ref c), some (.long x1), none, some (.int (iv (m : Int))), some (.long z), none, some (.int (iv (sm : Int))), some (.int (iv (k : Int))), l8, l9, l10] [] G P := by
  intro r
  induction r with
  | zero =>
    intro k sm z l8 l9 l10 hk hP
    refine g_X6_descend_31 ?_
    rw [if_pos (by rw [iv_le (by constructor <;> omega) (by constructor <;> omega)]; omega)]
    exact hP
  | succ r ih =>
    intro k sm z l8 l9 l10 hk hP
    refine g_X6_descend_31 ?_
    rw [if_neg (by rw [iv_le (by constructor <;> omega) (by constructor <;> omega)]; omega)]
    refine c_xd43 (d := d) (A := A) hE hA h0 hT (m := m) (k := k) 6 0 sm [] (w0 A.S) z _ (by omega) rfl (fun y hy => by cases hy) rfl ?_
    intro l8' l9' l10'
    refine ih (k + 1) _ _ _ _ _ (by omega) ?_
    unfold dscL at hP
    rw [show sm + (dsc1 A.S 6 (w0 A.S) z).1 + dscL A.S r (dsc1 A.S 6 (w0 A.S) z).2 = sm + ((dsc1 A.S 6 (w0 A.S) z).1 + dscL A.S r (dsc1 A.S 6 (w0 A.S) z).2) by omega]
    exact hP
theorem x_descend (hE : EK E) (hA : okA A) (hn : n ≤ 1999990) (h : CI E G c A n) {z : Int64} {k : Int} (hk : Rg k) : runs E (d + 14) i_X6_descend [.ref c, .long z, .int (iv k)] G (cP E G c n (s_descend A z k)) := by
  refine e_X6_descend ?_
  by_cases c1 : 1 ≤ k ∧ k ≤ 30
  · obtain ⟨m, rfl⟩ := Int.eq_ofNat_of_zero_le (show 0 ≤ k by omega)
    have e : s_descend A z (m : Int) = (((dscL A.S m z : Nat) : Int), A) := by unfold s_descend; exact if_pos c1
    rw [e, if_neg (by rw [iv_lt hk (by decide)]; omega), if_pos (by rw [iv_le hk (by decide)]; omega), k_2 h.1]
    refine x_tree (d := d) hE hA hn h ?_
    intro G1 w ed x0 a1 a2 a3 a4
    refine c_xd31 (d := d + 11) (A := A) hE hA a1.1 a3 (show m ≤ 30 by omega) m 0 0 z _ _ _ (by omega) ?_
    rw [Nat.zero_add]
    exact ⟨rfl, CI_m a1 (by omega), a4⟩
  · have e : s_descend A z k = (-2, A) := by unfold s_descend; exact if_neg c1
    rw [e]
    by_cases c2 : k < 1
    · rw [if_pos (by rw [iv_lt hk (by decide)]; exact c2)]
      exact cP_r h
    · rw [if_neg (by rw [iv_lt hk (by decide)]; exact c2), if_neg (by rw [iv_le hk (by decide)]; omega)]
      exact cP_r h
end CDS
