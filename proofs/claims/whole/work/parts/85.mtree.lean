-- uses 41 42 43 44 45 46 47 48 49 50 51 52 53 54 55 56 57 58 59 60 61 62 63 64 65 66 67 68 69 70 74 75 78 79 80
/-! the reference: questions about the tree -/
def s_at (A : As) (z : Int) (g : Wa → Int) : Int × As := match pds z with
  | none => (-2, A)
  | some ds => (match wks A.S (some (w0 A.S)) ds with
    | none => (-9, A)
    | some w => (g w, A))
def s_labelAt (A : As) (z : Int) : Int × As := s_at A z (fun w => lbO w.1)
def s_expansionsAt (A : As) (z : Int) : Int × As := s_at A z (fun w => (w.2.1 : Int))
def s_stateAt (A : As) (z : Int) : Int × As := s_at A z (fun w => w.2.2)
def s_nodesAtDepth (A : As) (z : Int) : Int × As := if 0 ≤ z ∧ z ≤ 6 then (((cnW A.S z.toNat (2 ^ z.toNat) : Nat) : Int), A) else (-2, A)
def wbV (n : Nat) : Int := if n = 0 then -9 else ((val (bds n n.log2) 0 : Nat) : Int)
def s_wrongBranch (A : As) (z : Int) : Int × As := if 0 ≤ z ∧ z ≤ 6 then (wbV (ff (wrn A.S) (2 ^ (z.toNat + 1) - 1) 1), A) else (-2, A)
section MTR
variable {E : Ev} {d : Nat} {G : Hp} {P : Po} {m : Nat} {A : As}
theorem m_at {z : Int} (hz : Rg z) {g : Wa → Int} (h : MH E G m A) {Q : Po} (hQ : ∀ v G1, mP E G m (s_at A z g) v G1 → Q v G1) (k : Nat) (F : Nat → (Int32 → Prop) → Hp → Prop) (hF : ∀ (G1 : Hp) (M : Md) (w : Wa), Mo E G1 m M → WM M w → F k (fun v6 => Q (some (.int v6)) G1) G1 = Q (some (.int (iv (g w)))) G1) : (qCI E (d + 8) i_X7_stepsOfPath [.int (iv z)] G fun v2 G1 => (if ¬ v2 = (iv (-9)) then (qFR E G1 m 7 2 fun v3 => (rcv E G1 m 7 = true ∧ (qCI E (d + 8) i_X7_walk [.ref m, .ref v3, .int (iv z), .int v2] G1 fun v5 G4 => (if v5 = 0 then Q (some (.int (iv (-9)))) G4 else (F k (fun v6 => Q (some (.int v6)) G4) G4))))) else Q (some (.int (iv (-2)))) G1)) := by
  obtain ⟨M, hm, hI⟩ := h
  rw [v_I (fun P => c_stepsOfPath (d := d + 6) (P := P) hz)]
  cases hp : pds z with
  | none =>
    rw [if_neg (by show ¬ ¬ iv (-9) = iv (-9); exact fun y => y rfl)]
    refine hQ _ _ ?_
    have e : s_at A z g = (-2, A) := by unfold s_at; rw [hp]
    rw [e]
    exact ⟨rfl, ⟨M, hm, hI⟩, sam_rf⟩
  | some ds =>
    obtain ⟨h1, h2, h3⟩ := pds_some hp
    have es : sopN 0 (some ds) = ((ds.length : Nat) : Int) := by unfold sopN; simp
    rw [es, if_pos (by rw [iv_eq (by constructor <;> omega) (by decide)]; omega), Mo_nw hm, Mo_rc hm, h3]
    refine ⟨trivial, u_I (c_walk (d := d) (S := A.S) (bb := false) (k := ds.length) rfl h2 h1 hm hI.2.1) ?_⟩
    rintro v G1 ⟨⟨N, a1, a2, a3⟩, rfl, a4⟩
    refine ⟨_, rfl, ?_⟩
    have hI1 := MI_wk hI a2
    cases hw : wks A.S (some (w0 A.S)) ds with
    | none =>
      rw [show (if (none : Option Wa) = none then (0 : Int) else 1) = 0 from if_pos rfl, if_pos (by decide)]
      refine hQ _ _ ?_
      have e : s_at A z g = (-9, A) := by unfold s_at; rw [hp]; dsimp only [Sc_b, Sc_u, Sc_v, Md_len, Md_acts, Md_nxt, Md_ts, Md_bs, Md_lab, Md_xp, Md_sta, Md_tx, Md_nw, Md_tr, Md_rd, Md_di, Md_ke, Md_ik, Md_te, Md_bu, Md_va, Md_ju, Md_ma, As_tx, As_S, As_R, As_nx, As_ct, As_K, As_F]; rw [hw]
      rw [e]
      exact ⟨rfl, ⟨N, a1, hI1⟩, a4⟩
    | some w =>
      rw [show (if (some w : Option Wa) = none then (0 : Int) else 1) = 1 from if_neg (by simp), if_neg (by decide), hF G1 N w a1 (a3 w hw)]
      refine hQ _ _ ?_
      have e : s_at A z g = (g w, A) := by unfold s_at; rw [hp]; dsimp only [Sc_b, Sc_u, Sc_v, Md_len, Md_acts, Md_nxt, Md_ts, Md_bs, Md_lab, Md_xp, Md_sta, Md_tx, Md_nw, Md_tr, Md_rd, Md_di, Md_ke, Md_ik, Md_te, Md_bu, Md_va, Md_ju, Md_ma, As_tx, As_S, As_R, As_nx, As_ct, As_K, As_F]; rw [hw]
      rw [e]
      exact ⟨rfl, ⟨N, a1, hI1⟩, a4⟩
theorem m_labelAt {z : Int} (hz : Rg z) (h : MH E G m A) : runs E (d + 9) i_X7_labelAt [.ref m, .int (iv z)] G (mP E G m (s_labelAt A z)) := by
  refine e_X7_labelAt ?_
  exact m_at (d := d) hz (g := fun w => lbO w.1) h (fun _ _ y => y) 14 (fun k F G1 => qFI E G1 m 7 k F) (fun G1 M w a b => by rw [Mo_lab a, b.2.1])
theorem m_expansionsAt {z : Int} (hz : Rg z) (h : MH E G m A) : runs E (d + 9) i_X7_expansionsAt [.ref m, .int (iv z)] G (mP E G m (s_expansionsAt A z)) := by
  refine e_X7_expansionsAt ?_
  exact m_at (d := d) hz (g := fun w => (w.2.1 : Int)) h (fun _ _ y => y) 15 (fun k F G1 => qFI E G1 m 7 k F) (fun G1 M w a b => by rw [Mo_xp a, b.2.2.1])
theorem m_stateAt {z : Int} (hz : Rg z) (h : MH E G m A) : runs E (d + 9) i_X7_stateAt [.ref m, .int (iv z)] G (mP E G m (s_stateAt A z)) := by
  refine e_X7_stateAt ?_
  exact m_at (d := d) hz (g := fun w => w.2.2) h (fun _ _ y => y) 16 (fun k F G1 => qFI E G1 m 7 k F) (fun G1 M w a b => by rw [Mo_sta a, b.2.2.2])
theorem m_nodesAtDepth {z : Int} (hz : Rg z) (h : MH E G m A) : runs E (d + 10) i_X7_nodesAtDepth [.ref m, .int (iv z)] G (mP E G m (s_nodesAtDepth A z)) := by
  obtain ⟨M, hm, hI⟩ := h
  refine e_X7_nodesAtDepth ?_
  rw [v_I (fun P => c_in (d := d + 8) (P := P) (i64 hz) (b := 0) (c := 6) rfl rfl)]
  by_cases c1 : 0 ≤ z ∧ z ≤ 6
  · obtain ⟨n, rfl⟩ := Int.eq_ofNat_of_zero_le c1.1
    have e : s_nodesAtDepth A (n : Int) = (((cnW A.S n (2 ^ n) : Nat) : Int), A) := by unfold s_nodesAtDepth; exact if_pos c1
    rw [e, if_neg (by rw [tf_t c1]; decide), Mo_nw hm, Mo_rc hm]
    refine ⟨trivial, u_I (c_nodesOf (d := d) (S := A.S) (bb := false) (show n ≤ 6 by omega) hm hI.2.1) ?_⟩
    rintro v G1 ⟨rfl, N, a1, a2, a3⟩
    exact ⟨_, rfl, rfl, ⟨N, a1, MI_wk hI a2⟩, a3⟩
  · have e : s_nodesAtDepth A z = (-2, A) := by unfold s_nodesAtDepth; exact if_neg c1
    rw [e, if_pos (by rw [tf_f c1]; decide)]
    exact ⟨rfl, ⟨M, hm, hI⟩, sam_rf⟩
theorem c_wb24 {dp : Nat} (hdp : dp ≤ 6) : ∀ (r k num : Nat) (G1 : Hp) (l4 : Option Value), 2 ^ k + num + r = 2 ^ (dp + 1) → num ≤ 2 ^ k → k ≤ dp → MH E G1 m A → sam E G G1 (ivl m 13) → (∀ G2, MH E G2 m A → sam E G G2 (ivl m 13) → P (some (.int (iv (wbV (ff (wrn A.S) r (2 ^ k + num)))))) G2) → Xr E (d + 8) x_X7_wrongBranch 24 [some (.ref m), some (.int (iv (dp : Int))), some (.int (iv (k : Int))), some (.int (iv (num : Int))), l4] [] G1 P := by
  intro r
  have h2 : 2 ^ (dp + 1) ≤ 2 ^ 7 := Nat.pow_le_pow_right (by decide) (by omega)
  have h6 : (2 : Nat) ^ 7 = 128 := rfl
  induction r with
  | zero =>
    intro k num G1 l4 hr hn hk hM hs hP
    have hkd : 2 ^ k ≤ 2 ^ dp := Nat.pow_le_pow_right (by decide) hk
    have hp : 2 ^ (dp + 1) = 2 ^ dp * 2 := Nat.pow_succ 2 dp
    have ek : k = dp := by
      rcases Nat.lt_or_ge k dp with z | z
      · have : 2 ^ k < 2 ^ dp := Nat.pow_lt_pow_right (by decide) z
        omega
      · omega
    subst ek
    refine g_X7_wrongBranch_24 ?_
    rw [i_sh (by omega), if_pos (by rw [iv_le (by constructor <;> omega) (by constructor <;> omega)]; omega), i_s]
    refine g_X7_wrongBranch_17 ?_
    rw [if_pos (by rw [iv_lt (by constructor <;> omega) (by constructor <;> omega)]; omega)]
    exact hP G1 hM hs
  | succ r ih =>
    have pn : ∀ (k num : Nat) (G1 : Hp) (l4 : Option Value), 2 ^ k + num + (r + 1) = 2 ^ (dp + 1) → num < 2 ^ k → k ≤ dp → MH E G1 m A → sam E G G1 (ivl m 13) → (∀ G2, MH E G2 m A → sam E G G2 (ivl m 13) → P (some (.int (iv (wbV (ff (wrn A.S) (r + 1) (2 ^ k + num)))))) G2) → Xr E (d + 8) x_X7_wrongBranch 24 [some (.ref m), some (.int (iv (dp : Int))), some (.int (iv (k : Int))), some (.int (iv (num : Int))), l4] [] G1 P := by
      intro k num G1 l4 hr hn hk hM hs hP
      have hkd : 2 ^ k ≤ 2 ^ dp := Nat.pow_le_pow_right (by decide) hk
      have hp : 2 ^ (dp + 1) = 2 ^ dp * 2 := Nat.pow_succ 2 dp
      have hb := bds_ok k (2 ^ k + num)
      have hlg := log2_lev hn
      have hk6 : k ≤ 6 := by omega
      obtain ⟨M, hm, hI⟩ := hM
      have nx : wrn A.S (2 ^ k + num) = false → ∀ G2 N l4, Mo E G2 m N → Wk M N → sam E G1 G2 (ivl m 13) → Xr E (d + 8) x_X7_wrongBranch 24 [some (.ref m), some (.int (iv (dp : Int))), some (.int (iv (k : Int))), some (.int (iv ((num + 1 : Nat) : Int))), l4] [] G2 P := by
        intro hw G2 N l4 b1 b2 b3
        refine ih k (num + 1) G2 l4 (by omega) (by omega) hk ⟨N, b1, MI_wk hI b2⟩ (sam_tr hs b3) ?_
        intro G3 d1 d2
        have := hP G3 d1 d2
        unfold ff at this
        rw [if_neg (by rw [hw]; decide)] at this
        exact this
      refine g_X7_wrongBranch_24 ?_
      rw [i_sh (by omega), if_neg (by rw [iv_le (by constructor <;> omega) (by constructor <;> omega)]; omega), v_I (fun P => c_mPathOf (d := d + 7) (P := P) hk6 hn), Mo_nw hm, Mo_rc hm]
      refine ⟨trivial, u_I (c_walk (d := d) (S := A.S) (bb := false) hb.1 hk6 hb.2 hm hI.2.1) ?_⟩
      rintro v G2 ⟨⟨N, a1, a2, a3⟩, rfl, a4⟩
      refine ⟨_, rfl, ?_⟩
      rw [i_s]
      have ew : wrn A.S (2 ^ k + num) = wrW A.S (wks A.S (some (w0 A.S)) (bds (2 ^ k + num) k)) := by unfold wrn; rw [hlg]
      cases hw : wks A.S (some (w0 A.S)) (bds (2 ^ k + num) k) with
      | none =>
        rw [show (if (none : Option Wa) = none then (0 : Int) else 1) = 0 from if_pos rfl, if_pos (by decide)]
        exact nx (by rw [ew, hw]; rfl) G2 N _ a1 a2 a4
      | some w =>
        have hWM := a3 w hw
        have hok := wks_ok (MI_ok hI) _ _ _ (okW_0 (MI_ok hI)) hb.2 hw
        rw [hw] at ew
        have ew' : wrn A.S (2 ^ k + num) = (decide (w.2.2 ≠ -9) && (decide (hd w.1 < 4) && decide (A.S.u (4 * w.2.2.toNat + hd w.1) = -1))) := ew
        rw [show (if (some w : Option Wa) = none then (0 : Int) else 1) = 1 from if_neg (by simp), if_neg (by decide), Mo_sta a1, hWM.2.2.2]
        by_cases c1 : w.2.2 = -9
        · rw [if_pos (by rw [c1])]
          exact nx (by rw [ew', c1]; rfl) G2 N _ a1 a2 a4
        · have hst := hok.2.resolve_left c1
          obtain ⟨q, hq⟩ := Int.eq_ofNat_of_zero_le hst.1
          rw [hq] at hst c1 ew'
          have hq3 : q < 3 := by omega
          rw [hq, if_neg (by rw [iv_eq (by constructor <;> omega) (by decide)]; omega), Mo_lab a1, hWM.2.1]
          by_cases c2 : hd w.1 < 4
          · have h4 := lbO_4 ⟨hd w.1, c2⟩
            dsimp only [Sc_b, Sc_u, Sc_v, Md_len, Md_acts, Md_nxt, Md_ts, Md_bs, Md_lab, Md_xp, Md_sta, Md_tx, Md_nw, Md_tr, Md_rd, Md_di, Md_ke, Md_ik, Md_te, Md_bu, Md_va, Md_ju, Md_ma, As_tx, As_S, As_R, As_nx, As_ct, As_K, As_F] at h4
            have el : lbO w.1 = ((chr (hd w.1) : Nat) : Int) := by unfold lbO; rw [if_pos c2]
            have hk12 : 4 * q + hd w.1 < 12 := by omega
            rw [el, if_neg (by rw [iv_eq0 (by constructor <;> omega)]; omega), Mo_nw a1, Mo_sta a1, hWM.2.2.2, hq, Mo_lab a1, hWM.2.1, el, v_I (fun P => c_teS (d := d + 6) (P := P) h4.1.2), h4.2, if_pos c2, v_I (fun P => c_stepAt (d := d + 7) (P := P)), Mg_nw a1 (by omega), ((MI_rw (MI_wk hI a2)).2 _ hk12).1]
            by_cases c3 : A.S.u (4 * q + hd w.1) = -1
            · rw [if_neg (by rw [u_iff]; exact fun y => y c3)]
              have := hP G2 ⟨N, a1, MI_wk hI a2⟩ (sam_tr hs a4)
              unfold ff at this
              rw [if_pos (by rw [ew', Int.toNat_natCast, c3]; simp [c2])] at this
              have e : wbV (2 ^ k + num) = ((val (bds (2 ^ k + num) k) 0 : Nat) : Int) := by
                unfold wbV
                have : 0 < 2 ^ k := Nat.pow_pos (by decide)
                rw [if_neg (by omega), hlg]
              rw [e] at this
              exact this
            · rw [if_pos (by rw [u_iff]; exact c3)]
              exact nx (by rw [ew', Int.toNat_natCast]; simp [c3]) G2 N _ a1 a2 a4
          · have el : lbO w.1 = 0 := by unfold lbO; rw [if_neg c2]
            rw [el, if_pos (by decide)]
            exact nx (by rw [ew']; simp [c2]) G2 N _ a1 a2 a4
    intro k num G1 l4 hr hn hk hM hs hP
    by_cases c : num < 2 ^ k
    · exact pn k num G1 l4 hr c hk hM hs hP
    · have hkd : 2 ^ k ≤ 2 ^ dp := Nat.pow_le_pow_right (by decide) hk
      have hp : 2 ^ (dp + 1) = 2 ^ dp * 2 := Nat.pow_succ 2 dp
      have hp2 : 2 ^ (k + 1) = 2 ^ k * 2 := Nat.pow_succ 2 k
      have hkl : k < dp := by
        rcases Nat.lt_or_ge k dp with z | z
        · exact z
        · have : k = dp := by omega
          subst this
          omega
      refine g_X7_wrongBranch_24 ?_
      rw [i_sh (by omega), if_pos (by rw [iv_le (by constructor <;> omega) (by constructor <;> omega)]; omega), i_s]
      refine g_X7_wrongBranch_17 ?_
      rw [if_neg (by rw [iv_lt (by constructor <;> omega) (by constructor <;> omega)]; omega)]
      refine pn (k + 1) 0 G1 l4 (by omega) (Nat.pow_pos (by decide)) hkl hM hs ?_
      intro G2 b1 b2
      rw [show 2 ^ (k + 1) + 0 = 2 ^ k + num by omega]
      exact hP G2 b1 b2
theorem m_wrongBranch {z : Int} (hz : Rg z) (h : MH E G m A) : runs E (d + 9) i_X7_wrongBranch [.ref m, .int (iv z)] G (mP E G m (s_wrongBranch A z)) := by
  refine e_X7_wrongBranch ?_
  rw [v_I (fun P => c_in (d := d + 7) (P := P) (i64 hz) (b := 0) (c := 6) rfl rfl)]
  by_cases c1 : 0 ≤ z ∧ z ≤ 6
  · obtain ⟨n, rfl⟩ := Int.eq_ofNat_of_zero_le c1.1
    have e : s_wrongBranch A (n : Int) = (wbV (ff (wrn A.S) (2 ^ (n + 1) - 1) 1), A) := by unfold s_wrongBranch; exact if_pos c1
    rw [e, if_pos (by rw [tf_t c1]; decide)]
    refine g_X7_wrongBranch_17 ?_
    rw [if_neg (by rw [iv_lt (by constructor <;> omega) (by decide)]; omega)]
    have : 0 < 2 ^ (n + 1) := Nat.pow_pos (by decide)
    exact c_wb24 (G := G) (d := d) (A := A) (show n ≤ 6 by omega) (2 ^ (n + 1) - 1) 0 0 G _ (by rw [Nat.pow_zero]; omega) (by decide) (by omega) h sam_rf (fun G2 a b => ⟨rfl, a, b⟩)
  · have e : s_wrongBranch A z = (-2, A) := by unfold s_wrongBranch; exact if_neg c1
    rw [e, if_neg (by rw [tf_f c1]; decide)]
    exact ⟨rfl, h, sam_rf⟩
end MTR
