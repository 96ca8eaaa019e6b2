-- uses 41 42 43 44 45 46 47 48 49 50 51 52 53 54 55 56 57 58 59 60 61 62 63 64 65 66 67 68 69 70 71 72 73 74 75 76 77 78 79 80 81 82 83 84 85 86 87 88 89 90 91 92
/-! the class: scripts, descents -/
def Kc (E : Ev) (G : Hp) (c : Nat) (T : Sc) (nn : Nat) : Prop := ∃ ed, ed ≤ nn ∧ Sx E G (c + 262) false T ed ∧ Yok E G (c + 274) (c + 262) T ed
def CJ (E : Ev) (G : Hp) (c : Nat) (A : As) (n : Nat) (T : Sc) (nn : Nat) : Prop := K0 E G c ∧ K1 E G c A.tx ∧ K2 E G c A.S n ∧ K4 E G c A.R A.nx A.ct ∧ K5 E G c A.K A.F ∧ K6 E G c ∧ Kc E G c T nn
theorem CJ_CI {E : Ev} {G : Hp} {c n nn : Nat} {A : As} {T : Sc} (h : CJ E G c A n T nn) (hn : n ≤ nn) : CI E G c A nn := by
  obtain ⟨h0, h1, h2, h4, h5, h6, ⟨ed, g1, g2, g3⟩⟩ := h
  exact ⟨h0, h1, K2_m h2 hn, h4, h5, h6, ⟨T, ed, g1, g2, g3⟩⟩
section CSC
variable {E : Ev} {d : Nat} {G : Hp} {P : Po} {c n nn : Nat} {A : As} {T : Sc}
/-- the copy changes, nothing else does -/
theorem CJ_n (h : CJ E G c A n T nn) {G1 : Hp} {T' : Sc} {nn' : Nat} (m : sam E G G1 (ivl (c + 262) 28)) (k : Kc E G1 c T' nn') : CJ E G1 c A n T' nn' := by
  obtain ⟨h0, h1, h2, h4, h5, h6, _⟩ := h
  exact ⟨K0_s h0 m (by omega), K1_s h1 m (by omega), K2_s h2 m (by omega), K4_s h4 m (by omega), K5_s h5 m (by omega), K6_s h6 m (by omega), k⟩
def ccP (E : Ev) (G : Hp) (c : Nat) (A : As) (n : Nat) (T : Sc) (nn : Nat) (o : Option Sc) : Po := fun v G1 => sam E G G1 (ivl c 290) ∧ (match o with
  | none => v = some (.int (iv 0)) ∧ CJ E G1 c A n T nn
  | some T' => v = some (.int (iv 1)) ∧ CJ E G1 c A n T' (nn + 1))
theorem CJ_up (h : CJ E G c A n T nn) : CJ E G c A n T (nn + 1) := by
  obtain ⟨h0, h1, h2, h4, h5, h6, ⟨ed, g1, g2⟩⟩ := h
  exact ⟨h0, h1, h2, h4, h5, h6, ⟨ed, by omega, g2⟩⟩
theorem c_removeFromCopy (hT : okS T) (h : CJ E G c A n T nn) {a b : Nat} (ha : a < 10) (hb : b < 10) : runs E (d + 3) i_X6_removeFromCopy [.ref c, .int (iv (a : Int)), .int (iv (b : Int))] G (ccP E G c A n T nn (if (a < 3 ∧ b < 4) ∧ T.u (4 * a + b) ≠ -1 then some (dropT T (4 * a + b)) else none)) := by
  refine e_X6_removeFromCopy ?_
  have no : ¬ ((a < 3 ∧ b < 4) ∧ T.u (4 * a + b) ≠ -1) → ccP E G c A n T nn (if (a < 3 ∧ b < 4) ∧ T.u (4 * a + b) ≠ -1 then some (dropT T (4 * a + b)) else none) (some (.int (iv 0))) G := by
    intro z
    rw [if_neg z]
    exact ⟨sam_rf, rfl, h⟩
  rw [v_I (fun P => c_isState (d := d + 1) (P := P) (show Rg (a : Int) by constructor <;> omega))]
  by_cases c1 : a < 3
  · rw [if_neg (by rw [tf_t (by omega)]; decide), v_I (fun P => c_isTerminal (d := d + 1) (P := P) (show Rg (b : Int) by constructor <;> omega))]
    by_cases c2 : b < 4
    · obtain ⟨ed, g1, g2, g3⟩ := h.2.2.2.2.2.2
      rw [if_neg (by rw [tf_t (by omega)]; decide), k_9 h.1, Sm_rc g2]
      refine ⟨trivial, ?_⟩
      rw [v_I (fun P => c_canRead (d := d + 1) (P := P) g2 c1 c2 (okS_rg hT _ (by omega)))]
      by_cases c3 : T.u (4 * a + b) = -1
      · rw [if_neg (by rw [tf_f (fun z => z c3)]; decide)]
        exact no (fun z => z.2 c3)
      · rw [if_pos (show (a < 3 ∧ b < 4) ∧ T.u (4 * a + b) ≠ -1 from ⟨⟨c1, c2⟩, c3⟩), if_pos (by rw [tf_t c3]; decide), k_9 h.1, Sm_rc g2]
        refine ⟨trivial, u_V (c_dropTransition (d := d) g2 c1 c2) ?_⟩
        rintro v G1 ⟨rfl, b1, b2⟩
        have m : sam E G G1 (ivl (c + 262) 28) := sam_mono b2 (fun a ha => by unfold ivl at *; omega)
        exact ⟨rfl, sam_mono b2 (fun a ha => by unfold ivl at *; omega), rfl, CJ_n h m ⟨ed + 1, by omega, b1, Yok_new (Yok_sam g3 b2 (fun a _ _ => by unfold ivl; omega)) (by omega)⟩⟩
    · rw [if_pos (by rw [tf_f (by omega)]; decide)]
      exact no (fun z => c2 z.1.2)
  · rw [if_pos (by rw [tf_f (by omega)]; decide)]
    exact no (fun z => c1 z.1.1)
theorem c_setBInCopy (h : CJ E G c A n T nn) {a b : Nat} (ha : a < 10) (hb : b < 10) : runs E (d + 2) i_X6_setBInCopy [.ref c, .int (iv (a : Int)), .int (iv (b : Int))] G (ccP E G c A n T nn (if a < 3 ∧ b < 3 then some (setBT T a b) else none)) := by
  refine e_X6_setBInCopy ?_
  have no : ¬ (a < 3 ∧ b < 3) → ccP E G c A n T nn (if a < 3 ∧ b < 3 then some (setBT T a b) else none) (some (.int (iv 0))) G := by
    intro z
    rw [if_neg z]
    exact ⟨sam_rf, rfl, h⟩
  rw [v_I (fun P => c_isState (d := d) (P := P) (show Rg (a : Int) by constructor <;> omega))]
  by_cases c1 : a < 3
  · rw [if_neg (by rw [tf_t (by omega)]; decide), v_I (fun P => c_isState (d := d) (P := P) (show Rg (b : Int) by constructor <;> omega))]
    by_cases c2 : b < 3
    · obtain ⟨ed, g1, g2, g3⟩ := h.2.2.2.2.2.2
      rw [if_pos (show a < 3 ∧ b < 3 from ⟨c1, c2⟩), if_pos (by rw [tf_t (by omega)]; decide), k_9 h.1, Sm_rc g2, show iv 1 = iv ((1 : Nat) : Int) from rfl]
      refine ⟨trivial, u_V (c_putTransition (d := d) (a := (b : Int)) (b := 0) (t := 1) g2 c1 (by decide)) ?_⟩
      rintro v G1 ⟨rfl, b1, b2⟩
      have m : sam E G G1 (ivl (c + 262) 28) := sam_mono b2 (fun a ha => by unfold ivl at *; omega)
      exact ⟨rfl, sam_mono b2 (fun a ha => by unfold ivl at *; omega), rfl, CJ_n h m ⟨ed + 1, by omega, b1, Yok_new (Yok_sam g3 b2 (fun a _ _ => by unfold ivl; omega)) (by omega)⟩⟩
    · rw [if_neg (by rw [tf_f (by omega)]; decide)]
      exact no (fun z => c2 z.2)
  · rw [if_pos (by rw [tf_f (by omega)]; decide)]
    exact no (fun z => c1 z.1)
/-- the copy's types are brought up to date -/
theorem x_ctypes (hE : EK E) (hT : okS T) (hnn : nn ≤ 2000000) (h : CJ E G c A n T nn) {F : Nat → Hp → Prop} (k : ∀ G1 (ed : Nat), CJ E G1 c A n T nn → Ty E G1 (c + 274) (c + 262) T (cT T) ((cRn T : Nat) : Int) (ed : Int) → sam E G G1 (ivl c 290) → F (c + 274) G1) : rcv E G (c + 274) 5 = true ∧ qCR E (d + 5) i_X5_upToDate [.ref (c + 274)] G F := by
  obtain ⟨ed, g1, g2, g3⟩ := h.2.2.2.2.2.2
  have hrc : (rcv E G (c + 274) 5 = true) = True := by
    rcases g3 with z | ⟨se, rm, z, _⟩
    · exact u_rcv z.1.1
    · exact u_rcv z.1.1
  rw [hrc]
  refine ⟨trivial, u_R (c_typesUp (d := d) hE hT (by omega) (by omega) g3 g2) ?_⟩
  rintro v G1 ⟨rfl, b1, b2⟩
  refine ⟨_, rfl, ?_⟩
  exact k G1 ed (CJ_n h (sam_mono b2 (fun a ha => by unfold ivl at *; omega)) ⟨ed, g1, Sm_dis g2 b2 (by omega), Or.inl b1⟩) b1 (sam_mono b2 (fun a ha => by unfold ivl at *; omega))
/-- the tree, while the copy is at work -/
theorem x_jtree (hE : EK E) (hA : okA A) (hn : n ≤ 1999990) (h : CJ E G c A n T nn) {F : Nat → Hp → Prop} (k : ∀ G1 (w : Bool) (ed : Nat) x0, CJ E G1 c A n T nn → TrP E G1 (c + 15) (c + 3) (ed : Int) (tL A.S x0) (raN A.S (tL A.S x0).1 63) → sam E G G1 (ivl c 290) → F (c + 15) G1) : rcv E G (c + 15) 4 = true ∧ qCR E (d + 13) i_X4_upToDate [.ref (c + 15)] G F := by
  obtain ⟨h0, h1, ⟨w, ed, g1, g2, g3, g4⟩, h4, h5, h6, ⟨e7, j1, j2, j3⟩⟩ := h
  have hrc : (rcv E G (c + 15) 4 = true) = True := by
    rcases g3 with ⟨x0, z⟩ | ⟨se, L, f, z, _⟩
    · exact u_rcv z.1.1
    · exact u_rcv z.1.1
  rw [hrc]
  refine ⟨trivial, u_R (c_treeUp (d := d) hE (by omega) hA.1 (by omega) g3 g2) ?_⟩
  rintro v G1 ⟨rfl, b1, b2⟩
  refine ⟨_, rfl, ?_⟩
  obtain ⟨x0, b1'⟩ := id b1
  exact k G1 w ed x0 ⟨K0_s h0 b2 (by omega), K1_s h1 b2 (by omega), ⟨w, ed, g1, Sm_dis g2 b2 (by omega), Or.inl b1, Yok_sam g4 b2 (fun a _ _ => by unfold ivl; omega)⟩, K4_s h4 b2 (by omega), K5_s h5 b2 (by omega), K6_s h6 b2 (by omega), ⟨e7, j1, Sm_dis j2 b2 (by omega), Yok_sam j3 b2 (fun a _ _ => by unfold ivl; omega)⟩⟩ b1' (sam_mono b2 (fun a ha => by unfold ivl at *; omega))
theorem dg5 {g : Nat} (h : g < 10000) : iv (g : Int) - iv (g : Int) / iv 100 * iv 100 = iv ((g % 100 : Nat) : Int) := by
  rw [iv_tmod (by omega) (by decide)]; rfl
set_option maxRecDepth 2000 in
theorem c_commandSucceeds (hE : EK E) (hA : okA A) (hn : n ≤ 1999990) (hT : okS T) (hTb : T.b = A.S.b) (hnn : nn ≤ 2000000) (h : CJ E G c A n T nn) {g : Nat} (hg : g < 10000) : runs E (d + 14) i_X6_commandSucceeds [.ref c, .int (iv (g : Int))] G (ccP E G c A n T nn (cmdG T g)) := by
  refine e_X6_commandSucceeds ?_
  have no : cmdG T g = none → ∀ G1, CJ E G1 c A n T nn → sam E G G1 (ivl c 290) → ccP E G c A n T nn (cmdG T g) (some (.int (iv 0))) G1 := by
    intro e G1 z1 z2
    rw [e]
    exact ⟨z2, rfl, z1⟩
  have yes : cmdG T g = some T → ∀ G1, CJ E G1 c A n T nn → sam E G G1 (ivl c 290) → ccP E G c A n T nn (cmdG T g) (some (.int (iv 1))) G1 := by
    intro e G1 z1 z2
    rw [e]
    exact ⟨z2, rfl, CJ_up z1⟩
  rw [dg1 hg, dg2 hg, dg3 hg, dg4 hg, dg5 hg]
  have e100 : g % 100 = 10 * (g / 10 % 10) + g % 10 := by omega
  have eg : cmdG T g = cmd T (g / 1000) (g / 100 % 10) (g / 10 % 10) (g % 10) := rfl
  rw [e100]
  have l1 : g / 1000 < 10 := by omega
  have l2 : g / 100 % 10 < 10 := by omega
  have l3 : g / 10 % 10 < 10 := by omega
  have l4 : g % 10 < 10 := by omega
  generalize g / 1000 = h1 at *
  generalize g / 100 % 10 = a at *
  generalize g / 10 % 10 = b at *
  generalize g % 10 = e at *
  have r9 : Rg (h1 : Int) := by constructor <;> omega
  have ra : Rg (a : Int) := by constructor <;> omega
  by_cases c1 : h1 = 1
  · have em : cmdG T g = (if (a < 3 ∧ b < 4) ∧ e = 0 ∧ T.u (4 * a + b) ≠ -1 then some (dropT T (4 * a + b)) else none) := by rw [eg]; unfold cmd; rw [if_pos c1]
    rw [if_pos (by rw [iv_toInt r9]; omega)]
    by_cases c2 : e = 0
    · rw [if_neg (by rw [iv_eq0 (by constructor <;> omega)]; omega), k_rc h.1]
      refine ⟨trivial, u_I (c_removeFromCopy (d := d + 10) hT h l2 l3) ?_⟩
      intro v G1 hq
      by_cases c3 : (a < 3 ∧ b < 4) ∧ T.u (4 * a + b) ≠ -1
      · rw [if_pos c3] at hq
        obtain ⟨q1, rfl, q2⟩ := hq
        refine ⟨_, rfl, ?_⟩
        rw [if_neg (by decide), em, if_pos ⟨c3.1, c2, c3.2⟩]
        exact ⟨q1, rfl, q2⟩
      · rw [if_neg c3] at hq
        obtain ⟨q1, rfl, q2⟩ := hq
        refine ⟨_, rfl, ?_⟩
        rw [if_pos (by decide)]
        exact no (by rw [em]; exact if_neg (fun z => c3 ⟨z.1, z.2.2⟩)) G1 q2 q1
    · rw [if_pos (by rw [iv_eq0 (by constructor <;> omega)]; omega)]
      exact no (by rw [em]; exact if_neg (fun z => c2 z.2.1)) G h sam_rf
  · rw [if_neg (by rw [iv_toInt r9]; omega)]
    by_cases d2 : h1 = 2
    · have em : cmdG T g = (if (a < 3 ∧ b < 3) ∧ e = 0 then some (setBT T a b) else none) := by rw [eg]; unfold cmd; rw [if_neg c1, if_pos d2]
      rw [if_pos (by rw [iv_toInt r9]; omega)]
      by_cases c2 : e = 0
      · rw [if_neg (by rw [iv_eq0 (by constructor <;> omega)]; omega), k_rc h.1]
        refine ⟨trivial, u_I (c_setBInCopy (d := d + 11) h l2 l3) ?_⟩
        intro v G1 hq
        by_cases c3 : a < 3 ∧ b < 3
        · rw [if_pos c3] at hq
          obtain ⟨q1, rfl, q2⟩ := hq
          refine ⟨_, rfl, ?_⟩
          rw [if_neg (by decide), em, if_pos ⟨c3, c2⟩]
          exact ⟨q1, rfl, q2⟩
        · rw [if_neg c3] at hq
          obtain ⟨q1, rfl, q2⟩ := hq
          refine ⟨_, rfl, ?_⟩
          rw [if_pos (by decide)]
          exact no (by rw [em]; exact if_neg (fun z => c3 z.1)) G1 q2 q1
      · rw [if_pos (by rw [iv_eq0 (by constructor <;> omega)]; omega)]
        exact no (by rw [em]; exact if_neg (fun z => c2 z.2)) G h sam_rf
    · rw [if_neg (by rw [iv_toInt r9]; omega)]
      by_cases d3 : h1 = 3
      · have em : cmdG T g = (if (a = 0 ∧ b = 0) ∧ e = (if (cT T 0 0).testBit 0 = true then 1 else 0) then some T else none) := by rw [eg]; unfold cmd; rw [if_neg c1, if_neg d2, if_pos d3]
        rw [if_pos (by rw [iv_toInt r9]; omega)]
        by_cases c2 : a = 0
        · rw [if_neg (by rw [iv_eq0 (by constructor <;> omega)]; omega)]
          by_cases c3 : b = 0
          · rw [if_neg (by rw [iv_eq0 (by constructor <;> omega)]; omega), k_10 h.1]
            refine x_ctypes (d := d + 8) hE hT hnn h ?_
            intro G1 ed q1 q2 q3
            rw [u_rcv q2.1.1]
            refine ⟨trivial, ?_⟩
            rw [v_I (fun P => c_acceptance (d := d + 11) (P := P) cT8 q2)]
            have hv : (if (cT T 0 0).testBit 0 = true then (1 : Int) else 0) = (((if (cT T 0 0).testBit 0 = true then 1 else 0) : Nat) : Int) := by split <;> rfl
            have hle : (if (cT T 0 0).testBit 0 = true then 1 else 0) ≤ 1 := by split <;> omega
            rw [hv]
            by_cases c4 : e = (if (cT T 0 0).testBit 0 = true then 1 else 0)
            · rw [if_neg (by rw [iv_eq (by constructor <;> omega) (by constructor <;> omega)]; omega)]
              exact yes (by rw [em]; exact if_pos ⟨⟨c2, c3⟩, c4⟩) G1 q1 q3
            · rw [if_pos (by rw [iv_eq (by constructor <;> omega) (by constructor <;> omega)]; omega)]
              exact no (by rw [em]; exact if_neg (fun z => c4 z.2)) G1 q1 q3
          · rw [if_pos (by rw [iv_eq0 (by constructor <;> omega)]; omega)]
            exact no (by rw [em]; exact if_neg (fun z => c3 z.1.2)) G h sam_rf
        · rw [if_pos (by rw [iv_eq0 (by constructor <;> omega)]; omega)]
          exact no (by rw [em]; exact if_neg (fun z => c2 z.1.1)) G h sam_rf
      · rw [if_neg (by rw [iv_toInt r9]; omega)]
        by_cases d4 : h1 = 4
        · have em : cmdG T g = (if a < 4 ∧ cnS (cT T) a (stn a) = 10 * b + e then some T else none) := by rw [eg]; unfold cmd; rw [if_neg c1, if_neg d2, if_neg d3, if_pos d4]
          rw [if_pos (by rw [iv_toInt r9]; omega), v_I (fun P => c_isNonterminal (d := d + 12) (P := P) ra)]
          by_cases c2 : a < 4
          · have hv := (stn_v ⟨a, c2⟩).2.2.2.1
            dsimp only [Sc_b, Sc_u, Sc_v, Md_len, Md_acts, Md_nxt, Md_ts, Md_bs, Md_lab, Md_xp, Md_sta, Md_tx, Md_nw, Md_tr, Md_rd, Md_di, Md_ke, Md_ik, Md_te, Md_bu, Md_va, Md_ju, Md_ma, As_tx, As_S, As_R, As_nx, As_ct, As_K, As_F] at hv
            have hle := cnS_le (T := cT T) (n := a) (stn a)
            rw [if_neg (by rw [tf_t (by omega)]; decide), k_10 h.1]
            refine x_ctypes (d := d + 8) hE hT hnn h ?_
            intro G1 ed q1 q2 q3
            rw [u_rcv q2.1.1]
            refine ⟨trivial, ?_⟩
            rw [v_I (fun P => c_validCount (d := d + 9) (P := P) hE cT8 q2 c2)]
            by_cases c4 : cnS (cT T) a (stn a) = 10 * b + e
            · rw [if_neg (by rw [iv_eq (by constructor <;> omega) (by constructor <;> omega)]; omega)]
              exact yes (by rw [em]; exact if_pos ⟨c2, c4⟩) G1 q1 q3
            · rw [if_pos (by rw [iv_eq (by constructor <;> omega) (by constructor <;> omega)]; omega)]
              exact no (by rw [em]; exact if_neg (fun z => c4 z.2)) G1 q1 q3
          · rw [if_pos (by rw [tf_f (by omega)]; decide)]
            exact no (by rw [em]; exact if_neg (fun z => c2 z.1)) G h sam_rf
        · rw [if_neg (by rw [iv_toInt r9]; omega)]
          by_cases d5 : h1 = 5
          · have em : cmdG T g = (if a ≤ 6 ∧ cnW T a (2 ^ a) = 10 * b + e then some T else none) := by rw [eg]; unfold cmd; rw [if_neg c1, if_neg d2, if_neg d3, if_neg d4, if_pos d5]
            rw [if_pos (by rw [iv_toInt r9]; omega), v_I (fun P => c_isDepth (d := d + 12) (P := P) ra)]
            by_cases c2 : a ≤ 6
            · have hle := cnW_le (S := T) (dp := a) (2 ^ a)
              have h2 : 2 ^ a ≤ 2 ^ 6 := Nat.pow_le_pow_right (by decide) c2
              have h6 : (2 : Nat) ^ 6 = 64 := rfl
              rw [if_neg (by rw [tf_t (by omega)]; decide), k_2 h.1]
              refine x_jtree (d := d) hE hA hn h ?_
              intro G1 w ed x0 q1 q2 q3
              rw [u_rcv q2.1.1]
              refine ⟨trivial, ?_⟩
              rw [v_I (fun P => c_countAt (d := d + 11) (P := P) q2 okL_tL c2), cn_eq hA.1 c2 _ (Nat.le_refl _), ← cnW_b hTb]
              by_cases c4 : cnW T a (2 ^ a) = 10 * b + e
              · rw [if_neg (by rw [iv_eq (by constructor <;> omega) (by constructor <;> omega)]; omega)]
                exact yes (by rw [em]; exact if_pos ⟨c2, c4⟩) G1 q1 q3
              · rw [if_pos (by rw [iv_eq (by constructor <;> omega) (by constructor <;> omega)]; omega)]
                exact no (by rw [em]; exact if_neg (fun z => c4 z.2)) G1 q1 q3
            · rw [if_pos (by rw [tf_f (by omega)]; decide)]
              exact no (by rw [em]; exact if_neg (fun z => c2 z.1)) G h sam_rf
          · rw [if_neg (by rw [iv_toInt r9]; omega)]
            by_cases d6 : h1 = 6
            · have em : cmdG T g = (if a = 0 ∧ cRn T = 10 * b + e then some T else none) := by rw [eg]; unfold cmd; rw [if_neg c1, if_neg d2, if_neg d3, if_neg d4, if_neg d5, if_pos d6]
              rw [if_pos (by rw [iv_toInt r9]; omega)]
              by_cases c2 : a = 0
              · have hle : cRn T ≤ 244 := chk_le (S := T) 244 T7
                rw [if_neg (by rw [iv_eq0 (by constructor <;> omega)]; omega), k_10 h.1]
                refine x_ctypes (d := d + 8) hE hT hnn h ?_
                intro G1 ed q1 q2 q3
                rw [u_rcv q2.1.1]
                refine ⟨trivial, ?_⟩
                rw [v_I (fun P => c_roundCount (d := d + 12) (P := P) q2)]
                by_cases c4 : cRn T = 10 * b + e
                · rw [if_neg (by rw [iv_eq (by constructor <;> omega) (by constructor <;> omega)]; omega)]
                  exact yes (by rw [em]; exact if_pos ⟨c2, c4⟩) G1 q1 q3
                · rw [if_pos (by rw [iv_eq (by constructor <;> omega) (by constructor <;> omega)]; omega)]
                  exact no (by rw [em]; exact if_neg (fun z => c4 z.2)) G1 q1 q3
              · rw [if_pos (by rw [iv_eq0 (by constructor <;> omega)]; omega)]
                exact no (by rw [em]; exact if_neg (fun z => c2 z.1)) G h sam_rf
            · rw [if_neg (by rw [iv_toInt r9]; omega)]
              exact no (by rw [eg]; unfold cmd; rw [if_neg c1, if_neg d2, if_neg d3, if_neg d4, if_neg d5, if_neg d6]) G h sam_rf
theorem eq_cmp (x y : Int64) : (lg_cmp x y = 0) = (x.toInt = y.toInt) := by
  have h1 := lt_cmp x y
  have h2 := gt_cmp x y
  have e : (lg_cmp x y = 0) ↔ ¬ (lg_cmp x y < 0) ∧ ¬ (0 < lg_cmp x y) := by
    obtain ⟨a, ha, e⟩ := iv_ex (lg_cmp x y)
    rw [e, iv_eq0 ha, iv_lt0 ha, iv_0lt ha]
    omega
  apply propext
  rw [e, h1, h2]
  omega
theorem c_xs43 (hE : EK E) (hA : okA A) (hn : n ≤ 1999900) {k x : Nat} (hk : k ≤ 4) (hx : x < 9223372036854775808) : ∀ (r i : Nat) (G1 : Hp) (T : Sc) (l5 : Option Value), i + r = k → okS T → T.b = A.S.b → CJ E G1 c A n T (n + 1 + i) → sam E G G1 (ivl c 290) → (∀ G2, CI E G2 c A (n + 10) → sam E G G2 (ivl c 290) → P (some (.int (iv (rsL x r i T)))) G2) → Xr E (d + 14) x_X6_runScript 43 [some (.ref c), some (.int (iv (k : Int))), some (.long (lv (x : Int))), none, some (.int (iv (i : Int))), l5] [] G1 P := by
  intro r
  induction r with
  | zero =>
    intro i G1 T l5 hi hT hTb hC hs hP
    refine g_X6_runScript_43 ?_
    rw [if_pos (by rw [iv_le (by constructor <;> omega) (by constructor <;> omega)]; omega)]
    exact hP G1 (CI_m (CJ_CI hC (by omega)) (by omega)) hs
  | succ r ih =>
    intro i G1 T l5 hi hT hTb hC hs hP
    refine g_X6_runScript_43 ?_
    have hle : x / 10000 ^ r ≤ x := Nat.div_le_self _ _
    have eg : (lv ((x / 10000 ^ r : Nat) : Int) - lv ((x / 10000 ^ r : Nat) : Int) / 10000 * 10000).toInt32 = iv ((x / 10000 ^ r % 10000 : Nat) : Int) := by
      rw [show (10000 : Int64) = lv 10000 from rfl, lw_tmod (by generalize x / 10000 ^ r = y at hle; omega) (by decide), lw_i32]
      rfl
    rw [if_neg (by rw [iv_le (by constructor <;> omega) (by constructor <;> omega)]; omega), iv_sub, iv_sub, show (k : Int) - 1 - (i : Int) = (r : Int) by omega, v_J (fun P => c_withoutLastGroups (d := d + 13) (P := P) (show r ≤ 4 by omega) hx), eg, k_rc hC.1]
    have hg : x / 10000 ^ r % 10000 < 10000 := Nat.mod_lt _ (by decide)
    unfold rsL at hP
    generalize x / 10000 ^ r % 10000 = g at hg hP
    refine ⟨trivial, u_I (c_commandSucceeds (d := d) hE hA (by omega) hT hTb (by omega) hC hg) ?_⟩
    rintro v G2 ⟨q1, q2⟩
    cases hc : cmdG T g with
    | none =>
      rw [hc] at q2 hP
      obtain ⟨rfl, q3⟩ := q2
      refine ⟨_, rfl, ?_⟩
      rw [if_neg (by decide)]
      exact hP G2 (CI_m (CJ_CI q3 (by omega)) (by omega)) (sam_tr hs q1)
    | some T' =>
      rw [hc] at q2 hP
      obtain ⟨rfl, q3⟩ := q2
      refine ⟨_, rfl, ?_⟩
      have hok := cmd_ok hT hc
      rw [if_pos (by decide), i_s]
      exact ih (i + 1) G2 T' _ (by omega) hok.1 (hok.2.trans hTb) q3 (sam_tr hs q1) hP
theorem x_runScript (hE : EK E) (hA : okA A) (hn : n ≤ 1999900) (h : CI E G c A n) {k : Int} {x : Int64} (hk : Rg k) : runs E (d + 15) i_X6_runScript [.ref c, .int (iv k), .long x] G (cP E G c n (s_runScript A k x)) := by
  refine e_X6_runScript ?_
  have bad : ¬ ((1 ≤ k ∧ k ≤ 4) ∧ (0 ≤ x.toInt ∧ x.toInt < ((10000 ^ k.toNat : Nat) : Int))) → cP E G c n (s_runScript A k x) (some (.int (iv (-2)))) G := by
    intro z
    have e : s_runScript A k x = (-2, A) := by unfold s_runScript; exact if_neg z
    rw [e]
    exact cP_r h
  by_cases c1 : k < 1
  · rw [if_pos (by rw [iv_lt hk (by decide)]; exact c1)]
    exact bad (fun z => by omega)
  · rw [if_neg (by rw [iv_lt hk (by decide)]; exact c1)]
    by_cases c2 : 4 < k
    · rw [if_pos (by rw [iv_lt (by decide) hk]; exact c2)]
      exact bad (fun z => by omega)
    · rw [if_neg (by rw [iv_lt (by decide) hk]; exact c2)]
      by_cases c3 : x.toInt < 0
      · rw [if_pos (by rw [lt_cmp]; exact c3)]
        exact bad (fun z => by omega)
      · rw [if_neg (by rw [lt_cmp]; exact c3)]
        obtain ⟨k, rfl⟩ := Int.eq_ofNat_of_zero_le (show 0 ≤ k by omega)
        have hk4 : k ≤ 4 := by omega
        have hlt : x.toInt < 9223372036854775808 := by
          have := Int64.toInt_lt x
          omega
        have ex : x = lv ((x.toInt.toNat : Nat) : Int) := by rw [Int.toNat_of_nonneg (by omega), lw_of]
        have hX : x.toInt.toNat < 9223372036854775808 := by omega
        have hle : x.toInt.toNat / 10000 ^ k ≤ x.toInt.toNat := Nat.div_le_self _ _
        have ec := fun P => c_withoutLastGroups (E := E) (G := G) (d := d + 13) (P := P) hk4 hX
        rw [← ex] at ec
        have e0 : (lv ((x.toInt.toNat / 10000 ^ k : Nat) : Int)).toInt = ((x.toInt.toNat / 10000 ^ k : Nat) : Int) := lw_toInt (by generalize x.toInt.toNat / 10000 ^ k = y at hle; omega)
        have hp := p4 hk4
        rw [v_J ec]
        by_cases c4 : x.toInt.toNat / 10000 ^ k = 0
        · have hlt2 : x.toInt.toNat < 10000 ^ k := by
            rcases Nat.div_eq_zero_iff.mp c4 with z | z
            · omega
            · exact z
          have e : s_runScript A (k : Int) x = (rsL x.toInt.toNat k 0 A.S, A) := by unfold s_runScript; exact if_pos ⟨by omega, by rw [Int.toNat_natCast]; omega⟩
          rw [if_pos (by rw [eq_cmp, e0, c4]; rfl), k_9 h.1, k_1 h.1, e]
          obtain ⟨h0, h1, h2, h4, h5, h6, ⟨T, ed, j1, j2, j3⟩⟩ := h
          have h2' := h2
          obtain ⟨w, ed2, g1, g2, g3, g4⟩ := h2'
          rw [Sm_rc j2]
          refine ⟨trivial, u_V (c_Sbecome (d := d + 11) j2 g2 (by omega)) ?_⟩
          rintro v G1 ⟨rfl, b1, b2⟩
          refine ⟨rfl, ?_⟩
          have m : sam E G G1 (ivl (c + 262) 28) := sam_mono b2 (fun a ha => by unfold ivl at *; omega)
          have hC : CJ E G1 c A n A.S (n + 1 + 0) := ⟨K0_s h0 m (by omega), K1_s h1 m (by omega), K2_s h2 m (by omega), K4_s h4 m (by omega), K5_s h5 m (by omega), K6_s h6 m (by omega), ⟨ed + 1, by omega, b1, Yok_new (Yok_sam j3 b2 (fun a _ _ => by unfold ivl; omega)) (by omega)⟩⟩
          have nx := c_xs43 (G := G) (d := d) (E := E) (P := cP E G c n (rsL x.toInt.toNat k 0 A.S, A)) hE hA hn (x := x.toInt.toNat) hk4 hX k 0 G1 A.S none (by omega) hA.1 rfl hC (sam_mono b2 (fun a ha => by unfold ivl at *; omega)) (fun G2 a b => ⟨rfl, a, b⟩)
          rw [← ex] at nx
          exact nx
        · rw [if_neg (by rw [eq_cmp, e0]; intro z; exact c4 (by have : ((x.toInt.toNat / 10000 ^ k : Nat) : Int) = 0 := z; generalize x.toInt.toNat / 10000 ^ k = y at *; omega))]
          refine bad (fun z => c4 (Nat.div_eq_of_lt ?_))
          have := z.2.2
          rw [Int.toNat_natCast] at this
          omega
end CSC
