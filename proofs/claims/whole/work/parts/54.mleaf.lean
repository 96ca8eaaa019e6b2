-- uses 41 42 43 44 45 46 47 48 49 50 51 52 53
/-! the reference's small methods -/
theorem i64 {a : Int} (ha : Rg a) : ((iv a).toInt64).toInt = a := by
  rw [Int32.toInt_toInt64, iv_toInt ha]
theorem lt_cmp (x y : Int64) : (lg_cmp x y < 0) = (x.toInt < y.toInt) := by
  have := lg_cmp_ge x y
  rw [Int64.le_iff_toInt_le] at this
  apply propext
  rw [← Int32.not_le, this]
  omega
theorem gt_cmp (x y : Int64) : (0 < lg_cmp x y) = (y.toInt < x.toInt) := by
  have := lg_cmp_le x y
  rw [Int64.le_iff_toInt_le] at this
  apply propext
  rw [← Int32.not_le, this]
  omega
section ML
variable {E : Ev} {d : Nat} {G : Hp} {P : Po}
theorem c_in {x y z : Int64} {a b c : Int} (ha : x.toInt = a) (hb : y.toInt = b) (hc : z.toInt = c) : runs E (d + 1) i_X7_in [.long x, .long y, .long z] G P = P (some (.int (tf (b ≤ a ∧ a ≤ c)))) G := by
  refine runs_one (fun P hP => e_X7_in ?_) P
  simp only [lt_cmp, gt_cmp, ha, hb, hc]
  unfold tf at hP
  split at hP <;> (repeat' split) <;> first | exact hP | (exfalso; omega)
theorem c_nt {a : Int} (ha : Rg a) : runs E (d + 2) i_X7_nonterminal [.int (iv a)] G P = P (some (.int (iv (if a = 83 then 0 else if 70 ≤ a ∧ a ≤ 72 then a - 69 else -9)))) G := by
  refine runs_one (fun P hP => e_X7_nonterminal ?_) P
  rw [v_I (fun P => c_in (d := d) (P := P) (i64 ha) (b := 70) (c := 72) rfl rfl)]
  simp (disch := first | assumption | omega | decide) only [iv_eq, tf_0, iv_sub]
  by_cases c1 : a = 83
  · rw [if_neg (by omega)]
    rw [if_pos c1] at hP
    exact hP
  · rw [if_pos c1]
    rw [if_neg c1] at hP
    by_cases c2 : 70 ≤ a ∧ a ≤ 72
    · rw [if_neg (by omega)]
      rw [if_pos c2] at hP
      exact hP
    · rw [if_pos c2]
      rw [if_neg c2] at hP
      exact hP
theorem ntS : ∀ c : Fin 256, (if (c.val : Int) = 83 then (0 : Int) else if 70 ≤ (c.val : Int) ∧ (c.val : Int) ≤ 72 then (c.val : Int) - 69 else -9) = if 4 ≤ sy c.val ∧ sy c.val < 8 then ((sy c.val - 4 : Nat) : Int) else -9 := by decide +kernel
theorem c_ntS {c : Nat} (hc : c ≤ 255) : runs E (d + 2) i_X7_nonterminal [.int (iv (c : Int))] G P = P (some (.int (iv (if 4 ≤ sy c ∧ sy c < 8 then ((sy c - 4 : Nat) : Int) else -9)))) G := by
  have := ntS ⟨c, by omega⟩
  dsimp only [Sc_b, Sc_u, Sc_v, Md_len, Md_acts, Md_nxt, Md_ts, Md_bs, Md_lab, Md_xp, Md_sta, Md_tx, Md_nw, Md_tr, Md_rd, Md_di, Md_ke, Md_ik, Md_te, Md_bu, Md_va, Md_ju, Md_ma] at this
  rw [c_nt (by constructor <;> omega), this]
theorem c_te {a : Int} (ha : Rg a) : runs E (d + 2) i_X7_terminal [.int (iv a)] G P = P (some (.int (iv (if 97 ≤ a ∧ a ≤ 100 then a - 97 else -9)))) G := by
  refine runs_one (fun P hP => e_X7_terminal ?_) P
  rw [v_I (fun P => c_in (d := d) (P := P) (i64 ha) (b := 97) (c := 100) rfl rfl)]
  simp (disch := first | assumption | omega | decide) only [tf_0, iv_sub]
  by_cases c2 : 97 ≤ a ∧ a ≤ 100
  · rw [if_neg (by omega)]
    rw [if_pos c2] at hP
    exact hP
  · rw [if_pos c2]
    rw [if_neg c2] at hP
    exact hP
theorem teS : ∀ c : Fin 256, (if 97 ≤ (c.val : Int) ∧ (c.val : Int) ≤ 100 then (c.val : Int) - 97 else -9) = if sy c.val < 4 then ((sy c.val : Nat) : Int) else -9 := by decide +kernel
theorem c_teS {c : Nat} (hc : c ≤ 255) : runs E (d + 2) i_X7_terminal [.int (iv (c : Int))] G P = P (some (.int (iv (if sy c < 4 then ((sy c : Nat) : Int) else -9)))) G := by
  have := teS ⟨c, by omega⟩
  dsimp only [Sc_b, Sc_u, Sc_v, Md_len, Md_acts, Md_nxt, Md_ts, Md_bs, Md_lab, Md_xp, Md_sta, Md_tx, Md_nw, Md_tr, Md_rd, Md_di, Md_ke, Md_ik, Md_te, Md_bu, Md_va, Md_ju, Md_ma] at this
  rw [c_te (by constructor <;> omega), this]
theorem plS : ∀ t : Fin 4, (if (t.val : Int) = 0 then (2 : Int) else if (t.val : Int) = 1 then 1 else 0) = (ar t.val : Nat) := by decide +kernel
theorem c_places {t : Nat} (ht : t < 4) : runs E (d + 1) i_X7_places [.int (iv (t : Int))] G P = P (some (.int (iv (ar t : Nat)))) G := by
  refine runs_one (fun P hP => e_X7_places ?_) P
  have := plS ⟨t, ht⟩
  dsimp only [Sc_b, Sc_u, Sc_v, Md_len, Md_acts, Md_nxt, Md_ts, Md_bs, Md_lab, Md_xp, Md_sta, Md_tx, Md_nw, Md_tr, Md_rd, Md_di, Md_ke, Md_ik, Md_te, Md_bu, Md_va, Md_ju, Md_ma] at this
  rw [← this] at hP
  simp (disch := first | assumption | omega | decide) only [iv_eq, iv_eq0]
  by_cases c1 : (t : Int) = 0
  · rw [if_neg (by omega)]
    rw [if_pos c1] at hP
    exact hP
  · rw [if_pos c1]
    rw [if_neg c1] at hP
    by_cases c2 : (t : Int) = 1
    · rw [if_neg (by omega)]
      rw [if_pos c2] at hP
      exact hP
    · rw [if_pos c2]
      rw [if_neg c2] at hP
      exact hP
theorem paS : ∀ t : Fin 4, (if (t.val : Int) = 0 then (0 : Int) else if (t.val : Int) = 3 then 2 else 1) = (ar (4 + t.val) : Nat) := by decide +kernel
theorem c_params {t : Nat} (ht : t < 4) : runs E (d + 1) i_X7_parameters [.int (iv (t : Int))] G P = P (some (.int (iv (ar (4 + t) : Nat)))) G := by
  refine runs_one (fun P hP => e_X7_parameters ?_) P
  have := paS ⟨t, ht⟩
  dsimp only [Sc_b, Sc_u, Sc_v, Md_len, Md_acts, Md_nxt, Md_ts, Md_bs, Md_lab, Md_xp, Md_sta, Md_tx, Md_nw, Md_tr, Md_rd, Md_di, Md_ke, Md_ik, Md_te, Md_bu, Md_va, Md_ju, Md_ma] at this
  rw [← this] at hP
  simp (disch := first | assumption | omega | decide) only [iv_eq, iv_eq0]
  by_cases c1 : (t : Int) = 0
  · rw [if_neg (by omega)]
    rw [if_pos c1] at hP
    exact hP
  · rw [if_pos c1]
    rw [if_neg c1] at hP
    by_cases c2 : (t : Int) = 3
    · rw [if_neg (by omega)]
      rw [if_pos c2] at hP
      exact hP
    · rw [if_pos c2]
      rw [if_neg c2] at hP
      exact hP
theorem sy89 : ∀ c : Fin 256, (sy c.val = 8 ↔ c.val = 120) ∧ (sy c.val = 9 ↔ c.val = 121) := by decide +kernel
theorem c_wants {c : Nat} (hc : c ≤ 255) : runs E (d + 3) i_X7_wants [.int (iv (c : Int))] G P = P (some (.int (iv (if sy c = 10 then -9 else (ar (sy c) : Nat))))) G := by
  refine runs_one (fun P hP => e_X7_wants ?_) P
  have h8 := sy89 ⟨c, by omega⟩
  dsimp only [Sc_b, Sc_u, Sc_v, Md_len, Md_acts, Md_nxt, Md_ts, Md_bs, Md_lab, Md_xp, Md_sta, Md_tx, Md_nw, Md_tr, Md_rd, Md_di, Md_ke, Md_ik, Md_te, Md_bu, Md_va, Md_ju, Md_ma] at h8
  have hl := sy_le c
  rw [v_I (fun P => c_teS (d := d) (P := P) hc)]
  by_cases c1 : sy c < 4
  · rw [if_pos c1]
    simp (disch := first | assumption | omega | decide) only [iv_eq]
    rw [if_neg (by omega), v_I (fun P => c_teS (d := d) (P := P) hc), if_pos c1, v_I (fun P => c_places (d := d + 1) (P := P) c1)]
    rw [if_neg (by omega)] at hP
    exact hP
  · rw [if_neg c1, if_pos rfl, v_I (fun P => c_ntS (d := d) (P := P) hc)]
    by_cases c2 : 4 ≤ sy c ∧ sy c < 8
    · rw [if_pos c2]
      simp (disch := first | assumption | omega | decide) only [iv_eq]
      rw [if_neg (by omega), v_I (fun P => c_ntS (d := d) (P := P) hc), if_pos c2, v_I (fun P => c_params (d := d + 1) (P := P) (show sy c - 4 < 4 by omega))]
      rw [if_neg (by omega)] at hP
      rw [show 4 + (sy c - 4) = sy c by omega]
      exact hP
    · rw [if_neg c2, if_pos rfl]
      simp (disch := first | assumption | omega | decide) only [iv_eq]
      by_cases c3 : c = 120
      · rw [if_pos (by omega)]
        have e : sy c = 8 := h8.1.mpr c3
        rw [e] at hP
        exact hP
      · rw [if_neg (by omega)]
        by_cases c4 : c = 121
        · rw [if_neg (by omega)]
          have e : sy c = 9 := h8.2.mpr c4
          rw [e] at hP
          exact hP
        · rw [if_pos (by omega)]
          rw [if_pos (by omega)] at hP
          exact hP
theorem sy120 : ∀ c : Fin 256, sy c.val ≠ 10 → (c.val < 120 ↔ sy c.val < 8) := by decide +kernel
theorem arN : ∀ n : Fin 4, (1 ≤ ar (4 + n.val) ↔ 0 < n.val) ∧ (2 ≤ ar (4 + n.val) ↔ n.val = 3) := by decide +kernel
set_option maxRecDepth 4000 in
theorem c_isAllowed {n c : Nat} (hn : n < 4) (hc : c ≤ 255) : runs E (d + 4) i_X7_isAllowed [.int (iv (n : Int)), .int (iv (c : Int))] G P = P (some (.int (tf (may n (sy c))))) G := by
  refine runs_one (fun P hP => e_X7_isAllowed ?_) P
  have h8 := sy89 ⟨c, by omega⟩
  have h12 := sy120 ⟨c, by omega⟩
  have ha := arN ⟨n, hn⟩
  dsimp only [Sc_b, Sc_u, Sc_v, Md_len, Md_acts, Md_nxt, Md_ts, Md_bs, Md_lab, Md_xp, Md_sta, Md_tx, Md_nw, Md_tr, Md_rd, Md_di, Md_ke, Md_ik, Md_te, Md_bu, Md_va, Md_ju, Md_ma] at h8 h12 ha
  have hl := sy_le c
  have t1 : (c = 120 ∧ 0 < n ∨ c = 121 ∧ n = 3) → Xr E (d + 3) x_X7_isAllowed 21 [some (.int (iv (n : Int))), some (.int (iv (c : Int))), none] [] G P := by
    intro hh
    refine g_X7_isAllowed_21 ?_
    rw [v_I (fun P => c_wants (d := d) (P := P) hc)]
    have c1 : ¬ sy c = 10 := by rcases hh with h | h <;> omega
    have := ar_le (sy c)
    rw [if_neg c1]
    simp (disch := first | assumption | omega | decide) only [iv_eq, iv_lt]
    rw [tf_t (by unfold may; omega)] at hP
    rw [if_neg (by omega), if_neg (by omega), if_neg (by decide)]
    exact hP
  have t0 : ¬ (c = 120 ∧ 0 < n ∨ c = 121 ∧ n = 3) → Xr E (d + 3) x_X7_isAllowed 25 [some (.int (iv (n : Int))), some (.int (iv (c : Int))), none] [] G P := by
    intro hh
    refine g_X7_isAllowed_25 ?_
    rw [v_I (fun P => c_wants (d := d) (P := P) hc)]
    have := ar_le (sy c)
    by_cases c1 : sy c = 10
    · rw [if_pos c1]
      simp only [if_true]
      rw [tf_f (by unfold may; omega)] at hP
      exact hP
    · rw [if_neg c1]
      simp (disch := first | assumption | omega | decide) only [iv_eq, iv_lt]
      rw [if_neg (by omega)]
      rcases Nat.lt_or_ge c 120 with c2 | c2
      · rw [if_pos (by omega)]
        rw [tf_t (by unfold may; omega)] at hP
        exact hP
      · rw [if_neg (by omega), if_pos (by decide)]
        rw [tf_f (by unfold may; omega)] at hP
        exact hP
  have t2 : ¬ (c = 120 ∧ 0 < n) → Xr E (d + 3) x_X7_isAllowed 10 [some (.int (iv (n : Int))), some (.int (iv (c : Int))), none] [] G P := by
    intro hh
    refine g_X7_isAllowed_10 ?_
    simp (disch := first | assumption | omega | decide) only [iv_eq]
    by_cases c1 : c = 121
    · rw [if_neg (by omega)]
      by_cases c2 : n = 3
      · rw [if_neg (by omega)]
        exact t1 (Or.inr ⟨c1, c2⟩)
      · rw [if_pos (by omega)]
        exact t0 (by omega)
    · rw [if_pos (by omega)]
      exact t0 (by omega)
  simp (disch := first | assumption | omega | decide) only [iv_eq, iv_0lt]
  by_cases c1 : c = 120
  · rw [if_neg (by omega)]
    by_cases c2 : 0 < n
    · rw [if_pos (by omega)]
      exact t1 (Or.inl ⟨c1, c2⟩)
    · rw [if_neg (by omega)]
      exact t2 (by omega)
  · rw [if_pos (by omega)]
    exact t2 (by omega)
theorem c_stepAt {q t : Nat} : runs E (d + 1) i_X7_stepAt [.int (iv (q : Int)), .int (iv (t : Int))] G P = P (some (.int (iv ((124 + 3 * (4 * q + t) : Nat) : Int)))) G := by
  refine runs_one (fun P hP => e_X7_stepAt ?_) P
  rw [iv_mul, iv_add, iv_mul, iv_add]
  exact hP
theorem c_mIsNt {a : Int} (ha : Rg a) : runs E (d + 2) i_X7_isNonterminal [.int (iv a)] G P = P (some (.int (tf (0 ≤ a ∧ a < 4)))) G := by
  refine runs_one (fun P hP => e_X7_isNonterminal ?_) P
  rw [v_I (fun P => c_in (d := d) (P := P) (i64 ha) (b := 0) (c := 3) rfl rfl)]
  refine ⟨of_eq_true (tf_z _), ?_⟩
  rw [tf_c (q := 0 ≤ a ∧ a < 4) (by omega)]
  exact hP
theorem c_isPair {a b : Int} (ha : Rg a) (hb : Rg b) : runs E (d + 2) i_X7_isPair [.int (iv a), .int (iv b)] G P = P (some (.int (tf ((0 ≤ a ∧ a < 3) ∧ (0 ≤ b ∧ b < 4))))) G := by
  refine runs_one (fun P hP => e_X7_isPair ?_) P
  rw [v_I (fun P => c_in (d := d) (P := P) (i64 ha) (b := 0) (c := 2) rfl rfl), v_I (fun P => c_in (d := d) (P := P) (i64 hb) (b := 0) (c := 3) rfl rfl)]
  simp only [tf_0]
  unfold tf at hP
  split at hP <;> (repeat' split) <;> first | exact hP | (exfalso; omega)
/-- o terms can be read -/
def cpl : Nat → List Nat → Prop
  | 0, _ => True
  | _ + 1, [] => False
  | o + 1, y :: ys => cpl (o + ar y) ys
theorem syc : ∀ y : Fin 10, sy (chr y.val) = y.val ∧ chr y.val ≤ 255 := by decide +kernel
theorem c_mEndL {a n : Nat} {f : Nat → Int32} {xs : List Nat} {z : Int32} (h : gt E G a = some (cA 0 n f)) (hn : xs.length ≤ n ∧ n ≤ 1000) (hf : ∀ i, i < xs.length → f i = iv (chr (xs.getD i 0) : Nat)) (hx : ∀ i, i < xs.length → xs.getD i 0 < 10) : ∀ (k i o : Nat), xs.length - i ≤ k → o ≤ i + 10 → i ≤ 1000 → cpl o (xs.drop i) → P (some (.int (iv ((i + eol o (xs.drop i) : Nat) : Int)))) G → Xr E (d + 3) x_X7_endOf 4 [some (.ref a), some (.int z), some (.int (iv (o : Int))), some (.int (iv (i : Int)))] [] G P := by
  intro k
  induction k with
  | zero =>
    intro i o hk ho hi hc hP
    refine g_X7_endOf_4 ?_
    simp (disch := first | assumption | omega | decide) only [iv_le0]
    have e : xs.drop i = [] := List.drop_eq_nil_of_le (by omega)
    rw [e] at hc hP
    cases o with
    | zero =>
      rw [if_pos (by omega)]
      exact hP
    | succ o => exact hc.elim
  | succ k ih =>
    intro i o hk ho hi hc hP
    refine g_X7_endOf_4 ?_
    simp (disch := first | assumption | omega | decide) only [iv_le0]
    cases o with
    | zero =>
      rw [if_pos (by omega)]
      simp only [eol, Nat.add_zero] at hP
      exact hP
    | succ o =>
      rw [if_neg (by omega)]
      by_cases c : i < xs.length
      · rw [dropC c] at hc hP
        have hy := hx i c
        have hs := syc ⟨xs.getD i 0, hy⟩
        dsimp only [Sc_b, Sc_u, Sc_v, Md_len, Md_acts, Md_nxt, Md_ts, Md_bs, Md_lab, Md_xp, Md_sta, Md_tx, Md_nw, Md_tr, Md_rd, Md_di, Md_ke, Md_ik, Md_te, Md_bu, Md_va, Md_ju, Md_ma] at hs
        have ha := ar_le (xs.getD i 0)
        rw [u_IAn h (by omega), hf i c, v_I (fun P => c_wants (d := d) (P := P) hs.2), hs.1, if_neg (by omega), i_s]
        have e1 : iv ((o + 1 : Nat) : Int) + (iv ((ar (xs.getD i 0) : Nat) : Int) - iv 1) = iv ((o + ar (xs.getD i 0) : Nat) : Int) := by
          rw [iv_sub, iv_add]
          congr 1
          omega
        rw [e1]
        refine ih (i + 1) (o + ar (xs.getD i 0)) (by omega) (by omega) (by omega) hc ?_
        simp only [eol] at hP
        rw [show i + 1 + eol (o + ar (xs.getD i 0)) (xs.drop (i + 1)) = i + (1 + eol (o + ar (xs.getD i 0)) (xs.drop (i + 1))) by omega]
        exact hP
      · rw [List.drop_eq_nil_of_le (by omega)] at hc
        exact hc.elim
theorem c_mEndOf {a n i : Nat} {f : Nat → Int32} {xs : List Nat} (h : gt E G a = some (cA 0 n f)) (hn : xs.length ≤ n ∧ n ≤ 1000) (hf : ∀ i, i < xs.length → f i = iv (chr (xs.getD i 0) : Nat)) (hx : ∀ i, i < xs.length → xs.getD i 0 < 10) (hi : i ≤ 1000) (hc : cpl 1 (xs.drop i)) : runs E (d + 4) i_X7_endOf [.ref a, .int (iv (i : Int))] G P = P (some (.int (iv ((i + eol 1 (xs.drop i) : Nat) : Int)))) G := by
  refine runs_one (fun P hP => e_X7_endOf ?_) P
  exact c_mEndL h hn hf hx (xs.length - i) i 1 (Nat.le_refl _) (by omega) hi hc hP
end ML
