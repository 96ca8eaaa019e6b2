-- uses 41 42 43
/-! Term: parts, ends, expansion -/
theorem gD_l {xs ys : List Nat} {i : Nat} (h : i < xs.length) : (xs ++ ys).getD i 0 = xs.getD i 0 := by
  simp [List.getD, List.getElem?_append_left h]
theorem gD_r {xs ys : List Nat} {i : Nat} (h : xs.length ≤ i) : (xs ++ ys).getD i 0 = ys.getD (i - xs.length) 0 := by
  simp [List.getD, List.getElem?_append_right h]
def slc (ys : List Nat) (a b : Nat) : List Nat := (ys.drop a).take (b - a)
theorem slc_len {ys : List Nat} {a b : Nat} (h : a ≤ b) (h2 : b ≤ ys.length) : (slc ys a b).length = b - a := by
  unfold slc
  rw [List.length_take, List.length_drop]
  omega
theorem slc_at {ys : List Nat} {a b i : Nat} (h2 : i < b - a) : (slc ys a b).getD i 0 = ys.getD (a + i) 0 := by
  unfold slc
  simp [List.getD, List.getElem?_take, h2, List.getElem?_drop]
theorem slc_all {ys : List Nat} : slc ys 0 ys.length = ys := by
  unfold slc
  simp
/-- how many symbols the next o terms have -/
def eol : Nat → List Nat → Nat
  | 0, _ => 0
  | _ + 1, [] => 0
  | o + 1, y :: ys => 1 + eol (o + ar y) ys
theorem eol_le : ∀ (ys : List Nat) (o : Nat), eol o ys ≤ ys.length := by
  intro ys
  induction ys with
  | nil => intro o; cases o <;> simp [eol]
  | cons y ys ih =>
    intro o
    cases o with
    | zero => simp [eol]
    | succ o =>
      have := ih (o + ar y)
      simp only [eol, List.length_cons]
      omega
theorem dropC {xs : List Nat} {i : Nat} (h : i < xs.length) : xs.drop i = xs.getD i 0 :: xs.drop (i + 1) := by
  rw [List.drop_eq_getElem_cons h]
  simp [List.getD, h]
section TM2
variable {E : Ev} {d : Nat} {G : Hp} {P : Po} {t cap : Nat} {xs : List Nat}
theorem c_addPart (h : Tm E G t cap xs) {s cap2 : Nat} {ys : List Nat} (k : Tm E G s cap2 ys) (hne : t + 1 < s ∨ s + 1 < t) {a b : Int} (ha : Rg a) (hb : Rg b) (hab : Rg (b - a)) : runs E (d + 1) i_X2_addPart [.ref t, .ref s, .int (iv a), .int (iv b)] G (fun v G1 => v = some (.int (tf (0 ≤ a ∧ a ≤ b ∧ b ≤ ys.length ∧ b - a ≤ (cap : Int) - xs.length))) ∧ Tm E G1 t cap (if 0 ≤ a ∧ a ≤ b ∧ b ≤ ys.length ∧ b - a ≤ (cap : Int) - xs.length then xs ++ slc ys a.toNat b.toNat else xs) ∧ sam E G G1 (ivl t 2)) := by
  have h0 := h
  obtain ⟨h1, ⟨f, h2, h3⟩, h4, h5⟩ := h
  obtain ⟨k1, ⟨g, k2, k3⟩, k4, k5⟩ := k
  refine e_X2_addPart ?_
  have g1 : ∀ c, gt E (st E G (t + 1) c) t = some (cO 2 [.ref (t + 1), .int (iv xs.length)]) := fun c => (gt_st_ne (by omega)).trans h1
  simp (disch := first | assumption | omega | decide) only [qFI, qFR, qP, qIA, qBA, qRA, qIS, qBS, qRS, qL, qCp, qCI, qCJ, qCR, qCV, rcv, List.getElem?_cons_zero, List.getElem?_cons_succ, List.set_cons_zero, List.set_cons_succ, List.length_cons, List.length_nil, true_and, and_true, Nat.reduceAdd, Nat.reduceLT, Nat.reduceLeDiff, beq_self_eq_true, Nat.zero_add, Nat.reduceEqDiff, or_true, true_or, if_true, if_false, not_true, not_false_iff, Nat.lt_add_one, Nat.zero_lt_succ, Nat.lt_irrefl, Nat.le_refl, false_or, or_false, h1, h2, k1, k2, g1, iv_add, iv_sub, iv_mul, iv_lt, iv_le, iv_eq, iv_eq0, iv_lt0, iv_0lt, iv_le0, iv_0le, iv_cl, iv_nat, iv_bad, tf_0, tf_iv1, tf_z, iv_max, iv_min, Int.toNat_natCast, Classical.not_not, Decidable.not_not]
  by_cases c1 : a < 0
  · rw [if_pos c1, if_neg (by omega)]
    exact ⟨by rw [tf_f (by omega)], h0, sam_rf⟩
  rw [if_neg c1]
  by_cases c2 : b - a < 0
  · rw [if_pos c2, if_neg (by omega)]
    exact ⟨by rw [tf_f (by omega)], h0, sam_rf⟩
  rw [if_neg c2]
  by_cases c3 : (ys.length : Int) < b
  · rw [if_pos c3, if_neg (by omega)]
    exact ⟨by rw [tf_f (by omega)], h0, sam_rf⟩
  rw [if_neg c3]
  by_cases c4 : b - a ≤ (cap : Int) - xs.length
  · rw [if_pos c4, if_pos (by omega)]
    have e0 : (slc ys a.toNat b.toNat).length = b.toNat - a.toNat := slc_len (by omega) (by omega)
    have e1 : (iv (b - a)).toNatClampNeg = b.toNat - a.toNat := by rw [iv_cl hab]; omega
    refine ⟨⟨by omega, by omega, by omega, by omega, by omega, fun i hi => ?_⟩, by rw [tf_t (by omega)], ⟨?_, ⟨_, (gt_st_ne (by omega)).trans (gt_st_self (by rw [h2]; rfl)), ?_⟩, ⟨by rw [List.length_append, e0]; omega, h4.2⟩, ?_⟩, sam_s (sam_st ⟨by omega, by omega⟩) ⟨Nat.le_refl _, by omega⟩⟩
    · rw [k3 _ (by omega)]
      have := k5 (a.toNat + i) (by omega)
      exact iv_fit1 (by omega)
    · rw [gt_st_self (by rw [g1]; rfl), List.length_append, e0, show (xs.length : Int) + (b - a) = ((xs.length + (b.toNat - a.toNat) : Nat) : Int) by omega]
    · intro i hi
      rw [List.length_append, e0] at hi
      by_cases c : i < xs.length
      · rw [gD_l c, pk_cpy_out (by omega)]
        exact h3 i c
      · rw [gD_r (by omega), slc_at (by omega), pk_cpy_in (by omega) (by omega), k3 _ (by omega)]
    · intro i hi
      rw [List.length_append, e0] at hi
      by_cases c : i < xs.length
      · rw [gD_l c]
        exact h5 i c
      · rw [gD_r (by omega), slc_at (by omega)]
        exact k5 _ (by omega)
  · rw [if_neg c4, if_neg (by omega)]
    exact ⟨by rw [tf_f (by omega)], h0, sam_rf⟩
theorem rcv_o {a c : Nat} {fs : List Value} (h : gt E G a = some (cO c fs)) : rcv E G a c = true := by
  unfold rcv
  rw [h]
  exact beq_self_eq_true c
theorem c_become (h : Tm E G t cap xs) {s cap2 : Nat} {ys : List Nat} (k : Tm E G s cap2 ys) (hne : t + 1 < s ∨ s + 1 < t) (hl : ys.length ≤ cap) : runs E (d + 2) i_X2_become [.ref t, .ref s] G (fun v G1 => v = none ∧ Tm E G1 t cap ys ∧ sam E G G1 (ivl t 2)) := by
  obtain ⟨h1, ⟨f, h2, h3⟩, h4, h5⟩ := h
  refine e_X2_become ?_
  have s1 : sam E G (st E G t (cO 2 [.ref (t + 1), .int (iv 0)])) (ivl t 2) := sam_st ⟨Nat.le_refl _, by omega⟩
  have hk := Tm_sam k s1 (by unfold ivl; omega) (by unfold ivl; omega)
  have ht : Tm E (st E G t (cO 2 [.ref (t + 1), .int (iv 0)])) t cap [] := ⟨gt_st_self (by rw [h1]; rfl), ⟨f, (gt_st_ne (by omega)).trans h2, fun i hi => absurd hi (Nat.not_lt_zero _)⟩, ⟨Nat.zero_le _, h4.2⟩, fun i hi => absurd hi (Nat.not_lt_zero _)⟩
  have hc := c_addPart (d := d) ht hk hne (a := 0) (b := ys.length) (by decide) (by have := k.2.2.1; constructor <;> omega) (by have := k.2.2.1; constructor <;> omega)
  have g1 := hk.1
  simp (disch := first | assumption | omega | decide) only [qFI, qFR, qP, qIA, qBA, qRA, qIS, qBS, qRS, qL, qCp, qCI, qCJ, qCR, qCV, rcv, List.getElem?_cons_zero, List.getElem?_cons_succ, List.set_cons_zero, List.set_cons_succ, List.length_cons, List.length_nil, true_and, and_true, Nat.reduceAdd, Nat.reduceLT, Nat.reduceLeDiff, beq_self_eq_true, Nat.zero_add, Nat.reduceEqDiff, or_true, true_or, if_true, if_false, not_true, not_false_iff, Nat.lt_add_one, Nat.zero_lt_succ, Nat.lt_irrefl, Nat.le_refl, false_or, or_false, h1, g1]
  refine ⟨rcv_o ht.1, ?_⟩
  refine runs_mono _ _ _ _ _ _ ?_ hc
  rintro v G1 ⟨rfl, q1, q2⟩
  dsimp only
  rw [if_pos (by simp; omega)] at q1
  simp only [List.nil_append, Int.toNat_zero, Int.toNat_natCast, slc_all] at q1
  exact ⟨q1, sam_tr s1 q2⟩
theorem c_endLoop (hE : eA E < eB E) (h : Tm E G t cap xs) {w : Int32} : ∀ (n i o : Nat), xs.length - i ≤ n → o ≤ i + 1 → i ≤ 200 → P (some (.int (iv ((i + eol o (xs.drop i) : Nat) : Int)))) G → Xr E (d + 1) x_X2_endOf 8 [some (.ref t), some (.int w), some (.int (iv (o : Int))), some (.int (iv (i : Int)))] [] G P := by
  intro n
  have h0 := h
  obtain ⟨h1, ⟨f, h2, h3⟩, h4, h5⟩ := h
  induction n with
  | zero =>
    intro i o hn ho hi hP
    refine g_X2_endOf_8 ?_
    simp (disch := first | assumption | omega | decide) only [qFI, qFR, qP, qIA, qBA, qRA, qIS, qBS, qRS, qL, qCp, qCI, qCJ, qCR, qCV, rcv, List.getElem?_cons_zero, List.getElem?_cons_succ, List.set_cons_zero, List.set_cons_succ, List.length_cons, List.length_nil, true_and, and_true, Nat.reduceAdd, Nat.reduceLT, Nat.reduceLeDiff, beq_self_eq_true, Nat.zero_add, Nat.reduceEqDiff, or_true, true_or, if_true, if_false, not_true, not_false_iff, Nat.lt_add_one, Nat.zero_lt_succ, Nat.lt_irrefl, Nat.le_refl, false_or, or_false, h1, iv_add, iv_sub, iv_mul, iv_lt, iv_le, iv_eq, iv_eq0, iv_lt0, iv_0lt, iv_le0, iv_0le, iv_cl, iv_nat, iv_bad, tf_0, tf_iv1, tf_z, iv_max, iv_min, Int.toNat_natCast, Classical.not_not, Decidable.not_not]
    have e : xs.drop i = [] := List.drop_eq_nil_of_le (by omega)
    rw [e] at hP
    have e2 : eol o [] = 0 := by cases o <;> rfl
    rw [e2] at hP
    by_cases c : (o : Int) ≤ 0
    · rw [if_pos c]; exact hP
    · rw [if_neg c, if_pos (by omega)]; exact hP
  | succ n ih =>
    intro i o hn ho hi hP
    refine g_X2_endOf_8 ?_
    simp (disch := first | assumption | omega | decide) only [qFI, qFR, qP, qIA, qBA, qRA, qIS, qBS, qRS, qL, qCp, qCI, qCJ, qCR, qCV, rcv, List.getElem?_cons_zero, List.getElem?_cons_succ, List.set_cons_zero, List.set_cons_succ, List.length_cons, List.length_nil, true_and, and_true, Nat.reduceAdd, Nat.reduceLT, Nat.reduceLeDiff, beq_self_eq_true, Nat.zero_add, Nat.reduceEqDiff, or_true, true_or, if_true, if_false, not_true, not_false_iff, Nat.lt_add_one, Nat.zero_lt_succ, Nat.lt_irrefl, Nat.le_refl, false_or, or_false, h1, h2, iv_add, iv_sub, iv_mul, iv_lt, iv_le, iv_eq, iv_eq0, iv_lt0, iv_0lt, iv_le0, iv_0le, iv_cl, iv_nat, iv_bad, tf_0, tf_iv1, tf_z, iv_max, iv_min, Int.toNat_natCast, Classical.not_not, Decidable.not_not]
    by_cases c : (o : Int) ≤ 0
    · rw [if_pos c]
      have e : o = 0 := by omega
      subst e
      simp only [eol, Nat.add_zero] at hP
      exact hP
    · rw [if_neg c]
      by_cases c2 : (xs.length : Int) ≤ i
      · rw [if_pos c2]
        have e : xs.drop i = [] := List.drop_eq_nil_of_le (by omega)
        rw [e] at hP
        have e2 : eol o [] = 0 := by cases o <;> rfl
        rw [e2] at hP
        exact hP
      · rw [if_neg c2]
        refine ⟨by omega, ?_⟩
        have hy := h5 i (by omega)
        rw [h3 i (by omega), c_arN hE hy]
        obtain ⟨o', rfl⟩ : ∃ o', o = o' + 1 := ⟨o - 1, by omega⟩
        have ea := ar_le (xs.getD i 0)
        have e1 : iv ((o' + 1 : Nat) : Int) + (iv (ar (xs.getD i 0) : Nat) - iv 1) = iv ((o' + ar (xs.getD i 0) : Nat) : Int) := by
          rw [iv_sub, iv_add]
          congr 1
          omega
        have e2 : (i : Int) + 1 = ((i + 1 : Nat) : Int) := by omega
        dsimp only
        rw [e1, e2]
        refine ih (i + 1) (o' + ar (xs.getD i 0)) (by omega) (by omega) (by omega) ?_
        rw [dropC (show i < xs.length by omega)] at hP
        simp only [eol] at hP
        rw [show i + 1 + eol (o' + ar (xs.getD i 0)) (xs.drop (i + 1)) = i + (1 + eol (o' + ar (xs.getD i 0)) (xs.drop (i + 1))) by omega]
        exact hP
theorem c_endOf (hE : eA E < eB E) (h : Tm E G t cap xs) {i : Nat} (hi : i ≤ 200) : runs E (d + 2) i_X2_endOf [.ref t, .int (iv (i : Int))] G P = P (some (.int (iv ((i + eol 1 (xs.drop i) : Nat) : Int)))) G := by
  refine runs_one (fun P hP => e_X2_endOf ?_) P
  rw [iv_max (by constructor <;> omega) (by decide), show max (i : Int) 0 = (i : Int) by omega]
  exact c_endLoop hE h (xs.length - i) i 1 (Nat.le_refl _) (by omega) hi hP
end TM2
/-- a body with the arguments put in -/
def sbl (a1 a2 : List Nat) : List Nat → List Nat
  | [] => []
  | y :: ys => (if y = 8 then a1 else if y = 9 then a2 else [y]) ++ sbl a1 a2 ys
/-- the term at i of xs expanded by a body -/
def e1o (xs : List Nat) (i : Nat) : Nat := i + 1 + eol 1 (xs.drop (i + 1))
def e2o (xs : List Nat) (i : Nat) : Nat := i + eol 1 (xs.drop i)
def xpd (xs : List Nat) (i : Nat) (bd : List Nat) : List Nat := xs.take i ++ (sbl (slc xs (i + 1) (e1o xs i)) (slc xs (e1o xs i) (e2o xs i)) bd ++ xs.drop (e2o xs i))
