-- uses 41
/-! the class's small static methods -/
section LF
variable {E : Ev} {d : Nat} {G : Hp} {P : Po}
theorem c_isNonterminal {a : Int} (ha : Rg a) : runs E (d + 1) i_X6_isNonterminal [.int (iv a)] G P = P (some (.int (tf (0 ≤ a ∧ a < 4)))) G := by
  refine runs_one (fun P hP => e_X6_isNonterminal ?_) P
  simp (disch := first | assumption | omega | decide) only [iv_add, iv_sub, iv_mul, iv_lt, iv_le, iv_eq, iv_eq0, iv_lt0, iv_0lt, iv_le0, iv_0le, iv_cl, iv_nat, iv_bad, tf_0, tf_iv1, tf_z, iv_max, iv_min, Int.toNat_natCast, Classical.not_not, Decidable.not_not]
  unfold tf at hP
  split at hP <;> (repeat' split) <;> first | exact hP | (exfalso; omega)
theorem c_isTerminal {a : Int} (ha : Rg a) : runs E (d + 1) i_X6_isTerminal [.int (iv a)] G P = P (some (.int (tf (0 ≤ a ∧ a < 4)))) G := by
  refine runs_one (fun P hP => e_X6_isTerminal ?_) P
  simp (disch := first | assumption | omega | decide) only [iv_add, iv_sub, iv_mul, iv_lt, iv_le, iv_eq, iv_eq0, iv_lt0, iv_0lt, iv_le0, iv_0le, iv_cl, iv_nat, iv_bad, tf_0, tf_iv1, tf_z, iv_max, iv_min, Int.toNat_natCast, Classical.not_not, Decidable.not_not]
  unfold tf at hP
  split at hP <;> (repeat' split) <;> first | exact hP | (exfalso; omega)
theorem c_isState {a : Int} (ha : Rg a) : runs E (d + 1) i_X6_isState [.int (iv a)] G P = P (some (.int (tf (0 ≤ a ∧ a < 3)))) G := by
  refine runs_one (fun P hP => e_X6_isState ?_) P
  simp (disch := first | assumption | omega | decide) only [iv_add, iv_sub, iv_mul, iv_lt, iv_le, iv_eq, iv_eq0, iv_lt0, iv_0lt, iv_le0, iv_0le, iv_cl, iv_nat, iv_bad, tf_0, tf_iv1, tf_z, iv_max, iv_min, Int.toNat_natCast, Classical.not_not, Decidable.not_not]
  unfold tf at hP
  split at hP <;> (repeat' split) <;> first | exact hP | (exfalso; omega)
theorem c_isDepth {a : Int} (ha : Rg a) : runs E (d + 1) i_X6_isDepth [.int (iv a)] G P = P (some (.int (tf (0 ≤ a ∧ a ≤ 6)))) G := by
  refine runs_one (fun P hP => e_X6_isDepth ?_) P
  simp (disch := first | assumption | omega | decide) only [iv_add, iv_sub, iv_mul, iv_lt, iv_le, iv_eq, iv_eq0, iv_lt0, iv_0lt, iv_le0, iv_0le, iv_cl, iv_nat, iv_bad, tf_0, tf_iv1, tf_z, iv_max, iv_min, Int.toNat_natCast, Classical.not_not, Decidable.not_not]
  unfold tf at hP
  split at hP <;> (repeat' split) <;> first | exact hP | (exfalso; omega)
end LF
def ar (y : Nat) : Nat := [2, 1, 0, 0, 0, 1, 1, 2, 0, 0].getD y 0
def chr (y : Nat) : Nat := [97, 98, 99, 100, 83, 70, 71, 72, 120, 121].getD y 0
theorem arit_ar : ∀ y, y < 10 → arit y = iv (ar y : Nat) := by decide +kernel
theorem byts_chr : ∀ y, y < 10 → byts y = iv (chr y : Nat) := by decide +kernel
theorem ar_le : ∀ y, ar y ≤ 2 := by
  intro y
  match y with
  | 0 => decide | 1 => decide | 2 => decide | 3 => decide | 4 => decide | 5 => decide | 6 => decide | 7 => decide | 8 => decide | 9 => decide
  | y + 10 => simp [ar]
section LG
variable {E : Ev} {d : Nat} {G : Hp} {P : Po}
theorem c_arityOf (hE : eA E < eB E) {a : Int} (ha : Rg a) : runs E (d + 1) i_X6_arityOf [.int (iv a)] G P = P (some (.int (iv (if 0 ≤ a ∧ a < 10 then (ar a.toNat : Nat) else 0)))) G := by
  refine runs_one (fun P hP => e_X6_arityOf ?_) P
  have ho : gt E G (eA E) = none := gt_old hE
  have h1 : oL 6 E (eA E) = some 10 := by simp [oL]
  have h2 : oI 6 E (eA E) = some (10, arit) := by simp [oI]
  simp (disch := first | assumption | omega | decide) only [qFI, qFR, qP, qIA, qBA, qRA, qIS, qBS, qRS, qL, qCp, qCI, qCJ, qCR, qCV, rcv, ho, h1, h2, iv_add, iv_sub, iv_mul, iv_lt, iv_le, iv_eq, iv_eq0, iv_lt0, iv_0lt, iv_le0, iv_0le, iv_cl, iv_nat, iv_bad, tf_0, tf_iv1, tf_z, iv_max, iv_min, Int.toNat_natCast, Classical.not_not, Decidable.not_not]
  by_cases c1 : a < 0
  · rw [if_pos c1]
    rw [if_neg (by omega)] at hP
    exact hP
  · rw [if_neg c1]
    by_cases c2 : (10 : Int) ≤ a
    · rw [if_pos (by exact_mod_cast c2)]
      rw [if_neg (by omega)] at hP
      exact hP
    · rw [if_neg (by exact_mod_cast c2)]
      rw [if_pos (by omega)] at hP
      refine ⟨by omega, ?_⟩
      rw [arit_ar _ (by omega)]
      exact hP
theorem c_arN (hE : eA E < eB E) {y : Nat} (hy : y < 10) : runs E (d + 1) i_X6_arityOf [.int (iv (y : Int))] G P = P (some (.int (iv (ar y : Nat)))) G := by
  rw [c_arityOf hE (by constructor <;> omega), if_pos (by omega)]
  rfl
theorem c_arityOfNonterminal (hE : eA E < eB E) {n : Nat} (hn : n < 4) : runs E (d + 2) i_X6_arityOfNonterminal [.int (iv (n : Int))] G P = P (some (.int (iv (ar (4 + n) : Nat)))) G := by
  refine runs_one (fun P hP => e_X6_arityOfNonterminal ?_) P
  have e : (4 : Int) + (n : Int) = ((4 + n : Nat) : Int) := by omega
  simp (disch := first | assumption | omega | decide) only [qFI, qFR, qP, qIA, qBA, qRA, qIS, qBS, qRS, qL, qCp, qCI, qCJ, qCR, qCV, rcv, iv_add, iv_sub, iv_mul, iv_lt, iv_le, iv_eq, iv_eq0, iv_lt0, iv_0lt, iv_le0, iv_0le, iv_cl, iv_nat, iv_bad, tf_0, tf_iv1, tf_z, iv_max, iv_min, Int.toNat_natCast, Classical.not_not, Decidable.not_not, e, c_arN hE (show 4 + n < 10 by omega)]
  exact hP
theorem c_setsOf {a b : Int} : runs E (d + 1) i_X6_setsOf [.int (iv a), .int (iv b)] G P = P (some (.int (iv (a + 8 * b)))) G := by
  refine runs_one (fun P hP => e_X6_setsOf ?_) P
  simp (disch := first | assumption | omega | decide) only [iv_add, iv_sub, iv_mul, iv_lt, iv_le, iv_eq, iv_eq0, iv_lt0, iv_0lt, iv_le0, iv_0le, iv_cl, iv_nat, iv_bad, tf_0, tf_iv1, tf_z, iv_max, iv_min, Int.toNat_natCast, Classical.not_not, Decidable.not_not]
  exact hP
theorem c_firstOf {a : Nat} : runs E (d + 1) i_X6_firstOf [.int (iv (a : Int))] G P = P (some (.int (iv ((a % 8 : Nat) : Int)))) G := by
  refine runs_one (fun P hP => e_X6_firstOf ?_) P
  have e : iv (a : Int) &&& iv 7 = iv ((a % 8 : Nat) : Int) := by
    have := iv_and a 7
    rw [show (a &&& 7 : Nat) = a % 8 from Nat.and_two_pow_sub_one_eq_mod a 3] at this
    exact this
  rw [e]
  exact hP
theorem c_secondOf {a : Nat} (h : a < 1000) : runs E (d + 1) i_X6_secondOf [.int (iv (a : Int))] G P = P (some (.int (iv ((a / 8 : Nat) : Int)))) G := by
  refine runs_one (fun P hP => e_X6_secondOf ?_) P
  have e : iv (a : Int) >>> (iv 3 &&& 31) = iv ((a / 8 : Nat) : Int) := iv_shr (k := 3) (by decide) (by omega)
  rw [e]
  exact hP
theorem c_childOf {a b : Int} : runs E (d + 1) i_X6_childOf [.int (iv a), .int (iv b)] G P = P (some (.int (iv (2 * a + b - 1)))) G := by
  refine runs_one (fun P hP => e_X6_childOf ?_) P
  simp (disch := first | assumption | omega | decide) only [iv_add, iv_sub, iv_mul, iv_lt, iv_le, iv_eq, iv_eq0, iv_lt0, iv_0lt, iv_le0, iv_0le, iv_cl, iv_nat, iv_bad, tf_0, tf_iv1, tf_z, iv_max, iv_min, Int.toNat_natCast, Classical.not_not, Decidable.not_not]
  exact hP
theorem c_suitsChild (hE : eA E < eB E) {t : Nat} (ht : t < 4) {k q : Int} (hk : Rg k) (hq : Rg q) : runs E (d + 2) i_X6_suitsChild [.int (iv (t : Int)), .int (iv k), .int (iv q)] G P = P (some (.int (tf ((k ≤ ar t ∧ 0 ≤ q ∧ q < 3) ∨ (ar t < k ∧ q = 0))))) G := by
  refine runs_one (fun P hP => e_X6_suitsChild ?_) P
  have := ar_le t
  simp (disch := first | assumption | omega | decide) only [qFI, qFR, qP, qIA, qBA, qRA, qIS, qBS, qRS, qL, qCp, qCI, qCJ, qCR, qCV, rcv, iv_add, iv_sub, iv_mul, iv_lt, iv_le, iv_eq, iv_eq0, iv_lt0, iv_0lt, iv_le0, iv_0le, iv_cl, iv_nat, iv_bad, tf_0, tf_iv1, tf_z, iv_max, iv_min, Int.toNat_natCast, Classical.not_not, Decidable.not_not, c_arN hE (show t < 10 by omega), c_isState hq]
  by_cases c1 : (ar t : Int) < k
  · rw [if_pos c1]
    unfold tf at hP
    split at hP <;> (repeat' split) <;> first | exact hP | (exfalso; omega)
  · rw [if_neg c1]
    rw [tf_c (q := 0 ≤ q ∧ q < 3) (by omega)] at hP
    exact ⟨trivial, hP⟩
theorem c_suitsParameter (hE : eA E < eB E) {n : Nat} (hn : n < 4) {k q : Int} (hk : Rg k) (hq : Rg q) : runs E (d + 3) i_X6_suitsParameter [.int (iv (n : Int)), .int (iv k), .int (iv q)] G P = P (some (.int (tf ((k ≤ ar (4 + n) ∧ 0 ≤ q ∧ q ≤ 7) ∨ (ar (4 + n) < k ∧ q = 0))))) G := by
  refine runs_one (fun P hP => e_X6_suitsParameter ?_) P
  have := ar_le (4 + n)
  simp (disch := first | assumption | omega | decide) only [qFI, qFR, qP, qIA, qBA, qRA, qIS, qBS, qRS, qL, qCp, qCI, qCJ, qCR, qCV, rcv, iv_add, iv_sub, iv_mul, iv_lt, iv_le, iv_eq, iv_eq0, iv_lt0, iv_0lt, iv_le0, iv_0le, iv_cl, iv_nat, iv_bad, tf_0, tf_iv1, tf_z, iv_max, iv_min, Int.toNat_natCast, Classical.not_not, Decidable.not_not, c_arityOfNonterminal hE hn]
  by_cases c1 : (ar (4 + n) : Int) < k
  · rw [if_pos c1]
    unfold tf at hP
    split at hP <;> (repeat' split) <;> first | exact hP | (exfalso; omega)
  · rw [if_neg c1]
    unfold tf at hP
    split at hP <;> (repeat' split) <;> first | exact hP | (exfalso; omega)
end LG
