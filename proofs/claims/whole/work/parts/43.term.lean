-- uses 41 42
/-! Term -/
section TM
variable {E : Ev} {d : Nat} {G : Hp} {P : Po} {t cap : Nat} {xs : List Nat}
theorem c_size (h : Tm E G t cap xs) : runs E (d + 1) i_X2_size [.ref t] G P = P (some (.int (iv xs.length))) G := by
  obtain ⟨h1, ⟨f, h2, h3⟩, h4, h5⟩ := h
  refine runs_one (fun P hP => e_X2_size ?_) P
  simp (disch := first | assumption | omega | decide) only [qFI, qFR, qP, qIA, qBA, qRA, qIS, qBS, qRS, qL, qCp, qCI, qCJ, qCR, qCV, rcv, List.getElem?_cons_zero, List.getElem?_cons_succ, List.set_cons_zero, List.set_cons_succ, List.length_cons, List.length_nil, true_and, and_true, Nat.reduceAdd, Nat.reduceLT, Nat.reduceLeDiff, beq_self_eq_true, Nat.zero_add, Nat.reduceEqDiff, or_true, true_or, if_true, if_false, not_true, not_false_iff, Nat.lt_add_one, Nat.zero_lt_succ, Nat.lt_irrefl, Nat.le_refl, false_or, or_false, h1]
  exact hP
theorem c_holds (h : Tm E G t cap xs) {i : Int} (hi : Rg i) : runs E (d + 1) i_X2_holds [.ref t, .int (iv i)] G P = P (some (.int (tf (0 ≤ i ∧ i < xs.length)))) G := by
  obtain ⟨h1, ⟨f, h2, h3⟩, h4, h5⟩ := h
  refine runs_one (fun P hP => e_X2_holds ?_) P
  simp (disch := first | assumption | omega | decide) only [qFI, qFR, qP, qIA, qBA, qRA, qIS, qBS, qRS, qL, qCp, qCI, qCJ, qCR, qCV, rcv, List.getElem?_cons_zero, List.getElem?_cons_succ, List.set_cons_zero, List.set_cons_succ, List.length_cons, List.length_nil, true_and, and_true, Nat.reduceAdd, Nat.reduceLT, Nat.reduceLeDiff, beq_self_eq_true, Nat.zero_add, Nat.reduceEqDiff, or_true, true_or, if_true, if_false, not_true, not_false_iff, Nat.lt_add_one, Nat.zero_lt_succ, Nat.lt_irrefl, Nat.le_refl, false_or, or_false, h1, iv_add, iv_sub, iv_mul, iv_lt, iv_le, iv_eq, iv_eq0, iv_lt0, iv_0lt, iv_le0, iv_0le, iv_cl, iv_nat, iv_bad, tf_0, tf_iv1, tf_z, iv_max, iv_min, Int.toNat_natCast, Classical.not_not, Decidable.not_not]
  unfold tf at hP
  split at hP <;> (repeat' split) <;> first | exact hP | (exfalso; omega)
theorem c_symbol (h : Tm E G t cap xs) {i : Int} (hi : Rg i) : runs E (d + 2) i_X2_symbol [.ref t, .int (iv i)] G P = P (some (.int (iv (if 0 ≤ i ∧ i < xs.length then (xs.getD i.toNat 0 : Nat) else -1)))) G := by
  have hc := fun P => c_holds (d := d) (P := P) h hi
  obtain ⟨h1, ⟨f, h2, h3⟩, h4, h5⟩ := h
  refine runs_one (fun P hP => e_X2_symbol ?_) P
  simp (disch := first | assumption | omega | decide) only [qFI, qFR, qP, qIA, qBA, qRA, qIS, qBS, qRS, qL, qCp, qCI, qCJ, qCR, qCV, rcv, List.getElem?_cons_zero, List.getElem?_cons_succ, List.set_cons_zero, List.set_cons_succ, List.length_cons, List.length_nil, true_and, and_true, Nat.reduceAdd, Nat.reduceLT, Nat.reduceLeDiff, beq_self_eq_true, Nat.zero_add, Nat.reduceEqDiff, or_true, true_or, if_true, if_false, not_true, not_false_iff, Nat.lt_add_one, Nat.zero_lt_succ, Nat.lt_irrefl, Nat.le_refl, false_or, or_false, h1, h2, hc, iv_add, iv_sub, iv_mul, iv_lt, iv_le, iv_eq, iv_eq0, iv_lt0, iv_0lt, iv_le0, iv_0le, iv_cl, iv_nat, iv_bad, tf_0, tf_iv1, tf_z, iv_max, iv_min, Int.toNat_natCast, Classical.not_not, Decidable.not_not]
  by_cases c : 0 ≤ i ∧ i < xs.length
  · rw [if_neg (fun z => z c)]
    rw [if_pos c] at hP
    refine ⟨by omega, ?_⟩
    rw [h3 _ (by omega)]
    exact hP
  · rw [if_pos c]
    rw [if_neg c] at hP
    exact hP
theorem c_symN (h : Tm E G t cap xs) {i : Nat} (hi : i < xs.length) : runs E (d + 2) i_X2_symbol [.ref t, .int (iv (i : Int))] G P = P (some (.int (iv (xs.getD i 0 : Nat)))) G := by
  have := h.2.2.1
  rw [c_symbol h (by constructor <;> omega), if_pos (by omega)]
  rfl
theorem c_empty (h : Tm E G t cap xs) : runs E (d + 1) i_X2_empty [.ref t] G (fun v G1 => v = none ∧ Tm E G1 t cap [] ∧ sam E G G1 (ivl t 2)) := by
  obtain ⟨h1, ⟨f, h2, h3⟩, h4, h5⟩ := h
  refine e_X2_empty ?_
  simp (disch := first | assumption | omega | decide) only [qFI, qFR, qP, qIA, qBA, qRA, qIS, qBS, qRS, qL, qCp, qCI, qCJ, qCR, qCV, rcv, List.getElem?_cons_zero, List.getElem?_cons_succ, List.set_cons_zero, List.set_cons_succ, List.length_cons, List.length_nil, true_and, and_true, Nat.reduceAdd, Nat.reduceLT, Nat.reduceLeDiff, beq_self_eq_true, Nat.zero_add, Nat.reduceEqDiff, or_true, true_or, if_true, if_false, not_true, not_false_iff, Nat.lt_add_one, Nat.zero_lt_succ, Nat.lt_irrefl, Nat.le_refl, false_or, or_false, h1]
  refine ⟨⟨gt_st_self (by rw [h1]; rfl), ⟨f, (gt_st_ne (by omega)).trans h2, fun i hi => absurd hi (Nat.not_lt_zero _)⟩, ⟨Nat.zero_le _, h4.2⟩, fun i hi => absurd hi (Nat.not_lt_zero _)⟩, sam_st ⟨Nat.le_refl _, by omega⟩⟩
theorem c_add (h : Tm E G t cap xs) {y : Nat} (hy : y < 10) : runs E (d + 1) i_X2_add [.ref t, .int (iv (y : Int))] G (fun v G1 => v = some (.int (tf (xs.length < cap))) ∧ Tm E G1 t cap (if xs.length < cap then xs ++ [y] else xs) ∧ sam E G G1 (ivl t 2)) := by
  have h0 := h
  obtain ⟨h1, ⟨f, h2, h3⟩, h4, h5⟩ := h
  refine e_X2_add ?_
  have e8 : (iv (y : Int)).toInt8.toInt32 = iv (y : Int) := iv_b8 (by omega)
  have en : vp_nar (kT 1) (iv (y : Int)) = iv (y : Int) := iv_nar1 (by omega)
  have g1 : ∀ c, gt E (st E G (t + 1) c) t = some (cO 2 [.ref (t + 1), .int (iv xs.length)]) := fun c => (gt_st_ne (by omega)).trans h1
  simp (disch := first | assumption | omega | decide) only [qFI, qFR, qP, qIA, qBA, qRA, qIS, qBS, qRS, qL, qCp, qCI, qCJ, qCR, qCV, rcv, List.getElem?_cons_zero, List.getElem?_cons_succ, List.set_cons_zero, List.set_cons_succ, List.length_cons, List.length_nil, true_and, and_true, Nat.reduceAdd, Nat.reduceLT, Nat.reduceLeDiff, beq_self_eq_true, Nat.zero_add, Nat.reduceEqDiff, or_true, true_or, if_true, if_false, not_true, not_false_iff, Nat.lt_add_one, Nat.zero_lt_succ, Nat.lt_irrefl, Nat.le_refl, false_or, or_false, h1, h2, e8, en, g1, iv_add, iv_sub, iv_mul, iv_lt, iv_le, iv_eq, iv_eq0, iv_lt0, iv_0lt, iv_le0, iv_0le, iv_cl, iv_nat, iv_bad, tf_0, tf_iv1, tf_z, iv_max, iv_min, Int.toNat_natCast, Classical.not_not, Decidable.not_not]
  by_cases c : xs.length < cap
  · rw [if_pos (by omega), if_pos c]
    refine ⟨by omega, tf_t c ▸ rfl, ⟨?_, ⟨upd f xs.length (iv (y : Int)), ?_, ?_⟩, ⟨by simp; omega, h4.2⟩, ?_⟩, sam_s (sam_st ⟨by omega, by omega⟩) ⟨Nat.le_refl _, by omega⟩⟩
    · rw [gt_st_self (by rw [g1]; rfl)]
      simp
    · rw [gt_st_ne (by omega), gt_st_self (by rw [h2]; rfl)]
    · intro i hi
      simp at hi
      by_cases e : i = xs.length
      · subst e
        simp [upd]
      · have : i < xs.length := by omega
        simp only [upd, if_neg e]
        rw [h3 i this]
        simp [List.getD, List.getElem?_append_left this]
    · intro i hi
      simp at hi
      by_cases e : i = xs.length
      · subst e
        simp
        exact hy
      · have : i < xs.length := by omega
        have := h5 i this
        simp [List.getD, List.getElem?_append_left (show i < xs.length by omega)] at this ⊢
        exact this
  · rw [if_neg (by omega), if_neg c]
    exact ⟨tf_f c ▸ rfl, h0, sam_rf⟩
end TM
