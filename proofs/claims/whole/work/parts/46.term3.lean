-- uses 41 42 43 44
/-! Term: nonterminals, swapSymbols -/
def nts : Nat → List Nat → Nat
  | a, [] => a
  | a, y :: ys => nts (if 4 ≤ y ∧ y < 8 then a ||| 2 ^ (y - 4) else a) ys
theorem nts_lt : ∀ (ys : List Nat) (a : Nat), a < 16 → nts a ys < 16 := by
  intro ys
  induction ys with
  | nil => intro a h; exact h
  | cons y ys ih =>
    intro a h
    unfold nts
    refine ih _ ?_
    split
    · next c =>
      have : 2 ^ (y - 4) < 2 ^ 4 := Nat.pow_lt_pow_right (by decide) (by omega)
      exact Nat.or_lt_two_pow (n := 4) h this
    · exact h
theorem nts_or : ∀ (ys : List Nat) (a : Nat), nts a ys = a ||| nts 0 ys := by
  intro ys
  induction ys with
  | nil => intro a; simp [nts]
  | cons y ys ih =>
    intro a
    unfold nts
    rw [ih, ih (if 4 ≤ y ∧ y < 8 then 0 ||| 2 ^ (y - 4) else 0)]
    split
    · rw [Nat.zero_or, Nat.or_assoc]
    · rw [Nat.zero_or]
def swp (y : Nat) : Nat := if y = 5 then 6 else if y = 6 then 5 else y
def cnt : List Nat → Nat
  | [] => 0
  | y :: ys => (if y = 5 ∨ y = 6 then 1 else 0) + cnt ys
theorem cnt_le : ∀ ys : List Nat, cnt ys ≤ ys.length := by
  intro ys
  induction ys with
  | nil => exact Nat.le_refl _
  | cons y ys ih =>
    unfold cnt
    rw [List.length_cons]
    split <;> omega
theorem swp_lt {y : Nat} (h : y < 10) : swp y < 10 := by
  unfold swp
  split
  · omega
  · split <;> omega
section T3
variable {E : Ev} {d : Nat} {G : Hp} {P : Po} {t cap : Nat} {xs : List Nat}
theorem i_s {i : Nat} : iv (i : Int) + iv 1 = iv ((i + 1 : Nat) : Int) := by rw [iv_add]; rfl
theorem c_ntLoop (h : Tm E G t cap xs) : ∀ (n i a : Nat) (w : Option Value), xs.length - i ≤ n → i ≤ xs.length → a < 16 → P (some (.int (iv ((nts a (xs.drop i) : Nat) : Int)))) G → Xr E (d + 1) x_X2_nonterminals 4 [some (.ref t), some (.int (iv (a : Int))), some (.int (iv (i : Int))), w] [] G P := by
  intro n
  have h4 := h.2.2.1
  have h5 := h.2.2.2
  induction n with
  | zero =>
    intro i a w hn hi ha hP
    refine g_X2_nonterminals_4 ?_
    rw [Tm_l h]
    simp (disch := first | assumption | omega | decide) only [iv_le]
    rw [if_pos (by omega)]
    rw [List.drop_eq_nil_of_le (by omega)] at hP
    exact hP
  | succ n ih =>
    intro i a w hn hi ha hP
    refine g_X2_nonterminals_4 ?_
    rw [Tm_l h]
    simp (disch := first | assumption | omega | decide) only [iv_le]
    by_cases c : (xs.length : Int) ≤ i
    · rw [if_pos c]
      rw [List.drop_eq_nil_of_le (by omega)] at hP
      exact hP
    · rw [if_neg c, Tm_a h, Tm_g h (by omega)]
      have hy := h5 i (by omega)
      rw [dropC (show i < xs.length by omega)] at hP
      unfold nts at hP
      simp only [Int.toNat_natCast, iv_sub]
      rw [v_I (fun P => c_isNonterminal (d := d) (P := P) (by constructor <;> omega))]
      simp only [tf_0, i_s]
      by_cases c2 : 4 ≤ xs.getD i 0 ∧ xs.getD i 0 < 8
      · rw [if_neg (by omega)]
        rw [if_pos c2] at hP
        have e1 : iv 1 <<< (iv (((xs.getD i 0 : Nat) : Int) - 4) &&& 31) = iv ((2 ^ (xs.getD i 0 - 4) : Nat) : Int) := by
          have : ((xs.getD i 0 : Nat) : Int) - 4 = ((xs.getD i 0 - 4 : Nat) : Int) := by omega
          rw [this]
          have h2 : 2 ^ (xs.getD i 0 - 4) < 2 ^ 4 := Nat.pow_lt_pow_right (by decide) (by omega)
          have := iv_shl (a := 1) (k := xs.getD i 0 - 4) (by omega) (by omega)
          rw [Nat.one_mul] at this
          exact this
        rw [e1, iv_or]
        refine ih _ _ _ (by omega) (by omega) ?_ hP
        have h2 : 2 ^ (xs.getD i 0 - 4) < 2 ^ 4 := Nat.pow_lt_pow_right (by decide) (by omega)
        exact Nat.or_lt_two_pow (n := 4) ha h2
      · rw [if_pos (by omega)]
        rw [if_neg c2] at hP
        exact ih _ _ _ (by omega) (by omega) ha hP
theorem c_nonterminals (h : Tm E G t cap xs) : runs E (d + 2) i_X2_nonterminals [.ref t] G P = P (some (.int (iv ((nts 0 xs : Nat) : Int)))) G := by
  refine runs_one (fun P hP => e_X2_nonterminals ?_) P
  exact c_ntLoop h xs.length 0 0 none (by omega) (by omega) (by decide) hP
theorem Tm_s (h : Tm E G t cap xs) {i y : Nat} (hi : i < xs.length) (hy : y < 10) {F : Hp → Prop} (k : ∀ G1, Tm E G1 t cap (xs.set i y) → sam E G G1 (ivl t 2) → F G1) : qBS E G (t + 1) (iv (i : Int)) (iv (y : Int)) F := by
  obtain ⟨h1, ⟨f, h2, h3⟩, h4, h5⟩ := h
  rw [u_BS h2 (Or.inl rfl) (by omega), Int.toNat_natCast, iv_nar1 (by omega)]
  refine k _ ⟨?_, ⟨_, gt_st_self (by rw [h2]; rfl), fun j hj => ?_⟩, by rw [List.length_set]; exact h4, fun j hj => ?_⟩ (sam_st ⟨by omega, by omega⟩)
  · rw [List.length_set, gt_st_ne (by omega)]
    exact h1
  · rw [List.length_set] at hj
    by_cases c : j = i
    · subst c
      simp [upd, hj]
    · simp only [upd, if_neg c]
      rw [h3 j hj]
      simp [List.getD, List.getElem?_set_ne (fun z => c z.symm)]
  · rw [List.length_set] at hj
    by_cases c : j = i
    · subst c
      simp [hj]
      exact hy
    · have := h5 j hj
      simp [List.getD, List.getElem?_set_ne (fun z => c z.symm)] at this ⊢
      exact this
theorem set_tk {ys : List Nat} {i z : Nat} (h : i < ys.length) : (ys.set i z).take (i + 1) = ys.take i ++ [z] := by
  rw [List.take_succ_eq_append_getElem (by simp; exact h)]
  simp [List.take_set_of_le]
theorem set_dr {ys : List Nat} {i z : Nat} : (ys.set i z).drop (i + 1) = ys.drop (i + 1) := by
  rw [List.drop_set_of_lt (by omega)]
theorem c_swLoop : ∀ (n i c : Nat) (G1 : Hp) (ys : List Nat), ys.length - i ≤ n → i ≤ ys.length → c ≤ i → Tm E G1 t cap ys → sam E G G1 (ivl t 2) → (∀ G2, Tm E G2 t cap (ys.take i ++ (ys.drop i).map swp) → sam E G G2 (ivl t 2) → P (some (.int (iv ((c + cnt (ys.drop i) : Nat) : Int)))) G2) → Xr E d x_X2_swapSymbols 5 [some (.ref t), some (.int (iv 5)), some (.int (iv 6)), some (.int (iv (c : Int))), some (.int (iv (i : Int)))] [] G1 P := by
  intro n
  induction n with
  | zero =>
    intro i c G1 ys hn hi hc h hs hP
    have h4 := h.2.2.1
    refine g_X2_swapSymbols_5 ?_
    rw [Tm_l h]
    simp (disch := first | assumption | omega | decide) only [iv_le]
    rw [if_pos (by omega)]
    rw [List.drop_eq_nil_of_le (by omega), List.take_of_length_le (by omega)] at hP
    simp only [List.map_nil, List.append_nil, cnt, Nat.add_zero] at hP
    exact hP G1 h hs
  | succ n ih =>
    intro i c G1 ys hn hi hc h hs hP
    have h4 := h.2.2.1
    refine g_X2_swapSymbols_5 ?_
    rw [Tm_l h]
    simp (disch := first | assumption | omega | decide) only [iv_le]
    by_cases cc : (ys.length : Int) ≤ i
    · rw [if_pos cc]
      rw [List.drop_eq_nil_of_le (by omega), List.take_of_length_le (by omega)] at hP
      simp only [List.map_nil, List.append_nil, cnt, Nat.add_zero] at hP
      exact hP G1 h hs
    · have hil : i < ys.length := by omega
      have hy := h.2.2.2 i hil
      rw [if_neg cc, Tm_a h, Tm_g h (by omega)]
      simp only [Int.toNat_natCast, i_s, Tm_a h]
      rw [Tm_g h (by omega)]
      simp only [Int.toNat_natCast]
      rw [dropC hil] at hP
      simp only [cnt, List.map_cons] at hP
      have set1 : Tm E G1 t cap ys → (ys.getD i 0 = 5 ∨ ys.getD i 0 = 6) → Xr E d x_X2_swapSymbols 36 [some (.ref t), some (.int (iv 5)), some (.int (iv 6)), some (.int (iv (c : Int))), some (.int (iv (i : Int)))] [] G1 P := by
        intro _ h56
        rw [if_pos h56] at hP
        refine g_X2_swapSymbols_36 ?_
        rw [Tm_a h, Tm_a h, Tm_g h (by omega)]
        have e1 : (iv 5 + iv 6 - iv ((ys.getD (i : Int).toNat 0 : Nat) : Int)).toInt8.toInt32 = iv ((swp (ys.getD i 0) : Nat) : Int) := by
          rw [Int.toNat_natCast]
          rcases h56 with e | e <;> rw [e] <;> decide
        rw [e1]
        refine Tm_s h hil (swp_lt hy) ?_
        intro G2 t1 t2
        simp only [i_s]
        refine ih (i + 1) (c + 1) G2 _ (by rw [List.length_set]; omega) (by rw [List.length_set]; omega) (by omega) t1 (sam_tr hs t2) ?_
        intro G3 p1 p2
        rw [set_tk hil, set_dr] at p1
        rw [set_dr]
        have := hP G3 (by rw [List.append_assoc] at p1; exact p1) p2
        rw [show c + 1 + cnt (ys.drop (i + 1)) = c + (1 + cnt (ys.drop (i + 1))) by omega]
        exact this
      have r5 : (iv (ys.getD i 0 : Nat) = iv 5) = (ys.getD i 0 = 5) := by rw [iv_eq (by constructor <;> omega) (by decide)]; apply propext; omega
      have r6 : (iv (ys.getD i 0 : Nat) = iv 6) = (ys.getD i 0 = 6) := by rw [iv_eq (by constructor <;> omega) (by decide)]; apply propext; omega
      simp only [r5, r6]
      by_cases c5 : ys.getD i 0 = 5
      · rw [if_pos c5]
        exact set1 h (Or.inl c5)
      · rw [if_neg c5]
        by_cases c6 : ys.getD i 0 = 6
        · rw [if_neg (fun z => z c6)]
          exact set1 h (Or.inr c6)
        · rw [if_pos c6]
          rw [if_neg (by omega)] at hP
          refine ih (i + 1) c G1 ys (by omega) (by omega) (by omega) h hs ?_
          intro G2 p1 p2
          have e : swp (ys.getD i 0) = ys.getD i 0 := by unfold swp; rw [if_neg c5, if_neg c6]
          rw [e] at hP
          have e2 : ys.take (i + 1) = ys.take i ++ [ys.getD i 0] := by
            rw [List.take_succ_eq_append_getElem hil]
            simp [List.getD, hil]
          rw [e2, List.append_assoc] at p1
          have := hP G2 p1 p2
          rw [Nat.zero_add] at this
          exact this
theorem c_swapSymbols (h : Tm E G t cap xs) : runs E (d + 1) i_X2_swapSymbols [.ref t, .int (iv 5), .int (iv 6)] G (fun v G1 => v = some (.int (iv ((cnt xs : Nat) : Int))) ∧ Tm E G1 t cap (xs.map swp) ∧ sam E G G1 (ivl t 2)) := by
  refine e_X2_swapSymbols ?_
  refine c_swLoop (G := G) xs.length 0 0 G xs (by omega) (by omega) (by omega) h sam_rf ?_
  intro G2 p1 p2
  rw [List.take_zero, List.drop_zero, List.nil_append] at p1
  rw [List.drop_zero, Nat.zero_add]
  exact ⟨rfl, p1, p2⟩
end T3
