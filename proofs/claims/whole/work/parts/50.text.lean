-- uses 41 42 43 44 45 46 47 48 49
/-! the string; Text's small methods -/
abbrev EK (E : Ev) : Prop := eA E < eB E ∧ eS E < eB E ∧ eV E < eB E
def sy (c : Nat) : Nat := if c = 97 then 0 else if c = 98 then 1 else if c = 99 then 2 else if c = 100 then 3 else if c = 83 then 4 else if c = 70 then 5 else if c = 71 then 6 else if c = 72 then 7 else if c = 120 then 8 else if c = 121 then 9 else 10
def fnd (w : Int32) : Nat → Nat → Int
  | 0, _ => -1
  | k + 1, i => if byts i = w then (i : Int) else fnd w k (i + 1)
theorem fnd_sy : ∀ c : Fin 256, fnd ((iv (c.val : Int)).toInt8.toInt32) 10 0 = if sy c.val = 10 then -1 else (sy c.val : Int) := by decide +kernel
theorem sy_le (c : Nat) : sy c ≤ 10 := by
  unfold sy
  repeat' split
  all_goals omega
section JJ
variable {E : Ev} {d : Nat} {G : Hp} {P : Po}
theorem rcvS (hE : EK E) : (rcv E G (eS E) 9 = true) = True := by
  unfold rcv
  rw [gt_old hE.2.1]
  simp
theorem c_coder (hE : EK E) : runs E (d + 1) i_J0_coder_7d493 [.ref (eS E)] G P = P (some (.int (iv 0))) G := by
  refine runs_one (fun P hP => e_J0_coder_7d493 ?_) P
  rw [if_neg (by decide)]
  exact ⟨⟨gt_old hE.2.1, rfl⟩, hP⟩
theorem c_isLatin1 (hE : EK E) : runs E (d + 1) i_J0_isLatin1_aae02 [.ref (eS E)] G P = P (some (.int (iv 1))) G := by
  refine runs_one (fun P hP => e_J0_isLatin1_aae02 ?_) P
  rw [if_neg (by decide), if_neg (by decide)]
  exact ⟨⟨gt_old hE.2.1, rfl⟩, hP⟩
theorem oL_V (o : Nat) (ho : o ≠ 8) : oL o E (eV E) = some 10 := by
  unfold oL
  rw [if_neg ho]
  split
  · rfl
  · rw [if_pos rfl]
theorem qL_V {o : Nat} {F : Int32 → Prop} (hE : EK E) (ho : o ≠ 8) : qL o E G (eV E) F = F (iv 10) := by
  unfold qL
  rw [gt_old hE.2.2]
  dsimp only
  rw [oL_V o ho]
  rfl
theorem c_slen (hE : EK E) : runs E (d + 2) i_J0_length_8abf5 [.ref (eS E)] G P = P (some (.int (iv 10))) G := by
  refine runs_one (fun P hP => e_J0_length_8abf5 ?_) P
  rw [qL_V hE (by decide), rcvS hE, v_I (fun P => c_coder (d := d) (P := P) hE)]
  refine ⟨⟨gt_old hE.2.1, rfl⟩, trivial, ?_⟩
  have : iv 10 >>> (iv 0 &&& 31) = iv 10 := by decide
  rw [this]
  exact hP
theorem qBA_V {i : Nat} {F : Int32 → Prop} (hE : EK E) (hi : i < 10) : qBA E G (eV E) (iv (i : Int)) F = F (byts i) := by
  have hr : Rg (i : Int) := by constructor <;> omega
  have ob : oB E (eV E) = some (10, byts) := by
    unfold oB
    rw [if_pos rfl]
  unfold qBA
  rw [gt_old hE.2.2]
  dsimp only
  rw [ob]
  dsimp only
  rw [iv_cl hr]
  apply propext
  exact ⟨fun z => z.2, fun z => ⟨iv_in (by omega) (by decide), z⟩⟩
theorem c_iocL (hE : EK E) {x y : Int32} {w : Int32} : ∀ (k i : Nat), i + k = 10 → P (some (.int (iv (fnd w k i)))) G → Xr E d x_J1_indexOfChar_4cfef 7 [some (.ref (eV E)), some (.int x), some (.int y), some (.int (iv 10)), some (.int w), some (.int (iv (i : Int)))] [] G P := by
  intro k
  induction k with
  | zero =>
    intro i hi hP
    refine g_J1_indexOfChar_4cfef_7 ?_
    simp (disch := first | assumption | omega | decide) only [iv_le]
    rw [if_pos (by omega)]
    exact hP
  | succ k ih =>
    intro i hi hP
    refine g_J1_indexOfChar_4cfef_7 ?_
    simp (disch := first | assumption | omega | decide) only [iv_le]
    rw [if_neg (by omega), qBA_V hE (by omega), i_s]
    unfold fnd at hP
    by_cases c : byts i = w
    · rw [if_neg (fun z => z c)]
      rw [if_pos c] at hP
      exact hP
    · rw [if_pos c]
      rw [if_neg c] at hP
      exact ih (i + 1) (by omega) hP
theorem c_canEncode {c : Nat} (hc : c ≤ 255) : runs E (d + 1) i_J1_canEncode_9a6ad [.int (iv (c : Int))] G P = P (some (.int (iv 1))) G := by
  refine runs_one (fun P hP => e_J1_canEncode_9a6ad ?_) P
  simp (disch := first | assumption | omega | decide) only [iv_lt0, iv_lt]
  rw [if_neg (by omega), if_neg (by omega)]
  exact hP
theorem c_ioc (hE : EK E) {c : Nat} (hc : c ≤ 255) : runs E (d + 1) i_J1_indexOfChar_4cfef [.ref (eV E), .int (iv (c : Int)), .int (iv 0), .int (iv 10)] G P = P (some (.int (iv (if sy c = 10 then -1 else (sy c : Int))))) G := by
  refine runs_one (fun P hP => e_J1_indexOfChar_4cfef ?_) P
  refine c_iocL hE (w := (iv (c : Int)).toInt8.toInt32) 10 0 (by omega) ?_
  have := fnd_sy ⟨c, by omega⟩
  dsimp only at this
  rw [this]
  exact hP
theorem c_io1 (hE : EK E) {c : Nat} (hc : c ≤ 255) : runs E (d + 2) i_J1_indexOf_4cfef [.ref (eV E), .int (iv (c : Int)), .int (iv 0), .int (iv 10)] G P = P (some (.int (iv (if sy c = 10 then -1 else (sy c : Int))))) G := by
  refine runs_one (fun P hP => e_J1_indexOf_4cfef ?_) P
  rw [v_I (fun P => c_canEncode (d := d) (P := P) hc), if_pos (by decide), qL_V hE (by decide)]
  have e1 : imax (iv 0) (iv 0) = iv 0 := by decide
  have e2 : imin (iv 10) (iv 10) = iv 10 := by decide
  rw [e1, e2, if_pos (by decide), v_I (fun P => c_ioc (d := d) (P := P) hE hc)]
  exact hP
theorem c_io2 (hE : EK E) {c : Nat} (hc : c ≤ 255) : runs E (d + 3) i_J0_indexOf_7cf53 [.ref (eS E), .int (iv (c : Int)), .int (iv 0)] G P = P (some (.int (iv (if sy c = 10 then -1 else (sy c : Int))))) G := by
  refine runs_one (fun P hP => e_J0_indexOf_7cf53 ?_) P
  rw [rcvS hE, v_I (fun P => c_isLatin1 (d := d + 1) (P := P) hE), if_neg (by decide), v_I (fun P => c_slen (d := d) (P := P) hE), v_I (fun P => c_io1 (d := d) (P := P) hE hc)]
  exact ⟨trivial, ⟨gt_old hE.2.1, rfl⟩, of_eq_true (rcvS hE), hP⟩
theorem c_indexOf (hE : EK E) {c : Nat} (hc : c ≤ 255) : runs E (d + 4) i_J0_indexOf_0f7a4 [.ref (eS E), .int (iv (c : Int))] G P = P (some (.int (iv (if sy c = 10 then -1 else (sy c : Int))))) G := by
  refine runs_one (fun P hP => e_J0_indexOf_0f7a4 ?_) P
  rw [rcvS hE, v_I (fun P => c_io2 (d := d) (P := P) hE hc)]
  exact ⟨trivial, hP⟩
/-! charAt -/
theorem c_J3ci (hF : (eF E).category = 1) {i n : Int} (h : 0 ≤ i ∧ i < n ∧ n < 1000) : runs E (d + 1) i_J3_checkIndex_8e157 [.int (iv i), .int (iv n), eF E] G P = P (some (.int (iv i))) G := by
  refine runs_one (fun P hP => ?_) P
  have e1 : ent [.int (iv i), .int (iv n), eF E] 3 = [some (.int (iv i)), some (.int (iv n)), some (eF E)] := by
    have c1 : ∀ x : Int32, (Value.int x).category = 1 := fun _ => rfl
    simp [ent, hF, c1]
  rw [runs_eq (m := (yJ3_checkIndex_8e157, cJ3_checkIndex_8e157, 3, some (.int), 3, 11, false, true)) rfl (by
    have c1 : ∀ x : Int32, (Value.int x).category = 1 := fun _ => rfl
    simp [entS, hF, c1])]
  show Xr E d (11, cJ3_checkIndex_8e157, false, some (.int)) 0 (ent [.int (iv i), .int (iv n), eF E] 3) [] G P
  rw [e1]
  refine r_iload_n (k := 0) (by decide +kernel) rfl ?_
  refine r_iflt (off := 8) (tgt := 9) (by decide +kernel) (by decide) ?_
  rw [if_neg (by rw [iv_lt0 (by constructor <;> omega)]; omega)]
  refine r_iload_n (k := 0) (by decide +kernel) rfl ?_
  refine r_iload_n (k := 1) (by decide +kernel) rfl ?_
  refine r_clt (off := 10) (tgt := 16) (by decide +kernel) (by decide) ?_
  rw [if_pos (by rw [iv_lt (by constructor <;> omega) (by constructor <;> omega)]; omega)]
  refine r_iload_n (k := 0) (by decide +kernel) rfl ?_
  exact r_iret (by decide +kernel) rfl ⟨rfl, hP⟩
theorem c_J0ci (hF : (eF E).category = 1) {i n : Int} (h : 0 ≤ i ∧ i < n ∧ n < 1000) : runs E (d + 2) i_J0_checkIndex_df160 [.int (iv i), .int (iv n)] G P = P none G := by
  refine runs_one (fun P hP => ?_) P
  rw [runs_eq (m := (yJ0_checkIndex_df160, cJ0_checkIndex_df160, 2, none, 2, 9, false, true)) rfl (Nat.le_of_ble_eq_true rfl)]
  show Xr E (d + 1) (9, cJ0_checkIndex_df160, false, none) 0 [some (.int (iv i)), some (.int (iv n))] [] G P
  refine r_iload_n (k := 0) (by decide +kernel) rfl ?_
  refine r_iload_n (k := 1) (by decide +kernel) rfl ?_
  refine r_gets (x := 1053) (v := eF E) (by decide +kernel) rfl ?_
  refine r_cI (i := .invokestatic 1059) (id := i_J3_checkIndex_8e157) (a := [.int (iv i), .int (iv n), eF E]) (r := []) (by decide +kernel) rfl (invS_eq rfl (by decide) rfl rfl rfl rfl ⟨rfl, Nat.le_of_ble_eq_true rfl⟩) ?_
  rw [v_I (fun P => c_J3ci (d := d) (P := P) hF h)]
  refine r_pop (by decide +kernel) rfl ?_
  exact r_ret (i := .return_) (by decide +kernel) rfl rfl hP
theorem narC : ∀ y : Fin 10, narrow .char (.int (iv (chr y.val : Nat))) = .int (iv (chr y.val : Nat)) ∧ (((byts y.val) &&& iv 255).toUInt32 % 65536).toInt32 = iv (chr y.val : Nat) := by decide +kernel
theorem c_cA1 (hE : EK E) (hF : (eF E).category = 1) {y : Nat} (h : y < 10) : runs E (d + 3) i_J1_charAt_3b067 [.ref (eV E), .int (iv (y : Int))] G P = P (some (.int (iv (chr y : Nat)))) G := by
  refine runs_one (fun P hP => e_J1_charAt_3b067 ?_) P
  have n1 := narC ⟨y, h⟩
  dsimp only at n1
  rw [qL_V hE (by decide)]
  unfold qCV
  rw [c_J0ci (d := d) hF (by omega)]
  dsimp only
  rw [qBA_V hE h, n1.2]
  exact ⟨n1.1, hP⟩
theorem c_charAt (hE : EK E) (hF : (eF E).category = 1) {y : Nat} (h : y < 10) : runs E (d + 4) i_J0_charAt_5068e [.ref (eS E), .int (iv (y : Int))] G P = P (some (.int (iv (chr y : Nat)))) G := by
  refine runs_one (fun P hP => e_J0_charAt_5068e ?_) P
  have n1 := narC ⟨y, h⟩
  dsimp only at n1
  rw [rcvS hE, v_I (fun P => c_isLatin1 (d := d + 2) (P := P) hE), if_neg (by decide), v_I (fun P => c_cA1 (d := d) (P := P) hE hF h)]
  exact ⟨trivial, ⟨gt_old hE.2.1, rfl⟩, n1.1, hP⟩
theorem c_codeOf (hE : EK E) (hF : (eF E).category = 1) {a : Int} (ha : Rg a) : runs E (d + 5) i_X6_codeOf [.int (iv a)] G P = P (some (.int (iv (if 0 ≤ a ∧ a < 10 then (chr a.toNat : Nat) else 0)))) G := by
  refine runs_one (fun P hP => e_X6_codeOf ?_) P
  simp (disch := first | assumption | omega | decide) only [iv_lt0]
  by_cases c : a < 0
  · rw [if_pos c]
    rw [if_neg (by omega)] at hP
    exact hP
  · rw [if_neg c]
    refine ⟨of_eq_true (rcvS hE), ?_⟩
    rw [v_I (fun P => c_slen (d := d + 2) (P := P) hE)]
    simp (disch := first | assumption | omega | decide) only [iv_le]
    by_cases c2 : 10 ≤ a
    · rw [if_pos c2]
      rw [if_neg (by omega)] at hP
      exact hP
    · rw [if_neg c2]
      refine ⟨of_eq_true (rcvS hE), ?_⟩
      obtain ⟨y, rfl⟩ := Int.eq_ofNat_of_zero_le (show 0 ≤ a by omega)
      rw [v_I (fun P => c_charAt (d := d) (P := P) hE hF (show y < 10 by omega))]
      rw [if_pos (by omega)] at hP
      exact hP
end JJ
/-- a text object at x, its characters at x + 1 -/
def Tx (E : Ev) (G : Hp) (x : Nat) (tx : List Nat) (p : Nat) : Prop := gt E G x = some (cO 3 [.ref (x + 1), .int (iv (tx.length : Int)), .int (iv (p : Int))]) ∧ (∃ f, gt E G (x + 1) = some (cA 0 99 f) ∧ ∀ i, i < tx.length → f i = iv (tx.getD i 0 : Nat)) ∧ tx.length ≤ 99 ∧ ∀ i, i < tx.length → tx.getD i 0 ≤ 255
section TX
variable {E : Ev} {d : Nat} {G : Hp} {P : Po} {x p : Nat} {tx : List Nat}
theorem Tx_sam {G1 : Hp} {R : Nat → Prop} (h : Tx E G x tx p) (k : sam E G G1 R) (h1 : ¬ R x) (h2 : ¬ R (x + 1)) : Tx E G1 x tx p := by
  obtain ⟨a, ⟨f, b, c⟩, e⟩ := h
  exact ⟨(k.1 _ h1).trans a, ⟨f, (k.1 _ h2).trans b, c⟩, e⟩
theorem Tx_p {p' : Nat} {F : Hp → Prop} (h : Tx E G x tx p) (k : ∀ G1, Tx E G1 x tx p' → sam E G G1 (ivl x 2) → F G1) : qP E G x 3 2 (.int (iv (p' : Int))) F := by
  obtain ⟨a, ⟨f, b, c⟩, e⟩ := h
  rw [u_P a (by simp)]
  exact k _ ⟨gt_st_self (by rw [a]; rfl), ⟨f, (gt_st_ne (by omega)).trans b, c⟩, e⟩ (sam_st ⟨Nat.le_refl _, by omega⟩)
theorem Tx_inc {F : Hp → Prop} (h : Tx E G x tx p) (k : ∀ G1, Tx E G1 x tx (p + 1) → sam E G G1 (ivl x 2) → F G1) : qFI E G x 3 2 (fun v => qP E G x 3 2 (.int (v + iv 1)) F) := by
  rw [u_FI h.1 rfl, i_s]
  exact Tx_p h k
theorem Tx_r (h : Tx E G x tx p) : (rcv E G x 3 = true) = True := u_rcv h.1
theorem c_Tsize (h : Tx E G x tx p) : runs E (d + 1) i_X3_size [.ref x] G P = P (some (.int (iv (tx.length : Int)))) G := by
  refine runs_one (fun P hP => e_X3_size ?_) P
  rw [u_FI h.1 rfl]
  exact hP
theorem c_Tempty (h : Tx E G x tx p) : runs E (d + 1) i_X3_empty [.ref x] G (fun v G1 => v = none ∧ Tx E G1 x [] p ∧ sam E G G1 (ivl x 2)) := by
  obtain ⟨a, ⟨f, b, c⟩, e⟩ := h
  refine e_X3_empty ?_
  rw [u_P a (by simp)]
  exact ⟨rfl, ⟨gt_st_self (by rw [a]; rfl), ⟨f, (gt_st_ne (by omega)).trans b, fun i hi => absurd hi (Nat.not_lt_zero _)⟩, Nat.zero_le _, fun i hi => absurd hi (Nat.not_lt_zero _)⟩, sam_st ⟨Nat.le_refl _, by omega⟩⟩
theorem c_Tadd (h : Tx E G x tx p) {c : Nat} (hc : c ≤ 255) : runs E (d + 1) i_X3_add [.ref x, .int (iv (c : Int))] G (fun v G1 => v = some (.int (tf (tx.length < 99))) ∧ Tx E G1 x (if tx.length < 99 then tx ++ [c] else tx) p ∧ sam E G G1 (ivl x 2)) := by
  have h0 := h
  obtain ⟨a, ⟨f, b, e1⟩, e2, e3⟩ := h
  refine e_X3_add ?_
  rw [u_FI a rfl, u_FR a rfl, u_L b]
  simp (disch := first | assumption | omega | decide) only [iv_lt]
  by_cases cc : tx.length < 99
  · rw [if_pos (by omega), u_FR a rfl, u_FI a rfl, u_ISn b (by omega), u_FI ((gt_st_ne (by omega)).trans a) rfl, i_s, u_P ((gt_st_ne (by omega)).trans a) (by simp), if_pos cc]
    refine ⟨by rw [tf_t cc], ⟨?_, ⟨_, (gt_st_ne (by omega)).trans (gt_st_self (by rw [b]; rfl)), ?_⟩, by simp; omega, ?_⟩, sam_s (sam_st ⟨by omega, by omega⟩) ⟨by omega, by omega⟩⟩
    · rw [gt_st_self (by rw [gt_st_ne (by omega), a]; rfl), List.length_append]
      rfl
    · intro i hi
      simp at hi
      unfold upd
      by_cases c2 : i = tx.length
      · rw [if_pos c2, c2, gD_r (Nat.le_refl _)]
        simp
      · rw [if_neg c2, gD_l (by omega)]
        exact e1 i (by omega)
    · intro i hi
      simp at hi
      by_cases c2 : i = tx.length
      · rw [c2, gD_r (Nat.le_refl _)]
        simp
        exact hc
      · rw [gD_l (by omega)]
        exact e3 i (by omega)
  · rw [if_neg (by omega), if_neg cc]
    exact ⟨by rw [tf_f cc], h0, sam_rf⟩
theorem c_characterHere (h : Tx E G x tx p) (hp : p ≤ 1000) : runs E (d + 1) i_X3_characterHere [.ref x] G P = P (some (.int (iv (if p < tx.length then ((tx.getD p 0 : Nat) : Int) else -1)))) G := by
  obtain ⟨a, ⟨f, b, e1⟩, e2, e3⟩ := h
  refine runs_one (fun P hP => e_X3_characterHere ?_) P
  rw [u_FI a rfl]
  simp (disch := first | assumption | omega | decide) only [iv_lt0]
  rw [if_neg (by omega), u_FI a rfl, u_FI a rfl]
  simp (disch := first | assumption | omega | decide) only [iv_le]
  by_cases c : p < tx.length
  · rw [if_neg (by omega), u_FR a rfl, u_FI a rfl, u_IAn b (by omega), e1 p c]
    rw [if_pos c] at hP
    exact hP
  · rw [if_pos (by omega)]
    rw [if_neg c] at hP
    exact hP
def sAt (tx : List Nat) (p : Nat) : Nat := if p < tx.length then sy (tx.getD p 0) else 10
theorem sAt_le : sAt tx p ≤ 10 := by
  unfold sAt
  split
  · exact sy_le _
  · exact Nat.le_refl _
theorem ch16 : ∀ c : Fin 256, ((iv (c.val : Int)).toUInt32 % 65536).toInt32 = iv (c.val : Int) := by decide +kernel
theorem c_symbolHere (hE : EK E) (h : Tx E G x tx p) (hp : p ≤ 1000) : runs E (d + 5) i_X3_symbolHere [.ref x] G P = P (some (.int (iv (if sAt tx p = 10 then -1 else (sAt tx p : Int))))) G := by
  refine runs_one (fun P hP => e_X3_symbolHere ?_) P
  rw [Tx_r h, v_I (fun P => c_characterHere (d := d + 3) (P := P) h hp)]
  refine ⟨trivial, ?_⟩
  unfold sAt at hP
  by_cases c : p < tx.length
  · have e3 := h.2.2.2 p c
    rw [if_pos c] at hP ⊢
    simp (disch := first | assumption | omega | decide) only [iv_eq]
    rw [if_pos (by omega)]
    refine ⟨of_eq_true (rcvS hE), ?_⟩
    have e4 := ch16 ⟨tx.getD p 0, by omega⟩
    dsimp only at e4
    rw [e4, v_I (fun P => c_indexOf (d := d) (P := P) hE e3)]
    exact hP
  · rw [if_neg c] at hP ⊢
    rw [if_neg (by simp)]
    exact hP
theorem c_stateHere (h : Tx E G x tx p) (hp : p ≤ 1000) : runs E (d + 2) i_X3_stateHere [.ref x] G P = P (some (.int (iv ((if p < tx.length then ((tx.getD p 0 : Nat) : Int) else (-1 : Int)) - 48)))) G := by
  refine runs_one (fun P hP => e_X3_stateHere ?_) P
  rw [Tx_r h, v_I (fun P => c_characterHere (d := d) (P := P) h hp)]
  rw [iv_sub]
  exact ⟨trivial, hP⟩
theorem c_skip {c : Nat} (h : Tx E G x tx p) (hp : p ≤ 1000) (hc : c ≤ 255) : runs E (d + 2) i_X3_skip [.ref x, .int (iv (c : Int))] G (fun v G1 => v = some (.int (tf (p < tx.length ∧ tx.getD p 0 = c))) ∧ Tx E G1 x tx (if p < tx.length ∧ tx.getD p 0 = c then p + 1 else p) ∧ sam E G G1 (ivl x 2)) := by
  refine e_X3_skip ?_
  rw [Tx_r h, v_I (fun P => c_characterHere (d := d) (P := P) h hp)]
  refine ⟨trivial, ?_⟩
  have hr : Rg (if p < tx.length then ((tx.getD p 0 : Nat) : Int) else (-1 : Int)) := by
    split
    · next c => have := h.2.2.2 p c; constructor <;> omega
    · decide
  simp (disch := first | assumption | omega | decide) only [iv_eq]
  by_cases c1 : p < tx.length ∧ tx.getD p 0 = c
  · rw [if_pos c1.1, if_pos (by omega), if_pos c1]
    refine Tx_inc h ?_
    intro G1 q1 q2
    exact ⟨by rw [tf_t c1], q1, q2⟩
  · have c2 : ¬ ((if p < tx.length then ((tx.getD p 0 : Nat) : Int) else (-1 : Int)) = (c : Int)) := by
      split
      · omega
      · omega
    rw [if_neg c2, if_neg c1]
    exact ⟨by rw [tf_f c1], h, sam_rf⟩
end TX
