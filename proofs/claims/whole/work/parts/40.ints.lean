/-! LAYER 2: numbers -/
abbrev Rg (a : Int) : Prop := -2147483648 ≤ a ∧ a ≤ 2147483647
theorem iv_add (a b : Int) : iv a + iv b = iv (a + b) := by
  unfold iv
  exact (Int32.ofInt_add a b).symm
theorem iv_sub (a b : Int) : iv a - iv b = iv (a - b) := by
  unfold iv
  exact (Int32.ofInt_sub a b).symm
theorem iv_mul (a b : Int) : iv a * iv b = iv (a * b) := by
  unfold iv
  exact (Int32.ofInt_mul a b).symm
theorem iv_toInt {a : Int} (h : Rg a) : (iv a).toInt = a := by
  unfold iv
  exact Int32.toInt_ofInt_of_le (by have := h.1; omega) (by have := h.2; omega)
theorem iv_of (x : Int32) : iv x.toInt = x := by
  unfold iv
  exact Int32.ofInt_toInt x
theorem iv_rg (x : Int32) : Rg x.toInt := by
  have h1 := Int32.le_toInt x
  have h2 := Int32.toInt_lt x
  constructor <;> omega
theorem iv_ex (x : Int32) : ∃ a : Int, Rg a ∧ x = iv a := ⟨x.toInt, iv_rg x, (iv_of x).symm⟩
theorem iv_lt {a b : Int} (ha : Rg a) (hb : Rg b) : (iv a < iv b) = (a < b) := by
  rw [Int32.lt_iff_toInt_lt, iv_toInt ha, iv_toInt hb]
theorem iv_le {a b : Int} (ha : Rg a) (hb : Rg b) : (iv a ≤ iv b) = (a ≤ b) := by
  rw [Int32.le_iff_toInt_le, iv_toInt ha, iv_toInt hb]
theorem iv_eq {a b : Int} (ha : Rg a) (hb : Rg b) : (iv a = iv b) = (a = b) := by
  rw [← Int32.toInt_inj, iv_toInt ha, iv_toInt hb]
theorem iv_z : (0 : Int32) = iv 0 := by decide
theorem iv_eq0 {a : Int} (ha : Rg a) : (iv a = 0) = (a = 0) := by rw [iv_z]; exact iv_eq ha (by decide)
theorem iv_lt0 {a : Int} (ha : Rg a) : (iv a < 0) = (a < 0) := by rw [iv_z]; exact iv_lt ha (by decide)
theorem iv_0lt {a : Int} (ha : Rg a) : (0 < iv a) = (0 < a) := by rw [iv_z]; exact iv_lt (by decide) ha
theorem iv_le0 {a : Int} (ha : Rg a) : (iv a ≤ 0) = (a ≤ 0) := by rw [iv_z]; exact iv_le ha (by decide)
theorem iv_0le {a : Int} (ha : Rg a) : (0 ≤ iv a) = (0 ≤ a) := by rw [iv_z]; exact iv_le (by decide) ha
theorem iv_cl {a : Int} (ha : Rg a) : (iv a).toNatClampNeg = a.toNat := by
  show (iv a).toInt.toNat = a.toNat
  rw [iv_toInt ha]
theorem iv_bad {a : Int} {n : Nat} (ha : Rg a) : bad (iv a) n = ¬ (0 ≤ a ∧ a < n) := by
  unfold bad
  rw [iv_lt0 ha, iv_cl ha]
  apply propext
  omega
theorem iv_nat (n : Nat) : Int32.ofNat n = iv n := by
  unfold iv
  exact (Int32.ofInt_eq_ofNat).symm
theorem iv_nI (n : Nat) : nI n = iv n := iv_nat n
theorem iv_b8k : ∀ k : Fin 256, (iv ((k.val : Int) - 128)).toInt8.toInt32 = iv ((k.val : Int) - 128) := by decide +kernel
theorem iv_b8 {a : Int} (h : -128 ≤ a ∧ a ≤ 127) : (iv a).toInt8.toInt32 = iv a := by
  have := iv_b8k ⟨(a + 128).toNat, by omega⟩
  have e : (((a + 128).toNat : Nat) : Int) - 128 = a := by omega
  dsimp only at this
  rw [e] at this
  exact this
theorem iv_nar1 {a : Int} (h : -128 ≤ a ∧ a ≤ 127) : vp_nar (kT 1) (iv a) = iv a := by
  show vp_nar .byte (iv a) = _
  rw [vp_nar_byte]
  exact iv_b8 h
theorem iv_nar2 {a : Int} (h : a = 0 ∨ a = 1) : vp_nar (kT 2) (iv a) = iv a := by
  rcases h with rfl | rfl <;> decide
theorem iv_narZ {a : Int} (h : a = 0 ∨ a = 1) : (narrow .boolean (.int (iv a)) = .int (iv a)) = True := by
  rcases h with rfl | rfl <;> simp <;> rfl
theorem iv_fit1 {a : Int} (h : -128 ≤ a ∧ a ≤ 127) : fits .byte (.int (iv a)) = true := by
  have := pk_fb (iv a)
  rw [iv_b8 h] at this
  exact this
theorem iv_tdiv {a b : Int} (ha : 0 ≤ a ∧ a ≤ 2147483647) (hb : 0 < b ∧ b ≤ 2147483647) : iv a / iv b = iv (a / b) := by
  obtain ⟨m, rfl⟩ := Int.eq_ofNat_of_zero_le ha.1
  obtain ⟨k, rfl⟩ := Int.eq_ofNat_of_zero_le (Int.le_of_lt hb.1)
  have := pk_div (a := m) (d := k) (by omega) (by omega) (by omega)
  rw [iv_nI, iv_nI, iv_nI] at this
  exact this
theorem iv_tmod {a b : Int} (ha : 0 ≤ a ∧ a ≤ 2147483647) (hb : 0 < b ∧ b ≤ 2147483647) : iv a - iv a / iv b * iv b = iv (a % b) := by
  rw [iv_tdiv ha hb, iv_mul, iv_sub]
  congr 1
  have := Int.emod_add_mul_ediv a b
  have h2 : a / b * b = b * (a / b) := Int.mul_comm _ _
  omega
theorem iv_max {a b : Int} (ha : Rg a) (hb : Rg b) : imax (iv a) (iv b) = iv (max a b) := by
  unfold imax
  by_cases h : a < b
  · rw [if_pos (by rw [iv_lt ha hb]; exact h), Int.max_eq_right (Int.le_of_lt h)]
  · rw [if_neg (by rw [iv_lt ha hb]; exact h), Int.max_eq_left (by omega)]
theorem iv_min {a b : Int} (ha : Rg a) (hb : Rg b) : imin (iv a) (iv b) = iv (min a b) := by
  unfold imin
  by_cases h : b < a
  · rw [if_pos (by rw [iv_lt hb ha]; exact h), Int.min_eq_right (Int.le_of_lt h)]
  · rw [if_neg (by rw [iv_lt hb ha]; exact h), Int.min_eq_left (by omega)]
theorem iv_and (a b : Nat) : iv a &&& iv b = iv ((a &&& b : Nat) : Int) := by
  rw [← iv_nI, ← iv_nI, ← iv_nI]
  apply Int32.toBitVec_inj.mp
  simp [nI, Int32.toBitVec_and]
theorem iv_or (a b : Nat) : iv a ||| iv b = iv ((a ||| b : Nat) : Int) := by
  rw [← iv_nI, ← iv_nI, ← iv_nI]
  apply Int32.toBitVec_inj.mp
  simp [nI, Int32.toBitVec_or]
theorem sh_amt : ∀ k, k < 32 → ((nI k &&& 31).toBitVec.smod 32).toNat = k := by decide +kernel
theorem iv_shl {a k : Nat} (hk : k < 32) (h : a * 2 ^ k < 2 ^ 32) : iv a <<< (iv k &&& 31) = iv ((a * 2 ^ k : Nat) : Int) := by
  rw [← iv_nI, ← iv_nI, ← iv_nI]
  exact pk_shlN _ k (sh_amt k hk) h
theorem iv_shr {a k : Nat} (hk : k < 32) (h : a < 2 ^ 31) : iv a >>> (iv k &&& 31) = iv ((a / 2 ^ k : Nat) : Int) := by
  rw [← iv_nI, ← iv_nI, ← iv_nI]
  exact pk_shrN h _ k (sh_amt k hk)
theorem gt_old {E : Ev} {G : Hp} {a : Nat} (h : a < eB E) : gt E G a = none := by
  unfold gt
  rw [if_neg (by omega)]
theorem iv_in {a : Int} {n : Nat} (h : 0 ≤ a ∧ a < n) (hn : n < 2147483648) : ¬ bad (iv a) n := by
  rw [iv_bad (by constructor <;> omega)]
  exact fun z => z h
theorem st_len0 {E : Ev} {G : Hp} {a : Nat} {c : Cl} : (st E G a c).1.length = G.1.length ∧ (st E G a c).2 = G.2 := by
  unfold st
  split
  · exact ⟨by simp, rfl⟩
  · exact ⟨rfl, rfl⟩
