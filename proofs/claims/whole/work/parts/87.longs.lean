-- uses 41 42 43 44 45 46 54
/-! long numbers -/
def lv (z : Int) : Int64 := Int64.ofInt z
theorem lw_of (x : Int64) : lv x.toInt = x := Int64.ofInt_toInt x
theorem lw_toInt {a : Int} (h : 0 ≤ a ∧ a < 9223372036854775808) : (lv a).toInt = a := Int64.toInt_ofInt_of_le (by omega) (by omega)
theorem lw_mul (a b : Int) : lv a * lv b = lv (a * b) := (Int64.ofInt_mul a b).symm
theorem lw_sub (a b : Int) : lv a - lv b = lv (a - b) := (Int64.ofInt_sub a b).symm
theorem lw_tdiv {a b : Int} (ha : 0 ≤ a ∧ a < 9223372036854775808) (hb : 0 ≤ b ∧ b < 9223372036854775808) : lv a / lv b = lv (a / b) := by
  have e : Int64.minValue.toInt = -9223372036854775808 := by decide
  have e2 : Int64.maxValue.toInt = 9223372036854775807 := by decide
  have := Int64.ofInt_tdiv (a := a) (b := b) (by rw [e]; omega) (by rw [e2]; omega) (by rw [e]; omega) (by rw [e2]; omega)
  rw [Int.tdiv_eq_ediv_of_nonneg ha.1] at this
  exact this.symm
theorem lw_i32 (a : Int) : (lv a).toInt32 = iv a := Int64.toInt32_ofInt
theorem lw_tmod {a b : Int} (ha : 0 ≤ a ∧ a < 9223372036854775808) (hb : 0 ≤ b ∧ b < 9223372036854775808) : lv a - lv a / lv b * lv b = lv (a % b) := by
  rw [lw_tdiv ha hb, lw_mul, lw_sub]
  congr 1
  have := Int.emod_add_mul_ediv a b
  have h2 : a / b * b = b * (a / b) := Int.mul_comm _ _
  omega
theorem lw_eq0 {a : Int} (h : 0 ≤ a ∧ a < 9223372036854775808) : (lv a = 0) = (a = 0) := by
  apply propext
  constructor
  · intro e
    have := congrArg Int64.toInt e
    rw [lw_toInt h] at this
    exact this
  · intro e; rw [e]; rfl
/-- the random number's upper bits -/
def rn (z : Int64) : Nat := z.toUInt64.toNat / 2 ^ 33
theorem rn_lt (z : Int64) : rn z < 2147483648 := by
  have := z.toUInt64.toNat_lt
  unfold rn
  omega
theorem rn_e (z : Int64) : ((z.toUInt64 >>> ((iv 33).toInt64.toUInt64 &&& Int64.toUInt64 63)).toInt64).toInt32 = iv ((rn z : Nat) : Int) := by
  have h33 : ((iv 33).toInt64.toUInt64 &&& Int64.toUInt64 63) = 33 := by decide
  rw [h33]
  have h := rn_lt z
  have e1 : (z.toUInt64 >>> 33).toNat = rn z := by
    rw [UInt64.toNat_shiftRight, Nat.shiftRight_eq_div_pow]
    rfl
  have e2 : (z.toUInt64 >>> 33).toInt64 = lv ((rn z : Nat) : Int) := by
    apply Int64.toInt_inj.mp
    rw [lw_toInt (by omega)]
    show (z.toUInt64 >>> 33).toBitVec.toInt = _
    have e3 : (z.toUInt64 >>> 33).toBitVec.toNat = rn z := e1
    rw [BitVec.toInt_eq_toNat_of_lt (by rw [e3]; omega), e3]
  rw [e2, lw_i32]
section LG
variable {E : Ev} {d : Nat} {G : Hp} {P : Po}
theorem v_J {id : Nat} {args : List Value} {F : Int64 → Hp → Prop} {x : Int64} (h : ∀ P : Po, runs E d id args G P = P (some (.long x)) G) : qCJ E d id args G F = F x G := by
  unfold qCJ
  rw [h]
theorem c_tthL {n : Nat} (hn : n ≤ 4) : ∀ (r k : Nat), k + r = n → P (some (.long (lv ((10000 ^ n : Nat) : Int)))) G → Xr E d x_X7_tenThousands 4 [some (.int (iv (n : Int))), some (.long (lv ((10000 ^ k : Nat) : Int))), none, some (.int (iv (k : Int)))] [] G P := by
  intro r
  induction r with
  | zero =>
    intro k hk hP
    refine g_X7_tenThousands_4 ?_
    rw [if_pos (by rw [iv_le (by constructor <;> omega) (by constructor <;> omega)]; omega), show k = n by omega]
    exact hP
  | succ r ih =>
    intro k hk hP
    refine g_X7_tenThousands_4 ?_
    rw [if_neg (by rw [iv_le (by constructor <;> omega) (by constructor <;> omega)]; omega), i_s, show (10000 : Int64) = lv ((10000 : Nat) : Int) from rfl, lw_mul, show ((10000 ^ k : Nat) : Int) * ((10000 : Nat) : Int) = ((10000 ^ (k + 1) : Nat) : Int) by rw [Nat.pow_succ]; rfl]
    exact ih (k + 1) (by omega) hP
theorem c_tenThousands {n : Nat} (hn : n ≤ 4) : runs E (d + 1) i_X7_tenThousands [.int (iv (n : Int))] G P = P (some (.long (lv ((10000 ^ n : Nat) : Int)))) G := by
  refine runs_one (fun P hP => e_X7_tenThousands ?_) P
  exact c_tthL hn n 0 (by omega) hP
theorem c_wlL {n : Nat} (hn : n ≤ 4) {x : Nat} (hx : x < 9223372036854775808) {x0 : Int64} : ∀ (r k : Nat), k + r = n → P (some (.long (lv ((x / 10000 ^ n : Nat) : Int)))) G → Xr E d x_X6_withoutLastGroups 5 [some (.long x0), none, some (.int (iv (n : Int))), some (.long (lv ((x / 10000 ^ k : Nat) : Int))), none, some (.int (iv (k : Int)))] [] G P := by
  intro r
  induction r with
  | zero =>
    intro k hk hP
    refine g_X6_withoutLastGroups_5 ?_
    rw [if_pos (by rw [iv_le (by constructor <;> omega) (by constructor <;> omega)]; omega), show k = n by omega]
    exact hP
  | succ r ih =>
    intro k hk hP
    refine g_X6_withoutLastGroups_5 ?_
    have hle : x / 10000 ^ k ≤ x := Nat.div_le_self _ _
    rw [if_neg (by rw [iv_le (by constructor <;> omega) (by constructor <;> omega)]; omega), i_s, show (10000 : Int64) = lv ((10000 : Nat) : Int) from rfl, lw_tdiv (by generalize x / 10000 ^ k = y at hle; omega) (by decide), show ((x / 10000 ^ k : Nat) : Int) / ((10000 : Nat) : Int) = ((x / 10000 ^ (k + 1) : Nat) : Int) by rw [Nat.pow_succ, ← Nat.div_div_eq_div_mul]; rfl]
    exact ih (k + 1) (by omega) hP
theorem c_withoutLastGroups {n : Nat} (hn : n ≤ 4) {x : Nat} (hx : x < 9223372036854775808) : runs E (d + 1) i_X6_withoutLastGroups [.long (lv (x : Int)), .int (iv (n : Int))] G P = P (some (.long (lv ((x / 10000 ^ n : Nat) : Int)))) G := by
  refine runs_one (fun P hP => e_X6_withoutLastGroups ?_) P
  have := c_wlL (E := E) (d := d) (G := G) (P := P) hn hx (x0 := lv (x : Int)) n 0 (by omega) hP
  rw [Nat.pow_zero, Nat.div_one] at this
  exact this
end LG
