-- uses 41 42 43 44 45 46 47 48 49 50 51 52 53 54 58 69 70 71 72 73
/-! the class's type check: questions -/
def cmA (T : Tb) (n q k : Nat) : Nat → Nat
  | 0 => 7
  | x + 1 => if (T n x).testBit q = true then cmA T n q k x &&& (if k = 1 then x % 8 else x / 8) else cmA T n q k x
def fdA (T : Tb) (n q : Nat) : Nat → Bool
  | 0 => false
  | x + 1 => fdA T n q x || (T n x).testBit q
theorem cmA_lt {T : Tb} {n q k : Nat} : ∀ x, cmA T n q k x < 8 := by
  intro x
  induction x with
  | zero => show 7 < 8; decide
  | succ x ih =>
    unfold cmA
    split
    · exact Nat.lt_of_le_of_lt Nat.and_le_left ih
    · exact ih
theorem chk_8 {S : Sc} : ∀ (k : Nat) (T : Tb), T8 T → T8 (chk S k T).2 := by
  intro k
  induction k with
  | zero => intro T h; exact h
  | succ k ih =>
    intro T h
    unfold chk
    split
    · exact ih _ (T8_rnd h)
    · exact T8_rnd h
section TG
variable {E : Ev} {d : Nat} {G : Hp} {P : Po} {c s : Nat} {w : Bool} {S : Sc} {T : Tb} {ed : Nat} {rm se : Int}
theorem c_Yholds (hT8 : T8 T) (hY : Ty E G c s S T rm se) {n q x : Nat} (hn : n < 4) (hq : q < 3) (hx : x < stn n) : runs E (d + 1) i_X5_holds [.ref c, .int (iv (n : Int)), .int (iv (q : Int)), .int (iv (x : Int))] G P = P (some (.int (iv (if (T n x).testBit q = true then 1 else 0)))) G := by
  refine runs_one (fun P hP => e_X5_holds ?_) P
  have hv := (stn_v ⟨n, hn⟩).2.2.2
  dsimp only [Sc_b, Sc_u, Sc_v, Md_len, Md_acts, Md_nxt, Md_ts, Md_bs, Md_lab, Md_xp, Md_sta, Md_tx, Md_nw, Md_tr, Md_rd, Md_di, Md_ke, Md_ik, Md_te, Md_bu, Md_va, Md_ju, Md_ma] at hv
  have h8 := hT8 n x
  have hN := hY.2.2.1 n hn
  rw [u_out hY.1, i4, u_row hY.1 (by omega), show c + 2 + (4 + n) = c + 6 + n by omega, AB_g hN (by omega), i_bit (by omega) (by omega)]
  simp only [b_0]
  cases hb : (T n x).testBit q with
  | false =>
    rw [hb] at hP
    rw [if_pos rfl]
    exact hP
  | true =>
    rw [hb] at hP
    rw [if_neg (by decide)]
    exact hP
theorem c_acceptance (hT8 : T8 T) (hY : Ty E G c s S T rm se) : runs E (d + 2) i_X5_acceptance [.ref c] G P = P (some (.int (iv (if (T 0 0).testBit 0 = true then 1 else 0)))) G := by
  refine runs_one (fun P hP => e_X5_acceptance ?_) P
  rw [u_rcv hY.1.1, show iv 0 = iv ((0 : Nat) : Int) from rfl, v_I (fun P => c_Yholds (d := d) (P := P) hT8 hY (n := 0) (q := 0) (x := 0) (by decide) (by decide) (by decide))]
  refine ⟨trivial, ?_⟩
  simp only [b_0]
  cases hb : (T 0 0).testBit 0 with
  | false =>
    rw [hb] at hP
    rw [if_pos rfl]
    exact hP
  | true =>
    rw [hb] at hP
    rw [if_neg (by decide)]
    exact hP
theorem c_roundCount (hY : Ty E G c s S T rm se) : runs E (d + 1) i_X5_roundCount [.ref c] G P = P (some (.int (iv rm))) G := by
  refine runs_one (fun P hP => e_X5_roundCount ?_) P
  rw [u_FI hY.1.1 rfl]
  exact hP
theorem c_bitCount {a : Nat} (ha : a < 8) : runs E (d + 1) i_J6_bitCount_0f7a4 [.int (iv (a : Int))] G P = P (some (.int (iv (pop a : Nat)))) G := by
  refine runs_one (fun P hP => e_J6_bitCount_0f7a4 ?_) P
  rcases (by omega : a = 0 ∨ a = 1 ∨ a = 2 ∨ a = 3 ∨ a = 4 ∨ a = 5 ∨ a = 6 ∨ a = 7) with rfl | rfl | rfl | rfl | rfl | rfl | rfl | rfl <;> exact Eq.mp (congrArg (fun z : Int32 => P (some (.int z)) G) (by decide +kernel)) hP
theorem c_vcL (hE : EK E) (hT8 : T8 T) (hY : Ty E G c s S T rm se) {n : Nat} (hn : n < 4) : ∀ (r x : Nat), x + r = stn n → P (some (.int (iv (cnS T n (stn n) : Nat)))) G → Xr E (d + 3) x_X5_validCount 4 [some (.ref c), some (.int (iv (n : Int))), some (.int (iv (cnS T n x : Nat))), some (.int (iv (x : Int)))] [] G P := by
  intro r
  have hv := (stn_v ⟨n, hn⟩).2.2.2
  dsimp only [Sc_b, Sc_u, Sc_v, Md_len, Md_acts, Md_nxt, Md_ts, Md_bs, Md_lab, Md_xp, Md_sta, Md_tx, Md_nw, Md_tr, Md_rd, Md_di, Md_ke, Md_ik, Md_te, Md_bu, Md_va, Md_ju, Md_ma] at hv
  induction r with
  | zero =>
    intro x hx hP
    refine g_X5_validCount_4 ?_
    rw [v_I (fun P => c_settingsOf (d := d) (P := P) hE hn)]
    simp (disch := first | assumption | omega | decide) only [iv_le]
    rw [if_pos (by omega), show x = stn n by omega]
    exact hP
  | succ r ih =>
    intro x hx hP
    refine g_X5_validCount_4 ?_
    rw [v_I (fun P => c_settingsOf (d := d) (P := P) hE hn)]
    simp (disch := first | assumption | omega | decide) only [iv_le]
    have hN := hY.2.2.1 n hn
    have h8 := hT8 n x
    rw [if_neg (by omega), u_out hY.1, i4, u_row hY.1 (by omega), show c + 2 + (4 + n) = c + 6 + n by omega, AB_g hN (by omega), v_I (fun P => c_bitCount (d := d + 2) (P := P) h8), i_s, show iv ((cnS T n x : Nat) : Int) + iv ((pop (T n x) : Nat) : Int) = iv ((cnS T n (x + 1) : Nat) : Int) by rw [iv_add]; rfl]
    exact ih (x + 1) (by omega) hP
theorem c_validCount (hE : EK E) (hT8 : T8 T) (hY : Ty E G c s S T rm se) {n : Nat} (hn : n < 4) : runs E (d + 4) i_X5_validCount [.ref c, .int (iv (n : Int))] G P = P (some (.int (iv (cnS T n (stn n) : Nat)))) G := by
  refine runs_one (fun P hP => e_X5_validCount ?_) P
  exact c_vcL hE hT8 hY hn (stn n) 0 (by omega) hP
def cmR (T : Tb) (n q k x : Nat) : Int := if fdA T n q x = true then (cmA T n q k x : Nat) else -9
theorem c_csL (hE : EK E) (hT8 : T8 T) (hY : Ty E G c s S T rm se) {n q k : Nat} (hn : n < 4) (hq : q < 3) (hk : k < 10) : ∀ (r x : Nat), x + r = stn n → P (some (.int (iv (cmR T n q k (stn n))))) G → Xr E (d + 3) x_X5_commonSet 10 [some (.ref c), some (.int (iv (n : Int))), some (.int (iv (q : Int))), some (.int (iv (k : Int))), some (.int (iv (cmA T n q k x : Nat))), some (.int (iv (if fdA T n q x = true then 1 else 0))), some (.int (iv (x : Int)))] [] G P := by
  intro r
  have hv := (stn_v ⟨n, hn⟩).2.2.2
  dsimp only [Sc_b, Sc_u, Sc_v, Md_len, Md_acts, Md_nxt, Md_ts, Md_bs, Md_lab, Md_xp, Md_sta, Md_tx, Md_nw, Md_tr, Md_rd, Md_di, Md_ke, Md_ik, Md_te, Md_bu, Md_va, Md_ju, Md_ma] at hv
  induction r with
  | zero =>
    intro x hx hP
    refine g_X5_commonSet_10 ?_
    rw [v_I (fun P => c_settingsOf (d := d) (P := P) hE hn)]
    simp (disch := first | assumption | omega | decide) only [iv_le, b_0]
    have : x = stn n := by omega
    subst this
    rw [if_pos (by omega)]
    unfold cmR at hP
    cases hb : fdA T n q (stn n) with
    | false =>
      rw [hb] at hP
      rw [if_pos rfl]
      exact hP
    | true =>
      rw [hb] at hP
      rw [if_neg (by decide)]
      exact hP
  | succ r ih =>
    intro x hx hP
    refine g_X5_commonSet_10 ?_
    rw [v_I (fun P => c_settingsOf (d := d) (P := P) hE hn)]
    simp (disch := first | assumption | omega | decide) only [iv_le]
    rw [if_neg (by omega), u_rcv hY.1.1, v_I (fun P => c_Yholds (d := d + 2) (P := P) hT8 hY hn hq (show x < stn n by omega))]
    refine ⟨trivial, ?_⟩
    simp (disch := first | assumption | omega | decide) only [b_0, i_s, iv_eq]
    have nx := ih (x + 1) (by omega) hP
    unfold cmA fdA at nx
    cases hb : (T n x).testBit q with
    | false =>
      rw [hb, Bool.or_false, if_neg (by decide)] at nx
      rw [if_pos rfl]
      exact nx
    | true =>
      rw [hb, Bool.or_true, if_pos rfl] at nx
      rw [if_neg (by decide)]
      by_cases ck : k = 1
      · rw [if_pos ck] at nx
        rw [if_neg (by omega), v_I (fun P => c_firstOf (d := d + 2) (P := P)), iv_and]
        exact nx
      · rw [if_neg ck] at nx
        rw [if_pos (by omega), v_I (fun P => c_secondOf (d := d + 2) (P := P) (show x < 1000 by omega)), iv_and]
        exact nx
theorem c_commonSet (hE : EK E) (hT8 : T8 T) (hY : Ty E G c s S T rm se) {n q k : Nat} (hn : n < 4) (hq : q < 3) (hk : k < 10) : runs E (d + 4) i_X5_commonSet [.ref c, .int (iv (n : Int)), .int (iv (q : Int)), .int (iv (k : Int))] G P = P (some (.int (iv (cmR T n q k (stn n))))) G := by
  refine runs_one (fun P hP => e_X5_commonSet ?_) P
  exact c_csL hE hT8 hY hn hq hk (stn n) 0 (by omega) hP
end TG
