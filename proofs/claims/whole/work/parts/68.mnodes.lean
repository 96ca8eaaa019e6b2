-- uses 41 42 43 44 45 46 47 48 49 50 51 52 53 54 55 56 57 58 59 60 61 62 63 64 65 66 67
/-! nodes of a depth, the first wrong one: both sides -/
theorem two_div {k num j : Nat} (hj : j ≤ k) : (2 ^ k + num) / 2 ^ j = 2 ^ (k - j) + num / 2 ^ j := by
  have h : 2 ^ k = 2 ^ j * 2 ^ (k - j) := by rw [← Nat.pow_add]; congr 1; omega
  rw [h, Nat.mul_add_div (Nat.pow_pos (by decide))]
section PO
variable {E : Ev} {d : Nat} {G : Hp} {P : Po}
theorem c_mpoL {k num : Nat} (hk : k ≤ 6) (hn : num < 2 ^ k) : ∀ (j : Nat), j ≤ k → P (some (.int (iv ((val (bds (2 ^ k + num) k) 0 : Nat) : Int)))) G → Xr E d x_X7_pathOf 6 [some (.int (iv (k : Int))), some (.int (iv (num : Int))), some (.int (iv ((val (bds ((2 ^ k + num) / 2 ^ j) (k - j)) 0 : Nat) : Int))), some (.int (iv ((j : Int) - 1)))] [] G P := by
  intro j
  have h2 : 2 ^ k ≤ 2 ^ 6 := Nat.pow_le_pow_right (by decide) hk
  have h6 : (2 : Nat) ^ 6 = 64 := rfl
  induction j with
  | zero =>
    intro hj hP
    refine g_X7_pathOf_6 ?_
    rw [if_pos (by decide)]
    simpa using hP
  | succ j ih =>
    intro hj hP
    refine g_X7_pathOf_6 ?_
    simp (disch := first | assumption | omega | decide) only [iv_lt0]
    rw [if_neg (by omega), show ((j + 1 : Nat) : Int) - 1 = (j : Int) by omega, iv_shr (by omega) (by omega)]
    have hand := iv_and (num / 2 ^ j) 1
    rw [Nat.and_one_is_mod] at hand
    rw [show iv 1 = iv ((1 : Nat) : Int) from rfl] at *
    rw [hand]
    have e1 : iv 10 * iv ((val (bds ((2 ^ k + num) / 2 ^ (j + 1)) (k - (j + 1))) 0 : Nat) : Int) + iv ((1 : Nat) : Int) + iv ((num / 2 ^ j % 2 : Nat) : Int) = iv ((val (bds ((2 ^ k + num) / 2 ^ j) (k - j)) 0 : Nat) : Int) := by
      have e2 : k - j = (k - (j + 1)) + 1 := by omega
      rw [e2]
      show _ = iv ((val (bds ((2 ^ k + num) / 2 ^ j / 2) (k - (j + 1)) ++ [(2 ^ k + num) / 2 ^ j % 2 + 1]) 0 : Nat) : Int)
      rw [val_app, show (2 ^ k + num) / 2 ^ j / 2 = (2 ^ k + num) / 2 ^ (j + 1) by rw [Nat.div_div_eq_div_mul, Nat.pow_succ], iv_mul, iv_add, iv_add]
      have e3 : (2 ^ k + num) / 2 ^ j % 2 = num / 2 ^ j % 2 := by
        rw [two_div (by omega), e2, Nat.pow_succ]
        omega
      rw [e3]
      congr 1
      omega
    rw [e1, show iv (j : Int) + iv (-1) = iv ((j : Int) - 1) by rw [iv_add]; rfl]
    exact ih (by omega) hP
theorem c_mPathOf {k num : Nat} (hk : k ≤ 6) (hn : num < 2 ^ k) : runs E (d + 1) i_X7_pathOf [.int (iv (k : Int)), .int (iv (num : Int))] G P = P (some (.int (iv ((val (bds (2 ^ k + num) k) 0 : Nat) : Int)))) G := by
  refine runs_one (fun P hP => e_X7_pathOf ?_) P
  have := c_mpoL (E := E) (d := d) (G := G) (P := P) hk hn k (Nat.le_refl _) hP
  rw [Nat.sub_self] at this
  rw [iv_sub]
  exact this
def lo (n : Nat) : Nat → Nat
  | 0 => 0
  | i + 1 => lo n i + 10 ^ i * (n / 2 ^ i % 2 + 1)
theorem lo_s : ∀ (i n : Nat), lo n (i + 1) = (n % 2 + 1) + 10 * lo (n / 2) i := by
  intro i
  induction i with
  | zero =>
    intro n
    show lo n 0 + 10 ^ 0 * (n / 2 ^ 0 % 2 + 1) = _
    simp [lo]
  | succ i ih =>
    intro n
    have e1 : lo n (i + 1 + 1) = lo n (i + 1) + 10 ^ (i + 1) * (n / 2 ^ (i + 1) % 2 + 1) := rfl
    have e2 : lo (n / 2) (i + 1) = lo (n / 2) i + 10 ^ i * (n / 2 / 2 ^ i % 2 + 1) := rfl
    have e3 : n / 2 / 2 ^ i = n / 2 ^ (i + 1) := by rw [Nat.div_div_eq_div_mul, Nat.pow_succ, Nat.mul_comm]
    rw [e1, ih n, e2, e3]
    generalize n / 2 ^ (i + 1) % 2 + 1 = b
    rw [Nat.pow_succ, Nat.mul_comm (10 ^ i) 10, Nat.mul_assoc]
    omega
theorem val_lo : ∀ (k n : Nat), val (bds n k) 0 = lo n k := by
  intro k
  induction k with
  | zero => intro n; rfl
  | succ k ih =>
    intro n
    show val (bds (n / 2) k ++ [n % 2 + 1]) 0 = _
    rw [val_app, ih, lo_s]
    omega
theorem c_cpoL {n k : Nat} (hk : k ≤ 6) (hn : n / 2 ^ k = 1) {z : Int32} : ∀ (r i : Nat), i + r = k → P (some (.int (iv ((val (bds n k) 0 : Nat) : Int)))) G → Xr E d x_X6_pathOf 6 [some (.int z), some (.int (iv ((lo n i : Nat) : Int))), some (.int (iv ((10 ^ i : Nat) : Int))), some (.int (iv ((n / 2 ^ i : Nat) : Int)))] [] G P := by
  intro r
  have hnlt : n < 2 ^ (k + 1) := by
    rw [Nat.pow_succ]
    have := Nat.div_add_mod n (2 ^ k)
    have h2 := Nat.mod_lt n (Nat.pow_pos (n := k) (show 0 < 2 by decide))
    rw [hn] at this
    omega
  have h7 : 2 ^ (k + 1) ≤ 2 ^ 7 := Nat.pow_le_pow_right (by decide) (by omega)
  have h128 : (2 : Nat) ^ 7 = 128 := rfl
  induction r with
  | zero =>
    intro i hi hP
    have : i = k := by omega
    subst this
    refine g_X6_pathOf_6 ?_
    rw [hn, if_pos (by decide)]
    rw [val_lo] at hP
    exact hP
  | succ r ih =>
    intro i hi hP
    refine g_X6_pathOf_6 ?_
    have hle : n / 2 ^ i ≤ n := Nat.div_le_self _ _
    have hge : 2 ≤ n / 2 ^ i := by
      have : n / 2 ^ k = n / 2 ^ i / 2 ^ (k - i) := by
        rw [Nat.div_div_eq_div_mul, ← Nat.pow_add]
        congr 2
        omega
      rw [hn] at this
      obtain ⟨q, hq⟩ : ∃ q, k - i = q + 1 := ⟨k - i - 1, by omega⟩
      rw [hq, Nat.pow_succ, Nat.mul_comm (2 ^ q) 2, ← Nat.div_div_eq_div_mul] at this
      have h3 : n / 2 ^ i / 2 / 2 ^ q ≤ n / 2 ^ i / 2 := Nat.div_le_self _ _
      omega
    have e4 : n / 2 ^ (i + 1) = n / 2 ^ i / 2 := by rw [Nat.pow_succ, ← Nat.div_div_eq_div_mul]
    have := ih (i + 1) (by omega) hP
    rw [e4] at this
    have e5 : lo n (i + 1) = lo n i + 10 ^ i * (n / 2 ^ i % 2 + 1) := rfl
    rw [e5] at this
    generalize n / 2 ^ i = x at *
    simp (disch := first | assumption | omega | decide) only [iv_le]
    have hand := iv_and x 1
    rw [Nat.and_one_is_mod] at hand
    rw [if_neg (by omega), show iv 1 = iv ((1 : Nat) : Int) from rfl, hand, iv_shr (k := 1) (by decide) (by omega), Nat.pow_one]
    have e6 : iv ((lo n i : Nat) : Int) + iv ((10 ^ i : Nat) : Int) * (iv ((1 : Nat) : Int) + iv ((x % 2 : Nat) : Int)) = iv ((lo n i + 10 ^ i * (x % 2 + 1) : Nat) : Int) := by
      rw [iv_add, iv_mul, iv_add, Nat.add_comm (x % 2) 1]
      rfl
    rw [e6, show iv ((10 ^ i : Nat) : Int) * iv 10 = iv ((10 ^ (i + 1) : Nat) : Int) by rw [iv_mul, Nat.pow_succ]; rfl]
    exact this
theorem c_cPathOf {n k : Nat} (hk : k ≤ 6) (hn : n / 2 ^ k = 1) : runs E (d + 1) i_X6_pathOf [.int (iv (n : Int))] G P = P (some (.int (iv ((val (bds n k) 0 : Nat) : Int)))) G := by
  refine runs_one (fun P hP => e_X6_pathOf ?_) P
  have := c_cpoL (E := E) (d := d) (G := G) (P := P) (z := iv (n : Int)) hk hn k 0 (by omega) hP
  rw [Nat.pow_zero, Nat.div_one] at this
  exact this
end PO
/-- nodes of a depth, by walks -/
def exW (S : Sc) (k n : Nat) : Bool := (wks S (some (w0 S)) (bds n k)).isSome
def cnW (S : Sc) (dp : Nat) : Nat → Nat
  | 0 => 0
  | j + 1 => cnW S dp j + (if exW S dp (2 ^ dp + j) = true then 1 else 0)
theorem in_lev {dp j : Nat} (hj : j < 2 ^ dp) : (2 ^ dp + j) / 2 ^ dp = 1 := by
  rw [Nat.add_div_left _ (Nat.pow_pos (by decide)), Nat.div_eq_of_lt hj]
theorem lbN_ne {zs : List Nat} : lbN zs ≠ -1 := by
  unfold lbN
  split <;> omega
theorem cn_eq {S : Sc} {x0 : Nat → Int} (hS : okS S) {dp : Nat} (hdp : dp ≤ 6) : ∀ j, j ≤ 2 ^ dp → cnN (tL S x0).1 (2 ^ dp) j = cnW S dp j := by
  intro j
  induction j with
  | zero => intro _; rfl
  | succ j ih =>
    intro hj
    have h1 := bds_ok dp (2 ^ dp + j)
    have h2 := tree_at (x0 := x0) hS dp (bds (2 ^ dp + j) dp) h1.1 hdp h1.2
    rw [bds_nd dp (2 ^ dp + j) (in_lev (by omega))] at h2
    unfold cnN cnW exW
    rw [ih (by omega)]
    cases hw : wks S (some (w0 S)) (bds (2 ^ dp + j) dp) with
    | none =>
      rw [hw] at h2
      have h3 : (tL S x0).1 (2 ^ dp + j) = -1 := h2
      rw [if_pos h3]
      simp
    | some w =>
      rw [hw] at h2
      have h3 : (tL S x0).1 (2 ^ dp + j) = lbN w.1 := h2.1
      rw [if_neg (by rw [h3]; exact lbN_ne)]
      simp
/-- only the bodies matter for which nodes there are -/
theorem wks_b {S S' : Sc} (hb : S.b = S'.b) : ∀ (p : List Nat) (o o' : Option Wa), o.map (fun w => (w.1, w.2.1)) = o'.map (fun w => (w.1, w.2.1)) → (wks S o p).map (fun w => (w.1, w.2.1)) = (wks S' o' p).map (fun w => (w.1, w.2.1)) := by
  intro p
  induction p with
  | nil => intro o o' h; exact h
  | cons c p ih =>
    intro o o' h
    cases o with
    | none =>
      cases o' with
      | none => rfl
      | some w' => cases h
    | some w =>
      cases o' with
      | none => cases h
      | some w' =>
        have h1 : (w.1, w.2.1) = (w'.1, w'.2.1) := Option.some.inj h
        have h2 : w.1 = w'.1 := (Prod.mk.inj h1).1
        have h3 : w.2.1 = w'.2.1 := (Prod.mk.inj h1).2
        refine ih _ _ ?_
        unfold wd
        rw [h2, h3, hb]
        split <;> rfl
theorem exW_b {S S' : Sc} (hb : S.b = S'.b) (k n : Nat) : exW S k n = exW S' k n := by
  unfold exW
  have := wks_b hb (bds n k) (some (w0 S)) (some (w0 S')) (by unfold w0; rw [hb])
  rw [← Option.isSome_map (f := fun w : Wa => (w.1, w.2.1)), this, Option.isSome_map]
theorem cnW_b {S S' : Sc} (hb : S.b = S'.b) (dp : Nat) : ∀ j, cnW S dp j = cnW S' dp j := by
  intro j
  induction j with
  | zero => rfl
  | succ j ih =>
    unfold cnW
    rw [ih, exW_b hb]
section NO
variable {E : Ev} {d : Nat} {G : Hp} {P : Po} {m : Nat}
theorem c_noL {S : Sc} {bb : Bool} {dp : Nat} {M0 : Md} (hdp : dp ≤ 6) : ∀ (r j : Nat) (G1 : Hp) (M : Md), j + r = 2 ^ dp → Mo E G1 m M → okR M bb S → Wk M0 M → sam E G G1 (ivl m 13) → (∀ G2 N, Mo E G2 m N → Wk M0 N → sam E G G2 (ivl m 13) → P (some (.int (iv ((cnW S dp (2 ^ dp) : Nat) : Int)))) G2) → Xr E (d + 8) x_X7_nodesOf 5 [some (.ref m), some (.ref (rA m bb)), some (.int (iv (dp : Int))), some (.int (iv ((cnW S dp j : Nat) : Int))), some (.int (iv (j : Int)))] [] G1 P := by
  intro r
  have h2 : 2 ^ dp ≤ 2 ^ 6 := Nat.pow_le_pow_right (by decide) hdp
  have h6 : (2 : Nat) ^ 6 = 64 := rfl
  induction r with
  | zero =>
    intro j G1 M hj hm hR hWk hs hP
    refine g_X7_nodesOf_5 ?_
    rw [i_sh (by omega)]
    simp (disch := first | assumption | omega | decide) only [iv_le]
    have : j = 2 ^ dp := by omega
    rw [if_pos (by omega), this]
    exact hP G1 M hm hWk hs
  | succ r ih =>
    intro j G1 M hj hm hR hWk hs hP
    refine g_X7_nodesOf_5 ?_
    rw [i_sh (by omega)]
    simp (disch := first | assumption | omega | decide) only [iv_le]
    have hb := bds_ok dp (2 ^ dp + j)
    rw [if_neg (by omega), v_I (fun P => c_mPathOf (d := d + 7) (P := P) hdp (show j < 2 ^ dp by omega)), Mo_rc hm]
    refine ⟨trivial, u_I (c_walk (d := d) (S := S) (bb := bb) hb.1 hdp hb.2 hm hR) ?_⟩
    rintro v G2 ⟨⟨N, a1, a2, a3⟩, rfl, a4⟩
    refine ⟨_, rfl, ?_⟩
    have nx := ih (j + 1) G2 N (by omega) a1 (okR_wk hR a2) (Wk_tr hWk a2) (sam_tr hs a4) hP
    unfold cnW exW at nx
    rw [i_s]
    cases hw : wks S (some (w0 S)) (bds (2 ^ dp + j) dp) with
    | none =>
      rw [hw] at nx
      rw [show (if (none : Option Wa) = none then (0 : Int) else 1) = 0 from if_pos rfl, if_pos (by decide), iv_add]
      simpa using nx
    | some w =>
      rw [hw] at nx
      rw [show (if (some w : Option Wa) = none then (0 : Int) else 1) = 1 from if_neg (by simp), if_neg (by decide), i_s]
      simpa using nx
theorem c_nodesOf {S : Sc} {bb : Bool} {dp : Nat} {M : Md} (hdp : dp ≤ 6) (hm : Mo E G m M) (hR : okR M bb S) : runs E (d + 9) i_X7_nodesOf [.ref m, .ref (rA m bb), .int (iv (dp : Int))] G (fun v G1 => v = some (.int (iv ((cnW S dp (2 ^ dp) : Nat) : Int))) ∧ ∃ N, Mo E G1 m N ∧ Wk M N ∧ sam E G G1 (ivl m 13)) := by
  refine e_X7_nodesOf ?_
  exact c_noL (G := G) (M0 := M) hdp (2 ^ dp) 0 G M (Nat.zero_add _) hm hR (Wk_rf _) sam_rf (fun G2 N a b c => ⟨rfl, N, a, b, c⟩)
end NO
/-! the first wrong node -/
def wrW (S : Sc) (o : Option Wa) : Bool := match o with
  | none => false
  | some w => decide (w.2.2 ≠ -9) && (decide (hd w.1 < 4) && decide (S.u (4 * w.2.2.toNat + hd w.1) = -1))
def wrn (S : Sc) (n : Nat) : Bool := wrW S (wks S (some (w0 S)) (bds n n.log2))
def ff (g : Nat → Bool) : Nat → Nat → Nat
  | 0, _ => 0
  | k + 1, n => if g n = true then n else ff g k (n + 1)
theorem log2_lev {dp j : Nat} (hj : j < 2 ^ dp) : (2 ^ dp + j).log2 = dp := by
  have hp : 0 < 2 ^ dp := Nat.pow_pos (by decide)
  rw [Nat.log2_eq_iff (by omega)]
  rw [Nat.pow_succ]
  omega
theorem lev_of {n : Nat} (h1 : 1 ≤ n) : n / 2 ^ n.log2 = 1 := by
  have h2 := Nat.log2_self_le (n := n) (by omega)
  have h3 := Nat.lt_log2_self (n := n)
  have hp : 0 < 2 ^ n.log2 := Nat.pow_pos (by decide)
  rw [Nat.pow_succ] at h3
  have e : n = 2 ^ n.log2 + (n - 2 ^ n.log2) := by omega
  rw [e]
  have hj : n - 2 ^ n.log2 < 2 ^ n.log2 := by omega
  rw [← e]
  have := in_lev hj
  rw [← e] at this
  exact this
theorem wr_eq {S : Sc} {x0 : Nat → Int} (hS : okS S) {n : Nat} (h1 : 1 ≤ n) (h2 : n < 128) : wrg S (tL S x0).1 (raN S (tL S x0).1 63) n ↔ wrn S n = true := by
  have hl : n.log2 ≤ 6 := by
    have h3 := Nat.log2_self_le (n := n) (by omega)
    rcases Nat.lt_or_ge 6 n.log2 with z | z
    · have h4 : 2 ^ 7 ≤ 2 ^ n.log2 := Nat.pow_le_pow_right (by decide) z
      have h5 : (2 : Nat) ^ 7 = 128 := rfl
      omega
    · exact z
  have hb := bds_ok n.log2 n
  have ht := tree_at (x0 := x0) hS n.log2 (bds n n.log2) hb.1 hl hb.2
  rw [bds_nd _ _ (lev_of h1)] at ht
  unfold wrn wrg
  cases hw : wks S (some (w0 S)) (bds n n.log2) with
  | none =>
    rw [hw] at ht
    have h3 : (tL S x0).1 n = -1 := ht
    constructor
    · exact fun z => absurd h3 z.1.1
    · intro z; cases z
  | some w =>
    rw [hw] at ht
    obtain ⟨e1, e2, e3⟩ := ht
    have ok := wks_ok hS _ _ _ (okW_0 hS) hb.2 hw
    unfold wrW
    dsimp only [Sc_b, Sc_u, Sc_v, Md_len, Md_acts, Md_nxt, Md_ts, Md_bs, Md_lab, Md_xp, Md_sta, Md_tx, Md_nw, Md_tr, Md_rd, Md_di, Md_ke, Md_ik, Md_te, Md_bu, Md_va, Md_ju, Md_ma]
    rw [e1, e3]
    simp only [Bool.and_eq_true, decide_eq_true_eq]
    unfold lbN
    by_cases c : hd w.1 < 4
    · rw [if_pos c, Int.toNat_natCast]
      constructor
      · exact fun z => ⟨by omega, c, z.2⟩
      · exact fun z => ⟨⟨by omega, by rcases ok.2 with y | y <;> omega, by omega⟩, z.2.2⟩
    · rw [if_neg c]
      constructor
      · exact fun z => by omega
      · exact fun z => absurd z.2.1 c
section FW
variable {E : Ev} {d : Nat} {G : Hp} {P : Po} {t s : Nat} {w : Bool} {S : Sc} {ed : Nat} {se : Int} {x0 : Nat → Int}
theorem c_fwL (hS : okS S) (hT : TrP E G t s se (tL S x0) (raN S (tL S x0).1 63)) (hs : Sx E G s w S ed) {dp : Nat} (hdp : dp ≤ 6) : ∀ (r n : Nat), n + r = 2 ^ (dp + 1) → 1 ≤ n → P (some (.int (iv ((ff (wrn S) r n : Nat) : Int)))) G → Xr E (d + 2) x_X4_firstWrong 2 [some (.ref t), some (.int (iv (dp : Int))), some (.int (iv (n : Int)))] [] G P := by
  intro r
  have h2 : 2 ^ (dp + 1) ≤ 2 ^ 7 := Nat.pow_le_pow_right (by decide) (by omega)
  have h6 : (2 : Nat) ^ 7 = 128 := rfl
  induction r with
  | zero =>
    intro n hn h1 hP
    refine g_X4_firstWrong_2 ?_
    rw [i_s, i_sh (by omega)]
    simp (disch := first | assumption | omega | decide) only [iv_le]
    rw [if_pos (by omega)]
    exact hP
  | succ r ih =>
    intro n hn h1 hP
    refine g_X4_firstWrong_2 ?_
    rw [i_s, i_sh (by omega)]
    simp (disch := first | assumption | omega | decide) only [iv_le]
    rw [if_neg (by omega), u_rcv hT.1.1]
    refine ⟨trivial, ?_⟩
    have hdec : Decidable (wrg S (tL S x0).1 (raN S (tL S x0).1 63) n) := decidable_of_iff _ (wr_eq hS h1 (by omega)).symm
    rw [v_I (fun P => c_isWrong (d := d) (P := P) hS hT hs okL_tL (raN_rg hS 63) (show 1 ≤ n ∧ n < 128 by omega))]
    simp only [tf_0, wr_eq hS h1 (show n < 128 by omega)]
    unfold ff at hP
    by_cases c : wrn S n = true
    · rw [if_pos c] at hP
      rw [if_neg (fun z => z c)]
      exact hP
    · rw [if_neg c] at hP
      rw [if_pos c, i_s]
      exact ih (n + 1) (by omega) (by omega) hP
theorem c_firstWrong (hS : okS S) (hT : TrP E G t s se (tL S x0) (raN S (tL S x0).1 63)) (hs : Sx E G s w S ed) {dp : Nat} (hdp : dp ≤ 6) : runs E (d + 3) i_X4_firstWrong [.ref t, .int (iv (dp : Int))] G P = P (some (.int (iv ((ff (wrn S) (2 ^ (dp + 1) - 1) 1 : Nat) : Int)))) G := by
  refine runs_one (fun P hP => e_X4_firstWrong ?_) P
  have : 0 < 2 ^ (dp + 1) := Nat.pow_pos (by decide)
  exact c_fwL hS hT hs hdp (2 ^ (dp + 1) - 1) 1 (by omega) (by omega) hP
end FW
