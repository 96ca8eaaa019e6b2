-- uses 41 42 43 44 45 46 47 48 49 50 51 52 53 54 55 56 57 58 59 60 69 70 71 72 73 74 75 76 77 78
/-! the reference's check -/
abbrev cRn (S : Sc) : Nat := (chk S 244 T7).1
abbrev cT (S : Sc) : Tb := (chk S 244 T7).2
theorem cT8 {S : Sc} : T8 (cT S) := chk_8 _ _ T8_7
theorem chk_ge {S : Sc} : ∀ f T, 0 < f → 1 ≤ (chk S f T).1 := by
  intro f T hf
  cases f with
  | zero => omega
  | succ f =>
    unfold chk
    split
    · show 1 ≤ _ + 1; omega
    · exact Nat.le_refl 1
theorem vT_7 {k : Nat} (hk : k < 243) : vT T7 k = true := by
  obtain ⟨s1, s2, rg, e1, e2⟩ := k_tyA hk
  unfold vT T7
  have := rg.2.1
  rcases (by omega : qk k = 0 ∨ qk k = 1 ∨ qk k = 2) with z | z | z <;> rw [z] <;> rfl
section MCH
variable {E : Ev} {d : Nat} {G : Hp} {P : Po} {m : Nat} {S : Sc}
theorem c_ck24 {bb : Bool} {M0 : Md} (hS : okS S) : ∀ (f : Nat) (T : Tb) (k : Nat) (G1 : Hp) (M : Md), cnT T < f → T8 T → mon T → Mo E G1 m M → okR M bb S → VaM M T → Wy M0 M → sam E G G1 (ivl m 13) → (∀ G2 N, Mo E G2 m N → VaM N (chk S f T).2 → Wy M0 N → sam E G G2 (ivl m 13) → P (some (.int (iv ((k + (chk S f T).1 : Nat) : Int)))) G2) → Xr E (d + 6) x_X7_check 24 [some (.ref m), some (.ref (rA m bb)), some (.int (iv ((k + 1 : Nat) : Int)))] [] G1 P := by
  intro f
  induction f with
  | zero => intro T k G1 M h; omega
  | succ f ih =>
    intro T k G1 M hc hT8 hmo hm hR hV hw hs hP
    refine g_X7_check_24 ?_
    rw [Mo_rc hm]
    refine ⟨trivial, u_I (c_isRoundLess (d := d) hT8 hmo hm hR hV) ?_⟩
    rintro v G2 ⟨rfl, N, a1, a2, a3, a4⟩
    refine ⟨_, rfl, ?_⟩
    simp only [b_0]
    unfold chk at hP
    cases hl : lessR S T with
    | false =>
      rw [hl] at hP
      rw [if_pos rfl]
      exact hP G2 N a1 a2 (Wy_tr hw a3) (sam_tr hs a4)
    | true =>
      rw [hl] at hP
      rw [if_neg (by decide), i_s]
      refine ih (rnd S T) (k + 1) G2 N ?_ (T8_rnd hT8) (mon_rnd hS hT8 hmo) a1 (okR_wy hR a3) a2 (Wy_tr hw a3) (sam_tr hs a4) ?_
      · have := cnT_rnd hT8 hl
        omega
      · intro G3 O b1 b2 b3 b4
        have := hP G3 O b1 b2 b3 b4
        rw [if_pos rfl] at this
        rw [show k + 1 + (chk S f (rnd S T)).1 = k + ((chk S f (rnd S T)).1 + 1) by omega]
        exact this
theorem c_ck2 {bb : Bool} {M0 : Md} (hS : okS S) : ∀ (r k : Nat) (G1 : Hp) (M : Md), k + r = 243 → Mo E G1 m M → okR M bb S → (∀ j, j < k → M.va j = b2 true) → Wy M0 M → sam E G G1 (ivl m 13) → (∀ G2 N, Mo E G2 m N → VaM N (cT S) → Wy M0 N → sam E G G2 (ivl m 13) → P (some (.int (iv (cRn S : Nat)))) G2) → Xr E (d + 6) x_X7_check 2 [some (.ref m), some (.ref (rA m bb)), some (.int (iv (k : Int)))] [] G1 P := by
  intro r
  induction r with
  | zero =>
    intro k G1 M hk hm hR hv hw hs hP
    have : k = 243 := by omega
    subst this
    refine g_X7_check_2 ?_
    rw [if_pos (by decide)]
    refine c_ck24 (d := d) (G := G) (M0 := M0) hS 244 T7 0 G1 M ?_ T8_7 mon_7 hm hR ?_ hw hs ?_
    · rw [cnT_7]; decide
    · intro k hk
      rw [hv k hk, vT_7 hk]
    · intro G2 N a1 a2 a3 a4
      rw [Nat.zero_add]
      exact hP G2 N a1 a2 a3 a4
  | succ r ih =>
    intro k G1 M hk hm hR hv hw hs hP
    refine g_X7_check_2 ?_
    rw [if_neg (by rw [iv_le (by decide) (by constructor <;> omega)]; omega), Mo_va hm]
    refine Ms_va hm (by omega) ?_
    intro G2 a1 a2
    rw [i_s]
    refine ih (k + 1) G2 _ (by omega) a1 hR ?_ (Wy_tr hw rfl) (sam_tr hs a2) hP
    intro j hj
    show upd M.va k _ j = _
    unfold upd
    by_cases z : j = k
    · rw [if_pos z]
      exact nar_b (b := true)
    · rw [if_neg z]
      exact hv j (by omega)
theorem c_check {bb : Bool} {M : Md} (hm : Mo E G m M) (hR : okR M bb S) : runs E (d + 7) i_X7_check [.ref m, .ref (rA m bb)] G (fun v G1 => v = some (.int (iv (cRn S : Nat))) ∧ ∃ N, Mo E G1 m N ∧ VaM N (cT S) ∧ Wy M N ∧ sam E G G1 (ivl m 13)) := by
  refine e_X7_check ?_
  exact c_ck2 (G := G) (M0 := M) hR.2 243 0 G M (by omega) hm hR (fun j hj => absurd hj (Nat.not_lt_zero _)) (Wy_rf _) sam_rf (fun G2 N a b c d => ⟨rfl, N, a, b, c, d⟩)
theorem nar_bo {b : Bool} : (narrow .boolean (.int (b2 b)) = .int (b2 b)) := by
  cases b
  · exact of_eq_true (iv_narZ (Or.inl rfl))
  · exact of_eq_true (iv_narZ (Or.inr rfl))
theorem c_isAccepted {bb : Bool} {M : Md} (hm : Mo E G m M) (hR : okR M bb S) : runs E (d + 8) i_X7_isAccepted [.ref m, .ref (rA m bb)] G (fun v G1 => v = some (.int (b2 ((cT S 0 0).testBit 0))) ∧ ∃ N, Mo E G1 m N ∧ Wy M N ∧ sam E G G1 (ivl m 13)) := by
  refine e_X7_isAccepted ?_
  rw [Mo_rc hm]
  refine ⟨trivial, u_I (c_check (d := d) hm hR) ?_⟩
  rintro v G2 ⟨rfl, N, a1, a2, a3, a4⟩
  refine ⟨_, rfl, ?_⟩
  rw [Mo_va a1, show iv 0 = iv ((0 : Nat) : Int) from rfl, Mg_va a1 (by decide), a2 0 (by decide)]
  exact ⟨nar_bo, rfl, N, a1, a3, a4⟩
/-- typings are counted -/
def vcn (T : Tb) (f : Nat) : Nat → Nat
  | 0 => 0
  | k + 1 => vcn T f k + (if vT T (f + k) = true then 1 else 0)
def mny (n : Nat) : Nat := if n = 0 then 3 else if n = 3 then 192 else 24
theorem c_toL {bb : Bool} {M : Md} {T : Tb} (hm : Mo E G m M) (hV : VaM M T) {n : Nat} (hn : n < 4) {x3 : Int32} : ∀ (r k : Nat), k + r = mny n → P (some (.int (iv (vcn T (tyA n 0 0 0) (mny n) : Nat)))) G → Xr E d x_X7_typingsOf 44 [some (.ref m), some (.ref (rA m bb)), some (.int (iv (n : Int))), some (.int x3), some (.int (iv (tyA n 0 0 0 : Nat))), some (.int (iv (mny n : Nat))), some (.int (iv (vcn T (tyA n 0 0 0) k : Nat))), some (.int (iv (k : Int)))] [] G P := by
  intro r
  have hM : mny n ≤ 192 := by unfold mny; split; omega; split <;> omega
  have hF : tyA n 0 0 0 + mny n ≤ 243 := by
    rcases (by omega : n = 0 ∨ n = 1 ∨ n = 2 ∨ n = 3) with rfl | rfl | rfl | rfl <;> decide
  induction r with
  | zero =>
    intro k hk hP
    refine g_X7_typingsOf_44 ?_
    rw [if_pos (by rw [iv_le (by constructor <;> omega) (by constructor <;> omega)]; omega), show k = mny n by omega]
    exact hP
  | succ r ih =>
    intro k hk hP
    refine g_X7_typingsOf_44 ?_
    have nx := ih (k + 1) (by omega) hP
    unfold vcn at nx
    rw [if_neg (by rw [iv_le (by constructor <;> omega) (by constructor <;> omega)]; omega), Mo_va hm, iv_add, show ((tyA n 0 0 0 : Nat) : Int) + (k : Int) = ((tyA n 0 0 0 + k : Nat) : Int) from rfl, Mg_va hm (by omega), hV _ (by omega)]
    simp only [b_0, i_s]
    cases hb : vT T (tyA n 0 0 0 + k) with
    | false =>
      rw [hb] at nx
      rw [if_pos rfl, iv_add]
      exact nx
    | true =>
      rw [hb] at nx
      rw [if_neg (by decide)]
      exact nx
/-- the typings of a nonterminal, q after q -/
def cq (T : Tb) (n q : Nat) : Nat → Nat
  | 0 => 0
  | s + 1 => cq T n q s + (if (T n s).testBit q = true then 1 else 0)
theorem cnS_q {T : Tb} {n : Nat} : ∀ s, cnS T n s = cq T n 0 s + cq T n 1 s + cq T n 2 s := by
  intro s
  induction s with
  | zero => rfl
  | succ s ih =>
    unfold cnS cq pop
    rw [ih]
    omega
theorem vcn_add {T : Tb} {f a : Nat} : ∀ b, vcn T f (a + b) = vcn T f a + vcn T (f + a) b := by
  intro b
  induction b with
  | zero => rfl
  | succ b ih =>
    show vcn T f (a + b) + (if vT T (f + (a + b)) = true then 1 else 0) = _ + (vcn T (f + a) b + (if vT T (f + a + b) = true then 1 else 0))
    rw [ih, show f + (a + b) = f + a + b by omega]
    omega
/-- one row of eight -/
theorem vcn_row {T : Tb} {f n q : Nat} : ∀ k, (∀ j, j < k → vT T (f + j) = (T n j).testBit q) → vcn T f k = cq T n q k := by
  intro k
  induction k with
  | zero => intro _; rfl
  | succ k ih =>
    intro h
    unfold vcn cq
    rw [ih (fun j hj => h j (by omega)), h k (by omega)]
theorem cq_add {T : Tb} {n q a : Nat} : ∀ b, cq T n q (a + b) = cq T n q a + cq (fun n s => T n (a + s)) n q b := by
  intro b
  induction b with
  | zero => rfl
  | succ b ih =>
    show cq T n q (a + b) + (if (T n (a + b)).testBit q = true then 1 else 0) = _ + (cq _ n q b + (if (T n (a + b)).testBit q = true then 1 else 0))
    rw [ih]
    omega
/-- one column of a square of 64 -/
def bt (T : Tb) (n q s : Nat) : Nat := if (T n s).testBit q = true then 1 else 0
theorem cq_8 {T : Tb} {n q : Nat} : cq T n q 8 = bt T n q 0 + bt T n q 1 + bt T n q 2 + bt T n q 3 + bt T n q 4 + bt T n q 5 + bt T n q 6 + bt T n q 7 := by
  show 0 + bt T n q 0 + bt T n q 1 + bt T n q 2 + bt T n q 3 + bt T n q 4 + bt T n q 5 + bt T n q 6 + bt T n q 7 = _
  omega
theorem cq_64 {T : Tb} {n q : Nat} : cq T n q 64 = cq T n q 8 + cq (fun n s => T n (8 + s)) n q 8 + cq (fun n s => T n (16 + s)) n q 8 + cq (fun n s => T n (24 + s)) n q 8 + cq (fun n s => T n (32 + s)) n q 8 + cq (fun n s => T n (40 + s)) n q 8 + cq (fun n s => T n (48 + s)) n q 8 + cq (fun n s => T n (56 + s)) n q 8 := by
  rw [show 64 = 8 + 8 + 8 + 8 + 8 + 8 + 8 + 8 from rfl]
  rw [cq_add, cq_add, cq_add, cq_add, cq_add, cq_add, cq_add]
theorem vcn_64 {T : Tb} {f q : Nat} (h : ∀ s1 s2, s1 < 8 → s2 < 8 → vT T (f + (8 * s1 + s2)) = (T 3 (s1 + 8 * s2)).testBit q) : vcn T f 64 = cq T 3 q 64 := by
  have row : ∀ s1, s1 < 8 → vcn T (f + 8 * s1) 8 = bt T 3 q s1 + bt T 3 q (s1 + 8) + bt T 3 q (s1 + 16) + bt T 3 q (s1 + 24) + bt T 3 q (s1 + 32) + bt T 3 q (s1 + 40) + bt T 3 q (s1 + 48) + bt T 3 q (s1 + 56) := by
    intro s1 h1
    have g := fun j hj => h s1 j h1 hj
    have e : ∀ j, j < 8 → (if vT T (f + 8 * s1 + j) = true then 1 else 0) = bt T 3 q (s1 + 8 * j) := by
      intro j hj
      rw [show f + 8 * s1 + j = f + (8 * s1 + j) by omega, g j hj]
      rfl
    show 0 + (if vT T (f + 8 * s1 + 0) = true then 1 else 0) + (if vT T (f + 8 * s1 + 1) = true then 1 else 0) + (if vT T (f + 8 * s1 + 2) = true then 1 else 0) + (if vT T (f + 8 * s1 + 3) = true then 1 else 0) + (if vT T (f + 8 * s1 + 4) = true then 1 else 0) + (if vT T (f + 8 * s1 + 5) = true then 1 else 0) + (if vT T (f + 8 * s1 + 6) = true then 1 else 0) + (if vT T (f + 8 * s1 + 7) = true then 1 else 0) = _
    rw [e 0 (by decide), e 1 (by decide), e 2 (by decide), e 3 (by decide), e 4 (by decide), e 5 (by decide), e 6 (by decide), e 7 (by decide)]
    show 0 + bt T 3 q s1 + bt T 3 q (s1 + 8) + bt T 3 q (s1 + 16) + bt T 3 q (s1 + 24) + bt T 3 q (s1 + 32) + bt T 3 q (s1 + 40) + bt T 3 q (s1 + 48) + bt T 3 q (s1 + 56) = _
    omega
  have e : vcn T f 64 = vcn T (f + 8 * 0) 8 + vcn T (f + 8 * 1) 8 + vcn T (f + 8 * 2) 8 + vcn T (f + 8 * 3) 8 + vcn T (f + 8 * 4) 8 + vcn T (f + 8 * 5) 8 + vcn T (f + 8 * 6) 8 + vcn T (f + 8 * 7) 8 := by
    rw [show 64 = 8 + 8 + 8 + 8 + 8 + 8 + 8 + 8 from rfl]
    rw [vcn_add, vcn_add, vcn_add, vcn_add, vcn_add, vcn_add, vcn_add]
    rfl
  have sh : ∀ a j, bt (fun n s => T n (a + s)) 3 q j = bt T 3 q (a + j) := fun _ _ => rfl
  rw [e, row 0 (by decide), row 1 (by decide), row 2 (by decide), row 3 (by decide), row 4 (by decide), row 5 (by decide), row 6 (by decide), row 7 (by decide), cq_64]
  simp only [cq_8, sh, Nat.reduceAdd, Nat.zero_add, Nat.add_zero]
  omega
theorem vcn_all {T : Tb} {n : Nat} (hn : n < 4) : vcn T (tyA n 0 0 0) (mny n) = cnS T n (stn n) := by
  rw [cnS_q]
  have q0 := (p12 ⟨0, by decide⟩).1 rfl
  have q1 := (p12 ⟨1, by decide⟩).2.1 rfl
  have q2 := (p12 ⟨2, by decide⟩).2.2.1 rfl
  have q3 := (p12 ⟨3, by decide⟩).2.2.2 rfl
  dsimp only [Sc_b, Sc_u, Sc_v, Md_len, Md_acts, Md_nxt, Md_ts, Md_bs, Md_lab, Md_xp, Md_sta, Md_tx, Md_nw, Md_tr, Md_rd, Md_di, Md_ke, Md_ik, Md_te, Md_bu, Md_va, Md_ju, Md_ma] at q0 q1 q2 q3
  rcases (by omega : n = 0 ∨ n = 1 ∨ n = 2 ∨ n = 3) with rfl | rfl | rfl | rfl
  · have hr : ∀ q, q < 3 → vcn T (0 + q) 1 = cq T 0 q 1 := fun q hq => vcn_row 1 (fun j hj => by
      have := vT_A (T := T) (n := 0) (q := q) (s1 := 0) (s2 := 0) ⟨by decide, hq, by rw [q0.1]; decide, by rw [q0.2.1]; decide⟩
      rw [show j = 0 by omega, show 0 + q + 0 = tyA 0 q 0 0 from by show 0 + q + 0 = q; omega]
      exact this)
    rw [q0.2.2]
    show vcn T 0 (1 + 1 + 1) = _
    rw [vcn_add, vcn_add, ← hr 0 (by decide), ← hr 1 (by decide), ← hr 2 (by decide)]
  · have hr : ∀ q, q < 3 → vcn T (3 + 8 * q) 8 = cq T 1 q 8 := fun q hq => vcn_row 8 (fun j hj => by
      have := vT_A (T := T) (n := 1) (q := q) (s1 := j) (s2 := 0) ⟨by decide, hq, by rw [q1.1]; exact hj, by rw [q1.2.1]; decide⟩
      exact this)
    rw [q1.2.2]
    show vcn T 3 (8 + 8 + 8) = _
    rw [vcn_add, vcn_add, ← hr 0 (by decide), ← hr 1 (by decide), ← hr 2 (by decide)]
  · have hr : ∀ q, q < 3 → vcn T (27 + 8 * q) 8 = cq T 2 q 8 := fun q hq => vcn_row 8 (fun j hj => by
      have := vT_A (T := T) (n := 2) (q := q) (s1 := j) (s2 := 0) ⟨by decide, hq, by rw [q2.1]; exact hj, by rw [q2.2.1]; decide⟩
      exact this)
    rw [q2.2.2]
    show vcn T 27 (8 + 8 + 8) = _
    rw [vcn_add, vcn_add, ← hr 0 (by decide), ← hr 1 (by decide), ← hr 2 (by decide)]
  · have hr : ∀ q, q < 3 → vcn T (51 + 64 * q) 64 = cq T 3 q 64 := fun q hq => vcn_64 (fun s1 s2 h1 h2 => by
      have := vT_A (T := T) (n := 3) (q := q) (s1 := s1) (s2 := s2) ⟨by decide, hq, by rw [q3.1]; exact h1, by rw [q3.2.1]; exact h2⟩
      rw [← this]
      show vT T _ = vT T (51 + 64 * q + 8 * s1 + s2)
      rw [Nat.add_assoc (51 + 64 * q)])
    rw [q3.2.2]
    show vcn T 51 (64 + 64 + 64) = _
    rw [vcn_add, vcn_add, ← hr 0 (by decide), ← hr 1 (by decide), ← hr 2 (by decide)]
theorem c_typingsOf {bb : Bool} {M : Md} (hm : Mo E G m M) (hR : okR M bb S) {n : Nat} (hn : n < 4) : runs E (d + 8) i_X7_typingsOf [.ref m, .ref (rA m bb), .int (iv (n : Int))] G (fun v G1 => v = some (.int (iv (cnS (cT S) n (stn n) : Nat))) ∧ ∃ N, Mo E G1 m N ∧ Wy M N ∧ sam E G G1 (ivl m 13)) := by
  refine e_X7_typingsOf ?_
  rw [Mo_rc hm]
  refine ⟨trivial, u_I (c_check (d := d) hm hR) ?_⟩
  rintro v G2 ⟨rfl, N, a1, a2, a3, a4⟩
  refine ⟨_, rfl, ?_⟩
  rw [show iv 0 = iv ((0 : Nat) : Int) from rfl, v_I (fun P => c_typingAt (d := d + 6) (P := P) hn)]
  have nx := c_toL (d := d + 7) (E := E) (G := G2) (m := m) (bb := bb) (P := fun v G1 => v = some (.int (iv (cnS (cT S) n (stn n) : Nat))) ∧ ∃ N, Mo E G1 m N ∧ Wy M N ∧ sam E G G1 (ivl m 13)) a1 a2 hn (x3 := iv (cRn S : Nat)) (mny n) 0 (by omega) ⟨by rw [vcn_all hn], N, a1, a3, a4⟩
  unfold mny at nx
  by_cases c0 : n = 0
  · rw [if_pos c0] at nx
    rw [if_neg (by rw [iv_eq0 (by constructor <;> omega)]; omega)]
    exact nx
  · rw [if_neg c0] at nx
    rw [if_pos (by rw [iv_eq0 (by constructor <;> omega)]; omega)]
    by_cases c3 : n = 3
    · rw [if_pos c3] at nx
      rw [if_neg (by rw [iv_eq (by constructor <;> omega) (by decide)]; omega)]
      exact nx
    · rw [if_neg c3] at nx
      rw [if_pos (by rw [iv_eq (by constructor <;> omega) (by decide)]; omega)]
      exact nx
end MCH
