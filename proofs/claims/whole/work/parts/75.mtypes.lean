-- uses 41 42 43 44 45 46 47 48 49 50 51 52 53 54 55 56 57 58 59 60 69 70
/-! the reference's types -/
def tyA (n q s1 s2 : Nat) : Nat := if n = 0 then q else if n = 1 then 3 + 8 * q + s1 else if n = 2 then 27 + 8 * q + s1 else 51 + 64 * q + 8 * s1 + s2
def p1 (n : Nat) : Nat := if 1 ≤ ar (4 + n) then 8 else 1
def p2 (n : Nat) : Nat := if 2 ≤ ar (4 + n) then 8 else 1
theorem p12 : ∀ n : Fin 4, (n.val = 0 → p1 n.val = 1 ∧ p2 n.val = 1 ∧ stn n.val = 1) ∧ (n.val = 1 → p1 n.val = 8 ∧ p2 n.val = 1 ∧ stn n.val = 8) ∧ (n.val = 2 → p1 n.val = 8 ∧ p2 n.val = 1 ∧ stn n.val = 8) ∧ (n.val = 3 → p1 n.val = 8 ∧ p2 n.val = 8 ∧ stn n.val = 64) := by decide +kernel
def nk (k : Nat) : Nat := if k < 3 then 0 else if k < 27 then 1 else if k < 51 then 2 else 3
def qk (k : Nat) : Nat := if k < 3 then k else if k < 27 then (k - 3) / 8 else if k < 51 then (k - 27) / 8 else (k - 51) / 64
def sk (k : Nat) : Nat := if k < 3 then 0 else if k < 27 then (k - 3) % 8 else if k < 51 then (k - 27) % 8 else (k - 51) / 8 % 8 + 8 * ((k - 51) % 8)
def rg4 (n q s1 s2 : Nat) : Prop := n < 4 ∧ q < 3 ∧ s1 < p1 n ∧ s2 < p2 n
theorem tyA_k {n q s1 s2 : Nat} (h : rg4 n q s1 s2) : tyA n q s1 s2 < 243 ∧ nk (tyA n q s1 s2) = n ∧ qk (tyA n q s1 s2) = q ∧ sk (tyA n q s1 s2) = s1 + 8 * s2 ∧ s1 + 8 * s2 < stn n ∧ s1 < 8 ∧ s2 < 8 := by
  obtain ⟨hn, hq, h1, h2⟩ := h
  have hp := p12 ⟨n, hn⟩
  dsimp only [Sc_b, Sc_u, Sc_v, Md_len, Md_acts, Md_nxt, Md_ts, Md_bs, Md_lab, Md_xp, Md_sta, Md_tx, Md_nw, Md_tr, Md_rd, Md_di, Md_ke, Md_ik, Md_te, Md_bu, Md_va, Md_ju, Md_ma] at hp
  rcases (by omega : n = 0 ∨ n = 1 ∨ n = 2 ∨ n = 3) with rfl | rfl | rfl | rfl
  · obtain ⟨e1, e2, e3⟩ := hp.1 rfl
    rw [e1] at h1
    rw [e2] at h2
    rw [e3]
    have e : tyA 0 q s1 s2 = q := rfl
    rw [e]
    unfold nk qk sk
    rw [if_pos (by omega), if_pos (by omega), if_pos (by omega)]
    omega
  · obtain ⟨e1, e2, e3⟩ := hp.2.1 rfl
    rw [e1] at h1
    rw [e2] at h2
    rw [e3]
    have e : tyA 1 q s1 s2 = 3 + 8 * q + s1 := rfl
    rw [e]
    unfold nk qk sk
    rw [if_neg (by omega), if_pos (by omega), if_neg (by omega), if_pos (by omega), if_neg (by omega), if_pos (by omega)]
    omega
  · obtain ⟨e1, e2, e3⟩ := hp.2.2.1 rfl
    rw [e1] at h1
    rw [e2] at h2
    rw [e3]
    have e : tyA 2 q s1 s2 = 27 + 8 * q + s1 := rfl
    rw [e]
    unfold nk qk sk
    rw [if_neg (by omega), if_neg (by omega), if_pos (by omega), if_neg (by omega), if_neg (by omega), if_pos (by omega), if_neg (by omega), if_neg (by omega), if_pos (by omega)]
    omega
  · obtain ⟨e1, e2, e3⟩ := hp.2.2.2 rfl
    rw [e1] at h1
    rw [e2] at h2
    rw [e3]
    have e : tyA 3 q s1 s2 = 51 + 64 * q + 8 * s1 + s2 := rfl
    rw [e]
    unfold nk qk sk
    rw [if_neg (by omega), if_neg (by omega), if_neg (by omega), if_neg (by omega), if_neg (by omega), if_neg (by omega), if_neg (by omega), if_neg (by omega), if_neg (by omega)]
    omega
/-- each number is one typing's -/
theorem k_tyA {k : Nat} (h : k < 243) : ∃ s1 s2, rg4 (nk k) (qk k) s1 s2 ∧ tyA (nk k) (qk k) s1 s2 = k ∧ sk k = s1 + 8 * s2 := by
  have q0 := (p12 ⟨0, by decide⟩).1 rfl
  have q1 := (p12 ⟨1, by decide⟩).2.1 rfl
  have q2 := (p12 ⟨2, by decide⟩).2.2.1 rfl
  have q3 := (p12 ⟨3, by decide⟩).2.2.2 rfl
  dsimp only [Sc_b, Sc_u, Sc_v, Md_len, Md_acts, Md_nxt, Md_ts, Md_bs, Md_lab, Md_xp, Md_sta, Md_tx, Md_nw, Md_tr, Md_rd, Md_di, Md_ke, Md_ik, Md_te, Md_bu, Md_va, Md_ju, Md_ma] at q0 q1 q2 q3
  by_cases c1 : k < 3
  · refine ⟨0, 0, ?_, ?_, ?_⟩
    · unfold rg4 nk qk
      rw [if_pos c1, if_pos c1, q0.1, q0.2.1]
      omega
    · unfold nk qk
      rw [if_pos c1, if_pos c1]
      rfl
    · unfold sk
      rw [if_pos c1]
  · by_cases c2 : k < 27
    · refine ⟨(k - 3) % 8, 0, ?_, ?_, ?_⟩
      · unfold rg4 nk qk
        rw [if_neg c1, if_pos c2, if_neg c1, if_pos c2, q1.1, q1.2.1]
        omega
      · unfold nk qk
        rw [if_neg c1, if_pos c2, if_neg c1, if_pos c2]
        show 3 + 8 * ((k - 3) / 8) + (k - 3) % 8 = k
        omega
      · unfold sk
        rw [if_neg c1, if_pos c2]
        omega
    · by_cases c3 : k < 51
      · refine ⟨(k - 27) % 8, 0, ?_, ?_, ?_⟩
        · unfold rg4 nk qk
          rw [if_neg c1, if_neg c2, if_pos c3, if_neg c1, if_neg c2, if_pos c3, q2.1, q2.2.1]
          omega
        · unfold nk qk
          rw [if_neg c1, if_neg c2, if_pos c3, if_neg c1, if_neg c2, if_pos c3]
          show 27 + 8 * ((k - 27) / 8) + (k - 27) % 8 = k
          omega
        · unfold sk
          rw [if_neg c1, if_neg c2, if_pos c3]
          omega
      · refine ⟨(k - 51) / 8 % 8, (k - 51) % 8, ?_, ?_, ?_⟩
        · unfold rg4 nk qk
          rw [if_neg c1, if_neg c2, if_neg c3, if_neg c1, if_neg c2, if_neg c3, q3.1, q3.2.1]
          omega
        · unfold nk qk
          rw [if_neg c1, if_neg c2, if_neg c3, if_neg c1, if_neg c2, if_neg c3]
          show 51 + 64 * ((k - 51) / 64) + 8 * ((k - 51) / 8 % 8) + (k - 51) % 8 = k
          omega
        · unfold sk
          rw [if_neg c1, if_neg c2, if_neg c3]
def vT (T : Tb) (k : Nat) : Bool := (T (nk k) (sk k)).testBit (qk k)
abbrev b2 (b : Bool) : Int32 := iv (if b = true then 1 else 0)
def VaM (M : Md) (T : Tb) : Prop := ∀ k, k < 243 → M.va k = b2 (vT T k)
theorem vT_A {T : Tb} {n q s1 s2 : Nat} (h : rg4 n q s1 s2) : vT T (tyA n q s1 s2) = (T n (s1 + 8 * s2)).testBit q := by
  obtain ⟨h1, h2, h3, h4, h5⟩ := tyA_k h
  unfold vT
  rw [h2, h3, h4]
section MTY
variable {E : Ev} {d : Nat} {G : Hp} {P : Po} {m : Nat} {M : Md} {T : Tb} {S : Sc}
theorem c_typingAt {n q s1 s2 : Nat} (hn : n < 4) : runs E (d + 1) i_X7_typingAt [.int (iv (n : Int)), .int (iv (q : Int)), .int (iv (s1 : Int)), .int (iv (s2 : Int))] G P = P (some (.int (iv (tyA n q s1 s2 : Nat)))) G := by
  refine runs_one (fun P hP => e_X7_typingAt ?_) P
  unfold tyA at hP
  simp (disch := first | assumption | omega | decide) only [iv_eq, iv_eq0, iv_mul, iv_add]
  by_cases c0 : n = 0
  · rw [if_pos c0] at hP
    rw [if_neg (by omega)]
    exact hP
  · rw [if_neg c0] at hP
    rw [if_pos (by omega)]
    by_cases c1 : n = 1
    · rw [if_pos c1] at hP
      rw [if_neg (by omega)]
      exact hP
    · rw [if_neg c1] at hP
      rw [if_pos (by omega)]
      by_cases c2 : n = 2
      · rw [if_pos c2] at hP
        rw [if_neg (by omega)]
        exact hP
      · rw [if_neg c2] at hP
        rw [if_pos (by omega)]
        exact hP
theorem sub_x : ∀ a b : Fin 8, (iv (a.val : Int) &&& (iv (b.val : Int) ^^^ iv (-1)) = 0) = (a.val &&& b.val = a.val) := by decide +kernel
/-- appliedTypes: what has been found -/
def ap2 (T : Tb) (n q a1 a2 s1 : Nat) : Nat → Bool
  | 0 => false
  | s2 + 1 => ap2 T n q a1 a2 s1 s2 || ((T n (s1 + 8 * s2)).testBit q && (decide (s1 &&& a1 = s1) && decide (s2 &&& a2 = s2)))
def ap1 (T : Tb) (n q a1 a2 : Nat) : Nat → Bool
  | 0 => false
  | s1 + 1 => ap1 T n q a1 a2 s1 || ap2 T n q a1 a2 s1 (p2 n)
def apK (T : Tb) (n a1 a2 : Nat) : Nat → Nat
  | 0 => 0
  | q + 1 => apK T n a1 a2 q ||| bq (ap1 T n q a1 a2 (p1 n)) q
theorem apK_lt {n a1 a2 : Nat} : ∀ q, q ≤ 3 → apK T n a1 a2 q < 8 := by
  intro q
  induction q with
  | zero => intro _; show 0 < 8; decide
  | succ q ih => intro hq; exact Nat.or_lt_two_pow (n := 3) (ih (by omega)) (bq_lt (by omega))
theorem ap2_t {n q a1 a2 s1 : Nat} : ∀ k, ap2 T n q a1 a2 s1 k = true ↔ ∃ s2, s2 < k ∧ (T n (s1 + 8 * s2)).testBit q = true ∧ s1 &&& a1 = s1 ∧ s2 &&& a2 = s2 := by
  intro k
  induction k with
  | zero =>
    constructor
    · intro h; cases h
    · rintro ⟨s2, h, _⟩; omega
  | succ k ih =>
    unfold ap2
    rw [Bool.or_eq_true, ih]
    simp only [Bool.and_eq_true, decide_eq_true_eq]
    constructor
    · rintro (⟨s2, h1, h2⟩ | h)
      · exact ⟨s2, by omega, h2⟩
      · exact ⟨k, by omega, h.1, h.2.1, h.2.2⟩
    · rintro ⟨s2, h1, h2⟩
      by_cases c : s2 = k
      · subst c
        exact Or.inr ⟨h2.1, h2.2.1, h2.2.2⟩
      · exact Or.inl ⟨s2, by omega, h2⟩
theorem ap1_t {n q a1 a2 : Nat} : ∀ k, ap1 T n q a1 a2 k = true ↔ ∃ s1 s2, s1 < k ∧ s2 < p2 n ∧ (T n (s1 + 8 * s2)).testBit q = true ∧ s1 &&& a1 = s1 ∧ s2 &&& a2 = s2 := by
  intro k
  induction k with
  | zero =>
    constructor
    · intro h; cases h
    · rintro ⟨s1, s2, h, _⟩; omega
  | succ k ih =>
    unfold ap1
    rw [Bool.or_eq_true, ih, ap2_t]
    constructor
    · rintro (⟨s1, s2, h1, h2⟩ | ⟨s2, h1, h2⟩)
      · exact ⟨s1, s2, by omega, h2⟩
      · exact ⟨k, s2, by omega, h1, h2⟩
    · rintro ⟨s1, s2, h1, h2⟩
      by_cases c : s1 = k
      · subst c
        exact Or.inr ⟨s2, h2.1, h2.2⟩
      · exact Or.inl ⟨s1, s2, by omega, h2⟩
theorem m8_bits : ∀ x : Fin 8, ((0 ||| bq (x.val.testBit 0) 0) ||| bq (x.val.testBit 1) 1) ||| bq (x.val.testBit 2) 2 = x.val := by decide +kernel
/-- with larger sets there are more types: the look into the table is enough -/
theorem apK_T (hT8 : T8 T) (hm : mon T) {n a1 a2 : Nat} (hn : n < 4) (h1 : a1 < p1 n) (h2 : a2 < p2 n) : apK T n a1 a2 3 = T n (a1 + 8 * a2) := by
  have hr := fun (s1 s2 : Nat) (k1 : s1 < p1 n) (k2 : s2 < p2 n) => tyA_k (q := 0) (n := n) (s1 := s1) (s2 := s2) ⟨hn, by decide, k1, k2⟩
  have e : ∀ q, ap1 T n q a1 a2 (p1 n) = (T n (a1 + 8 * a2)).testBit q := by
    intro q
    rw [Bool.eq_iff_iff, ap1_t]
    constructor
    · rintro ⟨s1, s2, k1, k2, k3, k4, k5⟩
      have r1 := hr s1 s2 k1 k2
      have r2 := hr a1 a2 h1 h2
      have := hm n (s1 + 8 * s2) (a1 + 8 * a2) hn r1.2.2.2.2.1 r2.2.2.2.2.1 (sub8 r1.2.2.2.2.2.1 r2.2.2.2.2.2.1 r1.2.2.2.2.2.2 r2.2.2.2.2.2.2 k4 k5)
      exact sub_bit.mp this q k3
    · intro k
      exact ⟨a1, a2, h1, h2, k, Nat.and_self _, Nat.and_self _⟩
  show ((0 ||| bq (ap1 T n 0 a1 a2 (p1 n)) 0) ||| bq (ap1 T n 1 a1 a2 (p1 n)) 1) ||| bq (ap1 T n 2 a1 a2 (p1 n)) 2 = _
  rw [e, e, e]
  exact m8_bits ⟨_, hT8 n _⟩
theorem bq_or {x q : Nat} {b c : Bool} : (x ||| bq b q) ||| bq c q = x ||| bq (b || c) q := by
  unfold bq
  cases b <;> cases c <;> simp [Nat.or_assoc]
theorem c_apL (hm : Mo E G m M) (hV : VaM M T) {n a1 a2 : Nat} (hn : n < 4) (h1 : a1 < 8) (h2 : a2 < 8) : ∀ (r q : Nat) (l6 l7 l8 : Option Value), q + r = 3 → P (some (.int (iv (apK T n a1 a2 3 : Nat)))) G → Xr E (d + 1) x_X7_appliedTypes 6 [some (.ref m), some (.int (iv (n : Int))), some (.int (iv (a1 : Int))), some (.int (iv (a2 : Int))), some (.int (iv (apK T n a1 a2 q : Nat))), some (.int (iv (q : Int))), l6, l7, l8] [] G P := by
  intro r
  have hpp := p12 ⟨n, hn⟩
  dsimp only [Sc_b, Sc_u, Sc_v, Md_len, Md_acts, Md_nxt, Md_ts, Md_bs, Md_lab, Md_xp, Md_sta, Md_tx, Md_nw, Md_tr, Md_rd, Md_di, Md_ke, Md_ik, Md_te, Md_bu, Md_va, Md_ju, Md_ma] at hpp
  have har := ar_le (4 + n)
  have ep1 : ∀ {A B : Prop} (x : Nat), (ar (4 + n) ≤ 0 → (if iv 1 ≤ iv (x : Int) then A else B)) → (¬ ar (4 + n) ≤ 0 → (if iv 8 ≤ iv (x : Int) then A else B)) → True := fun _ _ _ => trivial
  induction r with
  | zero =>
    intro q l6 l7 l8 hq hP
    have : q = 3 := by omega
    subst this
    refine g_X7_appliedTypes_6 ?_
    rw [if_pos (by decide)]
    exact hP
  | succ r ih =>
    intro q l6 l7 l8 hq hP
    have hq3 : q < 3 := by omega
    refine g_X7_appliedTypes_6 ?_
    simp (disch := first | assumption | omega | decide) only [iv_le]
    rw [if_neg (by omega)]
    -- the loop over s1
    have L1 : ∀ (r1 s1 : Nat) (l7 l8 : Option Value), s1 + r1 = p1 n → Xr E (d + 1) x_X7_appliedTypes 15 [some (.ref m), some (.int (iv (n : Int))), some (.int (iv (a1 : Int))), some (.int (iv (a2 : Int))), some (.int (iv ((apK T n a1 a2 q ||| bq (ap1 T n q a1 a2 s1) q : Nat) : Int))), some (.int (iv (q : Int))), some (.int (iv (s1 : Int))), l7, l8] [] G P := by
      intro r1
      induction r1 with
      | zero =>
        intro s1 l7 l8 hs1
        refine g_X7_appliedTypes_15 ?_
        have : s1 = p1 n := by omega
        subst this
        rw [v_I (fun P => c_params (d := d) (P := P) hn), i_s]
        simp (disch := first | assumption | omega | decide) only [iv_le0, iv_le]
        have nx := ih (q + 1) (some (.int (iv (p1 n : Nat)))) l7 l8 (by omega) hP
        have ep : p1 n = if 1 ≤ ar (4 + n) then 8 else 1 := rfl
        by_cases ca : 1 ≤ ar (4 + n)
        · rw [if_pos ca] at ep
          rw [if_neg (by omega), if_pos (by omega)]
          exact nx
        · rw [if_neg ca] at ep
          rw [if_pos (by omega), if_pos (by omega)]
          exact nx
      | succ r1 ih1 =>
        intro s1 l7 l8 hs1
        have hs1p : s1 < p1 n := by omega
        -- the loop over s2
        have L2 : ∀ (r2 s2 : Nat) (l8 : Option Value), s2 + r2 = p2 n → Xr E (d + 1) x_X7_appliedTypes 36 [some (.ref m), some (.int (iv (n : Int))), some (.int (iv (a1 : Int))), some (.int (iv (a2 : Int))), some (.int (iv (((apK T n a1 a2 q ||| bq (ap1 T n q a1 a2 s1) q) ||| bq (ap2 T n q a1 a2 s1 s2) q : Nat) : Int))), some (.int (iv (q : Int))), some (.int (iv (s1 : Int))), some (.int (iv (s2 : Int))), l8] [] G P := by
          intro r2
          induction r2 with
          | zero =>
            intro s2 l8 hs2
            have : s2 = p2 n := by omega
            subst this
            refine g_X7_appliedTypes_36 ?_
            rw [v_I (fun P => c_params (d := d) (P := P) hn), i_s]
            simp (disch := first | assumption | omega | decide) only [iv_le]
            have nx := ih1 (s1 + 1) (some (.int (iv (p2 n : Nat)))) l8 (by omega)
            have e1 : ap1 T n q a1 a2 (s1 + 1) = (ap1 T n q a1 a2 s1 || ap2 T n q a1 a2 s1 (p2 n)) := rfl
            rw [e1, ← bq_or] at nx
            have ep : p2 n = if 2 ≤ ar (4 + n) then 8 else 1 := rfl
            by_cases ca : 2 ≤ ar (4 + n)
            · rw [if_pos ca] at ep
              rw [if_neg (by omega), if_pos (by omega)]
              exact nx
            · rw [if_neg ca] at ep
              rw [if_pos (by omega), if_pos (by omega)]
              exact nx
          | succ r2 ih2 =>
            intro s2 l8 hs2
            have hs2p : s2 < p2 n := by omega
            have rg : rg4 n q s1 s2 := ⟨hn, hq3, hs1p, hs2p⟩
            have hk := tyA_k rg
            refine g_X7_appliedTypes_36 ?_
            rw [v_I (fun P => c_params (d := d) (P := P) hn)]
            simp (disch := first | assumption | omega | decide) only [iv_le]
            have e2 : ap2 T n q a1 a2 s1 (s2 + 1) = (ap2 T n q a1 a2 s1 s2 || ((T n (s1 + 8 * s2)).testBit q && (decide (s1 &&& a1 = s1) && decide (s2 &&& a2 = s2)))) := rfl
            have nx := fun l8 => ih2 (s2 + 1) l8 (by omega)
            rw [e2, ← bq_or] at nx
            -- the body of the loop
            have bod : (qFR E G m 7 17 fun v3 => (qCI E (d + 1) i_X7_typingAt [.int (iv (n : Int)), .int (iv (q : Int)), .int (iv (s1 : Int)), .int (iv (s2 : Int))] G fun v5 G4 => (qBA E G4 v3 v5 fun v6 => (if v6 = 0 then Xr E (d + 1) x_X7_appliedTypes 95 [some (.ref m), some (.int (iv (n : Int))), some (.int (iv (a1 : Int))), some (.int (iv (a2 : Int))), some (.int (iv (((apK T n a1 a2 q ||| bq (ap1 T n q a1 a2 s1) q) ||| bq (ap2 T n q a1 a2 s1 s2) q : Nat) : Int))), some (.int (iv (q : Int))), some (.int (iv (s1 : Int))), some (.int (iv (s2 : Int))), l8] [] G4 P else (if ¬ (iv (s1 : Int) &&& (iv (a1 : Int) ^^^ (iv (-1)))) = 0 then Xr E (d + 1) x_X7_appliedTypes 95 [some (.ref m), some (.int (iv (n : Int))), some (.int (iv (a1 : Int))), some (.int (iv (a2 : Int))), some (.int (iv (((apK T n a1 a2 q ||| bq (ap1 T n q a1 a2 s1) q) ||| bq (ap2 T n q a1 a2 s1 s2) q : Nat) : Int))), some (.int (iv (q : Int))), some (.int (iv (s1 : Int))), some (.int (iv (s2 : Int))), l8] [] G4 P else (if ¬ (iv (s2 : Int) &&& (iv (a2 : Int) ^^^ (iv (-1)))) = 0 then Xr E (d + 1) x_X7_appliedTypes 95 [some (.ref m), some (.int (iv (n : Int))), some (.int (iv (a1 : Int))), some (.int (iv (a2 : Int))), some (.int (iv (((apK T n a1 a2 q ||| bq (ap1 T n q a1 a2 s1) q) ||| bq (ap2 T n q a1 a2 s1 s2) q : Nat) : Int))), some (.int (iv (q : Int))), some (.int (iv (s1 : Int))), some (.int (iv (s2 : Int))), l8] [] G4 P else (if (iv 1) = 0 then Xr E (d + 1) x_X7_appliedTypes 36 [some (.ref m), some (.int (iv (n : Int))), some (.int (iv (a1 : Int))), some (.int (iv (a2 : Int))), some (.int (iv (((apK T n a1 a2 q ||| bq (ap1 T n q a1 a2 s1) q) ||| bq (ap2 T n q a1 a2 s1 s2) q : Nat) : Int) ||| iv 0)), some (.int (iv (q : Int))), some (.int (iv (s1 : Int))), some (.int (iv (s2 : Int) + iv 1)), some (.int (iv 1))] [] G4 P else Xr E (d + 1) x_X7_appliedTypes 36 [some (.ref m), some (.int (iv (n : Int))), some (.int (iv (a1 : Int))), some (.int (iv (a2 : Int))), some (.int (iv (((apK T n a1 a2 q ||| bq (ap1 T n q a1 a2 s1) q) ||| bq (ap2 T n q a1 a2 s1 s2) q : Nat) : Int) ||| ((iv 1) <<< (iv (q : Int) &&& 31)))), some (.int (iv (q : Int))), some (.int (iv (s1 : Int))), some (.int (iv (s2 : Int) + iv 1)), some (.int (iv 1))] [] G4 P))))))) := by
              have x1 := sub_x ⟨s1, hk.2.2.2.2.2.1⟩ ⟨a1, h1⟩
              have x2 := sub_x ⟨s2, hk.2.2.2.2.2.2⟩ ⟨a2, h2⟩
              dsimp only [Sc_b, Sc_u, Sc_v, Md_len, Md_acts, Md_nxt, Md_ts, Md_bs, Md_lab, Md_xp, Md_sta, Md_tx, Md_nw, Md_tr, Md_rd, Md_di, Md_ke, Md_ik, Md_te, Md_bu, Md_va, Md_ju, Md_ma] at x1 x2
              rw [Mo_va hm, v_I (fun P => c_typingAt (d := d) (P := P) hn), Mg_va hm hk.1, hV _ hk.1, vT_A rg]
              simp only [b_0, x1, x2, i_s]
              have hx8 : (apK T n a1 a2 q ||| bq (ap1 T n q a1 a2 s1) q) ||| bq (ap2 T n q a1 a2 s1 s2) q < 8 := Nat.or_lt_two_pow (n := 3) (Nat.or_lt_two_pow (apK_lt q (by omega)) (bq_lt hq3)) (bq_lt hq3)
              have no : ∀ (X : Bool), X = false → (((T n (s1 + 8 * s2)).testBit q && (decide (s1 &&& a1 = s1) && decide (s2 &&& a2 = s2))) = X) → Xr E (d + 1) x_X7_appliedTypes 95 [some (.ref m), some (.int (iv (n : Int))), some (.int (iv (a1 : Int))), some (.int (iv (a2 : Int))), some (.int (iv (((apK T n a1 a2 q ||| bq (ap1 T n q a1 a2 s1) q) ||| bq (ap2 T n q a1 a2 s1 s2) q : Nat) : Int))), some (.int (iv (q : Int))), some (.int (iv (s1 : Int))), some (.int (iv (s2 : Int))), l8] [] G P := by
                intro X hX hh
                refine g_X7_appliedTypes_95 ?_
                rw [hh, hX] at nx
                rw [if_pos (by decide), i_s]
                have h0 : iv (((apK T n a1 a2 q ||| bq (ap1 T n q a1 a2 s1) q) ||| bq (ap2 T n q a1 a2 s1 s2) q : Nat) : Int) ||| iv 0 = iv ((((apK T n a1 a2 q ||| bq (ap1 T n q a1 a2 s1) q) ||| bq (ap2 T n q a1 a2 s1 s2) q) ||| bq false q : Nat) : Int) := iv_or _ 0
                rw [h0]
                exact nx _
              cases hb : (T n (s1 + 8 * s2)).testBit q with
              | false =>
                rw [if_pos rfl]
                exact no false rfl (by rw [hb]; rfl)
              | true =>
                rw [if_neg (by decide)]
                by_cases y1 : s1 &&& a1 = s1
                · rw [if_neg (fun z => z y1)]
                  by_cases y2 : s2 &&& a2 = s2
                  · rw [if_neg (fun z => z y2), if_neg (by decide)]
                    have hh : ((T n (s1 + 8 * s2)).testBit q && (decide (s1 &&& a1 = s1) && decide (s2 &&& a2 = s2))) = true := by rw [hb]; simp [y1, y2]
                    rw [hh] at nx
                    have h1 := tm_one (b := true) hx8 hq3
                    rw [if_pos rfl] at h1
                    rw [h1]
                    exact nx _
                  · rw [if_pos y2]
                    exact no false rfl (by simp [y2])
                · rw [if_pos y1]
                  exact no false rfl (by simp [y1])
            have ep : p2 n = if 2 ≤ ar (4 + n) then 8 else 1 := rfl
            by_cases ca : 2 ≤ ar (4 + n)
            · rw [if_pos ca] at ep
              rw [if_neg (by omega), if_neg (by omega)]
              exact bod
            · rw [if_neg ca] at ep
              rw [if_pos (by omega), if_neg (by omega)]
              exact bod
        refine g_X7_appliedTypes_15 ?_
        rw [v_I (fun P => c_params (d := d) (P := P) hn)]
        simp (disch := first | assumption | omega | decide) only [iv_le0, iv_le]
        have go := L2 (p2 n) 0 l8 (by omega)
        have ez : ap2 T n q a1 a2 s1 0 = false := rfl
        rw [ez, show (apK T n a1 a2 q ||| bq (ap1 T n q a1 a2 s1) q) ||| bq false q = apK T n a1 a2 q ||| bq (ap1 T n q a1 a2 s1) q from Nat.or_zero _] at go
        have ep : p1 n = if 1 ≤ ar (4 + n) then 8 else 1 := rfl
        by_cases ca : 1 ≤ ar (4 + n)
        · rw [if_pos ca] at ep
          rw [if_neg (by omega), if_neg (by omega)]
          exact go
        · rw [if_neg ca] at ep
          rw [if_pos (by omega), if_neg (by omega)]
          exact go
    have go := L1 (p1 n) 0 l7 l8 (by omega)
    have ez : ap1 T n q a1 a2 0 = false := rfl
    rw [ez, show apK T n a1 a2 q ||| bq false q = apK T n a1 a2 q from Nat.or_zero _] at go
    exact go
theorem c_appliedTypes (hT8 : T8 T) (hmo : mon T) (hm : Mo E G m M) (hV : VaM M T) {n a1 a2 : Nat} (hn : n < 4) (h1 : a1 < p1 n) (h2 : a2 < p2 n) : runs E (d + 2) i_X7_appliedTypes [.ref m, .int (iv (n : Int)), .int (iv (a1 : Int)), .int (iv (a2 : Int))] G P = P (some (.int (iv (T n (a1 + 8 * a2) : Nat)))) G := by
  refine runs_one (fun P hP => e_X7_appliedTypes ?_) P
  have hr := tyA_k (q := 0) (n := n) (s1 := a1) (s2 := a2) ⟨hn, by decide, h1, h2⟩
  rw [← apK_T hT8 hmo hn h1 h2] at hP
  exact c_apL hm hV hn hr.2.2.2.2.2.1 hr.2.2.2.2.2.2 3 0 none none none (by omega) hP
end MTY
