-- uses 41 42 43 44 45 46 47 48 49 50 51 52 53 54 55 56 57 58 59 60 64 65 66 67 68 69 70 71 72 73 74 75 76 77 78 79 80
/-! the reference: questions about types -/
def s_accepts (A : As) : Int × As := ((if (cT A.S 0 0).testBit 0 = true then 1 else 0), A)
def s_rounds (A : As) : Int × As := (((cRn A.S : Nat) : Int), A)
def s_typingCount (A : As) (a : Int) : Int × As := if 0 ≤ a ∧ a < 4 then (((cnS (cT A.S) a.toNat (stn a.toNat) : Nat) : Int), A) else (-1, A)
abbrev fitP (n : Int) (c : Nat) (s : Int) : Prop := (c ≤ ar (4 + n.toNat) ∧ 0 ≤ s ∧ s ≤ 7) ∨ (ar (4 + n.toNat) < c ∧ s = 0)
def s_isValid (A : As) (n q s1 s2 : Int) : Int × As := if (0 ≤ n ∧ n < 4) ∧ (0 ≤ q ∧ q < 3) then (if fitP n 1 s1 ∧ fitP n 2 s2 then ((if (cT A.S n.toNat (s1.toNat + 8 * s2.toNat)).testBit q.toNat = true then 1 else 0), A) else (-2, A)) else (-1, A)
def s_demand (A : As) (n q k : Int) : Int × As := if (0 ≤ n ∧ n < 4) ∧ (0 ≤ q ∧ q < 3) then (if 1 ≤ k ∧ k ≤ ar (4 + n.toNat) then (cmR (cT A.S) n.toNat q.toNat k.toNat (stn n.toNat), A) else (-2, A)) else (-1, A)
section MTQ
variable {E : Ev} {d : Nat} {G : Hp} {P : Po} {m : Nat} {A : As}
theorem m_accepts (h : MH E G m A) : runs E (d + 9) i_X7_accepts [.ref m] G (mP E G m (s_accepts A)) := by
  obtain ⟨M, hm, hI⟩ := h
  refine e_X7_accepts ?_
  rw [Mo_nw hm, Mo_rc hm]
  refine ⟨trivial, u_I (c_isAccepted (d := d) (bb := false) hm hI.2.1) ?_⟩
  rintro v G1 ⟨rfl, N, a1, a2, a3⟩
  refine ⟨_, rfl, ?_⟩
  have e : s_accepts A = ((if (cT A.S 0 0).testBit 0 = true then 1 else 0), A) := rfl
  rw [e]
  cases hb : (cT A.S 0 0).testBit 0 with
  | false =>
    rw [if_pos (by decide)]
    exact ⟨rfl, ⟨N, a1, MI_wy hI a2⟩, a3⟩
  | true =>
    rw [if_neg (by decide)]
    exact ⟨rfl, ⟨N, a1, MI_wy hI a2⟩, a3⟩
theorem m_rounds (h : MH E G m A) : runs E (d + 8) i_X7_rounds [.ref m] G (mP E G m (s_rounds A)) := by
  obtain ⟨M, hm, hI⟩ := h
  refine e_X7_rounds ?_
  rw [Mo_nw hm, Mo_rc hm]
  refine ⟨trivial, u_I (c_check (d := d) (bb := false) hm hI.2.1) ?_⟩
  rintro v G1 ⟨rfl, N, a1, _, a2, a3⟩
  exact ⟨_, rfl, rfl, ⟨N, a1, MI_wy hI a2⟩, a3⟩
theorem m_typingCount {a : Int} (ha : Rg a) (h : MH E G m A) : runs E (d + 9) i_X7_typingCount [.ref m, .int (iv a)] G (mP E G m (s_typingCount A a)) := by
  obtain ⟨M, hm, hI⟩ := h
  refine e_X7_typingCount ?_
  rw [v_I (fun P => c_mIsNt (d := d + 6) (P := P) ha)]
  by_cases c1 : 0 ≤ a ∧ a < 4
  · obtain ⟨n, rfl⟩ := Int.eq_ofNat_of_zero_le c1.1
    have e : s_typingCount A (n : Int) = (((cnS (cT A.S) n (stn n) : Nat) : Int), A) := by unfold s_typingCount; exact if_pos c1
    rw [e, if_neg (by rw [tf_t c1]; decide), Mo_nw hm, Mo_rc hm]
    refine ⟨trivial, u_I (c_typingsOf (d := d) (bb := false) hm hI.2.1 (show n < 4 by omega)) ?_⟩
    rintro v G1 ⟨rfl, N, a1, a2, a3⟩
    exact ⟨_, rfl, rfl, ⟨N, a1, MI_wy hI a2⟩, a3⟩
  · have e : s_typingCount A a = (-1, A) := by unfold s_typingCount; exact if_neg c1
    rw [e, if_pos (by rw [tf_f c1]; decide)]
    exact ⟨rfl, ⟨M, hm, hI⟩, sam_rf⟩
theorem m_ivT {M : Md} (hm : Mo E G m M) (hI : MI M A) {n q s1 s2 : Nat} (hr : rg4 n q s1 s2) {r : Int} (hv : r = (if (cT A.S n (s1 + 8 * s2)).testBit q = true then 1 else 0)) : qFR E G m 7 2 fun v13 => (rcv E G m 7 = true ∧ (qCI E (d + 7) i_X7_check [.ref m, .ref v13] G fun v15 G14 => (qFR E G14 m 7 17 fun v16 => (qCI E (d + 7) i_X7_typingAt [.int (iv (n : Int)), .int (iv (q : Int)), .int (iv (s1 : Int)), .int (iv (s2 : Int))] G14 fun v18 G17 => (qBA E G17 v16 v18 fun v19 => (if v19 = 0 then mP E G m (r, A) (some (.int (iv 0))) G17 else mP E G m (r, A) (some (.int (iv 1))) G17)))))) := by
  rw [Mo_nw hm, Mo_rc hm]
  refine ⟨trivial, u_I (c_check (d := d) (bb := false) hm hI.2.1) ?_⟩
  rintro v G1 ⟨rfl, N, a1, a2, a3, a4⟩
  refine ⟨_, rfl, ?_⟩
  have hk := tyA_k hr
  rw [Mo_va a1, v_I (fun P => c_typingAt (d := d + 6) (P := P) hr.1), Mg_va a1 hk.1, a2 _ hk.1, vT_A hr, hv]
  cases hb : (cT A.S n (s1 + 8 * s2)).testBit q with
  | false =>
    rw [if_pos (by decide)]
    exact ⟨rfl, ⟨N, a1, MI_wy hI a3⟩, a4⟩
  | true =>
    rw [if_neg (by decide)]
    exact ⟨rfl, ⟨N, a1, MI_wy hI a3⟩, a4⟩
theorem m_isValid {n q s1 s2 : Int} (hn : Rg n) (hq : Rg q) (hs1 : Rg s1) (hs2 : Rg s2) (h : MH E G m A) : runs E (d + 8) i_X7_isValid [.ref m, .int (iv n), .int (iv q), .int (iv s1), .int (iv s2)] G (mP E G m (s_isValid A n q s1 s2)) := by
  obtain ⟨M, hm, hI⟩ := h
  refine e_X7_isValid ?_
  have bd : ∀ r : Int, s_isValid A n q s1 s2 = (r, A) → mP E G m (s_isValid A n q s1 s2) (some (.int (iv r))) G := by
    intro r e
    rw [e]
    exact ⟨rfl, ⟨M, hm, hI⟩, sam_rf⟩
  rw [v_I (fun P => c_mIsNt (d := d + 5) (P := P) hn)]
  by_cases c1 : 0 ≤ n ∧ n < 4
  · rw [if_neg (by rw [tf_t c1]; decide), v_I (fun P => c_in (d := d + 6) (P := P) (i64 hq) (b := 0) (c := 2) rfl rfl)]
    by_cases c2 : 0 ≤ q ∧ q ≤ 2
    · rw [if_pos (by rw [tf_t c2]; decide)]
      obtain ⟨n, rfl⟩ := Int.eq_ofNat_of_zero_le c1.1
      obtain ⟨q, rfl⟩ := Int.eq_ofNat_of_zero_le c2.1
      have hn4 : n < 4 := by omega
      have hq3 : q < 3 := by omega
      have har := ar_le (4 + n)
      have eF : ∀ c z, fitP (n : Int) c z = ((c ≤ ar (4 + n) ∧ 0 ≤ z ∧ z ≤ 7) ∨ (ar (4 + n) < c ∧ z = 0)) := fun _ _ => rfl
      have ep1 : p1 n = if 1 ≤ ar (4 + n) then 8 else 1 := rfl
      have ep2 : p2 n = if 2 ≤ ar (4 + n) then 8 else 1 := rfl
      have c12 : (0 ≤ (n : Int) ∧ (n : Int) < 4) ∧ (0 ≤ (q : Int) ∧ (q : Int) < 3) := ⟨c1, by omega⟩
      have bad : ¬ (fitP (n : Int) 1 s1 ∧ fitP (n : Int) 2 s2) → mP E G m (s_isValid A (n : Int) (q : Int) s1 s2) (some (.int (iv (-2)))) G := by
        intro z
        refine bd (-2) ?_
        unfold s_isValid
        rw [if_pos c12]
        exact if_neg z
      have good : ∀ (a b : Nat), fitP (n : Int) 1 (a : Int) ∧ fitP (n : Int) 2 (b : Int) → s_isValid A (n : Int) (q : Int) (a : Int) (b : Int) = ((if (cT A.S n (a + 8 * b)).testBit q = true then 1 else 0), A) := by
        intro a b z
        unfold s_isValid
        rw [if_pos c12]
        exact if_pos z
      have rg : ∀ (a b : Nat), fitP (n : Int) 1 (a : Int) ∧ fitP (n : Int) 2 (b : Int) → rg4 n q a b := by
        intro a b z
        rw [eF, eF] at z
        refine ⟨hn4, hq3, ?_, ?_⟩
        · rw [ep1]; split <;> omega
        · rw [ep2]; split <;> omega
      rw [v_I (fun P => c_params (d := d + 6) (P := P) hn4)]
      by_cases y1 : ar (4 + n) = 0
      · rw [if_pos (by rw [iv_le0 (by constructor <;> omega)]; omega), v_I (fun P => c_in (d := d + 6) (P := P) (i64 hs1) (b := 0) (c := 0) rfl rfl)]
        by_cases c3 : 0 ≤ s1 ∧ s1 ≤ 0
        · obtain ⟨s1, rfl⟩ := Int.eq_ofNat_of_zero_le c3.1
          rw [if_neg (by rw [tf_t c3]; decide), v_I (fun P => c_params (d := d + 6) (P := P) hn4), if_pos (by rw [iv_le (by constructor <;> omega) (by decide)]; omega), v_I (fun P => c_in (d := d + 6) (P := P) (i64 hs2) (b := 0) (c := 0) rfl rfl)]
          by_cases c4 : 0 ≤ s2 ∧ s2 ≤ 0
          · obtain ⟨s2, rfl⟩ := Int.eq_ofNat_of_zero_le c4.1
            have ft : fitP (n : Int) 1 (s1 : Int) ∧ fitP (n : Int) 2 (s2 : Int) := by rw [eF, eF]; omega
            rw [if_pos (by rw [tf_t c4]; decide), good _ _ ft]
            exact m_ivT (d := d) hm hI (rg _ _ ft) rfl
          · rw [if_neg (by rw [tf_f c4]; decide)]
            exact bad (by rw [eF, eF]; omega)
        · rw [if_pos (by rw [tf_f c3]; decide)]
          exact bad (by rw [eF, eF]; omega)
      · rw [if_neg (by rw [iv_le0 (by constructor <;> omega)]; omega), v_I (fun P => c_in (d := d + 6) (P := P) (i64 hs1) (b := 0) (c := 7) rfl rfl)]
        by_cases c3 : 0 ≤ s1 ∧ s1 ≤ 7
        · obtain ⟨s1, rfl⟩ := Int.eq_ofNat_of_zero_le c3.1
          rw [if_neg (by rw [tf_t c3]; decide), v_I (fun P => c_params (d := d + 6) (P := P) hn4)]
          by_cases y2 : ar (4 + n) ≤ 1
          · rw [if_pos (by rw [iv_le (by constructor <;> omega) (by decide)]; omega), v_I (fun P => c_in (d := d + 6) (P := P) (i64 hs2) (b := 0) (c := 0) rfl rfl)]
            by_cases c4 : 0 ≤ s2 ∧ s2 ≤ 0
            · obtain ⟨s2, rfl⟩ := Int.eq_ofNat_of_zero_le c4.1
              have ft : fitP (n : Int) 1 (s1 : Int) ∧ fitP (n : Int) 2 (s2 : Int) := by rw [eF, eF]; omega
              rw [if_pos (by rw [tf_t c4]; decide), good _ _ ft]
              exact m_ivT (d := d) hm hI (rg _ _ ft) rfl
            · rw [if_neg (by rw [tf_f c4]; decide)]
              exact bad (by rw [eF, eF]; omega)
          · rw [if_neg (by rw [iv_le (by constructor <;> omega) (by decide)]; omega), v_I (fun P => c_in (d := d + 6) (P := P) (i64 hs2) (b := 0) (c := 7) rfl rfl)]
            by_cases c4 : 0 ≤ s2 ∧ s2 ≤ 7
            · obtain ⟨s2, rfl⟩ := Int.eq_ofNat_of_zero_le c4.1
              have ft : fitP (n : Int) 1 (s1 : Int) ∧ fitP (n : Int) 2 (s2 : Int) := by rw [eF, eF]; omega
              rw [if_pos (by rw [tf_t c4]; decide), good _ _ ft]
              exact m_ivT (d := d) hm hI (rg _ _ ft) rfl
            · rw [if_neg (by rw [tf_f c4]; decide)]
              exact bad (by rw [eF, eF]; omega)
        · rw [if_pos (by rw [tf_f c3]; decide)]
          exact bad (by rw [eF, eF]; omega)
    · rw [if_neg (by rw [tf_f c2]; decide)]
      exact bd (-1) (by unfold s_isValid; exact if_neg (by omega))
  · rw [if_pos (by rw [tf_f c1]; decide)]
    exact bd (-1) (by unfold s_isValid; exact if_neg (by omega))
/-! demand -/
def dm2 (T : Tb) (n q k s1 : Nat) : Nat → Nat → Nat
  | 0, x => x
  | s2 + 1, x => if (T n (s1 + 8 * s2)).testBit q = true then dm2 T n q k s1 s2 x &&& (if k = 1 then s1 else s2) else dm2 T n q k s1 s2 x
def dm1 (T : Tb) (n q k : Nat) : Nat → Nat
  | 0 => 7
  | s1 + 1 => dm2 T n q k s1 (p2 n) (dm1 T n q k s1)
def df2 (T : Tb) (n q s1 : Nat) : Nat → Bool → Bool
  | 0, x => x
  | s2 + 1, x => df2 T n q s1 s2 x || (T n (s1 + 8 * s2)).testBit q
def df1 (T : Tb) (n q : Nat) : Nat → Bool
  | 0 => false
  | s1 + 1 => df2 T n q s1 (p2 n) (df1 T n q s1)
theorem dm2_bit {T : Tb} {n q k s1 i : Nat} : ∀ s2 x, (dm2 T n q k s1 s2 x).testBit i = true ↔ x.testBit i = true ∧ ∀ j, j < s2 → (T n (s1 + 8 * j)).testBit q = true → (if k = 1 then s1 else j).testBit i = true := by
  intro s2
  induction s2 with
  | zero => intro x; exact ⟨fun h => ⟨h, fun j hj => absurd hj (Nat.not_lt_zero _)⟩, fun h => h.1⟩
  | succ s2 ih =>
    intro x
    unfold dm2
    by_cases c : (T n (s1 + 8 * s2)).testBit q = true
    · rw [if_pos c, Nat.testBit_and, Bool.and_eq_true, ih]
      constructor
      · rintro ⟨⟨h1, h2⟩, h3⟩
        refine ⟨h1, fun j hj hb => ?_⟩
        by_cases z : j = s2
        · rw [z]; exact h3
        · exact h2 j (by omega) hb
      · rintro ⟨h1, h2⟩
        exact ⟨⟨h1, fun j hj hb => h2 j (by omega) hb⟩, h2 s2 (by omega) c⟩
    · rw [if_neg c, ih]
      constructor
      · rintro ⟨h1, h2⟩
        refine ⟨h1, fun j hj hb => ?_⟩
        by_cases z : j = s2
        · rw [z] at hb; exact absurd hb c
        · exact h2 j (by omega) hb
      · rintro ⟨h1, h2⟩
        exact ⟨h1, fun j hj hb => h2 j (by omega) hb⟩
theorem dm1_bit {T : Tb} {n q k i : Nat} : ∀ s1, (dm1 T n q k s1).testBit i = true ↔ (7 : Nat).testBit i = true ∧ ∀ a b, a < s1 → b < p2 n → (T n (a + 8 * b)).testBit q = true → (if k = 1 then a else b).testBit i = true := by
  intro s1
  induction s1 with
  | zero => exact ⟨fun h => ⟨h, fun a b ha => absurd ha (Nat.not_lt_zero _)⟩, fun h => h.1⟩
  | succ s1 ih =>
    unfold dm1
    rw [dm2_bit, ih]
    constructor
    · rintro ⟨⟨h1, h2⟩, h3⟩
      refine ⟨h1, fun a b ha hb ht => ?_⟩
      by_cases z : a = s1
      · subst z; exact h3 b hb ht
      · exact h2 a b (by omega) hb ht
    · rintro ⟨h1, h2⟩
      exact ⟨⟨h1, fun a b ha hb ht => h2 a b (by omega) hb ht⟩, fun j hj ht => h2 s1 j (by omega) hj ht⟩
theorem cmA_bit {T : Tb} {n q k i : Nat} : ∀ x, (cmA T n q k x).testBit i = true ↔ (7 : Nat).testBit i = true ∧ ∀ s, s < x → (T n s).testBit q = true → (if k = 1 then s % 8 else s / 8).testBit i = true := by
  intro x
  induction x with
  | zero => exact ⟨fun h => ⟨h, fun s hs => absurd hs (Nat.not_lt_zero _)⟩, fun h => h.1⟩
  | succ x ih =>
    unfold cmA
    by_cases c : (T n x).testBit q = true
    · rw [if_pos c, Nat.testBit_and, Bool.and_eq_true, ih]
      constructor
      · rintro ⟨⟨h1, h2⟩, h3⟩
        refine ⟨h1, fun s hs hb => ?_⟩
        by_cases z : s = x
        · rw [z]; exact h3
        · exact h2 s (by omega) hb
      · rintro ⟨h1, h2⟩
        exact ⟨⟨h1, fun s hs hb => h2 s (by omega) hb⟩, h2 x (by omega) c⟩
    · rw [if_neg c, ih]
      constructor
      · rintro ⟨h1, h2⟩
        refine ⟨h1, fun s hs hb => ?_⟩
        by_cases z : s = x
        · rw [z] at hb; exact absurd hb c
        · exact h2 s (by omega) hb
      · rintro ⟨h1, h2⟩
        exact ⟨h1, fun s hs hb => h2 s (by omega) hb⟩
theorem df2_t {T : Tb} {n q s1 : Nat} : ∀ s2 x, df2 T n q s1 s2 x = true ↔ x = true ∨ ∃ j, j < s2 ∧ (T n (s1 + 8 * j)).testBit q = true := by
  intro s2
  induction s2 with
  | zero => intro x; exact ⟨fun h => Or.inl h, fun h => h.elim id (fun ⟨j, hj, _⟩ => absurd hj (Nat.not_lt_zero _))⟩
  | succ s2 ih =>
    intro x
    unfold df2
    rw [Bool.or_eq_true, ih]
    constructor
    · rintro ((h | ⟨j, h1, h2⟩) | h)
      · exact Or.inl h
      · exact Or.inr ⟨j, by omega, h2⟩
      · exact Or.inr ⟨s2, by omega, h⟩
    · rintro (h | ⟨j, h1, h2⟩)
      · exact Or.inl (Or.inl h)
      · by_cases z : j = s2
        · rw [z] at h2; exact Or.inr h2
        · exact Or.inl (Or.inr ⟨j, by omega, h2⟩)
theorem df1_t {T : Tb} {n q : Nat} : ∀ s1, df1 T n q s1 = true ↔ ∃ a b, a < s1 ∧ b < p2 n ∧ (T n (a + 8 * b)).testBit q = true := by
  intro s1
  induction s1 with
  | zero => exact ⟨fun h => (by cases h), fun ⟨a, b, h, _⟩ => absurd h (Nat.not_lt_zero _)⟩
  | succ s1 ih =>
    unfold df1
    rw [df2_t, ih]
    constructor
    · rintro (⟨a, b, h1, h2⟩ | ⟨j, h1, h2⟩)
      · exact ⟨a, b, by omega, h2⟩
      · exact ⟨s1, j, by omega, h1, h2⟩
    · rintro ⟨a, b, h1, h2, h3⟩
      by_cases z : a = s1
      · subst z; exact Or.inr ⟨b, h2, h3⟩
      · exact Or.inl ⟨a, b, by omega, h2, h3⟩
theorem fdA_t {T : Tb} {n q : Nat} : ∀ x, fdA T n q x = true ↔ ∃ s, s < x ∧ (T n s).testBit q = true := by
  intro x
  induction x with
  | zero => exact ⟨fun h => (by cases h), fun ⟨a, h, _⟩ => absurd h (Nat.not_lt_zero _)⟩
  | succ x ih =>
    unfold fdA
    rw [Bool.or_eq_true, ih]
    constructor
    · rintro (⟨a, h1, h2⟩ | h)
      · exact ⟨a, by omega, h2⟩
      · exact ⟨x, by omega, h⟩
    · rintro ⟨a, h1, h2⟩
      by_cases z : a = x
      · rw [z] at h2; exact Or.inr h2
      · exact Or.inl ⟨a, by omega, h2⟩
theorem s_ab {n : Nat} (hn : n < 4) (h1 : 1 ≤ ar (4 + n)) : (∀ a b, a < 8 → b < p2 n → a + 8 * b < stn n ∧ (a + 8 * b) % 8 = a ∧ (a + 8 * b) / 8 = b) ∧ ∀ s, s < stn n → s % 8 < 8 ∧ s / 8 < p2 n ∧ s % 8 + 8 * (s / 8) = s := by
  have hp := p12 ⟨n, hn⟩
  dsimp only [Sc_b, Sc_u, Sc_v, Md_len, Md_acts, Md_nxt, Md_ts, Md_bs, Md_lab, Md_xp, Md_sta, Md_tx, Md_nw, Md_tr, Md_rd, Md_di, Md_ke, Md_ik, Md_te, Md_bu, Md_va, Md_ju, Md_ma, As_tx, As_S, As_R, As_nx, As_ct, As_K, As_F] at hp
  rcases (by omega : n = 0 ∨ n = 1 ∨ n = 2 ∨ n = 3) with rfl | rfl | rfl | rfl
  · exact absurd h1 (by decide)
  · obtain ⟨e1, e2, e3⟩ := hp.2.1 rfl
    rw [e2, e3]
    exact ⟨fun a b ha hb => by omega, fun s hs => by omega⟩
  · obtain ⟨e1, e2, e3⟩ := hp.2.2.1 rfl
    rw [e2, e3]
    exact ⟨fun a b ha hb => by omega, fun s hs => by omega⟩
  · obtain ⟨e1, e2, e3⟩ := hp.2.2.2 rfl
    rw [e2, e3]
    exact ⟨fun a b ha hb => by omega, fun s hs => by omega⟩
theorem dm_eq {T : Tb} {n q k : Nat} (hn : n < 4) (h1 : 1 ≤ ar (4 + n)) : dm1 T n q k 8 = cmA T n q k (stn n) := by
  obtain ⟨x1, x2⟩ := s_ab hn h1
  apply Nat.eq_of_testBit_eq
  intro i
  rw [Bool.eq_iff_iff, dm1_bit, cmA_bit]
  refine and_congr_right (fun _ => ⟨fun h s hs hb => ?_, fun h a b ha hb ht => ?_⟩)
  · obtain ⟨y1, y2, y3⟩ := x2 s hs
    exact h (s % 8) (s / 8) y1 y2 (by rw [y3]; exact hb)
  · obtain ⟨y1, y2, y3⟩ := x1 a b ha hb
    have := h _ y1 ht
    rw [y2, y3] at this
    exact this
theorem df_eq {T : Tb} {n q : Nat} (hn : n < 4) (h1 : 1 ≤ ar (4 + n)) : df1 T n q 8 = fdA T n q (stn n) := by
  obtain ⟨x1, x2⟩ := s_ab hn h1
  rw [Bool.eq_iff_iff, df1_t, fdA_t]
  constructor
  · rintro ⟨a, b, ha, hb, ht⟩
    exact ⟨_, (x1 a b ha hb).1, ht⟩
  · rintro ⟨s, hs, ht⟩
    obtain ⟨y1, y2, y3⟩ := x2 s hs
    exact ⟨s % 8, s / 8, y1, y2, by rw [y3]; exact ht⟩
theorem c_dm68 {M : Md} {T : Tb} (hm : Mo E G m M) (hV : VaM M T) {n q k : Nat} (hn : n < 4) (h1a : 1 ≤ ar (4 + n)) (hq : q < 3) (hk : k < 10) {s1 : Nat} (hs1 : s1 < 8) {x4 : Int32} {x0 : Nat} {f0 : Bool} : ∀ (r s2 : Nat), s2 + r = p2 n → (∀ l8, Xr E (d + 1) x_X7_demand 58 [some (.ref m), some (.int (iv (n : Int))), some (.int (iv (q : Int))), some (.int (iv (k : Int))), some (.int x4), some (.int (iv (dm2 T n q k s1 (p2 n) x0 : Nat))), some (.int (b2 (df2 T n q s1 (p2 n) f0))), some (.int (iv ((s1 + 1 : Nat) : Int))), l8] [] G P) → Xr E (d + 1) x_X7_demand 68 [some (.ref m), some (.int (iv (n : Int))), some (.int (iv (q : Int))), some (.int (iv (k : Int))), some (.int x4), some (.int (iv (dm2 T n q k s1 s2 x0 : Nat))), some (.int (b2 (df2 T n q s1 s2 f0))), some (.int (iv (s1 : Int))), some (.int (iv (s2 : Int)))] [] G P := by
  have har := ar_le (4 + n)
  have ep1 : p1 n = 8 := if_pos h1a
  have ep2 : p2 n = if 2 ≤ ar (4 + n) then 8 else 1 := rfl
  intro r
  induction r with
  | zero =>
    intro s2 hs hP
    have : s2 = p2 n := by omega
    subst this
    refine g_X7_demand_68 ?_
    rw [v_I (fun P => c_params (d := d) (P := P) hn), i_s]
    by_cases ca : 2 ≤ ar (4 + n)
    · rw [if_pos ca] at ep2
      rw [if_neg (by rw [iv_le (by constructor <;> omega) (by decide)]; omega), if_pos (by rw [iv_le (by decide) (by constructor <;> omega)]; omega)]
      exact hP _
    · rw [if_neg ca] at ep2
      rw [if_pos (by rw [iv_le (by constructor <;> omega) (by decide)]; omega), if_pos (by rw [iv_le (by decide) (by constructor <;> omega)]; omega)]
      exact hP _
  | succ r ih =>
    intro s2 hs hP
    have nx := ih (s2 + 1) (by omega) hP
    have rg : rg4 n q s1 s2 := ⟨hn, hq, by omega, by omega⟩
    have hA := tyA_k rg
    have body : (qFR E G m 7 17 fun v3 => (qCI E (d + 1) i_X7_typingAt [.int (iv (n : Int)), .int (iv (q : Int)), .int (iv (s1 : Int)), .int (iv (s2 : Int))] G fun v5 G4 => (qBA E G4 v3 v5 fun v6 => (if v6 = 0 then Xr E (d + 1) x_X7_demand 68 [some (.ref m), some (.int (iv (n : Int))), some (.int (iv (q : Int))), some (.int (iv (k : Int))), some (.int x4), some (.int (iv (dm2 T n q k s1 s2 x0 : Nat))), some (.int (b2 (df2 T n q s1 s2 f0))), some (.int (iv (s1 : Int))), some (.int (iv (s2 : Int) + iv 1))] [] G4 P else (if ¬ iv (k : Int) = (iv 1) then Xr E (d + 1) x_X7_demand 68 [some (.ref m), some (.int (iv (n : Int))), some (.int (iv (q : Int))), some (.int (iv (k : Int))), some (.int x4), some (.int (iv (dm2 T n q k s1 s2 x0 : Nat) &&& iv (s2 : Int))), some (.int (iv 1)), some (.int (iv (s1 : Int))), some (.int (iv (s2 : Int) + iv 1))] [] G4 P else Xr E (d + 1) x_X7_demand 68 [some (.ref m), some (.int (iv (n : Int))), some (.int (iv (q : Int))), some (.int (iv (k : Int))), some (.int x4), some (.int (iv (dm2 T n q k s1 s2 x0 : Nat) &&& iv (s1 : Int))), some (.int (iv 1)), some (.int (iv (s1 : Int))), some (.int (iv (s2 : Int) + iv 1))] [] G4 P))))) := by
      rw [Mo_va hm, v_I (fun P => c_typingAt (d := d) (P := P) hn), Mg_va hm hA.1, hV _ hA.1, vT_A rg, i_s]
      unfold dm2 df2 at nx
      cases hb : (T n (s1 + 8 * s2)).testBit q with
      | false =>
        rw [hb, if_neg (by decide), Bool.or_false] at nx
        rw [if_pos (by decide)]
        exact nx
      | true =>
        rw [hb, if_pos rfl, Bool.or_true] at nx
        rw [if_neg (by decide)]
        by_cases ck : k = 1
        · rw [if_pos ck] at nx
          rw [if_neg (by rw [iv_eq (by constructor <;> omega) (by decide)]; omega), iv_and]
          exact nx
        · rw [if_neg ck] at nx
          rw [if_pos (by rw [iv_eq (by constructor <;> omega) (by decide)]; omega), iv_and]
          exact nx
    refine g_X7_demand_68 ?_
    rw [v_I (fun P => c_params (d := d) (P := P) hn)]
    by_cases ca : 2 ≤ ar (4 + n)
    · rw [if_pos ca] at ep2
      rw [if_neg (by rw [iv_le (by constructor <;> omega) (by decide)]; omega), if_neg (by rw [iv_le (by decide) (by constructor <;> omega)]; omega)]
      exact body
    · rw [if_neg ca] at ep2
      rw [if_pos (by rw [iv_le (by constructor <;> omega) (by decide)]; omega), if_neg (by rw [iv_le (by decide) (by constructor <;> omega)]; omega)]
      exact body
theorem c_dm58 {M : Md} {T : Tb} (hm : Mo E G m M) (hV : VaM M T) {n q k : Nat} (hn : n < 4) (h1a : 1 ≤ ar (4 + n)) (hq : q < 3) (hk : k < 10) {x4 : Int32} : ∀ (r s1 : Nat) (l8 : Option Value), s1 + r = 8 → P (some (.int (iv (cmR T n q k (stn n))))) G → Xr E (d + 1) x_X7_demand 58 [some (.ref m), some (.int (iv (n : Int))), some (.int (iv (q : Int))), some (.int (iv (k : Int))), some (.int x4), some (.int (iv (dm1 T n q k s1 : Nat))), some (.int (b2 (df1 T n q s1))), some (.int (iv (s1 : Int))), l8] [] G P := by
  intro r
  induction r with
  | zero =>
    intro s1 l8 hs hP
    have : s1 = 8 := by omega
    subst this
    refine g_X7_demand_58 ?_
    rw [if_pos (by decide), df_eq hn h1a, dm_eq hn h1a]
    unfold cmR at hP
    cases hb : fdA T n q (stn n) with
    | false =>
      rw [hb] at hP
      rw [if_pos (by decide)]
      exact hP
    | true =>
      rw [hb] at hP
      rw [if_neg (by decide)]
      exact hP
  | succ r ih =>
    intro s1 l8 hs hP
    refine g_X7_demand_58 ?_
    rw [if_neg (by rw [iv_le (by decide) (by constructor <;> omega)]; omega)]
    refine c_dm68 (d := d) hm hV hn h1a hq hk (show s1 < 8 by omega) (p2 n) 0 (by omega) ?_
    intro l8'
    exact ih (s1 + 1) l8' (by omega) hP
theorem m_demand {n q k : Int} (hn : Rg n) (hq : Rg q) (hk : Rg k) (h : MH E G m A) : runs E (d + 8) i_X7_demand [.ref m, .int (iv n), .int (iv q), .int (iv k)] G (mP E G m (s_demand A n q k)) := by
  obtain ⟨M, hm, hI⟩ := h
  refine e_X7_demand ?_
  have bd : ∀ r : Int, s_demand A n q k = (r, A) → mP E G m (s_demand A n q k) (some (.int (iv r))) G := by
    intro r e
    rw [e]
    exact ⟨rfl, ⟨M, hm, hI⟩, sam_rf⟩
  rw [v_I (fun P => c_mIsNt (d := d + 5) (P := P) hn)]
  by_cases c1 : 0 ≤ n ∧ n < 4
  · rw [if_neg (by rw [tf_t c1]; decide), v_I (fun P => c_in (d := d + 6) (P := P) (i64 hq) (b := 0) (c := 2) rfl rfl)]
    by_cases c2 : 0 ≤ q ∧ q ≤ 2
    · rw [if_pos (by rw [tf_t c2]; decide)]
      obtain ⟨n, rfl⟩ := Int.eq_ofNat_of_zero_le c1.1
      obtain ⟨q, rfl⟩ := Int.eq_ofNat_of_zero_le c2.1
      have hn4 : n < 4 := by omega
      have hq3 : q < 3 := by omega
      have har := ar_le (4 + n)
      have c12 : (0 ≤ (n : Int) ∧ (n : Int) < 4) ∧ (0 ≤ (q : Int) ∧ (q : Int) < 3) := ⟨c1, by omega⟩
      rw [v_I (fun P => c_params (d := d + 6) (P := P) hn4), v_I (fun P => c_in (d := d + 6) (P := P) (i64 hk) (b := 1) rfl (i64 (by constructor <;> omega)))]
      by_cases c3 : 1 ≤ k ∧ k ≤ (ar (4 + n) : Int)
      · obtain ⟨k, rfl⟩ := Int.eq_ofNat_of_zero_le (show 0 ≤ k by omega)
        have e : s_demand A (n : Int) (q : Int) (k : Int) = (cmR (cT A.S) n q k (stn n), A) := by unfold s_demand; rw [if_pos c12]; exact if_pos c3
        rw [if_pos (by rw [tf_t c3]; decide), Mo_nw hm, Mo_rc hm, e]
        refine ⟨trivial, u_I (c_check (d := d) (bb := false) hm hI.2.1) ?_⟩
        rintro v G1 ⟨rfl, N, a1, a2, a3, a4⟩
        refine ⟨_, rfl, ?_⟩
        exact c_dm58 (d := d + 6) (T := cT A.S) a1 a2 hn4 (by omega) hq3 (show k < 10 by omega) 8 0 none (by omega) ⟨rfl, ⟨N, a1, MI_wy hI a3⟩, a4⟩
      · rw [if_neg (by rw [tf_f c3]; decide)]
        exact bd (-2) (by unfold s_demand; rw [if_pos c12]; exact if_neg c3)
    · rw [if_neg (by rw [tf_f c2]; decide)]
      exact bd (-1) (by unfold s_demand; exact if_neg (by omega))
  · rw [if_pos (by rw [tf_f c1]; decide)]
    exact bd (-1) (by unfold s_demand; exact if_neg (by omega))
end MTQ
