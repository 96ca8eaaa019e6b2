-- uses 41 42 43 44 45 46 47 48 49 50 51 52 53 54 55 56 57 58 59 60 61 62 63 64 65
/-! paths as numbers -/
def val : List Nat → Nat → Nat
  | [], a => a
  | c :: p, a => val p (10 * a + c)
theorem val_app : ∀ (p : List Nat) (a c : Nat), val (p ++ [c]) a = 10 * val p a + c := by
  intro p
  induction p with
  | nil => intro a c; rfl
  | cons x p ih => intro a c; exact ih _ _
def dl : Nat → Nat → Option (List Nat)
  | 0, q => if q = 0 then some [] else none
  | k + 1, q => if q = 0 then some [] else if q % 10 = 1 ∨ q % 10 = 2 then (dl k (q / 10)).map (· ++ [q % 10]) else none
theorem dl_some : ∀ (k q : Nat) (ds : List Nat), dl k q = some ds → dig ds ∧ ds.length ≤ k ∧ q = val ds 0 := by
  intro k
  induction k with
  | zero =>
    intro q ds h
    unfold dl at h
    split at h
    · next z =>
      have := Option.some.inj h
      subst this
      exact ⟨fun c hc => (by cases hc), Nat.le_refl _, z⟩
    · cases h
  | succ k ih =>
    intro q ds h
    unfold dl at h
    split at h
    · next z =>
      have := Option.some.inj h
      subst this
      exact ⟨fun c hc => (by cases hc), Nat.zero_le _, z⟩
    · split at h
      · next z1 z2 =>
        cases hd : dl k (q / 10) with
        | none => rw [hd] at h; cases h
        | some es =>
          rw [hd] at h
          have e : es ++ [q % 10] = ds := Option.some.inj h
          subst e
          obtain ⟨a1, a2, a3⟩ := ih _ _ hd
          refine ⟨fun c hc => ?_, by simp; omega, ?_⟩
          · rw [List.mem_append] at hc
            rcases hc with hc | hc
            · exact a1 c hc
            · have : c = q % 10 := by simpa using hc
              rw [this]
              exact z2
          · rw [val_app, ← a3]
            omega
      · cases h
theorem dl_up {k q : Nat} (h : dl (k + 1) q ≠ none) : dl k (q / 10) ≠ none := by
  unfold dl at h
  split at h
  · next z =>
    subst z
    cases k <;> simp [dl]
  · split at h
    · intro e
      rw [e] at h
      exact h rfl
    · exact absurd rfl h
theorem dl_ups : ∀ (j k q : Nat), dl (k + j) q ≠ none → dl k (q / 10 ^ j) ≠ none := by
  intro j
  induction j with
  | zero => intro k q h; simpa using h
  | succ j ih =>
    intro k q h
    have := ih (k + 1) q (by rw [show k + 1 + j = k + (j + 1) by omega]; exact h)
    rw [Nat.pow_succ, ← Nat.div_div_eq_div_mul]
    exact dl_up this
theorem dl_big : ∀ (k q : Nat), 10 ^ k ≤ q → dl k q = none := by
  intro k
  induction k with
  | zero =>
    intro q h
    unfold dl
    rw [if_neg (by have : (10 : Nat) ^ 0 = 1 := rfl; omega)]
  | succ k ih =>
    intro q h
    have hp : 0 < 10 ^ k := Nat.pow_pos (by decide)
    rw [Nat.pow_succ] at h
    have h2 : 10 ^ k ≤ q / 10 := by omega
    unfold dl
    rw [if_neg (by omega), ih _ h2]
    split <;> rfl
def pds (z : Int) : Option (List Nat) := if z < 0 then none else dl 6 z.toNat
theorem pds_some {z : Int} {ds : List Nat} (h : pds z = some ds) : dig ds ∧ ds.length ≤ 6 ∧ z = (val ds 0 : Nat) := by
  unfold pds at h
  split at h
  · cases h
  · obtain ⟨a, b, c⟩ := dl_some _ _ _ h
    exact ⟨a, b, by omega⟩
/-- digits of a value -/
theorem val_dig : ∀ (k : Nat) (p : List Nat), p.length = k → dig p → ∀ i, i < k → val p 0 / 10 ^ (k - 1 - i) % 10 = p.getD i 0 := by
  intro k
  induction k with
  | zero => intro p _ _ i hi; omega
  | succ k ih =>
    intro p hl hp i hi
    obtain ⟨p', c, rfl⟩ : ∃ p' c, p = p' ++ [c] := by
      rcases List.eq_nil_or_concat p with z | ⟨p', c, z⟩
      · subst z; simp at hl
      · exact ⟨p', c, by simpa using z⟩
    have hl' : p'.length = k := by simp at hl; exact hl
    have hp' : dig p' := fun x hx => hp x (List.mem_append_left _ hx)
    have hc : c = 1 ∨ c = 2 := hp c (List.mem_append_right _ (by simp))
    rw [val_app]
    by_cases e : i = k
    · subst e
      rw [show i + 1 - 1 - i = 0 by omega, gD_r (by omega), hl']
      simp
      omega
    · rw [gD_l (by omega), ← ih p' hl' hp' i (by omega), show k + 1 - 1 - i = (k - 1 - i) + 1 by omega, Nat.pow_succ, Nat.mul_comm (10 ^ (k - 1 - i)) 10, ← Nat.div_div_eq_div_mul]
      congr 2
      omega
/-- the digits of a node's path -/
def bds : Nat → Nat → List Nat
  | _, 0 => []
  | n, k + 1 => bds (n / 2) k ++ [n % 2 + 1]
theorem bds_ok : ∀ (k n : Nat), (bds n k).length = k ∧ dig (bds n k) := by
  intro k
  induction k with
  | zero => intro n; exact ⟨rfl, fun c hc => by cases hc⟩
  | succ k ih =>
    intro n
    have := ih (n / 2)
    refine ⟨by show (bds (n / 2) k ++ [n % 2 + 1]).length = _; simp [this.1], fun c hc => ?_⟩
    have hc2 : c ∈ bds (n / 2) k ++ [n % 2 + 1] := hc
    rw [List.mem_append] at hc2
    rcases hc2 with z | z
    · exact this.2 c z
    · have : c = n % 2 + 1 := by simpa using z
      omega
theorem bds_nd : ∀ (k n : Nat), n / 2 ^ k = 1 → nd 1 (bds n k) = n := by
  intro k
  induction k with
  | zero =>
    intro n h
    have : n = 1 := by simpa using h
    rw [this]
    rfl
  | succ k ih =>
    intro n h
    rw [Nat.pow_succ, Nat.mul_comm (2 ^ k) 2, ← Nat.div_div_eq_div_mul] at h
    show nd 1 (bds (n / 2) k ++ [n % 2 + 1]) = n
    rw [nd_app, ih _ h]
    omega
theorem nd_bds : ∀ (k : Nat) (p : List Nat), p.length = k → dig p → bds (nd 1 p) k = p := by
  intro k
  induction k with
  | zero =>
    intro p hl _
    have : p = [] := List.length_eq_zero_iff.mp hl
    subst this
    rfl
  | succ k ih =>
    intro p hl hp
    obtain ⟨p', c, rfl⟩ : ∃ p' c, p = p' ++ [c] := by
      rcases List.eq_nil_or_concat p with z | ⟨p', c, z⟩
      · subst z; simp at hl
      · exact ⟨p', c, by simpa using z⟩
    have hl' : p'.length = k := by simp at hl; exact hl
    have hp' : dig p' := fun x hx => hp x (List.mem_append_left _ hx)
    have hc : c = 1 ∨ c = 2 := hp c (List.mem_append_right _ (by simp))
    rw [nd_app]
    show bds ((2 * nd 1 p' + c - 1) / 2) k ++ [(2 * nd 1 p' + c - 1) % 2 + 1] = p' ++ [c]
    have h1 := (nd_div p' 1 hp').2
    have h2 : 0 < 2 ^ p'.length := Nat.pow_pos (by decide)
    have e1 : (2 * nd 1 p' + c - 1) / 2 = nd 1 p' := by omega
    have e2 : (2 * nd 1 p' + c - 1) % 2 + 1 = c := by omega
    rw [e1, e2, ih p' hl' hp']
theorem val_lt : ∀ (k n : Nat), k ≤ 6 → val (bds n k) 0 < 10 ^ k := by
  intro k
  induction k with
  | zero => intro n _; show 0 < 1; decide
  | succ k ih =>
    intro n hk
    show val (bds (n / 2) k ++ [n % 2 + 1]) 0 < _
    rw [val_app, Nat.pow_succ]
    have := ih (n / 2) (by omega)
    omega
section PT
variable {E : Ev} {d : Nat} {G : Hp} {P : Po}
theorem c_tensL : ∀ (m i k : Nat), i + m = k → k ≤ 6 → P (some (.int (iv ((10 ^ k : Nat) : Int)))) G → Xr E d x_X7_tens 4 [some (.int (iv (k : Int))), some (.int (iv ((10 ^ i : Nat) : Int))), some (.int (iv (i : Int)))] [] G P := by
  intro m
  induction m with
  | zero =>
    intro i k h1 h2 hP
    refine g_X7_tens_4 ?_
    simp (disch := first | assumption | omega | decide) only [iv_le]
    rw [if_pos (by omega), show i = k by omega]
    exact hP
  | succ m ih =>
    intro i k h1 h2 hP
    refine g_X7_tens_4 ?_
    simp (disch := first | assumption | omega | decide) only [iv_le]
    rw [if_neg (by omega), i_s, show iv ((10 ^ i : Nat) : Int) * iv 10 = iv ((10 ^ (i + 1) : Nat) : Int) by rw [iv_mul, Nat.pow_succ]; rfl]
    exact ih (i + 1) k (by omega) h2 hP
theorem c_tens {k : Nat} (hk : k ≤ 6) : runs E (d + 1) i_X7_tens [.int (iv (k : Int))] G P = P (some (.int (iv ((10 ^ k : Nat) : Int)))) G := by
  refine runs_one (fun P hP => e_X7_tens ?_) P
  exact c_tensL k 0 k (by omega) hk hP
def sopN (n : Nat) (o : Option (List Nat)) : Int := match o with
  | none => -9
  | some ds => ((n + ds.length : Nat) : Int)
theorem c_sopL {x : Int} (hx : Rg x) (hx0 : 0 ≤ x) : ∀ (m n q : Nat), n + m = 6 → (q : Int) ≤ x → P (some (.int (iv (sopN n (dl m q))))) G → Xr E (d + 1) x_X7_stepsOfPath 10 [some (.int (iv x)), some (.int (iv (n : Int))), some (.int (iv (q : Int)))] [] G P := by
  intro m
  have zero : ∀ (m : Nat), dl m 0 = some [] := by
    intro m
    cases m <;> simp [dl]
  have modq : ∀ q : Nat, (q : Int) ≤ x → iv (q : Int) - iv (q : Int) / iv 10 * iv 10 = iv ((q % 10 : Nat) : Int) := by
    intro q hq
    rw [iv_tmod (by omega) (by omega)]
    rfl
  induction m with
  | zero =>
    intro n q hn hq hP
    have : n = 6 := by omega
    subst this
    refine g_X7_stepsOfPath_10 ?_
    have hrq : Rg (q : Int) := by constructor <;> omega
    simp (disch := first | assumption | omega | decide) only [iv_le0, iv_0le]
    by_cases c : q = 0
    · subst c
      rw [zero] at hP
      rw [if_pos (by omega), if_pos hx0]
      exact hP
    · have e0 : dl 0 q = none := by
        unfold dl
        rw [if_neg c]
      rw [e0] at hP
      rw [if_neg (by omega), modq q hq, v_I (fun P => c_in (d := d) (P := P) (i64 (a := ((q % 10 : Nat) : Int)) (by constructor <;> omega)) (b := 1) (c := 2) rfl rfl)]
      simp only [tf_0]
      split
      · exact hP
      · rw [if_neg (by decide)]
        exact hP
  | succ m ih =>
    intro n q hn hq hP
    refine g_X7_stepsOfPath_10 ?_
    have hrq : Rg (q : Int) := by constructor <;> omega
    simp (disch := first | assumption | omega | decide) only [iv_le0, iv_0le]
    by_cases c : q = 0
    · subst c
      rw [zero] at hP
      rw [if_pos (by omega), if_pos hx0]
      exact hP
    · rw [if_neg (by omega), modq q hq, v_I (fun P => c_in (d := d) (P := P) (i64 (a := ((q % 10 : Nat) : Int)) (by constructor <;> omega)) (b := 1) (c := 2) rfl rfl)]
      simp only [tf_0]
      unfold dl at hP
      rw [if_neg c] at hP
      by_cases c2 : q % 10 = 1 ∨ q % 10 = 2
      · rw [if_pos c2] at hP
        rw [if_neg (fun z => z (by omega))]
        simp (disch := first | assumption | omega | decide) only [iv_eq]
        rw [if_pos (by omega), i_s, iv_tdiv (by omega) (by omega)]
        refine ih (n + 1) (q / 10) (by omega) (by omega) ?_
        cases hdl : dl m (q / 10) with
        | none =>
          rw [hdl] at hP
          exact hP
        | some ds =>
          rw [hdl] at hP
          have e : sopN n (Option.map (fun x => x ++ [q % 10]) (some ds)) = sopN (n + 1) (some ds) := by
            unfold sopN
            show ((n + (ds ++ [q % 10]).length : Nat) : Int) = ((n + 1 + ds.length : Nat) : Int)
            rw [List.length_append]
            simp
            omega
          rw [e] at hP
          exact hP
      · rw [if_neg c2] at hP
        rw [if_pos (by omega)]
        exact hP
theorem c_stepsOfPath {z : Int} (hz : Rg z) : runs E (d + 2) i_X7_stepsOfPath [.int (iv z)] G P = P (some (.int (iv (sopN 0 (pds z))))) G := by
  refine runs_one (fun P hP => e_X7_stepsOfPath ?_) P
  simp (disch := first | assumption | omega | decide) only [iv_eq0]
  unfold pds at hP
  by_cases c : z < 0
  · rw [if_pos c] at hP
    rw [if_pos (by omega)]
    refine g_X7_stepsOfPath_10 ?_
    simp (disch := first | assumption | omega | decide) only [iv_le0, iv_0le]
    rw [if_pos (by omega), if_neg (by omega)]
    exact hP
  · rw [if_neg c] at hP
    obtain ⟨q, rfl⟩ := Int.eq_ofNat_of_zero_le (show 0 ≤ z by omega)
    rw [Int.toNat_natCast] at hP
    by_cases c2 : (q : Int) = 0
    · have : q = 0 := by omega
      subst this
      rw [if_neg (by simp)]
      exact hP
    · rw [if_pos c2]
      exact c_sopL hz (by omega) 6 0 q (by omega) (Int.le_refl _) hP
def ndO (o : Option (List Nat)) : Nat := match o with
  | none => 0
  | some ds => nd 1 ds
theorem c_nodL {p : Nat} (hp : p < 1000000) : ∀ (j : Nat) (ds : List Nat) (l3 : Option Value), j ≤ 6 → dl (6 - j) (p / 10 ^ j) = some ds → P (some (.int (iv (ndO (dl 6 p) : Nat)))) G → Xr E (d + 1) x_X6_nodeOf 19 [some (.int (iv (p : Int))), some (.int (iv (nd 1 ds : Nat))), some (.int (iv ((10 ^ j / 10 : Nat) : Int))), l3] [] G P := by
  intro j
  induction j with
  | zero =>
    intro ds l3 hj hd hP
    refine g_X6_nodeOf_19 ?_
    rw [if_pos (by decide)]
    have : dl 6 p = some ds := by simpa using hd
    rw [this] at hP
    exact hP
  | succ j ih =>
    intro ds l3 hj hd hP
    have hu : 10 ^ (j + 1) / 10 = 10 ^ j := by rw [Nat.pow_succ]; omega
    have hpos : 0 < 10 ^ j := Nat.pow_pos (by decide)
    have hle : 10 ^ j ≤ 10 ^ 5 := Nat.pow_le_pow_right (by decide) (by omega)
    have h5 : (10 : Nat) ^ 5 = 100000 := rfl
    obtain ⟨_, hdl2, _⟩ := dl_some _ _ _ hd
    refine g_X6_nodeOf_19 ?_
    rw [hu]
    simp (disch := first | assumption | omega | decide) only [iv_le0, iv_lt, iv_eq0]
    rw [if_neg (by omega)]
    have hdd : p / 10 ^ (j + 1) = p / 10 ^ j / 10 := by rw [Nat.pow_succ, ← Nat.div_div_eq_div_mul]
    rw [hdd] at hd
    have en : iv ((10 ^ j : Nat) : Int) / iv 10 = iv ((10 ^ j / 10 : Nat) : Int) := by
      rw [iv_tdiv (by omega) (by omega)]
      rfl
    have h6j : 6 - j = (6 - (j + 1)) + 1 := by omega
    by_cases c : p < 10 ^ j
    · rw [if_pos (by omega), en]
      refine ih ds l3 (by omega) ?_ hP
      rw [Nat.div_eq_of_lt c] at hd ⊢
      have e0 : ∀ k, dl k 0 = some [] := by
        intro k
        cases k <;> simp [dl]
      have hd' : dl (6 - (j + 1)) 0 = some ds := hd
      rw [e0] at hd' ⊢
      exact hd'
    · rw [if_neg (by omega)]
      refine ⟨by omega, ?_⟩
      have hq1 : 1 ≤ p / 10 ^ j := (Nat.le_div_iff_mul_le hpos).mpr (by omega)
      have hqle : p / 10 ^ j ≤ p := Nat.div_le_self _ _
      have ed : iv (p : Int) / iv ((10 ^ j : Nat) : Int) = iv ((p / 10 ^ j : Nat) : Int) := by
        rw [iv_tdiv (by omega) (by omega)]
        rfl
      have em : iv ((p / 10 ^ j : Nat) : Int) - iv ((p / 10 ^ j : Nat) : Int) / iv 10 * iv 10 = iv ((p / 10 ^ j % 10 : Nat) : Int) := by
        rw [iv_tmod (by omega) (by omega)]
        rfl
      rw [ed, em]
      simp (disch := first | assumption | omega | decide) only [iv_eq]
      have go : (p / 10 ^ j % 10 = 1 ∨ p / 10 ^ j % 10 = 2) → Xr E (d + 1) x_X6_nodeOf 47 [some (.int (iv (p : Int))), some (.int (iv (nd 1 ds : Nat))), some (.int (iv ((10 ^ j : Nat) : Int))), some (.int (iv ((p / 10 ^ j % 10 : Nat) : Int)))] [] G P := by
        intro hdg
        refine g_X6_nodeOf_47 ?_
        rw [v_I (fun P => c_childOf (d := d) (P := P)), en]
        have e1 : 2 * ((nd 1 ds : Nat) : Int) + ((p / 10 ^ j % 10 : Nat) : Int) - 1 = ((nd 1 (ds ++ [p / 10 ^ j % 10]) : Nat) : Int) := by
          rw [nd_app]
          omega
        rw [e1]
        refine ih _ _ (by omega) ?_ hP
        rw [h6j]
        unfold dl
        rw [if_neg (by omega), if_pos hdg, hd]
        rfl
      by_cases c1 : p / 10 ^ j % 10 = 1
      · rw [if_pos (by omega)]
        exact go (Or.inl c1)
      · rw [if_neg (by omega)]
        by_cases c2 : p / 10 ^ j % 10 = 2
        · rw [if_pos (by omega)]
          exact go (Or.inr c2)
        · rw [if_neg (by omega)]
          have : dl 6 p = none := by
            cases hh : dl 6 p with
            | none => rfl
            | some es =>
              have := dl_ups j (6 - j) p (by rw [show 6 - j + j = 6 by omega, hh]; simp)
              rw [h6j] at this
              unfold dl at this
              rw [if_neg (by omega), if_neg (by omega)] at this
              exact absurd rfl this
          rw [this] at hP
          exact hP
theorem c_nodeOf {z : Int} (hz : Rg z) : runs E (d + 2) i_X6_nodeOf [.int (iv z)] G P = P (some (.int (iv (ndO (pds z) : Nat)))) G := by
  refine runs_one (fun P hP => e_X6_nodeOf ?_) P
  simp (disch := first | assumption | omega | decide) only [iv_lt0, iv_le]
  unfold pds at hP
  by_cases c : z < 0
  · rw [if_pos c] at hP ⊢
    exact hP
  · rw [if_neg c] at hP ⊢
    obtain ⟨p, rfl⟩ := Int.eq_ofNat_of_zero_le (show 0 ≤ z by omega)
    rw [Int.toNat_natCast] at hP
    by_cases c2 : (p : Int) ≤ 999999
    · rw [if_pos c2]
      exact c_nodL (p := p) (by omega) 6 [] none (by omega) (by
        have : p / 10 ^ 6 = 0 := Nat.div_eq_of_lt (by have : (10 : Nat) ^ 6 = 1000000 := rfl; omega)
        rw [this]
        rfl) hP
    · rw [if_neg c2]
      rw [dl_big 6 p (by have : (10 : Nat) ^ 6 = 1000000 := rfl; omega)] at hP
      exact hP
end PT
