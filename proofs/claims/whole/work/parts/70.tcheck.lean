-- uses 41 42 43 44 45 46 47 48 49 50 51 52 53 54 58 69
/-! the class's type check -/
theorem tbit (a q : Nat) : a.testBit q = decide (a / 2 ^ q % 2 = 1) := Nat.testBit_eq_decide_div_mod_eq
theorem i_bit {a q : Nat} (ha : a < 1000) (hq : q < 32) : (iv (a : Int) >>> (iv (q : Int) &&& 31)) &&& iv 1 = iv (if a.testBit q = true then 1 else 0) := by
  have hand := iv_and (a / 2 ^ q) 1
  rw [Nat.and_one_is_mod] at hand
  rw [iv_shr hq (by omega), show iv 1 = iv ((1 : Nat) : Int) from rfl, hand, tbit]
  have : a / 2 ^ q % 2 < 2 := Nat.mod_lt _ (by decide)
  by_cases c : a / 2 ^ q % 2 = 1
  · rw [c]; rfl
  · rw [show a / 2 ^ q % 2 = 0 by omega]; rfl
theorem b_0 {b : Bool} : (iv (if b = true then 1 else 0) = 0) = (b = false) := by
  cases b <;> decide
theorem b_1 {b : Bool} : (iv (if b = true then 1 else 0) = iv 1) = (b = true) := by
  cases b <;> decide
def AB (E : Ev) (G : Hp) (a N : Nat) (l : Nat → Nat) : Prop := ∃ f, gt E G a = some (cA 1 64 f) ∧ ∀ i, i < N → f i = iv (l i : Nat) ∧ l i < 8
def TcO (E : Ev) (G : Hp) (c s : Nat) (rm se : Int) : Prop := gt E G c = some (cO 5 [.ref s, .ref (c + 1), .ref (c + 10), .ref (c + 15), .int (iv rm), .int (iv se)]) ∧
  (∃ g, gt E G (c + 1) = some (cR 2 8 g) ∧ ∀ k, k < 8 → g k = some (c + 2 + k)) ∧
  (∃ g, gt E G (c + 10) = some (cR 2 4 g) ∧ ∀ k, k < 4 → g k = some (c + 11 + k))
/-- terminals' rows, nonterminals' rows -/
def TcT (E : Ev) (G : Hp) (c : Nat) (S : Sc) : Prop := ∀ t, t < 4 → AB E G (c + 2 + t) 64 (fun i => tmT S t (i % 8) (i / 8))
def TcN (E : Ev) (G : Hp) (c : Nat) (T : Tb) : Prop := ∀ n, n < 4 → AB E G (c + 6 + n) (stn n) (T n)
def TcJ (E : Ev) (G : Hp) (c : Nat) : Prop := (∀ n, n < 4 → AB E G (c + 11 + n) 0 (fun _ => 0)) ∧ ∃ f, gt E G (c + 15) = some (cA 0 30 f)
section TC
variable {E : Ev} {d : Nat} {G : Hp} {P : Po} {c s : Nat} {w : Bool} {S : Sc} {T : Tb} {ed : Nat} {rm se : Int}
theorem AB_sam {G1 : Hp} {R : Nat → Prop} {a N : Nat} {l : Nat → Nat} (h : AB E G a N l) (k : sam E G G1 R) (h1 : ¬ R a) : AB E G1 a N l := by
  obtain ⟨f, b, e⟩ := h
  exact ⟨f, (k.1 _ h1).trans b, e⟩
theorem AB_g {a N i : Nat} {l : Nat → Nat} {F : Int32 → Prop} (h : AB E G a N l) (hi : i < N ∧ N ≤ 64) : qBA E G a (iv (i : Int)) F = F (iv (l i : Nat)) := by
  obtain ⟨f, b, e⟩ := h
  rw [u_BAn b (Or.inl rfl) (by omega), (e i hi.1).1]
theorem AB_s {a N i v : Nat} {l : Nat → Nat} {F : Hp → Prop} (h : AB E G a N l) (hi : i < 64) (hv : v < 8) (k : ∀ G1, (∀ N' l', (∀ j, j < N' → j ≠ i → j < N ∧ l' j = l j) → (i < N' → l' i = v) → AB E G1 a N' l') → sam E G G1 (ivl a 1) → F G1) : qBS E G a (iv (i : Int)) (iv (v : Int)) F := by
  obtain ⟨f, b, e⟩ := h
  rw [u_BSn b (Or.inl rfl) (by omega), iv_nar1 (by omega)]
  refine k _ (fun N' l' h1 h2 => ⟨_, gt_st_self (by rw [b]; rfl), fun j hj => ?_⟩) (sam_st ⟨Nat.le_refl _, by omega⟩)
  unfold upd
  by_cases cj : j = i
  · rw [if_pos cj, cj, h2 (by omega)]
    exact ⟨rfl, hv⟩
  · rw [if_neg cj]
    have := h1 j hj cj
    rw [this.2]
    exact e j this.1
theorem TcO_sam {G1 : Hp} {R : Nat → Prop} (h : TcO E G c s rm se) (k : sam E G G1 R) (h1 : ¬ R c) (h2 : ¬ R (c + 1)) (h3 : ¬ R (c + 10)) : TcO E G1 c s rm se := by
  obtain ⟨a, ⟨g, b, e⟩, ⟨g', b', e'⟩⟩ := h
  exact ⟨(k.1 _ h1).trans a, ⟨g, (k.1 _ h2).trans b, e⟩, ⟨g', (k.1 _ h3).trans b', e'⟩⟩
theorem TcT_sam {G1 : Hp} {R : Nat → Prop} (h : TcT E G c S) (k : sam E G G1 R) (hr : ∀ a, c + 2 ≤ a → a < c + 6 → ¬ R a) : TcT E G1 c S := fun t ht => AB_sam (h t ht) k (hr _ (by omega) (by omega))
theorem TcN_sam {G1 : Hp} {R : Nat → Prop} (h : TcN E G c T) (k : sam E G G1 R) (hr : ∀ a, c + 6 ≤ a → a < c + 10 → ¬ R a) : TcN E G1 c T := fun t ht => AB_sam (h t ht) k (hr _ (by omega) (by omega))
theorem TcJ_sam {G1 : Hp} {R : Nat → Prop} (h : TcJ E G c) (k : sam E G G1 R) (hr : ∀ a, c + 11 ≤ a → a < c + 16 → ¬ R a) : TcJ E G1 c := by
  obtain ⟨h1, f, h2⟩ := h
  exact ⟨fun t ht => AB_sam (h1 t ht) k (hr _ (by omega) (by omega)), f, (k.1 _ (hr _ (by omega) (by omega))).trans h2⟩
theorem c_settingsOf (hE : EK E) {n : Nat} (hn : n < 4) : runs E (d + 3) i_X5_settingsOf [.int (iv (n : Int))] G P = P (some (.int (iv (stn n : Nat)))) G := by
  refine runs_one (fun P hP => e_X5_settingsOf ?_) P
  rw [v_I (fun P => c_arityOfNonterminal (d := d) (P := P) hE.1 hn)]
  have : ∀ n : Fin 4, iv 1 <<< ((iv 3 * iv ((ar (4 + n.val) : Nat) : Int)) &&& 31) = iv ((stn n.val : Nat) : Int) := by decide +kernel
  have h2 := this ⟨n, hn⟩
  dsimp only [Sc_b, Sc_u, Sc_v, Md_len, Md_acts, Md_nxt, Md_ts, Md_bs, Md_lab, Md_xp, Md_sta, Md_tx, Md_nw, Md_tr, Md_rd, Md_di, Md_ke, Md_ik, Md_te, Md_bu, Md_va, Md_ju, Md_ma] at h2
  rw [h2]
  exact hP
theorem tm_one {x : Nat} {b : Bool} {q : Nat} (hx : x < 8) (hq : q < 3) : (if b = true then iv (x : Int) ||| (iv 1 <<< (iv (q : Int) &&& 31)) else iv (x : Int)) = iv ((x ||| bq b q : Nat) : Int) := by
  unfold bq
  cases b
  · rw [if_neg (by decide), if_neg (by decide), Nat.or_zero]
  · rw [if_pos rfl, if_pos rfl]
    have : ∀ q : Fin 3, iv 1 <<< (iv (q.val : Int) &&& 31) = iv ((2 ^ q.val : Nat) : Int) := by decide +kernel
    have h2 := this ⟨q, hq⟩
    dsimp only [Sc_b, Sc_u, Sc_v, Md_len, Md_acts, Md_nxt, Md_ts, Md_bs, Md_lab, Md_xp, Md_sta, Md_tx, Md_nw, Md_tr, Md_rd, Md_di, Md_ke, Md_ik, Md_te, Md_bu, Md_va, Md_ju, Md_ma] at h2
    rw [h2, iv_or]
/-- terminalTypes, the first q states done -/
def tmK (S : Sc) (t a1 a2 : Nat) : Nat → Nat
  | 0 => 0
  | q + 1 => tmK S t a1 a2 q ||| bq (tmQ S t a1 a2 q) q
theorem tmK_lt {S : Sc} {t a1 a2 : Nat} : ∀ q, q ≤ 3 → tmK S t a1 a2 q < 8 := by
  intro q
  induction q with
  | zero => intro _; show 0 < 8; decide
  | succ q ih => intro hq; exact Nat.or_lt_two_pow (n := 3) (ih (by omega)) (bq_lt (by omega))
theorem c_ttL (hE : EK E) (hS : okS S) (hO : TcO E G c s rm se) (hs : Sx E G s w S ed) {t sets : Nat} (ht : t < 4) (hse : sets < 64) : ∀ (r q : Nat) (l5 : Option Value), q + r = 3 → P (some (.int (iv (tmT S t (sets % 8) (sets / 8) : Nat)))) G → Xr E (d + 2) x_X5_terminalTypes 5 [some (.ref c), some (.int (iv (t : Int))), some (.int (iv (sets : Int))), some (.int (iv (tmK S t (sets % 8) (sets / 8) q : Nat))), some (.int (iv (q : Int))), l5] [] G P := by
  intro r
  have ha := ar_le t
  induction r with
  | zero =>
    intro q l5 hq hP
    have : q = 3 := by omega
    subst this
    refine g_X5_terminalTypes_5 ?_
    rw [if_pos (by decide)]
    exact hP
  | succ r ih =>
    intro q l5 hq hP
    have hq3 : q < 3 := by omega
    have hu := okS_u' hS (k := 4 * q + t) (by omega)
    have hrk : Rg (S.u (4 * q + t)) := by constructor <;> omega
    -- the last part: the state counts, or not
    have fin : ∀ (b : Bool), b = tmQ S t (sets % 8) (sets / 8) q → Xr E (d + 2) x_X5_terminalTypes 105 [some (.ref c), some (.int (iv (t : Int))), some (.int (iv (sets : Int))), some (.int (iv (tmK S t (sets % 8) (sets / 8) q : Nat))), some (.int (iv (q : Int))), some (.int (iv (if b = true then 1 else 0)))] [] G P := by
      intro b hb
      refine g_X5_terminalTypes_105 ?_
      have nx := fun l => ih (q + 1) l (by omega) hP
      have e1 : tmK S t (sets % 8) (sets / 8) (q + 1) = tmK S t (sets % 8) (sets / 8) q ||| bq b q := by rw [hb]; rfl
      rw [e1] at nx
      have h1 := tm_one (b := b) (tmK_lt (S := S) (t := t) (a1 := sets % 8) (a2 := sets / 8) q (by omega)) hq3
      simp only [b_0, i_s]
      cases b
      · rw [if_neg (by decide)] at h1
        rw [if_pos rfl, h1]
        exact nx _
      · rw [if_pos rfl] at h1
        rw [if_neg (by decide), h1]
        exact nx _
    -- the second child
    have mid : ∀ (b : Bool), b = (decide (S.u (4 * q + t) ≠ -1) && (decide (ar t < 1) || (sets % 8).testBit (S.u (4 * q + t)).toNat)) → Xr E (d + 2) x_X5_terminalTypes 64 [some (.ref c), some (.int (iv (t : Int))), some (.int (iv (sets : Int))), some (.int (iv (tmK S t (sets % 8) (sets / 8) q : Nat))), some (.int (iv (q : Int))), some (.int (iv (if b = true then 1 else 0)))] [] G P := by
      intro b hb
      have e0 : tmQ S t (sets % 8) (sets / 8) q = (b && (decide (ar t < 2) || (sets / 8).testBit (S.v (4 * q + t)).toNat)) := by
        rw [hb]
        unfold tmQ
        rw [Bool.and_assoc]
      refine g_X5_terminalTypes_64 ?_
      simp only [b_0]
      cases hbv : b with
      | false =>
        rw [hbv] at e0
        rw [if_pos rfl]
        exact fin false (by rw [e0]; rfl)
      | true =>
        rw [hbv] at e0 hb
        rw [if_neg (by decide), v_I (fun P => c_arN (d := d + 1) (P := P) hE.1 (show t < 10 by omega))]
        simp (disch := first | assumption | omega | decide) only [iv_lt]
        by_cases c2 : ar t < 2
        · rw [if_pos (by omega)]
          exact fin true (by rw [e0]; simp [c2])
        · rw [if_neg (by omega), v_I (fun P => c_secondOf (d := d + 1) (P := P) (show sets < 1000 by omega)), u_FR hO.1 rfl, Sm_rc hs]
          refine ⟨trivial, ?_⟩
          have hb2 : S.u (4 * q + t) ≠ -1 := by
            have := hb.symm
            simp only [Bool.and_eq_true, decide_eq_true_eq] at this
            exact this.1
          have hv2 : 0 ≤ S.v (4 * q + t) ∧ S.v (4 * q + t) < 3 := by
            rcases hS.2 (4 * q + t) (by omega) with z | z
            · exact absurd z.1 hb2
            · exact z.2
          rw [show iv 2 = iv ((2 : Nat) : Int) from rfl, v_I (fun P => c_target (d := d + 1) (P := P) hs hq3 ht (show 2 < 10 by decide)), show (if 2 = 1 then S.u (4 * q + t) else S.v (4 * q + t)) = S.v (4 * q + t) from if_neg (by decide)]
          obtain ⟨vv, hvv⟩ := Int.eq_ofNat_of_zero_le hv2.1
          rw [hvv, i_bit (by omega) (by omega)]
          simp only [b_0]
          rw [hvv, Int.toNat_natCast] at e0
          cases hx : (sets / 8).testBit vv with
          | false =>
            rw [if_pos rfl]
            exact fin false (by rw [e0, hx]; simp [c2])
          | true =>
            rw [if_neg (by decide)]
            exact fin true (by rw [e0, hx]; simp)
    refine g_X5_terminalTypes_5 ?_
    simp (disch := first | assumption | omega | decide) only [iv_le]
    rw [if_neg (by omega), u_FR hO.1 rfl, Sm_rc hs]
    refine ⟨trivial, ?_⟩
    rw [v_I (fun P => c_canRead (d := d + 1) (P := P) hs hq3 ht hrk)]
    simp only [tf_0, Classical.not_not]
    by_cases c1 : S.u (4 * q + t) = -1
    · rw [if_pos (by simpa using c1), tf_f (by simpa using c1)]
      exact mid false (by simp [c1])
    · rw [if_neg (by simpa using c1), tf_t c1, v_I (fun P => c_arN (d := d + 1) (P := P) hE.1 (show t < 10 by omega))]
      simp (disch := first | assumption | omega | decide) only [iv_lt]
      by_cases c2 : ar t < 1
      · rw [if_pos (by omega)]
        exact mid true (by simp [c1, c2])
      · rw [if_neg (by omega), v_I (fun P => c_firstOf (d := d + 1) (P := P)), u_FR hO.1 rfl, Sm_rc hs]
        refine ⟨trivial, ?_⟩
        have hv2 : 0 ≤ S.u (4 * q + t) ∧ S.u (4 * q + t) < 3 := by
          rcases hS.2 (4 * q + t) (by omega) with z | z
          · exact absurd z.1 c1
          · exact z.1
        rw [show iv 1 = iv ((1 : Nat) : Int) from rfl, v_I (fun P => c_target (d := d + 1) (P := P) hs hq3 ht (show 1 < 10 by decide)), if_pos rfl]
        obtain ⟨vv, hvv⟩ := Int.eq_ofNat_of_zero_le hv2.1
        rw [hvv] at mid
        rw [hvv, show iv ((1 : Nat) : Int) = iv 1 from rfl, i_bit (by omega) (by omega)]
        rw [Int.toNat_natCast] at mid
        simp only [b_0]
        cases hx : (sets % 8).testBit vv with
        | false =>
          rw [if_pos rfl]
          exact mid false (by rw [hx]; simp [c2])
        | true =>
          rw [if_neg (by decide)]
          exact mid true (by rw [hx]; simp)
theorem c_terminalTypes (hE : EK E) (hS : okS S) (hO : TcO E G c s rm se) (hs : Sx E G s w S ed) {t sets : Nat} (ht : t < 4) (hse : sets < 64) : runs E (d + 3) i_X5_terminalTypes [.ref c, .int (iv (t : Int)), .int (iv (sets : Int))] G P = P (some (.int (iv (tmT S t (sets % 8) (sets / 8) : Nat)))) G := by
  refine runs_one (fun P hP => e_X5_terminalTypes ?_) P
  exact c_ttL hE hS hO hs ht hse 3 0 none (by omega) hP
end TC
