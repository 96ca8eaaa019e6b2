-- uses 41 42 43 44 45 46 47 48 49 50 51 52 53 54 55 56 57 58 59 60 64 65 66 67 68 69 70 71 72 73 74 75 76 77 78 79 80 81 86 87
/-! the reference: commands, scripts -/
def setBT (T : Sc) (a b : Nat) : Sc := (Sc.mk T.b (upI T.u (4 * a + 1) (b : Int)) (upI T.v (4 * a + 1) 0))
def cmd (T : Sc) (h a b c : Nat) : Option Sc :=
  if h = 1 then (if (a < 3 ∧ b < 4) ∧ c = 0 ∧ T.u (4 * a + b) ≠ -1 then some (dropT T (4 * a + b)) else none)
  else if h = 2 then (if (a < 3 ∧ b < 3) ∧ c = 0 then some (setBT T a b) else none)
  else if h = 3 then (if (a = 0 ∧ b = 0) ∧ c = (if (cT T 0 0).testBit 0 = true then 1 else 0) then some T else none)
  else if h = 4 then (if a < 4 ∧ cnS (cT T) a (stn a) = 10 * b + c then some T else none)
  else if h = 5 then (if a ≤ 6 ∧ cnW T a (2 ^ a) = 10 * b + c then some T else none)
  else if h = 6 then (if a = 0 ∧ cRn T = 10 * b + c then some T else none)
  else none
def cmdG (T : Sc) (g : Nat) : Option Sc := cmd T (g / 1000) (g / 100 % 10) (g / 10 % 10) (g % 10)
def rsL (x : Nat) : Nat → Nat → Sc → Int
  | 0, _, _ => -9
  | r + 1, k, T => match cmdG T (x / 10000 ^ r % 10000) with
    | none => (k : Int)
    | some T' => rsL x r (k + 1) T'
def s_runScript (A : As) (n : Int) (x : Int64) : Int × As := if (1 ≤ n ∧ n ≤ 4) ∧ (0 ≤ x.toInt ∧ x.toInt < ((10000 ^ n.toNat : Nat) : Int)) then (rsL x.toInt.toNat n.toNat 0 A.S, A) else (-2, A)
theorem pop_le {x : Nat} : pop x ≤ 3 := by
  unfold pop
  split <;> split <;> split <;> omega
theorem cnS_le {T : Tb} {n : Nat} : ∀ s, cnS T n s ≤ 3 * s := by
  intro s
  induction s with
  | zero => exact Nat.le_refl _
  | succ s ih =>
    unfold cnS
    have := pop_le (x := T n s)
    omega
theorem cnW_le {S : Sc} {dp : Nat} : ∀ j, cnW S dp j ≤ j := by
  intro j
  induction j with
  | zero => exact Nat.le_refl _
  | succ j ih =>
    unfold cnW
    split <;> omega
theorem chk_le {S : Sc} : ∀ k T, (chk S k T).1 ≤ k := by
  intro k
  induction k with
  | zero => intro T; exact Nat.le_refl _
  | succ k ih =>
    intro T
    unfold chk
    split
    · have := ih (rnd S T)
      show _ + 1 ≤ _
      omega
    · show 1 ≤ k + 1
      omega
theorem Rw_u {f f' : Nat → Int32} {S : Sc} {k : Nat} {a b : Int} (hr : Rw f S) (hS : okS S) (hk : k < 12) (h1 : f' (124 + 3 * k) = iv (if a = -1 then 0 else 1)) (h2 : a ≠ -1 → f' (124 + 3 * k + 1) = iv a ∧ (k % 4 = 0 → f' (124 + 3 * k + 2) = iv b)) (h3 : ∀ j, j < 124 + 3 * k ∨ 124 + 3 * k + 3 ≤ j → f' j = f j) : Rw f' (Sc.mk S.b (upI S.u k a) (upI S.v k b)) := by
  refine ⟨fun n hn => ⟨?_, fun i hi => ?_⟩, fun j hj => ?_⟩
  · show f' (31 * n) = _
    rw [h3 _ (by omega)]; exact (hr.1 n hn).1
  · have := (hS.1 n hn).1
    have hi' : i < (S.b n).length := hi
    show f' (31 * n + 1 + i) = _
    rw [h3 _ (by omega)]; exact (hr.1 n hn).2 i hi
  · show f' (124 + 3 * j) = iv (if upI S.u k a j = -1 then 0 else 1) ∧ (upI S.u k a j ≠ -1 → f' (124 + 3 * j + 1) = iv (upI S.u k a j) ∧ (j % 4 = 0 → f' (124 + 3 * j + 2) = iv (upI S.v k b j)))
    unfold upI
    by_cases z : j = k
    · rw [if_pos z, if_pos z, z]
      exact ⟨h1, h2⟩
    · rw [if_neg z, if_neg z, h3 _ (by omega), h3 _ (by omega), h3 _ (by omega)]
      exact hr.2 j hj
section MSC
variable {E : Ev} {d : Nat} {G : Hp} {P : Po} {m : Nat} {A : As}
def cmP (E : Ev) (G : Hp) (m : Nat) (A : As) (o : Option Sc) : Po := fun v G1 => sam E G G1 (ivl m 13) ∧ ∃ N, Mo E G1 m N ∧ MI N A ∧ (match o with
  | none => v = some (.int (iv 0))
  | some T' => v = some (.int (iv 1)) ∧ okR N true T')
theorem iv_t {a : Int} (h : Rg a) {n : Int} : ((iv a).toInt = n) = (a = n) := by rw [iv_toInt h]
set_option maxRecDepth 2000 in
theorem c_command {M : Md} {T : Sc} {h a b c : Nat} (hh : h < 10) (ha : a < 10) (hb : b < 10) (hc : c < 10) (hm : Mo E G m M) (hI : MI M A) (hR : okR M true T) : runs E (d + 10) i_X7_command [.ref m, .int (iv (h : Int)), .int (iv (a : Int)), .int (iv (b : Int)), .int (iv (c : Int))] G (cmP E G m A (cmd T h a b c)) := by
  refine e_X7_command ?_
  have hRt : Rw M.tr T := hR.1
  have no : cmd T h a b c = none → cmP E G m A (cmd T h a b c) (some (.int (iv 0))) G := by
    intro e
    rw [e]
    exact ⟨sam_rf, M, hm, hI, rfl⟩
  have fin : ∀ (p : Prop) [Decidable p] (G1 : Hp) (N : Md), cmd T h a b c = (if p then some T else none) → Mo E G1 m N → MI N A → okR N true T → sam E G G1 (ivl m 13) → (p → cmP E G m A (cmd T h a b c) (some (.int (iv 1))) G1) ∧ (¬ p → cmP E G m A (cmd T h a b c) (some (.int (iv 0))) G1) := by
    intro p _ G1 N e a1 a2 a3 a4
    refine ⟨fun y => ?_, fun y => ?_⟩
    · rw [e, if_pos y]
      exact ⟨a4, N, a1, a2, rfl, a3⟩
    · rw [e, if_neg y]
      exact ⟨a4, N, a1, a2, rfl⟩
  have r9 : Rg (h : Int) := by constructor <;> omega
  by_cases c1 : h = 1
  · rw [if_pos (by rw [iv_toInt r9]; omega), v_I (fun P => c_isPair (d := d + 7) (P := P) (show Rg (a : Int) by constructor <;> omega) (show Rg (b : Int) by constructor <;> omega))]
    have e : cmd T h a b c = (if (a < 3 ∧ b < 4) ∧ c = 0 ∧ T.u (4 * a + b) ≠ -1 then some (dropT T (4 * a + b)) else none) := by unfold cmd; rw [if_pos c1]
    by_cases c2 : a < 3 ∧ b < 4
    · rw [if_neg (by rw [tf_t (by omega)]; decide)]
      by_cases c3 : c = 0
      · have hk : 4 * a + b < 12 := by omega
        rw [if_neg (by rw [iv_eq0 (by constructor <;> omega)]; omega), Mo_tr hm, v_I (fun P => c_stepAt (d := d + 8) (P := P)), Mg_tr hm (by omega), (hRt.2 _ hk).1]
        by_cases c4 : T.u (4 * a + b) = -1
        · rw [if_neg (by rw [u_iff]; exact fun y => y c4)]
          exact no (by rw [e]; exact if_neg (fun y => y.2.2 c4))
        · rw [if_pos (by rw [u_iff]; exact c4), Mo_tr hm, v_I (fun P => c_stepAt (d := d + 8) (P := P))]
          refine Ms_tr hm (by omega) ?_
          intro G1 a1 a2
          rw [e, if_pos ⟨c2, c3, c4⟩]
          refine ⟨a2, _, a1, MI_c hI rfl rfl rfl rfl rfl rfl rfl rfl, rfl, ?_, okS_t hR.2 (Or.inl ⟨rfl, rfl⟩)⟩
          refine Rw_u (f := M.tr) (f' := upd M.tr (124 + 3 * (4 * a + b)) (iv 0)) hRt hR.2 hk ?_ (fun z => absurd rfl z) ?_
          · unfold upd
            rw [if_pos rfl, if_pos rfl]
          · intro j hj
            unfold upd
            rw [if_neg (by omega)]
      · rw [if_pos (by rw [iv_eq0 (by constructor <;> omega)]; omega)]
        exact no (by rw [e]; exact if_neg (fun y => c3 y.2.1))
    · rw [if_pos (by rw [tf_f (by omega)]; decide)]
      exact no (by rw [e]; exact if_neg (fun y => c2 y.1))
  · rw [if_neg (by rw [iv_toInt r9]; omega)]
    by_cases d2 : h = 2
    · rw [if_pos (by rw [iv_toInt r9]; omega), v_I (fun P => c_in (d := d + 8) (P := P) (i64 (show Rg (a : Int) by constructor <;> omega)) (b := 0) (c := 2) rfl rfl)]
      have e : cmd T h a b c = (if (a < 3 ∧ b < 3) ∧ c = 0 then some (setBT T a b) else none) := by unfold cmd; rw [if_neg c1, if_pos d2]
      by_cases c2 : a < 3
      · rw [if_neg (by rw [tf_t (by omega)]; decide), v_I (fun P => c_in (d := d + 8) (P := P) (i64 (show Rg (b : Int) by constructor <;> omega)) (b := 0) (c := 2) rfl rfl)]
        by_cases c3 : b < 3
        · rw [if_neg (by rw [tf_t (by omega)]; decide)]
          by_cases c4 : c = 0
          · have hk : 4 * a + 1 < 12 := by omega
            rw [if_pos (by rw [iv_eq0 (by constructor <;> omega)]; omega), Mo_tr hm, show iv 1 = iv ((1 : Nat) : Int) from rfl, v_I (fun P => c_stepAt (d := d + 8) (P := P))]
            refine Ms_tr hm (by omega) ?_
            intro G1 a1 a2
            rw [Mo_tr a1, v_I (fun P => c_stepAt (d := d + 8) (P := P)), show iv ((124 + 3 * (4 * a + 1) : Nat) : Int) + iv ((1 : Nat) : Int) = iv ((124 + 3 * (4 * a + 1) + 1 : Nat) : Int) by rw [iv_add]; rfl]
            refine Ms_tr a1 (by omega) ?_
            intro G2 b1 b2
            rw [e, if_pos ⟨⟨c2, c3⟩, c4⟩]
            refine ⟨sam_tr a2 b2, _, b1, MI_c hI rfl rfl rfl rfl rfl rfl rfl rfl, rfl, ?_, okS_t hR.2 (Or.inr ⟨by omega, by decide⟩)⟩
            refine Rw_u (f := M.tr) (f' := upd (upd M.tr (124 + 3 * (4 * a + 1)) (iv 1)) (124 + 3 * (4 * a + 1) + 1) (iv (b : Int))) hRt hR.2 hk ?_ ?_ ?_
            · unfold upd
              rw [if_neg (by omega), if_pos rfl, if_neg (by omega)]
            · intro _
              refine ⟨?_, fun y => absurd y (by omega)⟩
              unfold upd
              rw [if_pos rfl]
            · intro j hj
              unfold upd
              rw [if_neg (by omega), if_neg (by omega)]
          · rw [if_neg (by rw [iv_eq0 (by constructor <;> omega)]; omega)]
            exact no (by rw [e]; exact if_neg (fun y => c4 y.2))
        · rw [if_pos (by rw [tf_f (by omega)]; decide)]
          exact no (by rw [e]; exact if_neg (fun y => c3 y.1.2))
      · rw [if_pos (by rw [tf_f (by omega)]; decide)]
        exact no (by rw [e]; exact if_neg (fun y => c2 y.1.1))
    · rw [if_neg (by rw [iv_toInt r9]; omega)]
      by_cases d3 : h = 3
      · rw [if_pos (by rw [iv_toInt r9]; omega)]
        have e : cmd T h a b c = (if (a = 0 ∧ b = 0) ∧ c = (if (cT T 0 0).testBit 0 = true then 1 else 0) then some T else none) := by unfold cmd; rw [if_neg c1, if_neg d2, if_pos d3]
        by_cases c2 : a = 0
        · rw [if_neg (by rw [iv_eq0 (by constructor <;> omega)]; omega)]
          by_cases c3 : b = 0
          · rw [if_neg (by rw [iv_eq0 (by constructor <;> omega)]; omega)]
            by_cases c4 : 2 ≤ c
            · rw [if_pos (by rw [iv_le (by decide) (by constructor <;> omega)]; omega)]
              exact no (by rw [e]; exact if_neg (fun y => by have := y.2; split at this <;> omega))
            · rw [if_neg (by rw [iv_le (by decide) (by constructor <;> omega)]; omega), Mo_tr hm, Mo_rc hm]
              refine ⟨trivial, u_I (c_isAccepted (d := d + 1) (bb := true) hm hR) ?_⟩
              rintro v G1 ⟨rfl, N, a1, a2, a3⟩
              refine ⟨_, rfl, ?_⟩
              obtain ⟨f1, f2⟩ := fin _ G1 N e a1 (MI_wy hI a2) (okR_wy hR a2) a3
              cases hbt : (cT T 0 0).testBit 0 with
              | false =>
                rw [hbt] at f1 f2
                by_cases c5 : c = 1
                · rw [if_neg (by rw [iv_eq (by constructor <;> omega) (by decide)]; omega), if_pos (by decide)]
                  exact f2 (fun y => by have := y.2; rw [if_neg (by decide)] at this; omega)
                · rw [if_pos (by rw [iv_eq (by constructor <;> omega) (by decide)]; omega), if_neg (by decide)]
                  exact f1 ⟨⟨c2, c3⟩, by rw [if_neg (by decide)]; omega⟩
              | true =>
                rw [hbt] at f1 f2
                by_cases c5 : c = 1
                · rw [if_neg (by rw [iv_eq (by constructor <;> omega) (by decide)]; omega), if_neg (by decide)]
                  exact f1 ⟨⟨c2, c3⟩, by rw [if_pos rfl]; omega⟩
                · rw [if_pos (by rw [iv_eq (by constructor <;> omega) (by decide)]; omega), if_pos (by decide)]
                  exact f2 (fun y => by have := y.2; rw [if_pos rfl] at this; omega)
          · rw [if_pos (by rw [iv_eq0 (by constructor <;> omega)]; omega)]
            exact no (by rw [e]; exact if_neg (fun y => c3 y.1.2))
        · rw [if_pos (by rw [iv_eq0 (by constructor <;> omega)]; omega)]
          exact no (by rw [e]; exact if_neg (fun y => c2 y.1.1))
      · rw [if_neg (by rw [iv_toInt r9]; omega)]
        have e10 : iv 10 * iv (b : Int) + iv (c : Int) = iv ((10 * b + c : Nat) : Int) := by rw [iv_mul, iv_add]; rfl
        by_cases d4 : h = 4
        · rw [if_pos (by rw [iv_toInt r9]; omega), v_I (fun P => c_mIsNt (d := d + 7) (P := P) (show Rg (a : Int) by constructor <;> omega))]
          have e : cmd T h a b c = (if a < 4 ∧ cnS (cT T) a (stn a) = 10 * b + c then some T else none) := by unfold cmd; rw [if_neg c1, if_neg d2, if_neg d3, if_pos d4]
          by_cases c2 : a < 4
          · have hv := (stn_v ⟨a, c2⟩).2.2.2.1
            dsimp only [Sc_b, Sc_u, Sc_v, Md_len, Md_acts, Md_nxt, Md_ts, Md_bs, Md_lab, Md_xp, Md_sta, Md_tx, Md_nw, Md_tr, Md_rd, Md_di, Md_ke, Md_ik, Md_te, Md_bu, Md_va, Md_ju, Md_ma, As_tx, As_S, As_R, As_nx, As_ct, As_K, As_F] at hv
            have hle := cnS_le (T := cT T) (n := a) (stn a)
            rw [if_neg (by rw [tf_t (by omega)]; decide), Mo_tr hm, Mo_rc hm]
            refine ⟨trivial, u_I (c_typingsOf (d := d + 1) (bb := true) hm hR c2) ?_⟩
            rintro v G1 ⟨rfl, N, a1, a2, a3⟩
            refine ⟨_, rfl, ?_⟩
            obtain ⟨f1, f2⟩ := fin _ G1 N e a1 (MI_wy hI a2) (okR_wy hR a2) a3
            rw [e10]
            by_cases c3 : cnS (cT T) a (stn a) = 10 * b + c
            · rw [if_neg (by rw [iv_eq (by constructor <;> omega) (by constructor <;> omega)]; omega)]
              exact f1 ⟨c2, c3⟩
            · rw [if_pos (by rw [iv_eq (by constructor <;> omega) (by constructor <;> omega)]; omega)]
              exact f2 (fun y => c3 y.2)
          · rw [if_pos (by rw [tf_f (by omega)]; decide)]
            exact no (by rw [e]; exact if_neg (fun y => c2 y.1))
        · rw [if_neg (by rw [iv_toInt r9]; omega)]
          by_cases d5 : h = 5
          · rw [if_pos (by rw [iv_toInt r9]; omega), v_I (fun P => c_in (d := d + 8) (P := P) (i64 (show Rg (a : Int) by constructor <;> omega)) (b := 0) (c := 6) rfl rfl)]
            have e : cmd T h a b c = (if a ≤ 6 ∧ cnW T a (2 ^ a) = 10 * b + c then some T else none) := by unfold cmd; rw [if_neg c1, if_neg d2, if_neg d3, if_neg d4, if_pos d5]
            by_cases c2 : a ≤ 6
            · have hle := cnW_le (S := T) (dp := a) (2 ^ a)
              have h2 : 2 ^ a ≤ 2 ^ 6 := Nat.pow_le_pow_right (by decide) c2
              have h6 : (2 : Nat) ^ 6 = 64 := rfl
              rw [if_neg (by rw [tf_t (by omega)]; decide), Mo_tr hm, Mo_rc hm]
              refine ⟨trivial, u_I (c_nodesOf (d := d) (bb := true) c2 hm hR) ?_⟩
              rintro v G1 ⟨rfl, N, a1, a2, a3⟩
              refine ⟨_, rfl, ?_⟩
              obtain ⟨f1, f2⟩ := fin _ G1 N e a1 (MI_wk hI a2) (okR_wk hR a2) a3
              rw [e10]
              by_cases c3 : cnW T a (2 ^ a) = 10 * b + c
              · rw [if_neg (by rw [iv_eq (by constructor <;> omega) (by constructor <;> omega)]; omega)]
                exact f1 ⟨c2, c3⟩
              · rw [if_pos (by rw [iv_eq (by constructor <;> omega) (by constructor <;> omega)]; omega)]
                exact f2 (fun y => c3 y.2)
            · rw [if_pos (by rw [tf_f (by omega)]; decide)]
              exact no (by rw [e]; exact if_neg (fun y => c2 y.1))
          · rw [if_neg (by rw [iv_toInt r9]; omega)]
            by_cases d6 : h = 6
            · rw [if_pos (by rw [iv_toInt r9]; omega)]
              have e : cmd T h a b c = (if a = 0 ∧ cRn T = 10 * b + c then some T else none) := by unfold cmd; rw [if_neg c1, if_neg d2, if_neg d3, if_neg d4, if_neg d5, if_pos d6]
              by_cases c2 : a = 0
              · have hle : cRn T ≤ 244 := chk_le (S := T) 244 T7
                rw [if_neg (by rw [iv_eq0 (by constructor <;> omega)]; omega), Mo_tr hm, Mo_rc hm]
                refine ⟨trivial, u_I (c_check (d := d + 2) (bb := true) hm hR) ?_⟩
                rintro v G1 ⟨rfl, N, a1, _, a2, a3⟩
                refine ⟨_, rfl, ?_⟩
                obtain ⟨f1, f2⟩ := fin _ G1 N e a1 (MI_wy hI a2) (okR_wy hR a2) a3
                rw [e10]
                by_cases c3 : cRn T = 10 * b + c
                · rw [if_neg (by rw [iv_eq (by constructor <;> omega) (by constructor <;> omega)]; omega)]
                  exact f1 ⟨c2, c3⟩
                · rw [if_pos (by rw [iv_eq (by constructor <;> omega) (by constructor <;> omega)]; omega)]
                  exact f2 (fun y => c3 y.2)
              · rw [if_pos (by rw [iv_eq0 (by constructor <;> omega)]; omega)]
                exact no (by rw [e]; exact if_neg (fun y => c2 y.1))
            · rw [if_neg (by rw [iv_toInt r9]; omega)]
              exact no (by unfold cmd; rw [if_neg c1, if_neg d2, if_neg d3, if_neg d4, if_neg d5, if_neg d6])
theorem ite_s {p : Prop} [Decidable p] {x y : Sc} (e : (if p then some x else none) = some y) : p ∧ x = y := by
  by_cases h : p
  · rw [if_pos h] at e; exact ⟨h, Option.some.inj e⟩
  · rw [if_neg h] at e; cases e
theorem cmd_ok {T T' : Sc} {h a b c : Nat} (hT : okS T) (e : cmd T h a b c = some T') : okS T' ∧ T'.b = T.b := by
  unfold cmd at e
  by_cases c1 : h = 1
  · rw [if_pos c1] at e
    obtain ⟨_, rfl⟩ := ite_s e
    exact ⟨okS_t hT (Or.inl ⟨rfl, rfl⟩), rfl⟩
  · rw [if_neg c1] at e
    by_cases c2 : h = 2
    · rw [if_pos c2] at e
      obtain ⟨z, rfl⟩ := ite_s e
      exact ⟨okS_t hT (Or.inr ⟨by omega, by decide⟩), rfl⟩
    · rw [if_neg c2] at e
      by_cases c3 : h = 3
      · rw [if_pos c3] at e
        obtain ⟨_, rfl⟩ := ite_s e
        exact ⟨hT, rfl⟩
      · rw [if_neg c3] at e
        by_cases c4 : h = 4
        · rw [if_pos c4] at e
          obtain ⟨_, rfl⟩ := ite_s e
          exact ⟨hT, rfl⟩
        · rw [if_neg c4] at e
          by_cases c5 : h = 5
          · rw [if_pos c5] at e
            obtain ⟨_, rfl⟩ := ite_s e
            exact ⟨hT, rfl⟩
          · rw [if_neg c5] at e
            by_cases c6 : h = 6
            · rw [if_pos c6] at e
              obtain ⟨_, rfl⟩ := ite_s e
              exact ⟨hT, rfl⟩
            · rw [if_neg c6] at e
              cases e
theorem p4 {n : Nat} (h : n ≤ 4) : 0 < 10000 ^ n ∧ 10000 ^ n ≤ 10000000000000000 := ⟨Nat.pow_pos (by decide), Nat.le_trans (Nat.pow_le_pow_right (by decide) h) (by decide)⟩
theorem dg1 {g : Nat} (h : g < 10000) : iv (g : Int) / iv 1000 = iv ((g / 1000 : Nat) : Int) := by
  rw [iv_tdiv (by omega) (by decide)]; rfl
theorem dg2 {g : Nat} (h : g < 10000) : iv (g : Int) / iv 100 - iv (g : Int) / iv 100 / iv 10 * iv 10 = iv ((g / 100 % 10 : Nat) : Int) := by
  rw [iv_tdiv (by omega) (by decide), iv_tmod (by omega) (by decide)]; rfl
theorem dg3 {g : Nat} (h : g < 10000) : iv (g : Int) / iv 10 - iv (g : Int) / iv 10 / iv 10 * iv 10 = iv ((g / 10 % 10 : Nat) : Int) := by
  rw [iv_tdiv (by omega) (by decide), iv_tmod (by omega) (by decide)]; rfl
theorem dg4 {g : Nat} (h : g < 10000) : iv (g : Int) - iv (g : Int) / iv 10 * iv 10 = iv ((g % 10 : Nat) : Int) := by
  rw [iv_tmod (by omega) (by decide)]; rfl
theorem c_rs43 {n x : Nat} (hn : n ≤ 4) (hx : x < 10000000000000000) : ∀ (r k : Nat) (G1 : Hp) (M : Md) (T : Sc) (l5 : Option Value), k + r = n → Mo E G1 m M → MI M A → okR M true T → sam E G G1 (ivl m 13) → (∀ G2, MH E G2 m A → sam E G G2 (ivl m 13) → P (some (.int (iv (rsL x r k T)))) G2) → Xr E (d + 10) x_X7_runScript 43 [some (.ref m), some (.int (iv (n : Int))), some (.long (lv (x : Int))), none, some (.int (iv (k : Int))), l5] [] G1 P := by
  intro r
  induction r with
  | zero =>
    intro k G1 M T l5 hk hm hI hR hs hP
    refine g_X7_runScript_43 ?_
    rw [if_pos (by rw [iv_le (by constructor <;> omega) (by constructor <;> omega)]; omega)]
    exact hP G1 ⟨M, hm, hI⟩ hs
  | succ r ih =>
    intro k G1 M T l5 hk hm hI hR hs hP
    refine g_X7_runScript_43 ?_
    have h4 := p4 (show r ≤ 4 by omega)
    have hle : x / 10000 ^ r ≤ x := Nat.div_le_self _ _
    have eg : (lv (x : Int) / lv ((10000 ^ r : Nat) : Int) - lv (x : Int) / lv ((10000 ^ r : Nat) : Int) / 10000 * 10000).toInt32 = iv ((x / 10000 ^ r % 10000 : Nat) : Int) := by
      rw [lw_tdiv (by omega) (by omega), show (10000 : Int64) = lv 10000 from rfl, show (x : Int) / ((10000 ^ r : Nat) : Int) = ((x / 10000 ^ r : Nat) : Int) from rfl, lw_tmod (by generalize x / 10000 ^ r = y at hle; omega) (by decide), lw_i32]
      rfl
    rw [if_neg (by rw [iv_le (by constructor <;> omega) (by constructor <;> omega)]; omega), iv_sub, iv_sub, show (n : Int) - 1 - (k : Int) = (r : Int) by omega, v_J (fun P => c_tenThousands (d := d + 9) (P := P) (show r ≤ 4 by omega)), eg]
    have hg : x / 10000 ^ r % 10000 < 10000 := Nat.mod_lt _ (by decide)
    unfold rsL at hP
    generalize hgg : x / 10000 ^ r % 10000 = g at hg hP
    refine ⟨by rw [lw_eq0 (by omega)]; omega, by rw [Mo_rc hm]; trivial, ?_⟩
    rw [dg1 hg, dg2 hg, dg3 hg, dg4 hg]
    refine u_I (c_command (d := d) (A := A) (T := T) (show g / 1000 < 10 by omega) (show g / 100 % 10 < 10 by omega) (show g / 10 % 10 < 10 by omega) (show g % 10 < 10 by omega) hm hI hR) ?_
    rintro v G2 ⟨a1, N, a2, a3, a4⟩
    have hcm : cmd T (g / 1000) (g / 100 % 10) (g / 10 % 10) (g % 10) = cmdG T g := rfl
    rw [hcm] at a4
    cases hc : cmdG T g with
    | none =>
      rw [hc] at a4 hP
      refine ⟨_, a4, ?_⟩
      rw [if_neg (by decide)]
      exact hP G2 ⟨N, a2, a3⟩ (sam_tr hs a1)
    | some T' =>
      rw [hc] at a4 hP
      refine ⟨_, a4.1, ?_⟩
      rw [if_pos (by decide), i_s]
      exact ih (k + 1) G2 N T' _ (by omega) a2 a3 a4.2 (sam_tr hs a1) hP
theorem m_runScript {n : Int} {x : Int64} (hn : Rg n) (h : MH E G m A) : runs E (d + 11) i_X7_runScript [.ref m, .int (iv n), .long x] G (mP E G m (s_runScript A n x)) := by
  obtain ⟨M, hm, hI⟩ := h
  refine e_X7_runScript ?_
  rw [v_I (fun P => c_in (d := d + 9) (P := P) (i64 hn) (b := 1) (c := 4) rfl rfl)]
  by_cases c1 : 1 ≤ n ∧ n ≤ 4
  · rw [if_neg (by rw [tf_t c1]; decide)]
    obtain ⟨n, rfl⟩ := Int.eq_ofNat_of_zero_le (show 0 ≤ n by omega)
    have hn4 : n ≤ 4 := by omega
    have h4 := p4 hn4
    have ev : (lv ((10000 ^ n : Nat) : Int) - 1).toInt = ((10000 ^ n : Nat) : Int) - 1 := by
      rw [show (1 : Int64) = lv 1 from rfl, lw_sub, lw_toInt (by omega)]
    rw [v_J (fun P => c_tenThousands (d := d + 9) (P := P) hn4), v_I (fun P => c_in (d := d + 9) (P := P) (x := x) (a := x.toInt) rfl (b := 0) rfl ev)]
    by_cases c2 : 0 ≤ x.toInt ∧ x.toInt < ((10000 ^ n : Nat) : Int)
    · have e : s_runScript A (n : Int) x = (rsL x.toInt.toNat n 0 A.S, A) := by unfold s_runScript; exact if_pos ⟨c1, c2⟩
      rw [if_pos (by rw [tf_t (by omega)]; decide), Mo_nw hm, Mo_tr hm, e]
      refine u_V (c_copy (d := d + 9) (a := m + 2) (b := m + 3) (by omega) (Ma_nw hm) (Ma_tr hm)) ?_
      rintro v G1 ⟨rfl, ⟨f, b1, b2⟩, b3⟩
      refine ⟨rfl, ?_⟩
      have hm1 : Mo E G1 m (Md.mk M.len M.acts M.nxt M.ts M.bs M.lab M.xp M.sta M.tx M.nw f M.rd M.di M.ke M.ik M.te M.bu M.va M.ju M.ma) := by
        obtain ⟨h0, h1, h2, h3, h4, h5, h6, h7, h8, h9, h10, h11, h12⟩ := hm
        have ne : ∀ x, x ≠ m + 3 → gt E G1 x = gt E G x := fun x hx => b3.1 x (fun z => by unfold ivl at z; omega)
        exact ⟨(ne _ (by omega)).trans h0, (ne _ (by omega)).trans h1, (ne _ (by omega)).trans h2, b1, (ne _ (by omega)).trans h4, (ne _ (by omega)).trans h5, (ne _ (by omega)).trans h6, (ne _ (by omega)).trans h7, (ne _ (by omega)).trans h8, (ne _ (by omega)).trans h9, (ne _ (by omega)).trans h10, (ne _ (by omega)).trans h11, (ne _ (by omega)).trans h12⟩
      have hR : okR (Md.mk M.len M.acts M.nxt M.ts M.bs M.lab M.xp M.sta M.tx M.nw f M.rd M.di M.ke M.ik M.te M.bu M.va M.ju M.ma) true A.S := ⟨Rw_cg (MI_rw hI) (MI_ok hI) b2, MI_ok hI⟩
      have ex : x = lv ((x.toInt.toNat : Nat) : Int) := by rw [Int.toNat_of_nonneg c2.1, lw_of]
      have nx := c_rs43 (G := G) (d := d) (E := E) (m := m) (A := A) (P := mP E G m (rsL x.toInt.toNat n 0 A.S, A)) (x := x.toInt.toNat) hn4 (by omega) n 0 G1 (Md.mk M.len M.acts M.nxt M.ts M.bs M.lab M.xp M.sta M.tx M.nw f M.rd M.di M.ke M.ik M.te M.bu M.va M.ju M.ma) A.S none (by omega) hm1 (MI_c hI rfl rfl rfl rfl rfl rfl rfl rfl) hR (sam_mono b3 (fun a ha => by unfold ivl at *; omega)) (fun G2 a b => ⟨rfl, a, b⟩)
      rw [← ex] at nx
      exact nx
    · have e : s_runScript A (n : Int) x = (-2, A) := by unfold s_runScript; exact if_neg (fun z => c2 z.2)
      rw [if_neg (by rw [tf_f (by omega)]; decide), e]
      exact ⟨rfl, ⟨M, hm, hI⟩, sam_rf⟩
  · have e : s_runScript A n x = (-2, A) := by unfold s_runScript; exact if_neg (fun z => c1 z.1)
    rw [e, if_pos (by rw [tf_f c1]; decide)]
    exact ⟨rfl, ⟨M, hm, hI⟩, sam_rf⟩
end MSC
