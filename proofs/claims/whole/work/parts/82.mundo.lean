-- uses 41 42 43 44 45 46 47 48 49 50 51 52 53 54 55 56 57 58 59 60 64 65 66 67 68 69 70 74 75 78 79 80 81
/-! the reference: undo, save, restore, reachable -/
section MU
variable {E : Ev} {d : Nat} {G : Hp} {P : Po} {m : Nat} {A : As}
theorem c_undL {M : Md} {nx : Nat} (hx : M.nxt = nx) (hx2 : nx < 14) : ∀ (r k : Nat) (G1 : Hp) (f : Nat → Int32), k + r = 160 → Mo E G1 m (Md.mk M.len M.acts M.nxt M.ts M.bs M.lab M.xp M.sta M.tx f M.tr M.rd M.di M.ke M.ik M.te M.bu M.va M.ju M.ma) → (∀ j, j < k → f j = M.di (160 * nx + j)) → sam E G G1 (ivl m 13) → (∀ G2 f', Mo E G2 m (Md.mk M.len M.acts M.nxt M.ts M.bs M.lab M.xp M.sta M.tx f' M.tr M.rd M.di M.ke M.ik M.te M.bu M.va M.ju M.ma) → (∀ j, j < 160 → f' j = M.di (160 * nx + j)) → sam E G G2 (ivl m 13) → P (some (.int (iv M.acts))) G2) → Xr E d x_X7_undo 38 [some (.ref m), some (.int (iv (k : Int)))] [] G1 P := by
  intro r
  induction r with
  | zero =>
    intro k G1 f hk hm h1 hs hP
    have : k = 160 := by omega
    subst this
    refine g_X7_undo_38 ?_
    rw [if_pos (by decide), Mo_acts hm]
    exact hP G1 f hm h1 hs
  | succ r ih =>
    intro k G1 f hk hm h1 hs hP
    refine g_X7_undo_38 ?_
    rw [if_neg (by rw [iv_le (by decide) (by constructor <;> omega)]; omega), Mo_nw hm, Mo_di hm, Mo_nxt hm]
    dsimp only [Sc_b, Sc_u, Sc_v, Md_len, Md_acts, Md_nxt, Md_ts, Md_bs, Md_lab, Md_xp, Md_sta, Md_tx, Md_nw, Md_tr, Md_rd, Md_di, Md_ke, Md_ik, Md_te, Md_bu, Md_va, Md_ju, Md_ma, As_tx, As_S, As_R, As_nx, As_ct, As_K, As_F]
    rw [hx, show iv 160 * iv (nx : Int) = iv ((160 * nx : Nat) : Int) from nmul (a := 160), show iv ((160 * nx : Nat) : Int) + iv (k : Int) = iv ((160 * nx + k : Nat) : Int) by rw [iv_add]; rfl, Mg_di hm (by omega)]
    refine Ms_nw hm (by omega) ?_
    intro G2 a1 a2
    rw [i_s]
    refine ih (k + 1) G2 _ (by omega) a1 ?_ (sam_tr hs a2) hP
    intro j hj
    show upd f k (M.di (160 * nx + k)) j = _
    unfold upd
    by_cases z : j = k
    · rw [if_pos z, z]
    · rw [if_neg z]
      exact h1 j (by omega)
theorem m_undo (h : MH E G m A) : runs E (d + 1) i_X7_undo [.ref m] G (mP E G m (s_undo A)) := by
  obtain ⟨M, hm, hI⟩ := h
  refine e_X7_undo ?_
  have c3 := hI.2.2.1
  rw [Mo_acts hm, c3.1]
  by_cases c : A.ct = 0
  · have e : s_undo A = (-3, A) := by unfold s_undo; rw [if_pos c]
    rw [e, if_neg (by rw [iv_eq0 (by constructor <;> omega)]; omega)]
    exact ⟨rfl, ⟨M, hm, hI⟩, sam_rf⟩
  · have e : s_undo A = (((A.ct - 1 : Nat) : Int), (As.mk A.tx (A.R ((A.nx + 13) % 14)) A.R ((A.nx + 13) % 14) (A.ct - 1) A.K A.F)) := by unfold s_undo; rw [if_neg c]
    rw [e, if_pos (by rw [iv_eq0 (by constructor <;> omega)]; omega), Mo_acts hm, c3.1, iv_sub, show (A.ct : Int) - 1 = ((A.ct - 1 : Nat) : Int) by omega]
    refine Mp_acts hm ?_
    intro G1 a1 a2
    rw [Mo_nxt a1]
    dsimp only [Sc_b, Sc_u, Sc_v, Md_len, Md_acts, Md_nxt, Md_ts, Md_bs, Md_lab, Md_xp, Md_sta, Md_tx, Md_nw, Md_tr, Md_rd, Md_di, Md_ke, Md_ik, Md_te, Md_bu, Md_va, Md_ju, Md_ma, As_tx, As_S, As_R, As_nx, As_ct, As_K, As_F]
    rw [c3.2.1, iv_add, iv_sub, iv_tmod (by omega) (by decide), show ((A.nx : Int) + 14 - 1) % 14 = (((A.nx + 13) % 14 : Nat) : Int) by omega]
    refine Mp_nxt a1 ?_
    intro G2 b1 b2
    refine c_undL (G := G) (M := (Md.mk M.len (((A.ct - 1 : Nat) : Int)) ((((A.nx + 13) % 14 : Nat) : Int)) M.ts M.bs M.lab M.xp M.sta M.tx M.nw M.tr M.rd M.di M.ke M.ik M.te M.bu M.va M.ju M.ma)) (nx := (A.nx + 13) % 14) rfl (by omega) 160 0 G2 M.nw (by omega) b1 (fun j hj => absurd hj (Nat.not_lt_zero _)) (sam_tr a2 b2) ?_
    intro G3 f' d1 d2 d3
    refine ⟨rfl, ⟨_, d1, ?_⟩, d3⟩
    have h1 := hI.2.2.2.1 1 (Nat.le_refl _) (by omega)
    rw [show (A.nx + 14 - 1) % 14 = (A.nx + 13) % 14 from rfl] at h1
    refine ⟨hI.1, ⟨Rw_cg h1.1 h1.2 d2, h1.2⟩, ⟨rfl, rfl, by show (A.nx + 13) % 14 < 14; omega, by show A.ct - 1 ≤ 14; omega⟩, ?_, hI.2.2.2.2⟩
    intro i hi1 hi2
    have hi2' : i ≤ A.ct - 1 := hi2
    have := hI.2.2.2.1 (i + 1) (by omega) (by omega)
    show Rw (fun k => M.di (160 * (((A.nx + 13) % 14 + 14 - i) % 14) + k)) (A.R (((A.nx + 13) % 14 + 14 - i) % 14)) ∧ okS (A.R (((A.nx + 13) % 14 + 14 - i) % 14))
    rw [show ((A.nx + 13) % 14 + 14 - i) % 14 = (A.nx + 14 - (i + 1)) % 14 by omega]
    exact this
theorem c_svL {M : Md} {a : Nat} (ha : a < 2) : ∀ (r k : Nat) (G1 : Hp) (f : Nat → Int32), k + r = 160 → Mo E G1 m (Md.mk M.len M.acts M.nxt M.ts M.bs M.lab M.xp M.sta M.tx M.nw M.tr M.rd M.di f M.ik M.te M.bu M.va M.ju M.ma) → (∀ j, j < k → f (160 * a + j) = M.nw j) → (∀ j, j < 160 * a ∨ 160 * a + k ≤ j → f j = M.ke j) → sam E G G1 (ivl m 13) → (∀ G2 f', Mo E G2 m (Md.mk M.len M.acts M.nxt M.ts M.bs M.lab M.xp M.sta M.tx M.nw M.tr M.rd M.di f' M.ik M.te M.bu M.va M.ju M.ma) → (∀ j, j < 160 → f' (160 * a + j) = M.nw j) → (∀ j, j < 160 * a ∨ 160 * a + 160 ≤ j → f' j = M.ke j) → sam E G G2 (ivl m 13) → (qFR E G2 m 7 2 fun v1 => (qCI E d i_X7_stepsOf [.ref v1] G2 fun v3 G2 => P (some (.int v3)) G2))) → Xr E d x_X7_save 21 [some (.ref m), some (.int (iv (a : Int))), some (.int (iv (k : Int)))] [] G1 P := by
  intro r
  induction r with
  | zero =>
    intro k G1 f hk hm h1 h2 hs hP
    have : k = 160 := by omega
    subst this
    refine g_X7_save_21 ?_
    rw [if_pos (by decide)]
    exact hP G1 f hm h1 h2 hs
  | succ r ih =>
    intro k G1 f hk hm h1 h2 hs hP
    refine g_X7_save_21 ?_
    rw [if_neg (by rw [iv_le (by decide) (by constructor <;> omega)]; omega), Mo_ke hm, Mo_nw hm, Mg_nw hm (by omega), show iv 160 * iv (a : Int) = iv ((160 * a : Nat) : Int) from nmul (a := 160), show iv ((160 * a : Nat) : Int) + iv (k : Int) = iv ((160 * a + k : Nat) : Int) by rw [iv_add]; rfl]
    refine Ms_ke hm (by omega) ?_
    intro G2 a1 a2
    rw [i_s]
    refine ih (k + 1) G2 _ (by omega) a1 ?_ ?_ (sam_tr hs a2) hP
    · intro j hj
      show upd f (160 * a + k) (M.nw k) (160 * a + j) = _
      unfold upd
      by_cases z : j = k
      · rw [if_pos (by omega), z]
      · rw [if_neg (by omega)]
        exact h1 j (by omega)
    · intro j hj
      show upd f (160 * a + k) (M.nw k) j = _
      unfold upd
      rw [if_neg (by omega)]
      exact h2 j (by omega)
theorem m_save {a : Int} (ha : Rg a) (h : MH E G m A) : runs E (d + 2) i_X7_save [.ref m, .int (iv a)] G (mP E G m (s_save A a)) := by
  obtain ⟨M, hm, hI⟩ := h
  refine e_X7_save ?_
  rw [v_I (fun P => c_in (d := d) (P := P) (i64 ha) (b := 0) (c := 1) rfl rfl)]
  by_cases c1 : 0 ≤ a ∧ a ≤ 1
  · rw [if_pos (by rw [tf_t c1]; decide)]
    obtain ⟨a, rfl⟩ := Int.eq_ofNat_of_zero_le c1.1
    have ha2 : a < 2 := by omega
    have e : s_save A (a : Int) = (((tcn A.S.u 12 : Nat) : Int), (As.mk A.tx A.S A.R A.nx A.ct (upR A.K a A.S) (fun j => if j = a then true else A.F j))) := by unfold s_save; exact if_pos c1
    rw [e, Mo_ik hm]
    refine Ms_ik hm ha2 ?_
    intro G1 a1 a2
    refine c_svL (G := G) (M := (Md.mk M.len M.acts M.nxt M.ts M.bs M.lab M.xp M.sta M.tx M.nw M.tr M.rd M.di M.ke (upd M.ik a (vp_nar (kT 2) (iv 1))) M.te M.bu M.va M.ju M.ma)) ha2 160 0 G1 M.ke (by omega) a1 (fun j hj => absurd hj (Nat.not_lt_zero _)) (fun j _ => rfl) a2 ?_
    intro G2 f' b1 b2 b3 b4
    rw [Mo_nw b1, v_I (fun P => c_stepsOf (d := d) (P := P) (S := A.S) (Ma_nw b1) (show Rw M.nw A.S from MI_rw hI))]
    refine ⟨rfl, ⟨_, b1, hI.1, hI.2.1, hI.2.2.1, hI.2.2.2.1, ?_⟩, b4⟩
    intro j hj
    show upd M.ik a (vp_nar (kT 2) (iv 1)) j = iv (if (if j = a then true else A.F j) = true then 1 else 0) ∧ ((if j = a then true else A.F j) = true → Rw (fun k => f' (160 * j + k)) (upR A.K a A.S j) ∧ okS (upR A.K a A.S j))
    unfold upd upR
    by_cases z : j = a
    · subst z
      simp only [if_true]
      exact ⟨iv_nar2 (Or.inr rfl), fun _ => ⟨Rw_cg (MI_rw hI) (MI_ok hI) b2, MI_ok hI⟩⟩
    · simp only [if_neg z]
      have := hI.2.2.2.2 j hj
      refine ⟨this.1, fun y => ?_⟩
      have t2 := this.2 y
      exact ⟨Rw_cg t2.1 t2.2 (fun k hk => b3 _ (by omega)), t2.2⟩
  · have e : s_save A a = (-1, A) := by unfold s_save; exact if_neg c1
    rw [e, if_neg (by rw [tf_f c1]; decide)]
    exact ⟨rfl, ⟨M, hm, hI⟩, sam_rf⟩
theorem c_rsL {M : Md} {a : Nat} (ha : a < 2) : ∀ (r k : Nat) (G1 : Hp) (f : Nat → Int32), k + r = 160 → Mo E G1 m (Md.mk M.len M.acts M.nxt M.ts M.bs M.lab M.xp M.sta M.tx f M.tr M.rd M.di M.ke M.ik M.te M.bu M.va M.ju M.ma) → (∀ j, j < k → f j = M.ke (160 * a + j)) → sam E G G1 (ivl m 13) → (∀ G2 f', Mo E G2 m (Md.mk M.len M.acts M.nxt M.ts M.bs M.lab M.xp M.sta M.tx f' M.tr M.rd M.di M.ke M.ik M.te M.bu M.va M.ju M.ma) → (∀ j, j < 160 → f' j = M.ke (160 * a + j)) → sam E G G2 (ivl m 13) → (qP E G2 m 7 6 (.int ((iv 0))) fun G1 => (qFR E G1 m 7 2 fun v2 => (qCI E d i_X7_stepsOf [.ref v2] G1 fun v4 G3 => P (some (.int v4)) G3)))) → Xr E d x_X7_restore 26 [some (.ref m), some (.int (iv (a : Int))), some (.int (iv (k : Int)))] [] G1 P := by
  intro r
  induction r with
  | zero =>
    intro k G1 f hk hm h1 hs hP
    have : k = 160 := by omega
    subst this
    refine g_X7_restore_26 ?_
    rw [if_pos (by decide)]
    exact hP G1 f hm h1 hs
  | succ r ih =>
    intro k G1 f hk hm h1 hs hP
    refine g_X7_restore_26 ?_
    rw [if_neg (by rw [iv_le (by decide) (by constructor <;> omega)]; omega), Mo_nw hm, Mo_ke hm, show iv 160 * iv (a : Int) = iv ((160 * a : Nat) : Int) from nmul (a := 160), show iv ((160 * a : Nat) : Int) + iv (k : Int) = iv ((160 * a + k : Nat) : Int) by rw [iv_add]; rfl, Mg_ke hm (by omega)]
    refine Ms_nw hm (by omega) ?_
    intro G2 a1 a2
    rw [i_s]
    refine ih (k + 1) G2 _ (by omega) a1 ?_ (sam_tr hs a2) hP
    intro j hj
    show upd f k (M.ke (160 * a + k)) j = _
    unfold upd
    by_cases z : j = k
    · rw [if_pos z, z]
    · rw [if_neg z]
      exact h1 j (by omega)
theorem m_restore {a : Int} (ha : Rg a) (h : MH E G m A) : runs E (d + 2) i_X7_restore [.ref m, .int (iv a)] G (mP E G m (s_restore A a)) := by
  obtain ⟨M, hm, hI⟩ := h
  refine e_X7_restore ?_
  rw [v_I (fun P => c_in (d := d) (P := P) (i64 ha) (b := 0) (c := 1) rfl rfl)]
  by_cases c1 : 0 ≤ a ∧ a ≤ 1
  · rw [if_pos (by rw [tf_t c1]; decide)]
    obtain ⟨a, rfl⟩ := Int.eq_ofNat_of_zero_le c1.1
    have ha2 : a < 2 := by omega
    have hk := hI.2.2.2.2 a ha2
    rw [Mo_ik hm, Mg_ik hm ha2, hk.1]
    by_cases c2 : A.F a = true
    · have e : s_restore A (a : Int) = (((tcn (A.K a).u 12 : Nat) : Int), (As.mk A.tx (A.K a) A.R A.nx 0 A.K A.F)) := by unfold s_restore; rw [if_pos c1]; exact if_pos c2
      have hk2 := hk.2 c2
      rw [e, if_pos (by rw [b_0, c2]; decide)]
      refine c_rsL (G := G) (M := M) ha2 160 0 G M.nw (by omega) hm (fun j hj => absurd hj (Nat.not_lt_zero _)) sam_rf ?_
      intro G2 f' b1 b2 b3
      refine Mp_acts b1 ?_
      intro G3 d1 d2
      have hR : Rw f' (A.K a) := Rw_cg hk2.1 hk2.2 b2
      rw [Mo_nw d1, v_I (fun P => c_stepsOf (d := d) (P := P) (Ma_nw d1) hR)]
      exact ⟨rfl, ⟨_, d1, hI.1, ⟨hR, hk2.2⟩, ⟨rfl, hI.2.2.1.2.1, hI.2.2.1.2.2.1, Nat.zero_le _⟩, fun i h1 h2 => absurd (Nat.le_trans h1 h2) (by show ¬ 1 ≤ 0; decide), hI.2.2.2.2⟩, sam_tr b3 d2⟩
    · have e : s_restore A (a : Int) = (-3, A) := by unfold s_restore; rw [if_pos c1]; exact if_neg c2
      rw [e, if_neg (by rw [b_0]; exact fun z => z (by cases hb : A.F a with | true => exact absurd hb c2 | false => rfl))]
      exact ⟨rfl, ⟨M, hm, hI⟩, sam_rf⟩
  · have e : s_restore A a = (-1, A) := by unfold s_restore; exact if_neg c1
    rw [e, if_neg (by rw [tf_f c1]; decide)]
    exact ⟨rfl, ⟨M, hm, hI⟩, sam_rf⟩
/-! reachable -/
theorem nts_bit {n : Nat} : ∀ (ys : List Nat) (a : Nat), a.testBit n = true → (nts a ys).testBit n = true := by
  intro ys a h
  rw [nts_or, Nat.testBit_or, h]
  rfl
theorem c_re19 {M : Md} (hm : Mo E G m M) (hI : MI M A) {n : Nat} (hn : n < 4) {x2 : Int32} : ∀ (r i a : Nat) (l5 : Option Value), i + r = (A.S.b n).length → a < 16 → (∀ l4 l5', Xr E (d + 2) x_X7_reachable 11 [some (.ref m), some (.int (iv ((if a.testBit n = true then nts a ((A.S.b n).drop i) else a : Nat) : Int))), some (.int x2), some (.int (iv ((n + 1 : Nat) : Int))), l4, l5'] [] G P) → Xr E (d + 2) x_X7_reachable 19 [some (.ref m), some (.int (iv (a : Int))), some (.int x2), some (.int (iv (n : Int))), some (.int (iv (i : Int))), l5] [] G P := by
  have hL := ((MI_ok hI).1 n hn).1
  have hr := (MI_rw hI).1 n hn
  intro r
  induction r with
  | zero =>
    intro i a l5 hi ha hP
    refine g_X7_reachable_19 ?_
    rw [Mo_nw hm, show iv 31 * iv (n : Int) = iv ((31 * n : Nat) : Int) from nmul (a := 31), Mg_nw hm (by omega), hr.1, if_pos (by rw [iv_le (by constructor <;> omega) (by constructor <;> omega)]; omega), i_s]
    have := hP (some (.int (iv (i : Int)))) l5
    rw [List.drop_eq_nil_of_le (by omega)] at this
    have e : (if a.testBit n = true then nts a [] else a) = a := by split <;> rfl
    rw [e] at this
    exact this
  | succ r ih =>
    intro i a l5 hi ha hP
    refine g_X7_reachable_19 ?_
    rw [Mo_nw hm, show iv 31 * iv (n : Int) = iv ((31 * n : Nat) : Int) from nmul (a := 31), Mg_nw hm (by omega), hr.1, if_neg (by rw [iv_le (by constructor <;> omega) (by constructor <;> omega)]; omega), i_bit (by omega) (by omega)]
    cases hb : a.testBit n with
    | false =>
      rw [if_pos (by decide), i_s]
      have := hP (some (.int (iv (i : Int)))) l5
      rw [hb] at this
      exact this
    | true =>
      have hi' : i < (A.S.b n).length := by omega
      have h10 := (((MI_ok hI).1 n hn).2.2 i hi').1
      have hs8 := syc ⟨(A.S.b n).getD i 0, h10⟩
      dsimp only [Sc_b, Sc_u, Sc_v, Md_len, Md_acts, Md_nxt, Md_ts, Md_bs, Md_lab, Md_xp, Md_sta, Md_tx, Md_nw, Md_tr, Md_rd, Md_di, Md_ke, Md_ik, Md_te, Md_bu, Md_va, Md_ju, Md_ma, As_tx, As_S, As_R, As_nx, As_ct, As_K, As_F] at hs8
      have hP' : ∀ l4 l5', Xr E (d + 2) x_X7_reachable 11 [some (.ref m), some (.int (iv ((nts (if 4 ≤ (A.S.b n).getD i 0 ∧ (A.S.b n).getD i 0 < 8 then a ||| 2 ^ ((A.S.b n).getD i 0 - 4) else a) ((A.S.b n).drop (i + 1)) : Nat) : Int))), some (.int x2), some (.int (iv ((n + 1 : Nat) : Int))), l4, l5'] [] G P := by
        intro l4 l5'
        have := hP l4 l5'
        rw [hb, if_pos rfl, dropC hi'] at this
        exact this
      rw [if_neg (by decide), Mo_nw hm, show iv ((31 * n : Nat) : Int) + iv 1 + iv (i : Int) = iv ((31 * n + 1 + i : Nat) : Int) by rw [iv_add, iv_add]; rfl, Mg_nw hm (by omega), hr.2 i hi', v_I (fun P => c_ntS (d := d) (P := P) hs8.2), hs8.1, i_s]
      by_cases c : 4 ≤ (A.S.b n).getD i 0 ∧ (A.S.b n).getD i 0 < 8
      · rw [if_pos c, if_neg (by rw [iv_eq (by constructor <;> omega) (by decide)]; omega)]
        have hp : 2 ^ ((A.S.b n).getD i 0 - 4) < 2 ^ 4 := Nat.pow_lt_pow_right (by decide) (by omega)
        have h32 := iv_shl (a := 1) (k := (A.S.b n).getD i 0 - 4) (by omega) (by rw [Nat.one_mul]; exact Nat.pow_lt_pow_right (by decide) (by omega))
        rw [Nat.one_mul] at h32
        rw [show iv 1 = iv ((1 : Nat) : Int) from rfl, h32, iv_or]
        refine ih (i + 1) _ _ (by omega) (Nat.or_lt_two_pow (n := 4) ha hp) ?_
        intro l4 l5'
        have e : (a ||| 2 ^ ((A.S.b n).getD i 0 - 4)).testBit n = true := by rw [Nat.testBit_or, hb]; rfl
        rw [e, if_pos rfl]
        have := hP' l4 l5'
        rw [if_pos c] at this
        exact this
      · rw [if_neg c, if_pos rfl, show iv 0 = iv ((0 : Nat) : Int) from rfl, iv_or, Nat.or_zero]
        refine ih (i + 1) _ _ (by omega) ha ?_
        intro l4 l5'
        rw [hb, if_pos rfl]
        have := hP' l4 l5'
        rw [if_neg c] at this
        exact this
theorem rc1_lt {S : Sc} {x : Nat} (hx : x < 16) : ∀ n, rc1 S n x < 16 := by
  intro n
  induction n with
  | zero => exact hx
  | succ n ih =>
    unfold rc1
    split
    · exact nts_lt _ _ ih
    · exact ih
theorem rcK_lt {S : Sc} : ∀ k, rcK S k < 16 := by
  intro k
  induction k with
  | zero => show 1 < 16; decide
  | succ k ih => exact rc1_lt ih 4
theorem c_re11 {M : Md} (hm : Mo E G m M) (hI : MI M A) {x : Nat} (hx : x < 16) {x2 : Int32} : ∀ (r n : Nat) (l4 l5 : Option Value), n + r = 4 → (∀ l3 l4 l5', Xr E (d + 2) x_X7_reachable 4 [some (.ref m), some (.int (iv ((rc1 A.S 4 x : Nat) : Int))), some (.int (x2 + iv 1)), l3, l4, l5'] [] G P) → Xr E (d + 2) x_X7_reachable 11 [some (.ref m), some (.int (iv ((rc1 A.S n x : Nat) : Int))), some (.int x2), some (.int (iv (n : Int))), l4, l5] [] G P := by
  intro r
  induction r with
  | zero =>
    intro n l4 l5 hn hP
    have : n = 4 := by omega
    subst this
    refine g_X7_reachable_11 ?_
    rw [if_pos (by decide)]
    exact hP _ _ _
  | succ r ih =>
    intro n l4 l5 hn hP
    refine g_X7_reachable_11 ?_
    rw [if_neg (by rw [iv_le (by decide) (by constructor <;> omega)]; omega)]
    refine c_re19 (d := d) hm hI (show n < 4 by omega) (A.S.b n).length 0 _ _ (by omega) (rc1_lt hx n) ?_
    intro l4' l5'
    exact ih (n + 1) l4' l5' (by omega) hP
theorem c_re4 {M : Md} (hm : Mo E G m M) (hI : MI M A) : ∀ (r k : Nat) (l3 l4 l5 : Option Value), k + r = 4 → P (some (.int (iv (rcK A.S 4 : Nat)))) G → Xr E (d + 2) x_X7_reachable 4 [some (.ref m), some (.int (iv ((rcK A.S k : Nat) : Int))), some (.int (iv (k : Int))), l3, l4, l5] [] G P := by
  intro r
  induction r with
  | zero =>
    intro k l3 l4 l5 hk hP
    have : k = 4 := by omega
    subst this
    refine g_X7_reachable_4 ?_
    rw [if_pos (by decide)]
    exact hP
  | succ r ih =>
    intro k l3 l4 l5 hk hP
    refine g_X7_reachable_4 ?_
    rw [if_neg (by rw [iv_le (by decide) (by constructor <;> omega)]; omega)]
    refine c_re11 (d := d) hm hI (x := rcK A.S k) (rcK_lt k) 4 0 _ _ (by omega) ?_
    intro l3' l4' l5'
    rw [i_s]
    exact ih (k + 1) _ _ _ (by omega) hP
theorem m_reachable (h : MH E G m A) : runs E (d + 3) i_X7_reachable [.ref m] G (mP E G m (s_reachable A)) := by
  obtain ⟨M, hm, hI⟩ := h
  refine e_X7_reachable ?_
  exact c_re4 (d := d) hm hI 4 0 _ _ _ (by omega) ⟨rfl, ⟨M, hm, hI⟩, sam_rf⟩
end MU
