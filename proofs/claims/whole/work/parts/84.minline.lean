-- uses 41 42 43 44 45 46 47 48 49 50 51 52 53 54 55 56 57 58 59 60 64 65 66 67 68 69 70 74 75 78 79 80 81 82 83
/-! the reference: inline -/
theorem slc_le {xs : List Nat} {a b L : Nat} (h : xs.length ≤ L) : (slc xs a b).length ≤ L := by
  unfold slc
  rw [List.length_take, List.length_drop]
  omega
theorem sbl_le (a1 a2 : List Nat) (h1 : a1.length ≤ 30) (h2 : a2.length ≤ 30) : ∀ ys : List Nat, (sbl a1 a2 ys).length ≤ 30 * ys.length := by
  intro ys
  induction ys with
  | nil => exact Nat.le_refl _
  | cons y ys ih =>
    unfold sbl
    rw [List.length_append, List.length_cons]
    split
    · omega
    · split
      · omega
      · show 1 + _ ≤ _
        omega
theorem okB_in {S : Sc} (h : okS S) {n i : Nat} (hn : n < 4) (hi : i < (S.b n).length) (hy : 4 ≤ (S.b n).getD i 0 ∧ (S.b n).getD i 0 < 8) (hl : (inB S n i).length ≤ 30) : okB n (inB S n i) := by
  have hb := h.1 n hn
  have hx := xpd_wf (bd := S.b ((S.b n).getD i 0 - 4)) (n := (S.b n).getD i 0 - 4) hb.2.1 hi (by omega) (by omega) (h.1 _ (by omega))
  refine okB_of hl hx.1 (fun y hy => ?_)
  rcases hx.2.1 y hy with z | z
  · exact okB_m hb y z
  · exact ⟨by omega, fun e => by omega, fun e => by omega⟩
section MIN
variable {E : Ev} {d : Nat} {G : Hp} {P : Po} {m : Nat} {A : As}
theorem c_in69 {M : Md} {n : Nat} {xs : List Nat} {x2 : Int32} (hn : n < 4) (hL : xs.length ≤ 30) (hts : M.ts = xs.length) (hr : ∀ i, i < xs.length → M.nw (31 * n + 1 + i) = iv (chr (xs.getD i 0) : Nat)) : ∀ (r k : Nat) (G1 : Hp) (f : Nat → Int32), k + r = xs.length → Mo E G1 m (Md.mk M.len M.acts M.nxt M.ts M.bs M.lab M.xp M.sta M.tx M.nw M.tr M.rd M.di M.ke M.ik f M.bu M.va M.ju M.ma) → (∀ j, j < k → f j = iv (chr (xs.getD j 0) : Nat)) → sam E G G1 (ivl m 13) → (∀ G2 f', Mo E G2 m (Md.mk M.len M.acts M.nxt M.ts M.bs M.lab M.xp M.sta M.tx M.nw M.tr M.rd M.di M.ke M.ik f' M.bu M.va M.ju M.ma) → (∀ j, j < xs.length → f' j = iv (chr (xs.getD j 0) : Nat)) → sam E G G2 (ivl m 13) → (qP E G2 m 7 13 (.int ((iv 0))) fun G2 => (qFR E G2 m 7 10 fun v3 => (rcv E G2 m 7 = true ∧ (qCV E d i_X7_putPart [.ref m, .ref v3, .int ((iv 0)), .int x2] G2 fun G4 => (qFR E G4 m 7 2 fun v5 => (qFR E G4 m 7 10 fun v6 => (rcv E G4 m 7 = true ∧ (qCI E d i_X7_putExpanded [.ref m, .ref v5, .ref v6, .int x2] G4 fun v8 G7 => (qFR E G7 m 7 10 fun v9 => (qFI E G7 m 7 11 fun v10 => (rcv E G7 m 7 = true ∧ (qCV E d i_X7_putPart [.ref m, .ref v9, .int v8, .int v10] G7 fun G11 => (qFI E G11 m 7 13 fun v12 => (if v12 ≤ (iv 30) then (rcv E G11 m 7 = true ∧ (qCV E d i_X7_note [.ref m] G11 fun G13 => (qFR E G13 m 7 2 fun v14 => (qFI E G13 m 7 13 fun v15 => (qIS E G13 v14 ((iv 31) * (iv (n : Int))) v15 fun G16 => Xr E d x_X7_inline 176 [some (.ref m), some (.int (iv (n : Int))), some (.int x2), some (.int v8), some (.int (iv 0))] [] G16 P))))) else P (some (.int (iv (-4)))) G11))))))))))))))) → Xr E d x_X7_inline 69 [some (.ref m), some (.int (iv (n : Int))), some (.int x2), some (.int (iv (k : Int))), none] [] G1 P := by
  intro r
  induction r with
  | zero =>
    intro k G1 f hk hm h1 hs hP
    refine g_X7_inline_69 ?_
    rw [Mo_ts hm, show ((Md.mk M.len M.acts M.nxt M.ts M.bs M.lab M.xp M.sta M.tx M.nw M.tr M.rd M.di M.ke M.ik f M.bu M.va M.ju M.ma) : Md).ts = _ from hts, if_pos (by rw [iv_le (by constructor <;> omega) (by constructor <;> omega)]; omega)]
    exact hP G1 f hm (fun j hj => h1 j (by omega)) hs
  | succ r ih =>
    intro k G1 f hk hm h1 hs hP
    refine g_X7_inline_69 ?_
    rw [Mo_ts hm, show ((Md.mk M.len M.acts M.nxt M.ts M.bs M.lab M.xp M.sta M.tx M.nw M.tr M.rd M.di M.ke M.ik f M.bu M.va M.ju M.ma) : Md).ts = _ from hts, if_neg (by rw [iv_le (by constructor <;> omega) (by constructor <;> omega)]; omega), Mo_te hm, Mo_nw hm, show iv 31 * iv (n : Int) = iv ((31 * n : Nat) : Int) from nmul (a := 31), show iv ((31 * n : Nat) : Int) + iv 1 + iv (k : Int) = iv ((31 * n + 1 + k : Nat) : Int) by rw [iv_add, iv_add]; rfl, Mg_nw hm (by omega), show ((Md.mk M.len M.acts M.nxt M.ts M.bs M.lab M.xp M.sta M.tx M.nw M.tr M.rd M.di M.ke M.ik f M.bu M.va M.ju M.ma) : Md).nw (31 * n + 1 + k) = _ from hr k (by omega)]
    refine Ms_te hm (by omega) ?_
    intro G2 a1 a2
    rw [i_s]
    refine ih (k + 1) G2 _ (by omega) a1 ?_ (sam_tr hs a2) hP
    intro j hj
    show upd f k _ j = _
    unfold upd
    by_cases z : j = k
    · rw [if_pos z, z]
    · rw [if_neg z]
      exact h1 j (by omega)
theorem c_in176 {M : Md} {n : Nat} {ys : List Nat} {x2 x3 : Int32} (hn : n < 4) (hL : ys.length ≤ 30) (hb : BuM M ys) : ∀ (r k : Nat) (G1 : Hp) (f : Nat → Int32), k + r = ys.length → Mo E G1 m (Md.mk M.len M.acts M.nxt M.ts M.bs M.lab M.xp M.sta M.tx f M.tr M.rd M.di M.ke M.ik M.te M.bu M.va M.ju M.ma) → (∀ j, j < k → f (31 * n + 1 + j) = iv (chr (ys.getD j 0) : Nat)) → (∀ j, j < 31 * n + 1 ∨ 31 * n + 1 + k ≤ j → f j = M.nw j) → sam E G G1 (ivl m 13) → (∀ G2 f', Mo E G2 m (Md.mk M.len M.acts M.nxt M.ts M.bs M.lab M.xp M.sta M.tx f' M.tr M.rd M.di M.ke M.ik M.te M.bu M.va M.ju M.ma) → (∀ j, j < ys.length → f' (31 * n + 1 + j) = iv (chr (ys.getD j 0) : Nat)) → (∀ j, j < 31 * n + 1 ∨ 31 * n + 31 ≤ j → f' j = M.nw j) → sam E G G2 (ivl m 13) → (qFR E G2 m 7 2 fun v2 => (qCV E d i_X7_tidy [.ref v2, .int (iv (n : Int))] G2 fun G3 => (qFI E G3 m 7 13 fun v4 => P (some (.int v4)) G3)))) → Xr E d x_X7_inline 176 [some (.ref m), some (.int (iv (n : Int))), some (.int x2), some (.int x3), some (.int (iv (k : Int)))] [] G1 P := by
  intro r
  induction r with
  | zero =>
    intro k G1 f hk hm h1 h2 hs hP
    refine g_X7_inline_176 ?_
    rw [Mo_bs hm, show ((Md.mk M.len M.acts M.nxt M.ts M.bs M.lab M.xp M.sta M.tx f M.tr M.rd M.di M.ke M.ik M.te M.bu M.va M.ju M.ma) : Md).bs = _ from hb.1, if_pos (by rw [iv_le (by constructor <;> omega) (by constructor <;> omega)]; omega)]
    exact hP G1 f hm (fun j hj => h1 j (by omega)) (fun j hj => h2 j (by omega)) hs
  | succ r ih =>
    intro k G1 f hk hm h1 h2 hs hP
    refine g_X7_inline_176 ?_
    rw [Mo_bs hm, show ((Md.mk M.len M.acts M.nxt M.ts M.bs M.lab M.xp M.sta M.tx f M.tr M.rd M.di M.ke M.ik M.te M.bu M.va M.ju M.ma) : Md).bs = _ from hb.1, if_neg (by rw [iv_le (by constructor <;> omega) (by constructor <;> omega)]; omega), Mo_nw hm, Mo_bu hm, Mg_bu hm (by omega), show ((Md.mk M.len M.acts M.nxt M.ts M.bs M.lab M.xp M.sta M.tx f M.tr M.rd M.di M.ke M.ik M.te M.bu M.va M.ju M.ma) : Md).bu k = _ from hb.2 k (by omega) (by omega), show iv 31 * iv (n : Int) = iv ((31 * n : Nat) : Int) from nmul (a := 31), show iv ((31 * n : Nat) : Int) + iv 1 + iv (k : Int) = iv ((31 * n + 1 + k : Nat) : Int) by rw [iv_add, iv_add]; rfl]
    refine Ms_nw hm (by omega) ?_
    intro G2 a1 a2
    rw [i_s]
    refine ih (k + 1) G2 _ (by omega) a1 ?_ ?_ (sam_tr hs a2) hP
    · intro j hj
      show upd f (31 * n + 1 + k) _ (31 * n + 1 + j) = _
      unfold upd
      by_cases z : j = k
      · rw [if_pos (by omega), z]
      · rw [if_neg (by omega)]
        exact h1 j (by omega)
    · intro j hj
      show upd f (31 * n + 1 + k) _ j = _
      unfold upd
      rw [if_neg (by omega)]
      exact h2 j (by omega)
theorem m_inline {a i : Int} (ha : Rg a) (hi : Rg i) (h : MH E G m A) : runs E (d + 6) i_X7_inline [.ref m, .int (iv a), .int (iv i)] G (mP E G m (s_inline A a i)) := by
  obtain ⟨M, hm, hI⟩ := h
  refine e_X7_inline ?_
  rw [v_I (fun P => c_mIsNt (d := d + 3) (P := P) ha)]
  by_cases c1 : 0 ≤ a ∧ a < 4
  · rw [if_neg (by rw [tf_t c1]; decide), Mo_nw hm]
    obtain ⟨n, rfl⟩ := Int.eq_ofNat_of_zero_le c1.1
    have hn : n < 4 := by omega
    have hL := ((MI_ok hI).1 n hn).1
    have hrow := (MI_rw hI).1 n hn
    rw [show iv 31 * iv (n : Int) = iv ((31 * n : Nat) : Int) from nmul (a := 31), Mg_nw hm (by omega), hrow.1, iv_sub, v_I (fun P => c_in (d := d + 4) (P := P) (i64 hi) (b := 0) rfl (i64 (by constructor <;> omega)))]
    by_cases c2 : 0 ≤ i ∧ i < ((A.S.b n).length : Int)
    · obtain ⟨k, rfl⟩ := Int.eq_ofNat_of_zero_le c2.1
      have hk : k < (A.S.b n).length := by omega
      have h10 := (((MI_ok hI).1 n hn).2.2 k hk).1
      have hs8 := syc ⟨(A.S.b n).getD k 0, h10⟩
      dsimp only [Sc_b, Sc_u, Sc_v, Md_len, Md_acts, Md_nxt, Md_ts, Md_bs, Md_lab, Md_xp, Md_sta, Md_tx, Md_nw, Md_tr, Md_rd, Md_di, Md_ke, Md_ik, Md_te, Md_bu, Md_va, Md_ju, Md_ma, As_tx, As_S, As_R, As_nx, As_ct, As_K, As_F] at hs8
      rw [if_pos (by rw [tf_t (by omega)]; decide), Mo_nw hm, show iv ((31 * n : Nat) : Int) + iv 1 + iv (k : Int) = iv ((31 * n + 1 + k : Nat) : Int) by rw [iv_add, iv_add]; rfl, Mg_nw hm (by omega), hrow.2 k hk, v_I (fun P => c_ntS (d := d + 3) (P := P) hs8.2), hs8.1]
      by_cases c3 : 4 ≤ (A.S.b n).getD k 0 ∧ (A.S.b n).getD k 0 < 8
      · have e0 : s_inline A (n : Int) (k : Int) = if (inB A.S n k).length ≤ 30 then ((((inB A.S n k).length : Nat) : Int), (As.mk (rem A).tx ((Sc.mk (upB A.S.b n (inB A.S n k)) A.S.u A.S.v)) (rem A).R (rem A).nx (rem A).ct (rem A).K (rem A).F)) else (-4, A) := by unfold s_inline; exact (if_pos ⟨c1, c2⟩).trans (if_pos c3)
        rw [if_pos c3, if_pos (by rw [iv_eq (by constructor <;> omega) (by decide)]; omega), Mo_nw hm, Mg_nw hm (by omega), hrow.1]
        refine Mp_ts hm ?_
        intro G1 a1 a2
        refine c_in69 (G := G) (M := (Md.mk M.len M.acts M.nxt (((A.S.b n).length : Int)) M.bs M.lab M.xp M.sta M.tx M.nw M.tr M.rd M.di M.ke M.ik M.te M.bu M.va M.ju M.ma)) (xs := A.S.b n) hn hL rfl (fun j hj => hrow.2 j hj) (A.S.b n).length 0 G1 M.te (by omega) a1 (fun j hj => absurd hj (Nat.not_lt_zero _)) a2 ?_
        intro G2 f b1 b2 b3
        refine Mp_bs b1 ?_
        intro G3 d1q d2
        have d1 : Mo E G3 m (Md.mk M.len M.acts M.nxt (((A.S.b n).length : Int)) 0 M.lab M.xp M.sta M.tx M.nw M.tr M.rd M.di M.ke M.ik f M.bu M.va M.ju M.ma) := d1q
        clear d1q b1
        rw [Mo_te d1, Mo_rc d1]
        have tM : TeM (Md.mk M.len M.acts M.nxt (((A.S.b n).length : Int)) 0 M.lab M.xp M.sta M.tx M.nw M.tr M.rd M.di M.ke M.ik f M.bu M.va M.ju M.ma) (A.S.b n) := ⟨rfl, by omega, b2, fun j hj => (((MI_ok hI).1 n hn).2.2 j hj).1⟩
        have hz0 : BuM (Md.mk M.len M.acts M.nxt (((A.S.b n).length : Int)) 0 M.lab M.xp M.sta M.tx M.nw M.tr M.rd M.di M.ke M.ik f M.bu M.va M.ju M.ma) [] := ⟨rfl, fun i hi => absurd hi (Nat.not_lt_zero _)⟩
        refine ⟨trivial, u_V (c_putPart (d := d + 3) (a := 0) (b := k) (xs := A.S.b n) (zs := []) (by omega) (by omega) d1 hz0 tM (by simp)) ?_⟩
        rintro v G4 ⟨rfl, ⟨bu1, bs1, e1q, e2q⟩, e3⟩
        refine ⟨rfl, ?_⟩
        have e1 : Mo E G4 m (Md.mk M.len M.acts M.nxt (((A.S.b n).length : Int)) bs1 M.lab M.xp M.sta M.tx M.nw M.tr M.rd M.di M.ke M.ik f bu1 M.va M.ju M.ma) := e1q
        have e2 : BuM (Md.mk M.len M.acts M.nxt (((A.S.b n).length : Int)) bs1 M.lab M.xp M.sta M.tx M.nw M.tr M.rd M.di M.ke M.ik f bu1 M.va M.ju M.ma) _ := e2q
        clear e1q e2q
        rw [Mo_nw e1, Mo_te e1, Mo_rc e1]
        have hbd := (MI_ok hI).1 ((A.S.b n).getD k 0 - 4) (by omega)
        have tM1 : TeM (Md.mk M.len M.acts M.nxt (((A.S.b n).length : Int)) bs1 M.lab M.xp M.sta M.tx M.nw M.tr M.rd M.di M.ke M.ik f bu1 M.va M.ju M.ma) (A.S.b n) := ⟨rfl, by omega, b2, fun j hj => (((MI_ok hI).1 n hn).2.2 j hj).1⟩
        have l0 : ([] ++ slc (A.S.b n) 0 k).length ≤ 1000 := by
          rw [List.nil_append]
          unfold slc
          rw [List.length_take]
          omega
        refine ⟨trivial, u_I (c_putExpanded (d := d) (bb := false) (n := (A.S.b n).getD k 0 - 4) (i := k) (xs := A.S.b n) (bd := A.S.b ((A.S.b n).getD k 0 - 4)) (by omega) ((MI_ok hI).1 n hn).2.1 hk (by omega) hbd e1 e2 tM1 ((MI_rw hI).1 _ (by omega)) l0) ?_⟩
        rintro v G5 ⟨rfl, ⟨bu2, bs2, f1q, f2q⟩, f3⟩
        refine ⟨_, rfl, ?_⟩
        have f1 : Mo E G5 m (Md.mk M.len M.acts M.nxt (((A.S.b n).length : Int)) bs2 M.lab M.xp M.sta M.tx M.nw M.tr M.rd M.di M.ke M.ik f bu2 M.va M.ju M.ma) := f1q
        have f2 : BuM (Md.mk M.len M.acts M.nxt (((A.S.b n).length : Int)) bs2 M.lab M.xp M.sta M.tx M.nw M.tr M.rd M.di M.ke M.ik f bu2 M.va M.ju M.ma) _ := f2q
        clear f1q f2q
        have tM2 : TeM (Md.mk M.len M.acts M.nxt (((A.S.b n).length : Int)) bs2 M.lab M.xp M.sta M.tx M.nw M.tr M.rd M.di M.ke M.ik f bu2 M.va M.ju M.ma) (A.S.b n) := ⟨rfl, by omega, b2, fun j hj => (((MI_ok hI).1 n hn).2.2 j hj).1⟩
        rw [Mo_te f1, Mo_ts f1, Mo_rc f1]
        have he2 : e2o (A.S.b n) k ≤ 300 := by
          unfold e2o
          have := eol_le ((A.S.b n).drop k) 1
          rw [List.length_drop] at this
          omega
        have l1 : ([] ++ slc (A.S.b n) 0 k ++ sbl (slc (A.S.b n) (k + 1) (e1o (A.S.b n) k)) (slc (A.S.b n) (e1o (A.S.b n) k) (e2o (A.S.b n) k)) (A.S.b ((A.S.b n).getD k 0 - 4))).length ≤ 5000 := by
          rw [List.length_append]
          have := sbl_le (slc (A.S.b n) (k + 1) (e1o (A.S.b n) k)) (slc (A.S.b n) (e1o (A.S.b n) k) (e2o (A.S.b n) k)) (slc_le hL) (slc_le hL) (A.S.b ((A.S.b n).getD k 0 - 4))
          have := hbd.1
          omega
        refine ⟨trivial, u_V (c_putPart (d := d + 3) (a := e2o (A.S.b n) k) (b := (A.S.b n).length) (xs := A.S.b n) (Nat.le_refl _) he2 f1 f2 tM2 (by omega)) ?_⟩
        rintro v G6 ⟨rfl, ⟨bu3, bs3, g1q, g2q⟩, g3⟩
        refine ⟨rfl, ?_⟩
        have g1 : Mo E G6 m (Md.mk M.len M.acts M.nxt (((A.S.b n).length : Int)) bs3 M.lab M.xp M.sta M.tx M.nw M.tr M.rd M.di M.ke M.ik f bu3 M.va M.ju M.ma) := g1q
        have g2 : BuM (Md.mk M.len M.acts M.nxt (((A.S.b n).length : Int)) bs3 M.lab M.xp M.sta M.tx M.nw M.tr M.rd M.di M.ke M.ik f bu3 M.va M.ju M.ma) _ := g2q
        clear g1q g2q
        have eX : [] ++ slc (A.S.b n) 0 k ++ sbl (slc (A.S.b n) (k + 1) (e1o (A.S.b n) k)) (slc (A.S.b n) (e1o (A.S.b n) k) (e2o (A.S.b n) k)) (A.S.b ((A.S.b n).getD k 0 - 4)) ++ slc (A.S.b n) (e2o (A.S.b n) k) (A.S.b n).length = inB A.S n k := by
          unfold inB xpd
          have s1 : slc (A.S.b n) 0 k = (A.S.b n).take k := by unfold slc; rw [List.drop_zero, Nat.sub_zero]
          have s2 : slc (A.S.b n) (e2o (A.S.b n) k) (A.S.b n).length = (A.S.b n).drop (e2o (A.S.b n) k) := by
            unfold slc
            rw [List.take_of_length_le (by rw [List.length_drop]; exact Nat.le_refl _)]
          rw [s1, s2, List.nil_append, List.append_assoc]
        rw [eX] at g2
        have hlB : (inB A.S n k).length ≤ 6000 := by
          rw [← eX, List.length_append]
          have := slc_le (a := e2o (A.S.b n) k) (b := (A.S.b n).length) hL
          omega
        have sG : sam E G G6 (ivl m 13) := sam_tr (sam_tr (sam_tr (sam_tr b3 d2) e3) f3) g3
        have hI6 : MI (Md.mk M.len M.acts M.nxt (((A.S.b n).length : Int)) bs3 M.lab M.xp M.sta M.tx M.nw M.tr M.rd M.di M.ke M.ik f bu3 M.va M.ju M.ma) A := MI_c hI rfl rfl rfl rfl rfl rfl rfl rfl
        rw [Mo_bs g1, show ((Md.mk M.len M.acts M.nxt (((A.S.b n).length : Int)) bs3 M.lab M.xp M.sta M.tx M.nw M.tr M.rd M.di M.ke M.ik f bu3 M.va M.ju M.ma) : Md).bs = _ from g2.1]
        by_cases c4 : (inB A.S n k).length ≤ 30
        · rw [e0, if_pos c4, if_pos (by rw [iv_le (by constructor <;> omega) (by decide)]; omega), Mo_rc g1]
          refine ⟨trivial, u_V (c_note (d := d + 4) (A := A) g1 hI6) ?_⟩
          rintro v G7 ⟨rfl, N, n1, n2, n3, n4⟩
          refine ⟨rfl, ?_⟩
          have hbN : BuM N (inB A.S n k) := by
            have z1 : N.bs = bs3 := by have z := congrArg Md.bs n3; exact z
            have z2 : N.bu = bu3 := by have z := congrArg Md.bu n3; exact z
            unfold BuM
            rw [z1, z2]
            exact g2
          rw [Mo_nw n1, Mo_bs n1, hbN.1, show iv 31 * iv (n : Int) = iv ((31 * n : Nat) : Int) from nmul (a := 31)]
          refine Ms_nw n1 (by omega) ?_
          intro G8 p1q p2
          have p1 : Mo E G8 m (Md.mk ((Md.mk N.len N.acts N.nxt N.ts N.bs N.lab N.xp N.sta N.tx (upd N.nw (31 * n) (iv ((inB A.S n k).length : Nat))) N.tr N.rd N.di N.ke N.ik N.te N.bu N.va N.ju N.ma) : Md).len ((Md.mk N.len N.acts N.nxt N.ts N.bs N.lab N.xp N.sta N.tx (upd N.nw (31 * n) (iv ((inB A.S n k).length : Nat))) N.tr N.rd N.di N.ke N.ik N.te N.bu N.va N.ju N.ma) : Md).acts ((Md.mk N.len N.acts N.nxt N.ts N.bs N.lab N.xp N.sta N.tx (upd N.nw (31 * n) (iv ((inB A.S n k).length : Nat))) N.tr N.rd N.di N.ke N.ik N.te N.bu N.va N.ju N.ma) : Md).nxt ((Md.mk N.len N.acts N.nxt N.ts N.bs N.lab N.xp N.sta N.tx (upd N.nw (31 * n) (iv ((inB A.S n k).length : Nat))) N.tr N.rd N.di N.ke N.ik N.te N.bu N.va N.ju N.ma) : Md).ts ((Md.mk N.len N.acts N.nxt N.ts N.bs N.lab N.xp N.sta N.tx (upd N.nw (31 * n) (iv ((inB A.S n k).length : Nat))) N.tr N.rd N.di N.ke N.ik N.te N.bu N.va N.ju N.ma) : Md).bs ((Md.mk N.len N.acts N.nxt N.ts N.bs N.lab N.xp N.sta N.tx (upd N.nw (31 * n) (iv ((inB A.S n k).length : Nat))) N.tr N.rd N.di N.ke N.ik N.te N.bu N.va N.ju N.ma) : Md).lab ((Md.mk N.len N.acts N.nxt N.ts N.bs N.lab N.xp N.sta N.tx (upd N.nw (31 * n) (iv ((inB A.S n k).length : Nat))) N.tr N.rd N.di N.ke N.ik N.te N.bu N.va N.ju N.ma) : Md).xp ((Md.mk N.len N.acts N.nxt N.ts N.bs N.lab N.xp N.sta N.tx (upd N.nw (31 * n) (iv ((inB A.S n k).length : Nat))) N.tr N.rd N.di N.ke N.ik N.te N.bu N.va N.ju N.ma) : Md).sta ((Md.mk N.len N.acts N.nxt N.ts N.bs N.lab N.xp N.sta N.tx (upd N.nw (31 * n) (iv ((inB A.S n k).length : Nat))) N.tr N.rd N.di N.ke N.ik N.te N.bu N.va N.ju N.ma) : Md).tx (upd N.nw (31 * n) (iv ((inB A.S n k).length : Nat))) ((Md.mk N.len N.acts N.nxt N.ts N.bs N.lab N.xp N.sta N.tx (upd N.nw (31 * n) (iv ((inB A.S n k).length : Nat))) N.tr N.rd N.di N.ke N.ik N.te N.bu N.va N.ju N.ma) : Md).tr ((Md.mk N.len N.acts N.nxt N.ts N.bs N.lab N.xp N.sta N.tx (upd N.nw (31 * n) (iv ((inB A.S n k).length : Nat))) N.tr N.rd N.di N.ke N.ik N.te N.bu N.va N.ju N.ma) : Md).rd ((Md.mk N.len N.acts N.nxt N.ts N.bs N.lab N.xp N.sta N.tx (upd N.nw (31 * n) (iv ((inB A.S n k).length : Nat))) N.tr N.rd N.di N.ke N.ik N.te N.bu N.va N.ju N.ma) : Md).di ((Md.mk N.len N.acts N.nxt N.ts N.bs N.lab N.xp N.sta N.tx (upd N.nw (31 * n) (iv ((inB A.S n k).length : Nat))) N.tr N.rd N.di N.ke N.ik N.te N.bu N.va N.ju N.ma) : Md).ke ((Md.mk N.len N.acts N.nxt N.ts N.bs N.lab N.xp N.sta N.tx (upd N.nw (31 * n) (iv ((inB A.S n k).length : Nat))) N.tr N.rd N.di N.ke N.ik N.te N.bu N.va N.ju N.ma) : Md).ik ((Md.mk N.len N.acts N.nxt N.ts N.bs N.lab N.xp N.sta N.tx (upd N.nw (31 * n) (iv ((inB A.S n k).length : Nat))) N.tr N.rd N.di N.ke N.ik N.te N.bu N.va N.ju N.ma) : Md).te ((Md.mk N.len N.acts N.nxt N.ts N.bs N.lab N.xp N.sta N.tx (upd N.nw (31 * n) (iv ((inB A.S n k).length : Nat))) N.tr N.rd N.di N.ke N.ik N.te N.bu N.va N.ju N.ma) : Md).bu ((Md.mk N.len N.acts N.nxt N.ts N.bs N.lab N.xp N.sta N.tx (upd N.nw (31 * n) (iv ((inB A.S n k).length : Nat))) N.tr N.rd N.di N.ke N.ik N.te N.bu N.va N.ju N.ma) : Md).va ((Md.mk N.len N.acts N.nxt N.ts N.bs N.lab N.xp N.sta N.tx (upd N.nw (31 * n) (iv ((inB A.S n k).length : Nat))) N.tr N.rd N.di N.ke N.ik N.te N.bu N.va N.ju N.ma) : Md).ju ((Md.mk N.len N.acts N.nxt N.ts N.bs N.lab N.xp N.sta N.tx (upd N.nw (31 * n) (iv ((inB A.S n k).length : Nat))) N.tr N.rd N.di N.ke N.ik N.te N.bu N.va N.ju N.ma) : Md).ma) := p1q
          clear p1q
          have hok := okB_in (MI_ok hI) hn hk c3 c4
          refine c_in176 (G := G) (M := (Md.mk N.len N.acts N.nxt N.ts N.bs N.lab N.xp N.sta N.tx (upd N.nw (31 * n) (iv ((inB A.S n k).length : Nat))) N.tr N.rd N.di N.ke N.ik N.te N.bu N.va N.ju N.ma)) (ys := inB A.S n k) hn c4 hbN (inB A.S n k).length 0 G8 (upd N.nw (31 * n) (iv ((inB A.S n k).length : Nat))) (by omega) p1 (fun j hj => absurd hj (Nat.not_lt_zero _)) (fun j _ => rfl) (sam_tr (sam_tr sG n4) p2) ?_
          intro G9 f9 q1 q2 q3 q4
          rw [Mo_nw q1]
          have hf0 : f9 (31 * n) = iv ((inB A.S n k).length : Nat) := by
            rw [q3 _ (by omega)]
            show upd N.nw (31 * n) _ (31 * n) = _
            unfold upd
            rw [if_pos rfl]
          refine u_V (c_tidy (d := d + 4) (L := (inB A.S n k).length) hn c4 q1 hf0) ?_
          rintro v G10 ⟨rfl, g, r1, r2, r3⟩
          refine ⟨rfl, ?_⟩
          rw [Mo_bs r1]
          refine ⟨?_, ⟨_, r1, ?_⟩, sam_tr q4 r3⟩
          · show some (Value.int (iv N.bs)) = _
            rw [hbN.1]
          · refine MI_b (A := rem A) (T := A.S) (M := N) (f := g) n2 rfl hn hok ?_ ?_ ?_
            · rw [r2 _ (by omega)]; exact hf0
            · intro j hj
              rw [r2 _ (by omega)]; exact q2 j hj
            · intro j hj
              rw [r2 _ (by omega)]
              show f9 j = _
              rw [q3 _ (by omega)]
              show upd N.nw (31 * n) _ j = _
              unfold upd
              rw [if_neg (by omega)]
        · rw [e0, if_neg c4, if_neg (by rw [iv_le (by constructor <;> omega) (by decide)]; omega)]
          exact ⟨rfl, ⟨_, g1, hI6⟩, sG⟩
      · have e : s_inline A (n : Int) (k : Int) = (-3, A) := by unfold s_inline; exact (if_pos ⟨c1, c2⟩).trans (if_neg c3)
        rw [e, if_neg c3, if_neg (by decide)]
        exact ⟨rfl, ⟨M, hm, hI⟩, sam_rf⟩
    · have e : s_inline A (n : Int) i = (-1, A) := by unfold s_inline; exact if_neg (fun z => c2 z.2)
      rw [e, if_neg (by rw [tf_f (by omega)]; decide)]
      exact ⟨rfl, ⟨M, hm, hI⟩, sam_rf⟩
  · have e : s_inline A a i = (-1, A) := by unfold s_inline; exact if_neg (fun z => c1 z.1)
    rw [e, if_pos (by rw [tf_f c1]; decide)]
    exact ⟨rfl, ⟨M, hm, hI⟩, sam_rf⟩
end MIN
