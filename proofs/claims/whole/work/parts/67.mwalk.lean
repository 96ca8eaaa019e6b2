-- uses 41 42 43 44 45 46 47 48 49 50 51 52 53 54 55 56 57 58 59 60 61 62 63 64 65 66
/-! the reference's walks -/
def WM (M : Md) (w : Wa) : Prop := TeM M w.1 ∧ M.lab = lbO w.1 ∧ M.xp = (w.2.1 : Int) ∧ M.sta = w.2.2
section MW
variable {E : Ev} {d : Nat} {G : Hp} {P : Po} {m : Nat}
theorem lbO_4 : ∀ y : Fin 4, (0 < chr y.val ∧ chr y.val ≤ 255) ∧ sy (chr y.val) = y.val := by decide +kernel
theorem c_childrenOf {zs : List Nat} : runs E (d + 3) i_X7_childrenOf [.ref m, .int (iv (lbO zs))] G P = P (some (.int (iv (if hd zs < 4 then (ar (hd zs) : Nat) else 0)))) G := by
  refine runs_one (fun P hP => e_X7_childrenOf ?_) P
  unfold lbO
  by_cases c : hd zs < 4
  · rw [if_pos c] at hP ⊢
    have h4 := lbO_4 ⟨hd zs, c⟩
    dsimp only [Sc_b, Sc_u, Sc_v, Md_len, Md_acts, Md_nxt, Md_ts, Md_bs, Md_lab, Md_xp, Md_sta, Md_tx, Md_nw, Md_tr, Md_rd, Md_di, Md_ke, Md_ik, Md_te, Md_bu, Md_va, Md_ju, Md_ma] at h4
    simp (disch := first | assumption | omega | decide) only [iv_eq0]
    rw [if_pos (by omega), v_I (fun P => c_teS (d := d) (P := P) h4.1.2), h4.2, if_pos c, v_I (fun P => c_places (d := d + 1) (P := P) c)]
    exact hP
  · rw [if_neg c] at hP ⊢
    rw [if_neg (by decide)]
    exact hP
theorem c_beginWalk {M : Md} {bb : Bool} {S : Sc} (hm : Mo E G m M) (hR : okR M bb S) : runs E (d + 7) i_X7_beginWalk [.ref m, .ref (rA m bb)] G (fun v G1 => v = none ∧ ∃ N, Mo E G1 m N ∧ WM N (w0 S) ∧ Wk M N ∧ sam E G G1 (ivl m 13)) := by
  refine e_X7_beginWalk ?_
  rw [Mo_te hm, show iv 0 = iv ((0 : Nat) : Int) from rfl]
  refine Ms_te hm (by omega) ?_
  intro G1 a1 a2
  refine Mp_ts a1 ?_
  intro G2 b1 b2
  refine Mp_xp b1 ?_
  intro G3 c1 c2
  refine Mp_sta c1 ?_
  intro G4 d1 d2
  rw [Mo_rc d1]
  refine ⟨trivial, u_V (c_mEvaluate (d := d) (S := S) (bb := bb) (xs := [4]) okT_S d1 ⟨rfl, by decide, fun i hi => ?_, fun i hi => ?_⟩ hR) ?_⟩
  · have : i = 0 := by have : i < 1 := hi; omega
    subst this
    rfl
  · have : i = 0 := by have : i < 1 := hi; omega
    subst this
    decide
  · rintro v G5 ⟨rfl, N, e1, e2, e3, e4, e5, e6, e7⟩
    refine ⟨rfl, rfl, N, e1, ⟨e2, e3, ?_, e5⟩, Wk_tr (N := (Md.mk M.len M.acts M.nxt 1 M.bs M.lab 0 0 M.tx M.nw M.tr M.rd M.di M.ke M.ik (upd M.te 0 (iv 83)) M.bu M.va M.ju M.ma)) rfl e6, sam_tr a2 (sam_tr b2 (sam_tr c2 (sam_tr d2 e7)))⟩
    rw [e4]
    show (0 : Int) + _ = _
    unfold w0
    simp
theorem c_gd128 {zs : List Nat} {S : Sc} {bb : Bool} {st l : Nat} {z2 z3 z4 z6 : Int32} {te0 : Nat → Int32} (hst : 1 ≤ st) (hl : st + l ≤ 200) (hz : ∀ i, i < l → te0 (st + i) = iv (chr (zs.getD i 0) : Nat)) (hzl : zs.length = l) (hx : okT zs) : ∀ (k i : Nat) (G1 : Hp) (M : Md), l - i ≤ k → i ≤ l → Mo E G1 m M → M.ts = l → okR M bb S → (∀ j, j < i → M.te j = iv (chr (zs.getD j 0) : Nat)) → (∀ j, i ≤ j → M.te j = te0 j) → sam E G G1 (ivl m 13) → (∀ G2 N, Mo E G2 m N → TeM N (evl S.b 40 zs).2 → N.lab = lbO (evl S.b 40 zs).2 → N.xp = M.xp + (evl S.b 40 zs).1 → N.sta = M.sta → Wk M N → sam E G G2 (ivl m 13) → P (some (.int (iv 1))) G2) → Xr E (d + 6) x_X7_goDown 128 [some (.ref m), some (.ref (rA m bb)), some (.int z2), some (.int z3), some (.int z4), some (.int (iv (st : Int))), some (.int z6), some (.int (iv (i : Int)))] [] G1 P := by
  intro k
  have fin : ∀ (G1 : Hp) (M : Md), Mo E G1 m M → M.ts = l → okR M bb S → (∀ j, j < l → M.te j = iv (chr (zs.getD j 0) : Nat)) → sam E G G1 (ivl m 13) → (∀ G2 N, Mo E G2 m N → TeM N (evl S.b 40 zs).2 → N.lab = lbO (evl S.b 40 zs).2 → N.xp = M.xp + (evl S.b 40 zs).1 → N.sta = M.sta → Wk M N → sam E G G2 (ivl m 13) → P (some (.int (iv 1))) G2) → (rcv E G1 m 7 = true ∧ (qCV E (d + 6) i_X7_evaluate [.ref m, .ref (rA m bb)] G1 fun G2 => P (some (.int (iv 1))) G2)) := by
    intro G1 M hm hts hR h1 hs hP
    rw [Mo_rc hm]
    refine ⟨trivial, u_V (c_mEvaluate (d := d) (S := S) (bb := bb) (xs := zs) hx hm ⟨by rw [hts, hzl], by omega, fun j hj => h1 j (by omega), okT_10 hx⟩ hR) ?_⟩
    rintro v G5 ⟨rfl, N, e1, e2, e3, e4, e5, e6, e7⟩
    exact ⟨rfl, hP G5 N e1 e2 e3 e4 e5 e6 (sam_tr hs e7)⟩
  induction k with
  | zero =>
    intro i G1 M hk hi hm hts hR h1 h2 hs hP
    refine g_X7_goDown_128 ?_
    rw [Mo_ts hm, hts]
    simp (disch := first | assumption | omega | decide) only [iv_le]
    rw [if_pos (by omega)]
    exact fin G1 M hm hts hR (fun j hj => h1 j (by omega)) hs hP
  | succ k ih =>
    intro i G1 M hk hi hm hts hR h1 h2 hs hP
    refine g_X7_goDown_128 ?_
    rw [Mo_ts hm, hts]
    simp (disch := first | assumption | omega | decide) only [iv_le]
    by_cases c : (l : Int) ≤ i
    · rw [if_pos c]
      exact fin G1 M hm hts hR (fun j hj => h1 j (by omega)) hs hP
    · rw [if_neg c, Mo_te hm, Mo_te hm, show iv (st : Int) + iv (i : Int) = iv ((st + i : Nat) : Int) by rw [iv_add]; rfl, Mg_te hm (by omega), h2 (st + i) (by omega), hz i (by omega), i_s]
      refine Ms_te hm (by omega) ?_
      intro G2 a1 a2
      refine ih (i + 1) G2 _ (by omega) (by omega) a1 hts hR ?_ ?_ (sam_tr hs a2) ?_
      · intro j hj
        show upd M.te i _ j = _
        unfold upd
        by_cases c2 : j = i
        · rw [if_pos c2, c2]
        · rw [if_neg c2]
          exact h1 j (by omega)
      · intro j hj
        show upd M.te i _ j = _
        unfold upd
        rw [if_neg (by omega)]
        exact h2 j (by omega)
      · intro G3 N b1 b2 b3 b4 b5 b6 b7
        exact hP G3 N b1 b2 b3 b4 b5 (Wk_tr (N := (Md.mk M.len M.acts M.nxt M.ts M.bs M.lab M.xp M.sta M.tx M.nw M.tr M.rd M.di M.ke M.ik (upd M.te i (iv ((chr (zs.getD i 0) : Nat) : Int))) M.bu M.va M.ju M.ma)) rfl b6) b7
/-- the child's term is taken out and evaluated -/
theorem c_gd82 {M : Md} {zs : List Nat} {S : Sc} {bb : Bool} {c : Nat} {z3 z4 : Int32} {G1 : Hp} (hx : okT zs) (h4 : hd zs < 4) (hc : c = 1 ∨ c = 2) (hca : c ≤ ar (hd zs)) (hm : Mo E G1 m M) (ht : TeM M zs) (hR : okR M bb S) (hs : sam E G G1 (ivl m 13)) (hP : ∀ G2 N, Mo E G2 m N → TeM N (evl S.b 40 (chd zs c)).2 → N.lab = lbO (evl S.b 40 (chd zs c)).2 → N.xp = M.xp + (evl S.b 40 (chd zs c)).1 → N.sta = M.sta → Wk M N → sam E G G2 (ivl m 13) → P (some (.int (iv 1))) G2) : Xr E (d + 6) x_X7_goDown 82 [some (.ref m), some (.ref (rA m bb)), some (.int (iv (c : Int))), some (.int z3), some (.int z4), some (.int (iv 1)), some (.int (iv 1)), none] [] G1 P := by
  have hzl := hx.2.2
  have hck := chd_ok hx h4 hc hca
  have hwz : wfo (ar (hd zs)) (zs.drop 1) := by
    have w0 := hx.1
    have e0 := dropC (okT_pos hx)
    rw [List.drop_zero] at e0
    rw [e0] at w0
    have w1 : wfo (0 + ar (hd zs)) (zs.drop 1) := w0
    rw [Nat.zero_add] at w1
    exact w1
  obtain ⟨k, hk⟩ : ∃ k, ar (hd zs) = k + 1 := ⟨ar (hd zs) - 1, by omega⟩
  have cplof : ∀ (k : Nat) (ys : List Nat), wfo (k + 1) ys → cpl 1 ys := by
    intro k ys h
    rw [Nat.add_comm] at h
    obtain ⟨a, b, e, h1, h2⟩ := wfo_spl _ _ _ h
    rw [e]
    exact (eol_app a b 1 h1).2
  rw [hk] at hwz
  obtain ⟨a1, a2, a3⟩ := arg1 hwz hx.2.1 hx.2.2
  -- the last step: from st on
  have last : ∀ (st : Nat) (z6 : Int), c ≤ z6 → Rg z6 → 1 ≤ st → cpl 1 (zs.drop st) → st + eol 1 (zs.drop st) ≤ zs.length → slc zs st (st + eol 1 (zs.drop st)) = chd zs c → Xr E (d + 6) x_X7_goDown 82 [some (.ref m), some (.ref (rA m bb)), some (.int (iv (c : Int))), some (.int z3), some (.int z4), some (.int (iv (st : Int))), some (.int (iv z6)), none] [] G1 P := by
    intro st z6 hz6 hr6 hst hcp hle hsl
    refine g_X7_goDown_82 ?_
    simp (disch := first | assumption | omega | decide) only [iv_le]
    rw [if_pos hz6, Mo_te hm, v_I (fun P => c_mEndOf (d := d + 2) (P := P) (Ma_te hm) (by omega) ht.2.2.1 ht.2.2.2 (by omega) hcp)]
    have e1 : iv ((st + eol 1 (zs.drop st) : Nat) : Int) - iv (st : Int) = iv ((eol 1 (zs.drop st) : Nat) : Int) := by
      rw [iv_sub]
      congr 1
      omega
    rw [e1]
    refine Mp_ts hm ?_
    intro G2 b1 b2
    have hlen : (chd zs c).length = eol 1 (zs.drop st) := by
      rw [← hsl, slc_len (by omega) hle]
      omega
    refine c_gd128 (G := G) (zs := chd zs c) (S := S) (te0 := M.te) (l := eol 1 (zs.drop st)) hst (by omega) ?_ hlen hck (eol 1 (zs.drop st)) 0 G2 _ (by omega) (by omega) b1 rfl hR (fun j hj => absurd hj (Nat.not_lt_zero _)) (fun j _ => rfl) (sam_tr hs b2) ?_
    · intro i hi
      rw [ht.2.2.1 (st + i) (by omega), ← hsl, slc_at (by omega)]
    · intro G3 N d1 d2 d3 d4 d5 d6 d7
      exact hP G3 N d1 d2 d3 d4 d5 (Wk_tr (N := (Md.mk M.len M.acts M.nxt (((eol 1 (zs.drop st) : Nat) : Int)) M.bs M.lab M.xp M.sta M.tx M.nw M.tr M.rd M.di M.ke M.ik M.te M.bu M.va M.ju M.ma)) rfl d6) d7
  rcases hc with rfl | rfl
  · exact last 1 1 (by omega) (by decide) (by omega) (cplof k _ hwz) a3 (by unfold chd; rw [if_pos rfl])
  · refine g_X7_goDown_82 ?_
    rw [if_neg (by decide), Mo_te hm, show iv 1 = iv ((1 : Nat) : Int) from rfl, v_I (fun P => c_mEndOf (d := d + 2) (P := P) (Ma_te hm) (by omega) ht.2.2.1 ht.2.2.2 (by omega) (cplof k _ hwz))]
    have hk1 : ∃ k', k = k' + 1 := ⟨k - 1, by omega⟩
    obtain ⟨k', rfl⟩ := hk1
    obtain ⟨b1, b2, b3⟩ := arg1 a2 hx.2.1 hx.2.2
    rw [iv_add]
    exact last (1 + eol 1 (zs.drop 1)) 2 (by omega) (by decide) (by omega) (cplof k' _ a2) b3 (by unfold chd; rw [if_neg (by decide)])
def gdP (E : Ev) (G G1 : Hp) (m : Nat) (M : Md) (v : Option Value) (o : Option Wa) : Prop := match o with
  | none => v = some (.int (iv 0)) ∧ G1 = G
  | some w => v = some (.int (iv 1)) ∧ ∃ N, Mo E G1 m N ∧ WM N w ∧ Wk M N ∧ sam E G G1 (ivl m 13)
theorem c_goDown {M : Md} {w : Wa} {S : Sc} {bb : Bool} {c : Nat} (hw : okW w) (hc : c = 1 ∨ c = 2) (hm : Mo E G m M) (hM : WM M w) (hR : okR M bb S) : runs E (d + 7) i_X7_goDown [.ref m, .ref (rA m bb), .int (iv (c : Int))] G (fun v G1 => gdP E G G1 m M v (wd S w c)) := by
  refine e_X7_goDown ?_
  have ha := ar_le (hd w.1)
  rw [Mo_lab hm, hM.2.1, Mo_rc hm]
  refine ⟨trivial, ?_⟩
  rw [v_I (fun P => c_childrenOf (d := d + 3) (P := P))]
  by_cases cc : hd w.1 < 4 ∧ c ≤ ar (hd w.1)
  · have e0 : wd S w c = some ((evl S.b 40 (chd w.1 c)).2, w.2.1 + (evl S.b 40 (chd w.1 c)).1, wst S w.2.2 (hd w.1) c) := by
      unfold wd
      rw [if_pos cc]
    rw [e0, if_pos cc.1]
    simp (disch := first | assumption | omega | decide) only [iv_le]
    have h4 := lbO_4 ⟨hd w.1, cc.1⟩
    dsimp only [Sc_b, Sc_u, Sc_v, Md_len, Md_acts, Md_nxt, Md_ts, Md_bs, Md_lab, Md_xp, Md_sta, Md_tx, Md_nw, Md_tr, Md_rd, Md_di, Md_ke, Md_ik, Md_te, Md_bu, Md_va, Md_ju, Md_ma] at h4
    have hlb : lbO w.1 = (chr (hd w.1) : Nat) := by
      unfold lbO
      rw [if_pos cc.1]
    rw [if_pos (by omega), Mo_lab hm, hM.2.1, hlb, v_I (fun P => c_teS (d := d + 4) (P := P) h4.1.2), h4.2, if_pos cc.1, Mo_sta hm, hM.2.2.2]
    have fin : ∀ (G1 : Hp) (z : Int) (z4 : Int32), z = wst S w.2.2 (hd w.1) c → Mo E G1 m (Md.mk M.len M.acts M.nxt M.ts M.bs M.lab M.xp z M.tx M.nw M.tr M.rd M.di M.ke M.ik M.te M.bu M.va M.ju M.ma) → sam E G G1 (ivl m 13) → Xr E (d + 6) x_X7_goDown 82 [some (.ref m), some (.ref (rA m bb)), some (.int (iv (c : Int))), some (.int (iv ((hd w.1 : Nat) : Int))), some (.int z4), some (.int (iv 1)), some (.int (iv 1)), none] [] G1 (fun v G1 => gdP E G G1 m M v (some ((evl S.b 40 (chd w.1 c)).2, w.2.1 + (evl S.b 40 (chd w.1 c)).1, wst S w.2.2 (hd w.1) c))) := by
      intro G1 z z4 hz b1 b2
      refine c_gd82 (G := G) (S := S) (bb := bb) hw.1 cc.1 hc cc.2 b1 hM.1 hR b2 ?_
      intro G2 N d1 d2 d3 d4 d5 d6 d7
      refine ⟨rfl, N, d1, ⟨d2, d3, ?_, ?_⟩, Wk_tr (N := (Md.mk M.len M.acts M.nxt M.ts M.bs M.lab M.xp z M.tx M.nw M.tr M.rd M.di M.ke M.ik M.te M.bu M.va M.ju M.ma)) rfl d6, d7⟩
      · rw [d4]
        show M.xp + _ = ((_ + _ : Nat) : Int)
        rw [hM.2.2.1]
        omega
      · rw [d5]
        exact hz
    have hr2 : Rg w.2.2 := by rcases hw.2 with z | z <;> constructor <;> omega
    simp (disch := first | assumption | omega | decide) only [iv_eq]
    by_cases c9 : w.2.2 = -9
    · rw [if_neg (fun z => z c9), Mo_sta hm, hM.2.2.2]
      simp (disch := first | assumption | omega | decide) only [iv_eq]
      rw [if_pos c9]
      refine Mp_sta hm ?_
      intro G1 b1 b2
      refine fin G1 _ _ ?_ b1 b2
      unfold wst
      rw [if_neg (by omega)]
    · have hq : 0 ≤ w.2.2 ∧ w.2.2 < 3 := by rcases hw.2 with z | z <;> omega
      obtain ⟨q, hqq⟩ := Int.eq_ofNat_of_zero_le hq.1
      have hq3 : q < 3 := by omega
      rw [if_pos c9, Mo_sta hm, hM.2.2.2, hqq, v_I (fun P => c_stepAt (d := d + 5) (P := P)), Mo_sta hm, hM.2.2.2, hqq]
      simp (disch := first | assumption | omega | decide) only [iv_eq]
      have hk12 : 4 * q + hd w.1 < 12 := by omega
      have hrow := hR.1.2 (4 * q + hd w.1) hk12
      have hu := okS_u hR.2 (k := 4 * q + hd w.1) hk12
      rw [if_neg (by omega), u_IAn (Ma_row hm) (by omega), hrow.1]
      by_cases cu : S.u (4 * q + hd w.1) = -1
      · rw [if_pos cu, if_neg (by decide)]
        refine Mp_sta hm ?_
        intro G1 b1 b2
        rw [← hqq]
        refine fin G1 _ _ ?_ b1 b2
        unfold wst
        rw [hqq, Int.toNat_natCast, if_neg (fun z => z.2 cu)]
      · have hr1 := hrow.2 cu
        rw [if_neg cu, if_pos (by decide), show iv ((124 + 3 * (4 * q + hd w.1) : Nat) : Int) + iv (c : Int) = iv ((124 + 3 * (4 * q + hd w.1) + c : Nat) : Int) by rw [iv_add]; rfl, u_IAn (Ma_row hm) (by omega)]
        have ev : rF M bb (124 + 3 * (4 * q + hd w.1) + c) = iv (wst S w.2.2 (hd w.1) c) := by
          unfold wst
          rw [hqq, Int.toNat_natCast, if_pos ⟨by omega, cu⟩]
          rcases hc with rfl | rfl
          · rw [if_pos rfl]
            exact hr1.1
          · rw [if_neg (by decide)]
            have ar2 : ∀ y : Fin 4, 2 ≤ ar y.val → y.val = 0 := by decide
            have hy0 := ar2 ⟨hd w.1, cc.1⟩ cc.2
            dsimp only [Sc_b, Sc_u, Sc_v, Md_len, Md_acts, Md_nxt, Md_ts, Md_bs, Md_lab, Md_xp, Md_sta, Md_tx, Md_nw, Md_tr, Md_rd, Md_di, Md_ke, Md_ik, Md_te, Md_bu, Md_va, Md_ju, Md_ma] at hy0
            exact hr1.2 (by omega)
        rw [ev]
        refine Mp_sta hm ?_
        intro G1 b1 b2
        rw [← hqq]
        exact fin G1 _ _ rfl b1 b2
  · have e0 : wd S w c = none := by
      unfold wd
      rw [if_neg cc]
    rw [e0]
    have e1 : ¬ (c : Int) ≤ (if hd w.1 < 4 then ((ar (hd w.1) : Nat) : Int) else 0) := by
      split
      · next z => omega
      · omega
    have hr : Rg (if hd w.1 < 4 then ((ar (hd w.1) : Nat) : Int) else 0) := by split <;> constructor <;> omega
    simp (disch := first | assumption | omega | decide) only [iv_le]
    rw [if_neg e1]
    exact ⟨rfl, rfl⟩
theorem okR_wk {M N : Md} {bb : Bool} {S : Sc} (h : okR M bb S) (k : Wk M N) : okR N bb S := by
  unfold okR
  rw [Wk_row k bb]
  exact h
/-- a walk's end -/
def wkP (E : Ev) (G G1 : Hp) (m : Nat) (M : Md) (v : Option Value) (o : Option Wa) : Prop := (∃ N, Mo E G1 m N ∧ Wk M N ∧ ∀ w, o = some w → WM N w) ∧ v = some (.int (iv (if o = none then 0 else 1))) ∧ sam E G G1 (ivl m 13)
theorem c_wkL {S : Sc} {bb : Bool} {ds : List Nat} {M0 : Md} {k : Nat} (hds : ds.length = k) (hk : k ≤ 6) (hd : dig ds) : ∀ (r i : Nat) (G1 : Hp) (M : Md) (o : Option Wa), i + r = k → o = wks S (some (w0 S)) (ds.take i) → Mo E G1 m M → (∀ w, o = some w → WM M w) → okR M bb S → Wk M0 M → sam E G G1 (ivl m 13) → (∀ v G2, wkP E G G2 m M0 v (wks S (some (w0 S)) ds) → P v G2) → Xr E (d + 7) x_X7_walk 13 [some (.ref m), some (.ref (rA m bb)), some (.int (iv ((val ds 0 : Nat) : Int))), some (.int (iv (k : Int))), some (.int (iv (if o = none then 0 else 1))), some (.int (iv ((r : Int) - 1)))] [] G1 P := by
  intro r
  have hvb : val ds 0 < 10 ^ k := by
    have := val_lt k (nd 1 ds) hk
    rw [nd_bds k ds hds hd] at this
    exact this
  have h10 : 10 ^ k ≤ 10 ^ 6 := Nat.pow_le_pow_right (by decide) hk
  have h6 : (10 : Nat) ^ 6 = 1000000 := rfl
  have nar : ∀ o : Option Wa, narrow .boolean (.int (iv (if o = none then 0 else 1))) = .int (iv (if o = none then 0 else 1)) := by
    intro o
    cases o with
    | none => rw [if_pos rfl]; exact of_eq_true (iv_narZ (Or.inl rfl))
    | some w => rw [if_neg (by simp)]; exact of_eq_true (iv_narZ (Or.inr rfl))
  induction r with
  | zero =>
    intro i G1 M o hi ho hm hw hR hWk hs hP
    refine g_X7_walk_13 ?_
    rw [if_pos (by decide)]
    refine ⟨nar o, hP _ G1 ?_⟩
    have : ds.take i = ds := List.take_of_length_le (by omega)
    rw [this] at ho
    rw [← ho]
    exact ⟨⟨M, hm, hWk, hw⟩, rfl, hs⟩
  | succ r ih =>
    intro i G1 M o hi ho hm hw hR hWk hs hP
    refine g_X7_walk_13 ?_
    simp (disch := first | assumption | omega | decide) only [iv_lt0]
    rw [if_neg (by omega)]
    cases o with
    | none =>
      rw [if_pos (by simp; decide)]
      refine ⟨nar none, hP _ G1 ?_⟩
      have : wks S (some (w0 S)) ds = none := by
        have gen : ∀ (a b : List Nat) (x : Option Wa), wks S x a = none → wks S x (a ++ b) = none := by
          intro a
          induction a with
          | nil => intro b x h; have h' : x = none := h; rw [h']; exact wks_none _
          | cons c a ih =>
            intro b x h
            cases x with
            | none => rfl
            | some y => exact ih b _ h
        rw [← List.take_append_drop i ds]
        exact gen _ _ _ ho.symm
      rw [this]
      exact ⟨⟨M, hm, hWk, fun w e => by cases e⟩, rfl, hs⟩
    | some w =>
      have hdi : dig (ds.take i) := fun x hx => hd x (List.mem_of_mem_take hx)
      have hokw := wks_ok hR.2 _ _ _ (okW_0 hR.2) hdi ho.symm
      have hg := val_dig k ds hds hd i (by omega)
      have hci : ds.getD i 0 = 1 ∨ ds.getD i 0 = 2 := gD_mem.mpr hd i (by omega)
      rw [if_neg (by simp; decide), show ((r + 1 : Nat) : Int) - 1 = ((r : Nat) : Int) by omega, v_I (fun P => c_tens (d := d + 6) (P := P) (show r ≤ 6 by omega))]
      have hpos : 0 < 10 ^ r := Nat.pow_pos (by decide)
      have h10r : 10 ^ r ≤ 10 ^ 6 := Nat.pow_le_pow_right (by decide) (by omega)
      simp (disch := first | assumption | omega | decide) only [iv_eq0]
      refine ⟨by omega, ?_⟩
      have hrk : k - 1 - i = r := by omega
      rw [hrk] at hg
      have e1 : iv ((val ds 0 : Nat) : Int) / iv ((10 ^ r : Nat) : Int) = iv ((val ds 0 / 10 ^ r : Nat) : Int) := by
        rw [iv_tdiv (by omega) (by omega)]
        rfl
      have hle : val ds 0 / 10 ^ r ≤ val ds 0 := Nat.div_le_self _ _
      have e2 : iv ((val ds 0 / 10 ^ r : Nat) : Int) - iv ((val ds 0 / 10 ^ r : Nat) : Int) / iv 10 * iv 10 = iv ((ds.getD i 0 : Nat) : Int) := by
        rw [← hg]
        generalize val ds 0 / 10 ^ r = qv at *
        rw [iv_tmod (by omega) (by omega)]
        rfl
      rw [e1, e2, Mo_rc hm]
      refine ⟨trivial, u_I (c_goDown (d := d) (S := S) (bb := bb) hokw hci hm (hw w rfl) hR) ?_⟩
      intro v G2 hgd
      have htk : ds.take (i + 1) = ds.take i ++ [ds.getD i 0] := by
        rw [List.take_succ_eq_append_getElem (show i < ds.length by omega)]
        simp [List.getD, show i < ds.length by omega]
      have hnx : wks S (some (w0 S)) (ds.take (i + 1)) = wd S w (ds.getD i 0) := by
        rw [htk, wks_app, ← ho]
      have e3 : iv ((r : Nat) : Int) + iv (-1) = iv ((r : Int) - 1) := by
        rw [iv_add]
        rfl
      cases hv : wd S w (ds.getD i 0) with
      | none =>
        rw [hv] at hgd
        obtain ⟨rfl, rfl⟩ := hgd
        refine ⟨_, rfl, ?_⟩
        rw [e3]
        exact ih (i + 1) G2 M none (by omega) (by rw [hnx, hv]) hm (fun w e => by cases e) hR hWk hs hP
      | some w' =>
        rw [hv] at hgd
        obtain ⟨rfl, N, f1, f2, f3, f4⟩ := hgd
        refine ⟨_, rfl, ?_⟩
        rw [e3]
        exact ih (i + 1) G2 N (some w') (by omega) (by rw [hnx, hv]) f1 (fun w e => by cases e; exact f2) (okR_wk hR f3) (Wk_tr hWk f3) (sam_tr hs f4) hP
theorem c_walk {S : Sc} {bb : Bool} {ds : List Nat} {M : Md} {k : Nat} (hds : ds.length = k) (hk : k ≤ 6) (hd : dig ds) (hm : Mo E G m M) (hR : okR M bb S) : runs E (d + 8) i_X7_walk [.ref m, .ref (rA m bb), .int (iv ((val ds 0 : Nat) : Int)), .int (iv (k : Int))] G (fun v G1 => wkP E G G1 m M v (wks S (some (w0 S)) ds)) := by
  refine e_X7_walk ?_
  rw [Mo_rc hm]
  refine ⟨trivial, u_V (c_beginWalk (d := d) (S := S) (bb := bb) hm hR) ?_⟩
  rintro v G1 ⟨rfl, N, a1, a2, a3, a4⟩
  refine ⟨rfl, ?_⟩
  rw [iv_sub]
  exact c_wkL (G := G) (M0 := M) hds hk hd k 0 G1 N (some (w0 S)) (by omega) rfl a1 (fun w e => by cases e; exact a2) (okR_wk hR a3) a3 a4 (fun v G2 h => h)
end MW
