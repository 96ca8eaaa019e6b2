-- uses 41 42 43 44 45 46 47 48 49 50 51 52 53 54 55 56 57 58
/-! the reference's terms -/
def BuM (M : Md) (zs : List Nat) : Prop := M.bs = zs.length ∧ ∀ i, i < zs.length → i < 200 → M.bu i = iv (chr (zs.getD i 0) : Nat)
def TeM (M : Md) (xs : List Nat) : Prop := M.ts = xs.length ∧ xs.length ≤ 200 ∧ (∀ i, i < xs.length → M.te i = iv (chr (xs.getD i 0) : Nat)) ∧ ∀ i, i < xs.length → xs.getD i 0 < 10
def rA (m : Nat) (b : Bool) : Nat := if b = true then m + 3 else m + 2
def rF (M : Md) (b : Bool) : Nat → Int32 := if b = true then M.tr else M.nw
theorem slc_s {xs : List Nat} {a b : Nat} (h1 : a < b) (h2 : a < xs.length) : slc xs a b = xs.getD a 0 :: slc xs (a + 1) b := by
  unfold slc
  rw [dropC h2]
  obtain ⟨c, hc⟩ : ∃ c, b - a = c + 1 := ⟨b - a - 1, by omega⟩
  rw [hc, List.take_succ_cons, show b - (a + 1) = c by omega]
theorem slc_z {xs : List Nat} {a b : Nat} (h1 : b ≤ a) : slc xs a b = [] := by
  unfold slc
  rw [show b - a = 0 by omega]
  rfl
section MT
variable {E : Ev} {d : Nat} {G : Hp} {P : Po} {m : Nat} {M : Md}
theorem Ma_row {b : Bool} (h : Mo E G m M) : gt E G (rA m b) = some (cA 0 160 (rF M b)) := by
  unfold rA rF
  cases b
  · exact Ma_nw h
  · exact Ma_tr h
theorem c_put {y : Nat} {zs : List Nat} (hm : Mo E G m M) (hz : BuM M zs) (hl : zs.length ≤ 1000000) : runs E (d + 1) i_X7_put [.ref m, .int (iv (chr y : Nat))] G (fun v G1 => v = none ∧ (∃ bu' : Nat → Int32, ∃ bs' : Int, Mo E G1 m (Md.mk M.len M.acts M.nxt M.ts bs' M.lab M.xp M.sta M.tx M.nw M.tr M.rd M.di M.ke M.ik M.te bu' M.va M.ju M.ma) ∧ BuM (Md.mk M.len M.acts M.nxt M.ts bs' M.lab M.xp M.sta M.tx M.nw M.tr M.rd M.di M.ke M.ik M.te bu' M.va M.ju M.ma) (zs ++ [y])) ∧ sam E G G1 (ivl m 13)) := by
  refine e_X7_put ?_
  have hb := hz.1
  rw [Mo_bs hm]
  have hr : Rg M.bs := by constructor <;> omega
  simp (disch := first | assumption | omega | decide) only [iv_le]
  have app : ∀ f : Nat → Int32, (∀ i, i < zs.length → i < 200 → f i = iv (chr (zs.getD i 0) : Nat)) → (zs.length < 200 → f zs.length = iv (chr y : Nat)) → ∀ i, i < (zs ++ [y]).length → i < 200 → f i = iv (chr ((zs ++ [y]).getD i 0) : Nat) := by
    intro f h1 h2 i hi hi2
    simp at hi
    by_cases c : i = zs.length
    · subst c
      rw [gD_r (Nat.le_refl _)]
      simp
      exact h2 hi2
    · rw [gD_l (by omega)]
      exact h1 i (by omega) hi2
  have e1 : iv M.bs + iv 1 = iv (M.bs + 1) := iv_add _ _
  by_cases c : (200 : Int) ≤ M.bs
  · rw [if_pos c, Mo_bs hm, e1]
    refine Mp_bs hm ?_
    intro G1 a1 a2
    refine ⟨by trivial, ⟨M.bu, M.bs + 1, a1, ?_, ?_⟩, a2⟩
    · show M.bs + 1 = ((zs ++ [y]).length : Int)
      rw [List.length_append]
      simp
      omega
    · exact app M.bu hz.2 (fun z => by omega)
  · rw [if_neg c, Mo_bu hm, Mo_bs hm]
    refine MS_bu zs.length hb hm (by omega) ?_
    intro G1 a1 a2
    rw [Mo_bs a1]
    show qP E G1 m 7 13 (.int (iv M.bs + iv 1)) _
    rw [e1]
    refine Mp_bs a1 ?_
    intro G2 b1 b2
    refine ⟨by trivial, ⟨_, M.bs + 1, b1, ?_, ?_⟩, sam_tr a2 b2⟩
    · show M.bs + 1 = ((zs ++ [y]).length : Int)
      rw [List.length_append]
      simp
      omega
    · refine app (upd M.bu zs.length (iv ((chr y : Nat) : Int))) (fun i h1 h2 => ?_) (fun z => ?_)
      · unfold upd
        rw [if_neg (by omega)]
        exact hz.2 i h1 h2
      · unfold upd
        rw [if_pos rfl]
theorem c_ppL {xs : List Nat} {b : Nat} {z2 : Int32} (hb : b ≤ xs.length) : ∀ (k i : Nat) (zs : List Nat) (G1 : Hp) (M : Md), b - i ≤ k → Mo E G1 m M → BuM M zs → TeM M xs → zs.length + k ≤ 1000000 → i ≤ 300 → sam E G G1 (ivl m 13) → (∀ G2 (bu' : Nat → Int32) (bs' : Int), Mo E G2 m (Md.mk M.len M.acts M.nxt M.ts bs' M.lab M.xp M.sta M.tx M.nw M.tr M.rd M.di M.ke M.ik M.te bu' M.va M.ju M.ma) → BuM (Md.mk M.len M.acts M.nxt M.ts bs' M.lab M.xp M.sta M.tx M.nw M.tr M.rd M.di M.ke M.ik M.te bu' M.va M.ju M.ma) (zs ++ slc xs i b) → sam E G G2 (ivl m 13) → P none G2) → Xr E (d + 1) x_X7_putPart 3 [some (.ref m), some (.ref (m + 8)), some (.int z2), some (.int (iv (b : Int))), some (.int (iv (i : Int)))] [] G1 P := by
  intro k
  induction k with
  | zero =>
    intro i zs G1 M hk hm hz hx hl hi hs hP
    have := hx.2.1
    refine g_X7_putPart_3 ?_
    simp (disch := first | assumption | omega | decide) only [iv_le]
    rw [if_pos (by omega)]
    rw [slc_z (by omega), List.append_nil] at hP
    exact hP G1 M.bu M.bs hm hz hs
  | succ k ih =>
    intro i zs G1 M hk hm hz hx hl hi hs hP
    have hx2 := hx.2.1
    refine g_X7_putPart_3 ?_
    simp (disch := first | assumption | omega | decide) only [iv_le]
    by_cases c : (b : Int) ≤ i
    · rw [if_pos c]
      rw [slc_z (by omega), List.append_nil] at hP
      exact hP G1 M.bu M.bs hm hz hs
    · rw [if_neg c, Mg_te hm (by omega), hx.2.2.1 i (by omega), Mo_rc hm]
      refine ⟨trivial, u_V (c_put (d := d) hm hz (by omega)) ?_⟩
      rintro v G2 ⟨rfl, ⟨bu', bs', a1, a2⟩, a3⟩
      refine ⟨rfl, ?_⟩
      rw [i_s]
      rw [slc_s (by omega) (show i < xs.length by omega)] at hP
      refine ih (i + 1) _ G2 _ (by omega) a1 a2 hx (by simp; omega) (by omega) (sam_tr hs a3) ?_
      intro G3 bu2 bs2 b1 b2 b3
      rw [List.append_assoc] at b2
      exact hP G3 bu2 bs2 b1 b2 b3
theorem c_putPart {xs zs : List Nat} {a b : Nat} (hb : b ≤ xs.length) (ha : a ≤ 300) (hm : Mo E G m M) (hz : BuM M zs) (hx : TeM M xs) (hl : zs.length ≤ 100000) : runs E (d + 2) i_X7_putPart [.ref m, .ref (m + 8), .int (iv (a : Int)), .int (iv (b : Int))] G (fun v G1 => v = none ∧ (∃ bu' : Nat → Int32, ∃ bs' : Int, Mo E G1 m (Md.mk M.len M.acts M.nxt M.ts bs' M.lab M.xp M.sta M.tx M.nw M.tr M.rd M.di M.ke M.ik M.te bu' M.va M.ju M.ma) ∧ BuM (Md.mk M.len M.acts M.nxt M.ts bs' M.lab M.xp M.sta M.tx M.nw M.tr M.rd M.di M.ke M.ik M.te bu' M.va M.ju M.ma) (zs ++ slc xs a b)) ∧ sam E G G1 (ivl m 13)) := by
  refine e_X7_putPart ?_
  have := hx.2.1
  exact c_ppL (G := G) hb (b - a) a zs G M (Nat.le_refl _) hm hz hx (by omega) ha sam_rf (fun G2 bu' bs' b1 b2 b3 => ⟨rfl, ⟨bu', bs', b1, b2⟩, b3⟩)
theorem c_peL {xs bd : List Nat} {bb : Bool} {n f1 s2 bh : Nat} {z3 : Int32} (hn : n < 4) (hf : s2 ≤ xs.length ∧ bh ≤ xs.length ∧ f1 ≤ 300 ∧ s2 ≤ 300) (hbd : bd.length ≤ 30) (hb10 : ∀ i, i < bd.length → bd.getD i 0 < 10) : ∀ (k i : Nat) (zs : List Nat) (G1 : Hp) (M : Md) (l9 : Option Value), bd.length - i ≤ k → i ≤ bd.length → Mo E G1 m M → BuM M zs → TeM M xs → (rF M bb (31 * n) = iv (bd.length : Nat) ∧ ∀ i, i < bd.length → rF M bb (31 * n + 1 + i) = iv (chr (bd.getD i 0) : Nat)) → zs.length + 201 * k ≤ 100000 → sam E G G1 (ivl m 13) → (∀ G2 (bu' : Nat → Int32) (bs' : Int), Mo E G2 m (Md.mk M.len M.acts M.nxt M.ts bs' M.lab M.xp M.sta M.tx M.nw M.tr M.rd M.di M.ke M.ik M.te bu' M.va M.ju M.ma) → BuM (Md.mk M.len M.acts M.nxt M.ts bs' M.lab M.xp M.sta M.tx M.nw M.tr M.rd M.di M.ke M.ik M.te bu' M.va M.ju M.ma) (zs ++ sbl (slc xs f1 s2) (slc xs s2 bh) (bd.drop i)) → sam E G G2 (ivl m 13) → P (some (.int (iv (bh : Int)))) G2) → Xr E (d + 2) x_X7_putExpanded 59 [some (.ref m), some (.ref (rA m bb)), some (.ref (m + 8)), some (.int z3), some (.int (iv (n : Int))), some (.int (iv (f1 : Int))), some (.int (iv (s2 : Int))), some (.int (iv (bh : Int))), some (.int (iv (i : Int))), l9] [] G1 P := by
  intro k
  have stop : ∀ (i : Nat) (zs : List Nat) (G1 : Hp) (M : Md), bd.length ≤ i → Mo E G1 m M → BuM M zs → sam E G G1 (ivl m 13) → (∀ G2 (bu' : Nat → Int32) (bs' : Int), Mo E G2 m (Md.mk M.len M.acts M.nxt M.ts bs' M.lab M.xp M.sta M.tx M.nw M.tr M.rd M.di M.ke M.ik M.te bu' M.va M.ju M.ma) → BuM (Md.mk M.len M.acts M.nxt M.ts bs' M.lab M.xp M.sta M.tx M.nw M.tr M.rd M.di M.ke M.ik M.te bu' M.va M.ju M.ma) (zs ++ sbl (slc xs f1 s2) (slc xs s2 bh) (bd.drop i)) → sam E G G2 (ivl m 13) → P (some (.int (iv (bh : Int)))) G2) → P (some (.int (iv (bh : Int)))) G1 := by
    intro i zs G1 M hi hm hz hs hP
    rw [List.drop_eq_nil_of_le hi] at hP
    refine hP G1 M.bu M.bs hm ?_ hs
    show BuM M (zs ++ [])
    rw [List.append_nil]
    exact hz
  have e31 : iv 31 * iv (n : Int) = iv ((31 * n : Nat) : Int) := nmul (a := 31)
  induction k with
  | zero =>
    intro i zs G1 M l9 hk hi hm hz hx hr hl hs hP
    refine g_X7_putExpanded_59 ?_
    rw [e31, u_IAn (Ma_row hm) (by omega), hr.1]
    simp (disch := first | assumption | omega | decide) only [iv_le]
    rw [if_pos (by omega)]
    exact stop i zs G1 M (by omega) hm hz hs hP
  | succ k ih =>
    intro i zs G1 M l9 hk hi hm hz hx hr hl hs hP
    refine g_X7_putExpanded_59 ?_
    rw [e31, u_IAn (Ma_row hm) (by omega), hr.1]
    simp (disch := first | assumption | omega | decide) only [iv_le]
    by_cases c : (bd.length : Int) ≤ i
    · rw [if_pos c]
      exact stop i zs G1 M (by omega) hm hz hs hP
    · have hil : i < bd.length := by omega
      have hy := hb10 i hil
      rw [if_neg c, i_s, show iv ((31 * n + 1 : Nat) : Int) + iv (i : Int) = iv ((31 * n + 1 + i : Nat) : Int) by rw [iv_add]; rfl, u_IAn (Ma_row hm) (by omega), hr.2 i hil]
      have c89 : ∀ y : Fin 10, (iv (chr y.val : Nat) = iv 120 ↔ y.val = 8) ∧ (iv (chr y.val : Nat) = iv 121 ↔ y.val = 9) := by decide +kernel
      have cc := c89 ⟨bd.getD i 0, hy⟩
      dsimp only [Sc_b, Sc_u, Sc_v, Md_len, Md_acts, Md_nxt, Md_ts, Md_bs, Md_lab, Md_xp, Md_sta, Md_tx, Md_nw, Md_tr, Md_rd, Md_di, Md_ke, Md_ik, Md_te, Md_bu, Md_va, Md_ju, Md_ma] at cc
      simp only [cc.1, cc.2, i_s]
      rw [dropC hil] at hP
      have sl1 : ∀ a b, b ≤ xs.length → (slc xs a b).length ≤ 200 := by
        intro a b hb
        unfold slc
        have := hx.2.1
        rw [List.length_take, List.length_drop]
        omega
      have nxt : ∀ (piece : List Nat) (G2 : Hp) (bu' : Nat → Int32) (bs' : Int) (l : Option Value), sbl (slc xs f1 s2) (slc xs s2 bh) (bd.getD i 0 :: bd.drop (i + 1)) = piece ++ sbl (slc xs f1 s2) (slc xs s2 bh) (bd.drop (i + 1)) → piece.length ≤ 200 → Mo E G2 m (Md.mk M.len M.acts M.nxt M.ts bs' M.lab M.xp M.sta M.tx M.nw M.tr M.rd M.di M.ke M.ik M.te bu' M.va M.ju M.ma) → BuM (Md.mk M.len M.acts M.nxt M.ts bs' M.lab M.xp M.sta M.tx M.nw M.tr M.rd M.di M.ke M.ik M.te bu' M.va M.ju M.ma) (zs ++ piece) → sam E G1 G2 (ivl m 13) → Xr E (d + 2) x_X7_putExpanded 59 [some (.ref m), some (.ref (rA m bb)), some (.ref (m + 8)), some (.int z3), some (.int (iv (n : Int))), some (.int (iv (f1 : Int))), some (.int (iv (s2 : Int))), some (.int (iv (bh : Int))), some (.int (iv ((i + 1 : Nat) : Int))), l] [] G2 P := by
        intro piece G2 bu' bs' l e1 e2 e3 e4 e5
        rw [e1] at hP
        refine ih (i + 1) (zs ++ piece) G2 _ l (by omega) (by omega) e3 e4 hx hr (by rw [List.length_append]; omega) (sam_tr hs e5) ?_
        intro G3 bu2 bs2 b1 b2 b3
        rw [List.append_assoc] at b2
        exact hP G3 bu2 bs2 b1 b2 b3
      by_cases c8 : bd.getD i 0 = 8
      · rw [if_neg (fun z => z c8), Mo_rc hm]
        refine ⟨trivial, u_V (c_putPart (d := d) hf.1 hf.2.2.1 hm hz hx (by omega)) ?_⟩
        rintro v G2 ⟨rfl, ⟨bu', bs', a1, a2⟩, a3⟩
        refine ⟨rfl, nxt _ G2 bu' bs' _ ?_ (sl1 _ _ hf.1) a1 a2 a3⟩
        simp only [sbl, if_pos c8]
      · rw [if_pos c8]
        by_cases c9 : bd.getD i 0 = 9
        · rw [if_neg (fun z => z c9), Mo_rc hm]
          refine ⟨trivial, u_V (c_putPart (d := d) hf.2.1 hf.2.2.2 hm hz hx (by omega)) ?_⟩
          rintro v G2 ⟨rfl, ⟨bu', bs', a1, a2⟩, a3⟩
          refine ⟨rfl, nxt _ G2 bu' bs' _ ?_ (sl1 _ _ hf.2.1) a1 a2 a3⟩
          simp only [sbl, if_neg c8, if_pos c9]
        · rw [if_pos c9, Mo_rc hm]
          refine ⟨trivial, u_V (c_put (d := d + 1) hm hz (by omega)) ?_⟩
          rintro v G2 ⟨rfl, ⟨bu', bs', a1, a2⟩, a3⟩
          refine ⟨rfl, nxt _ G2 bu' bs' _ ?_ (by simp) a1 a2 a3⟩
          simp only [sbl, if_neg c8, if_neg c9]
theorem c_putExpanded {xs bd zs : List Nat} {bb : Bool} {n i : Nat} (hn : n < 4) (hw : wfo 1 xs) (hi : i < xs.length) (hy : xs.getD i 0 = 4 + n) (hb : okB n bd) (hm : Mo E G m M) (hz : BuM M zs) (hx : TeM M xs) (hr : rF M bb (31 * n) = iv (bd.length : Nat) ∧ ∀ i, i < bd.length → rF M bb (31 * n + 1 + i) = iv (chr (bd.getD i 0) : Nat)) (hl : zs.length ≤ 1000) : runs E (d + 5) i_X7_putExpanded [.ref m, .ref (rA m bb), .ref (m + 8), .int (iv (i : Int))] G (fun v G1 => v = some (.int (iv (e2o xs i : Nat))) ∧ (∃ bu' : Nat → Int32, ∃ bs' : Int, Mo E G1 m (Md.mk M.len M.acts M.nxt M.ts bs' M.lab M.xp M.sta M.tx M.nw M.tr M.rd M.di M.ke M.ik M.te bu' M.va M.ju M.ma) ∧ BuM (Md.mk M.len M.acts M.nxt M.ts bs' M.lab M.xp M.sta M.tx M.nw M.tr M.rd M.di M.ke M.ik M.te bu' M.va M.ju M.ma) (zs ++ sbl (slc xs (i + 1) (e1o xs i)) (slc xs (e1o xs i) (e2o xs i)) bd)) ∧ sam E G G1 (ivl m 13)) := by
  refine e_X7_putExpanded ?_
  have hx2 := hx.2.1
  obtain ⟨a1, a2, R, o', e, h1, h2, h3, h4, c0, c1, c2, c3⟩ := xp_ends hw hi
  have hm9 := okB_m hb
  have hbl := hb.1
  have hb10 : ∀ i, i < bd.length → bd.getD i 0 < 10 := fun i hi => (hb.2.2 i hi).1
  have hlen : i + 1 + (a1.length + (a2.length + R.length)) = xs.length := by
    have := congrArg List.length e
    rw [List.length_drop, List.length_append, List.length_append] at this
    omega
  have hs := syc ⟨4 + n, by omega⟩
  dsimp only [Sc_b, Sc_u, Sc_v, Md_len, Md_acts, Md_nxt, Md_ts, Md_bs, Md_lab, Md_xp, Md_sta, Md_tx, Md_nw, Md_tr, Md_rd, Md_di, Md_ke, Md_ik, Md_te, Md_bu, Md_va, Md_ju, Md_ma] at hs
  rw [hy] at c0 c1 c2 c3
  have ha := ar_le (4 + n)
  rw [Mg_te hm (by omega), hx.2.2.1 i hi, hy, v_I (fun P => c_ntS (d := d + 2) (P := P) hs.2), hs.1, if_pos (by omega), show 4 + n - 4 = n by omega, v_I (fun P => c_params (d := d + 3) (P := P) hn), v_I (fun P => c_params (d := d + 3) (P := P) hn), i_s]
  have nosub : (8 ∈ bd → 1 ≤ ar (4 + n)) ∧ (9 ∈ bd → 2 ≤ ar (4 + n)) := ⟨fun z => (hm9 8 z).2.1 rfl, fun z => (hm9 9 z).2.2 rfl⟩
  have sblc : ∀ (u1 u2 w1 w2 : List Nat) (ys : List Nat), (8 ∈ ys → u1 = w1) → (9 ∈ ys → u2 = w2) → sbl u1 u2 ys = sbl w1 w2 ys := by
    intro u1 u2 w1 w2 ys
    induction ys with
    | nil => intro _ _; rfl
    | cons y ys ih =>
      intro k1 k2
      unfold sbl
      rw [ih (fun z => k1 (List.mem_cons_of_mem _ z)) (fun z => k2 (List.mem_cons_of_mem _ z))]
      by_cases c8 : y = 8
      · rw [if_pos c8, if_pos c8, k1 (by rw [c8]; exact List.mem_cons_self)]
      · rw [if_neg c8, if_neg c8]
        by_cases c9 : y = 9
        · rw [if_pos c9, if_pos c9, k2 (by rw [c9]; exact List.mem_cons_self)]
        · rw [if_neg c9, if_neg c9]
  simp (disch := first | assumption | omega | decide) only [iv_le0, iv_le]
  rcases (by omega : ar (4 + n) = 0 ∨ ar (4 + n) = 1 ∨ ar (4 + n) = 2) with c | c | c
  · rw [if_pos (by omega), if_pos (by omega)]
    obtain ⟨z1, z2⟩ := c0 c
    have e2 : e2o xs i = i + 1 := by rw [h3, z1, z2]; rfl
    rw [e2]
    refine c_peL (G := G) (d := d + 2) (f1 := i + 1) (s2 := i + 1) (bh := i + 1) hn (by omega) hbl hb10 bd.length 0 zs G M none (by omega) (by omega) hm hz hx hr (by omega) sam_rf ?_
    intro G2 bu' bs' b1 b2 b3
    rw [List.drop_zero] at b2
    refine ⟨rfl, ⟨bu', bs', b1, ?_⟩, b3⟩
    rw [sblc _ _ (slc xs (i + 1) (i + 1)) (slc xs (i + 1) (i + 1)) bd (fun z => by have := nosub.1 z; omega) (fun z => by have := nosub.2 z; omega)]
    exact b2
  · obtain ⟨q1, q2, q3⟩ := c3 (by omega)
    have cw : cpl 1 (xs.drop (i + 1)) := by rw [e]; exact (eol_app a1 _ 1 (c1 c).1).2
    have z2 := (c1 c).2
    have e2 : e2o xs i = e1o xs i := by rw [h3, q1, z2]; rfl
    rw [if_neg (by omega), v_I (fun P => c_mEndOf (d := d) (P := P) (Ma_te hm) (by omega) hx.2.2.1 hx.2.2.2 (by omega) cw)]
    rw [v_I (fun P => c_params (d := d + 3) (P := P) hn)]
    simp (disch := first | assumption | omega | decide) only [iv_le0, iv_le]
    rw [if_pos (by omega), e2]
    show Xr _ _ _ _ [_, _, _, _, _, _, some (.int (iv ((e1o xs i : Nat) : Int))), some (.int (iv ((e1o xs i : Nat) : Int))), _, _] _ _ _
    refine c_peL (G := G) (d := d + 2) (f1 := i + 1) (s2 := e1o xs i) (bh := e1o xs i) hn (by rw [q1]; omega) hbl hb10 bd.length 0 zs G M none (by omega) (by omega) hm hz hx hr (by omega) sam_rf ?_
    intro G2 bu' bs' b1 b2 b3
    rw [List.drop_zero] at b2
    exact ⟨rfl, ⟨bu', bs', b1, b2⟩, b3⟩
  · obtain ⟨q1, q2, q3⟩ := c3 (by omega)
    have cw : cpl 1 (xs.drop (i + 1)) := by rw [e]; exact (eol_app a1 _ 1 (c2 c).1).2
    have e1 : i + 1 + eol 1 (xs.drop (i + 1)) = e1o xs i := rfl
    have dr : xs.drop (e1o xs i) = a2 ++ R := by
      rw [q1, ← List.drop_drop, e, List.drop_left]
    have cw2 : cpl 1 (xs.drop (e1o xs i)) := by rw [dr]; exact (eol_app a2 _ 1 (c2 c).2).2
    have e3 : e1o xs i + eol 1 (xs.drop (e1o xs i)) = e2o xs i := by
      rw [dr, (eol_app a2 _ 1 (c2 c).2).1, h3, q1]
    rw [if_neg (by omega), v_I (fun P => c_mEndOf (d := d) (P := P) (Ma_te hm) (by omega) hx.2.2.1 hx.2.2.2 (by omega) cw), e1, v_I (fun P => c_params (d := d + 3) (P := P) hn)]
    simp (disch := first | assumption | omega | decide) only [iv_le0, iv_le]
    rw [if_neg (by omega), v_I (fun P => c_mEndOf (d := d) (P := P) (Ma_te hm) (by omega) hx.2.2.1 hx.2.2.2 (by rw [q1]; omega) cw2), e3]
    refine c_peL (G := G) (d := d + 2) (f1 := i + 1) (s2 := e1o xs i) (bh := e2o xs i) hn (by rw [h3, q1]; omega) hbl hb10 bd.length 0 zs G M none (by omega) (by omega) hm hz hx hr (by omega) sam_rf ?_
    intro G2 bu' bs' b1 b2 b3
    rw [List.drop_zero] at b2
    exact ⟨rfl, ⟨bu', bs', b1, b2⟩, b3⟩
end MT
