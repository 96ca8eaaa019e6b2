-- uses 41 42 43 44 45 46 47 48 49 50 51 52 53 54 55 56 57 58 59 60 64 65 66 67 68 69 74 75 78 79 80
/-! the reference's diary, and the calls that write into it -/
def Wn (M N : Md) : Prop := (Md.mk N.len M.acts M.nxt N.ts N.bs N.lab N.xp N.sta N.tx N.nw N.tr N.rd M.di N.ke N.ik N.te N.bu N.va N.ju N.ma) = M
section MN
variable {E : Ev} {d : Nat} {G : Hp} {P : Po} {m : Nat} {A : As}
theorem Mo_acts_e {M : Md} {z : Int} {F : Int32 → Prop} (h : Mo E G m M) (e : M.acts = z) : qFI E G m 7 6 F = F (iv z) := by rw [Mo_acts h, e]
theorem c_noteL {M : Md} {nx : Nat} (hx : M.nxt = nx) (hx2 : nx < 14) : ∀ (r k : Nat) (G1 : Hp) (f : Nat → Int32), k + r = 160 → Mo E G1 m (Md.mk M.len M.acts M.nxt M.ts M.bs M.lab M.xp M.sta M.tx M.nw M.tr M.rd f M.ke M.ik M.te M.bu M.va M.ju M.ma) → (∀ j, j < k → f (160 * nx + j) = M.nw j) → (∀ j, j < 160 * nx ∨ 160 * nx + k ≤ j → f j = M.di j) → sam E G G1 (ivl m 13) → (∀ G2 f', Mo E G2 m (Md.mk M.len M.acts M.nxt M.ts M.bs M.lab M.xp M.sta M.tx M.nw M.tr M.rd f' M.ke M.ik M.te M.bu M.va M.ju M.ma) → (∀ j, j < 160 → f' (160 * nx + j) = M.nw j) → (∀ j, j < 160 * nx ∨ 160 * nx + 160 ≤ j → f' j = M.di j) → sam E G G2 (ivl m 13) → (qFI E G2 m 7 7 fun v1 => (qP E G2 m 7 7 (.int (((v1 + (iv 1)) - (v1 + (iv 1)) / (iv 14) * (iv 14)))) fun G2 => (qFI E G2 m 7 6 fun v3 => (if (iv 14) ≤ v3 then (qP E G2 m 7 6 (.int ((iv 14))) fun G4 => P none G4) else (qFI E G2 m 7 6 fun v5 => (qP E G2 m 7 6 (.int ((v5 + (iv 1)))) fun G6 => P none G6))))))) → Xr E d x_X7_note 2 [some (.ref m), some (.int (iv (k : Int)))] [] G1 P := by
  intro r
  induction r with
  | zero =>
    intro k G1 f hk hm h1 h2 hs hP
    have : k = 160 := by omega
    subst this
    refine g_X7_note_2 ?_
    rw [if_pos (by decide)]
    exact hP G1 f hm h1 h2 hs
  | succ r ih =>
    intro k G1 f hk hm h1 h2 hs hP
    refine g_X7_note_2 ?_
    rw [if_neg (by rw [iv_le (by decide) (by constructor <;> omega)]; omega), Mo_di hm, Mo_nxt hm]
    dsimp only [Sc_b, Sc_u, Sc_v, Md_len, Md_acts, Md_nxt, Md_ts, Md_bs, Md_lab, Md_xp, Md_sta, Md_tx, Md_nw, Md_tr, Md_rd, Md_di, Md_ke, Md_ik, Md_te, Md_bu, Md_va, Md_ju, Md_ma, As_tx, As_S, As_R, As_nx, As_ct, As_K, As_F]
    rw [hx, Mo_nw hm, Mg_nw hm (by omega), show iv 160 * iv (nx : Int) = iv ((160 * nx : Nat) : Int) from nmul (a := 160), show iv ((160 * nx : Nat) : Int) + iv (k : Int) = iv ((160 * nx + k : Nat) : Int) by rw [iv_add]; rfl]
    refine Ms_di hm (by omega) ?_
    intro G2 a1 a2
    rw [i_s]
    refine ih (k + 1) G2 _ (by omega) a1 ?_ ?_ (sam_tr hs a2) hP
    · intro j hj
      show upd f (160 * nx + k) (M.nw k) (160 * nx + j) = _
      unfold upd
      by_cases z : j = k
      · rw [if_pos (by omega), z]
      · rw [if_neg (by omega)]
        exact h1 j (by omega)
    · intro j hj
      show upd f (160 * nx + k) (M.nw k) j = _
      unfold upd
      rw [if_neg (by omega)]
      exact h2 j (by omega)
theorem MI_rem {M : Md} {f : Nat → Int32} (h : MI M A) (h1 : ∀ j, j < 160 → f (160 * A.nx + j) = M.nw j) (h2 : ∀ j, j < 160 * A.nx ∨ 160 * A.nx + 160 ≤ j → f j = M.di j) : MI (Md.mk M.len (((if A.ct < 14 then A.ct + 1 else 14 : Nat) : Int)) (((A.nx + 1) % 14 : Nat)) M.ts M.bs M.lab M.xp M.sta M.tx M.nw M.tr M.rd f M.ke M.ik M.te M.bu M.va M.ju M.ma) (rem A) := by
  obtain ⟨a, b, c, dd, e⟩ := h
  have c3 := c.2.2
  have hc : (if A.ct < 14 then A.ct + 1 else 14) ≤ A.ct + 1 ∧ (if A.ct < 14 then A.ct + 1 else 14) ≤ 14 := by split <;> omega
  refine ⟨a, b, ⟨rfl, rfl, ?_, hc.2⟩, ?_, e⟩
  · show (A.nx + 1) % 14 < 14
    omega
  · intro i hi1 hi2
    have hi2' : i ≤ (if A.ct < 14 then A.ct + 1 else 14) := hi2
    show Rw (fun k => f (160 * (((A.nx + 1) % 14 + 14 - i) % 14) + k)) (upR A.R A.nx A.S (((A.nx + 1) % 14 + 14 - i) % 14)) ∧ okS (upR A.R A.nx A.S (((A.nx + 1) % 14 + 14 - i) % 14))
    unfold upR
    by_cases z : i = 1
    · have e1 : ((A.nx + 1) % 14 + 14 - i) % 14 = A.nx := by omega
      rw [e1, if_pos rfl]
      exact ⟨Rw_cg b.1 b.2 h1, b.2⟩
    · have e1 : ((A.nx + 1) % 14 + 14 - i) % 14 = (A.nx + 14 - (i - 1)) % 14 := by omega
      have e2 : (A.nx + 14 - (i - 1)) % 14 ≠ A.nx := by omega
      rw [e1, if_neg e2]
      have := dd (i - 1) (by omega) (by omega)
      refine ⟨Rw_cg this.1 this.2 (fun j hj => h2 _ ?_), this.2⟩
      generalize (A.nx + 14 - (i - 1)) % 14 = x at e2
      omega
theorem c_note {M : Md} (hm : Mo E G m M) (hI : MI M A) : runs E (d + 1) i_X7_note [.ref m] G (fun v G1 => v = none ∧ ∃ N, Mo E G1 m N ∧ MI N (rem A) ∧ Wn M N ∧ sam E G G1 (ivl m 13)) := by
  refine e_X7_note ?_
  have c3 := hI.2.2.1
  refine c_noteL (G := G) c3.2.1 c3.2.2.1 160 0 G M.di (by omega) hm (fun j hj => absurd hj (Nat.not_lt_zero _)) (fun j _ => rfl) sam_rf ?_
  intro G2 f' a1 a2 a3 a4
  rw [Mo_nxt a1]
  dsimp only [Sc_b, Sc_u, Sc_v, Md_len, Md_acts, Md_nxt, Md_ts, Md_bs, Md_lab, Md_xp, Md_sta, Md_tx, Md_nw, Md_tr, Md_rd, Md_di, Md_ke, Md_ik, Md_te, Md_bu, Md_va, Md_ju, Md_ma, As_tx, As_S, As_R, As_nx, As_ct, As_K, As_F]
  rw [c3.2.1, iv_add, iv_tmod (by omega) (by decide), show ((A.nx : Int) + 1) % 14 = (((A.nx + 1) % 14 : Nat) : Int) by omega]
  refine Mp_nxt a1 ?_
  intro G3 b1 b2
  rw [Mo_acts_e b1 c3.1]
  have fin : ∀ (z : Nat), z = (if A.ct < 14 then A.ct + 1 else 14) → qP E G3 m 7 6 (.int (iv (z : Int))) (fun G4 => (fun v G1 => v = none ∧ ∃ N, Mo E G1 m N ∧ MI N (rem A) ∧ Wn M N ∧ sam E G G1 (ivl m 13)) (none : Option Value) G4) := by
    intro z hz
    refine Mp_acts b1 ?_
    intro G4 d1 d2
    refine ⟨rfl, _, d1, ?_, rfl, sam_tr (sam_tr a4 b2) d2⟩
    rw [hz]
    exact MI_rem (M := M) (f := f') hI a2 a3
  by_cases c : A.ct < 14
  · rw [if_neg (by rw [iv_le (by decide) (by constructor <;> omega)]; omega), Mo_acts_e b1 c3.1, i_s]
    exact fin (A.ct + 1) (by rw [if_pos c])
  · rw [if_pos (by rw [iv_le (by decide) (by constructor <;> omega)]; omega)]
    exact fin 14 (by rw [if_neg c])
theorem c_tidyL {M : Md} {n L : Nat} (hn : n < 4) : ∀ (r k : Nat) (G1 : Hp) (f : Nat → Int32), k + r = 30 → L ≤ k → Mo E G1 m (Md.mk M.len M.acts M.nxt M.ts M.bs M.lab M.xp M.sta M.tx f M.tr M.rd M.di M.ke M.ik M.te M.bu M.va M.ju M.ma) → (∀ j, j < 31 * n + 1 + L ∨ 31 * n + 31 ≤ j → f j = M.nw j) → sam E G G1 (ivl m 13) → (∀ G2 f', Mo E G2 m (Md.mk M.len M.acts M.nxt M.ts M.bs M.lab M.xp M.sta M.tx f' M.tr M.rd M.di M.ke M.ik M.te M.bu M.va M.ju M.ma) → (∀ j, j < 31 * n + 1 + L ∨ 31 * n + 31 ≤ j → f' j = M.nw j) → sam E G G2 (ivl m 13) → P none G2) → Xr E d x_X7_tidy 7 [some (.ref (m + 2)), some (.int (iv (n : Int))), some (.int (iv (k : Int)))] [] G1 P := by
  intro r
  induction r with
  | zero =>
    intro k G1 f hk hL hm h1 hs hP
    refine g_X7_tidy_7 ?_
    rw [if_pos (by rw [iv_le (by decide) (by constructor <;> omega)]; omega)]
    exact hP G1 f hm h1 hs
  | succ r ih =>
    intro k G1 f hk hL hm h1 hs hP
    refine g_X7_tidy_7 ?_
    rw [if_neg (by rw [iv_le (by decide) (by constructor <;> omega)]; omega), show iv 31 * iv (n : Int) = iv ((31 * n : Nat) : Int) from nmul (a := 31), show iv ((31 * n : Nat) : Int) + iv 1 + iv (k : Int) = iv ((31 * n + 1 + k : Nat) : Int) by rw [iv_add, iv_add]; rfl]
    refine Ms_nw hm (by omega) ?_
    intro G2 a1 a2
    rw [i_s]
    refine ih (k + 1) G2 _ (by omega) (by omega) a1 ?_ (sam_tr hs a2) hP
    intro j hj
    show upd f (31 * n + 1 + k) (iv 0) j = _
    unfold upd
    rw [if_neg (by omega)]
    exact h1 j hj
theorem c_tidy {M : Md} {n L : Nat} (hn : n < 4) (hL : L ≤ 30) (hm : Mo E G m M) (h : M.nw (31 * n) = iv (L : Nat)) : runs E (d + 1) i_X7_tidy [.ref (m + 2), .int (iv (n : Int))] G (fun v G1 => v = none ∧ ∃ f, Mo E G1 m (Md.mk M.len M.acts M.nxt M.ts M.bs M.lab M.xp M.sta M.tx f M.tr M.rd M.di M.ke M.ik M.te M.bu M.va M.ju M.ma) ∧ (∀ j, j < 31 * n + 1 + L ∨ 31 * n + 31 ≤ j → f j = M.nw j) ∧ sam E G G1 (ivl m 13)) := by
  refine e_X7_tidy ?_
  rw [show iv 31 * iv (n : Int) = iv ((31 * n : Nat) : Int) from nmul (a := 31), Mg_nw hm (by omega), h]
  exact c_tidyL (G := G) (L := L) hn (30 - L) L G M.nw (by omega) (Nat.le_refl _) hm (fun j _ => rfl) sam_rf (fun G2 f' a b c => ⟨rfl, f', a, b, c⟩)
/-- a new body is in the row -/
theorem MI_b {M : Md} {f : Nat → Int32} {n : Nat} {ys : List Nat} {T : Sc} (h : MI M A) (hT : T = A.S) (hn : n < 4) (hy : okB n ys) (h1 : f (31 * n) = iv (ys.length : Nat)) (h2 : ∀ i, i < ys.length → f (31 * n + 1 + i) = iv (chr (ys.getD i 0) : Nat)) (h3 : ∀ j, j < 31 * n ∨ 31 * n + 31 ≤ j → f j = M.nw j) : MI (Md.mk M.len M.acts M.nxt M.ts M.bs M.lab M.xp M.sta M.tx f M.tr M.rd M.di M.ke M.ik M.te M.bu M.va M.ju M.ma) (As.mk A.tx ((Sc.mk (upB T.b n ys) T.u T.v)) A.R A.nx A.ct A.K A.F) := by
  subst hT
  obtain ⟨a, b, c⟩ := h
  refine ⟨a, ⟨?_, okS_b b.2 hy⟩, c⟩
  exact Rw_b (r := (true, 0, ys)) b.1 b.2 hn ⟨h3, fun _ => ⟨h1, h2⟩⟩ rfl hy.1
theorem c_sbL {M : Md} {n : Nat} (hn : n < 4) : ∀ (r k : Nat) (G1 : Hp) (f : Nat → Int32), k + r = 31 → Mo E G1 m (Md.mk M.len M.acts M.nxt M.ts M.bs M.lab M.xp M.sta M.tx f M.tr M.rd M.di M.ke M.ik M.te M.bu M.va M.ju M.ma) → (∀ j, j < k → f (31 * n + j) = M.rd (31 * n + j)) → (∀ j, j < 31 * n ∨ 31 * n + k ≤ j → f j = M.nw j) → sam E G G1 (ivl m 13) → (∀ G2 f', Mo E G2 m (Md.mk M.len M.acts M.nxt M.ts M.bs M.lab M.xp M.sta M.tx f' M.tr M.rd M.di M.ke M.ik M.te M.bu M.va M.ju M.ma) → (∀ j, j < 31 → f' (31 * n + j) = M.rd (31 * n + j)) → (∀ j, j < 31 * n ∨ 31 * n + 31 ≤ j → f' j = M.nw j) → sam E G G2 (ivl m 13) → (qFR E G2 m 7 2 fun v1 => (qCV E d i_X7_tidy [.ref v1, .int (iv (n : Int))] G2 fun G2 => (qFR E G2 m 7 2 fun v3 => (qIA 7 E G2 v3 ((iv 31) * (iv (n : Int))) fun v4 => P (some (.int v4)) G2))))) → Xr E d x_X7_setBody 31 [some (.ref m), some (.int (iv (n : Int))), some (.int (iv (k : Int)))] [] G1 P := by
  intro r
  induction r with
  | zero =>
    intro k G1 f hk hm h1 h2 hs hP
    have : k = 31 := by omega
    subst this
    refine g_X7_setBody_31 ?_
    rw [if_pos (by decide)]
    exact hP G1 f hm h1 h2 hs
  | succ r ih =>
    intro k G1 f hk hm h1 h2 hs hP
    refine g_X7_setBody_31 ?_
    rw [if_neg (by rw [iv_lt (by decide) (by constructor <;> omega)]; omega), Mo_nw hm, Mo_rd hm, show iv 31 * iv (n : Int) = iv ((31 * n : Nat) : Int) from nmul (a := 31), show iv ((31 * n : Nat) : Int) + iv (k : Int) = iv ((31 * n + k : Nat) : Int) by rw [iv_add]; rfl, Mg_rd hm (by omega)]
    refine Ms_nw hm (by omega) ?_
    intro G2 a1 a2
    rw [i_s]
    refine ih (k + 1) G2 _ (by omega) a1 ?_ ?_ (sam_tr hs a2) hP
    · intro j hj
      show upd f (31 * n + k) (M.rd (31 * n + k)) (31 * n + j) = _
      unfold upd
      by_cases z : j = k
      · rw [if_pos (by omega), z]
      · rw [if_neg (by omega)]
        exact h1 j (by omega)
    · intro j hj
      show upd f (31 * n + k) _ j = _
      unfold upd
      rw [if_neg (by omega)]
      exact h2 j (by omega)
theorem m_setBody {a : Int} (ha : Rg a) (h : MH E G m A) : runs E (d + 6) i_X7_setBody [.ref m, .int (iv a)] G (mP E G m (s_setBody A a)) := by
  obtain ⟨M, hm, hI⟩ := h
  refine e_X7_setBody ?_
  rw [v_I (fun P => c_mIsNt (d := d + 3) (P := P) ha)]
  by_cases c1 : 0 ≤ a ∧ a < 4
  · rw [if_pos (by rw [tf_t c1]; decide), Mo_rc hm]
    obtain ⟨n, rfl⟩ := Int.eq_ofNat_of_zero_le c1.1
    have hn : n < 4 := by omega
    refine ⟨trivial, u_I (c_mReadBody (d := d) (fr := 0) hn (Nat.zero_le _) hm hI.1) ?_⟩
    rintro v G1 ⟨rfl, ⟨rd', a1, a2⟩, a3⟩
    refine ⟨_, rfl, ?_⟩
    have hI1 : MI (Md.mk M.len M.acts M.nxt M.ts M.bs M.lab M.xp M.sta M.tx M.nw M.tr rd' M.di M.ke M.ik M.te M.bu M.va M.ju M.ma) A := MI_c hI rfl rfl rfl rfl rfl rfl rfl rfl
    have hp := rdB_p A.tx n 30 1 0 []
    have hl := hI.1.2.2.1
    rw [MI_tx hI1 a1]
    by_cases c2 : (rdB A.tx n 30 1 0 []).1 = true ∧ (rdB A.tx n 30 1 0 []).2.1 = A.tx.length
    · have e : s_setBody A (n : Int) = ((((rdB A.tx n 30 1 0 []).2.2.length : Nat) : Int), (As.mk (rem A).tx ((Sc.mk (upB A.S.b n (rdB A.tx n 30 1 0 []).2.2) A.S.u A.S.v)) (rem A).R (rem A).nx (rem A).ct (rem A).K (rem A).F)) := by unfold s_setBody; rw [if_pos c1]; exact if_pos c2
      rw [e, if_pos (by rw [if_pos c2.1, c2.2]), Mo_rc a1]
      refine ⟨trivial, u_V (c_note (d := d + 4) a1 hI1) ?_⟩
      rintro v G2 ⟨rfl, N, b1, b2, b3, b4⟩
      refine ⟨rfl, ?_⟩
      have hok := rdB_okB c2.1
      have eN : N.rd = rd' := by have z := congrArg Md.rd b3; exact z
      have hrd := a2.2 c2.1
      refine c_sbL (G := G) (M := N) hn 31 0 G2 N.nw (by omega) b1 (fun j hj => absurd hj (Nat.not_lt_zero _)) (fun j _ => rfl) (sam_tr a3 b4) ?_
      intro G3 f' d1 d2 d3 d4
      rw [Mo_nw d1]
      have hf0 : f' (31 * n) = iv ((rdB A.tx n 30 1 0 []).2.2.length : Nat) := by
        have := d2 0 (by decide)
        rw [Nat.add_zero, eN] at this
        rw [this]; exact hrd.1
      have hf1 : ∀ i, i < (rdB A.tx n 30 1 0 []).2.2.length → f' (31 * n + 1 + i) = iv (chr ((rdB A.tx n 30 1 0 []).2.2.getD i 0) : Nat) := by
        intro i hi
        have h30 := hok.1
        have := d2 (1 + i) (by omega)
        rw [← Nat.add_assoc, eN] at this
        rw [this]; exact hrd.2 i hi
      refine u_V (c_tidy (d := d + 4) (L := (rdB A.tx n 30 1 0 []).2.2.length) hn hok.1 d1 hf0) ?_
      rintro v G4 ⟨rfl, g, e1, e2, e3⟩
      refine ⟨rfl, ?_⟩
      rw [Mo_nw e1, show iv 31 * iv (n : Int) = iv ((31 * n : Nat) : Int) from nmul (a := 31), Mg_nw e1 (by omega)]
      have hg0 : g (31 * n) = iv ((rdB A.tx n 30 1 0 []).2.2.length : Nat) := by rw [e2 _ (by omega)]; exact hf0
      dsimp only [Sc_b, Sc_u, Sc_v, Md_len, Md_acts, Md_nxt, Md_ts, Md_bs, Md_lab, Md_xp, Md_sta, Md_tx, Md_nw, Md_tr, Md_rd, Md_di, Md_ke, Md_ik, Md_te, Md_bu, Md_va, Md_ju, Md_ma, As_tx, As_S, As_R, As_nx, As_ct, As_K, As_F]
      rw [hg0]
      refine ⟨rfl, ⟨_, e1, ?_⟩, sam_tr d4 e3⟩
      have h30 := hok.1
      exact MI_b (A := rem A) (T := A.S) (M := N) (f := g) b2 rfl hn hok hg0 (fun i hi => by rw [e2 _ (by omega)]; exact hf1 i hi) (fun j hj => by rw [e2 _ (by omega)]; exact d3 j hj)
    · have e : s_setBody A (n : Int) = (-3, A) := by unfold s_setBody; rw [if_pos c1]; exact if_neg c2
      rw [e, if_neg ?_]
      · exact ⟨rfl, ⟨_, a1, hI1⟩, a3⟩
      · by_cases c3 : (rdB A.tx n 30 1 0 []).1 = true
        · rw [if_pos c3, iv_eq (by constructor <;> omega) (by constructor <;> omega)]
          intro z
          exact c2 ⟨c3, by omega⟩
        · rw [if_neg c3, iv_eq (by constructor <;> omega) (by constructor <;> omega)]
          omega
  · have e : s_setBody A a = (-1, A) := by unfold s_setBody; rw [if_neg c1]
    rw [e, if_neg (by rw [tf_f c1]; decide)]
    exact ⟨rfl, ⟨M, hm, hI⟩, sam_rf⟩
/-- a transition is changed in the row -/
theorem MI_t {M : Md} {f : Nat → Int32} {k : Nat} {a b : Int} {T : Sc} (h : MI M A) (hT : T = A.S) (hk : k < 12) (hy : (a = -1 ∧ b = -1) ∨ ((0 ≤ a ∧ a < 3) ∧ (0 ≤ b ∧ b < 3))) (h1 : f (124 + 3 * k) = iv (if a = -1 then 0 else 1)) (h2 : a ≠ -1 → f (124 + 3 * k + 1) = iv a ∧ f (124 + 3 * k + 2) = iv b) (h3 : ∀ j, j < 124 + 3 * k ∨ 124 + 3 * k + 3 ≤ j → f j = M.nw j) : MI (Md.mk M.len M.acts M.nxt M.ts M.bs M.lab M.xp M.sta M.tx f M.tr M.rd M.di M.ke M.ik M.te M.bu M.va M.ju M.ma) (As.mk A.tx ((Sc.mk T.b (upI T.u k a) (upI T.v k b))) A.R A.nx A.ct A.K A.F) := by
  subst hT
  obtain ⟨hA, hR, hB⟩ := h
  refine ⟨hA, ⟨?_, okS_t hR.2 hy⟩, hB⟩
  have hr : Rw M.nw A.S := hR.1
  refine ⟨fun n hn => ⟨?_, fun i hi => ?_⟩, fun j hj => ?_⟩
  · show f (31 * n) = _
    rw [h3 _ (by omega)]; exact (hr.1 n hn).1
  · have := (hR.2.1 n hn).1
    have hi' : i < (A.S.b n).length := hi
    show f (31 * n + 1 + i) = _
    rw [h3 _ (by omega)]; exact (hr.1 n hn).2 i hi
  · show f (124 + 3 * j) = iv (if upI A.S.u k a j = -1 then 0 else 1) ∧ (upI A.S.u k a j ≠ -1 → f (124 + 3 * j + 1) = iv (upI A.S.u k a j) ∧ (j % 4 = 0 → f (124 + 3 * j + 2) = iv (upI A.S.v k b j)))
    unfold upI
    by_cases z : j = k
    · rw [if_pos z, if_pos z, z]
      exact ⟨h1, fun y => ⟨(h2 y).1, fun _ => (h2 y).2⟩⟩
    · rw [if_neg z, if_neg z, h3 _ (by omega), h3 _ (by omega), h3 _ (by omega)]
      exact hr.2 j hj
theorem m_stT {M : Md} {q t : Nat} {q1 q2 : Int} (hq3 : q < 3) (ht4 : t < 4) (h1 : 0 ≤ q1 ∧ q1 < 3) (h2 : 0 ≤ q2 ∧ q2 < 3) (hm : Mo E G m M) (hI : MI M A) : rcv E G m 7 = true ∧ (qCV E (d + 2) i_X7_note [.ref m] G fun G11 => (qCI E (d + 2) i_X7_stepAt [.int (iv (q : Int)), .int (iv (t : Int))] G11 fun v13 G12 => (qFR E G12 m 7 2 fun v14 => (qIA 7 E G12 v14 v13 fun v15 => (qFR E G12 m 7 2 fun v16 => (qIS E G12 v16 v13 (iv 1) fun G17 => (qFR E G17 m 7 2 fun v18 => (qIS E G17 v18 (v13 + (iv 1)) (iv q1) fun G19 => (qFR E G19 m 7 2 fun v20 => (qIS E G19 v20 (v13 + (iv 2)) (iv q2) fun G21 => mP E G m ((if A.S.u (4 * q + t) = -1 then 0 else 1), (As.mk (rem A).tx ((Sc.mk A.S.b (upI A.S.u (4 * q + t) q1) (upI A.S.v (4 * q + t) q2))) (rem A).R (rem A).nx (rem A).ct (rem A).K (rem A).F)) (some (.int v15)) G21)))))))))) := by
  rw [Mo_rc hm]
  refine ⟨trivial, u_V (c_note (d := d + 1) hm hI) ?_⟩
  rintro v G2 ⟨rfl, N, b1, b2, b3, b4⟩
  refine ⟨rfl, ?_⟩
  have hk : 4 * q + t < 12 := by omega
  rw [v_I (fun P => c_stepAt (d := d + 1) (P := P)), Mo_nw b1, Mg_nw b1 (by omega), Mo_nw b1]
  have hN : Rw N.nw A.S := MI_rw (A := rem A) b2
  rw [(hN.2 _ hk).1]
  refine Ms_nw b1 (by omega) ?_
  intro G3 d1 d2
  rw [Mo_nw d1, i_s]
  refine Ms_nw d1 (by omega) ?_
  intro G4 e1 e2
  rw [Mo_nw e1, show iv ((124 + 3 * (4 * q + t) : Nat) : Int) + iv 2 = iv ((124 + 3 * (4 * q + t) + 2 : Nat) : Int) by rw [iv_add]; rfl]
  refine Ms_nw e1 (by omega) ?_
  intro G5 f1 f2
  refine ⟨rfl, ⟨_, f1, ?_⟩, sam_tr (sam_tr (sam_tr b4 d2) e2) f2⟩
  refine MI_t (A := rem A) (T := A.S) (M := N) (f := upd (upd (upd N.nw (124 + 3 * (4 * q + t)) (iv 1)) (124 + 3 * (4 * q + t) + 1) (iv q1)) (124 + 3 * (4 * q + t) + 2) (iv q2)) b2 rfl hk (Or.inr ⟨h1, h2⟩) ?_ ?_ ?_
  · unfold upd
    rw [if_neg (by omega), if_neg (by omega), if_pos rfl, if_neg (by omega)]
  · intro _
    constructor
    · unfold upd
      rw [if_neg (by omega), if_pos rfl]
    · unfold upd
      rw [if_pos rfl]
  · intro j hj
    unfold upd
    rw [if_neg (by omega), if_neg (by omega), if_neg (by omega)]
theorem m_setTransition {q t q1 q2 : Int} (hq : Rg q) (ht : Rg t) (hq1 : Rg q1) (hq2 : Rg q2) (h : MH E G m A) : runs E (d + 3) i_X7_setTransition [.ref m, .int (iv q), .int (iv t), .int (iv q1), .int (iv q2)] G (mP E G m (s_setTransition A q t q1 q2)) := by
  obtain ⟨M, hm, hI⟩ := h
  refine e_X7_setTransition ?_
  rw [v_I (fun P => c_isPair (d := d) (P := P) hq ht)]
  by_cases c1 : pr q t
  · rw [if_pos (by rw [tf_t c1]; decide)]
    obtain ⟨q, rfl⟩ := Int.eq_ofNat_of_zero_le c1.1.1
    obtain ⟨t, rfl⟩ := Int.eq_ofNat_of_zero_le c1.2.1
    have hq3 : q < 3 := by have := c1.1.2; omega
    have ht4 : t < 4 := by have := c1.2.2; omega
    have har := ar_le t
    have eF : ∀ c z, fitQ (t : Int) c z = ((c ≤ ar t ∧ 0 ≤ z ∧ z < 3) ∨ (ar t < c ∧ z = 0)) := fun _ _ => rfl
    have bad : ¬ (fitQ (t : Int) 1 q1 ∧ fitQ (t : Int) 2 q2) → mP E G m (s_setTransition A (q : Int) (t : Int) q1 q2) (some (.int (iv (-2)))) G := by
      intro z
      have e : s_setTransition A (q : Int) (t : Int) q1 q2 = (-2, A) := by unfold s_setTransition; rw [if_pos c1]; exact if_neg z
      rw [e]
      exact ⟨rfl, ⟨M, hm, hI⟩, sam_rf⟩
    have good : fitQ (t : Int) 1 q1 ∧ fitQ (t : Int) 2 q2 → s_setTransition A (q : Int) (t : Int) q1 q2 = ((if A.S.u (4 * q + t) = -1 then 0 else 1), (As.mk (rem A).tx ((Sc.mk A.S.b (upI A.S.u (4 * q + t) q1) (upI A.S.v (4 * q + t) q2))) (rem A).R (rem A).nx (rem A).ct (rem A).K (rem A).F)) := by
      intro z
      unfold s_setTransition
      rw [if_pos c1]
      exact if_pos z
    rw [v_I (fun P => c_places (d := d + 1) (P := P) ht4)]
    by_cases p1 : ar t = 0
    · rw [if_pos (by rw [iv_le0 (by constructor <;> omega)]; omega), v_I (fun P => c_in (d := d + 1) (P := P) (i64 hq1) (b := 0) (c := 0) rfl rfl)]
      by_cases c2 : 0 ≤ q1 ∧ q1 ≤ 0
      · rw [if_neg (by rw [tf_t c2]; decide), v_I (fun P => c_places (d := d + 1) (P := P) ht4), if_pos (by rw [iv_le (by constructor <;> omega) (by decide)]; omega), v_I (fun P => c_in (d := d + 1) (P := P) (i64 hq2) (b := 0) (c := 0) rfl rfl)]
        by_cases c3 : 0 ≤ q2 ∧ q2 ≤ 0
        · rw [if_pos (by rw [tf_t c3]; decide), good (by rw [eF, eF]; omega)]
          exact m_stT (d := d) hq3 ht4 (by omega) (by omega) hm hI
        · rw [if_neg (by rw [tf_f c3]; decide)]
          exact bad (by rw [eF, eF]; omega)
      · rw [if_pos (by rw [tf_f c2]; decide)]
        exact bad (by rw [eF, eF]; omega)
    · rw [if_neg (by rw [iv_le0 (by constructor <;> omega)]; omega), v_I (fun P => c_in (d := d + 1) (P := P) (i64 hq1) (b := 0) (c := 2) rfl rfl)]
      by_cases c2 : 0 ≤ q1 ∧ q1 ≤ 2
      · rw [if_neg (by rw [tf_t c2]; decide), v_I (fun P => c_places (d := d + 1) (P := P) ht4)]
        by_cases p2 : ar t ≤ 1
        · rw [if_pos (by rw [iv_le (by constructor <;> omega) (by decide)]; omega), v_I (fun P => c_in (d := d + 1) (P := P) (i64 hq2) (b := 0) (c := 0) rfl rfl)]
          by_cases c3 : 0 ≤ q2 ∧ q2 ≤ 0
          · rw [if_pos (by rw [tf_t c3]; decide), good (by rw [eF, eF]; omega)]
            exact m_stT (d := d) hq3 ht4 (by omega) (by omega) hm hI
          · rw [if_neg (by rw [tf_f c3]; decide)]
            exact bad (by rw [eF, eF]; omega)
        · rw [if_neg (by rw [iv_le (by constructor <;> omega) (by decide)]; omega), v_I (fun P => c_in (d := d + 1) (P := P) (i64 hq2) (b := 0) (c := 2) rfl rfl)]
          by_cases c3 : 0 ≤ q2 ∧ q2 ≤ 2
          · rw [if_pos (by rw [tf_t c3]; decide), good (by rw [eF, eF]; omega)]
            exact m_stT (d := d) hq3 ht4 (by omega) (by omega) hm hI
          · rw [if_neg (by rw [tf_f c3]; decide)]
            exact bad (by rw [eF, eF]; omega)
      · rw [if_pos (by rw [tf_f c2]; decide)]
        exact bad (by rw [eF, eF]; omega)
  · have e : s_setTransition A q t q1 q2 = (-1, A) := by unfold s_setTransition; exact if_neg c1
    rw [e, if_neg (by rw [tf_f c1]; decide)]
    exact ⟨rfl, ⟨M, hm, hI⟩, sam_rf⟩
theorem m_removeTransition {q t : Int} (hq : Rg q) (ht : Rg t) (h : MH E G m A) : runs E (d + 3) i_X7_removeTransition [.ref m, .int (iv q), .int (iv t)] G (mP E G m (s_removeTransition A q t)) := by
  obtain ⟨M, hm, hI⟩ := h
  refine e_X7_removeTransition ?_
  rw [v_I (fun P => c_isPair (d := d) (P := P) hq ht)]
  by_cases c1 : pr q t
  · rw [if_pos (by rw [tf_t c1]; decide)]
    obtain ⟨q, rfl⟩ := Int.eq_ofNat_of_zero_le c1.1.1
    obtain ⟨t, rfl⟩ := Int.eq_ofNat_of_zero_le c1.2.1
    have hq3 : q < 3 := by have := c1.1.2; omega
    have ht4 : t < 4 := by have := c1.2.2; omega
    have hk : 4 * q + t < 12 := by omega
    have hr := (MI_rw hI).2 _ hk
    rw [Mo_nw hm, v_I (fun P => c_stepAt (d := d + 1) (P := P)), Mg_nw hm (by omega), hr.1]
    by_cases c2 : A.S.u (4 * q + t) = -1
    · have e : s_removeTransition A (q : Int) (t : Int) = (-3, A) := by unfold s_removeTransition; rw [if_pos c1]; exact if_pos c2
      rw [e, if_neg (by rw [u_iff]; exact fun z => z c2)]
      exact ⟨rfl, ⟨M, hm, hI⟩, sam_rf⟩
    · have e : s_removeTransition A (q : Int) (t : Int) = (((tcn (dropT A.S (4 * q + t)).u 12 : Nat) : Int), (As.mk (rem A).tx (dropT A.S (4 * q + t)) (rem A).R (rem A).nx (rem A).ct (rem A).K (rem A).F)) := by unfold s_removeTransition; rw [if_pos c1]; exact if_neg c2
      rw [e, if_pos (by rw [u_iff]; exact c2), Mo_rc hm]
      refine ⟨trivial, u_V (c_note (d := d + 1) hm hI) ?_⟩
      rintro v G2 ⟨rfl, N, b1, b2, b3, b4⟩
      refine ⟨rfl, ?_⟩
      rw [Mo_nw b1, v_I (fun P => c_stepAt (d := d + 1) (P := P))]
      refine Ms_nw b1 (by omega) ?_
      intro G3 d1 d2
      have hI3 : MI (Md.mk N.len N.acts N.nxt N.ts N.bs N.lab N.xp N.sta N.tx (upd N.nw (124 + 3 * (4 * q + t)) (iv 0)) N.tr N.rd N.di N.ke N.ik N.te N.bu N.va N.ju N.ma) (As.mk (rem A).tx (dropT A.S (4 * q + t)) (rem A).R (rem A).nx (rem A).ct (rem A).K (rem A).F) := by
        refine MI_t (A := rem A) (T := A.S) (M := N) (f := upd N.nw (124 + 3 * (4 * q + t)) (iv 0)) b2 rfl hk (Or.inl ⟨rfl, rfl⟩) ?_ (fun z => absurd rfl z) ?_
        · unfold upd
          rw [if_pos rfl, if_pos rfl]
        · intro j hj
          unfold upd
          rw [if_neg (by omega)]
      rw [Mo_nw d1, v_I (fun P => c_stepsOf (d := d + 1) (P := P) (Ma_nw d1) (MI_rw hI3))]
      exact ⟨rfl, ⟨_, d1, hI3⟩, sam_tr b4 d2⟩
  · have e : s_removeTransition A q t = (-1, A) := by unfold s_removeTransition; exact if_neg c1
    rw [e, if_neg (by rw [tf_f c1]; decide)]
    exact ⟨rfl, ⟨M, hm, hI⟩, sam_rf⟩
end MN
