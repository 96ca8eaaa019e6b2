-- uses 41 42 43 44 45 46 47 48 49 50 51 52 53 54 55 56 57 58 59 60 64 65 66 67 68 69 74 75 78 79
/-! the common state, and what the reference's small calls do to it -/
abbrev As : Type := (List Nat) × Sc × (Nat → Sc) × Nat × Nat × (Nat → Sc) × (Nat → Bool)
def As.mk (x0 : (List Nat)) (x1 : Sc) (x2 : (Nat → Sc)) (x3 : Nat) (x4 : Nat) (x5 : (Nat → Sc)) (x6 : (Nat → Bool)) : As := (x0, x1, x2, x3, x4, x5, x6)
def As.tx (z : As) : (List Nat) := z.1
def As.S (z : As) : Sc := z.2.1
def As.R (z : As) : (Nat → Sc) := z.2.2.1
def As.nx (z : As) : Nat := z.2.2.2.1
def As.ct (z : As) : Nat := z.2.2.2.2.1
def As.K (z : As) : (Nat → Sc) := z.2.2.2.2.2.1
def As.F (z : As) : (Nat → Bool) := z.2.2.2.2.2.2
theorem As_tx {x0 : (List Nat)} {x1 : Sc} {x2 : (Nat → Sc)} {x3 : Nat} {x4 : Nat} {x5 : (Nat → Sc)} {x6 : (Nat → Bool)} : As.tx (As.mk x0 x1 x2 x3 x4 x5 x6) = x0 := rfl
theorem As_S {x0 : (List Nat)} {x1 : Sc} {x2 : (Nat → Sc)} {x3 : Nat} {x4 : Nat} {x5 : (Nat → Sc)} {x6 : (Nat → Bool)} : As.S (As.mk x0 x1 x2 x3 x4 x5 x6) = x1 := rfl
theorem As_R {x0 : (List Nat)} {x1 : Sc} {x2 : (Nat → Sc)} {x3 : Nat} {x4 : Nat} {x5 : (Nat → Sc)} {x6 : (Nat → Bool)} : As.R (As.mk x0 x1 x2 x3 x4 x5 x6) = x2 := rfl
theorem As_nx {x0 : (List Nat)} {x1 : Sc} {x2 : (Nat → Sc)} {x3 : Nat} {x4 : Nat} {x5 : (Nat → Sc)} {x6 : (Nat → Bool)} : As.nx (As.mk x0 x1 x2 x3 x4 x5 x6) = x3 := rfl
theorem As_ct {x0 : (List Nat)} {x1 : Sc} {x2 : (Nat → Sc)} {x3 : Nat} {x4 : Nat} {x5 : (Nat → Sc)} {x6 : (Nat → Bool)} : As.ct (As.mk x0 x1 x2 x3 x4 x5 x6) = x4 := rfl
theorem As_K {x0 : (List Nat)} {x1 : Sc} {x2 : (Nat → Sc)} {x3 : Nat} {x4 : Nat} {x5 : (Nat → Sc)} {x6 : (Nat → Bool)} : As.K (As.mk x0 x1 x2 x3 x4 x5 x6) = x5 := rfl
theorem As_F {x0 : (List Nat)} {x1 : Sc} {x2 : (Nat → Sc)} {x3 : Nat} {x4 : Nat} {x5 : (Nat → Sc)} {x6 : (Nat → Bool)} : As.F (As.mk x0 x1 x2 x3 x4 x5 x6) = x6 := rfl
def rem (A : As) : As := (As.mk A.tx A.S (upR A.R A.nx A.S) ((A.nx + 1) % 14) (if A.ct < 14 then A.ct + 1 else 14) A.K A.F)
def MI (M : Md) (A : As) : Prop := TxM M A.tx ∧ okR M false A.S ∧ (M.acts = A.ct ∧ M.nxt = A.nx ∧ A.nx < 14 ∧ A.ct ≤ 14) ∧ (∀ i, 1 ≤ i → i ≤ A.ct → Rw (fun k => M.di (160 * ((A.nx + 14 - i) % 14) + k)) (A.R ((A.nx + 14 - i) % 14)) ∧ okS (A.R ((A.nx + 14 - i) % 14))) ∧ ∀ j, j < 2 → M.ik j = b2 (A.F j) ∧ (A.F j = true → Rw (fun k => M.ke (160 * j + k)) (A.K j) ∧ okS (A.K j))
def MH (E : Ev) (G : Hp) (m : Nat) (A : As) : Prop := ∃ M, Mo E G m M ∧ MI M A
def mP (E : Ev) (G : Hp) (m : Nat) (r : Int × As) : Po := fun v G1 => v = some (.int (iv r.1)) ∧ MH E G1 m r.2 ∧ sam E G G1 (ivl m 13)
theorem MI_c {M N : Md} {A : As} (h : MI M A) (h1 : N.len = M.len) (h2 : N.tx = M.tx) (h3 : N.nw = M.nw) (h4 : N.acts = M.acts) (h5 : N.nxt = M.nxt) (h6 : N.di = M.di) (h7 : N.ik = M.ik) (h8 : N.ke = M.ke) : MI N A := by
  obtain ⟨a, b, c, d, e⟩ := h
  unfold TxM at a
  have b' : Rw M.nw A.S ∧ okS A.S := b
  refine ⟨?_, ?_, ?_, ?_, ?_⟩
  · unfold TxM; rw [h1, h2]; exact a
  · show Rw N.nw A.S ∧ okS A.S
    rw [h3]; exact b'
  · rw [h4, h5]; exact c
  · rw [h6]; exact d
  · rw [h7, h8]; exact e
theorem MI_wk {M N : Md} {A : As} (h : MI M A) (k : Wk M N) : MI N A := by
  unfold Wk at k
  exact MI_c h (by have z := congrArg Md.len k; exact z) (by have z := congrArg Md.tx k; exact z) (by have z := congrArg Md.nw k; exact z) (by have z := congrArg Md.acts k; exact z) (by have z := congrArg Md.nxt k; exact z) (by have z := congrArg Md.di k; exact z) (by have z := congrArg Md.ik k; exact z) (by have z := congrArg Md.ke k; exact z)
theorem MI_wy {M N : Md} {A : As} (h : MI M A) (k : Wy M N) : MI N A := by
  unfold Wy at k
  exact MI_c h (by have z := congrArg Md.len k; exact z) (by have z := congrArg Md.tx k; exact z) (by have z := congrArg Md.nw k; exact z) (by have z := congrArg Md.acts k; exact z) (by have z := congrArg Md.nxt k; exact z) (by have z := congrArg Md.di k; exact z) (by have z := congrArg Md.ik k; exact z) (by have z := congrArg Md.ke k; exact z)
theorem MI_rw {M : Md} {A : As} (h : MI M A) : Rw M.nw A.S := h.2.1.1
theorem MI_ok {M : Md} {A : As} (h : MI M A) : okS A.S := h.2.1.2
/-- all schemes that are held are right -/
def okA (A : As) : Prop := okS A.S ∧ (A.nx < 14 ∧ A.ct ≤ 14) ∧ (∀ i, 1 ≤ i → i ≤ A.ct → okS (A.R ((A.nx + 14 - i) % 14))) ∧ (∀ j, j < 2 → A.F j = true → okS (A.K j)) ∧ A.tx.length ≤ 99
theorem MI_A {M : Md} {A : As} (h : MI M A) : okA A := ⟨MI_ok h, h.2.2.1.2.2, fun i a b => (h.2.2.2.1 i a b).2, fun j a b => ((h.2.2.2.2 j a).2 b).2, h.1.2.2.1⟩
theorem rdA_rg' {tx : List Nat} (hl : tx.length ≤ 99) : ∀ (k p : Nat) (S : Sc), -9 ≤ (rdA tx k p S).1 ∧ (rdA tx k p S).1 ≤ 200 := by
  intro k
  induction k with
  | zero => intro p S; show -9 ≤ (-9 : Int) ∧ (-9 : Int) ≤ 200; decide
  | succ k ih =>
    intro p S
    unfold rdA
    by_cases c : p < tx.length
    · rw [if_pos c]
      by_cases c2 : (rdI tx S p).1 = true
      · rw [if_pos c2]; exact ih _ _
      · rw [if_neg c2]
        have := rdI_b (tx := tx) (S := S) (p := p)
        show -9 ≤ (((rdI tx S p).2.1 : Nat) : Int) ∧ (((rdI tx S p).2.1 : Nat) : Int) ≤ 200
        omega
    · rw [if_neg c]; show -9 ≤ (-9 : Int) ∧ (-9 : Int) ≤ 200; decide
theorem rdA_rg {tx : List Nat} {S : Sc} {p k : Nat} (hl : tx.length ≤ 99) : Rg (rdA tx k p S).1 := by
  have := rdA_rg' hl k p S
  constructor <;> omega
/-! specifications -/
def s_append (A : As) (a : Int) : Int × As := if 0 ≤ a ∧ a ≤ 255 then (if A.tx.length < 99 then ((A.tx.length : Int) + 1, (As.mk (A.tx ++ [a.toNat]) A.S A.R A.nx A.ct A.K A.F)) else (-4, A)) else (-2, A)
def s_clearText (A : As) : Int × As := ((A.tx.length : Int), (As.mk ([]) A.S A.R A.nx A.ct A.K A.F))
def s_errorPosition (A : As) : Int × As := ((rdA A.tx 99 0 S0).1, A)
def s_load (A : As) : Int × As := if (rdA A.tx 99 0 S0).1 = -9 then ((tcn (rdA A.tx 99 0 S0).2.u 12 : Nat), (As.mk A.tx ((rdA A.tx 99 0 S0).2) A.R A.nx 0 A.K (fun _ => false))) else (-3, A)
def s_bodyLength (A : As) (a : Int) : Int × As := if 0 ≤ a ∧ a < 4 then (((A.S.b a.toNat).length : Nat), A) else (-1, A)
def s_bodySymbol (A : As) (a i : Int) : Int × As := if (0 ≤ a ∧ a < 4) ∧ (0 ≤ i ∧ i < (A.S.b a.toNat).length) then ((chr ((A.S.b a.toNat).getD i.toNat 0) : Nat), A) else (-1, A)
abbrev pr (q t : Int) : Prop := (0 ≤ q ∧ q < 3) ∧ (0 ≤ t ∧ t < 4)
def kx (q t : Int) : Nat := 4 * q.toNat + t.toNat
def s_transition (A : As) (q t c : Int) : Int × As := if pr q t then (if 1 ≤ c ∧ c ≤ ar t.toNat then (if A.S.u (kx q t) = -1 then (-9, A) else ((if c = 1 then A.S.u (kx q t) else A.S.v (kx q t)), A)) else (-2, A)) else (-1, A)
def s_hasTransition (A : As) (q t : Int) : Int × As := if pr q t then ((if A.S.u (kx q t) = -1 then 0 else 1), A) else (-1, A)
def rc1 (S : Sc) : Nat → Nat → Nat
  | 0, x => x
  | n + 1, x => if (rc1 S n x).testBit n = true then nts (rc1 S n x) (S.b n) else rc1 S n x
def rcK (S : Sc) : Nat → Nat
  | 0 => 1
  | k + 1 => rc1 S 4 (rcK S k)
def s_reachable (A : As) : Int × As := ((rcK A.S 4 : Nat), A)
def s_setBody (A : As) (a : Int) : Int × As := if 0 ≤ a ∧ a < 4 then (if (rdB A.tx a.toNat 30 1 0 []).1 = true ∧ (rdB A.tx a.toNat 30 1 0 []).2.1 = A.tx.length then (((rdB A.tx a.toNat 30 1 0 []).2.2.length : Nat), (As.mk (rem A).tx ((Sc.mk (upB A.S.b a.toNat (rdB A.tx a.toNat 30 1 0 []).2.2) A.S.u A.S.v)) (rem A).R (rem A).nx (rem A).ct (rem A).K (rem A).F)) else (-3, A)) else (-1, A)
abbrev fitQ (t : Int) (c : Nat) (q : Int) : Prop := (c ≤ ar t.toNat ∧ 0 ≤ q ∧ q < 3) ∨ (ar t.toNat < c ∧ q = 0)
def s_setTransition (A : As) (q t q1 q2 : Int) : Int × As := if pr q t then (if fitQ t 1 q1 ∧ fitQ t 2 q2 then ((if A.S.u (kx q t) = -1 then 0 else 1), (As.mk (rem A).tx ((Sc.mk A.S.b (upI A.S.u (kx q t) q1) (upI A.S.v (kx q t) q2))) (rem A).R (rem A).nx (rem A).ct (rem A).K (rem A).F)) else (-2, A)) else (-1, A)
def dropT (S : Sc) (k : Nat) : Sc := (Sc.mk S.b (upI S.u k (-1)) (upI S.v k (-1)))
def s_removeTransition (A : As) (q t : Int) : Int × As := if pr q t then (if A.S.u (kx q t) = -1 then (-3, A) else ((tcn (dropT A.S (kx q t)).u 12 : Nat), (As.mk (rem A).tx (dropT A.S (kx q t)) (rem A).R (rem A).nx (rem A).ct (rem A).K (rem A).F))) else (-1, A)
def s_undo (A : As) : Int × As := if A.ct = 0 then (-3, A) else (((A.ct - 1 : Nat) : Int), (As.mk A.tx (A.R ((A.nx + 13) % 14)) A.R ((A.nx + 13) % 14) (A.ct - 1) A.K A.F))
def s_save (A : As) (a : Int) : Int × As := if 0 ≤ a ∧ a ≤ 1 then ((tcn A.S.u 12 : Nat), (As.mk A.tx A.S A.R A.nx A.ct (upR A.K a.toNat A.S) (fun j => if j = a.toNat then true else A.F j))) else (-1, A)
def s_restore (A : As) (a : Int) : Int × As := if 0 ≤ a ∧ a ≤ 1 then (if A.F a.toNat = true then ((tcn (A.K a.toNat).u 12 : Nat), (As.mk A.tx (A.K a.toNat) A.R A.nx 0 A.K A.F)) else (-3, A)) else (-1, A)
/-! small calls of the reference -/
section MS1
variable {E : Ev} {d : Nat} {G : Hp} {P : Po} {m : Nat} {A : As}
theorem MI_tx {M : Md} (h : MI M A) {F : Int32 → Prop} (hm : Mo E G m M) : qFI E G m 7 1 F = F (iv (A.tx.length : Int)) := Mo_lt hm h.1
theorem m_append {a : Int} (ha : Rg a) (h : MH E G m A) : runs E (d + 2) i_X7_append [.ref m, .int (iv a)] G (mP E G m (s_append A a)) := by
  obtain ⟨M, hm, hI⟩ := h
  refine e_X7_append ?_
  have hl := hI.1.2.2.1
  rw [v_I (fun P => c_in (d := d) (P := P) (i64 ha) (b := 0) (c := 255) rfl rfl), MI_tx hI hm]
  by_cases c1 : 0 ≤ a ∧ a ≤ 255
  · rw [if_pos (by rw [tf_t c1]; decide)]
    by_cases c2 : A.tx.length < 99
    · have e : s_append A a = ((A.tx.length : Int) + 1, (As.mk (A.tx ++ [a.toNat]) A.S A.R A.nx A.ct A.K A.F)) := by unfold s_append; rw [if_pos c1, if_pos c2]
      rw [e, if_pos (by rw [iv_eq (by constructor <;> omega) (by decide)]; omega), Mo_tx hm, MI_tx hI hm]
      refine Ms_tx hm c2 ?_
      intro G1 a1 a2
      rw [Mo_len a1]
      have e2 : iv M.len + iv 1 = iv ((A.tx.length : Int) + 1) := by rw [hI.1.1, iv_add]
      dsimp only [Sc_b, Sc_u, Sc_v, Md_len, Md_acts, Md_nxt, Md_ts, Md_bs, Md_lab, Md_xp, Md_sta, Md_tx, Md_nw, Md_tr, Md_rd, Md_di, Md_ke, Md_ik, Md_te, Md_bu, Md_va, Md_ju, Md_ma, As_tx, As_S, As_R, As_nx, As_ct, As_K, As_F]
      rw [e2]
      refine Mp_len a1 ?_
      intro G2 b1 b2
      rw [Mo_len b1]
      refine ⟨rfl, ⟨_, b1, ?_, hI.2⟩, sam_tr a2 b2⟩
      refine ⟨?_, ?_, ?_, ?_⟩
      · show (A.tx.length : Int) + 1 = ((A.tx ++ [a.toNat]).length : Int)
        rw [List.length_append]; rfl
      · intro i hi
        have hi' : i < A.tx.length + 1 := by
          have : (A.tx ++ [a.toNat]).length = A.tx.length + 1 := by rw [List.length_append]; rfl
          rw [← this]; exact hi
        show upd M.tx A.tx.length (iv a) i = iv (((A.tx ++ [a.toNat]).getD i 0 : Nat) : Int)
        unfold upd
        by_cases z : i = A.tx.length
        · rw [if_pos z, z, gD_r (Nat.le_refl _), Nat.sub_self]
          show iv a = iv ((a.toNat : Nat) : Int)
          rw [Int.toNat_of_nonneg c1.1]
        · rw [if_neg z, gD_l (by omega)]
          exact hI.1.2.1 i (by omega)
      · show (A.tx ++ [a.toNat]).length ≤ 99
        rw [List.length_append]
        show A.tx.length + 1 ≤ 99
        omega
      · intro i hi
        have hi' : i < A.tx.length + 1 := by
          have : (A.tx ++ [a.toNat]).length = A.tx.length + 1 := by rw [List.length_append]; rfl
          rw [← this]; exact hi
        show (A.tx ++ [a.toNat]).getD i 0 ≤ 255
        by_cases z : i = A.tx.length
        · rw [z, gD_r (Nat.le_refl _), Nat.sub_self]
          show a.toNat ≤ 255
          omega
        · rw [gD_l (by omega)]
          exact hI.1.2.2.2 i (by omega)
    · have e : s_append A a = (-4, A) := by unfold s_append; rw [if_pos c1, if_neg c2]
      rw [e, if_neg (by rw [iv_eq (by constructor <;> omega) (by decide)]; omega)]
      exact ⟨rfl, ⟨M, hm, hI⟩, sam_rf⟩
  · have e : s_append A a = (-2, A) := by unfold s_append; rw [if_neg c1]
    rw [e, if_neg (by rw [tf_f c1]; decide)]
    exact ⟨rfl, ⟨M, hm, hI⟩, sam_rf⟩
theorem m_clearText (h : MH E G m A) : runs E (d + 1) i_X7_clearText [.ref m] G (mP E G m (s_clearText A)) := by
  obtain ⟨M, hm, hI⟩ := h
  refine e_X7_clearText ?_
  rw [MI_tx hI hm]
  refine Mp_len hm ?_
  intro G1 a1 a2
  refine ⟨rfl, ⟨_, a1, ⟨rfl, fun i hi => absurd hi (Nat.not_lt_zero _), Nat.zero_le _, fun i hi => absurd hi (Nat.not_lt_zero _)⟩, hI.2⟩, a2⟩
theorem m_errorPosition (h : MH E G m A) : runs E (d + 8) i_X7_errorPosition [.ref m] G (mP E G m (s_errorPosition A)) := by
  obtain ⟨M, hm, hI⟩ := h
  refine e_X7_errorPosition ?_
  rw [Mo_rc hm]
  refine ⟨trivial, u_I (c_readText (d := d) hm hI.1) ?_⟩
  rintro v G1 ⟨rfl, ⟨rd', a1, a2⟩, a3⟩
  exact ⟨_, rfl, rfl, ⟨_, a1, MI_c hI rfl rfl rfl rfl rfl rfl rfl rfl⟩, a3⟩
theorem m_bodyLength {a : Int} (ha : Rg a) (h : MH E G m A) : runs E (d + 3) i_X7_bodyLength [.ref m, .int (iv a)] G (mP E G m (s_bodyLength A a)) := by
  obtain ⟨M, hm, hI⟩ := h
  refine e_X7_bodyLength ?_
  rw [v_I (fun P => c_mIsNt (d := d) (P := P) ha)]
  by_cases c1 : 0 ≤ a ∧ a < 4
  · have e : s_bodyLength A a = ((((A.S.b a.toNat).length : Nat) : Int), A) := by unfold s_bodyLength; rw [if_pos c1]
    rw [e, if_neg (by rw [tf_t c1]; decide), Mo_nw hm]
    obtain ⟨n, rfl⟩ := Int.eq_ofNat_of_zero_le c1.1
    have hn : n < 4 := by omega
    rw [show iv 31 * iv (n : Int) = iv ((31 * n : Nat) : Int) from nmul (a := 31), Mg_nw hm (by omega), ((MI_rw hI).1 n hn).1]
    exact ⟨rfl, ⟨M, hm, hI⟩, sam_rf⟩
  · have e : s_bodyLength A a = (-1, A) := by unfold s_bodyLength; rw [if_neg c1]
    rw [e, if_pos (by rw [tf_f c1]; decide)]
    exact ⟨rfl, ⟨M, hm, hI⟩, sam_rf⟩
theorem m_bodySymbol {a i : Int} (ha : Rg a) (hi : Rg i) (h : MH E G m A) : runs E (d + 3) i_X7_bodySymbol [.ref m, .int (iv a), .int (iv i)] G (mP E G m (s_bodySymbol A a i)) := by
  obtain ⟨M, hm, hI⟩ := h
  refine e_X7_bodySymbol ?_
  rw [v_I (fun P => c_mIsNt (d := d) (P := P) ha)]
  by_cases c1 : 0 ≤ a ∧ a < 4
  · rw [if_neg (by rw [tf_t c1]; decide), Mo_nw hm]
    obtain ⟨n, rfl⟩ := Int.eq_ofNat_of_zero_le c1.1
    have hn : n < 4 := by omega
    have hL := ((MI_ok hI).1 n hn).1
    rw [show iv 31 * iv (n : Int) = iv ((31 * n : Nat) : Int) from nmul (a := 31), Mg_nw hm (by omega), ((MI_rw hI).1 n hn).1, iv_sub, v_I (fun P => c_in (d := d + 1) (P := P) (i64 hi) (b := 0) rfl (i64 (by constructor <;> omega)))]
    by_cases c2 : 0 ≤ i ∧ i < ((A.S.b n).length : Int)
    · obtain ⟨k, rfl⟩ := Int.eq_ofNat_of_zero_le c2.1
      have hk : k < (A.S.b n).length := by omega
      have e : s_bodySymbol A (n : Int) (k : Int) = (((chr ((A.S.b n).getD k 0) : Nat) : Int), A) := by unfold s_bodySymbol; exact if_pos ⟨c1, c2⟩
      rw [e, if_neg (by rw [tf_t (by omega)]; decide), Mo_nw hm, show iv ((31 * n : Nat) : Int) + iv 1 + iv (k : Int) = iv ((31 * n + 1 + k : Nat) : Int) by rw [iv_add, iv_add]; rfl, Mg_nw hm (by omega), ((MI_rw hI).1 n hn).2 k hk]
      exact ⟨rfl, ⟨M, hm, hI⟩, sam_rf⟩
    · have e : s_bodySymbol A (n : Int) i = (-1, A) := by unfold s_bodySymbol; exact if_neg (fun z => c2 z.2)
      rw [e, if_pos (by rw [tf_f (by omega)]; decide)]
      exact ⟨rfl, ⟨M, hm, hI⟩, sam_rf⟩
  · have e : s_bodySymbol A a i = (-1, A) := by unfold s_bodySymbol; exact if_neg (fun z => c1 z.1)
    rw [e, if_pos (by rw [tf_f c1]; decide)]
    exact ⟨rfl, ⟨M, hm, hI⟩, sam_rf⟩
theorem u_iff {u : Int} : (iv (if u = -1 then 0 else 1) = 0) = (u = -1) := by
  by_cases c : u = -1
  · rw [if_pos c]; exact propext ⟨fun _ => c, fun _ => rfl⟩
  · rw [if_neg c]; exact propext ⟨fun z => absurd z (by decide), fun z => absurd z c⟩
theorem u_iff1 {u : Int} : (iv (if u = -1 then 0 else 1) = iv 1) = ¬ (u = -1) := by
  by_cases c : u = -1
  · rw [if_pos c]; exact propext ⟨fun z => absurd z (by decide), fun z => absurd c z⟩
  · rw [if_neg c]; exact propext ⟨fun _ => c, fun _ => rfl⟩
theorem m_transition {q t c : Int} (hq : Rg q) (ht : Rg t) (hc : Rg c) (h : MH E G m A) : runs E (d + 3) i_X7_transition [.ref m, .int (iv q), .int (iv t), .int (iv c)] G (mP E G m (s_transition A q t c)) := by
  obtain ⟨M, hm, hI⟩ := h
  refine e_X7_transition ?_
  rw [v_I (fun P => c_isPair (d := d) (P := P) hq ht)]
  by_cases c1 : pr q t
  · rw [if_pos (by rw [tf_t c1]; decide)]
    obtain ⟨q, rfl⟩ := Int.eq_ofNat_of_zero_le c1.1.1
    obtain ⟨t, rfl⟩ := Int.eq_ofNat_of_zero_le c1.2.1
    have hq3 : q < 3 := by have := c1.1.2; omega
    have ht4 : t < 4 := by have := c1.2.2; omega
    have hk : 4 * q + t < 12 := by omega
    have har := ar_le t
    rw [v_I (fun P => c_places (d := d + 1) (P := P) ht4), v_I (fun P => c_in (d := d + 1) (P := P) (i64 hc) (b := 1) rfl (i64 (by constructor <;> omega)))]
    by_cases c2 : 1 ≤ c ∧ c ≤ (ar t : Int)
    · rw [if_pos (by rw [tf_t c2]; decide), Mo_nw hm, v_I (fun P => c_stepAt (d := d + 1) (P := P)), Mg_nw hm (by omega)]
      have hr := (MI_rw hI).2 _ hk
      rw [hr.1]
      by_cases c3 : A.S.u (4 * q + t) = -1
      · have e : s_transition A (q : Int) (t : Int) c = (-9, A) := by unfold s_transition; rw [if_pos c1]; exact (if_pos c2).trans (if_pos c3)
        rw [e, if_pos (by rw [u_iff1]; exact fun z => z c3)]
        exact ⟨rfl, ⟨M, hm, hI⟩, sam_rf⟩
      · have e : s_transition A (q : Int) (t : Int) c = ((if c = 1 then A.S.u (4 * q + t) else A.S.v (4 * q + t)), A) := by unfold s_transition; rw [if_pos c1]; exact (if_pos c2).trans (if_neg c3)
        rw [e, if_neg (by rw [u_iff1]; exact fun z => z c3), Mo_nw hm, v_I (fun P => c_stepAt (d := d + 1) (P := P))]
        by_cases c4 : c = 1
        · subst c4
          rw [i_s, Mg_nw hm (by omega), (hr.2 c3).1]
          exact ⟨rfl, ⟨M, hm, hI⟩, sam_rf⟩
        · have c2' : c = 2 := by omega
          have ht0 : t = 0 := by
            rcases (by omega : t = 0 ∨ t = 1 ∨ t = 2 ∨ t = 3) with z | z | z | z
            · exact z
            · rw [z] at c2; have : (ar 1 : Int) = 1 := rfl; omega
            · rw [z] at c2; have : (ar 2 : Int) = 0 := rfl; omega
            · rw [z] at c2; have : (ar 3 : Int) = 0 := rfl; omega
          subst c2'
          rw [if_neg (by decide), show iv ((124 + 3 * (4 * q + t) : Nat) : Int) + iv 2 = iv ((124 + 3 * (4 * q + t) + 2 : Nat) : Int) by rw [iv_add]; rfl, Mg_nw hm (by omega), (hr.2 c3).2 (by omega)]
          exact ⟨rfl, ⟨M, hm, hI⟩, sam_rf⟩
    · have e : s_transition A (q : Int) (t : Int) c = (-2, A) := by unfold s_transition; rw [if_pos c1]; exact if_neg c2
      rw [e, if_neg (by rw [tf_f c2]; decide)]
      exact ⟨rfl, ⟨M, hm, hI⟩, sam_rf⟩
  · have e : s_transition A q t c = (-1, A) := by unfold s_transition; exact if_neg c1
    rw [e, if_neg (by rw [tf_f c1]; decide)]
    exact ⟨rfl, ⟨M, hm, hI⟩, sam_rf⟩
theorem m_hasTransition {q t : Int} (hq : Rg q) (ht : Rg t) (h : MH E G m A) : runs E (d + 3) i_X7_hasTransition [.ref m, .int (iv q), .int (iv t)] G (mP E G m (s_hasTransition A q t)) := by
  obtain ⟨M, hm, hI⟩ := h
  refine e_X7_hasTransition ?_
  rw [v_I (fun P => c_isPair (d := d) (P := P) hq ht)]
  by_cases c1 : pr q t
  · rw [if_neg (by rw [tf_t c1]; decide)]
    obtain ⟨q, rfl⟩ := Int.eq_ofNat_of_zero_le c1.1.1
    obtain ⟨t, rfl⟩ := Int.eq_ofNat_of_zero_le c1.2.1
    have hq3 : q < 3 := by have := c1.1.2; omega
    have ht4 : t < 4 := by have := c1.2.2; omega
    have hk : 4 * q + t < 12 := by omega
    have hr := (MI_rw hI).2 _ hk
    have e : s_hasTransition A (q : Int) (t : Int) = ((if A.S.u (4 * q + t) = -1 then 0 else 1), A) := by unfold s_hasTransition; exact if_pos c1
    rw [Mo_nw hm, v_I (fun P => c_stepAt (d := d + 1) (P := P)), Mg_nw hm (by omega), hr.1, e]
    exact ⟨rfl, ⟨M, hm, hI⟩, sam_rf⟩
  · have e : s_hasTransition A q t = (-1, A) := by unfold s_hasTransition; exact if_neg c1
    rw [e, if_pos (by rw [tf_f c1]; decide)]
    exact ⟨rfl, ⟨M, hm, hI⟩, sam_rf⟩
/-! load -/
theorem m_load (h : MH E G m A) : runs E (d + 8) i_X7_load [.ref m] G (mP E G m (s_load A)) := by
  obtain ⟨M, hm, hI⟩ := h
  refine e_X7_load ?_
  rw [Mo_rc hm]
  refine ⟨trivial, u_I (c_readText (d := d) hm hI.1) ?_⟩
  rintro v G1 ⟨rfl, ⟨rd', a1, a2⟩, a3⟩
  refine ⟨_, rfl, ?_⟩
  have hrg : Rg (rdA A.tx 99 0 S0).1 := rdA_rg hI.1.2.2.1
  have hI' : MI (Md.mk M.len M.acts M.nxt M.ts M.bs M.lab M.xp M.sta M.tx M.nw M.tr rd' M.di M.ke M.ik M.te M.bu M.va M.ju M.ma) A := MI_c hI rfl rfl rfl rfl rfl rfl rfl rfl
  by_cases c1 : (rdA A.tx 99 0 S0).1 = -9
  · have e : s_load A = (((tcn (rdA A.tx 99 0 S0).2.u 12 : Nat) : Int), (As.mk A.tx ((rdA A.tx 99 0 S0).2) A.R A.nx 0 A.K (fun _ => false))) := by unfold s_load; rw [if_pos c1]
    rw [e, if_pos (by rw [c1]), Mo_rd a1, Mo_nw a1]
    have hok := rdA_ok (tx := A.tx) 99 0 S0 okS_0
    refine u_V (c_copy (d := d + 6) (a := m + 4) (b := m + 2) (by omega) (Ma_rd a1) (Ma_nw a1)) ?_
    rintro v G2 ⟨rfl, ⟨f', b1, b2⟩, b3⟩
    refine ⟨rfl, ?_⟩
    have hm2 : Mo E G2 m (Md.mk M.len M.acts M.nxt M.ts M.bs M.lab M.xp M.sta M.tx f' M.tr rd' M.di M.ke M.ik M.te M.bu M.va M.ju M.ma) := by
      obtain ⟨h0, h1, h2, h3, h4, h5, h6, h7, h8, h9, h10, h11, h12⟩ := a1
      have ne : ∀ x, x ≠ m + 2 → gt E G2 x = gt E G1 x := fun x hx => b3.1 x (fun z => by unfold ivl at z; omega)
      exact ⟨(ne _ (by omega)).trans h0, (ne _ (by omega)).trans h1, b1, (ne _ (by omega)).trans h3, (ne _ (by omega)).trans h4, (ne _ (by omega)).trans h5, (ne _ (by omega)).trans h6, (ne _ (by omega)).trans h7, (ne _ (by omega)).trans h8, (ne _ (by omega)).trans h9, (ne _ (by omega)).trans h10, (ne _ (by omega)).trans h11, (ne _ (by omega)).trans h12⟩
    have s2 : sam E G G2 (ivl m 13) := sam_tr a3 (sam_mono b3 (fun a ha => by unfold ivl at *; omega))
    refine Mp_acts hm2 ?_
    intro G3 c1 c2
    rw [Mo_ik c1, show iv 0 = iv ((0 : Nat) : Int) from rfl]
    refine Ms_ik c1 (by decide) ?_
    intro G4 d1 d2
    rw [Mo_ik d1, show iv 1 = iv ((1 : Nat) : Int) from rfl]
    refine Ms_ik d1 (by decide) ?_
    intro G5 e1 e2
    have hR : Rw f' (rdA A.tx 99 0 S0).2 := Rw_cg (a2 ‹_›) hok b2
    rw [Mo_nw e1, v_I (fun P => c_stepsOf (d := d + 6) (P := P) (Ma_nw e1) hR)]
    refine ⟨rfl, ⟨_, e1, hI.1, ⟨hR, hok⟩, ⟨rfl, hI.2.2.1.2.1, hI.2.2.1.2.2.1, Nat.zero_le _⟩, fun i h1 h2 => absurd (Nat.le_trans h1 h2) (by show ¬ 1 ≤ 0; decide), ?_⟩, sam_tr (sam_tr (sam_tr s2 c2) d2) e2⟩
    intro j hj
    refine ⟨?_, fun z => by cases z⟩
    show upd (upd M.ik 0 _) 1 _ j = iv 0
    unfold upd
    rcases (by omega : j = 0 ∨ j = 1) with rfl | rfl
    · rw [if_neg (by decide), if_pos rfl]; exact iv_nar2 (Or.inl rfl)
    · rw [if_pos rfl]; exact iv_nar2 (Or.inl rfl)
  · have e : s_load A = (-3, A) := by unfold s_load; rw [if_neg c1]
    rw [e, if_neg (by rw [iv_eq hrg (by decide)]; exact c1)]
    exact ⟨rfl, ⟨_, a1, hI'⟩, a3⟩
end MS1
