-- uses 41 42 43 44 45 46 47 48 49 50 51 52 53 54
/-! the reference's rows and its reader -/
def Rw (f : Nat → Int32) (S : Sc) : Prop := (∀ n, n < 4 → f (31 * n) = iv ((S.b n).length : Nat) ∧ ∀ i, i < (S.b n).length → f (31 * n + 1 + i) = iv (chr ((S.b n).getD i 0) : Nat)) ∧ ∀ k, k < 12 → f (124 + 3 * k) = iv (if S.u k = -1 then 0 else 1) ∧ (S.u k ≠ -1 → f (124 + 3 * k + 1) = iv (S.u k) ∧ (k % 4 = 0 → f (124 + 3 * k + 2) = iv (S.v k)))
theorem Rw_cg {f f' : Nat → Int32} {S : Sc} (h : Rw f S) (ho : okS S) (hf : ∀ j, j < 160 → f' j = f j) : Rw f' S := by
  refine ⟨fun n hn => ⟨?_, fun i hi => ?_⟩, fun k hk => ⟨?_, fun z => ⟨?_, fun y => ?_⟩⟩⟩
  · rw [hf _ (by omega)]; exact (h.1 n hn).1
  · have := (ho.1 n hn).1
    rw [hf _ (by omega)]; exact (h.1 n hn).2 i hi
  · rw [hf _ (by omega)]; exact (h.2 k hk).1
  · rw [hf _ (by omega)]; exact ((h.2 k hk).2 z).1
  · rw [hf _ (by omega)]; exact ((h.2 k hk).2 z).2 y
section MP
variable {E : Ev} {d : Nat} {G : Hp} {P : Po}
theorem nmul {a b : Nat} : iv (a : Int) * iv (b : Int) = iv ((a * b : Nat) : Int) := by rw [iv_mul]; rfl
theorem c_clrL {a : Nat} : ∀ (k n : Nat) (G1 : Hp) (f : Nat → Int32), 4 - n ≤ k → n ≤ 4 → gt E G1 a = some (cA 0 160 f) → (∀ j, j < n → f (31 * j) = iv 1 ∧ f (31 * j + 1) = iv 99) → (∀ j, 124 ≤ j → j < 160 → f j = iv 0) → sam E G G1 (ivl a 1) → (∀ G2 f', gt E G2 a = some (cA 0 160 f') → Rw f' S0 → sam E G G2 (ivl a 1) → P none G2) → Xr E d x_X7_clear 21 [some (.ref a), some (.int (iv (n : Int)))] [] G1 P := by
  intro k
  have fin : ∀ (f : Nat → Int32), (∀ j, j < 4 → f (31 * j) = iv 1 ∧ f (31 * j + 1) = iv 99) → (∀ j, 124 ≤ j → j < 160 → f j = iv 0) → Rw f S0 := by
    intro f h1 h2
    refine ⟨fun n hn => ⟨(h1 n hn).1, fun i hi => ?_⟩, fun k hk => ⟨h2 _ (by omega) (by omega), fun z => absurd rfl z⟩⟩
    have : i = 0 := by
      have : i < 1 := hi
      omega
    subst this
    exact (h1 n hn).2
  induction k with
  | zero =>
    intro n G1 f hk hn h h1 h2 hs hP
    refine g_X7_clear_21 ?_
    simp (disch := first | assumption | omega | decide) only [iv_le]
    rw [if_pos (by omega)]
    exact hP G1 f h (fin f (fun j hj => h1 j (by omega)) h2) hs
  | succ k ih =>
    intro n G1 f hk hn h h1 h2 hs hP
    refine g_X7_clear_21 ?_
    simp (disch := first | assumption | omega | decide) only [iv_le]
    by_cases c : (4 : Int) ≤ n
    · rw [if_pos c]
      exact hP G1 f h (fin f (fun j hj => h1 j (by omega)) h2) hs
    · rw [if_neg c]
      have e1 : iv 31 * iv (n : Int) = iv ((31 * n : Nat) : Int) := nmul (a := 31)
      have e2 : iv ((31 * n : Nat) : Int) + iv 1 = iv ((31 * n + 1 : Nat) : Int) := i_s
      rw [e1, u_ISn h (by omega), e2, u_ISn (gt_st_self (by rw [h]; rfl)) (by omega), i_s]
      refine ih (n + 1) _ _ (by omega) (by omega) (gt_st_self (by rw [gt_st_self (by rw [h]; rfl)]; rfl)) ?_ ?_ (sam_s (sam_s hs ⟨by omega, by omega⟩) ⟨by omega, by omega⟩) hP
      · intro j hj
        unfold upd
        by_cases c2 : j = n
        · subst c2
          rw [if_neg (by omega), if_pos rfl, if_pos rfl]
          exact ⟨rfl, rfl⟩
        · rw [if_neg (by omega), if_neg (by omega), if_neg (by omega), if_neg (by omega)]
          exact h1 j (by omega)
      · intro j hj1 hj2
        unfold upd
        rw [if_neg (by omega), if_neg (by omega)]
        exact h2 j hj1 hj2
theorem c_clrL1 {a : Nat} : ∀ (k n : Nat) (G1 : Hp) (f : Nat → Int32), 160 - n ≤ k → n ≤ 160 → gt E G1 a = some (cA 0 160 f) → (∀ j, j < n → f j = iv 0) → sam E G G1 (ivl a 1) → (∀ G2 f', gt E G2 a = some (cA 0 160 f') → Rw f' S0 → sam E G G2 (ivl a 1) → P none G2) → Xr E d x_X7_clear 2 [some (.ref a), some (.int (iv (n : Int)))] [] G1 P := by
  intro k
  induction k with
  | zero =>
    intro n G1 f hk hn h h1 hs hP
    refine g_X7_clear_2 ?_
    simp (disch := first | assumption | omega | decide) only [iv_le]
    rw [if_pos (by omega)]
    exact c_clrL (G := G) 4 0 G1 f (by omega) (by omega) h (fun j hj => absurd hj (Nat.not_lt_zero _)) (fun j _ hj => h1 j (by omega)) hs hP
  | succ k ih =>
    intro n G1 f hk hn h h1 hs hP
    refine g_X7_clear_2 ?_
    simp (disch := first | assumption | omega | decide) only [iv_le]
    by_cases c : (160 : Int) ≤ n
    · rw [if_pos c]
      exact c_clrL (G := G) 4 0 G1 f (by omega) (by omega) h (fun j hj => absurd hj (Nat.not_lt_zero _)) (fun j _ hj => h1 j (by omega)) hs hP
    · rw [if_neg c, u_ISn h (by omega), i_s]
      refine ih (n + 1) _ _ (by omega) (by omega) (gt_st_self (by rw [h]; rfl)) ?_ (sam_s hs ⟨by omega, by omega⟩) hP
      intro j hj
      unfold upd
      by_cases c2 : j = n
      · rw [if_pos c2]
      · rw [if_neg c2]
        exact h1 j (by omega)
theorem c_clear {a : Nat} {f : Nat → Int32} (h : gt E G a = some (cA 0 160 f)) : runs E (d + 1) i_X7_clear [.ref a] G (fun v G1 => v = none ∧ (∃ f', gt E G1 a = some (cA 0 160 f') ∧ Rw f' S0) ∧ sam E G G1 (ivl a 1)) := by
  refine e_X7_clear ?_
  exact c_clrL1 (G := G) 160 0 G f (by omega) (by omega) h (fun j hj => absurd hj (Nat.not_lt_zero _)) sam_rf (fun G2 f' h1 h2 h3 => ⟨rfl, ⟨f', h1, h2⟩, h3⟩)
theorem c_cpL {a b : Nat} {f : Nat → Int32} (hab : a ≠ b) : ∀ (k n : Nat) (G1 : Hp) (g : Nat → Int32), 160 - n ≤ k → n ≤ 160 → gt E G1 a = some (cA 0 160 f) → gt E G1 b = some (cA 0 160 g) → (∀ j, j < n → g j = f j) → sam E G G1 (ivl b 1) → (∀ G2 f', gt E G2 b = some (cA 0 160 f') → (∀ j, j < 160 → f' j = f j) → sam E G G2 (ivl b 1) → P none G2) → Xr E d x_X7_copy 2 [some (.ref a), some (.ref b), some (.int (iv (n : Int)))] [] G1 P := by
  intro k
  induction k with
  | zero =>
    intro n G1 g hk hn h h0 h1 hs hP
    refine g_X7_copy_2 ?_
    simp (disch := first | assumption | omega | decide) only [iv_le]
    rw [if_pos (by omega)]
    exact hP G1 g h0 (fun j hj => h1 j (by omega)) hs
  | succ k ih =>
    intro n G1 g hk hn h h0 h1 hs hP
    refine g_X7_copy_2 ?_
    simp (disch := first | assumption | omega | decide) only [iv_le]
    by_cases c : (160 : Int) ≤ n
    · rw [if_pos c]
      exact hP G1 g h0 (fun j hj => h1 j (by omega)) hs
    · rw [if_neg c, u_IAn h (by omega), u_ISn h0 (by omega), i_s]
      refine ih (n + 1) _ _ (by omega) (by omega) ((gt_st_ne hab).trans h) (gt_st_self (by rw [h0]; rfl)) ?_ (sam_s hs ⟨by omega, by omega⟩) hP
      intro j hj
      unfold upd
      by_cases c2 : j = n
      · rw [if_pos c2, c2]
      · rw [if_neg c2]
        exact h1 j (by omega)
theorem c_copy {a b : Nat} {f g : Nat → Int32} (hab : a ≠ b) (h : gt E G a = some (cA 0 160 f)) (h0 : gt E G b = some (cA 0 160 g)) : runs E (d + 1) i_X7_copy [.ref a, .ref b] G (fun v G1 => v = none ∧ (∃ f', gt E G1 b = some (cA 0 160 f') ∧ ∀ j, j < 160 → f' j = f j) ∧ sam E G G1 (ivl b 1)) := by
  refine e_X7_copy ?_
  exact c_cpL (G := G) hab 160 0 G g (by omega) (by omega) h h0 (fun j hj => absurd hj (Nat.not_lt_zero _)) sam_rf (fun G2 f' h1 h2 h3 => ⟨rfl, ⟨f', h1, h2⟩, h3⟩)
theorem c_soL {a : Nat} {f : Nat → Int32} {S : Sc} (h : gt E G a = some (cA 0 160 f)) (hr : Rw f S) : ∀ (k n : Nat), 12 - n ≤ k → n ≤ 12 → P (some (.int (iv (tcn S.u 12 : Nat)))) G → Xr E d x_X7_stepsOf 4 [some (.ref a), some (.int (iv (tcn S.u n : Nat))), some (.int (iv (n : Int)))] [] G P := by
  intro k
  induction k with
  | zero =>
    intro n hk hn hP
    refine g_X7_stepsOf_4 ?_
    simp (disch := first | assumption | omega | decide) only [iv_le]
    rw [if_pos (by omega)]
    have : n = 12 := by omega
    subst this
    exact hP
  | succ k ih =>
    intro n hk hn hP
    refine g_X7_stepsOf_4 ?_
    simp (disch := first | assumption | omega | decide) only [iv_le]
    by_cases c : (12 : Int) ≤ n
    · rw [if_pos c]
      have : n = 12 := by omega
      subst this
      exact hP
    · have hn2 : n < 12 := by omega
      have e1 : iv 124 + iv 3 * iv (n : Int) = iv ((124 + 3 * n : Nat) : Int) := by rw [iv_mul, iv_add]; rfl
      rw [if_neg c, e1, u_IAn h (by omega), (hr.2 n hn2).1, i_s]
      have := ih (n + 1) (by omega) (by omega) hP
      unfold tcn at this
      by_cases c2 : S.u n = -1
      · rw [if_pos c2] at this ⊢
        rw [iv_add]
        exact this
      · rw [if_neg c2] at this ⊢
        rw [iv_add]
        exact this
theorem c_stepsOf {a : Nat} {f : Nat → Int32} {S : Sc} (h : gt E G a = some (cA 0 160 f)) (hr : Rw f S) : runs E (d + 1) i_X7_stepsOf [.ref a] G P = P (some (.int (iv (tcn S.u 12 : Nat)))) G := by
  refine runs_one (fun P hP => e_X7_stepsOf ?_) P
  exact c_soL h hr 12 0 (by omega) (by omega) hP
end MP
def TxM (M : Md) (tx : List Nat) : Prop := M.len = tx.length ∧ (∀ i, i < tx.length → M.tx i = iv (tx.getD i 0 : Nat)) ∧ tx.length ≤ 99 ∧ ∀ i, i < tx.length → tx.getD i 0 ≤ 255
section MR
variable {E : Ev} {d : Nat} {G : Hp} {P : Po} {m : Nat} {tx : List Nat}
/-- what readBody leaves -/
def bPost (n : Nat) (rd0 rd' : Nat → Int32) (r : Bool × Nat × List Nat) : Prop := (∀ j, j < 31 * n ∨ 31 * n + 31 ≤ j → rd' j = rd0 j) ∧ (r.1 = true → rd' (31 * n) = iv (r.2.2.length : Nat) ∧ ∀ i, i < r.2.2.length → rd' (31 * n + 1 + i) = iv (chr (r.2.2.getD i 0) : Nat))
theorem c_mrbL {n fr : Nat} {rd0 : Nat → Int32} (hn : n < 4) (hfr : fr ≤ 99) : ∀ (k o p : Nat) (acc : List Nat) (G1 : Hp) (M : Md), k ≤ 30 → acc.length = 30 - k → p = fr + acc.length → p ≤ tx.length → o + k ≤ 100 → Mo E G1 m M → TxM M tx → (∀ j, j < 31 * n ∨ 31 * n + 31 ≤ j → M.rd j = rd0 j) → (∀ i, i < acc.length → M.rd (31 * n + 1 + i) = iv (chr (acc.getD i 0) : Nat)) → sam E G G1 (ivl m 13) → (∀ G2 rd', Mo E G2 m (Md.mk M.len M.acts M.nxt M.ts M.bs M.lab M.xp M.sta M.tx M.nw M.tr rd' M.di M.ke M.ik M.te M.bu M.va M.ju M.ma) → bPost n rd0 rd' (rdB tx n k o p acc) → sam E G G2 (ivl m 13) → P (some (.int (iv (if (rdB tx n k o p acc).1 = true then ((rdB tx n k o p acc).2.1 : Int) else -1 - (rdB tx n k o p acc).2.1)))) G2) → Xr E (d + 4) x_X7_readBody 15 [some (.ref m), some (.int (iv (n : Int))), some (.int (iv (fr : Int))), some (.int (iv (o : Int))), some (.int (iv (p : Int)))] [] G1 P := by
  intro k
  have zero : ∀ (k p : Nat) (acc : List Nat), rdB tx n k 0 p acc = (true, p, acc) := by
    intro k p acc
    cases k <;> simp [rdB]
  have ofin : ∀ (k p : Nat) (acc : List Nat) (G1 : Hp) (M : Md), k ≤ 30 → acc.length = 30 - k → p = fr + acc.length → Mo E G1 m M → (∀ j, j < 31 * n ∨ 31 * n + 31 ≤ j → M.rd j = rd0 j) → (∀ i, i < acc.length → M.rd (31 * n + 1 + i) = iv (chr (acc.getD i 0) : Nat)) → sam E G G1 (ivl m 13) → (∀ G2 rd', Mo E G2 m (Md.mk M.len M.acts M.nxt M.ts M.bs M.lab M.xp M.sta M.tx M.nw M.tr rd' M.di M.ke M.ik M.te M.bu M.va M.ju M.ma) → bPost n rd0 rd' (rdB tx n k 0 p acc) → sam E G G2 (ivl m 13) → P (some (.int (iv (if (rdB tx n k 0 p acc).1 = true then ((rdB tx n k 0 p acc).2.1 : Int) else -1 - (rdB tx n k 0 p acc).2.1)))) G2) → (qFR E G1 m 7 4 fun v1 => (qIS E G1 v1 (iv 31 * iv (n : Int)) (iv (p : Int) - iv (fr : Int)) fun G2 => P (some (.int (iv (p : Int)))) G2)) := by
    intro k p acc G1 M hk hl hp hm h1 h2 hs hP
    rw [Mo_rd hm, show iv 31 * iv (n : Int) = iv ((31 * n : Nat) : Int) from nmul (a := 31)]
    have e1 : iv (p : Int) - iv (fr : Int) = iv ((acc.length : Nat) : Int) := by
      rw [iv_sub]
      congr 1
      omega
    rw [e1]
    refine Ms_rd hm (by omega) ?_
    intro G2 a1 a2
    rw [zero] at hP
    refine hP G2 _ a1 ⟨fun j hj => ?_, fun _ => ⟨?_, fun i hi => ?_⟩⟩ (sam_tr hs a2)
    · unfold upd
      rw [if_neg (by omega)]
      exact h1 j hj
    · unfold upd
      rw [if_pos rfl]
    · unfold upd
      rw [if_neg (by omega)]
      exact h2 i hi
  induction k with
  | zero =>
    intro o p acc G1 M hk hl hp hpl ho hm ht h1 h2 hs hP
    refine g_X7_readBody_15 ?_
    simp (disch := first | assumption | omega | decide) only [iv_le0]
    by_cases c : o = 0
    · subst c
      rw [if_pos (by omega)]
      exact ofin 0 p acc G1 M hk hl hp hm h1 h2 hs hP
    · rw [if_neg (by omega), Mo_len hm, ht.1]
      have hl99 := ht.2.2.1
      simp (disch := first | assumption | omega | decide) only [iv_eq, iv_sub]
      have e0 : rdB tx n 0 o p acc = (false, p, acc) := by simp [rdB, c]
      rw [e0] at hP
      have := hP G1 M.rd hm ⟨h1, fun z => by cases z⟩ hs
      rw [if_neg (by simp)] at this
      by_cases c2 : (p : Int) = tx.length
      · rw [if_pos c2]
        exact this
      · rw [if_neg c2, if_pos (by omega)]
        exact this
  | succ k ih =>
    intro o p acc G1 M hk hl hp hpl ho hm ht h1 h2 hs hP
    refine g_X7_readBody_15 ?_
    simp (disch := first | assumption | omega | decide) only [iv_le0]
    by_cases c : o = 0
    · subst c
      rw [if_pos (by omega)]
      exact ofin (k + 1) p acc G1 M hk hl hp hm h1 h2 hs hP
    · rw [if_neg (by omega), Mo_len hm, ht.1]
      have hl99 := ht.2.2.1
      simp (disch := first | assumption | omega | decide) only [iv_eq]
      unfold rdB at hP
      rw [if_neg c] at hP
      by_cases c2 : p = tx.length
      · rw [if_pos (by omega)]
        have e0 : ¬ may n (sAt tx p) := by
          have : sAt tx p = 10 := by
            unfold sAt
            rw [if_neg (by omega)]
          rw [this]
          unfold may
          omega
        rw [if_neg e0] at hP
        have := hP G1 M.rd hm ⟨h1, fun z => by cases z⟩ hs
        rw [if_neg (by simp)] at this
        rw [iv_sub]
        exact this
      · have hpl2 : p < tx.length := by omega
        have hc := ht.2.2.2 p hpl2
        have es : sAt tx p = sy (tx.getD p 0) := by
          unfold sAt
          rw [if_pos hpl2]
        have e30 : iv (p : Int) - iv (fr : Int) = iv ((acc.length : Nat) : Int) := by
          rw [iv_sub]
          congr 1
          omega
        rw [if_neg (by omega), e30]
        simp (disch := first | assumption | omega | decide) only [iv_eq]
        rw [if_neg (by omega), Mo_tx hm, Mg_tx hm (by omega), ht.2.1 p hpl2, v_I (fun P => c_isAllowed (d := d) (P := P) hn hc)]
        simp only [tf_0, Classical.not_not]
        rw [← es]
        by_cases cm : may n (sAt tx p)
        · rw [if_pos cm, Mo_tx hm, Mg_tx hm (by omega), ht.2.1 p hpl2, v_I (fun P => c_wants (d := d + 1) (P := P) hc), Mo_rd hm, Mo_tx hm, Mg_tx hm (by omega), ht.2.1 p hpl2, ← es]
          rw [if_pos cm] at hP
          have hya := ar_le (sAt tx p)
          rw [if_neg (by unfold may at cm; omega)]
          have e1 : iv (o : Int) + (iv ((ar (sAt tx p) : Nat) : Int) - iv 1) = iv ((o - 1 + ar (sAt tx p) : Nat) : Int) := by
            rw [iv_sub, iv_add]
            congr 1
            omega
          have e2 : iv 31 * iv (n : Int) + iv 1 + iv (p : Int) - iv (fr : Int) = iv ((31 * n + 1 + acc.length : Nat) : Int) := by
            rw [iv_mul, iv_add, iv_add, iv_sub]
            congr 1
            omega
          rw [e1, e2, i_s]
          refine Ms_rd hm (by omega) ?_
          intro G2 a1 a2
          refine ih (o - 1 + ar (sAt tx p)) (p + 1) (acc ++ [sAt tx p]) G2 _ (by omega) (by simp; omega) (by simp; omega) (by omega) (by omega) a1 ht ?_ ?_ (sam_tr hs a2) ?_
          · intro j hj
            show upd M.rd (31 * n + 1 + acc.length) _ j = _
            unfold upd
            rw [if_neg (by omega)]
            exact h1 j hj
          · intro i hi
            show upd M.rd (31 * n + 1 + acc.length) _ (31 * n + 1 + i) = _
            simp at hi
            unfold upd
            by_cases c3 : i = acc.length
            · rw [if_pos (by omega), c3, gD_r (Nat.le_refl _)]
              simp
              have hsy : ∀ c : Fin 256, sy c.val < 10 → chr (sy c.val) = c.val := by decide +kernel
              have := hsy ⟨tx.getD p 0, by omega⟩ (by dsimp only [Sc_b, Sc_u, Sc_v, Md_len, Md_acts, Md_nxt, Md_ts, Md_bs, Md_lab, Md_xp, Md_sta, Md_tx, Md_nw, Md_tr, Md_rd, Md_di, Md_ke, Md_ik, Md_te, Md_bu, Md_va, Md_ju, Md_ma]; rw [← es]; exact cm.1)
              dsimp only [Sc_b, Sc_u, Sc_v, Md_len, Md_acts, Md_nxt, Md_ts, Md_bs, Md_lab, Md_xp, Md_sta, Md_tx, Md_nw, Md_tr, Md_rd, Md_di, Md_ke, Md_ik, Md_te, Md_bu, Md_va, Md_ju, Md_ma] at this
              rw [es, this]
              rfl
            · rw [if_neg (by omega), gD_l (by omega)]
              exact h2 i (by omega)
          · intro G3 rd' b1 b2 b3
            exact hP G3 rd' b1 b2 b3
        · rw [if_neg cm]
          rw [if_neg cm] at hP
          have := hP G1 M.rd hm ⟨h1, fun z => by cases z⟩ hs
          rw [if_neg (by simp)] at this
          rw [iv_sub]
          exact this
theorem c_mReadBody {n fr : Nat} {M : Md} (hn : n < 4) (hfr : fr ≤ tx.length) (hm : Mo E G m M) (ht : TxM M tx) : runs E (d + 5) i_X7_readBody [.ref m, .int (iv (n : Int)), .int (iv (fr : Int))] G (fun v G1 => v = some (.int (iv (if (rdB tx n 30 1 fr []).1 = true then ((rdB tx n 30 1 fr []).2.1 : Int) else -1 - (rdB tx n 30 1 fr []).2.1))) ∧ (∃ rd', Mo E G1 m (Md.mk M.len M.acts M.nxt M.ts M.bs M.lab M.xp M.sta M.tx M.nw M.tr rd' M.di M.ke M.ik M.te M.bu M.va M.ju M.ma) ∧ bPost n M.rd rd' (rdB tx n 30 1 fr [])) ∧ sam E G G1 (ivl m 13)) := by
  refine e_X7_readBody ?_
  rw [Mo_rd hm, show iv 31 * iv (n : Int) = iv ((31 * n : Nat) : Int) from nmul (a := 31)]
  refine Ms_rd hm (by omega) ?_
  intro G1 a1 a2
  have := ht.2.2.1
  refine c_mrbL (G := G) (rd0 := M.rd) (tx := tx) hn (by omega) 30 1 fr [] G1 _ (Nat.le_refl _) rfl rfl hfr (by omega) a1 ht ?_ (fun i hi => absurd hi (Nat.not_lt_zero _)) a2 ?_
  · intro j hj
    show upd M.rd (31 * n) _ j = _
    unfold upd
    rw [if_neg (by omega)]
  · intro G2 rd' b1 b2 b3
    exact ⟨rfl, ⟨rd', b1, b2⟩, b3⟩
end MR
