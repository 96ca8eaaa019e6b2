-- uses 41 42 43 44 45 46 47 48 49 50 51 52 53 54 55
/-! the reference's reader: transitions, items, the text -/
def rdD (tx : List Nat) : Nat → Nat → Nat → Nat → Nat → Bool × Nat × Nat × Nat
  | 0, _, p, q1, q2 => (true, p, q1, q2)
  | m + 1, c, p, q1, q2 => if dg tx p < 3 then (if c = 1 then rdD tx m (c + 1) (p + 1) (dg tx p) q2 else rdD tx m (c + 1) (p + 1) q1 (dg tx p)) else (false, p, q1, q2)
theorem rdC_D {tx : List Nat} : ∀ (m c p q1 q2 : Nat), rdC tx m c p q1 q2 = if (rdD tx m c p q1 q2).1 = true then (if chA tx (rdD tx m c p q1 q2).2.1 59 then (true, (rdD tx m c p q1 q2).2.1 + 1, (rdD tx m c p q1 q2).2.2) else (false, (rdD tx m c p q1 q2).2.1, (rdD tx m c p q1 q2).2.2)) else (false, (rdD tx m c p q1 q2).2.1, (rdD tx m c p q1 q2).2.2) := by
  intro m
  induction m with
  | zero =>
    intro c p q1 q2
    unfold rdC rdD
    rw [if_pos rfl]
  | succ m ih =>
    intro c p q1 q2
    unfold rdC rdD
    by_cases c1 : dg tx p < 3
    · simp only [if_pos c1]
      by_cases c2 : c = 1
      · simp only [if_pos c2]
        exact ih _ _ _ _
      · simp only [if_neg c2]
        exact ih _ _ _ _
    · simp only [if_neg c1]
      simp
theorem rdD_p {tx : List Nat} : ∀ (m c p q1 q2 : Nat), p ≤ tx.length → p ≤ (rdD tx m c p q1 q2).2.1 ∧ (rdD tx m c p q1 q2).2.1 ≤ tx.length := by
  intro m
  induction m with
  | zero => intro c p q1 q2 h; exact ⟨Nat.le_refl _, h⟩
  | succ m ih =>
    intro c p q1 q2 h
    unfold rdD
    by_cases c1 : dg tx p < 3
    · have hp : p < tx.length := by
        unfold dg at c1
        split at c1
        · next z => exact z.1
        · omega
      rw [if_pos c1]
      split
      · have := ih (c + 1) (p + 1) (dg tx p) q2 hp
        omega
      · have := ih (c + 1) (p + 1) q1 (dg tx p) hp
        omega
    · rw [if_neg c1]
      exact ⟨Nat.le_refl _, h⟩
theorem rdB_l {tx : List Nat} {n : Nat} : ∀ (k o p : Nat) (acc : List Nat), p ≤ tx.length → (rdB tx n k o p acc).2.1 ≤ tx.length := by
  intro k
  induction k with
  | zero => intro o p acc h; exact h
  | succ k ih =>
    intro o p acc h
    unfold rdB
    split
    · exact h
    · split
      · next c =>
        refine ih _ _ _ ?_
        unfold may sAt at c
        split at c <;> omega
      · exact h
section MR2
variable {E : Ev} {d : Nat} {G : Hp} {P : Po} {m : Nat} {tx : List Nat}
theorem Mo_lt {M : Md} {F : Int32 → Prop} (hm : Mo E G m M) (ht : TxM M tx) : qFI E G m 7 1 F = F (iv (tx.length : Int)) := by rw [Mo_len hm, ht.1]
def sPost (i : Nat) (rd0 rd' : Nat → Int32) (r : Bool × Nat × Nat × Nat) : Prop := (∀ j, j < i ∨ i + 3 ≤ j → rd' j = rd0 j) ∧ (r.1 = true → rd' i = iv 1 ∧ rd' (i + 1) = iv (r.2.2.1 : Nat) ∧ rd' (i + 2) = iv (r.2.2.2 : Nat))
theorem c_msL {t i : Nat} {rd0 : Nat → Int32} {z1 z2 : Int32} (ht4 : t < 4) (hi : i + 3 ≤ 160) : ∀ (k c p q1 q2 : Nat) (G1 : Hp) (M : Md) (l7 : Option Value), c + k = ar t + 1 → 1 ≤ c → p ≤ tx.length → Mo E G1 m M → TxM M tx → (∀ j, j < i ∨ i + 3 ≤ j → M.rd j = rd0 j) → M.rd (i + 1) = iv (q1 : Int) → M.rd (i + 2) = iv (q2 : Int) → sam E G G1 (ivl m 13) → (∀ G2 rd', Mo E G2 m (Md.mk M.len M.acts M.nxt M.ts M.bs M.lab M.xp M.sta M.tx M.nw M.tr rd' M.di M.ke M.ik M.te M.bu M.va M.ju M.ma) → sPost i rd0 rd' (rdD tx k c p q1 q2) → sam E G G2 (ivl m 13) → P (some (.int (iv (if (rdD tx k c p q1 q2).1 = true then ((rdD tx k c p q1 q2).2.1 : Int) else -1 - (rdD tx k c p q1 q2).2.1)))) G2) → Xr E (d + 1) x_X7_readStep 88 [some (.ref m), some (.int z1), some (.int z2), some (.int (iv (t : Int))), some (.int (iv (i : Int))), some (.int (iv (p : Int))), some (.int (iv ((c - 1 : Nat) : Int))), l7] [] G1 P := by
  intro k
  have ha := ar_le t
  induction k with
  | zero =>
    intro c p q1 q2 G1 M l7 hc hc1 hp hm ht h1 h2 h3 hs hP
    refine g_X7_readStep_88 ?_
    rw [v_I (fun P => c_places (d := d) (P := P) ht4)]
    simp (disch := first | assumption | omega | decide) only [iv_le]
    rw [if_pos (by omega), Mo_rd hm]
    refine Ms_rd hm (by omega) ?_
    intro G2 a1 a2
    refine hP G2 _ a1 ⟨fun j hj => ?_, fun _ => ⟨?_, ?_, ?_⟩⟩ (sam_tr hs a2)
    · unfold upd
      rw [if_neg (by omega)]
      exact h1 j hj
    · unfold upd
      rw [if_pos rfl]
    · unfold upd
      rw [if_neg (by omega)]
      exact h2
    · unfold upd
      rw [if_neg (by omega)]
      exact h3
  | succ k ih =>
    intro c p q1 q2 G1 M l7 hc hc1 hp hm ht h1 h2 h3 hs hP
    refine g_X7_readStep_88 ?_
    rw [v_I (fun P => c_places (d := d) (P := P) ht4)]
    simp (disch := first | assumption | omega | decide) only [iv_le]
    have hl99 := ht.2.2.1
    rw [if_neg (by omega), Mo_lt hm ht]
    simp (disch := first | assumption | omega | decide) only [iv_le]
    unfold rdD at hP
    by_cases cp : tx.length ≤ p
    · rw [if_pos (by omega), v_I (fun P => c_in (d := d) (P := P) (i64 (a := -9) (by decide)) (b := 0) (c := 2) rfl rfl)]
      rw [tf_f (by omega), if_neg (by decide)]
      have e0 : ¬ dg tx p < 3 := by
        unfold dg
        split <;> omega
      rw [if_neg e0] at hP
      have := hP G1 M.rd hm ⟨h1, fun z => by cases z⟩ hs
      rw [if_neg (by simp)] at this
      rw [iv_sub]
      exact this
    · have hp2 : p < tx.length := by omega
      have hc255 := ht.2.2.2 p hp2
      rw [if_neg (by omega), Mo_tx hm, Mg_tx hm (by omega), ht.2.1 p hp2, iv_sub, v_I (fun P => c_in (d := d) (P := P) (i64 (a := ((tx.getD p 0 : Nat) : Int) - 48) (by constructor <;> omega)) (b := 0) (c := 2) rfl rfl)]
      simp only [tf_0, Classical.not_not]
      by_cases c1 : dg tx p < 3
      · have e1 : ((tx.getD p 0 : Nat) : Int) - 48 = (dg tx p : Nat) := by
          have := dg_eq c1
          rw [if_pos hp2] at this
          exact this
        rw [e1, if_pos (by omega), Mo_rd hm]
        rw [if_pos c1] at hP
        have e2 : iv (i : Int) + iv 1 + iv ((c - 1 : Nat) : Int) = iv ((i + c : Nat) : Int) := by
          rw [iv_add, iv_add]
          congr 1
          omega
        have e3 : iv ((c - 1 : Nat) : Int) + iv 1 = iv ((c + 1 - 1 : Nat) : Int) := by
          rw [iv_add]
          congr 1
          omega
        rw [e2, i_s, e3]
        refine Ms_rd hm (by omega) ?_
        intro G2 a1 a2
        by_cases c2 : c = 1
        · rw [if_pos c2] at hP
          refine ih (c + 1) (p + 1) (dg tx p) q2 G2 _ _ (by omega) (by omega) (by omega) a1 ht ?_ ?_ ?_ (sam_tr hs a2) hP
          · intro j hj
            show upd M.rd (i + c) _ j = _
            unfold upd
            rw [if_neg (by omega)]
            exact h1 j hj
          · show upd M.rd (i + c) _ (i + 1) = _
            unfold upd
            rw [if_pos (by omega)]
          · show upd M.rd (i + c) _ (i + 2) = _
            unfold upd
            rw [if_neg (by omega)]
            exact h3
        · rw [if_neg c2] at hP
          refine ih (c + 1) (p + 1) q1 (dg tx p) G2 _ _ (by omega) (by omega) (by omega) a1 ht ?_ ?_ ?_ (sam_tr hs a2) hP
          · intro j hj
            show upd M.rd (i + c) _ j = _
            unfold upd
            rw [if_neg (by omega)]
            exact h1 j hj
          · show upd M.rd (i + c) _ (i + 1) = _
            unfold upd
            rw [if_neg (by omega)]
            exact h2
          · show upd M.rd (i + c) _ (i + 2) = _
            unfold upd
            rw [if_pos (by omega)]
      · have e1 : ¬ (0 ≤ ((tx.getD p 0 : Nat) : Int) - 48 ∧ ((tx.getD p 0 : Nat) : Int) - 48 ≤ 2) := by
          intro z
          apply c1
          unfold dg
          rw [if_pos ⟨hp2, by omega, by omega⟩]
          omega
        rw [if_neg e1]
        rw [if_neg c1] at hP
        have := hP G1 M.rd hm ⟨h1, fun z => by cases z⟩ hs
        rw [if_neg (by simp)] at this
        rw [iv_sub]
        exact this
/-- a transition whose state stands at p -/
def rdT' (tx : List Nat) (p : Nat) : Bool × Nat × Nat × Nat := if sAt tx p < 4 then rdD tx (ar (sAt tx p)) 1 (p + 1) 0 0 else (false, p, 0, 0)
theorem c_mReadStep {p : Nat} {M : Md} (hp : p < tx.length) (hd : dg tx p < 3) (hm : Mo E G m M) (ht : TxM M tx) : runs E (d + 3) i_X7_readStep [.ref m, .int (iv (p : Int))] G (fun v G1 => v = some (.int (iv (if (rdT' tx (p + 1)).1 = true then ((rdT' tx (p + 1)).2.1 : Int) else -1 - (rdT' tx (p + 1)).2.1))) ∧ (∃ rd', Mo E G1 m (Md.mk M.len M.acts M.nxt M.ts M.bs M.lab M.xp M.sta M.tx M.nw M.tr rd' M.di M.ke M.ik M.te M.bu M.va M.ju M.ma) ∧ ((rdT' tx (p + 1)).1 = true → sPost (124 + 3 * (4 * dg tx p + sAt tx (p + 1))) M.rd rd' (rdT' tx (p + 1)))) ∧ sam E G G1 (ivl m 13)) := by
  refine e_X7_readStep ?_
  have hl99 := ht.2.2.1
  have e1 : ((tx.getD p 0 : Nat) : Int) - 48 = (dg tx p : Nat) := by
    have := dg_eq hd
    rw [if_pos hp] at this
    exact this
  rw [Mo_tx hm, Mg_tx hm (by omega), ht.2.1 p hp, Mo_lt hm ht, i_s, iv_sub, e1]
  simp (disch := first | assumption | omega | decide) only [iv_le]
  by_cases c : tx.length ≤ p + 1
  · have es : sAt tx (p + 1) = 10 := by
      unfold sAt
      rw [if_neg (by omega)]
    have er : rdT' tx (p + 1) = (false, p + 1, 0, 0) := by
      unfold rdT'
      rw [es, if_neg (by decide)]
    rw [if_pos (by omega), if_neg (by simp), er, if_neg (by simp), iv_sub]
    refine ⟨?_, ⟨M.rd, hm, fun z => by cases z⟩, sam_rf⟩
    congr 3
    show (-2 : Int) - p = -1 - ((p + 1 : Nat) : Int)
    omega
  · have hc := ht.2.2.2 (p + 1) (by omega)
    have es : sAt tx (p + 1) = sy (tx.getD (p + 1) 0) := by
      unfold sAt
      rw [if_pos (by omega)]
    rw [if_neg (by omega), Mo_tx hm, Mg_tx hm (by omega), ht.2.1 (p + 1) (by omega), v_I (fun P => c_teS (d := d) (P := P) hc), ← es]
    by_cases c1 : sAt tx (p + 1) < 4
    · have er : rdT' tx (p + 1) = rdD tx (ar (sAt tx (p + 1))) 1 (p + 1 + 1) 0 0 := by
        unfold rdT'
        rw [if_pos c1]
      rw [er, if_pos c1]
      simp (disch := first | assumption | omega | decide) only [iv_eq]
      rw [if_pos (by omega), Mo_rd hm]
      have e2 : iv 124 + iv 3 * (iv 4 * iv ((dg tx p : Nat) : Int) + iv ((sAt tx (p + 1) : Nat) : Int)) = iv ((124 + 3 * (4 * dg tx p + sAt tx (p + 1)) : Nat) : Int) := by
        rw [iv_mul, iv_add, iv_mul, iv_add]
        rfl
      have e3 : iv (p : Int) + iv 2 = iv ((p + 1 + 1 : Nat) : Int) := by rw [iv_add]; rfl
      have e4 : iv ((124 + 3 * (4 * dg tx p + sAt tx (p + 1)) : Nat) : Int) + iv 2 = iv ((124 + 3 * (4 * dg tx p + sAt tx (p + 1)) + 2 : Nat) : Int) := by rw [iv_add]; rfl
      rw [e2, e3, e4, i_s]
      refine Ms_rd hm (by omega) ?_
      intro G1 a1 a2
      rw [Mo_rd a1]
      refine Ms_rd a1 (by omega) ?_
      intro G2 b1 b2
      refine c_msL (G := G) (d := d + 1) (rd0 := M.rd) (tx := tx) c1 (by omega) (ar (sAt tx (p + 1))) 1 (p + 1 + 1) 0 0 G2 _ none (by omega) (by omega) (by omega) b1 ht ?_ ?_ ?_ (sam_tr a2 b2) ?_
      · intro j hj
        show upd (upd M.rd _ _) _ _ j = _
        unfold upd
        rw [if_neg (by omega), if_neg (by omega)]
      · show upd (upd M.rd _ _) _ _ _ = _
        unfold upd
        rw [if_neg (by omega), if_pos rfl]
        rfl
      · show upd (upd M.rd _ _) _ _ _ = _
        unfold upd
        rw [if_pos rfl]
        rfl
      · intro G3 rd' d1 d2 d3
        exact ⟨rfl, ⟨rd', d1, fun _ => d2⟩, d3⟩
    · have er : rdT' tx (p + 1) = (false, p + 1, 0, 0) := by
        unfold rdT'
        rw [if_neg c1]
      rw [if_neg c1, if_neg (by simp), er, if_neg (by simp), iv_sub]
      refine ⟨?_, ⟨M.rd, hm, fun z => by cases z⟩, sam_rf⟩
      congr 3
      show (-2 : Int) - p = -1 - ((p + 1 : Nat) : Int)
      omega
end MR2
