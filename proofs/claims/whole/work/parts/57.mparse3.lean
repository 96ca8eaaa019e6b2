-- uses 41 42 43 44 45 46 47 48 49 50 51 52 53 54 55 56
/-! the reference's reader: items, the text -/
theorem Rw_b {f f' : Nat → Int32} {S : Sc} {n : Nat} {r : Bool × Nat × List Nat} (h : Rw f S) (ho : okS S) (hn : n < 4) (hb : bPost n f f' r) (hr : r.1 = true) (hl : r.2.2.length ≤ 30) : Rw f' (Sc.mk (upB S.b n r.2.2) S.u S.v) := by
  refine ⟨fun k hk => ?_, fun k hk => ⟨?_, fun z => ⟨?_, fun y => ?_⟩⟩⟩
  · show f' (31 * k) = iv ((upB S.b n r.2.2 k).length : Nat) ∧ ∀ i, i < (upB S.b n r.2.2 k).length → f' (31 * k + 1 + i) = iv (chr ((upB S.b n r.2.2 k).getD i 0) : Nat)
    unfold upB
    by_cases c : k = n
    · rw [if_pos c, c]
      exact hb.2 hr
    · rw [if_neg c]
      have h1 := h.1 k hk
      have h2 := (ho.1 k hk).1
      refine ⟨?_, fun i hi => ?_⟩
      · rw [hb.1 _ (by omega)]; exact h1.1
      · rw [hb.1 _ (by omega)]; exact h1.2 i hi
  · rw [hb.1 _ (by omega)]; exact (h.2 k hk).1
  · rw [hb.1 _ (by omega)]; exact ((h.2 k hk).2 z).1
  · rw [hb.1 _ (by omega)]; exact ((h.2 k hk).2 z).2 y
theorem Rw_t {f f' : Nat → Int32} {S : Sc} {k0 : Nat} {r : Bool × Nat × Nat × Nat} (h : Rw f S) (ho : okS S) (hb : sPost (124 + 3 * k0) f f' r) (hr : r.1 = true) : Rw f' (Sc.mk S.b (upI S.u k0 (r.2.2.1 : Nat)) (upI S.v k0 (r.2.2.2 : Nat))) := by
  refine ⟨fun k hk => ?_, fun k hk => ?_⟩
  · have h1 := h.1 k hk
    have h2 := (ho.1 k hk).1
    refine ⟨?_, fun i hi => ?_⟩
    · rw [hb.1 _ (by omega)]; exact h1.1
    · have hi2 : i < (S.b k).length := hi
      rw [hb.1 _ (by omega)]; exact h1.2 i hi
  · show f' (124 + 3 * k) = iv (if upI S.u k0 (r.2.2.1 : Nat) k = -1 then 0 else 1) ∧ (upI S.u k0 (r.2.2.1 : Nat) k ≠ -1 → f' (124 + 3 * k + 1) = iv (upI S.u k0 (r.2.2.1 : Nat) k) ∧ (k % 4 = 0 → f' (124 + 3 * k + 2) = iv (upI S.v k0 (r.2.2.2 : Nat) k)))
    unfold upI
    by_cases c : k = k0
    · rw [if_pos c, if_pos c, c]
      have := hb.2 hr
      refine ⟨?_, fun _ => ⟨this.2.1, fun _ => this.2.2⟩⟩
      rw [if_neg (by omega)]
      exact this.1
    · rw [if_neg c, if_neg c]
      have h1 := h.2 k hk
      refine ⟨?_, fun z => ⟨?_, fun y => ?_⟩⟩
      · rw [hb.1 _ (by omega)]; exact h1.1
      · rw [hb.1 _ (by omega)]; exact (h1.2 z).1
      · rw [hb.1 _ (by omega)]; exact (h1.2 z).2 y
section MR3
variable {E : Ev} {d : Nat} {G : Hp} {P : Po} {m : Nat} {tx : List Nat}
def iPost (tx : List Nat) (r : Bool × Nat × Sc) (z : Int) (rd' : Nat → Int32) : Prop := (r.1 = true → 0 ≤ z ∧ (r.2.1 : Int) = z + 1 ∧ chA tx z.toNat 59 ∧ Rw rd' r.2.2) ∧ (¬ r.1 = true → (z < 0 ∧ -1 - z = r.2.1) ∨ (0 ≤ z ∧ z = r.2.1 ∧ ¬ chA tx z.toNat 59)) ∧ z ≤ tx.length ∧ -200 ≤ z
theorem c_mReadItem {p : Nat} {M : Md} {S : Sc} (hp : p < tx.length) (hm : Mo E G m M) (ht : TxM M tx) (hR : Rw M.rd S) (hS : okS S) : runs E (d + 6) i_X7_readItem [.ref m, .int (iv (p : Int))] G (fun v G1 => ∃ z rd', v = some (.int (iv z)) ∧ Mo E G1 m (Md.mk M.len M.acts M.nxt M.ts M.bs M.lab M.xp M.sta M.tx M.nw M.tr rd' M.di M.ke M.ik M.te M.bu M.va M.ju M.ma) ∧ iPost tx (rdI tx S p) z rd' ∧ sam E G G1 (ivl m 13)) := by
  refine e_X7_readItem ?_
  have hl99 := ht.2.2.1
  have hc := ht.2.2.2 p hp
  have es : sAt tx p = sy (tx.getD p 0) := by
    unfold sAt
    rw [if_pos hp]
  rw [Mo_tx hm, Mg_tx hm (by omega), ht.2.1 p hp, v_I (fun P => c_ntS (d := d + 3) (P := P) hc), ← es]
  by_cases c : 4 ≤ sAt tx p ∧ sAt tx p < 8
  · rw [if_pos c]
    have hn4 : sAt tx p - 4 < 4 := by omega
    have er : rdI tx S p = ((rdR tx (sAt tx p - 4) (p + 1)).1, (rdR tx (sAt tx p - 4) (p + 1)).2.1, if (rdR tx (sAt tx p - 4) (p + 1)).1 = true then (Sc.mk (upB S.b (sAt tx p - 4) (rdR tx (sAt tx p - 4) (p + 1)).2.2) S.u S.v) else S) := by
      unfold rdI
      rw [if_pos c]
    rw [er]
    generalize hgn : sAt tx p - 4 = n at *
    simp (disch := first | assumption | omega | decide) only [iv_eq]
    rw [if_neg (by omega), Mo_lt hm ht, i_s]
    simp (disch := first | assumption | omega | decide) only [iv_le]
    have bad1 : ¬ chA tx (p + 1) 61 → ∃ z rd', some (Value.int (iv (-2) - iv (p : Int))) = some (.int (iv z)) ∧ Mo E G m (Md.mk M.len M.acts M.nxt M.ts M.bs M.lab M.xp M.sta M.tx M.nw M.tr rd' M.di M.ke M.ik M.te M.bu M.va M.ju M.ma) ∧ iPost tx ((rdR tx n (p + 1)).1, (rdR tx n (p + 1)).2.1, if (rdR tx n (p + 1)).1 = true then (Sc.mk (upB S.b n (rdR tx n (p + 1)).2.2) S.u S.v) else S) z rd' ∧ sam E G G (ivl m 13) := by
      intro hb
      have er2 : rdR tx n (p + 1) = (false, p + 1, []) := by
        unfold rdR
        rw [if_neg hb]
      rw [er2]
      refine ⟨-2 - p, M.rd, by rw [iv_sub], hm, ⟨fun z => (by cases z), fun _ => Or.inl ⟨by omega, ?_⟩, by omega, by omega⟩, sam_rf⟩
      show -1 - (-2 - (p : Int)) = ((p + 1 : Nat) : Int)
      omega
    by_cases c1 : tx.length ≤ p + 1
    · rw [if_pos (by omega)]
      exact bad1 (by unfold chA; omega)
    · have hc1 := ht.2.2.2 (p + 1) (by omega)
      rw [if_neg (by omega), Mo_tx hm, Mg_tx hm (by omega), ht.2.1 (p + 1) (by omega)]
      simp (disch := first | assumption | omega | decide) only [iv_eq]
      by_cases c2 : tx.getD (p + 1) 0 = 61
      · rw [if_neg (by omega), Mo_rc hm, show iv (p : Int) + iv 2 = iv ((p + 2 : Nat) : Int) by rw [iv_add]; rfl]
        refine ⟨trivial, u_I (c_mReadBody (d := d) (n := n) (fr := p + 2) (tx := tx) hn4 (by omega) hm ht) ?_⟩
        rintro v G1 ⟨rfl, ⟨rd', a1, a2⟩, a3⟩
        refine ⟨_, rfl, _, rd', rfl, a1, ?_, a3⟩
        have hbl := rdB_l (tx := tx) (n := n) 30 1 (p + 2) [] (by omega)
        have hcc : chA tx (p + 1) 61 := ⟨by omega, c2⟩
        by_cases c3 : (rdB tx n 30 1 (p + 2) []).1 = true
        · rw [if_pos c3]
          by_cases c4 : chA tx (rdB tx n 30 1 (p + 2) []).2.1 59
          · have er2 : rdR tx n (p + 1) = (true, (rdB tx n 30 1 (p + 2) []).2.1 + 1, (rdB tx n 30 1 (p + 2) []).2.2) := by
              unfold rdR
              rw [if_pos hcc, if_pos c3, if_pos c4]
            rw [er2]
            refine ⟨fun _ => ⟨by omega, rfl, c4, ?_⟩, fun z => absurd rfl z, by omega, by omega⟩
            rw [if_pos rfl]
            exact Rw_b (r := rdB tx n 30 1 (p + 2) []) hR hS hn4 a2 c3 (rdB_okB c3).1
          · have er2 : rdR tx n (p + 1) = (false, (rdB tx n 30 1 (p + 2) []).2.1, []) := by
              unfold rdR
              rw [if_pos hcc, if_pos c3, if_neg c4]
            rw [er2]
            exact ⟨fun z => (by cases z), fun _ => Or.inr ⟨by omega, rfl, c4⟩, by omega, by omega⟩
        · rw [if_neg c3]
          have er2 : rdR tx n (p + 1) = (false, (rdB tx n 30 1 (p + 2) []).2.1, []) := by
            unfold rdR
            rw [if_pos hcc, if_neg c3]
          rw [er2]
          refine ⟨fun z => (by cases z), fun _ => Or.inl ⟨by omega, ?_⟩, by omega, by omega⟩
          show -1 - (-1 - ((rdB tx n 30 1 (p + 2) []).2.1 : Int)) = ((rdB tx n 30 1 (p + 2) []).2.1 : Int)
          omega
      · rw [if_pos (by omega)]
        exact bad1 (fun z => c2 z.2)
  · rw [if_neg c]
    simp only [if_true]
    rw [Mo_tx hm, Mg_tx hm (by omega), ht.2.1 p hp, v_I (fun P => c_in (d := d + 4) (P := P) (i64 (a := ((tx.getD p 0 : Nat) : Int)) (by constructor <;> omega)) (b := 48) (c := 50) rfl rfl)]
    simp only [tf_0]
    have ed : dg tx p < 3 ↔ (48 ≤ ((tx.getD p 0 : Nat) : Int) ∧ ((tx.getD p 0 : Nat) : Int) ≤ 50) := by
      unfold dg
      split
      · next z => omega
      · next z =>
        have : ¬ (48 ≤ tx.getD p 0 ∧ tx.getD p 0 ≤ 50) := fun y => z ⟨hp, y⟩
        omega
    by_cases c1 : dg tx p < 3
    · rw [if_neg (fun z => z (ed.mp c1)), Mo_rc hm]
      have er : rdI tx S p = ((rdT tx (p + 1)).1, (rdT tx (p + 1)).2.1, if (rdT tx (p + 1)).1 = true then (Sc.mk S.b (upI S.u (4 * dg tx p + sAt tx (p + 1)) ((rdT tx (p + 1)).2.2.1 : Nat)) (upI S.v (4 * dg tx p + sAt tx (p + 1)) ((rdT tx (p + 1)).2.2.2 : Nat))) else S) := by
        unfold rdI
        rw [if_neg c, if_pos c1]
      rw [er]
      refine ⟨trivial, u_I (c_mReadStep (d := d + 2) (tx := tx) hp c1 hm ht) ?_⟩
      rintro v G1 ⟨rfl, ⟨rd', a1, a2⟩, a3⟩
      refine ⟨_, rfl, _, rd', rfl, a1, ?_, a3⟩
      by_cases c2 : sAt tx (p + 1) < 4
      · have e1 : rdT' tx (p + 1) = rdD tx (ar (sAt tx (p + 1))) 1 (p + 1 + 1) 0 0 := by
          unfold rdT'
          rw [if_pos c2]
        have e2 : rdT tx (p + 1) = rdC tx (ar (sAt tx (p + 1))) 1 (p + 1 + 1) 0 0 := by
          unfold rdT
          rw [if_pos c2]
        have hp1 : p + 1 + 1 ≤ tx.length := by
          unfold sAt at c2
          split at c2 <;> omega
        rw [rdC_D, ← e1] at e2
        have hb := rdD_p (tx := tx) (ar (sAt tx (p + 1))) 1 (p + 1 + 1) 0 0 hp1
        rw [← e1] at hb
        by_cases c3 : (rdT' tx (p + 1)).1 = true
        · rw [if_pos c3] at e2 ⊢
          by_cases c4 : chA tx (rdT' tx (p + 1)).2.1 59
          · rw [if_pos c4] at e2
            rw [e2]
            refine ⟨fun _ => ⟨by omega, rfl, c4, ?_⟩, fun z => absurd rfl z, by omega, by omega⟩
            rw [if_pos rfl]
            exact Rw_t (r := rdT' tx (p + 1)) hR hS (a2 c3) c3
          · rw [if_neg c4] at e2
            rw [e2]
            exact ⟨fun z => (by cases z), fun _ => Or.inr ⟨by omega, rfl, c4⟩, by omega, by omega⟩
        · rw [if_neg c3] at e2 ⊢
          rw [e2]
          refine ⟨fun z => (by cases z), fun _ => Or.inl ⟨by omega, ?_⟩, by omega, by omega⟩
          show -1 - (-1 - ((rdT' tx (p + 1)).2.1 : Int)) = ((rdT' tx (p + 1)).2.1 : Int)
          omega
      · have e1 : rdT' tx (p + 1) = (false, p + 1, 0, 0) := by
          unfold rdT'
          rw [if_neg c2]
        have e2 : rdT tx (p + 1) = (false, p + 1, 0, 0) := by
          unfold rdT
          rw [if_neg c2]
        rw [e1, e2]
        refine ⟨fun z => (by cases z), fun _ => Or.inl ⟨?_, ?_⟩, ?_, ?_⟩
        · rw [if_neg (by simp)]
          show -1 - ((p + 1 : Nat) : Int) < 0
          omega
        · rw [if_neg (by simp)]
          show -1 - (-1 - ((p + 1 : Nat) : Int)) = ((p + 1 : Nat) : Int)
          omega
        · rw [if_neg (by simp)]
          show -1 - ((p + 1 : Nat) : Int) ≤ _
          omega
        · rw [if_neg (by simp)]
          show -200 ≤ -1 - ((p + 1 : Nat) : Int)
          omega
    · rw [if_pos (fun z => c1 (ed.mpr z))]
      have er : rdI tx S p = (false, p, S) := by
        unfold rdI
        rw [if_neg c, if_neg c1]
      rw [er]
      refine ⟨-1 - p, M.rd, by rw [iv_sub], hm, ⟨fun z => (by cases z), fun _ => Or.inl ⟨by omega, ?_⟩, by omega, by omega⟩, sam_rf⟩
      show -1 - (-1 - (p : Int)) = (p : Int)
      omega
theorem c_mrtL : ∀ (k p : Nat) (S : Sc) (G1 : Hp) (M : Md), p ≤ tx.length → tx.length ≤ p + k → Mo E G1 m M → TxM M tx → Rw M.rd S → okS S → sam E G G1 (ivl m 13) → (∀ G2 rd', Mo E G2 m (Md.mk M.len M.acts M.nxt M.ts M.bs M.lab M.xp M.sta M.tx M.nw M.tr rd' M.di M.ke M.ik M.te M.bu M.va M.ju M.ma) → ((rdA tx k p S).1 = -9 → Rw rd' (rdA tx k p S).2) → sam E G G2 (ivl m 13) → P (some (.int (iv (rdA tx k p S).1))) G2) → Xr E (d + 6) x_X7_readText 9 [some (.ref m), some (.int (iv (p : Int)))] [] G1 P := by
  intro k
  induction k with
  | zero =>
    intro p S G1 M hp hk hm ht hR hS hs hP
    have hl99 := ht.2.2.1
    refine g_X7_readText_9 ?_
    rw [Mo_lt hm ht]
    simp (disch := first | assumption | omega | decide) only [iv_le]
    rw [if_pos (by omega)]
    exact hP G1 M.rd hm (fun _ => hR) hs
  | succ k ih =>
    intro p S G1 M hp hk hm ht hR hS hs hP
    have hl99 := ht.2.2.1
    refine g_X7_readText_9 ?_
    rw [Mo_lt hm ht]
    simp (disch := first | assumption | omega | decide) only [iv_le]
    unfold rdA at hP
    by_cases c : p < tx.length
    · rw [if_neg (by omega), Mo_rc hm]
      simp only [if_pos c] at hP
      refine ⟨trivial, u_I (c_mReadItem (d := d) c hm ht hR hS) ?_⟩
      rintro v G2 ⟨z, rd', rfl, a1, ⟨b1, b2, b3, b4⟩, a3⟩
      refine ⟨_, rfl, ?_⟩
      have ht2 : TxM (Md.mk M.len M.acts M.nxt M.ts M.bs M.lab M.xp M.sta M.tx M.nw M.tr rd' M.di M.ke M.ik M.te M.bu M.va M.ju M.ma) tx := ht
      have hrz : Rg z := by constructor <;> omega
      simp (disch := first | assumption | omega | decide) only [iv_0le]
      by_cases c1 : (rdI tx S p).1 = true
      · obtain ⟨d1, d2, d3, d4⟩ := b1 c1
        obtain ⟨zn, rfl⟩ := Int.eq_ofNat_of_zero_le d1
        rw [if_pos d1, Mo_lt a1 ht2]
        simp (disch := first | assumption | omega | decide) only [iv_eq]
        have d31 : zn < tx.length := d3.1
        have d32 : tx.getD zn 0 = 59 := d3.2
        rw [if_neg (by omega), Mo_tx a1, Mg_tx a1 (by omega), ht2.2.1 zn d31, d32, if_pos (show iv ((59 : Nat) : Int) = iv 59 from rfl), i_s]
        simp only [if_pos c1] at hP
        have e2 : (rdI tx S p).2.1 = zn + 1 := by omega
        rw [← e2]
        have hip := rdI_p c1
        exact ih _ _ G2 _ hip.2 (by omega) a1 ht2 d4 (rdI_ok hS) (sam_tr hs a3) hP
      · simp only [if_neg c1] at hP
        have key := hP G2 rd' a1 (fun z => by omega) (sam_tr hs a3)
        rcases b2 c1 with ⟨d1, d2⟩ | ⟨d1, d2, d3⟩
        · rw [if_neg (by omega), iv_sub, d2]
          exact key
        · obtain ⟨zn, rfl⟩ := Int.eq_ofNat_of_zero_le d1
          have e2 : (rdI tx S p).2.1 = zn := by omega
          rw [e2] at key
          rw [if_pos d1, Mo_lt a1 ht2]
          simp (disch := first | assumption | omega | decide) only [iv_eq]
          by_cases c2 : (zn : Int) = tx.length
          · rw [if_pos c2]
            exact key
          · have hz : zn < tx.length := by omega
            have hc := ht2.2.2.2 zn hz
            rw [if_neg c2, Mo_tx a1, Mg_tx a1 (by omega), ht2.2.1 zn hz]
            simp (disch := first | assumption | omega | decide) only [iv_eq]
            rw [if_neg (fun y => d3 ⟨hz, by rw [Int.toNat_natCast]; omega⟩)]
            exact key
    · rw [if_pos (by omega)]
      simp only [if_neg c] at hP
      exact hP G1 M.rd hm (fun _ => hR) hs
theorem c_readText {M : Md} (hm : Mo E G m M) (ht : TxM M tx) : runs E (d + 7) i_X7_readText [.ref m] G (fun v G1 => v = some (.int (iv (rdA tx 99 0 S0).1)) ∧ (∃ rd', Mo E G1 m (Md.mk M.len M.acts M.nxt M.ts M.bs M.lab M.xp M.sta M.tx M.nw M.tr rd' M.di M.ke M.ik M.te M.bu M.va M.ju M.ma) ∧ ((rdA tx 99 0 S0).1 = -9 → Rw rd' (rdA tx 99 0 S0).2)) ∧ sam E G G1 (ivl m 13)) := by
  refine e_X7_readText ?_
  have hl99 := ht.2.2.1
  rw [Mo_rd hm]
  refine u_V (c_clear (d := d + 5) (Ma_rd hm)) ?_
  rintro v G1 ⟨rfl, ⟨f', a1, a2⟩, a3⟩
  refine ⟨rfl, ?_⟩
  obtain ⟨p1, p2⟩ := Mx_rd hm a3 a1
  exact c_mrtL (G := G) (tx := tx) 99 0 S0 G1 _ (by omega) (by omega) p1 ht a2 okS_0 p2 (fun G2 rd' b1 b2 b3 => ⟨rfl, ⟨rd', b1, b2⟩, b3⟩)
end MR3
