-- uses 41 42 43 44
/-! Term: expansion -/
section TM3
variable {E : Ev} {d : Nat} {G : Hp} {P : Po} {t cap : Nat}
theorem Tm_app {G1 : Hp} {xs ys zs : List Nat} (h : Tm E G1 t cap (if (ys.length : Int) ≤ (cap : Int) - xs.length then zs else xs)) (hc : xs.length + ys.length ≤ cap) : Tm E G1 t cap zs := by
  rw [if_pos (by omega)] at h
  exact h
/-- the loop of expand, from place i of the body on -/
theorem c_expLoop {s cs b cb : Nat} {src bd : List Nat} {at0 f1 s2 bh : Nat} (hts : t + 1 < s ∨ s + 1 < t) (htb : t + 1 < b ∨ b + 1 < t) (hf : f1 ≤ s2 ∧ s2 ≤ src.length ∧ bh ≤ src.length) (hy : s2 ≤ bh ∨ ∀ i, i < bd.length → bd.getD i 0 ≠ 9)
    :
    ∀ (n i : Nat) (G1 : Hp) (pre : List Nat), bd.length - i ≤ n → i ≤ bd.length → Tm E G1 s cs src → Tm E G1 b cb bd → Tm E G1 t cap pre → sam E G G1 (ivl t 2) →
    (∀ G2, sam E G G2 (ivl t 2) → (pre ++ sbl (slc src f1 s2) (slc src s2 bh) (bd.drop i)).length ≤ cap → Tm E G2 t cap (pre ++ sbl (slc src f1 s2) (slc src s2 bh) (bd.drop i)) → Xr E (d + 1) x_X2_expand 122 [some (.ref t), some (.ref s), some (.int (iv (at0 : Int))), some (.ref b), some (.int (iv (f1 : Int))), some (.int (iv (s2 : Int))), some (.int (iv (bh : Int))), some (.int (iv 1)), some (.int (iv (bd.length : Int)))] [] G2 P) →
    (∀ G2 zs j, sam E G G2 (ivl t 2) → ¬ (pre ++ sbl (slc src f1 s2) (slc src s2 bh) (bd.drop i)).length ≤ cap → Tm E G2 t cap zs → Xr E (d + 1) x_X2_expand 122 [some (.ref t), some (.ref s), some (.int (iv (at0 : Int))), some (.ref b), some (.int (iv (f1 : Int))), some (.int (iv (s2 : Int))), some (.int (iv (bh : Int))), some (.int (iv 0)), some (.int (iv (j : Int)))] [] G2 P) →
    Xr E (d + 1) x_X2_expand 37 [some (.ref t), some (.ref s), some (.int (iv (at0 : Int))), some (.ref b), some (.int (iv (f1 : Int))), some (.int (iv (s2 : Int))), some (.int (iv (bh : Int))), some (.int (iv 1)), some (.int (iv (i : Int)))] [] G1 P := by
  intro n
  induction n with
  | zero =>
    intro i G1 pre hn hi hs hb ht hsm k1 k2
    refine g_X2_expand_37 ?_
    have e : i = bd.length := by omega
    subst e
    have := hb.2.2.1
    rw [if_neg (by decide), Tm_l hb, if_pos (by rw [iv_le (by constructor <;> omega) (by constructor <;> omega)]; omega)]
    have e0 : bd.drop bd.length = [] := by simp
    rw [e0] at k1
    simp only [sbl, List.append_nil] at k1
    exact k1 G1 hsm ht.2.2.1.1 ht
  | succ n ih =>
    intro i G1 pre hn hi hs hb ht hsm k1 k2
    refine g_X2_expand_37 ?_
    have b4 := hb.2.2.1
    have b5 := hb.2.2.2
    rw [if_neg (by decide), Tm_l hb]
    simp (disch := first | assumption | omega | decide) only [iv_le]
    by_cases c : (bd.length : Int) ≤ i
    · rw [if_pos c]
      have e : i = bd.length := by omega
      subst e
      have e0 : bd.drop bd.length = [] := by simp
      rw [e0] at k1
      simp only [sbl, List.append_nil] at k1
      exact k1 G1 hsm ht.2.2.1.1 ht
    · rw [if_neg c]
      have hil : i < bd.length := by omega
      rw [dropC hil] at k1 k2
      have hy10 := b5 i hil
      have hgi : 0 ≤ (i : Int) ∧ (i : Int) < bd.length := by omega
      simp only [Tm_a hb, Tm_g hb hgi, Int.toNat_natCast, Tm_r ht, true_and]
      have r8 : (iv (bd.getD i 0 : Nat) = iv 8) = (bd.getD i 0 = 8) := by rw [iv_eq (by constructor <;> omega) (by decide)]; apply propext; omega
      have r9 : (iv (bd.getD i 0 : Nat) = iv 9) = (bd.getD i 0 = 9) := by rw [iv_eq (by constructor <;> omega) (by decide)]; apply propext; omega
      have r1 : iv (i : Int) + iv 1 = iv ((i + 1 : Nat) : Int) := by rw [iv_add]; rfl
      simp only [r8, r9, r1]
      generalize hyy : bd.getD i 0 = y at *
      have ht4 := ht.2.2.1
      have hs4 := hs.2.2.1
      -- what follows a piece that was put, or not
      have nxt : ∀ (piece : List Nat) (G2 : Hp), sbl (slc src f1 s2) (slc src s2 bh) (y :: bd.drop (i + 1)) = piece ++ sbl (slc src f1 s2) (slc src s2 bh) (bd.drop (i + 1)) → Tm E G2 t cap (if (piece.length : Int) ≤ (cap : Int) - pre.length then pre ++ piece else pre) → sam E G1 G2 (ivl t 2) → Xr E (d + 1) x_X2_expand 37 [some (.ref t), some (.ref s), some (.int (iv (at0 : Int))), some (.ref b), some (.int (iv (f1 : Int))), some (.int (iv (s2 : Int))), some (.int (iv (bh : Int))), some (.int (tf ((piece.length : Int) ≤ (cap : Int) - pre.length))), some (.int (iv ((i + 1 : Nat) : Int)))] [] G2 P := by
        intro piece G2 hpc ht2 hs2
        have hsm2 := sam_tr hsm hs2
        rw [hpc] at k1 k2
        by_cases cp : (piece.length : Int) ≤ (cap : Int) - pre.length
        · rw [tf_t cp]
          rw [if_pos cp] at ht2
          refine ih (i + 1) G2 (pre ++ piece) (by omega) (by omega) (Tm_sam hs hs2 (by unfold ivl; omega) (by unfold ivl; omega)) (Tm_sam hb hs2 (by unfold ivl; omega) (by unfold ivl; omega)) ht2 hsm2 ?_ ?_
          · rw [List.append_assoc]; exact k1
          · rw [List.append_assoc]; exact k2
        · rw [tf_f cp]
          rw [if_neg cp] at ht2
          refine g_X2_expand_37 ?_
          rw [if_pos (by decide)]
          refine k2 G2 pre (i + 1) hsm2 ?_ ht2
          simp only [List.length_append]
          omega
      by_cases c8 : y = 8
      · rw [if_neg (by omega)]
        refine runs_mono _ _ _ _ _ _ ?_ (c_addPart (d := d) ht hs hts (a := f1) (b := s2) (by constructor <;> omega) (by constructor <;> omega) (by constructor <;> omega))
        rintro v G2 ⟨rfl, q1, q2⟩
        dsimp only
        have el : (slc src f1 s2).length = s2 - f1 := slc_len hf.1 hf.2.1
        have := nxt (slc src f1 s2) G2 (by simp [sbl, c8]) (by
          simp only [Int.toNat_natCast] at q1
          rw [el]
          have e9 : (0 ≤ (f1 : Int) ∧ (f1 : Int) ≤ s2 ∧ (s2 : Int) ≤ src.length ∧ (s2 : Int) - f1 ≤ (cap : Int) - pre.length) ↔ (((s2 - f1 : Nat) : Int) ≤ (cap : Int) - pre.length) := by omega
          simp only [e9] at q1
          exact q1) q2
        rw [tf_c (q := (((slc src f1 s2).length : Nat) : Int) ≤ (cap : Int) - pre.length) (by rw [el]; omega)]
        exact this
      · rw [if_pos (by omega)]
        by_cases c9 : y = 9
        · rw [if_neg (by omega)]
          have hsb : s2 ≤ bh := by
            rcases hy with h | h
            · exact h
            · exact absurd (hyy.trans c9) (h i hil)
          refine runs_mono _ _ _ _ _ _ ?_ (c_addPart (d := d) ht hs hts (a := s2) (b := bh) (by constructor <;> omega) (by constructor <;> omega) (by constructor <;> omega))
          rintro v G2 ⟨rfl, q1, q2⟩
          dsimp only
          have el : (slc src s2 bh).length = bh - s2 := slc_len hsb hf.2.2
          have := nxt (slc src s2 bh) G2 (by simp [sbl, c9]) (by
            simp only [Int.toNat_natCast] at q1
            rw [el]
            have e9 : (0 ≤ (s2 : Int) ∧ (s2 : Int) ≤ bh ∧ (bh : Int) ≤ src.length ∧ (bh : Int) - s2 ≤ (cap : Int) - pre.length) ↔ (((bh - s2 : Nat) : Int) ≤ (cap : Int) - pre.length) := by omega
            simp only [e9] at q1
            exact q1) q2
          rw [tf_c (q := (((slc src s2 bh).length : Nat) : Int) ≤ (cap : Int) - pre.length) (by rw [el]; omega)]
          exact this
        · rw [if_pos (by omega)]
          refine runs_mono _ _ _ _ _ _ ?_ (c_add (d := d) ht (y := y) hy10)
          rintro v G2 ⟨rfl, q1, q2⟩
          dsimp only
          have := nxt [y] G2 (by simp [sbl, c8, c9]) (by
            have e9 : (pre.length < cap) ↔ ((([y] : List Nat).length : Int) ≤ (cap : Int) - pre.length) := by simp; omega
            simp only [e9] at q1
            exact q1) q2
          rw [tf_c (q := ((([y] : List Nat).length : Nat) : Int) ≤ (cap : Int) - pre.length) (by simp; omega)]
          exact this
theorem Tm_len0 {G : Hp} {xs : List Nat} (h : Tm E G t cap xs) (hl : xs.length ≤ 200) : True := trivial
theorem c_expand (hE : eA E < eB E) {s cs b cb : Nat} {zs src bd : List Nat} {at0 : Nat} (ht : Tm E G t cap zs) (hs : Tm E G s cs src) (hb : Tm E G b cb bd) (hts : t + 1 < s ∨ s + 1 < t) (htb : t + 1 < b ∨ b + 1 < t) (ha : at0 < src.length) (hac : at0 ≤ cap) (hy : e1o src at0 ≤ e2o src at0 ∨ ∀ i, i < bd.length → bd.getD i 0 ≠ 9) :
    runs E (d + 3) i_X2_expand [.ref t, .ref s, .int (iv (at0 : Int)), .ref b] G (fun v G1 => v = some (.int (tf ((xpd src at0 bd).length ≤ cap))) ∧ ((xpd src at0 bd).length ≤ cap → Tm E G1 t cap (xpd src at0 bd)) ∧ (∃ ws, Tm E G1 t cap ws) ∧ sam E G G1 (ivl t 2)) := by
  have hs4 := hs.2.2.1
  have ht4 := ht.2.2.1
  have hb4 := hb.2.2.1
  have l1 : e1o src at0 ≤ src.length := by
    have := eol_le (src.drop (at0 + 1)) 1
    rw [List.length_drop] at this
    unfold e1o
    omega
  have l2 : e2o src at0 ≤ src.length := by
    have := eol_le (src.drop at0) 1
    rw [List.length_drop] at this
    unfold e2o
    omega
  refine e_X2_expand ?_
  simp only [Tm_r hs, true_and]
  have r1 : iv (at0 : Int) + iv 1 = iv ((at0 + 1 : Nat) : Int) := by rw [iv_add]; rfl
  rw [r1, v_I (fun P => c_endOf (d := d) (P := P) hE hs (show at0 + 1 ≤ 200 by omega))]
  simp only [Tm_r hs, true_and]
  rw [v_I (fun P => c_endOf (d := d) (P := P) hE hs (show at0 ≤ 200 by omega))]
  rw [u_P ht.1 (by simp)]
  show rcv E (st E G t (cO 2 [.ref (t + 1), .int (iv 0)])) t 2 = true ∧ _
  have s1 : sam E G (st E G t (cO 2 [.ref (t + 1), .int (iv 0)])) (ivl t 2) := sam_st ⟨Nat.le_refl _, by omega⟩
  obtain ⟨h1, ⟨f, h2, h3⟩, h4, h5⟩ := ht
  have ht1 : Tm E (st E G t (cO 2 [.ref (t + 1), .int (iv 0)])) t cap [] := ⟨gt_st_self (by rw [h1]; rfl), ⟨f, (gt_st_ne (by omega)).trans h2, fun i hi => absurd hi (Nat.not_lt_zero _)⟩, ⟨Nat.zero_le _, h4.2⟩, fun i hi => absurd hi (Nat.not_lt_zero _)⟩
  have hs1 := Tm_sam hs s1 (by unfold ivl; omega) (by unfold ivl; omega)
  refine ⟨rcv_o ht1.1, ?_⟩
  refine u_I (c_addPart (d := d + 1) ht1 hs1 hts (a := 0) (b := at0) (by decide) (by constructor <;> omega) (by constructor <;> omega)) ?_
  rintro v G1 ⟨rfl, q1, q2⟩
  refine ⟨_, rfl, ?_⟩
  have e9 : (0 ≤ (0 : Int) ∧ (0 : Int) ≤ at0 ∧ (at0 : Int) ≤ src.length ∧ (at0 : Int) - 0 ≤ (cap : Int) - (([] : List Nat).length : Nat)) := by simp; omega
  rw [if_pos e9] at q1
  rw [tf_t e9]
  simp only [List.nil_append, Int.toNat_zero, Int.toNat_natCast] at q1
  have e8 : slc src 0 at0 = src.take at0 := by unfold slc; simp
  rw [e8] at q1
  have s2 := sam_tr s1 q2
  have hl : (src.take at0).length = at0 := by rw [List.length_take]; omega
  refine c_expLoop (G := G) (d := d + 1) (f1 := at0 + 1) (s2 := e1o src at0) (bh := e2o src at0) (src := src) (bd := bd) (s := s) (b := b) (cs := cs) (cb := cb) (cap := cap) hts htb ⟨by unfold e1o; omega, l1, l2⟩ hy bd.length 0 G1 (src.take at0) (by omega) (by omega) (Tm_sam hs s2 (by unfold ivl; omega) (by unfold ivl; omega)) (Tm_sam hb s2 (by unfold ivl; omega) (by unfold ivl; omega)) q1 s2 ?_ ?_
  · intro G2 m1 m2 m3
    rw [List.drop_zero] at m2 m3
    refine g_X2_expand_122 ?_
    have hs2 := Tm_sam hs m1 (by unfold ivl; omega) (by unfold ivl; omega)
    rw [if_neg (by decide), Tm_l hs2]
    refine ⟨rcv_o m3.1, ?_⟩
    refine u_I (c_addPart (d := d + 1) m3 hs2 hts (a := (e2o src at0 : Nat)) (b := src.length) (by constructor <;> omega) (by constructor <;> omega) (by constructor <;> omega)) ?_
    rintro v G3 ⟨rfl, p1, p2⟩
    refine ⟨_, rfl, ?_⟩
    have e5 : slc src (e2o src at0) src.length = src.drop (e2o src at0) := by
      unfold slc
      rw [List.take_of_length_le]
      rw [List.length_drop]
      exact Nat.le_refl _
    have e6 : (xpd src at0 bd) = src.take at0 ++ sbl (slc src (at0 + 1) (e1o src at0)) (slc src (e1o src at0) (e2o src at0)) bd ++ src.drop (e2o src at0) := by
      unfold xpd
      rw [List.append_assoc]
    have e7 : (xpd src at0 bd).length = (src.take at0 ++ sbl (slc src (at0 + 1) (e1o src at0)) (slc src (e1o src at0) (e2o src at0)) bd).length + (src.length - e2o src at0) := by
      rw [e6, List.length_append, List.length_drop]
    have e3 : (0 ≤ ((e2o src at0 : Nat) : Int) ∧ ((e2o src at0 : Nat) : Int) ≤ src.length ∧ (src.length : Int) ≤ src.length ∧ (src.length : Int) - (e2o src at0 : Nat) ≤ (cap : Int) - (src.take at0 ++ sbl (slc src (at0 + 1) (e1o src at0)) (slc src (e1o src at0) (e2o src at0)) bd).length) ↔ (xpd src at0 bd).length ≤ cap := by
      rw [e7]
      omega
    simp only [e3, Int.toNat_natCast, e5] at p1
    rw [← e6] at p1
    have p3 := sam_tr m1 p2
    rw [tf_c e3]
    simp only [tf_0]
    by_cases c : (xpd src at0 bd).length ≤ cap
    · rw [if_neg (fun z => z c)]
      rw [if_pos c] at p1
      exact ⟨by rw [tf_t c], fun _ => p1, ⟨_, p1⟩, p3⟩
    · rw [if_pos c]
      rw [if_neg c] at p1
      exact ⟨by rw [tf_f c], fun z => absurd z c, ⟨_, p1⟩, p3⟩
  · intro G2 ws j m1 m2 m3
    rw [List.drop_zero] at m2
    refine g_X2_expand_122 ?_
    rw [if_pos (by decide)]
    have e6 : ¬ (xpd src at0 bd).length ≤ cap := by
      unfold xpd
      rw [List.length_append] at m2 ⊢
      rw [List.length_append]
      omega
    exact ⟨by rw [tf_f e6], fun z => absurd z e6, ⟨_, m3⟩, m1⟩
end TM3
