-- uses 41 42 43 44 45 46 47 48 49 50 51 52 53 54 55 56 57 58 59 60 61 62 63 64 65 66 67 68 69 70 71 72 73 74 75 76 77 78 79 80 81 82 83 84 85 86 90 91
/-! the class: inline, slots, questions -/
section CQ2
variable {E : Ev} {d : Nat} {G : Hp} {P : Po} {c n : Nat} {A : As}
theorem x_inline (hE : EK E) (hA : okA A) (h : CI E G c A n) {a i : Int} (ha : Rg a) (hi : Rg i) : runs E (d + 5) i_X6_inline [.ref c, .int (iv a), .int (iv i)] G (cP E G c n (s_inline A a i)) := by
  refine e_X6_inline ?_
  rw [v_I (fun P => c_isNonterminal (d := d + 3) (P := P) ha)]
  by_cases c1 : 0 ≤ a ∧ a < 4
  · obtain ⟨k, rfl⟩ := Int.eq_ofNat_of_zero_le c1.1
    have hk : k < 4 := by omega
    obtain ⟨w, ed, g1, g2, _⟩ := CI_S h
    have ht := Sx_t g1 hk
    rw [if_neg (by rw [tf_t c1]; decide), k_1 h.1, Sm_rc g1]
    refine ⟨trivial, ?_⟩
    rw [v_R (fun P => c_body (d := d + 3) (P := P) g1 hk), Tm_r ht]
    refine ⟨trivial, ?_⟩
    rw [v_I (fun P => c_holds (d := d + 3) (P := P) ht hi)]
    by_cases c2 : 0 ≤ i ∧ i < ((A.S.b k).length : Int)
    · obtain ⟨j, rfl⟩ := Int.eq_ofNat_of_zero_le c2.1
      have hj : j < (A.S.b k).length := by omega
      have h10 := ((hA.1.1 k hk).2.2 j hj).1
      have hL := (hA.1.1 k hk).1
      rw [if_pos (by rw [tf_t c2]; decide), k_1 h.1, Sm_rc g1]
      refine ⟨trivial, ?_⟩
      rw [v_R (fun P => c_body (d := d + 3) (P := P) g1 hk), Tm_r ht]
      refine ⟨trivial, ?_⟩
      rw [v_I (fun P => c_symN (d := d + 2) (P := P) ht hj), iv_sub, v_I (fun P => c_isNonterminal (d := d + 3) (P := P) (show Rg ((((A.S.b k).getD j 0 : Nat) : Int) - 4) by constructor <;> omega))]
      by_cases c3 : 4 ≤ (A.S.b k).getD j 0 ∧ (A.S.b k).getD j 0 < 8
      · have e0 : s_inline A (k : Int) (j : Int) = if (inB A.S k j).length ≤ 30 then ((((inB A.S k j).length : Nat) : Int), (As.mk (rem A).tx ((Sc.mk (upB A.S.b k (inB A.S k j)) A.S.u A.S.v)) (rem A).R (rem A).nx (rem A).ct (rem A).K (rem A).F)) else (-4, A) := by unfold s_inline; exact (if_pos ⟨c1, c2⟩).trans (if_pos c3)
        have hi4 : (A.S.b k).getD j 0 - 4 < 4 := by omega
        have ht2 := Sx_t g1 hi4
        obtain ⟨⟨zs, hz⟩, hz2⟩ := CI_tm h
        have b1 := bp_in (s := c + 3) (w := w) hk
        have b2 := bp_in (s := c + 3) (w := w) hi4
        rw [if_pos (by rw [tf_t (by omega)]; decide), k_8 h.1, k_1 h.1, Sm_rc g1]
        refine ⟨trivial, ?_⟩
        rw [v_R (fun P => c_body (d := d + 3) (P := P) g1 hk), k_1 h.1, Sm_rc g1]
        refine ⟨trivial, ?_⟩
        rw [show (((A.S.b k).getD j 0 : Nat) : Int) - 4 = (((A.S.b k).getD j 0 - 4 : Nat) : Int) by omega, v_R (fun P => c_body (d := d + 3) (P := P) g1 hi4), Tm_r hz]
        have hx := xpd_wf (bd := A.S.b ((A.S.b k).getD j 0 - 4)) (n := (A.S.b k).getD j 0 - 4) (hA.1.1 k hk).2.1 hj (by omega) hi4 (hA.1.1 _ hi4)
        refine ⟨trivial, u_I (c_expand (d := d + 1) hE.1 hz ht ht2 (by omega) (by omega) hj (by omega) hx.2.2) ?_⟩
        rintro v G1 ⟨rfl, e1, ⟨ws, e2⟩, e3⟩
        refine ⟨_, rfl, ?_⟩
        have hC1 := hz2 G1 ws e2 e3
        have s1 : sam E G G1 (ivl c 290) := sam_mono e3 (fun a ha => by unfold ivl at *; omega)
        rw [e0]
        by_cases c4 : (inB A.S k j).length ≤ 30
        · have t1 := e1 c4
          rw [if_pos c4, if_pos (by rw [tf_t (show (xpd (A.S.b k) j (A.S.b ((A.S.b k).getD j 0 - 4))).length ≤ 30 from c4)]; decide), k_4 hC1.1, k_1 hC1.1]
          refine x_rem (d := d) hC1 ?_
          intro G2 d1 d2
          obtain ⟨w2, ed2, j1, j2, j3⟩ := CI_S d1
          have t2 := Tm_sam t1 d2 (by unfold ivl; omega) (by unfold ivl; omega)
          rw [k_1 d1.1, k_8 d1.1, Sm_rc j1]
          refine ⟨trivial, u_V (c_changeBody (d := d + 1) j1 hk t2 (by omega) c4) ?_⟩
          rintro v G3 ⟨rfl, i1, i2⟩
          refine ⟨rfl, ?_⟩
          have hC3 := j3 G3 w2 (Sc.mk (upB A.S.b k (inB A.S k j)) A.S.u A.S.v) i1 i2
          have t3 := Tm_sam t2 i2 (by unfold ivl; omega) (by unfold ivl; omega)
          rw [k_8 hC3.1, Tm_r t3]
          refine ⟨trivial, ?_⟩
          rw [v_I (fun P => c_size (d := d + 3) (P := P) t3)]
          exact ⟨rfl, hC3, sam_tr s1 (sam_tr (sam_mono d2 (fun a ha => by unfold ivl at *; omega)) (sam_mono i2 (fun a ha => by unfold ivl at *; omega)))⟩
        · rw [if_neg c4, if_neg (by rw [tf_f (show ¬ (xpd (A.S.b k) j (A.S.b ((A.S.b k).getD j 0 - 4))).length ≤ 30 from c4)]; decide)]
          exact ⟨rfl, CI_m hC1 (by omega), s1⟩
      · have e : s_inline A (k : Int) (j : Int) = (-3, A) := by unfold s_inline; exact (if_pos ⟨c1, c2⟩).trans (if_neg c3)
        rw [e, if_neg (by rw [tf_f (by omega)]; decide)]
        exact cP_r h
    · have e : s_inline A (k : Int) i = (-1, A) := by unfold s_inline; exact if_neg (fun z => c2 z.2)
      rw [e, if_neg (by rw [tf_f c2]; decide)]
      exact cP_r h
  · have e : s_inline A a i = (-1, A) := by unfold s_inline; exact if_neg (fun z => c1 z.1)
    rw [e, if_pos (by rw [tf_f c1]; decide)]
    exact cP_r h
theorem x_save (hA : okA A) (h : CI E G c A n) {a : Int} (ha : Rg a) : runs E (d + 4) i_X6_save [.ref c, .int (iv a)] G (cP E G c n (s_save A a)) := by
  refine e_X6_save ?_
  by_cases c1 : 0 ≤ a ∧ a ≤ 1
  · obtain ⟨a, rfl⟩ := Int.eq_ofNat_of_zero_le c1.1
    have ha2 : a < 2 := by omega
    have e : s_save A (a : Int) = (((tcn A.S.u 12 : Nat) : Int), (As.mk A.tx A.S A.R A.nx A.ct (upR A.K a A.S) (fun j => if j = a then true else A.F j))) := by unfold s_save; exact if_pos c1
    obtain ⟨h0, h1, h2, h4, ⟨⟨g, i1, i2⟩, i3, ⟨f, i4, i5⟩⟩, h6, h7⟩ := h
    obtain ⟨w, ed, g1, g2, g3, g4⟩ := h2
    obtain ⟨e5, he5⟩ := i3 a ha2
    rw [e, if_neg (by rw [iv_lt0 ha]; omega), if_pos (by rw [iv_lt ha (by decide)]; omega), k_5 h0, u_RAn i1 (by decide) (by omega) (i2 a ha2), k_1 h0, Sm_rc he5]
    refine ⟨trivial, u_V (c_Sbecome (d := d) he5 g2 (by omega)) ?_⟩
    rintro v G1 ⟨rfl, b1, b2⟩
    refine ⟨rfl, ?_⟩
    have q0 := K0_s h0 b2 (by omega)
    have j4 := (b2.1 (c + 247) (by unfold ivl; omega)).trans i4
    rw [k_6 q0, u_BSn j4 (Or.inr rfl) (by omega)]
    have j5 := gt_st_self (E := E) (G := G1) (a := c + 247) (c := cA 2 2 (upd f a (vp_nar (kT 2) (iv 1)))) (by rw [j4]; rfl)
    have s5 : sam E G1 _ (ivl (c + 247) 1) := sam_st (E := E) (G := G1) (a := c + 247) (c := cA 2 2 (upd f a (vp_nar (kT 2) (iv 1)))) ⟨by omega, by omega⟩
    generalize st E G1 (c + 247) (cA 2 2 (upd f a (vp_nar (kT 2) (iv 1)))) = G2 at *
    have m12 : sam E G G2 (ivl (c + 222) 26) := sam_tr (sam_mono b2 (fun a ha => by unfold ivl at *; omega)) (sam_mono s5 (fun a ha => by unfold ivl at *; omega))
    have q0' := K0_s h0 m12 (by omega)
    have g2' := Sm_dis g2 m12 (by omega)
    rw [k_1 q0', Sm_rc g2']
    refine ⟨trivial, ?_⟩
    rw [v_I (fun P => c_transitionCount (d := d + 2) (P := P) g2' (okS_rg hA.1))]
    refine ⟨rfl, ⟨q0', K1_s h1 m12 (by omega), K2_m (K2_s ⟨w, ed, g1, g2, g3, g4⟩ m12 (by omega)) (by omega), K4_s h4 m12 (by omega), ⟨⟨g, ?_, i2⟩, fun i hi => ?_, ⟨_, j5, fun i hi => ?_⟩⟩, K6_s h6 m12 (by omega), K7_m (K7_s h7 m12 (by omega)) (by omega)⟩, sam_mono m12 (fun a ha => by unfold ivl at *; omega)⟩
    · exact (s5.1 _ (by unfold ivl; omega)).trans ((b2.1 _ (by unfold ivl; omega)).trans i1)
    · show ∃ e, Sx E G2 (c + 223 + 12 * i) false (upR A.K a A.S i) e
      unfold upR
      by_cases z : i = a
      · subst z
        rw [if_pos rfl]
        exact ⟨_, Sm_dis b1 s5 (by omega)⟩
      · rw [if_neg z]
        obtain ⟨e, he⟩ := i3 i hi
        exact ⟨e, Sm_dis (Sm_dis he b2 (by omega)) s5 (by omega)⟩
    · show upd f a (vp_nar (kT 2) (iv 1)) i = iv (if (if i = a then true else A.F i) = true then 1 else 0)
      unfold upd
      by_cases z : i = a
      · subst z
        simp only [if_true]
        exact iv_nar2 (Or.inr rfl)
      · simp only [if_neg z]
        exact i5 i hi
  · have e : s_save A a = (-1, A) := by unfold s_save; exact if_neg c1
    rw [e]
    by_cases c2 : a < 0
    · rw [if_pos (by rw [iv_lt0 ha]; exact c2)]
      exact cP_r h
    · rw [if_neg (by rw [iv_lt0 ha]; exact c2), if_neg (by rw [iv_lt ha (by decide)]; omega)]
      exact cP_r h
theorem x_restore (hA : okA A) (h : CI E G c A n) {a : Int} (ha : Rg a) : runs E (d + 4) i_X6_restore [.ref c, .int (iv a)] G (cP E G c n (s_restore A a)) := by
  refine e_X6_restore ?_
  by_cases c1 : 0 ≤ a ∧ a ≤ 1
  · obtain ⟨a, rfl⟩ := Int.eq_ofNat_of_zero_le c1.1
    have ha2 : a < 2 := by omega
    obtain ⟨h0, h1, ⟨w, ed, g1, g2, g3, g4⟩, h4, h5, h6, h7⟩ := h
    have h5' := h5
    obtain ⟨⟨g, i1, i2⟩, i3, ⟨f, i4, i5⟩⟩ := h5'
    obtain ⟨e5, he5⟩ := i3 a ha2
    rw [if_neg (by rw [iv_lt0 ha]; omega), if_pos (by rw [iv_lt ha (by decide)]; omega), k_6 h0, u_BAn i4 (Or.inr rfl) (by omega), i5 a ha2]
    cases hb : A.F a with
    | false =>
      have e : s_restore A (a : Int) = (-3, A) := by unfold s_restore; rw [if_pos c1]; exact if_neg (by rw [Int.toNat_natCast, hb]; decide)
      rw [e, if_neg (by decide)]
      exact cP_r ⟨h0, h1, ⟨w, ed, g1, g2, g3, g4⟩, h4, h5, h6, h7⟩
    | true =>
      have hok := hA.2.2.2.1 a ha2 hb
      have e : s_restore A (a : Int) = (((tcn (A.K a).u 12 : Nat) : Int), (As.mk A.tx (A.K a) A.R A.nx 0 A.K A.F)) := by unfold s_restore; rw [if_pos c1]; exact if_pos (by rw [Int.toNat_natCast]; exact hb)
      rw [e, if_pos (by decide), k_1 h0, k_5 h0, u_RAn i1 (by decide) (by omega) (i2 a ha2), Sm_rc g2]
      refine ⟨trivial, u_V (c_Sbecome (d := d) g2 he5 (by omega)) ?_⟩
      rintro v G1 ⟨rfl, b1, b2⟩
      refine ⟨rfl, ?_⟩
      have q4 := K4_s h4 b2 (by omega)
      rw [k_4 (K0_s h0 b2 (by omega)), Hi_rc q4]
      refine ⟨trivial, u_V (c_forget (d := d + 2) q4) ?_⟩
      rintro v G2 ⟨rfl, d1, d2⟩
      refine ⟨rfl, ?_⟩
      have q0 : K0 E G2 c := K0_s (K0_s h0 b2 (by omega)) d2 (by omega)
      have g2' : Sx E G2 (c + 3) w (A.K a) (ed + 1) := Sm_dis b1 d2 (by omega)
      rw [k_1 q0, Sm_rc g2']
      refine ⟨trivial, ?_⟩
      rw [v_I (fun P => c_transitionCount (d := d + 2) (P := P) g2' (okS_rg hok))]
      have m02 : sam E G G2 (fun a => ivl (c + 3) 12 a ∨ ivl (c + 52) 170 a) := sam_tr (sam_mono b2 (fun a ha => Or.inl ha)) (sam_mono d2 (fun a ha => Or.inr ha))
      exact ⟨rfl, ⟨q0, K1_s (K1_s h1 b2 (by omega)) d2 (by omega), K2_n g1 g2' g3 g4 m02 (fun a x y => by unfold ivl; omega), d1, K5_s (K5_s h5 b2 (by omega)) d2 (by omega), K6_s (K6_s h6 b2 (by omega)) d2 (by omega), K7_m (K7_s (K7_s h7 b2 (by omega)) d2 (by omega)) (by omega)⟩, sam_mono m02 (fun a ha => by unfold ivl at *; omega)⟩
  · have e : s_restore A a = (-1, A) := by unfold s_restore; exact if_neg c1
    rw [e]
    by_cases c2 : a < 0
    · rw [if_pos (by rw [iv_lt0 ha]; exact c2)]
      exact cP_r h
    · rw [if_neg (by rw [iv_lt0 ha]; exact c2), if_neg (by rw [iv_lt ha (by decide)]; omega)]
      exact cP_r h
/-! the tree is brought up to date -/
theorem x_tree (hE : EK E) (hA : okA A) (hn : n ≤ 1999990) (h : CI E G c A n) {F : Nat → Hp → Prop} (k : ∀ G1 w ed x0, CI E G1 c A n → Sx E G1 (c + 3) w A.S ed → TrP E G1 (c + 15) (c + 3) (ed : Int) (tL A.S x0) (raN A.S (tL A.S x0).1 63) → sam E G G1 (ivl c 290) → F (c + 15) G1) : rcv E G (c + 15) 4 = true ∧ qCR E (d + 13) i_X4_upToDate [.ref (c + 15)] G F := by
  obtain ⟨h0, h1, ⟨w, ed, g1, g2, g3, g4⟩, h4, h5, h6, h7⟩ := h
  have hrc : (rcv E G (c + 15) 4 = true) = True := by
    rcases g3 with ⟨x0, z⟩ | ⟨se, L, f, z, _⟩
    · exact u_rcv z.1.1
    · exact u_rcv z.1.1
  rw [hrc]
  refine ⟨trivial, u_R (c_treeUp (d := d) hE (by omega) hA.1 (by omega) g3 g2) ?_⟩
  rintro v G1 ⟨rfl, b1, b2⟩
  refine ⟨_, rfl, ?_⟩
  obtain ⟨x0, b1'⟩ := id b1
  have g2' := Sm_dis g2 b2 (by omega)
  refine k G1 w ed x0 ⟨K0_s h0 b2 (by omega), K1_s h1 b2 (by omega), ⟨w, ed, g1, g2', Or.inl b1, Yok_sam g4 b2 (fun a _ _ => by unfold ivl; omega)⟩, K4_s h4 b2 (by omega), K5_s h5 b2 (by omega), K6_s h6 b2 (by omega), K7_s h7 b2 (by omega)⟩ g2' b1' (sam_mono b2 (fun a ha => by unfold ivl at *; omega))
theorem x_at {z : Int} (hz : Rg z) {g : Wa → Int} (hE : EK E) (hA : okA A) (hn : n ≤ 1999990) (h : CI E G c A n) (F : Nat → Nat → (Int32 → Hp → Prop) → Hp → Prop) (hF : ∀ (G1 : Hp) (x0 : Nat → Int) (w : Bool) (ed : Nat) (p : List Nat) (Q : Int32 → Hp → Prop), Sx E G1 (c + 3) w A.S ed → TrP E G1 (c + 15) (c + 3) (ed : Int) (tL A.S x0) (raN A.S (tL A.S x0).1 63) → dig p → p.length ≤ 6 → (1 ≤ nd 1 p ∧ nd 1 p < 128) → F (c + 15) (nd 1 p) Q G1 = Q (iv (match wks A.S (some (w0 A.S)) p with | none => -9 | some w => g w)) G1) : (qCI E (d + 13) i_X6_nodeOf [.int (iv z)] G fun v2 G1 => (if ¬ v2 = 0 then (qFR E G1 c 6 2 fun v3 => (rcv E G1 v3 4 = true ∧ (qCR E (d + 13) i_X4_upToDate [.ref v3] G1 fun v5 G4 => (rcv E G4 v5 4 = true ∧ (F v5 (ndO (pds z)) (fun v7 G6 => cP E G c n (s_at A z g) (some (.int v7)) G6) G4))))) else cP E G c n (s_at A z g) (some (.int (iv (-2)))) G1)) := by
  rw [v_I (fun P => c_nodeOf (d := d + 11) (P := P) hz)]
  cases hp : pds z with
  | none =>
    have e : s_at A z g = (-2, A) := by unfold s_at; rw [hp]
    rw [if_neg (by show ¬ ¬ iv ((0 : Nat) : Int) = 0; decide), e]
    exact cP_r h
  | some ds =>
    obtain ⟨h1, h2, h3⟩ := pds_some hp
    have hr := nd_rg h1 h2
    have en : ndO (some ds) = nd 1 ds := rfl
    rw [en, if_pos (by rw [iv_eq0 (by constructor <;> omega)]; omega), k_2 h.1]
    refine x_tree (d := d) hE hA hn h ?_
    intro G1 w ed x0 a1 a2 a3 a4
    rw [u_rcv a3.1.1]
    refine ⟨trivial, ?_⟩
    rw [hF G1 x0 w ed ds _ a2 a3 h1 h2 ⟨hr.1, hr.2.1⟩]
    cases hw : wks A.S (some (w0 A.S)) ds with
    | none =>
      have e : s_at A z g = (-9, A) := by unfold s_at; rw [hp]; dsimp only [Sc_b, Sc_u, Sc_v, Md_len, Md_acts, Md_nxt, Md_ts, Md_bs, Md_lab, Md_xp, Md_sta, Md_tx, Md_nw, Md_tr, Md_rd, Md_di, Md_ke, Md_ik, Md_te, Md_bu, Md_va, Md_ju, Md_ma, As_tx, As_S, As_R, As_nx, As_ct, As_K, As_F]; rw [hw]
      rw [e]
      exact ⟨rfl, CI_m a1 (by omega), a4⟩
    | some w =>
      have e : s_at A z g = (g w, A) := by unfold s_at; rw [hp]; dsimp only [Sc_b, Sc_u, Sc_v, Md_len, Md_acts, Md_nxt, Md_ts, Md_bs, Md_lab, Md_xp, Md_sta, Md_tx, Md_nw, Md_tr, Md_rd, Md_di, Md_ke, Md_ik, Md_te, Md_bu, Md_va, Md_ju, Md_ma, As_tx, As_S, As_R, As_nx, As_ct, As_K, As_F]; rw [hw]
      rw [e]
      exact ⟨rfl, CI_m a1 (by omega), a4⟩
theorem x_labelAt (hE : EK E) (hF : (eF E).category = 1) (hA : okA A) (hn : n ≤ 1999990) (h : CI E G c A n) {z : Int} (hz : Rg z) : runs E (d + 14) i_X6_labelAt [.ref c, .int (iv z)] G (cP E G c n (s_labelAt A z)) := by
  refine e_X6_labelAt ?_
  have := x_at (d := d) hz (g := fun w => lbO w.1) hE hA hn h (fun v5 nn Q G4 => qCI E (d + 13) i_X4_labelCode [.ref v5, .int (iv (nn : Int))] G4 Q) ?_
  · rw [v_I (fun P => c_nodeOf (d := d + 11) (P := P) hz)] at this ⊢
    exact this
  · intro G1 x0 w ed p Q a1 a2 hp hl hr
    rw [v_I (fun P => c_labelCode (d := d + 7) (P := P) hE hF a2 okL_tL hr)]
    have ht := tree_at (x0 := x0) hA.1 p.length p rfl hl hp
    cases hw : wks A.S (some (w0 A.S)) p with
    | none =>
      rw [hw] at ht
      dsimp only [Sc_b, Sc_u, Sc_v, Md_len, Md_acts, Md_nxt, Md_ts, Md_bs, Md_lab, Md_xp, Md_sta, Md_tx, Md_nw, Md_tr, Md_rd, Md_di, Md_ke, Md_ik, Md_te, Md_bu, Md_va, Md_ju, Md_ma, As_tx, As_S, As_R, As_nx, As_ct, As_K, As_F] at ht ⊢
      rw [if_pos ht]
    | some w =>
      rw [hw] at ht
      dsimp only [Sc_b, Sc_u, Sc_v, Md_len, Md_acts, Md_nxt, Md_ts, Md_bs, Md_lab, Md_xp, Md_sta, Md_tx, Md_nw, Md_tr, Md_rd, Md_di, Md_ke, Md_ik, Md_te, Md_bu, Md_va, Md_ju, Md_ma, As_tx, As_S, As_R, As_nx, As_ct, As_K, As_F] at ht ⊢
      rw [ht.1, if_neg lbN_ne]
      unfold lbN lbO
      by_cases c4 : hd w.1 < 4
      · rw [if_pos c4, if_pos c4, if_pos (by omega)]; rfl
      · rw [if_neg c4, if_neg c4, if_neg (by decide)]
theorem x_expansionsAt (hE : EK E) (hA : okA A) (hn : n ≤ 1999990) (h : CI E G c A n) {z : Int} (hz : Rg z) : runs E (d + 14) i_X6_expansionsAt [.ref c, .int (iv z)] G (cP E G c n (s_expansionsAt A z)) := by
  refine e_X6_expansionsAt ?_
  have := x_at (d := d) hz (g := fun w => (w.2.1 : Int)) hE hA hn h (fun v5 nn Q G4 => qCI E (d + 13) i_X4_expansionsTo [.ref v5, .int (iv (nn : Int))] G4 Q) ?_
  · rw [v_I (fun P => c_nodeOf (d := d + 11) (P := P) hz)] at this ⊢
    exact this
  · intro G1 x0 w ed p Q a1 a2 hp hl hr
    rw [v_I (fun P => c_expansionsTo (d := d + 11) (P := P) a2 okL_tL hr)]
    have ht := tree_at (x0 := x0) hA.1 p.length p rfl hl hp
    cases hw : wks A.S (some (w0 A.S)) p with
    | none =>
      rw [hw] at ht
      dsimp only [Sc_b, Sc_u, Sc_v, Md_len, Md_acts, Md_nxt, Md_ts, Md_bs, Md_lab, Md_xp, Md_sta, Md_tx, Md_nw, Md_tr, Md_rd, Md_di, Md_ke, Md_ik, Md_te, Md_bu, Md_va, Md_ju, Md_ma, As_tx, As_S, As_R, As_nx, As_ct, As_K, As_F] at ht ⊢
      rw [if_pos ht]
    | some w =>
      rw [hw] at ht
      dsimp only [Sc_b, Sc_u, Sc_v, Md_len, Md_acts, Md_nxt, Md_ts, Md_bs, Md_lab, Md_xp, Md_sta, Md_tx, Md_nw, Md_tr, Md_rd, Md_di, Md_ke, Md_ik, Md_te, Md_bu, Md_va, Md_ju, Md_ma, As_tx, As_S, As_R, As_nx, As_ct, As_K, As_F] at ht ⊢
      rw [if_neg (by rw [ht.1]; exact lbN_ne), ht.2.1]
theorem x_stateAt (hE : EK E) (hA : okA A) (hn : n ≤ 1999990) (h : CI E G c A n) {z : Int} (hz : Rg z) : runs E (d + 14) i_X6_stateAt [.ref c, .int (iv z)] G (cP E G c n (s_stateAt A z)) := by
  refine e_X6_stateAt ?_
  have := x_at (d := d) hz (g := fun w => w.2.2) hE hA hn h (fun v5 nn Q G4 => qCI E (d + 13) i_X4_stateOf [.ref v5, .int (iv (nn : Int))] G4 Q) ?_
  · rw [v_I (fun P => c_nodeOf (d := d + 11) (P := P) hz)] at this ⊢
    exact this
  · intro G1 x0 w ed p Q a1 a2 hp hl hr
    rw [v_I (fun P => c_stateOf (d := d + 11) (P := P) a2 okL_tL hr)]
    have ht := tree_at (x0 := x0) hA.1 p.length p rfl hl hp
    cases hw : wks A.S (some (w0 A.S)) p with
    | none =>
      rw [hw] at ht
      dsimp only [Sc_b, Sc_u, Sc_v, Md_len, Md_acts, Md_nxt, Md_ts, Md_bs, Md_lab, Md_xp, Md_sta, Md_tx, Md_nw, Md_tr, Md_rd, Md_di, Md_ke, Md_ik, Md_te, Md_bu, Md_va, Md_ju, Md_ma, As_tx, As_S, As_R, As_nx, As_ct, As_K, As_F] at ht ⊢
      rw [if_pos ht]
    | some w =>
      rw [hw] at ht
      dsimp only [Sc_b, Sc_u, Sc_v, Md_len, Md_acts, Md_nxt, Md_ts, Md_bs, Md_lab, Md_xp, Md_sta, Md_tx, Md_nw, Md_tr, Md_rd, Md_di, Md_ke, Md_ik, Md_te, Md_bu, Md_va, Md_ju, Md_ma, As_tx, As_S, As_R, As_nx, As_ct, As_K, As_F] at ht ⊢
      rw [if_neg (by rw [ht.1]; exact lbN_ne), ht.2.2]
theorem x_nodesAtDepth (hE : EK E) (hA : okA A) (hn : n ≤ 1999990) (h : CI E G c A n) {z : Int} (hz : Rg z) : runs E (d + 14) i_X6_nodesAtDepth [.ref c, .int (iv z)] G (cP E G c n (s_nodesAtDepth A z)) := by
  refine e_X6_nodesAtDepth ?_
  rw [v_I (fun P => c_isDepth (d := d + 12) (P := P) hz)]
  by_cases c1 : 0 ≤ z ∧ z ≤ 6
  · obtain ⟨k, rfl⟩ := Int.eq_ofNat_of_zero_le c1.1
    have e : s_nodesAtDepth A (k : Int) = (((cnW A.S k (2 ^ k) : Nat) : Int), A) := by unfold s_nodesAtDepth; exact if_pos c1
    rw [e, if_neg (by rw [tf_t c1]; decide), k_2 h.1]
    refine x_tree (d := d) hE hA hn h ?_
    intro G1 w ed x0 a1 a2 a3 a4
    rw [u_rcv a3.1.1]
    refine ⟨trivial, ?_⟩
    rw [v_I (fun P => c_countAt (d := d + 11) (P := P) a3 okL_tL (show k ≤ 6 by omega)), cn_eq hA.1 (show k ≤ 6 by omega) _ (Nat.le_refl _)]
    exact ⟨rfl, CI_m a1 (by omega), a4⟩
  · have e : s_nodesAtDepth A z = (-2, A) := by unfold s_nodesAtDepth; exact if_neg c1
    rw [e, if_pos (by rw [tf_f c1]; decide)]
    exact cP_r h
theorem ff_rg {g : Nat → Bool} : ∀ k n, ff g k n = 0 ∨ (n ≤ ff g k n ∧ ff g k n < n + k) := by
  intro k
  induction k with
  | zero => intro n; exact Or.inl rfl
  | succ k ih =>
    intro n
    unfold ff
    split
    · exact Or.inr (by omega)
    · have := ih (n + 1)
      omega
theorem x_wrongBranch (hE : EK E) (hA : okA A) (hn : n ≤ 1999990) (h : CI E G c A n) {z : Int} (hz : Rg z) : runs E (d + 14) i_X6_wrongBranch [.ref c, .int (iv z)] G (cP E G c n (s_wrongBranch A z)) := by
  refine e_X6_wrongBranch ?_
  rw [v_I (fun P => c_isDepth (d := d + 12) (P := P) hz)]
  by_cases c1 : 0 ≤ z ∧ z ≤ 6
  · obtain ⟨k, rfl⟩ := Int.eq_ofNat_of_zero_le c1.1
    have e : s_wrongBranch A (k : Int) = (wbV (ff (wrn A.S) (2 ^ (k + 1) - 1) 1), A) := by unfold s_wrongBranch; exact if_pos c1
    rw [e, if_pos (by rw [tf_t c1]; decide), k_2 h.1]
    refine x_tree (d := d) hE hA hn h ?_
    intro G1 w ed x0 a1 a2 a3 a4
    rw [u_rcv a3.1.1]
    refine ⟨trivial, ?_⟩
    rw [v_I (fun P => c_firstWrong (d := d + 10) (P := P) hA.1 a3 a2 (show k ≤ 6 by omega))]
    have h2 : 2 ^ (k + 1) ≤ 2 ^ 7 := Nat.pow_le_pow_right (by decide) (by omega)
    have h7 : (2 : Nat) ^ 7 = 128 := rfl
    have hr := ff_rg (g := wrn A.S) (2 ^ (k + 1) - 1) 1
    generalize ff (wrn A.S) (2 ^ (k + 1) - 1) 1 = x at *
    unfold wbV
    by_cases c2 : x = 0
    · rw [if_neg (by rw [iv_eq0 (by constructor <;> omega)]; omega), if_pos c2]
      exact ⟨rfl, CI_m a1 (by omega), a4⟩
    · have hl6 : x.log2 ≤ 6 := by
        have h3 := Nat.log2_self_le (n := x) c2
        rcases Nat.lt_or_ge 6 x.log2 with y | y
        · have h4 : 2 ^ 7 ≤ 2 ^ x.log2 := Nat.pow_le_pow_right (by decide) y
          omega
        · exact y
      rw [if_pos (by rw [iv_eq0 (by constructor <;> omega)]; omega), if_neg c2, v_I (fun P => c_cPathOf (d := d + 12) (P := P) hl6 (lev_of (by omega)))]
      exact ⟨rfl, CI_m a1 (by omega), a4⟩
  · have e : s_wrongBranch A z = (-2, A) := by unfold s_wrongBranch; exact if_neg c1
    rw [e, if_neg (by rw [tf_f c1]; decide)]
    exact cP_r h
/-! the types are brought up to date -/
theorem x_types (hE : EK E) (hA : okA A) (hn : n ≤ 1999990) (h : CI E G c A n) {F : Nat → Hp → Prop} (k : ∀ G1 (ed : Nat), CI E G1 c A n → Ty E G1 (c + 36) (c + 3) A.S (cT A.S) ((cRn A.S : Nat) : Int) (ed : Int) → sam E G G1 (ivl c 290) → F (c + 36) G1) : rcv E G (c + 36) 5 = true ∧ qCR E (d + 5) i_X5_upToDate [.ref (c + 36)] G F := by
  obtain ⟨h0, h1, ⟨w, ed, g1, g2, g3, g4⟩, h4, h5, h6, h7⟩ := h
  have hrc : (rcv E G (c + 36) 5 = true) = True := by
    rcases g4 with z | ⟨se, rm, z, _⟩
    · exact u_rcv z.1.1
    · exact u_rcv z.1.1
  rw [hrc]
  refine ⟨trivial, u_R (c_typesUp (d := d) hE hA.1 (by omega) (by omega) g4 g2) ?_⟩
  rintro v G1 ⟨rfl, b1, b2⟩
  refine ⟨_, rfl, ?_⟩
  exact k G1 ed ⟨K0_s h0 b2 (by omega), K1_s h1 b2 (by omega), ⟨w, ed, g1, Sm_dis g2 b2 (by omega), Tok_sam g3 b2 (fun a _ _ => by unfold ivl; omega), Or.inl b1⟩, K4_s h4 b2 (by omega), K5_s h5 b2 (by omega), K6_s h6 b2 (by omega), K7_s h7 b2 (by omega)⟩ b1 (sam_mono b2 (fun a ha => by unfold ivl at *; omega))
theorem x_accepts (hE : EK E) (hA : okA A) (hn : n ≤ 1999990) (h : CI E G c A n) : runs E (d + 6) i_X6_accepts [.ref c] G (cP E G c n (s_accepts A)) := by
  refine e_X6_accepts ?_
  rw [k_3 h.1]
  refine x_types (d := d) hE hA hn h ?_
  intro G1 ed a1 a2 a3
  rw [u_rcv a2.1.1]
  refine ⟨trivial, ?_⟩
  rw [v_I (fun P => c_acceptance (d := d + 3) (P := P) cT8 a2)]
  exact ⟨rfl, CI_m a1 (by omega), a3⟩
theorem x_rounds (hE : EK E) (hA : okA A) (hn : n ≤ 1999990) (h : CI E G c A n) : runs E (d + 6) i_X6_rounds [.ref c] G (cP E G c n (s_rounds A)) := by
  refine e_X6_rounds ?_
  rw [k_3 h.1]
  refine x_types (d := d) hE hA hn h ?_
  intro G1 ed a1 a2 a3
  rw [u_rcv a2.1.1]
  refine ⟨trivial, ?_⟩
  rw [v_I (fun P => c_roundCount (d := d + 4) (P := P) a2)]
  exact ⟨rfl, CI_m a1 (by omega), a3⟩
theorem x_typingCount (hE : EK E) (hA : okA A) (hn : n ≤ 1999990) (h : CI E G c A n) {a : Int} (ha : Rg a) : runs E (d + 6) i_X6_typingCount [.ref c, .int (iv a)] G (cP E G c n (s_typingCount A a)) := by
  refine e_X6_typingCount ?_
  rw [v_I (fun P => c_isNonterminal (d := d + 4) (P := P) ha)]
  by_cases c1 : 0 ≤ a ∧ a < 4
  · obtain ⟨k, rfl⟩ := Int.eq_ofNat_of_zero_le c1.1
    have e : s_typingCount A (k : Int) = (((cnS (cT A.S) k (stn k) : Nat) : Int), A) := by unfold s_typingCount; exact if_pos c1
    rw [e, if_neg (by rw [tf_t c1]; decide), k_3 h.1]
    refine x_types (d := d) hE hA hn h ?_
    intro G1 ed a1 a2 a3
    rw [u_rcv a2.1.1]
    refine ⟨trivial, ?_⟩
    rw [v_I (fun P => c_validCount (d := d + 1) (P := P) hE cT8 a2 (show k < 4 by omega))]
    exact ⟨rfl, CI_m a1 (by omega), a3⟩
  · have e : s_typingCount A a = (-1, A) := by unfold s_typingCount; exact if_neg c1
    rw [e, if_pos (by rw [tf_f c1]; decide)]
    exact cP_r h
theorem x_isValid (hE : EK E) (hA : okA A) (hn : n ≤ 1999990) (h : CI E G c A n) {a q s1 s2 : Int} (ha : Rg a) (hq : Rg q) (hs1 : Rg s1) (hs2 : Rg s2) : runs E (d + 6) i_X6_isValid [.ref c, .int (iv a), .int (iv q), .int (iv s1), .int (iv s2)] G (cP E G c n (s_isValid A a q s1 s2)) := by
  refine e_X6_isValid ?_
  have bd : ∀ r : Int, s_isValid A a q s1 s2 = (r, A) → cP E G c n (s_isValid A a q s1 s2) (some (.int (iv r))) G := by
    intro r e
    rw [e]
    exact cP_r h
  rw [v_I (fun P => c_isNonterminal (d := d + 4) (P := P) ha)]
  by_cases c1 : 0 ≤ a ∧ a < 4
  · rw [if_neg (by rw [tf_t c1]; decide), v_I (fun P => c_isState (d := d + 4) (P := P) hq)]
    by_cases c2 : 0 ≤ q ∧ q < 3
    · obtain ⟨a, rfl⟩ := Int.eq_ofNat_of_zero_le c1.1
      obtain ⟨q, rfl⟩ := Int.eq_ofNat_of_zero_le c2.1
      have ha4 : a < 4 := by omega
      have har := ar_le (4 + a)
      have f1 : fitP (a : Int) 1 s1 ↔ ((1 : Int) ≤ ar (4 + a) ∧ 0 ≤ s1 ∧ s1 ≤ 7) ∨ ((ar (4 + a) : Int) < 1 ∧ s1 = 0) := by
        show (1 ≤ ar (4 + a) ∧ 0 ≤ s1 ∧ s1 ≤ 7) ∨ (ar (4 + a) < 1 ∧ s1 = 0) ↔ _
        omega
      have f2 : fitP (a : Int) 2 s2 ↔ ((2 : Int) ≤ ar (4 + a) ∧ 0 ≤ s2 ∧ s2 ≤ 7) ∨ ((ar (4 + a) : Int) < 2 ∧ s2 = 0) := by
        show (2 ≤ ar (4 + a) ∧ 0 ≤ s2 ∧ s2 ≤ 7) ∨ (ar (4 + a) < 2 ∧ s2 = 0) ↔ _
        omega
      have cc : (0 ≤ (a : Int) ∧ (a : Int) < 4) ∧ (0 ≤ (q : Int) ∧ (q : Int) < 3) := ⟨c1, c2⟩
      rw [if_pos (by rw [tf_t c2]; decide), v_I (fun P => c_suitsParameter (d := d + 2) (P := P) hE.1 ha4 (show Rg (1 : Int) by decide) hs1)]
      by_cases c3 : fitP (a : Int) 1 s1
      · rw [if_neg (by rw [tf_t (f1.mp c3)]; decide), v_I (fun P => c_suitsParameter (d := d + 2) (P := P) hE.1 ha4 (show Rg (2 : Int) by decide) hs2)]
        by_cases c4 : fitP (a : Int) 2 s2
        · obtain ⟨s1, rfl⟩ := Int.eq_ofNat_of_zero_le (show 0 ≤ s1 by have := f1.mp c3; omega)
          obtain ⟨s2, rfl⟩ := Int.eq_ofNat_of_zero_le (show 0 ≤ s2 by have := f2.mp c4; omega)
          have e : s_isValid A (a : Int) (q : Int) (s1 : Int) (s2 : Int) = ((if (cT A.S a (s1 + 8 * s2)).testBit q = true then 1 else 0), A) := by unfold s_isValid; rw [if_pos cc]; exact if_pos ⟨c3, c4⟩
          have hst : s1 + 8 * s2 < stn a := by
            have x1 := f1.mp c3
            have x2 := f2.mp c4
            have hv := stn_v ⟨a, ha4⟩
            dsimp only [Sc_b, Sc_u, Sc_v, Md_len, Md_acts, Md_nxt, Md_ts, Md_bs, Md_lab, Md_xp, Md_sta, Md_tx, Md_nw, Md_tr, Md_rd, Md_di, Md_ke, Md_ik, Md_te, Md_bu, Md_va, Md_ju, Md_ma, As_tx, As_S, As_R, As_nx, As_ct, As_K, As_F] at hv
            rcases (by omega : ar (4 + a) = 0 ∨ ar (4 + a) = 1 ∨ ar (4 + a) = 2) with y | y | y
            · rw [hv.1 y]; omega
            · rw [hv.2.1 y]; omega
            · rw [hv.2.2.1 y]; omega
          rw [e, if_pos (by rw [tf_t (f2.mp c4)]; decide), k_3 h.1]
          refine x_types (d := d) hE hA hn h ?_
          intro G1 ed a1 a2 a3
          rw [v_I (fun P => c_setsOf (d := d + 4) (P := P)), u_rcv a2.1.1]
          refine ⟨trivial, ?_⟩
          rw [show (s1 : Int) + 8 * (s2 : Int) = ((s1 + 8 * s2 : Nat) : Int) by omega, v_I (fun P => c_Yholds (d := d + 4) (P := P) cT8 a2 ha4 (show q < 3 by omega) hst)]
          cases hb : (cT A.S a (s1 + 8 * s2)).testBit q with
          | false =>
            rw [if_pos (by decide)]
            exact ⟨rfl, CI_m a1 (by omega), a3⟩
          | true =>
            rw [if_neg (by decide)]
            exact ⟨rfl, CI_m a1 (by omega), a3⟩
        · rw [if_neg (by rw [tf_f (fun z => c4 (f2.mpr z))]; decide)]
          exact bd (-2) (by unfold s_isValid; rw [if_pos cc]; exact if_neg (fun z => c4 z.2))
      · rw [if_pos (by rw [tf_f (fun z => c3 (f1.mpr z))]; decide)]
        exact bd (-2) (by unfold s_isValid; rw [if_pos cc]; exact if_neg (fun z => c3 z.1))
    · rw [if_neg (by rw [tf_f c2]; decide)]
      exact bd (-1) (by unfold s_isValid; exact if_neg (fun z => c2 z.2))
  · rw [if_pos (by rw [tf_f c1]; decide)]
    exact bd (-1) (by unfold s_isValid; exact if_neg (fun z => c1 z.1))
theorem x_demand (hE : EK E) (hA : okA A) (hn : n ≤ 1999990) (h : CI E G c A n) {a q k : Int} (ha : Rg a) (hq : Rg q) (hk : Rg k) : runs E (d + 6) i_X6_demand [.ref c, .int (iv a), .int (iv q), .int (iv k)] G (cP E G c n (s_demand A a q k)) := by
  refine e_X6_demand ?_
  have bd : ∀ r : Int, s_demand A a q k = (r, A) → cP E G c n (s_demand A a q k) (some (.int (iv r))) G := by
    intro r e
    rw [e]
    exact cP_r h
  rw [v_I (fun P => c_isNonterminal (d := d + 4) (P := P) ha)]
  by_cases c1 : 0 ≤ a ∧ a < 4
  · rw [if_neg (by rw [tf_t c1]; decide), v_I (fun P => c_isState (d := d + 4) (P := P) hq)]
    by_cases c2 : 0 ≤ q ∧ q < 3
    · obtain ⟨a, rfl⟩ := Int.eq_ofNat_of_zero_le c1.1
      obtain ⟨q, rfl⟩ := Int.eq_ofNat_of_zero_le c2.1
      have ha4 : a < 4 := by omega
      have har := ar_le (4 + a)
      have cc : (0 ≤ (a : Int) ∧ (a : Int) < 4) ∧ (0 ≤ (q : Int) ∧ (q : Int) < 3) := ⟨c1, c2⟩
      rw [if_pos (by rw [tf_t c2]; decide)]
      by_cases c3 : k < 1
      · rw [if_pos (by rw [iv_lt hk (by decide)]; exact c3)]
        exact bd (-2) (by unfold s_demand; rw [if_pos cc]; exact if_neg (fun z => by omega))
      · rw [if_neg (by rw [iv_lt hk (by decide)]; exact c3), v_I (fun P => c_arityOfNonterminal (d := d + 3) (P := P) hE.1 ha4)]
        by_cases c4 : k ≤ (ar (4 + a) : Int)
        · obtain ⟨k, rfl⟩ := Int.eq_ofNat_of_zero_le (show 0 ≤ k by omega)
          have e : s_demand A (a : Int) (q : Int) (k : Int) = (cmR (cT A.S) a q k (stn a), A) := by unfold s_demand; rw [if_pos cc]; exact if_pos (show 1 ≤ (k : Int) ∧ (k : Int) ≤ (ar (4 + a) : Int) by omega)
          rw [e, if_pos (by rw [iv_le hk (by constructor <;> omega)]; exact c4), k_3 h.1]
          refine x_types (d := d) hE hA hn h ?_
          intro G1 ed a1 a2 a3
          rw [u_rcv a2.1.1]
          refine ⟨trivial, ?_⟩
          rw [v_I (fun P => c_commonSet (d := d + 1) (P := P) hE cT8 a2 ha4 (show q < 3 by omega) (show k < 10 by omega))]
          exact ⟨rfl, CI_m a1 (by omega), a3⟩
        · rw [if_neg (by rw [iv_le hk (by constructor <;> omega)]; exact c4)]
          exact bd (-2) (by unfold s_demand; rw [if_pos cc]; exact if_neg (fun z => c4 z.2))
    · rw [if_neg (by rw [tf_f c2]; decide)]
      exact bd (-1) (by unfold s_demand; exact if_neg (fun z => c2 z.2))
  · rw [if_pos (by rw [tf_f c1]; decide)]
    exact bd (-1) (by unfold s_demand; exact if_neg (fun z => c1 z.1))
end CQ2
