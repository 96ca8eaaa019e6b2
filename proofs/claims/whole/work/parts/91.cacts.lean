-- uses 41 42 43 44 45 46 47 48 49 50 51 52 53 54 55 56 57 58 59 60 61 62 63 64 65 66 67 68 69 70 71 72 73 74 75 76 77 78 79 80 81 82 83 84 90
/-! the class: reading the state, actions -/
section CA1
variable {E : Ev} {d : Nat} {G : Hp} {P : Po} {c n : Nat} {A : As}
theorem CI_S (h : CI E G c A n) : ∃ w ed, Sx E G (c + 3) w A.S ed ∧ ed ≤ n ∧ ∀ G1 w' S', Sx E G1 (c + 3) w' S' (ed + 1) → sam E G G1 (ivl (c + 3) 12) → CI E G1 c (As.mk A.tx S' A.R A.nx A.ct A.K A.F) (n + 10) := by
  obtain ⟨h0, h1, ⟨w, ed, g1, g2, g3, g4⟩, h4, h5, h6, h7⟩ := h
  refine ⟨w, ed, g2, g1, fun G1 w' S' b1 b2 => ?_⟩
  exact ⟨K0_s h0 b2 (by omega), K1_s h1 b2 (by omega), K2_n g1 b1 g3 g4 b2 (fun a x y => by unfold ivl; omega), K4_s h4 b2 (by omega), K5_s h5 b2 (by omega), K6_s h6 b2 (by omega), K7_m (K7_s h7 b2 (by omega)) (by omega)⟩
theorem x_rem (h : CI E G c A n) {F : Hp → Prop} (k : ∀ G1, CI E G1 c (rem A) n → sam E G G1 (ivl (c + 52) 170) → F G1) : rcv E G (c + 52) 0 = true ∧ qCV E (d + 4) i_X0_remember [.ref (c + 52), .ref (c + 3)] G F := by
  obtain ⟨h0, h1, h2, h4, h5, h6, h7⟩ := h
  have h2' := h2
  obtain ⟨w, ed, g1, g2, g3, g4⟩ := h2'
  rw [Hi_rc h4]
  refine ⟨trivial, u_V (c_remember (d := d) h4 g2 (by omega)) ?_⟩
  rintro v G1 ⟨rfl, b1, b2⟩
  exact ⟨rfl, k G1 ⟨K0_s h0 b2 (by omega), K1_s h1 b2 (by omega), K2_s h2 b2 (by omega), b1, K5_s h5 b2 (by omega), K6_s h6 b2 (by omega), K7_s h7 b2 (by omega)⟩ b2⟩
theorem CI_tm (h : CI E G c A n) : (∃ zs, Tm E G (c + 260) 30 zs) ∧ ∀ G1 zs, Tm E G1 (c + 260) 30 zs → sam E G G1 (ivl (c + 260) 2) → CI E G1 c A n := by
  obtain ⟨h0, h1, h2, h4, h5, ⟨⟨Sd, e, h6⟩, ⟨zs, h6b⟩⟩, h7⟩ := h
  refine ⟨⟨zs, h6b⟩, fun G1 ws b1 b2 => ?_⟩
  exact ⟨K0_s h0 b2 (by omega), K1_s h1 b2 (by omega), K2_s h2 b2 (by omega), K4_s h4 b2 (by omega), K5_s h5 b2 (by omega), ⟨⟨Sd, e, Sm_dis h6 b2 (by omega)⟩, ⟨ws, b1⟩⟩, K7_s h7 b2 (by omega)⟩
theorem Sx_t {s ed : Nat} {w : Bool} {S : Sc} (h : Sx E G s w S ed) {k : Nat} (hk : k < 4) : Tm E G (bp s w k) 30 (S.b k) := h.2.2.1 k hk
theorem x_bodyLength (h : CI E G c A n) {a : Int} (ha : Rg a) : runs E (d + 2) i_X6_bodyLength [.ref c, .int (iv a)] G (cP E G c n (s_bodyLength A a)) := by
  refine e_X6_bodyLength ?_
  rw [v_I (fun P => c_isNonterminal (d := d) (P := P) ha)]
  by_cases c1 : 0 ≤ a ∧ a < 4
  · obtain ⟨k, rfl⟩ := Int.eq_ofNat_of_zero_le c1.1
    have e : s_bodyLength A (k : Int) = ((((A.S.b k).length : Nat) : Int), A) := by unfold s_bodyLength; exact if_pos c1
    obtain ⟨w, ed, g1, g2, _⟩ := CI_S h
    have ht := Sx_t g1 (show k < 4 by omega)
    rw [e, if_neg (by rw [tf_t c1]; decide), k_1 h.1, Sm_rc g1]
    refine ⟨trivial, ?_⟩
    rw [v_R (fun P => c_body (d := d) (P := P) g1 (show k < 4 by omega)), Tm_r ht]
    refine ⟨trivial, ?_⟩
    rw [v_I (fun P => c_size (d := d) (P := P) ht)]
    exact cP_r h
  · have e : s_bodyLength A a = (-1, A) := by unfold s_bodyLength; exact if_neg c1
    rw [e, if_pos (by rw [tf_f c1]; decide)]
    exact cP_r h
theorem x_bodySymbol (hE : EK E) (hF : (eF E).category = 1) (hA : okA A) (h : CI E G c A n) {a i : Int} (ha : Rg a) (hi : Rg i) : runs E (d + 6) i_X6_bodySymbol [.ref c, .int (iv a), .int (iv i)] G (cP E G c n (s_bodySymbol A a i)) := by
  refine e_X6_bodySymbol ?_
  rw [v_I (fun P => c_isNonterminal (d := d + 4) (P := P) ha)]
  by_cases c1 : 0 ≤ a ∧ a < 4
  · obtain ⟨k, rfl⟩ := Int.eq_ofNat_of_zero_le c1.1
    have hk : k < 4 := by omega
    obtain ⟨w, ed, g1, g2, _⟩ := CI_S h
    have ht := Sx_t g1 hk
    rw [if_neg (by rw [tf_t c1]; decide), k_1 h.1, Sm_rc g1]
    refine ⟨trivial, ?_⟩
    rw [v_R (fun P => c_body (d := d + 4) (P := P) g1 hk), Tm_r ht]
    refine ⟨trivial, ?_⟩
    rw [v_I (fun P => c_holds (d := d + 4) (P := P) ht hi)]
    by_cases c2 : 0 ≤ i ∧ i < ((A.S.b k).length : Int)
    · obtain ⟨j, rfl⟩ := Int.eq_ofNat_of_zero_le c2.1
      have hj : j < (A.S.b k).length := by omega
      have h10 := ((hA.1.1 k hk).2.2 j hj).1
      have e : s_bodySymbol A (k : Int) (j : Int) = (((chr ((A.S.b k).getD j 0) : Nat) : Int), A) := by unfold s_bodySymbol; exact if_pos ⟨c1, c2⟩
      rw [e, if_pos (by rw [tf_t c2]; decide), k_1 h.1, Sm_rc g1]
      refine ⟨trivial, ?_⟩
      rw [v_R (fun P => c_body (d := d + 4) (P := P) g1 hk), Tm_r ht]
      refine ⟨trivial, ?_⟩
      rw [v_I (fun P => c_symN (d := d + 3) (P := P) ht hj), v_I (fun P => c_codeOf (d := d) (P := P) hE hF (show Rg (((A.S.b k).getD j 0 : Nat) : Int) by constructor <;> omega)), if_pos (by omega), Int.toNat_natCast]
      exact cP_r h
    · have e : s_bodySymbol A (k : Int) i = (-1, A) := by unfold s_bodySymbol; exact if_neg (fun z => c2 z.2)
      rw [e, if_neg (by rw [tf_f c2]; decide)]
      exact cP_r h
  · have e : s_bodySymbol A a i = (-1, A) := by unfold s_bodySymbol; exact if_neg (fun z => c1 z.1)
    rw [e, if_pos (by rw [tf_f c1]; decide)]
    exact cP_r h
theorem x_transition (hE : EK E) (hA : okA A) (h : CI E G c A n) {q t k : Int} (hq : Rg q) (ht : Rg t) (hk : Rg k) : runs E (d + 2) i_X6_transition [.ref c, .int (iv q), .int (iv t), .int (iv k)] G (cP E G c n (s_transition A q t k)) := by
  refine e_X6_transition ?_
  rw [v_I (fun P => c_isState (d := d) (P := P) hq)]
  by_cases c0 : 0 ≤ q ∧ q < 3
  · rw [if_neg (by rw [tf_t c0]; decide), v_I (fun P => c_isTerminal (d := d) (P := P) ht)]
    by_cases c1 : 0 ≤ t ∧ t < 4
    · obtain ⟨q, rfl⟩ := Int.eq_ofNat_of_zero_le c0.1
      obtain ⟨t, rfl⟩ := Int.eq_ofNat_of_zero_le c1.1
      have hq3 : q < 3 := by omega
      have ht4 : t < 4 := by omega
      have har := ar_le t
      have cc : pr (q : Int) (t : Int) := ⟨c0, c1⟩
      obtain ⟨w, ed, g1, g2, _⟩ := CI_S h
      have hr := okS_rg hA.1 (4 * q + t) (by omega)
      have bad : ¬ (1 ≤ k ∧ k ≤ (ar t : Int)) → cP E G c n (s_transition A (q : Int) (t : Int) k) (some (.int (iv (-2)))) G := by
        intro z
        have e : s_transition A (q : Int) (t : Int) k = (-2, A) := by unfold s_transition; rw [if_pos cc]; exact if_neg z
        rw [e]
        exact cP_r h
      rw [if_pos (by rw [tf_t c1]; decide)]
      by_cases c2 : k < 1
      · rw [if_pos (by rw [iv_lt hk (by decide)]; exact c2)]
        exact bad (by omega)
      · rw [if_neg (by rw [iv_lt hk (by decide)]; exact c2), u_ar hE (by omega)]
        by_cases c3 : k ≤ (ar t : Int)
        · obtain ⟨k, rfl⟩ := Int.eq_ofNat_of_zero_le (show 0 ≤ k by omega)
          rw [if_pos (by rw [iv_le hk (by constructor <;> omega)]; exact c3), k_1 h.1, Sm_rc g1]
          refine ⟨trivial, ?_⟩
          rw [v_I (fun P => c_canRead (d := d) (P := P) g1 hq3 ht4 hr)]
          by_cases c4 : A.S.u (4 * q + t) = -1
          · have e : s_transition A (q : Int) (t : Int) (k : Int) = (-9, A) := by unfold s_transition; rw [if_pos cc]; exact (if_pos (show 1 ≤ (k : Int) ∧ (k : Int) ≤ (ar t : Int) by omega)).trans (if_pos c4)
            rw [e, if_pos (by rw [tf_f (fun z => z c4)]; decide)]
            exact cP_r h
          · have e : s_transition A (q : Int) (t : Int) (k : Int) = ((if (k : Int) = 1 then A.S.u (4 * q + t) else A.S.v (4 * q + t)), A) := by unfold s_transition; rw [if_pos cc]; exact (if_pos (show 1 ≤ (k : Int) ∧ (k : Int) ≤ (ar t : Int) by omega)).trans (if_neg c4)
            rw [e, if_neg (by rw [tf_t c4]; decide), k_1 h.1, Sm_rc g1]
            refine ⟨trivial, ?_⟩
            rw [v_I (fun P => c_target (d := d) (P := P) g1 hq3 ht4 (show k < 10 by omega))]
            by_cases c5 : k = 1
            · rw [if_pos c5, if_pos (show (k : Int) = 1 by omega)]
              exact cP_r h
            · rw [if_neg c5, if_neg (show ¬ (k : Int) = 1 by omega)]
              exact cP_r h
        · rw [if_neg (by rw [iv_le hk (by constructor <;> omega)]; exact c3)]
          exact bad (fun z => c3 z.2)
    · have e : s_transition A q t k = (-1, A) := by unfold s_transition; exact if_neg (fun z => c1 z.2)
      rw [e, if_neg (by rw [tf_f c1]; decide)]
      exact cP_r h
  · have e : s_transition A q t k = (-1, A) := by unfold s_transition; exact if_neg (fun z => c0 z.1)
    rw [e, if_pos (by rw [tf_f c0]; decide)]
    exact cP_r h
theorem x_hasTransition (hA : okA A) (h : CI E G c A n) {q t : Int} (hq : Rg q) (ht : Rg t) : runs E (d + 2) i_X6_hasTransition [.ref c, .int (iv q), .int (iv t)] G (cP E G c n (s_hasTransition A q t)) := by
  refine e_X6_hasTransition ?_
  rw [v_I (fun P => c_isState (d := d) (P := P) hq)]
  by_cases c0 : 0 ≤ q ∧ q < 3
  · rw [if_neg (by rw [tf_t c0]; decide), v_I (fun P => c_isTerminal (d := d) (P := P) ht)]
    by_cases c1 : 0 ≤ t ∧ t < 4
    · obtain ⟨q, rfl⟩ := Int.eq_ofNat_of_zero_le c0.1
      obtain ⟨t, rfl⟩ := Int.eq_ofNat_of_zero_le c1.1
      obtain ⟨w, ed, g1, g2, _⟩ := CI_S h
      have e : s_hasTransition A (q : Int) (t : Int) = ((if A.S.u (4 * q + t) = -1 then 0 else 1), A) := by unfold s_hasTransition; exact if_pos ⟨c0, c1⟩
      rw [e, if_pos (by rw [tf_t c1]; decide), k_1 h.1, Sm_rc g1]
      refine ⟨trivial, ?_⟩
      rw [v_I (fun P => c_canRead (d := d) (P := P) g1 (show q < 3 by omega) (show t < 4 by omega) (okS_rg hA.1 _ (by omega)))]
      by_cases c4 : A.S.u (4 * q + t) = -1
      · rw [if_pos (by rw [tf_f (fun z => z c4)]; decide), if_pos c4]
        exact cP_r h
      · rw [if_neg (by rw [tf_t c4]; decide), if_neg c4]
        exact cP_r h
    · have e : s_hasTransition A q t = (-1, A) := by unfold s_hasTransition; exact if_neg (fun z => c1 z.2)
      rw [e, if_neg (by rw [tf_f c1]; decide)]
      exact cP_r h
  · have e : s_hasTransition A q t = (-1, A) := by unfold s_hasTransition; exact if_neg (fun z => c0 z.1)
    rw [e, if_pos (by rw [tf_f c0]; decide)]
    exact cP_r h
theorem c_xr11 (h : CI E G c A n) {x : Nat} (hx : x < 16) {x2 : Int32} : ∀ (r k : Nat), k + r = 4 → (∀ l3, Xr E (d + 2) x_X6_reachable 4 [some (.ref c), some (.int (iv ((rc1 A.S 4 x : Nat) : Int))), some (.int (x2 + iv 1)), l3] [] G P) → Xr E (d + 2) x_X6_reachable 11 [some (.ref c), some (.int (iv ((rc1 A.S k x : Nat) : Int))), some (.int x2), some (.int (iv (k : Int)))] [] G P := by
  intro r
  induction r with
  | zero =>
    intro k hk hP
    have : k = 4 := by omega
    subst this
    refine g_X6_reachable_11 ?_
    rw [if_pos (by decide)]
    exact hP _
  | succ r ih =>
    intro k hk hP
    refine g_X6_reachable_11 ?_
    have nx := ih (k + 1) (by omega) hP
    have hlt := rc1_lt (S := A.S) hx k
    obtain ⟨w, ed, g1, g2, _⟩ := CI_S h
    have ht := Sx_t g1 (show k < 4 by omega)
    rw [if_neg (by rw [iv_le (by decide) (by constructor <;> omega)]; omega), i_bit (by omega) (by omega), i_s]
    unfold rc1 at nx
    cases hb : (rc1 A.S k x).testBit k with
    | false =>
      rw [hb, if_neg (by decide)] at nx
      rw [if_pos (by decide)]
      exact nx
    | true =>
      rw [hb, if_pos rfl] at nx
      rw [if_neg (by decide), k_1 h.1, Sm_rc g1]
      refine ⟨trivial, ?_⟩
      rw [v_R (fun P => c_body (d := d + 1) (P := P) g1 (show k < 4 by omega)), Tm_r ht]
      refine ⟨trivial, ?_⟩
      rw [v_I (fun P => c_nonterminals (d := d) (P := P) ht), iv_or, ← nts_or]
      exact nx
theorem c_xr4 (h : CI E G c A n) : ∀ (r k : Nat) (l3 : Option Value), k + r = 4 → P (some (.int (iv (rcK A.S 4 : Nat)))) G → Xr E (d + 2) x_X6_reachable 4 [some (.ref c), some (.int (iv ((rcK A.S k : Nat) : Int))), some (.int (iv (k : Int))), l3] [] G P := by
  intro r
  induction r with
  | zero =>
    intro k l3 hk hP
    have : k = 4 := by omega
    subst this
    refine g_X6_reachable_4 ?_
    rw [if_pos (by decide)]
    exact hP
  | succ r ih =>
    intro k l3 hk hP
    refine g_X6_reachable_4 ?_
    rw [if_neg (by rw [iv_le (by decide) (by constructor <;> omega)]; omega)]
    refine c_xr11 (d := d) h (x := rcK A.S k) (rcK_lt k) 4 0 (by omega) ?_
    intro l3'
    rw [i_s]
    exact ih (k + 1) _ (by omega) hP
theorem x_reachable (h : CI E G c A n) : runs E (d + 3) i_X6_reachable [.ref c] G (cP E G c n (s_reachable A)) := by
  refine e_X6_reachable ?_
  exact c_xr4 (d := d) h 4 0 _ (by omega) (cP_r h)
theorem x_setBody (hE : EK E) (hA : okA A) (h : CI E G c A n) {a : Int} (ha : Rg a) : runs E (d + 8) i_X6_setBody [.ref c, .int (iv a)] G (cP E G c n (s_setBody A a)) := by
  refine e_X6_setBody ?_
  rw [v_I (fun P => c_isNonterminal (d := d + 6) (P := P) ha)]
  by_cases c1 : 0 ≤ a ∧ a < 4
  · obtain ⟨k, rfl⟩ := Int.eq_ofNat_of_zero_le c1.1
    have hk : k < 4 := by omega
    rw [if_pos (by rw [tf_t c1]; decide), k_0 h.1, k_8 h.1]
    obtain ⟨h0, ⟨p, h1⟩, h2, h4, h5, ⟨⟨Sd, e6, h6⟩, ⟨zs, h6b⟩⟩, h7⟩ := h
    rw [Tx_r h1]
    refine ⟨trivial, u_I (c_isBody (d := d) hE hk (by omega) h1 h6b) ?_⟩
    rintro v G1 ⟨rfl, ⟨p', b1, _⟩, b2, b3⟩
    refine ⟨_, rfl, ?_⟩
    have ne : ∀ a, ¬ ivl (c + 1) 2 a → ¬ ivl (c + 260) 2 a → gt E G1 a = gt E G a := fun a y1 y2 => b3.1 a (fun z => by unfold ivl at *; omega)
    have hC1 : CI E G1 c A n := by
      refine ⟨(ne _ (by unfold ivl; omega) (by unfold ivl; omega)).trans h0, ⟨p', b1⟩, ?_, Hi_sam h4 b3 (fun a _ _ => by unfold ivl; omega), ?_, ⟨⟨Sd, e6, Sm_sam h6 b3 (fun a _ _ => by unfold ivl; omega)⟩, ⟨_, b2⟩⟩, ?_⟩
      · obtain ⟨w, ed, g1, g2, g3, g4⟩ := h2
        exact ⟨w, ed, g1, Sm_sam g2 b3 (fun a _ _ => by unfold ivl; omega), Tok_sam g3 b3 (fun a _ _ => by unfold ivl; omega), Yok_sam g4 b3 (fun a _ _ => by unfold ivl; omega)⟩
      · obtain ⟨⟨g, g1, g2⟩, g3, ⟨f, g4, g5⟩⟩ := h5
        refine ⟨⟨g, (ne _ (by unfold ivl; omega) (by unfold ivl; omega)).trans g1, g2⟩, fun i hi => ?_, ⟨f, (ne _ (by unfold ivl; omega) (by unfold ivl; omega)).trans g4, g5⟩⟩
        obtain ⟨e, he⟩ := g3 i hi
        exact ⟨e, Sm_sam he b3 (fun a _ _ => by unfold ivl; omega)⟩
      · obtain ⟨T, ed, g1, g2, g3⟩ := h7
        exact ⟨T, ed, g1, Sm_sam g2 b3 (fun a _ _ => by unfold ivl; omega), Yok_sam g3 b3 (fun a _ _ => by unfold ivl; omega)⟩
    have s1 : sam E G G1 (ivl c 290) := sam_mono b3 (fun a ha => by unfold ivl at *; omega)
    by_cases c2 : (rdB A.tx k 30 1 0 []).1 = true ∧ (rdB A.tx k 30 1 0 []).2.1 = A.tx.length
    · have e : s_setBody A (k : Int) = ((((rdB A.tx k 30 1 0 []).2.2.length : Nat) : Int), (As.mk (rem A).tx ((Sc.mk (upB A.S.b k (rdB A.tx k 30 1 0 []).2.2) A.S.u A.S.v)) (rem A).R (rem A).nx (rem A).ct (rem A).K (rem A).F)) := by unfold s_setBody; rw [if_pos c1]; exact if_pos c2
      have hok := rdB_okB c2.1
      rw [e, if_pos (by rw [tf_t c2]; decide), k_4 hC1.1, k_1 hC1.1]
      refine x_rem (d := d + 3) hC1 ?_
      intro G2 d1 d2
      obtain ⟨w, ed, g1, g2, g3⟩ := CI_S d1
      have t2 := Tm_sam b2 d2 (by unfold ivl; omega) (by unfold ivl; omega)
      rw [k_1 d1.1, k_8 d1.1, Sm_rc g1]
      refine ⟨trivial, u_V (c_changeBody (d := d + 4) g1 hk t2 (by omega) hok.1) ?_⟩
      rintro v G3 ⟨rfl, i1, i2⟩
      refine ⟨rfl, ?_⟩
      have hC3 := g3 G3 w (Sc.mk (upB A.S.b k (rdB A.tx k 30 1 0 []).2.2) A.S.u A.S.v) i1 i2
      have t3 := Tm_sam t2 i2 (by unfold ivl; omega) (by unfold ivl; omega)
      rw [k_8 hC3.1, Tm_r t3]
      refine ⟨trivial, ?_⟩
      rw [v_I (fun P => c_size (d := d + 6) (P := P) t3)]
      exact ⟨rfl, hC3, sam_tr s1 (sam_tr (sam_mono d2 (fun a ha => by unfold ivl at *; omega)) (sam_mono i2 (fun a ha => by unfold ivl at *; omega)))⟩
    · have e : s_setBody A (k : Int) = (-3, A) := by unfold s_setBody; rw [if_pos c1]; exact if_neg c2
      rw [e, if_neg (by rw [tf_f c2]; decide)]
      exact ⟨rfl, CI_m hC1 (by omega), s1⟩
  · have e : s_setBody A a = (-1, A) := by unfold s_setBody; rw [if_neg c1]
    rw [e, if_neg (by rw [tf_f c1]; decide)]
    exact cP_r h
theorem x_setTransition (hE : EK E) (hA : okA A) (h : CI E G c A n) {q t q1 q2 : Int} (hq : Rg q) (ht : Rg t) (hq1 : Rg q1) (hq2 : Rg q2) : runs E (d + 5) i_X6_setTransition [.ref c, .int (iv q), .int (iv t), .int (iv q1), .int (iv q2)] G (cP E G c n (s_setTransition A q t q1 q2)) := by
  refine e_X6_setTransition ?_
  rw [v_I (fun P => c_isState (d := d + 3) (P := P) hq)]
  by_cases c0 : 0 ≤ q ∧ q < 3
  · rw [if_neg (by rw [tf_t c0]; decide), v_I (fun P => c_isTerminal (d := d + 3) (P := P) ht)]
    by_cases c1 : 0 ≤ t ∧ t < 4
    · obtain ⟨q, rfl⟩ := Int.eq_ofNat_of_zero_le c0.1
      obtain ⟨t, rfl⟩ := Int.eq_ofNat_of_zero_le c1.1
      have hq3 : q < 3 := by omega
      have ht4 : t < 4 := by omega
      have cc : pr (q : Int) (t : Int) := ⟨c0, c1⟩
      have bad : ¬ (fitQ (t : Int) 1 q1 ∧ fitQ (t : Int) 2 q2) → cP E G c n (s_setTransition A (q : Int) (t : Int) q1 q2) (some (.int (iv (-2)))) G := by
        intro z
        have e : s_setTransition A (q : Int) (t : Int) q1 q2 = (-2, A) := by unfold s_setTransition; rw [if_pos cc]; exact if_neg z
        rw [e]
        exact cP_r h
      have f1 : fitQ (t : Int) 1 q1 ↔ ((1 : Int) ≤ ar t ∧ 0 ≤ q1 ∧ q1 < 3) ∨ ((ar t : Int) < 1 ∧ q1 = 0) := by
        show (1 ≤ ar t ∧ 0 ≤ q1 ∧ q1 < 3) ∨ (ar t < 1 ∧ q1 = 0) ↔ _
        omega
      have f2 : fitQ (t : Int) 2 q2 ↔ ((2 : Int) ≤ ar t ∧ 0 ≤ q2 ∧ q2 < 3) ∨ ((ar t : Int) < 2 ∧ q2 = 0) := by
        show (2 ≤ ar t ∧ 0 ≤ q2 ∧ q2 < 3) ∨ (ar t < 2 ∧ q2 = 0) ↔ _
        omega
      rw [if_pos (by rw [tf_t c1]; decide), v_I (fun P => c_suitsChild (d := d + 2) (P := P) hE.1 ht4 (show Rg (1 : Int) by decide) hq1)]
      by_cases c2 : fitQ (t : Int) 1 q1
      · rw [if_neg (by rw [tf_t (f1.mp c2)]; decide), v_I (fun P => c_suitsChild (d := d + 2) (P := P) hE.1 ht4 (show Rg (2 : Int) by decide) hq2)]
        by_cases c3 : fitQ (t : Int) 2 q2
        · have e : s_setTransition A (q : Int) (t : Int) q1 q2 = ((if A.S.u (4 * q + t) = -1 then 0 else 1), (As.mk (rem A).tx ((Sc.mk A.S.b (upI A.S.u (4 * q + t) q1) (upI A.S.v (4 * q + t) q2))) (rem A).R (rem A).nx (rem A).ct (rem A).K (rem A).F)) := by unfold s_setTransition; rw [if_pos cc]; exact if_pos ⟨c2, c3⟩
          obtain ⟨w, ed, g1, _, _⟩ := CI_S h
          rw [e, if_pos (by rw [tf_t (f2.mp c3)]; decide), k_1 h.1, Sm_rc g1]
          refine ⟨trivial, ?_⟩
          rw [v_I (fun P => c_canRead (d := d + 3) (P := P) g1 hq3 ht4 (okS_rg hA.1 _ (by omega)))]
          have go : ∀ r : Int, r = (if A.S.u (4 * q + t) = -1 then 0 else 1) → rcv E G (c + 52) 0 = true ∧ (qCV E (d + 4) i_X0_remember [.ref (c + 52), .ref (c + 3)] G fun G14 => (qFR E G14 c 6 1 fun v15 => (rcv E G14 v15 1 = true ∧ (qCV E (d + 4) i_X1_putTransition [.ref v15, .int (iv (q : Int)), .int (iv (t : Int)), .int (iv q1), .int (iv q2)] G14 fun G16 => cP E G c n ((if A.S.u (4 * q + t) = -1 then 0 else 1), (As.mk (rem A).tx ((Sc.mk A.S.b (upI A.S.u (4 * q + t) q1) (upI A.S.v (4 * q + t) q2))) (rem A).R (rem A).nx (rem A).ct (rem A).K (rem A).F)) (some (.int (iv r))) G16)))) := by
            intro r hr
            refine x_rem (d := d) h ?_
            intro G2 d1 d2
            obtain ⟨w, ed, g1, g2, g3⟩ := CI_S d1
            rw [k_1 d1.1, Sm_rc g1]
            refine ⟨trivial, u_V (c_putTransition (d := d + 3) (a := q1) (b := q2) g1 hq3 ht4) ?_⟩
            rintro v G3 ⟨rfl, i1, i2⟩
            refine ⟨rfl, by rw [hr], g3 G3 w (Sc.mk A.S.b (upI A.S.u (4 * q + t) q1) (upI A.S.v (4 * q + t) q2)) i1 i2, sam_tr (sam_mono d2 (fun a ha => by unfold ivl at *; omega)) (sam_mono i2 (fun a ha => by unfold ivl at *; omega))⟩
          by_cases c4 : A.S.u (4 * q + t) = -1
          · rw [if_pos (by rw [tf_f (fun z => z c4)]; decide), k_4 h.1, k_1 h.1]
            exact go 0 (by rw [if_pos c4])
          · rw [if_neg (by rw [tf_t c4]; decide), k_4 h.1, k_1 h.1]
            exact go 1 (by rw [if_neg c4])
        · rw [if_neg (by rw [tf_f (fun z => c3 (f2.mpr z))]; decide)]
          exact bad (fun z => c3 z.2)
      · rw [if_pos (by rw [tf_f (fun z => c2 (f1.mpr z))]; decide)]
        exact bad (fun z => c2 z.1)
    · have e : s_setTransition A q t q1 q2 = (-1, A) := by unfold s_setTransition; exact if_neg (fun z => c1 z.2)
      rw [e, if_neg (by rw [tf_f c1]; decide)]
      exact cP_r h
  · have e : s_setTransition A q t q1 q2 = (-1, A) := by unfold s_setTransition; exact if_neg (fun z => c0 z.1)
    rw [e, if_pos (by rw [tf_f c0]; decide)]
    exact cP_r h
theorem x_removeTransition (hA : okA A) (h : CI E G c A n) {q t : Int} (hq : Rg q) (ht : Rg t) : runs E (d + 5) i_X6_removeTransition [.ref c, .int (iv q), .int (iv t)] G (cP E G c n (s_removeTransition A q t)) := by
  refine e_X6_removeTransition ?_
  rw [v_I (fun P => c_isState (d := d + 3) (P := P) hq)]
  by_cases c0 : 0 ≤ q ∧ q < 3
  · rw [if_neg (by rw [tf_t c0]; decide), v_I (fun P => c_isTerminal (d := d + 3) (P := P) ht)]
    by_cases c1 : 0 ≤ t ∧ t < 4
    · obtain ⟨q, rfl⟩ := Int.eq_ofNat_of_zero_le c0.1
      obtain ⟨t, rfl⟩ := Int.eq_ofNat_of_zero_le c1.1
      have hq3 : q < 3 := by omega
      have ht4 : t < 4 := by omega
      have cc : pr (q : Int) (t : Int) := ⟨c0, c1⟩
      obtain ⟨w, ed, g1, _, _⟩ := CI_S h
      rw [if_pos (by rw [tf_t c1]; decide), k_1 h.1, Sm_rc g1]
      refine ⟨trivial, ?_⟩
      rw [v_I (fun P => c_canRead (d := d + 3) (P := P) g1 hq3 ht4 (okS_rg hA.1 _ (by omega)))]
      by_cases c4 : A.S.u (4 * q + t) = -1
      · have e : s_removeTransition A (q : Int) (t : Int) = (-3, A) := by unfold s_removeTransition; rw [if_pos cc]; exact if_pos c4
        rw [e, if_neg (by rw [tf_f (fun z => z c4)]; decide)]
        exact cP_r h
      · have e : s_removeTransition A (q : Int) (t : Int) = (((tcn (dropT A.S (4 * q + t)).u 12 : Nat) : Int), (As.mk (rem A).tx (dropT A.S (4 * q + t)) (rem A).R (rem A).nx (rem A).ct (rem A).K (rem A).F)) := by unfold s_removeTransition; rw [if_pos cc]; exact if_neg c4
        rw [e, if_pos (by rw [tf_t c4]; decide), k_4 h.1, k_1 h.1]
        refine x_rem (d := d) h ?_
        intro G2 d1 d2
        obtain ⟨w, ed, g1, g2, g3⟩ := CI_S d1
        rw [k_1 d1.1, Sm_rc g1]
        refine ⟨trivial, u_V (c_dropTransition (d := d + 2) g1 hq3 ht4) ?_⟩
        rintro v G3 ⟨rfl, i1, i2⟩
        refine ⟨rfl, ?_⟩
        have hC3 := g3 G3 w (dropT A.S (4 * q + t)) i1 i2
        have hok : okS (dropT A.S (4 * q + t)) := okS_t hA.1 (Or.inl ⟨rfl, rfl⟩)
        have i1' : Sx E G3 (c + 3) w (dropT A.S (4 * q + t)) (ed + 1) := i1
        rw [k_1 hC3.1, Sm_rc i1']
        refine ⟨trivial, ?_⟩
        rw [v_I (fun P => c_transitionCount (d := d + 3) (P := P) i1' (okS_rg hok))]
        exact ⟨rfl, hC3, sam_tr (sam_mono d2 (fun a ha => by unfold ivl at *; omega)) (sam_mono i2 (fun a ha => by unfold ivl at *; omega))⟩
    · have e : s_removeTransition A q t = (-1, A) := by unfold s_removeTransition; exact if_neg (fun z => c1 z.2)
      rw [e, if_neg (by rw [tf_f c1]; decide)]
      exact cP_r h
  · have e : s_removeTransition A q t = (-1, A) := by unfold s_removeTransition; exact if_neg (fun z => c0 z.1)
    rw [e, if_pos (by rw [tf_f c0]; decide)]
    exact cP_r h
theorem x_exchange (h : CI E G c A n) : runs E (d + 5) i_X6_exchange [.ref c] G (cP E G c n (s_exchange A)) := by
  refine e_X6_exchange ?_
  rw [k_4 h.1, k_1 h.1]
  refine x_rem (d := d) h ?_
  intro G2 d1 d2
  obtain ⟨w, ed, g1, g2, g3⟩ := CI_S d1
  rw [k_1 d1.1, Sm_rc g1]
  refine ⟨trivial, u_I (c_swapFAndG (d := d + 2) g1) ?_⟩
  rintro v G3 ⟨rfl, i1, i2⟩
  exact ⟨_, rfl, rfl, g3 G3 (!w) (exS A.S) i1 i2, sam_tr (sam_mono d2 (fun a ha => by unfold ivl at *; omega)) (sam_mono i2 (fun a ha => by unfold ivl at *; omega))⟩
theorem x_undo (hA : okA A) (h : CI E G c A n) : runs E (d + 5) i_X6_undo [.ref c] G (cP E G c n (s_undo A)) := by
  refine e_X6_undo ?_
  obtain ⟨h0, h1, ⟨w, ed, g1, g2, g3, g4⟩, h4, h5, h6, h7⟩ := h
  rw [k_4 h0, k_1 h0, Hi_rc h4]
  refine ⟨trivial, u_I (c_takeBack (d := d) h4 g2 (by omega)) ?_⟩
  rintro v G1 ⟨rfl, b1, b2⟩
  refine ⟨_, rfl, ?_⟩
  by_cases c1 : A.ct = 0
  · have e : s_undo A = (-3, A) := by unfold s_undo; rw [if_pos c1]
    have := b1 c1
    subst this
    rw [e, if_pos (by rw [tf_f (fun z => z c1)]; decide)]
    exact cP_r ⟨h0, h1, ⟨w, ed, g1, g2, g3, g4⟩, h4, h5, h6, h7⟩
  · have e : s_undo A = (((A.ct - 1 : Nat) : Int), (As.mk A.tx (A.R ((A.nx + 13) % 14)) A.R ((A.nx + 13) % 14) (A.ct - 1) A.K A.F)) := by unfold s_undo; rw [if_neg c1]
    obtain ⟨d1, d2, d3⟩ := b2 c1
    have q0 : K0 E G1 c := (d3.1 _ (by unfold ivl; omega)).trans h0
    rw [e, if_neg (by rw [tf_t c1]; decide), k_4 q0, Hi_rc d1]
    refine ⟨trivial, ?_⟩
    rw [v_I (fun P => c_Hsize (d := d + 3) (P := P) d1)]
    refine ⟨rfl, ⟨q0, ?_, K2_n g1 d2 g3 g4 d3 (fun a x y => by unfold ivl; omega), d1, ?_, ?_, ?_⟩, sam_mono d3 (fun a ha => by unfold ivl at *; omega)⟩
    · obtain ⟨p, h1⟩ := h1
      exact ⟨p, Tx_sam h1 d3 (by unfold ivl; omega) (by unfold ivl; omega)⟩
    · obtain ⟨⟨g, j1, j2⟩, j3, ⟨f, j4, j5⟩⟩ := h5
      refine ⟨⟨g, (d3.1 _ (by unfold ivl; omega)).trans j1, j2⟩, fun i hi => ?_, ⟨f, (d3.1 _ (by unfold ivl; omega)).trans j4, j5⟩⟩
      obtain ⟨e, he⟩ := j3 i hi
      exact ⟨e, Sm_sam he d3 (fun a _ _ => by unfold ivl; omega)⟩
    · obtain ⟨⟨Sd, e6, j1⟩, ⟨zs, j2⟩⟩ := h6
      exact ⟨⟨Sd, e6, Sm_sam j1 d3 (fun a _ _ => by unfold ivl; omega)⟩, ⟨zs, Tm_sam j2 d3 (by unfold ivl; omega) (by unfold ivl; omega)⟩⟩
    · obtain ⟨T, ed', j1, j2, j3⟩ := h7
      exact ⟨T, ed', by omega, Sm_sam j2 d3 (fun a _ _ => by unfold ivl; omega), Yok_sam j3 d3 (fun a _ _ => by unfold ivl; omega)⟩
end CA1
