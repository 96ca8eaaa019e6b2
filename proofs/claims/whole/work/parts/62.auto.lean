-- uses 41 42 43 44 45 46 47 48 49 50 51 52 53 54 55 56 57 58 59 60 61
/-! the run on the tree -/
def raStep (S : Sc) (lb : Nat → Int) (n : Nat) (f : Nat → Int) : Nat → Int :=
  if ((0 ≤ lb n ∧ lb n < 4) ∧ (0 ≤ f n ∧ f n < 3)) ∧ S.u (4 * (f n).toNat + (lb n).toNat) ≠ -1 then
    (if ar (lb n).toNat = 0 then f else if ar (lb n).toNat = 1 then upI f (2 * n) (S.u (4 * (f n).toNat + (lb n).toNat)) else upI (upI f (2 * n) (S.u (4 * (f n).toNat + (lb n).toNat))) (2 * n + 1) (S.v (4 * (f n).toNat + (lb n).toNat)))
  else f
def raN (S : Sc) (lb : Nat → Int) : Nat → Nat → Int
  | 0 => upI (fun _ => -9) 1 0
  | n + 1 => raStep S lb (n + 1) (raN S lb n)
theorem upI_rg {f : Nat → Int} {k : Nat} {z : Int} (h : ∀ j, -9 ≤ f j ∧ f j < 3) (hz : -9 ≤ z ∧ z < 3) : ∀ j, -9 ≤ upI f k z j ∧ upI f k z j < 3 := by
  intro j
  unfold upI
  split
  · exact hz
  · exact h j
theorem okS_u {S : Sc} (h : okS S) {k : Nat} (hk : k < 12) : (-9 ≤ S.u k ∧ S.u k < 3) ∧ (-9 ≤ S.v k ∧ S.v k < 3) := by
  rcases h.2 k hk with z | z <;> omega
theorem raStep_rg {S : Sc} {lb : Nat → Int} {n : Nat} {f : Nat → Int} (hS : okS S) (h : ∀ j, -9 ≤ f j ∧ f j < 3) : ∀ j, -9 ≤ raStep S lb n f j ∧ raStep S lb n f j < 3 := by
  unfold raStep
  split
  · next c =>
    have hk := okS_u hS (k := 4 * (f n).toNat + (lb n).toNat) (by omega)
    split
    · exact h
    · split
      · exact upI_rg h hk.1
      · exact upI_rg (upI_rg h hk.1) hk.2
  · exact h
theorem raN_rg {S : Sc} {lb : Nat → Int} (hS : okS S) : ∀ n j, -9 ≤ raN S lb n j ∧ raN S lb n j < 3 := by
  intro n
  induction n with
  | zero => exact upI_rg (fun _ => by decide) (by decide)
  | succ n ih => exact raStep_rg hS ih
/-- the tree object with its rows -/
def TrP (E : Ev) (G : Hp) (t s : Nat) (se : Int) (L : LL) (f : Nat → Int) : Prop := TrO E G t s se ∧ UP E G t 0 L ∧ AI E G (t + 20) 128 f
section AU
variable {E : Ev} {d : Nat} {G : Hp} {P : Po} {t s : Nat} {w : Bool} {S : Sc} {ed : Nat} {se : Int} {L : LL}
theorem UP_sam {G1 : Hp} {R : Nat → Prop} {dp : Nat} (h : UP E G t dp L) (k : sam E G G1 R) (hr : ∀ a, t + 2 ≤ a → a < t + 20 → ¬ R a) : UP E G1 t dp L := by
  obtain ⟨h1, ⟨ws, h2⟩, h3, h4⟩ := h
  refine ⟨fun j hj1 hj2 => ?_, ⟨ws, Tm_sam h2 k (hr _ (by omega) (by omega)) (hr _ (by omega) (by omega))⟩, AI_sam h3 k (hr _ (by omega) (by omega)), AI_sam h4 k (hr _ (by omega) (by omega))⟩
  obtain ⟨w, q⟩ := h1 j hj1 hj2
  exact ⟨w, Tm_sam q k (hr _ (by omega) (by omega)) (hr _ (by omega) (by omega))⟩
theorem TrP_sam {G1 : Hp} {R : Nat → Prop} {f : Nat → Int} (h : TrP E G t s se L f) (k : sam E G G1 R) (hr : ∀ a, t ≤ a → a < t + 21 → ¬ R a) : TrP E G1 t s se L f :=
  ⟨TrO_sam h.1 k (hr _ (by omega) (by omega)) (hr _ (by omega) (by omega)), UP_sam h.2.1 k (fun a h1 h2 => hr a (by omega) (by omega)), AI_sam h.2.2 k (hr _ (by omega) (by omega))⟩
/-- a change of the states' row alone -/
theorem TrP_f {G1 : Hp} {f f' : Nat → Int} (h : TrP E G t s se L f) (k : sam E G G1 (ivl (t + 20) 1)) (hf : AI E G1 (t + 20) 128 f') : TrP E G1 t s se L f' :=
  ⟨TrO_sam h.1 k (by unfold ivl; omega) (by unfold ivl; omega), UP_sam h.2.1 k (fun a h1 h2 => by unfold ivl; omega), hf⟩
/-- one child gets its state -/
theorem c_ra74 (hE : EK E) (hst : s + 12 ≤ t ∨ t + 21 ≤ s) {n q tt c : Nat} {f : Nat → Int} {G1 : Hp} (hn : 1 ≤ n ∧ n < 64) (hc : 1 ≤ c ∧ c ≤ ar tt) (ht4 : tt < 4) (hq : q < 3) (hfq : f n = (q : Nat)) (hT : TrP E G1 t s se L f) (hs : Sx E G1 s w S ed) (hP : ∀ G2, TrP E G2 t s se L (upI f (2 * n + c - 1) (if c = 1 then S.u (4 * q + tt) else S.v (4 * q + tt))) → sam E G1 G2 (ivl (t + 20) 1) → Xr E (d + 2) x_X4_runAutomaton 74 [some (.ref t), some (.int (iv (n : Int))), some (.int (iv (tt : Int))), some (.int (iv ((c + 1 : Nat) : Int)))] [] G2 P) : Xr E (d + 2) x_X4_runAutomaton 74 [some (.ref t), some (.int (iv (n : Int))), some (.int (iv (tt : Int))), some (.int (iv (c : Int)))] [] G1 P := by
  have ha := ar_le tt
  refine g_X4_runAutomaton_74 ?_
  rw [v_I (fun P => c_arN (d := d + 1) (P := P) hE.1 (show tt < 10 by omega))]
  simp (disch := first | assumption | omega | decide) only [iv_lt]
  rw [if_neg (by omega), u_FR hT.1.1 rfl, v_I (fun P => c_childOf (d := d + 1) (P := P)), u_FR hT.1.1 rfl, u_FR hT.1.1 rfl, AI_g hT.2.2 (by omega), hfq, Sm_rc hs]
  refine ⟨trivial, ?_⟩
  rw [v_I (fun P => c_target (d := d + 1) (P := P) hs hq ht4 (show c < 10 by omega)), show 2 * (n : Int) + (c : Int) - 1 = ((2 * n + c - 1 : Nat) : Int) by omega, i_s]
  refine AI_s hT.2.2 (by omega) ?_
  intro G2 a1 a2
  exact hP G2 (TrP_f hT a2 a1) a2
theorem c_raL (hE : EK E) (hst : s + 12 ≤ t ∨ t + 21 ≤ s) (hS : okS S) (hL : ∀ n, n < 128 → -2 ≤ L.1 n ∧ L.1 n < 4) : ∀ (k n : Nat) (G1 : Hp) (l2 l3 : Option Value), 63 - n ≤ k → n ≤ 63 → TrP E G1 t s se L (raN S L.1 n) → Sx E G1 s w S ed → sam E G G1 (ivl (t + 20) 1) → (∀ G2, TrP E G2 t s se L (raN S L.1 63) → sam E G G2 (ivl (t + 20) 1) → P none G2) → Xr E (d + 2) x_X4_runAutomaton 18 [some (.ref t), some (.int (iv ((n + 1 : Nat) : Int))), l2, l3] [] G1 P := by
  intro k
  induction k with
  | zero =>
    intro n G1 l2 l3 hk hn hT hs hm hP
    have : n = 63 := by omega
    subst this
    refine g_X4_runAutomaton_18 ?_
    rw [if_pos (by decide)]
    exact hP G1 hT hm
  | succ k ih =>
    intro n G1 l2 l3 hk hn hT hs hm hP
    by_cases c63 : n = 63
    · subst c63
      refine g_X4_runAutomaton_18 ?_
      rw [if_pos (by decide)]
      exact hP G1 hT hm
    refine g_X4_runAutomaton_18 ?_
    have e0 : iv 2 * iv ((n + 1 : Nat) : Int) + iv 1 = iv ((2 * (n + 1) + 1 : Nat) : Int) := by
      rw [iv_mul, iv_add]
      rfl
    rw [e0]
    simp (disch := first | assumption | omega | decide) only [iv_le]
    have hl := hL (n + 1) (by omega)
    have hf := raN_rg (lb := L.1) hS n (n + 1)
    rw [if_neg (by omega), u_FR hT.1.1 rfl, AI_g hT.2.1.2.2.1 (by omega), v_I (fun P => c_isTerminal (d := d + 1) (P := P) (by constructor <;> omega))]
    simp only [tf_0, i_s]
    have skip : ∀ l2 l3, ¬ (((0 ≤ L.1 (n + 1) ∧ L.1 (n + 1) < 4) ∧ (0 ≤ raN S L.1 n (n + 1) ∧ raN S L.1 n (n + 1) < 3)) ∧ S.u (4 * (raN S L.1 n (n + 1)).toNat + (L.1 (n + 1)).toNat) ≠ -1) → Xr E (d + 2) x_X4_runAutomaton 18 [some (.ref t), some (.int (iv ((n + 1 + 1 : Nat) : Int))), l2, l3] [] G1 P := by
      intro l2 l3 hh
      have e : raN S L.1 (n + 1) = raN S L.1 n := by
        show raStep S L.1 (n + 1) (raN S L.1 n) = _
        unfold raStep
        rw [if_neg hh]
      exact ih (n + 1) G1 l2 l3 (by omega) (by omega) (by rw [e]; exact hT) hs hm hP
    by_cases c1 : 0 ≤ L.1 (n + 1) ∧ L.1 (n + 1) < 4
    · rw [if_neg (fun z => z c1), u_FR hT.1.1 rfl, AI_g hT.2.2 (by omega), v_I (fun P => c_isState (d := d + 1) (P := P) (by constructor <;> omega))]
      simp only [tf_0]
      by_cases c2 : 0 ≤ raN S L.1 n (n + 1) ∧ raN S L.1 n (n + 1) < 3
      · rw [if_neg (fun z => z c2), u_FR hT.1.1 rfl, u_FR hT.1.1 rfl, AI_g hT.2.2 (by omega), Sm_rc hs]
        refine ⟨trivial, ?_⟩
        obtain ⟨q, hq⟩ := Int.eq_ofNat_of_zero_le c2.1
        obtain ⟨tt, ht⟩ := Int.eq_ofNat_of_zero_le c1.1
        have hq3 : q < 3 := by omega
        have ht4 : tt < 4 := by omega
        have hk := okS_u hS (k := 4 * q + tt) (by omega)
        rw [hq, ht, v_I (fun P => c_canRead (d := d + 1) (P := P) hs hq3 ht4 (by constructor <;> omega))]
        simp only [tf_0, Classical.not_not]
        rw [hq, ht] at skip
        simp only [Int.toNat_natCast] at skip
        by_cases c3 : S.u (4 * q + tt) = -1
        · rw [if_pos (by simpa using c3)]
          exact skip _ _ (fun z => z.2 c3)
        · rw [if_neg (by simpa using c3)]
          have ha := ar_le tt
          have en : raN S L.1 (n + 1) = (if ar tt = 0 then raN S L.1 n else if ar tt = 1 then upI (raN S L.1 n) (2 * (n + 1)) (S.u (4 * q + tt)) else upI (upI (raN S L.1 n) (2 * (n + 1)) (S.u (4 * q + tt))) (2 * (n + 1) + 1) (S.v (4 * q + tt))) := by
            show raStep S L.1 (n + 1) (raN S L.1 n) = _
            unfold raStep
            rw [hq, ht]
            simp only [Int.toNat_natCast]
            rw [if_pos ⟨⟨by omega, by omega⟩, c3⟩]
          -- leaving the inner loop
          have out : ∀ (c : Nat) (G2 : Hp), c = ar tt + 1 → TrP E G2 t s se L (raN S L.1 (n + 1)) → Sx E G2 s w S ed → sam E G G2 (ivl (t + 20) 1) → Xr E (d + 2) x_X4_runAutomaton 74 [some (.ref t), some (.int (iv ((n + 1 : Nat) : Int))), some (.int (iv (tt : Int))), some (.int (iv (c : Int)))] [] G2 P := by
            intro c G2 hc h1 h2 h3
            refine g_X4_runAutomaton_74 ?_
            rw [v_I (fun P => c_arN (d := d + 1) (P := P) hE.1 (show tt < 10 by omega))]
            simp (disch := first | assumption | omega | decide) only [iv_lt]
            rw [if_pos (by omega), i_s]
            exact ih (n + 1) G2 _ _ (by omega) (by omega) h1 h2 h3 hP
          rcases (by omega : ar tt = 0 ∨ ar tt = 1 ∨ ar tt = 2) with ca | ca | ca
          · rw [if_pos ca] at en
            exact out 1 G1 (by omega) (by rw [en]; exact hT) hs hm
          · rw [if_neg (by omega), if_pos ca] at en
            refine c_ra74 (n := n + 1) (c := 1) hE hst (by omega) (by omega) ht4 hq3 hq hT hs ?_
            intro G2 a1 a2
            rw [if_pos rfl, show 2 * (n + 1) + 1 - 1 = 2 * (n + 1) by omega] at a1
            exact out 2 G2 (by omega) (by rw [en]; exact a1) (Sm_dis hs a2 (by omega)) (sam_tr hm a2)
          · rw [if_neg (by omega), if_neg (by omega)] at en
            refine c_ra74 (n := n + 1) (c := 1) hE hst (by omega) (by omega) ht4 hq3 hq hT hs ?_
            intro G2 a1 a2
            rw [if_pos rfl, show 2 * (n + 1) + 1 - 1 = 2 * (n + 1) by omega] at a1
            have hs2 := Sm_dis hs a2 (by omega)
            refine c_ra74 (n := n + 1) (c := 2) hE hst (by omega) (by omega) ht4 hq3 ?_ a1 hs2 ?_
            · unfold upI
              rw [if_neg (by omega)]
              exact hq
            · intro G3 b1 b2
              rw [if_neg (by decide), show 2 * (n + 1) + 2 - 1 = 2 * (n + 1) + 1 by omega] at b1
              exact out 3 G3 (by omega) (by rw [en]; exact b1) (Sm_dis hs2 b2 (by omega)) (sam_tr hm (sam_tr a2 b2))
      · rw [if_pos c2]
        exact skip _ _ (fun z => c2 z.1.2)
    · rw [if_pos c1]
      exact skip _ _ (fun z => c1 z.1.1)
theorem c_runAutomaton (hE : EK E) (hst : s + 12 ≤ t ∨ t + 21 ≤ s) (hS : okS S) (hL : ∀ n, n < 128 → -2 ≤ L.1 n ∧ L.1 n < 4) {f : Nat → Int} (hT : TrP E G t s se L f) (hs : Sx E G s w S ed) : runs E (d + 3) i_X4_runAutomaton [.ref t] G (fun v G1 => v = none ∧ TrP E G1 t s se L (raN S L.1 63) ∧ sam E G G1 (ivl (t + 20) 1)) := by
  refine e_X4_runAutomaton ?_
  rw [u_FR hT.1.1 rfl]
  obtain ⟨f0, g1, g2⟩ := hT.2.2
  refine u_V (c_fill (d := d + 1) g1 (by decide)) ?_
  rintro v G1 ⟨rfl, ⟨f', a1, a2⟩, a3⟩
  refine ⟨rfl, ?_⟩
  have hT1 : TrP E G1 t s se L (fun _ => -9) := TrP_f hT a3 ⟨f', a1, a2⟩
  rw [u_FR hT1.1.1 rfl, show iv 1 = iv ((1 : Nat) : Int) from rfl]
  refine AI_s hT1.2.2 (by omega) ?_
  intro G2 b1 b2
  exact c_raL (G := G) (ed := ed) hE hst hS hL 63 0 G2 none none (by omega) (by omega) (TrP_f hT1 b2 b1) (Sm_dis (Sm_dis hs a3 (by omega)) b2 (by omega)) (sam_tr a3 b2) (fun G3 c1 c2 => ⟨rfl, c1, c2⟩)
end AU
