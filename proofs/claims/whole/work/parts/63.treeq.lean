-- uses 41 42 43 44 45 46 47 48 49 50 51 52 53 54 55 56 57 58 59 60 61 62
/-! the tree up to date; questions to it -/
def okL (L : LL) : Prop := ∀ n, -2 ≤ L.1 n ∧ L.1 n < 4
theorem okL_mrk {node acc : Nat} {r : Nat × List Nat} {L : LL} (h : okL L) : okL (mrk node acc r L) := by
  intro n
  show -2 ≤ upI L.1 node (if hd r.2 < 4 then (hd r.2 : Nat) else -2) n ∧ upI L.1 node (if hd r.2 < 4 then (hd r.2 : Nat) else -2) n < 4
  unfold upI
  split
  · split <;> omega
  · exact h n
theorem okL_unl {U : Nat → List Nat → LL → LL} (hU : ∀ nd ys L, okL L → okL (U nd ys L)) {node : Nat} {zs : List Nat} : ∀ (k c st : Nat) (L : LL), okL L → okL (unl U node zs k c st L) := by
  intro k
  induction k with
  | zero => intro c st L h; exact h
  | succ k ih => intro c st L h; exact ih _ _ _ (hU _ _ _ h)
theorem okL_unf {B : Nat → List Nat} : ∀ (h node acc : Nat) (xs : List Nat) (L : LL), okL L → okL (unf B h node acc xs L) := by
  intro h
  induction h with
  | zero => intro node acc xs L hL; exact okL_mrk hL
  | succ h ih =>
    intro node acc xs L hL
    unfold unf
    split
    · exact okL_unl (fun nd ys L hl => ih nd _ ys L hl) _ _ _ _ (okL_mrk hL)
    · exact okL_mrk hL
/-- the tree of a state, whatever stood in the expansions' row -/
def tL (S : Sc) (x0 : Nat → Int) : LL := unf S.b 6 1 0 [4] (fun _ => -1, x0)
def Tfr (E : Ev) (G : Hp) (t s : Nat) (S : Sc) (ed : Nat) : Prop := ∃ x0, TrP E G t s (ed : Int) (tL S x0) (raN S (tL S x0).1 63)
/-- the tree object is right, or knows that it is old -/
def Tok (E : Ev) (G : Hp) (t s : Nat) (S : Sc) (ed : Nat) : Prop := Tfr E G t s S ed ∨ ∃ se L f, TrP E G t s se L f ∧ -1 ≤ se ∧ se < ed
theorem okT_S : okT [4] := ⟨trivial, fun y hy => by simp at hy; omega, by decide⟩
theorem okL_tL {S : Sc} {x0 : Nat → Int} : okL (tL S x0) := okL_unf _ _ _ _ _ (fun n => by show -2 ≤ (-1 : Int) ∧ (-1 : Int) < 4; decide)
section TQ
variable {E : Ev} {d : Nat} {G : Hp} {P : Po} {t s : Nat} {w : Bool} {S : Sc} {ed : Nat} {se : Int} {L : LL} {f : Nat → Int}
theorem Tfr_sam {G1 : Hp} {R : Nat → Prop} (h : Tfr E G t s S ed) (k : sam E G G1 R) (hr : ∀ a, t ≤ a → a < t + 21 → ¬ R a) : Tfr E G1 t s S ed := by
  obtain ⟨x0, h⟩ := h
  exact ⟨x0, TrP_sam h k hr⟩
theorem Tok_sam {G1 : Hp} {R : Nat → Prop} (h : Tok E G t s S ed) (k : sam E G G1 R) (hr : ∀ a, t ≤ a → a < t + 21 → ¬ R a) : Tok E G1 t s S ed := by
  rcases h with h | ⟨se, L, f, h1, h2⟩
  · exact Or.inl (Tfr_sam h k hr)
  · exact Or.inr ⟨se, L, f, TrP_sam h1 k hr, h2⟩
/-- after a change of the scheme it knows that it is old -/
theorem Tok_new {S' : Sc} (h : Tok E G t s S ed) {e' : Nat} (he : ed < e') : Tok E G t s S' e' := by
  rcases h with ⟨x0, h⟩ | ⟨se, L, f, h1, h2⟩
  · exact Or.inr ⟨_, _, _, h, by omega, by omega⟩
  · exact Or.inr ⟨se, L, f, h1, by omega, by omega⟩
theorem c_treeUp (hE : EK E) (hst : s + 12 ≤ t ∨ t + 21 ≤ s) (hS : okS S) (hed : ed ≤ 2000000) (hT : Tok E G t s S ed) (hs : Sx E G s w S ed) : runs E (d + 13) i_X4_upToDate [.ref t] G (fun v G1 => v = some (.ref t) ∧ Tfr E G1 t s S ed ∧ sam E G G1 (ivl t 21)) := by
  refine e_X4_upToDate ?_
  rcases hT with hF | ⟨se, L, f, hT, hse⟩
  · obtain ⟨x0, hT⟩ := hF
    rw [u_FI hT.1.1 rfl, u_FR hT.1.1 rfl, Sm_rc hs]
    refine ⟨trivial, ?_⟩
    rw [v_I (fun P => c_edits (d := d + 11) (P := P) hs), if_pos rfl]
    exact ⟨rfl, ⟨x0, hT⟩, sam_rf⟩
  · rw [u_FI hT.1.1 rfl, u_FR hT.1.1 rfl, Sm_rc hs]
    refine ⟨trivial, ?_⟩
    rw [v_I (fun P => c_edits (d := d + 11) (P := P) hs)]
    simp (disch := first | assumption | omega | decide) only [iv_eq]
    rw [if_neg (by omega), u_FR hT.1.1 rfl]
    obtain ⟨f0, g1, g2⟩ := hT.2.1.2.2.1
    refine u_V (c_fill (d := d + 11) g1 (by decide)) ?_
    rintro v G1 ⟨rfl, ⟨f', a1, a2⟩, a3⟩
    refine ⟨rfl, ?_⟩
    have hO1 := TrO_sam hT.1 a3 (by unfold ivl; omega) (by unfold ivl; omega)
    have hl1 : AI E G1 (t + 18) 128 (fun _ => -1) := ⟨f', a1, a2⟩
    have hU1 : UP E G1 t 0 (fun _ => -1, L.2) := by
      obtain ⟨h1, ⟨ws, h2⟩, h3, h4⟩ := hT.2.1
      refine ⟨fun j hj1 hj2 => ?_, ⟨ws, Tm_sam h2 a3 (by unfold ivl; omega) (by unfold ivl; omega)⟩, hl1, AI_sam h4 a3 (by unfold ivl; omega)⟩
      obtain ⟨w, q⟩ := h1 j hj1 hj2
      exact ⟨w, Tm_sam q a3 (by unfold ivl; omega) (by unfold ivl; omega)⟩
    have hs1 := Sm_dis hs a3 (by omega)
    obtain ⟨g, hg1, hg2⟩ := hO1.2
    obtain ⟨ws, hW⟩ := hU1.1 0 (by omega) (by omega)
    rw [u_FR hO1.1 rfl, show iv 0 = iv ((0 : Nat) : Int) from rfl, u_RAn hg1 (by decide) (by omega) (hg2 0 (by omega)), Tm_r hW]
    refine ⟨trivial, u_V (c_empty (d := d + 11) hW) ?_⟩
    rintro v G2 ⟨rfl, b1, b2⟩
    refine ⟨rfl, ?_⟩
    have hO2 := TrO_sam hO1 b2 (by unfold ivl; omega) (by unfold ivl; omega)
    obtain ⟨g, hg1, hg2⟩ := hO2.2
    rw [u_FR hO2.1 rfl, u_RAn hg1 (by decide) (by omega) (hg2 0 (by omega)), Tm_r b1]
    refine ⟨trivial, u_I (c_add (d := d + 11) b1 (y := 4) (by decide)) ?_⟩
    rintro v G3 ⟨rfl, c1, c2⟩
    refine ⟨_, rfl, ?_⟩
    have c1' : Tm E G3 (t + 2 + 2 * 0) 200 [4] := c1
    have m13 : sam E G1 G3 (ivl (t + 2) 2) := sam_tr b2 c2
    have hO3 := TrO_sam hO1 m13 (by unfold ivl; omega) (by unfold ivl; omega)
    have hs3 := Sm_dis hs1 m13 (by omega)
    have hU3 : UP E G3 t 0 (fun _ => -1, L.2) := by
      obtain ⟨h1, ⟨ws, h2⟩, h3, h4⟩ := hU1
      refine ⟨fun j hj1 hj2 => ?_, ⟨ws, Tm_sam h2 m13 (by unfold ivl; omega) (by unfold ivl; omega)⟩, AI_sam h3 m13 (by unfold ivl; omega), AI_sam h4 m13 (by unfold ivl; omega)⟩
      by_cases cj : j = 0
      · subst cj
        exact ⟨_, c1'⟩
      · obtain ⟨w, q⟩ := h1 j hj1 hj2
        exact ⟨w, Tm_sam q m13 (by unfold ivl; omega) (by unfold ivl; omega)⟩
    refine u_V (c_unfold hE hst hS 6 (d + 6) 0 1 0 [4] G3 (fun _ => -1, L.2) (by omega) (by omega) (by decide) (by decide) okT_S hO3 hs3 hU3 c1') ?_
    rintro v G4 ⟨rfl, d1, d2⟩
    refine ⟨rfl, ?_⟩
    have hO4 := TrO_sam hO3 d2 (by unfold rgU ivl; omega) (by unfold rgU ivl; omega)
    have hs4 := Sm_dis hs3 d2 (by omega)
    have m04 : sam E G G4 (ivl (t + 2) 18) := sam_tr (sam_mono a3 (fun a ha => by unfold ivl at *; omega)) (sam_tr (sam_mono m13 (fun a ha => by unfold ivl at *; omega)) (sam_mono d2 (fun a ha => by unfold rgU ivl at *; omega)))
    have hT4 : TrP E G4 t s se (tL S L.2) f := ⟨hO4, d1, AI_sam hT.2.2 m04 (by unfold ivl; omega)⟩
    rw [u_rcv hO4.1]
    refine ⟨trivial, u_V (c_runAutomaton (d := d + 9) hE hst hS (fun n _ => okL_tL n) hT4 hs4) ?_⟩
    rintro v G5 ⟨rfl, e1, e2⟩
    refine ⟨rfl, ?_⟩
    have hs5 := Sm_dis hs4 e2 (by omega)
    rw [u_FR e1.1.1 rfl, Sm_rc hs5]
    refine ⟨trivial, ?_⟩
    rw [v_I (fun P => c_edits (d := d + 11) (P := P) hs5), u_P e1.1.1 (by simp)]
    have q6 : sam E G5 (st E G5 t (cO 4 [.ref s, .ref (t + 1), .ref (t + 16), .ref (t + 18), .ref (t + 19), .ref (t + 20), .int (iv (ed : Int))])) (ivl t 1) := sam_st ⟨Nat.le_refl _, by omega⟩
    refine ⟨by trivial, ⟨L.2, ⟨gt_st_self (by rw [e1.1.1]; rfl), ?_⟩, UP_sam e1.2.1 q6 (fun a h1 h2 => by unfold ivl; omega), AI_sam e1.2.2 q6 (by unfold ivl; omega)⟩, ?_⟩
    · obtain ⟨g, hg1, hg2⟩ := e1.1.2
      exact ⟨g, (q6.1 _ (by unfold ivl; omega)).trans hg1, hg2⟩
    · exact sam_tr (sam_mono m04 (fun a ha => by unfold ivl at *; omega)) (sam_tr (sam_mono e2 (fun a ha => by unfold ivl at *; omega)) (sam_mono q6 (fun a ha => by unfold ivl at *; omega)))
theorem c_exists (hT : TrP E G t s se L f) (hL : okL L) {z : Int} (hz : Rg z) : runs E (d + 1) i_X4_exists [.ref t, .int (iv z)] G P = P (some (.int (tf ((1 ≤ z ∧ z < 128) ∧ L.1 z.toNat ≠ -1)))) G := by
  refine runs_one (fun P hP => e_X4_exists ?_) P
  simp (disch := first | assumption | omega | decide) only [iv_lt, iv_le]
  by_cases c1 : z < 1
  · rw [if_pos c1]
    rw [tf_f (by omega)] at hP
    exact hP
  · rw [if_neg c1]
    by_cases c2 : 128 ≤ z
    · rw [if_pos c2]
      rw [tf_f (by omega)] at hP
      exact hP
    · obtain ⟨n, rfl⟩ := Int.eq_ofNat_of_zero_le (show 0 ≤ z by omega)
      have := hL n
      rw [if_neg c2, u_FR hT.1.1 rfl, AI_g hT.2.1.2.2.1 (by omega)]
      simp (disch := first | assumption | omega | decide) only [iv_eq]
      rw [Int.toNat_natCast] at hP
      by_cases c3 : L.1 n = -1
      · rw [if_pos c3]
        rw [tf_f (fun z => z.2 c3)] at hP
        exact hP
      · rw [if_neg c3]
        rw [tf_t ⟨by omega, c3⟩] at hP
        exact hP
theorem c_exN (hT : TrP E G t s se L f) (hL : okL L) {n : Nat} (hn : 1 ≤ n ∧ n < 128) : runs E (d + 1) i_X4_exists [.ref t, .int (iv (n : Int))] G P = P (some (.int (tf (L.1 n ≠ -1)))) G := by
  rw [c_exists hT hL (by constructor <;> omega)]
  rw [tf_c (q := L.1 n ≠ -1)]
  rw [Int.toNat_natCast]
  exact ⟨fun z => z.2, fun z => ⟨by omega, z⟩⟩
theorem c_labelCode (hE : EK E) (hF : (eF E).category = 1) (hT : TrP E G t s se L f) (hL : okL L) {n : Nat} (hn : 1 ≤ n ∧ n < 128) : runs E (d + 6) i_X4_labelCode [.ref t, .int (iv (n : Int))] G P = P (some (.int (iv (if L.1 n = -1 then -9 else if 0 ≤ L.1 n then (chr (L.1 n).toNat : Nat) else 0)))) G := by
  refine runs_one (fun P hP => e_X4_labelCode ?_) P
  have := hL n
  rw [u_rcv hT.1.1, v_I (fun P => c_exN (d := d + 4) (P := P) hT hL hn)]
  refine ⟨trivial, ?_⟩
  simp only [tf_0, Classical.not_not]
  by_cases c : L.1 n = -1
  · rw [if_pos c] at hP
    rw [if_neg (fun z => z c)]
    exact hP
  · rw [if_neg c] at hP
    rw [if_pos c, u_FR hT.1.1 rfl, AI_g hT.2.1.2.2.1 (by omega)]
    simp (disch := first | assumption | omega | decide) only [iv_eq]
    by_cases c2 : L.1 n = -2
    · rw [if_neg (fun z => z c2)]
      rw [if_neg (by omega)] at hP
      exact hP
    · rw [if_pos c2, u_FR hT.1.1 rfl, AI_g hT.2.1.2.2.1 (by omega), v_I (fun P => c_codeOf (d := d) (P := P) hE hF (by constructor <;> omega)), if_pos (by omega)]
      rw [if_pos (by omega)] at hP
      exact hP
theorem c_expansionsTo (hT : TrP E G t s se L f) (hL : okL L) {n : Nat} (hn : 1 ≤ n ∧ n < 128) : runs E (d + 2) i_X4_expansionsTo [.ref t, .int (iv (n : Int))] G P = P (some (.int (iv (if L.1 n = -1 then -9 else L.2 n)))) G := by
  refine runs_one (fun P hP => e_X4_expansionsTo ?_) P
  rw [u_rcv hT.1.1, v_I (fun P => c_exN (d := d) (P := P) hT hL hn)]
  refine ⟨trivial, ?_⟩
  simp only [tf_0, Classical.not_not]
  by_cases c : L.1 n = -1
  · rw [if_pos c] at hP
    rw [if_pos (by simpa using c)]
    exact hP
  · rw [if_neg c] at hP
    rw [if_neg (by simpa using c), u_FR hT.1.1 rfl, AI_g hT.2.1.2.2.2 (by omega)]
    exact hP
theorem c_stateOf (hT : TrP E G t s se L f) (hL : okL L) {n : Nat} (hn : 1 ≤ n ∧ n < 128) : runs E (d + 2) i_X4_stateOf [.ref t, .int (iv (n : Int))] G P = P (some (.int (iv (if L.1 n = -1 then -9 else f n)))) G := by
  refine runs_one (fun P hP => e_X4_stateOf ?_) P
  rw [u_rcv hT.1.1, v_I (fun P => c_exN (d := d) (P := P) hT hL hn)]
  refine ⟨trivial, ?_⟩
  simp only [tf_0, Classical.not_not]
  by_cases c : L.1 n = -1
  · rw [if_pos c] at hP
    rw [if_pos (by simpa using c)]
    exact hP
  · rw [if_neg c] at hP
    rw [if_neg (by simpa using c), u_FR hT.1.1 rfl, AI_g hT.2.2 (by omega)]
    exact hP
theorem c_childCount (hE : EK E) (hT : TrP E G t s se L f) (hL : okL L) {n : Nat} (hn : 1 ≤ n ∧ n < 128) : runs E (d + 2) i_X4_childCount [.ref t, .int (iv (n : Int))] G P = P (some (.int (iv (if 0 ≤ L.1 n then (ar (L.1 n).toNat : Nat) else 0)))) G := by
  refine runs_one (fun P hP => e_X4_childCount ?_) P
  have := hL n
  rw [u_rcv hT.1.1, v_I (fun P => c_exN (d := d) (P := P) hT hL hn)]
  refine ⟨trivial, ?_⟩
  simp only [tf_0, Classical.not_not]
  by_cases c : L.1 n = -1
  · rw [if_neg (by omega)] at hP
    rw [if_pos (by simpa using c)]
    exact hP
  · rw [if_neg (by simpa using c), u_FR hT.1.1 rfl, AI_g hT.2.1.2.2.1 (by omega), v_I (fun P => c_arityOf (d := d) (P := P) hE.1 (by constructor <;> omega))]
    by_cases c2 : 0 ≤ L.1 n
    · rw [if_pos c2] at hP
      rw [if_pos (by omega)]
      exact hP
    · rw [if_neg c2] at hP
      rw [if_neg (by omega)]
      exact hP
/-- how many nodes there are in a range -/
def cnN (l : Nat → Int) (lo : Nat) : Nat → Nat
  | 0 => 0
  | k + 1 => cnN l lo k + (if l (lo + k) = -1 then 0 else 1)
theorem i_sh {k : Nat} (hk : k ≤ 7) : iv 1 <<< (iv (k : Int) &&& 31) = iv ((2 ^ k : Nat) : Int) := by
  have h2 : 2 ^ k ≤ 2 ^ 7 := Nat.pow_le_pow_right (by decide) hk
  have := iv_shl (a := 1) (k := k) (by omega) (by omega)
  rw [Nat.one_mul] at this
  exact this
theorem c_caL (hT : TrP E G t s se L f) (hL : okL L) {dp : Nat} (hdp : dp ≤ 6) : ∀ (m k : Nat), 2 ^ dp - k ≤ m → k ≤ 2 ^ dp → P (some (.int (iv (cnN L.1 (2 ^ dp) (2 ^ dp) : Nat)))) G → Xr E (d + 1) x_X4_countAt 6 [some (.ref t), some (.int (iv (dp : Int))), some (.int (iv (cnN L.1 (2 ^ dp) k : Nat))), some (.int (iv ((2 ^ dp + k : Nat) : Int)))] [] G P := by
  have h2 : 2 ^ dp ≤ 2 ^ 6 := Nat.pow_le_pow_right (by decide) hdp
  have h3 : 2 ^ (dp + 1) = 2 * 2 ^ dp := by rw [Nat.pow_succ]; omega
  have h6 : (2 : Nat) ^ 6 = 64 := rfl
  have hpos : 0 < 2 ^ dp := Nat.pow_pos (by decide)
  intro m
  induction m with
  | zero =>
    intro k hm hk hP
    refine g_X4_countAt_6 ?_
    rw [i_s, i_sh (by omega)]
    simp (disch := first | assumption | omega | decide) only [iv_le]
    rw [if_pos (by omega)]
    have : k = 2 ^ dp := by omega
    rw [this]
    exact hP
  | succ m ih =>
    intro k hm hk hP
    refine g_X4_countAt_6 ?_
    rw [i_s, i_sh (by omega)]
    simp (disch := first | assumption | omega | decide) only [iv_le]
    by_cases c : k = 2 ^ dp
    · rw [if_pos (by omega), c]
      exact hP
    · rw [if_neg (by omega), u_rcv hT.1.1]
      refine ⟨trivial, ?_⟩
      rw [v_I (fun P => c_exN (d := d) (P := P) hT hL (by omega))]
      simp only [tf_0, Classical.not_not, i_s]
      have := ih (k + 1) (by omega) (by omega) hP
      unfold cnN at this
      by_cases c2 : L.1 (2 ^ dp + k) = -1
      · rw [if_pos c2] at this
        rw [if_pos (by simpa using c2)]
        exact this
      · rw [if_neg c2] at this
        rw [if_neg (by simpa using c2)]
        exact this
theorem c_countAt (hT : TrP E G t s se L f) (hL : okL L) {dp : Nat} (hdp : dp ≤ 6) : runs E (d + 2) i_X4_countAt [.ref t, .int (iv (dp : Int))] G P = P (some (.int (iv (cnN L.1 (2 ^ dp) (2 ^ dp) : Nat)))) G := by
  refine runs_one (fun P hP => e_X4_countAt ?_) P
  rw [i_sh (by omega)]
  exact c_caL hT hL hdp (2 ^ dp) 0 (Nat.sub_le _ _) (Nat.zero_le _) hP
def wrg (S : Sc) (l f : Nat → Int) (n : Nat) : Prop := (l n ≠ -1 ∧ (0 ≤ f n ∧ f n < 3) ∧ (0 ≤ l n ∧ l n < 4)) ∧ S.u (4 * (f n).toNat + (l n).toNat) = -1
theorem c_isWrong (hS : okS S) (hT : TrP E G t s se L f) (hs : Sx E G s w S ed) (hL : okL L) (hf : ∀ j, -9 ≤ f j ∧ f j < 3) {n : Nat} (hn : 1 ≤ n ∧ n < 128) [Decidable (wrg S L.1 f n)] : runs E (d + 2) i_X4_isWrong [.ref t, .int (iv (n : Int))] G P = P (some (.int (tf (wrg S L.1 f n)))) G := by
  refine runs_one (fun P hP => e_X4_isWrong ?_) P
  have h1 := hL n
  have h2 := hf n
  rw [u_rcv hT.1.1, v_I (fun P => c_exN (d := d) (P := P) hT hL hn)]
  refine ⟨trivial, ?_⟩
  simp only [tf_0]
  by_cases c : L.1 n = -1
  · rw [if_pos (fun z => z c)]
    rw [tf_f (fun z => z.1.1 c)] at hP
    exact hP
  · rw [if_neg (fun z => z c), u_FR hT.1.1 rfl, AI_g hT.2.2 (by omega), v_I (fun P => c_isState (d := d) (P := P) (by constructor <;> omega))]
    simp only [tf_0]
    by_cases c2 : 0 ≤ f n ∧ f n < 3
    · rw [if_neg (fun z => z c2), u_FR hT.1.1 rfl, AI_g hT.2.1.2.2.1 (by omega), v_I (fun P => c_isTerminal (d := d) (P := P) (by constructor <;> omega))]
      simp only [tf_0]
      by_cases c3 : 0 ≤ L.1 n ∧ L.1 n < 4
      · rw [if_neg (fun z => z c3), u_FR hT.1.1 rfl, u_FR hT.1.1 rfl, AI_g hT.2.2 (by omega), u_FR hT.1.1 rfl, AI_g hT.2.1.2.2.1 (by omega), Sm_rc hs]
        refine ⟨trivial, ?_⟩
        obtain ⟨q, hq⟩ := Int.eq_ofNat_of_zero_le c2.1
        obtain ⟨tt, ht⟩ := Int.eq_ofNat_of_zero_le c3.1
        have hk := okS_u hS (k := 4 * q + tt) (by omega)
        rw [hq, ht, v_I (fun P => c_canRead (d := d) (P := P) hs (show q < 3 by omega) (show tt < 4 by omega) (by constructor <;> omega))]
        simp only [tf_0, Classical.not_not]
        by_cases c4 : S.u (4 * q + tt) = -1
        · rw [tf_t ⟨⟨c, c2, c3⟩, by rw [hq, ht]; exact c4⟩] at hP
          rw [if_neg (by simpa using c4)]
          exact hP
        · rw [tf_f (fun z => c4 (by have := z.2; rw [hq, ht] at this; exact this))] at hP
          rw [if_pos (by simpa using c4)]
          exact hP
      · rw [if_pos c3]
        rw [tf_f (fun z => c3 z.1.2.2)] at hP
        exact hP
    · rw [if_pos c2]
      rw [tf_f (fun z => c2 z.1.2.1)] at hP
      exact hP
end TQ
