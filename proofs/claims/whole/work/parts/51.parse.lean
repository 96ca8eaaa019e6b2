-- uses 41 42 43 44 45 46 47 48 49 50
/-! the reader: what it should do; that the class does it -/
abbrev may (n y : Nat) : Prop := y < 10 ∧ (y = 8 → 1 ≤ ar (4 + n)) ∧ (y = 9 → 2 ≤ ar (4 + n))
def dg (tx : List Nat) (p : Nat) : Nat := if p < tx.length ∧ 48 ≤ tx.getD p 0 ∧ tx.getD p 0 ≤ 50 then tx.getD p 0 - 48 else 3
abbrev chA (tx : List Nat) (p c : Nat) : Prop := p < tx.length ∧ tx.getD p 0 = c
def rdB (tx : List Nat) (n : Nat) : Nat → Nat → Nat → List Nat → Bool × Nat × List Nat
  | 0, o, p, acc => (decide (o = 0), p, acc)
  | k + 1, o, p, acc => if o = 0 then (true, p, acc) else if may n (sAt tx p) then rdB tx n k (o - 1 + ar (sAt tx p)) (p + 1) (acc ++ [sAt tx p]) else (false, p, acc)
def rdR (tx : List Nat) (n p : Nat) : Bool × Nat × List Nat := if chA tx p 61 then (if (rdB tx n 30 1 (p + 1) []).1 = true then (if chA tx (rdB tx n 30 1 (p + 1) []).2.1 59 then (true, (rdB tx n 30 1 (p + 1) []).2.1 + 1, (rdB tx n 30 1 (p + 1) []).2.2) else (false, (rdB tx n 30 1 (p + 1) []).2.1, [])) else (false, (rdB tx n 30 1 (p + 1) []).2.1, [])) else (false, p, [])
def rdC (tx : List Nat) : Nat → Nat → Nat → Nat → Nat → Bool × Nat × Nat × Nat
  | 0, _, p, q1, q2 => if chA tx p 59 then (true, p + 1, q1, q2) else (false, p, q1, q2)
  | m + 1, c, p, q1, q2 => if dg tx p < 3 then (if c = 1 then rdC tx m (c + 1) (p + 1) (dg tx p) q2 else rdC tx m (c + 1) (p + 1) q1 (dg tx p)) else (false, p, q1, q2)
def rdT (tx : List Nat) (p : Nat) : Bool × Nat × Nat × Nat := if sAt tx p < 4 then rdC tx (ar (sAt tx p)) 1 (p + 1) 0 0 else (false, p, 0, 0)
def rdI (tx : List Nat) (S : Sc) (p : Nat) : Bool × Nat × Sc :=
  if 4 ≤ sAt tx p ∧ sAt tx p < 8 then ((rdR tx (sAt tx p - 4) (p + 1)).1, (rdR tx (sAt tx p - 4) (p + 1)).2.1, if (rdR tx (sAt tx p - 4) (p + 1)).1 = true then (Sc.mk (upB S.b (sAt tx p - 4) (rdR tx (sAt tx p - 4) (p + 1)).2.2) S.u S.v) else S)
  else if dg tx p < 3 then ((rdT tx (p + 1)).1, (rdT tx (p + 1)).2.1, if (rdT tx (p + 1)).1 = true then (Sc.mk S.b (upI S.u (4 * dg tx p + sAt tx (p + 1)) ((rdT tx (p + 1)).2.2.1 : Nat)) (upI S.v (4 * dg tx p + sAt tx (p + 1)) ((rdT tx (p + 1)).2.2.2 : Nat))) else S)
  else (false, p, S)
def rdA (tx : List Nat) : Nat → Nat → Sc → Int × Sc
  | 0, _, S => (-9, S)
  | k + 1, p, S => if p < tx.length then (if (rdI tx S p).1 = true then rdA tx k (rdI tx S p).2.1 (rdI tx S p).2.2 else (((rdI tx S p).2.1 : Int), (rdI tx S p).2.2)) else (-9, S)
def S0 : Sc := Sc.mk (fun _ => [2]) (fun _ => -1) (fun _ => -1)
theorem rdB_p (tx : List Nat) (n : Nat) : ∀ (k o p : Nat) (acc : List Nat), p ≤ (rdB tx n k o p acc).2.1 ∧ (rdB tx n k o p acc).2.1 ≤ p + k := by
  intro k
  induction k with
  | zero => intro o p acc; exact ⟨Nat.le_refl _, Nat.le_refl _⟩
  | succ k ih =>
    intro o p acc
    unfold rdB
    split
    · exact ⟨Nat.le_refl _, Nat.le_add_right _ _⟩
    · split
      · have := ih (o - 1 + ar (sAt tx p)) (p + 1) (acc ++ [sAt tx p])
        omega
      · exact ⟨Nat.le_refl _, Nat.le_add_right _ _⟩
theorem dg_le {tx : List Nat} {p : Nat} : dg tx p ≤ 3 := by
  unfold dg
  split <;> omega
section PA
variable {E : Ev} {d : Nat} {G : Hp} {P : Po} {x bt s : Nat} {tx : List Nat} {w : Bool}
theorem c_mayContain (hE : EK E) {n y : Nat} (hn : n < 4) (hy : y ≤ 10) : runs E (d + 2) i_X3_mayContain [.int (iv (n : Int)), .int (iv (if y = 10 then -1 else (y : Int)))] G P = P (some (.int (tf (may n y)))) G := by
  refine runs_one (fun P hP => e_X3_mayContain ?_) P
  have e : iv 4 + iv (n : Int) = iv ((4 + n : Nat) : Int) := by rw [iv_add]; rfl
  have ha := ar_le (4 + n)
  rw [e, v_I (fun P => c_arN (d := d) (P := P) hE.1 (show 4 + n < 10 by omega)), v_I (fun P => c_arN (d := d) (P := P) hE.1 (show 4 + n < 10 by omega))]
  have hr : Rg (if y = 10 then -1 else (y : Int)) := by split <;> constructor <;> omega
  simp (disch := first | assumption | omega | decide) only [iv_eq, iv_lt]
  by_cases c : y = 10
  · rw [tf_f (by unfold may; omega)] at hP
    rw [if_pos c, if_pos (by omega), if_pos (by omega), if_pos (by omega)]
    exact hP
  · rw [if_neg c]
    unfold tf at hP
    split at hP <;> (repeat' split) <;> first | exact hP | (exfalso; omega)
theorem c_rbL (hE : EK E) {n : Nat} (hn : n < 4) (hx : x + 1 < bt ∨ bt + 1 < x) : ∀ (k o p : Nat) (acc : List Nat) (G1 : Hp) (l5 : Option Value), k ≤ 30 → acc.length = 30 - k → o + k ≤ 100 → p + k ≤ 300 → Tx E G1 x tx p → Tm E G1 bt 30 acc → sam E G G1 (fun a => ivl x 2 a ∨ ivl bt 2 a) → (∀ G2, Tx E G2 x tx (rdB tx n k o p acc).2.1 → Tm E G2 bt 30 (rdB tx n k o p acc).2.2 → sam E G G2 (fun a => ivl x 2 a ∨ ivl bt 2 a) → P (some (.int (tf ((rdB tx n k o p acc).1 = true)))) G2) → Xr E (d + 5) x_X3_readBody 9 [some (.ref x), some (.int (iv (n : Int))), some (.ref bt), some (.int (iv (o : Int))), some (.int (iv ((30 - k : Nat) : Int))), l5] [] G1 P := by
  intro k
  induction k with
  | zero =>
    intro o p acc G1 l5 hk hl ho hp hx1 ht hs hP
    refine g_X3_readBody_9 ?_
    simp (disch := first | assumption | omega | decide) only [iv_le0, iv_eq0, iv_le]
    unfold rdB at hP
    have := hP G1 hx1 ht hs
    by_cases c : o = 0
    · rw [if_pos (by omega), if_neg (by omega)]
      rw [tf_t (by simp [c])] at this
      exact this
    · rw [if_neg (by omega), if_pos (by omega), if_pos (by omega)]
      rw [tf_f (by simp [c])] at this
      exact this
  | succ k ih =>
    intro o p acc G1 l5 hk hl ho hp hx1 ht hs hP
    refine g_X3_readBody_9 ?_
    simp (disch := first | assumption | omega | decide) only [iv_le0, iv_eq0, iv_le]
    unfold rdB at hP
    by_cases c : o = 0
    · rw [if_pos c] at hP
      rw [if_pos (by omega), if_neg (by omega)]
      have := hP G1 hx1 ht hs
      rw [tf_t rfl] at this
      exact this
    · rw [if_neg c] at hP
      rw [if_neg (by omega), if_neg (by omega), Tx_r hx1]
      refine ⟨trivial, ?_⟩
      have hy := sAt_le (tx := tx) (p := p)
      rw [v_I (fun P => c_symbolHere (d := d) (P := P) hE hx1 (by omega)), v_I (fun P => c_mayContain (d := d + 3) (P := P) hE hn hy)]
      simp only [tf_0, Classical.not_not]
      by_cases cm : may n (sAt tx p)
      · rw [if_pos cm] at hP
        rw [if_pos cm, Tm_r ht]
        refine ⟨trivial, ?_⟩
        have hy10 := cm.1
        have hya := ar_le (sAt tx p)
        rw [if_neg (by omega)]
        refine u_I (c_add (d := d + 4) ht hy10) ?_
        rintro v G2 ⟨rfl, q1, q2⟩
        rw [if_pos (by omega)] at q1
        refine ⟨_, rfl, ?_⟩
        refine Tx_inc (Tx_sam hx1 q2 (by unfold ivl; omega) (by unfold ivl; omega)) ?_
        intro G3 r1 r2
        rw [v_I (fun P => c_arN (d := d + 4) (P := P) hE.1 hy10)]
        have e1 : iv (o : Int) + (iv ((ar (sAt tx p) : Nat) : Int) - iv 1) = iv ((o - 1 + ar (sAt tx p) : Nat) : Int) := by
          rw [iv_sub, iv_add]
          congr 1
          omega
        have e2 : iv ((30 - (k + 1) : Nat) : Int) + iv 1 = iv ((30 - k : Nat) : Int) := by
          rw [iv_add]
          congr 1
          omega
        rw [e1, e2]
        refine ih (o - 1 + ar (sAt tx p)) (p + 1) (acc ++ [sAt tx p]) G3 _ (by omega) (by rw [List.length_append]; simp; omega) (by omega) (by omega) r1 (Tm_sam q1 r2 (by unfold ivl; omega) (by unfold ivl; omega)) (sam_tr hs (sam_tr (sam_mono q2 (fun a ha => Or.inr ha)) (sam_mono r2 (fun a ha => Or.inl ha)))) hP
      · rw [if_neg cm] at hP
        rw [if_neg cm]
        have := hP G1 hx1 ht hs
        rw [tf_f (by simp)] at this
        exact this
theorem c_readBody (hE : EK E) {n p : Nat} {zs : List Nat} (hn : n < 4) (hx : x + 1 < bt ∨ bt + 1 < x) (hp : p ≤ 200) (h : Tx E G x tx p) (ht : Tm E G bt 30 zs) : runs E (d + 6) i_X3_readBody [.ref x, .int (iv (n : Int)), .ref bt] G (fun v G1 => v = some (.int (tf ((rdB tx n 30 1 p []).1 = true))) ∧ Tx E G1 x tx (rdB tx n 30 1 p []).2.1 ∧ Tm E G1 bt 30 (rdB tx n 30 1 p []).2.2 ∧ sam E G G1 (fun a => ivl x 2 a ∨ ivl bt 2 a)) := by
  refine e_X3_readBody ?_
  rw [Tm_r ht]
  refine ⟨trivial, u_V (c_empty (d := d + 4) ht) ?_⟩
  rintro v G1 ⟨rfl, q1, q2⟩
  refine ⟨rfl, ?_⟩
  exact c_rbL (G := G) hE hn hx 30 1 p [] G1 none (Nat.le_refl _) rfl (by omega) (by omega) (Tx_sam h q2 (by unfold ivl; omega) (by unfold ivl; omega)) q1 (sam_mono q2 (fun a ha => Or.inr ha)) (fun G2 a b c => ⟨rfl, a, b, c⟩)
theorem c_isBody (hE : EK E) {n p : Nat} {zs : List Nat} (hn : n < 4) (hx : x + 1 < bt ∨ bt + 1 < x) (h : Tx E G x tx p) (ht : Tm E G bt 30 zs) : runs E (d + 7) i_X3_isBody [.ref x, .int (iv (n : Int)), .ref bt] G (fun v G1 => v = some (.int (tf ((rdB tx n 30 1 0 []).1 = true ∧ (rdB tx n 30 1 0 []).2.1 = tx.length))) ∧ (∃ p', Tx E G1 x tx p' ∧ p' ≤ 200) ∧ Tm E G1 bt 30 (rdB tx n 30 1 0 []).2.2 ∧ sam E G G1 (fun a => ivl x 2 a ∨ ivl bt 2 a)) := by
  refine e_X3_isBody ?_
  refine Tx_p (p' := 0) h ?_
  intro G1 q1 q2
  rw [Tx_r q1]
  refine ⟨trivial, u_I (c_readBody (d := d) hE hn hx (by omega) q1 (Tm_sam ht q2 (by unfold ivl; omega) (by unfold ivl; omega))) ?_⟩
  rintro v G2 ⟨rfl, r1, r2, r3⟩
  refine ⟨_, rfl, ?_⟩
  have hb := rdB_p tx n 30 1 0 []
  have hl := r1.2.2.1
  have s1 := sam_tr (sam_mono q2 (fun a ha => Or.inl ha)) r3
  simp only [tf_0]
  by_cases c : (rdB tx n 30 1 0 []).1 = true
  · rw [if_neg (fun z => z c), u_FI r1.1 rfl, u_FI r1.1 rfl]
    simp (disch := first | assumption | omega | decide) only [iv_eq]
    by_cases c2 : (rdB tx n 30 1 0 []).2.1 = tx.length
    · rw [if_neg (by omega)]
      exact ⟨by rw [tf_t ⟨c, c2⟩], ⟨_, r1, by omega⟩, r2, s1⟩
    · rw [if_pos (by omega)]
      exact ⟨by rw [tf_f (fun z => c2 z.2)], ⟨_, r1, by omega⟩, r2, s1⟩
  · rw [if_pos c]
    exact ⟨by rw [tf_f (fun z => c z.1)], ⟨_, r1, by omega⟩, r2, s1⟩
abbrev r3 (x bt s : Nat) : Nat → Prop := fun a => ivl x 2 a ∨ ivl bt 2 a ∨ ivl s 12 a
theorem c_readRule (hE : EK E) {n p ed : Nat} {zs : List Nat} {S : Sc} (hn : n < 4) (hx : x + 1 < bt ∨ bt + 1 < x) (hxs : x + 2 ≤ s ∨ s + 12 ≤ x) (hbs : bt + 2 ≤ s ∨ s + 12 ≤ bt) (hp : p ≤ 150) (h : Tx E G x tx p) (ht : Tm E G bt 30 zs) (hs : Sx E G s w S ed) : runs E (d + 7) i_X3_readRule [.ref x, .int (iv (n : Int)), .ref s, .ref bt] G (fun v G1 => v = some (.int (tf ((rdR tx n p).1 = true))) ∧ Tx E G1 x tx (rdR tx n p).2.1 ∧ (∃ ws, Tm E G1 bt 30 ws) ∧ (∃ e', Sx E G1 s w (if (rdR tx n p).1 = true then (Sc.mk (upB S.b n (rdR tx n p).2.2) S.u S.v) else S) e') ∧ sam E G G1 (r3 x bt s)) := by
  refine e_X3_readRule ?_
  rw [Tx_r h]
  refine ⟨trivial, u_I (c_skip (d := d + 4) (c := 61) h (by omega) (by omega)) ?_⟩
  rintro v G1 ⟨rfl, q1, q2⟩
  refine ⟨_, rfl, ?_⟩
  have m1 : sam E G G1 (r3 x bt s) := sam_mono q2 (fun a ha => Or.inl ha)
  have hs1 := Sm_dis hs q2 (by omega)
  have ht1 := Tm_sam ht q2 (by unfold ivl; omega) (by unfold ivl; omega)
  simp only [tf_0]
  by_cases c1 : chA tx p 61
  · rw [if_neg (fun z => z c1), Tx_r q1]
    rw [if_pos c1] at q1
    refine ⟨trivial, u_I (c_readBody (d := d) hE hn hx (by omega) q1 ht1) ?_⟩
    rintro v G2 ⟨rfl, a1, a2, a3⟩
    have hb := rdB_p tx n 30 1 (p + 1) []
    have hs2 := Sm_sam hs1 a3 (fun a h1 h2 => by unfold ivl; omega)
    have m2 := sam_tr m1 (sam_mono a3 (fun a ha => by unfold r3; exact ha.elim Or.inl (fun z => Or.inr (Or.inl z))))
    refine ⟨_, rfl, ?_⟩
    simp only [tf_0]
    by_cases c2 : (rdB tx n 30 1 (p + 1) []).1 = true
    · rw [if_neg (fun z => z c2), Tx_r a1]
      refine ⟨trivial, u_I (c_skip (d := d + 4) (c := 59) a1 (by omega) (by omega)) ?_⟩
      rintro v G3 ⟨rfl, b1, b2⟩
      have hs3 := Sm_dis hs2 b2 (by omega)
      have ht3 := Tm_sam a2 b2 (by unfold ivl; omega) (by unfold ivl; omega)
      have m3 := sam_tr m2 (sam_mono b2 (fun a ha => Or.inl ha))
      refine ⟨_, rfl, ?_⟩
      simp only [tf_0, Classical.not_not]
      by_cases c3 : chA tx (rdB tx n 30 1 (p + 1) []).2.1 59
      · rw [if_pos c3, Sm_rc hs3]
        rw [if_pos c3] at b1
        have er : rdR tx n p = (true, (rdB tx n 30 1 (p + 1) []).2.1 + 1, (rdB tx n 30 1 (p + 1) []).2.2) := by
          unfold rdR
          rw [if_pos c1, if_pos c2, if_pos c3]
        rw [er]
        refine ⟨trivial, u_V (c_changeBody (d := d + 3) hs3 hn ht3 (by omega) ht3.2.2.1.1) ?_⟩
        rintro v G4 ⟨rfl, d1, d2⟩
        refine ⟨rfl, by rw [tf_t rfl], Tx_sam b1 d2 (by unfold ivl; omega) (by unfold ivl; omega), ⟨_, Tm_sam ht3 d2 (by unfold ivl; omega) (by unfold ivl; omega)⟩, ⟨ed + 1, ?_⟩, sam_tr m3 (sam_mono d2 (fun a ha => Or.inr (Or.inr ha)))⟩
        rw [if_pos rfl]
        exact d1
      · rw [if_neg c3]
        rw [if_neg c3] at b1
        have er : rdR tx n p = (false, (rdB tx n 30 1 (p + 1) []).2.1, []) := by
          unfold rdR
          rw [if_pos c1, if_pos c2, if_neg c3]
        rw [er]
        refine ⟨by rw [tf_f (by simp)], b1, ⟨_, ht3⟩, ⟨ed, ?_⟩, m3⟩
        rw [if_neg (by simp)]
        exact hs3
    · rw [if_pos c2]
      have er : rdR tx n p = (false, (rdB tx n 30 1 (p + 1) []).2.1, []) := by
        unfold rdR
        rw [if_pos c1, if_neg c2]
      rw [er]
      refine ⟨by rw [tf_f (by simp)], a1, ⟨_, a2⟩, ⟨ed, ?_⟩, m2⟩
      rw [if_neg (by simp)]
      exact hs2
  · rw [if_pos c1]
    rw [if_neg c1] at q1
    have er : rdR tx n p = (false, p, []) := by
      unfold rdR
      rw [if_neg c1]
    rw [er]
    refine ⟨by rw [tf_f (by simp)], q1, ⟨_, ht1⟩, ⟨ed, ?_⟩, m1⟩
    rw [if_neg (by simp)]
    exact hs1
theorem dg_st {p : Nat} (h : Tx E G x tx p) : (0 ≤ (if p < tx.length then ((tx.getD p 0 : Nat) : Int) else -1) - 48 ∧ (if p < tx.length then ((tx.getD p 0 : Nat) : Int) else -1) - 48 < 3) ↔ dg tx p < 3 := by
  unfold dg
  by_cases c : p < tx.length
  · have := h.2.2.2 p c
    rw [if_pos c]
    split <;> omega
  · rw [if_neg c]
    split <;> omega
theorem dg_eq {p : Nat} (h : dg tx p < 3) : (if p < tx.length then ((tx.getD p 0 : Nat) : Int) else -1) - 48 = (dg tx p : Nat) := by
  unfold dg at h ⊢
  split at h
  · next c =>
    rw [if_pos c.1, if_pos c]
    omega
  · omega
theorem st_rg {p : Nat} (h : Tx E G x tx p) : Rg ((if p < tx.length then ((tx.getD p 0 : Nat) : Int) else -1) - 48) := by
  split
  · next c => have := h.2.2.2 p c; constructor <;> omega
  · decide
theorem c_rtL (hE : EK E) {q t ed : Nat} {S : Sc} (hq : q < 3) (ht : t < 4) (hxs : x + 2 ≤ s ∨ s + 12 ≤ x) : ∀ (m c p q1 q2 : Nat) (G1 : Hp) (l7 : Option Value), c + m = ar t + 1 → 1 ≤ c → p + m ≤ 300 → Tx E G1 x tx p → Sx E G1 s w S ed → sam E G G1 (fun a => ivl x 2 a ∨ ivl s 12 a) → (∀ G2 e', Tx E G2 x tx (rdC tx m c p q1 q2).2.1 → Sx E G2 s w (if (rdC tx m c p q1 q2).1 = true then (Sc.mk S.b (upI S.u (4 * q + t) ((rdC tx m c p q1 q2).2.2.1 : Nat)) (upI S.v (4 * q + t) ((rdC tx m c p q1 q2).2.2.2 : Nat))) else S) e' → sam E G G2 (fun a => ivl x 2 a ∨ ivl s 12 a) → P (some (.int (tf ((rdC tx m c p q1 q2).1 = true)))) G2) → Xr E (d + 2) x_X3_readTransition 33 [some (.ref x), some (.int (iv (q : Int))), some (.ref s), some (.int (iv (t : Int))), some (.int (iv (q1 : Int))), some (.int (iv (q2 : Int))), some (.int (iv (c : Int))), l7] [] G1 P := by
  intro m
  have ha := ar_le t
  induction m with
  | zero =>
    intro c p q1 q2 G1 l7 hc hc1 hp hx hs hm hP
    refine g_X3_readTransition_33 ?_
    rw [v_I (fun P => c_arN (d := d + 1) (P := P) hE.1 (show t < 10 by omega))]
    simp (disch := first | assumption | omega | decide) only [iv_lt]
    rw [if_pos (by omega), Tx_r hx]
    refine ⟨trivial, u_I (c_skip (d := d) (c := 59) hx (by omega) (by omega)) ?_⟩
    rintro v G2 ⟨rfl, a1, a2⟩
    refine ⟨_, rfl, ?_⟩
    have hs2 := Sm_dis hs a2 (by omega)
    have m2 := sam_tr hm (sam_mono a2 (fun a ha => Or.inl ha))
    simp only [tf_0, Classical.not_not]
    unfold rdC at hP
    by_cases c1 : chA tx p 59
    · rw [if_pos c1] at a1
      simp only [if_pos c1] at hP
      rw [if_pos c1, Sm_rc hs2]
      refine ⟨trivial, u_V (c_putTransition (d := d + 1) hs2 hq ht) ?_⟩
      rintro v G3 ⟨rfl, b1, b2⟩
      refine ⟨rfl, ?_⟩
      have := hP G3 _ (Tx_sam a1 b2 (by unfold ivl; omega) (by unfold ivl; omega)) (by rw [if_pos trivial]; exact b1) (sam_tr m2 (sam_mono b2 (fun a ha => Or.inr ha)))
      rw [tf_t trivial] at this
      exact this
    · rw [if_neg c1] at a1
      simp only [if_neg c1] at hP
      rw [if_neg c1]
      have := hP G2 _ a1 (by rw [if_neg (by simp)]; exact hs2) m2
      rw [tf_f (by simp)] at this
      exact this
  | succ m ih =>
    intro c p q1 q2 G1 l7 hc hc1 hp hx hs hm hP
    refine g_X3_readTransition_33 ?_
    rw [v_I (fun P => c_arN (d := d + 1) (P := P) hE.1 (show t < 10 by omega))]
    simp (disch := first | assumption | omega | decide) only [iv_lt]
    rw [if_neg (by omega), Tx_r hx]
    refine ⟨trivial, ?_⟩
    rw [v_I (fun P => c_stateHere (d := d) (P := P) hx (by omega)), v_I (fun P => c_isState (d := d + 1) (P := P) (st_rg hx))]
    simp only [tf_0, Classical.not_not, dg_st hx]
    unfold rdC at hP
    by_cases c1 : dg tx p < 3
    · simp only [if_pos c1] at hP
      rw [if_pos c1, dg_eq c1]
      refine Tx_inc hx ?_
      intro G2 a1 a2
      have hs2 := Sm_dis hs a2 (by omega)
      have m2 := sam_tr hm (sam_mono a2 (fun a ha => Or.inl ha))
      simp (disch := first | assumption | omega | decide) only [iv_eq, i_s]
      by_cases c2 : c = 1
      · simp only [if_pos c2] at hP
        rw [if_neg (by omega)]
        exact ih (c + 1) (p + 1) _ _ G2 _ (by omega) (by omega) (by omega) a1 hs2 m2 hP
      · simp only [if_neg c2] at hP
        rw [if_pos (by omega)]
        exact ih (c + 1) (p + 1) _ _ G2 _ (by omega) (by omega) (by omega) a1 hs2 m2 hP
    · simp only [if_neg c1] at hP
      rw [if_neg c1]
      have := hP G1 _ hx (by rw [if_neg (by simp)]; exact hs) hm
      rw [tf_f (by simp)] at this
      exact this
theorem c_readTransition (hE : EK E) {q p ed : Nat} {S : Sc} (hq : q < 3) (hxs : x + 2 ≤ s ∨ s + 12 ≤ x) (hp : p ≤ 200) (h : Tx E G x tx p) (hs : Sx E G s w S ed) : runs E (d + 6) i_X3_readTransition [.ref x, .int (iv (q : Int)), .ref s] G (fun v G1 => v = some (.int (tf ((rdT tx p).1 = true))) ∧ Tx E G1 x tx (rdT tx p).2.1 ∧ (∃ e', Sx E G1 s w (if (rdT tx p).1 = true then (Sc.mk S.b (upI S.u (4 * q + sAt tx p) ((rdT tx p).2.2.1 : Nat)) (upI S.v (4 * q + sAt tx p) ((rdT tx p).2.2.2 : Nat))) else S) e') ∧ sam E G G1 (fun a => ivl x 2 a ∨ ivl s 12 a)) := by
  refine e_X3_readTransition ?_
  rw [Tx_r h]
  refine ⟨trivial, ?_⟩
  have hy := sAt_le (tx := tx) (p := p)
  have hr : Rg (if sAt tx p = 10 then -1 else (sAt tx p : Int)) := by split <;> constructor <;> omega
  rw [v_I (fun P => c_symbolHere (d := d) (P := P) hE h (by omega)), v_I (fun P => c_isTerminal (d := d + 4) (P := P) hr)]
  simp only [tf_0, Classical.not_not]
  by_cases c : sAt tx p < 4
  · rw [if_pos (by rw [if_neg (by omega)]; omega)]
    have er : rdT tx p = rdC tx (ar (sAt tx p)) 1 (p + 1) 0 0 := by
      unfold rdT
      rw [if_pos c]
    rw [er]
    refine Tx_inc h ?_
    intro G1 a1 a2
    rw [if_neg (by omega)]
    have ha := ar_le (sAt tx p)
    exact c_rtL (G := G) (d := d + 3) hE hq c hxs (ar (sAt tx p)) 1 (p + 1) 0 0 G1 none (by omega) (by omega) (by omega) a1 (Sm_dis hs a2 (by omega)) (sam_mono a2 (fun a ha => Or.inl ha)) (fun G2 e' b1 b2 b3 => ⟨rfl, b1, ⟨e', b2⟩, b3⟩)
  · rw [if_neg (by split <;> omega)]
    have er : rdT tx p = (false, p, 0, 0) := by
      unfold rdT
      rw [if_neg c]
    rw [er]
    exact ⟨by rw [tf_f (by simp)], h, ⟨_, by rw [if_neg (by simp)]; exact hs⟩, sam_rf⟩
theorem rdR_p {n p : Nat} : (rdR tx n p).2.1 ≤ p + 40 := by
  have := rdB_p tx n 30 1 (p + 1) []
  unfold rdR
  split
  · split
    · split
      · show (rdB tx n 30 1 (p + 1) []).2.1 + 1 ≤ p + 40
        omega
      · show (rdB tx n 30 1 (p + 1) []).2.1 ≤ p + 40
        omega
    · show (rdB tx n 30 1 (p + 1) []).2.1 ≤ p + 40
      omega
  · show p ≤ p + 40
    omega
theorem c_readItem (hE : EK E) {p ed : Nat} {zs : List Nat} {S : Sc} (hx : x + 1 < bt ∨ bt + 1 < x) (hxs : x + 2 ≤ s ∨ s + 12 ≤ x) (hbs : bt + 2 ≤ s ∨ s + 12 ≤ bt) (hp : p ≤ 100) (h : Tx E G x tx p) (ht : Tm E G bt 30 zs) (hs : Sx E G s w S ed) : runs E (d + 8) i_X3_readItem [.ref x, .ref s, .ref bt] G (fun v G1 => v = some (.int (tf ((rdI tx S p).1 = true))) ∧ Tx E G1 x tx (rdI tx S p).2.1 ∧ (∃ ws, Tm E G1 bt 30 ws) ∧ (∃ e', Sx E G1 s w (rdI tx S p).2.2 e') ∧ sam E G G1 (r3 x bt s)) := by
  refine e_X3_readItem ?_
  rw [Tx_r h]
  refine ⟨trivial, ?_⟩
  have hy := sAt_le (tx := tx) (p := p)
  have hr : Rg ((if sAt tx p = 10 then -1 else (sAt tx p : Int)) - 4) := by split <;> constructor <;> omega
  rw [v_I (fun P => c_symbolHere (d := d + 2) (P := P) hE h (by omega)), iv_sub, v_I (fun P => c_isNonterminal (d := d + 6) (P := P) hr)]
  simp only [tf_0]
  by_cases c : 4 ≤ sAt tx p ∧ sAt tx p < 8
  · rw [if_neg (fun z => z (by rw [if_neg (by omega)]; omega)), if_neg (by omega)]
    have en : (sAt tx p : Int) - 4 = ((sAt tx p - 4 : Nat) : Int) := by omega
    rw [en]
    refine Tx_inc h ?_
    intro G1 a1 a2
    rw [Tx_r a1]
    refine ⟨trivial, u_I (c_readRule (d := d) hE (show sAt tx p - 4 < 4 by omega) hx hxs hbs (by omega) a1 (Tm_sam ht a2 (by unfold ivl; omega) (by unfold ivl; omega)) (Sm_dis hs a2 (by omega))) ?_⟩
    rintro v G2 ⟨rfl, b1, b2, b3, b4⟩
    refine ⟨_, rfl, of_eq_true (tf_z _), ?_⟩
    have er : rdI tx S p = ((rdR tx (sAt tx p - 4) (p + 1)).1, (rdR tx (sAt tx p - 4) (p + 1)).2.1, if (rdR tx (sAt tx p - 4) (p + 1)).1 = true then (Sc.mk (upB S.b (sAt tx p - 4) (rdR tx (sAt tx p - 4) (p + 1)).2.2) S.u S.v) else S) := by
      unfold rdI
      rw [if_pos c]
    rw [er]
    exact ⟨rfl, b1, b2, b3, sam_tr (sam_mono a2 (fun a ha => Or.inl ha)) b4⟩
  · rw [if_pos (by split <;> omega), Tx_r h]
    refine ⟨trivial, ?_⟩
    rw [v_I (fun P => c_stateHere (d := d + 5) (P := P) h (by omega)), v_I (fun P => c_isState (d := d + 6) (P := P) (st_rg h))]
    simp only [tf_0, dg_st h]
    by_cases c2 : dg tx p < 3
    · rw [if_neg (fun z => z c2), dg_eq c2]
      refine Tx_inc h ?_
      intro G1 a1 a2
      rw [Tx_r a1]
      refine ⟨trivial, u_I (c_readTransition (d := d + 1) hE c2 hxs (by omega) a1 (Sm_dis hs a2 (by omega))) ?_⟩
      rintro v G2 ⟨rfl, b1, b3, b4⟩
      refine ⟨_, rfl, of_eq_true (tf_z _), ?_⟩
      have er : rdI tx S p = ((rdT tx (p + 1)).1, (rdT tx (p + 1)).2.1, if (rdT tx (p + 1)).1 = true then (Sc.mk S.b (upI S.u (4 * dg tx p + sAt tx (p + 1)) ((rdT tx (p + 1)).2.2.1 : Nat)) (upI S.v (4 * dg tx p + sAt tx (p + 1)) ((rdT tx (p + 1)).2.2.2 : Nat))) else S) := by
        unfold rdI
        rw [if_neg c, if_pos c2]
      rw [er]
      have m : sam E G G2 (fun a => ivl x 2 a ∨ ivl s 12 a) := sam_tr (sam_mono a2 (fun a ha => Or.inl ha)) b4
      exact ⟨rfl, b1, ⟨_, Tm_sam ht m (by unfold ivl; omega) (by unfold ivl; omega)⟩, b3, sam_mono m (fun a ha => ha.elim Or.inl (fun z => Or.inr (Or.inr z)))⟩
    · rw [if_pos c2]
      have er : rdI tx S p = (false, p, S) := by
        unfold rdI
        rw [if_neg c, if_neg c2]
      rw [er]
      exact ⟨by rw [tf_f (by simp)], h, ⟨_, ht⟩, ⟨_, hs⟩, sam_rf⟩
end PA
