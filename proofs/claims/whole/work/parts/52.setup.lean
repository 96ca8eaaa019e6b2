-- uses 41 42 43 44 45 46 47 48 49 50 51
/-! readSetup; what is read is in order -/
theorem rdC_p {tx : List Nat} : ∀ (m c p q1 q2 : Nat), (rdC tx m c p q1 q2).1 = true → p < (rdC tx m c p q1 q2).2.1 ∧ (rdC tx m c p q1 q2).2.1 ≤ tx.length := by
  intro m
  induction m with
  | zero =>
    intro c p q1 q2 h
    unfold rdC at h ⊢
    split at h
    · next c1 =>
      rw [if_pos c1]
      exact ⟨Nat.lt_succ_self _, c1.1⟩
    · cases h
  | succ m ih =>
    intro c p q1 q2 h
    unfold rdC at h ⊢
    split at h
    · next c1 =>
      rw [if_pos c1]
      split at h
      · next c2 =>
        rw [if_pos c2]
        have := ih _ _ _ _ h
        omega
      · next c2 =>
        rw [if_neg c2]
        have := ih _ _ _ _ h
        omega
    · cases h
theorem rdR_q {tx : List Nat} {n p : Nat} (h : (rdR tx n p).1 = true) : p < (rdR tx n p).2.1 ∧ (rdR tx n p).2.1 ≤ tx.length ∧ (rdB tx n 30 1 (p + 1) []).1 = true ∧ (rdR tx n p).2.2 = (rdB tx n 30 1 (p + 1) []).2.2 := by
  have hb := rdB_p tx n 30 1 (p + 1) []
  unfold rdR at h ⊢
  split at h
  · next c1 =>
    rw [if_pos c1]
    split at h
    · next c2 =>
      rw [if_pos c2]
      split at h
      · next c3 =>
        rw [if_pos c3]
        refine ⟨?_, c3.1, c2, rfl⟩
        show p < (rdB tx n 30 1 (p + 1) []).2.1 + 1
        omega
      · cases h
    · cases h
  · cases h
theorem rdI_p {tx : List Nat} {S : Sc} {p : Nat} (h : (rdI tx S p).1 = true) : p < (rdI tx S p).2.1 ∧ (rdI tx S p).2.1 ≤ tx.length := by
  unfold rdI at h ⊢
  split at h
  · next c1 =>
    rw [if_pos c1]
    have := rdR_q h
    dsimp only
    omega
  · next c1 =>
    rw [if_neg c1]
    split at h
    · next c2 =>
      rw [if_pos c2]
      dsimp only at h ⊢
      unfold rdT at h ⊢
      split at h
      · next c3 =>
        rw [if_pos c3]
        have := rdC_p _ _ _ _ _ h
        omega
      · cases h
    · cases h
section SU
variable {E : Ev} {d : Nat} {G : Hp} {P : Po} {x bt s : Nat} {tx : List Nat} {w : Bool}
theorem rdI_b {S : Sc} {p : Nat} : (rdI tx S p).2.1 ≤ p + 50 := by
  unfold rdI
  split
  · have := rdR_p (tx := tx) (n := sAt tx p - 4) (p := p + 1)
    dsimp only
    omega
  · split
    · have h3 : ∀ (m c p q1 q2 : Nat), (rdC tx m c p q1 q2).2.1 ≤ p + m + 1 := by
        intro m
        induction m with
        | zero =>
          intro c p q1 q2
          unfold rdC
          split <;> simp
        | succ m ih =>
          intro c p q1 q2
          unfold rdC
          split
          · split
            · have := ih (c + 1) (p + 1) (dg tx p) q2
              omega
            · have := ih (c + 1) (p + 1) q1 (dg tx p)
              omega
          · show p ≤ _
            omega
      dsimp only
      unfold rdT
      split
      · have := h3 (ar (sAt tx (p + 1))) 1 (p + 1 + 1) 0 0
        have := ar_le (sAt tx (p + 1))
        omega
      · show p + 1 ≤ _
        omega
    · show p ≤ _
      omega
theorem c_suL (hE : EK E) (hx : x + 1 < bt ∨ bt + 1 < x) (hxs : x + 2 ≤ s ∨ s + 12 ≤ x) (hbs : bt + 2 ≤ s ∨ s + 12 ≤ bt) : ∀ (k p : Nat) (S : Sc) (G1 : Hp) (zs : List Nat) (ed : Nat), k ≤ 99 → p ≤ tx.length → Tx E G1 x tx p → Tm E G1 bt 30 zs → Sx E G1 s w S ed → sam E G G1 (r3 x bt s) → (∀ G2 e' p' ws, Tx E G2 x tx p' → p' ≤ 200 → Tm E G2 bt 30 ws → Sx E G2 s w (rdA tx k p S).2 e' → sam E G G2 (r3 x bt s) → P (some (.int (iv (rdA tx k p S).1))) G2) → Xr E (d + 8) x_X3_readSetup 11 [some (.ref x), some (.ref s), some (.ref bt), some (.int (iv ((99 - k : Nat) : Int)))] [] G1 P := by
  intro k
  induction k with
  | zero =>
    intro p S G1 zs ed hk hp hx1 ht hs hm hP
    refine g_X3_readSetup_11 ?_
    simp (disch := first | assumption | omega | decide) only [iv_le]
    rw [if_pos (by omega)]
    have := hx1.2.2.1
    exact hP G1 ed p zs hx1 (by omega) ht hs hm
  | succ k ih =>
    intro p S G1 zs ed hk hp hx1 ht hs hm hP
    refine g_X3_readSetup_11 ?_
    have hl := hx1.2.2.1
    simp (disch := first | assumption | omega | decide) only [iv_le]
    rw [if_neg (by omega), u_FI hx1.1 rfl, u_FI hx1.1 rfl]
    simp (disch := first | assumption | omega | decide) only [iv_le]
    unfold rdA at hP
    by_cases c : p < tx.length
    · rw [if_neg (by omega), Tx_r hx1]
      refine ⟨trivial, u_I (c_readItem (d := d) hE hx hxs hbs (by omega) hx1 ht hs) ?_⟩
      rintro v G2 ⟨rfl, a1, ⟨ws, a2⟩, ⟨e', a3⟩, a4⟩
      refine ⟨_, rfl, ?_⟩
      simp only [if_pos c] at hP
      simp only [tf_0, Classical.not_not]
      by_cases c2 : (rdI tx S p).1 = true
      · rw [if_pos c2]
        simp only [if_pos c2] at hP
        have e2 : iv ((99 - (k + 1) : Nat) : Int) + iv 1 = iv ((99 - k : Nat) : Int) := by
          rw [iv_add]
          congr 1
          omega
        rw [e2]
        exact ih _ _ G2 ws e' (by omega) (rdI_p c2).2 a1 a2 a3 (sam_tr hm a4) hP
      · rw [if_neg c2, u_FI a1.1 rfl]
        simp only [if_neg c2] at hP
        have := rdI_b (tx := tx) (S := S) (p := p)
        exact hP G2 e' _ ws a1 (by omega) a2 a3 (sam_tr hm a4)
    · rw [if_pos (by omega)]
      simp only [if_neg c] at hP
      exact hP G1 ed p zs hx1 (by omega) ht hs hm
theorem c_readSetup (hE : EK E) {p ed : Nat} {zs : List Nat} {S : Sc} (hx : x + 1 < bt ∨ bt + 1 < x) (hxs : x + 2 ≤ s ∨ s + 12 ≤ x) (hbs : bt + 2 ≤ s ∨ s + 12 ≤ bt) (h : Tx E G x tx p) (ht : Tm E G bt 30 zs) (hs : Sx E G s w S ed) : runs E (d + 9) i_X3_readSetup [.ref x, .ref s, .ref bt] G (fun v G1 => v = some (.int (iv (rdA tx 99 0 S0).1)) ∧ (∃ p', Tx E G1 x tx p' ∧ p' ≤ 200) ∧ (∃ ws, Tm E G1 bt 30 ws) ∧ (∃ e', Sx E G1 s w (rdA tx 99 0 S0).2 e') ∧ sam E G G1 (r3 x bt s)) := by
  refine e_X3_readSetup ?_
  rw [Sm_rc hs]
  refine ⟨trivial, u_V (c_reset (d := d + 6) hs) ?_⟩
  rintro v G1 ⟨rfl, a1, a2⟩
  refine ⟨rfl, ?_⟩
  refine Tx_p (p' := 0) (Tx_sam h a2 (by unfold ivl; omega) (by unfold ivl; omega)) ?_
  intro G2 b1 b2
  exact c_suL (G := G) hE hx hxs hbs 99 0 S0 G2 zs (ed + 1) (Nat.le_refl _) (Nat.zero_le _) b1 (Tm_sam (Tm_sam ht a2 (by unfold ivl; omega) (by unfold ivl; omega)) b2 (by unfold ivl; omega) (by unfold ivl; omega)) (Sm_dis a1 b2 (by omega)) (sam_tr (sam_mono a2 (fun a ha => Or.inr (Or.inr ha))) (sam_mono b2 (fun a ha => Or.inl ha))) (fun G3 e' p' ws h1 h2 h3 h4 h5 => ⟨rfl, ⟨p', h1, h2⟩, ⟨ws, h3⟩, ⟨e', h4⟩, h5⟩)
end SU
/-! terms in order -/
/-- o terms, one after the other, and nothing more -/
def wfo : Nat → List Nat → Prop
  | 0, [] => True
  | 0, _ :: _ => False
  | _ + 1, [] => False
  | o + 1, y :: ys => wfo (o + ar y) ys
def okB (n : Nat) (xs : List Nat) : Prop := xs.length ≤ 30 ∧ wfo 1 xs ∧ ∀ i, i < xs.length → may n (xs.getD i 0)
def okS (S : Sc) : Prop := (∀ n, n < 4 → okB n (S.b n)) ∧ ∀ k, k < 12 → (S.u k = -1 ∧ S.v k = -1) ∨ ((0 ≤ S.u k ∧ S.u k < 3) ∧ (0 ≤ S.v k ∧ S.v k < 3))
theorem okS_0 : okS S0 := by
  refine ⟨fun n hn => ⟨by show 1 ≤ 30; decide, by show wfo 1 [2]; trivial, fun i hi => ?_⟩, fun k hk => Or.inl ⟨rfl, rfl⟩⟩
  have : i = 0 := by
    have : i < 1 := hi
    omega
  subst this
  show may n 2
  unfold may
  omega
theorem rdB_ok {tx : List Nat} {n : Nat} : ∀ (k o p : Nat) (acc : List Nat), (rdB tx n k o p acc).1 = true → ∃ zs, (rdB tx n k o p acc).2.2 = acc ++ zs ∧ wfo o zs ∧ zs.length ≤ k ∧ ∀ i, i < zs.length → may n (zs.getD i 0) := by
  intro k
  induction k with
  | zero =>
    intro o p acc h
    unfold rdB at h ⊢
    have ho : o = 0 := by simpa using h
    subst ho
    exact ⟨[], by simp, by trivial, by simp, fun i hi => absurd hi (Nat.not_lt_zero _)⟩
  | succ k ih =>
    intro o p acc h
    unfold rdB at h ⊢
    by_cases c : o = 0
    · subst c
      rw [if_pos rfl]
      exact ⟨[], by simp, by trivial, by simp, fun i hi => absurd hi (Nat.not_lt_zero _)⟩
    · rw [if_neg c] at h ⊢
      by_cases c2 : may n (sAt tx p)
      · rw [if_pos c2] at h ⊢
        obtain ⟨zs, h1, h2, h3, h4⟩ := ih _ _ _ h
        refine ⟨sAt tx p :: zs, by rw [h1, List.append_assoc]; rfl, ?_, by simp; omega, ?_⟩
        · obtain ⟨o', rfl⟩ : ∃ o', o = o' + 1 := ⟨o - 1, by omega⟩
          exact h2
        · intro i hi
          cases i with
          | zero => exact c2
          | succ i =>
            simp at hi
            exact h4 i hi
      · rw [if_neg c2] at h
        cases h
theorem rdB_okB {tx : List Nat} {n p : Nat} (h : (rdB tx n 30 1 p []).1 = true) : okB n (rdB tx n 30 1 p []).2.2 := by
  obtain ⟨zs, h1, h2, h3, h4⟩ := rdB_ok _ _ _ _ h
  rw [h1, List.nil_append]
  exact ⟨h3, h2, h4⟩
theorem rdC_q {tx : List Nat} : ∀ (m c p q1 q2 : Nat), q1 < 3 → q2 < 3 → (rdC tx m c p q1 q2).2.2.1 < 3 ∧ (rdC tx m c p q1 q2).2.2.2 < 3 := by
  intro m
  induction m with
  | zero =>
    intro c p q1 q2 h1 h2
    unfold rdC
    split <;> exact ⟨h1, h2⟩
  | succ m ih =>
    intro c p q1 q2 h1 h2
    unfold rdC
    split
    · next c1 =>
      split
      · exact ih _ _ _ _ c1 h2
      · exact ih _ _ _ _ h1 c1
    · exact ⟨h1, h2⟩
theorem okS_b {S : Sc} {n : Nat} {ys : List Nat} (h : okS S) (hy : okB n ys) : okS (Sc.mk (upB S.b n ys) S.u S.v) := by
  refine ⟨fun m hm => ?_, h.2⟩
  show okB m (upB S.b n ys m)
  unfold upB
  by_cases c : m = n
  · rw [if_pos c, c]; exact hy
  · rw [if_neg c]; exact h.1 m hm
theorem okS_t {S : Sc} {k : Nat} {a b : Int} (h : okS S) (hy : (a = -1 ∧ b = -1) ∨ ((0 ≤ a ∧ a < 3) ∧ (0 ≤ b ∧ b < 3))) : okS (Sc.mk S.b (upI S.u k a) (upI S.v k b)) := by
  refine ⟨h.1, fun j hj => ?_⟩
  show (upI S.u k a j = -1 ∧ upI S.v k b j = -1) ∨ ((0 ≤ upI S.u k a j ∧ upI S.u k a j < 3) ∧ (0 ≤ upI S.v k b j ∧ upI S.v k b j < 3))
  unfold upI
  by_cases c : j = k
  · rw [if_pos c, if_pos c]; exact hy
  · rw [if_neg c, if_neg c]; exact h.2 j hj
theorem rdI_ok {tx : List Nat} {S : Sc} {p : Nat} (h : okS S) : okS (rdI tx S p).2.2 := by
  unfold rdI
  split
  · next c =>
    dsimp only
    split
    · next c2 =>
      have := rdR_q c2
      rw [this.2.2.2]
      exact okS_b h (rdB_okB this.2.2.1)
    · exact h
  · split
    · dsimp only
      split
      · next c2 =>
        refine okS_t h (Or.inr ?_)
        unfold rdT
        split
        · have := rdC_q (tx := tx) (ar (sAt tx (p + 1))) 1 (p + 1 + 1) 0 0 (by decide) (by decide)
          omega
        · show (0 ≤ (0 : Int) ∧ (0 : Int) < 3) ∧ (0 ≤ (0 : Int) ∧ (0 : Int) < 3)
          decide
      · exact h
    · exact h
theorem rdA_ok {tx : List Nat} : ∀ (k p : Nat) (S : Sc), okS S → okS (rdA tx k p S).2 := by
  intro k
  induction k with
  | zero => intro p S h; exact h
  | succ k ih =>
    intro p S h
    unfold rdA
    split
    · split
      · exact ih _ _ (rdI_ok h)
      · exact rdI_ok h
    · exact h
