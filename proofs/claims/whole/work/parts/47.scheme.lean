-- uses 41 42 43 44 45 46
/-! Scheme -/
def bp (s : Nat) (w : Bool) (n : Nat) : Nat := s + 2 + 2 * (if w = true then (if n = 1 then 2 else if n = 2 then 1 else n) else n)
theorem bp_in {s : Nat} {w : Bool} {n : Nat} (hn : n < 4) : s + 2 ≤ bp s w n ∧ bp s w n + 1 < s + 10 := by
  unfold bp
  split
  · split
    · omega
    · split <;> omega
  · omega
theorem bp_ne {s : Nat} {w : Bool} {n m : Nat} (hn : n < 4) (hm : m < 4) (h : n ≠ m) : bp s w n + 1 < bp s w m ∨ bp s w m + 1 < bp s w n := by
  unfold bp
  cases w
  · simp only [Bool.false_eq_true, if_false]
    omega
  · simp only [if_true]
    rcases (by omega : n = 0 ∨ n = 1 ∨ n = 2 ∨ n = 3) with rfl | rfl | rfl | rfl <;> rcases (by omega : m = 0 ∨ m = 1 ∨ m = 2 ∨ m = 3) with rfl | rfl | rfl | rfl <;> simp at h ⊢
def upI (t : Nat → Int) (k : Nat) (z : Int) : Nat → Int := fun j => if j = k then z else t j
def upB (b : Nat → List Nat) (k : Nat) (z : List Nat) : Nat → List Nat := fun j => if j = k then z else b j
def Sm (E : Ev) (G : Hp) (s : Nat) (w : Bool) (B : Nat → List Nat) (t1 t2 : Nat → Int) (ed : Nat) : Prop :=
  gt E G s = some (cO 1 [.ref (s + 1), .ref (s + 10), .ref (s + 11), .int (iv (ed : Int))]) ∧
  (∃ g, gt E G (s + 1) = some (cR 1 4 g) ∧ ∀ n, n < 4 → g n = some (bp s w n)) ∧
  (∀ n, n < 4 → Tm E G (bp s w n) 30 (B n)) ∧
  (∃ f, gt E G (s + 10) = some (cA 0 12 f) ∧ ∀ k, k < 12 → f k = iv (t1 k)) ∧
  (∃ f, gt E G (s + 11) = some (cA 0 12 f) ∧ ∀ k, k < 12 → f k = iv (t2 k))
section SM
variable {E : Ev} {d : Nat} {G : Hp} {P : Po} {s : Nat} {w : Bool} {B : Nat → List Nat} {t1 t2 : Nat → Int} {ed : Nat}
theorem Sm_sam {G1 : Hp} {R : Nat → Prop} (h : Sm E G s w B t1 t2 ed) (k : sam E G G1 R) (hr : ∀ a, s ≤ a → a < s + 12 → ¬ R a) : Sm E G1 s w B t1 t2 ed := by
  obtain ⟨h1, ⟨g, h2, h3⟩, h4, ⟨f, h5, h6⟩, ⟨f', h7, h8⟩⟩ := h
  refine ⟨(k.1 _ (hr _ (by omega) (by omega))).trans h1, ⟨g, (k.1 _ (hr _ (by omega) (by omega))).trans h2, h3⟩, fun n hn => ?_, ⟨f, (k.1 _ (hr _ (by omega) (by omega))).trans h5, h6⟩, ⟨f', (k.1 _ (hr _ (by omega) (by omega))).trans h7, h8⟩⟩
  have := bp_in (s := s) (w := w) hn
  exact Tm_sam (h4 n hn) k (hr _ (by omega) (by omega)) (hr _ (by omega) (by omega))
theorem Sm_dis {G1 : Hp} {lo n : Nat} (h : Sm E G s w B t1 t2 ed) (k : sam E G G1 (ivl lo n)) (hr : s + 12 ≤ lo ∨ lo + n ≤ s) : Sm E G1 s w B t1 t2 ed :=
  Sm_sam h k (fun a h1 h2 => by unfold ivl; omega)
theorem Sm_rb {F : Nat → Prop} (h : Sm E G s w B t1 t2 ed) : qFR E G s 1 0 F = F (s + 1) := u_FR h.1 rfl
theorem Sm_r1 {F : Nat → Prop} (h : Sm E G s w B t1 t2 ed) : qFR E G s 1 1 F = F (s + 10) := u_FR h.1 rfl
theorem Sm_r2 {F : Nat → Prop} (h : Sm E G s w B t1 t2 ed) : qFR E G s 1 2 F = F (s + 11) := u_FR h.1 rfl
theorem Sm_re {F : Int32 → Prop} (h : Sm E G s w B t1 t2 ed) : qFI E G s 1 3 F = F (iv (ed : Int)) := u_FI h.1 rfl
theorem Sm_rc (h : Sm E G s w B t1 t2 ed) : (rcv E G s 1 = true) = True := u_rcv h.1
theorem Sm_b {F : Nat → Prop} {n : Nat} (h : Sm E G s w B t1 t2 ed) (hn : n < 4) : qRA E G (s + 1) (iv (n : Int)) F = F (bp s w n) := by
  obtain ⟨h1, ⟨g, h2, h3⟩, h4, h5⟩ := h
  exact u_RA h2 (by omega) (by omega) (h3 n hn)
theorem Sm_g1 {F : Int32 → Prop} {k : Nat} {o : Nat} (h : Sm E G s w B t1 t2 ed) (hk : k < 12) : qIA o E G (s + 10) (iv (k : Int)) F = F (iv (t1 k)) := by
  obtain ⟨h1, h2, h4, ⟨f, h5, h6⟩, h7⟩ := h
  rw [u_IA h5 (by omega), Int.toNat_natCast, h6 k hk]
theorem Sm_g2 {F : Int32 → Prop} {k : Nat} {o : Nat} (h : Sm E G s w B t1 t2 ed) (hk : k < 12) : qIA o E G (s + 11) (iv (k : Int)) F = F (iv (t2 k)) := by
  obtain ⟨h1, h2, h4, h7, ⟨f, h5, h6⟩⟩ := h
  rw [u_IA h5 (by omega), Int.toNat_natCast, h6 k hk]
theorem Sm_l1 {F : Int32 → Prop} {o : Nat} (h : Sm E G s w B t1 t2 ed) : qL o E G (s + 10) F = F (iv 12) := by
  obtain ⟨h1, h2, h4, ⟨f, h5, h6⟩, h7⟩ := h
  exact u_L h5
theorem Sm_l2 {F : Int32 → Prop} {o : Nat} (h : Sm E G s w B t1 t2 ed) : qL o E G (s + 11) F = F (iv 12) := by
  obtain ⟨h1, h2, h4, h7, ⟨f, h5, h6⟩⟩ := h
  exact u_L h5
theorem Sm_pe {e' : Nat} {F : Hp → Prop} (h : Sm E G s w B t1 t2 ed) (k : ∀ G1, Sm E G1 s w B t1 t2 e' → sam E G G1 (ivl s 12) → F G1) : qP E G s 1 3 (.int (iv (e' : Int))) F := by
  obtain ⟨h1, ⟨g, h2, h3⟩, h4, ⟨f, h5, h6⟩, ⟨f', h7, h8⟩⟩ := h
  rw [u_P h1 (by simp)]
  refine k _ ⟨gt_st_self (by rw [h1]; rfl), ⟨g, (gt_st_ne (by omega)).trans h2, h3⟩, fun n hn => ?_, ⟨f, (gt_st_ne (by omega)).trans h5, h6⟩, ⟨f', (gt_st_ne (by omega)).trans h7, h8⟩⟩ (sam_st ⟨Nat.le_refl _, by omega⟩)
  have := bp_in (s := s) (w := w) hn
  exact Tm_sam (R := ivl s 1) (h4 n hn) (sam_st ⟨Nat.le_refl _, by omega⟩) (by unfold ivl; omega) (by unfold ivl; omega)
theorem Sm_ee {F : Hp → Prop} (h : Sm E G s w B t1 t2 ed) (k : ∀ G1, Sm E G1 s w B t1 t2 (ed + 1) → sam E G G1 (ivl s 12) → F G1) : qFI E G s 1 3 (fun v => qP E G s 1 3 (.int (v + iv 1)) F) := by
  rw [Sm_re h, i_s]
  exact Sm_pe h k
theorem Sm_s1 {k : Nat} {z : Int} {F : Hp → Prop} (h : Sm E G s w B t1 t2 ed) (hk : k < 12) (kk : ∀ G1, Sm E G1 s w B (upI t1 k z) t2 ed → sam E G G1 (ivl s 12) → F G1) : qIS E G (s + 10) (iv (k : Int)) (iv z) F := by
  obtain ⟨h1, ⟨g, h2, h3⟩, h4, ⟨f, h5, h6⟩, ⟨f', h7, h8⟩⟩ := h
  rw [u_IS h5 (by omega), Int.toNat_natCast]
  refine kk _ ⟨(gt_st_ne (by omega)).trans h1, ⟨g, (gt_st_ne (by omega)).trans h2, h3⟩, fun n hn => ?_, ⟨_, gt_st_self (by rw [h5]; rfl), fun j hj => ?_⟩, ⟨f', (gt_st_ne (by omega)).trans h7, h8⟩⟩ (sam_st ⟨by omega, by omega⟩)
  · have := bp_in (s := s) (w := w) hn
    exact Tm_sam (R := ivl (s + 10) 1) (h4 n hn) (sam_st ⟨Nat.le_refl _, by omega⟩) (by unfold ivl; omega) (by unfold ivl; omega)
  · unfold upd upI
    by_cases c : j = k
    · rw [if_pos c, if_pos c]
    · rw [if_neg c, if_neg c]
      exact h6 j hj
theorem Sm_s2 {k : Nat} {z : Int} {F : Hp → Prop} (h : Sm E G s w B t1 t2 ed) (hk : k < 12) (kk : ∀ G1, Sm E G1 s w B t1 (upI t2 k z) ed → sam E G G1 (ivl s 12) → F G1) : qIS E G (s + 11) (iv (k : Int)) (iv z) F := by
  obtain ⟨h1, ⟨g, h2, h3⟩, h4, ⟨f', h7, h8⟩, ⟨f, h5, h6⟩⟩ := h
  rw [u_IS h5 (by omega), Int.toNat_natCast]
  refine kk _ ⟨(gt_st_ne (by omega)).trans h1, ⟨g, (gt_st_ne (by omega)).trans h2, h3⟩, fun n hn => ?_, ⟨f', (gt_st_ne (by omega)).trans h7, h8⟩, ⟨_, gt_st_self (by rw [h5]; rfl), fun j hj => ?_⟩⟩ (sam_st ⟨by omega, by omega⟩)
  · have := bp_in (s := s) (w := w) hn
    exact Tm_sam (R := ivl (s + 11) 1) (h4 n hn) (sam_st ⟨Nat.le_refl _, by omega⟩) (by unfold ivl; omega) (by unfold ivl; omega)
  · unfold upd upI
    by_cases c : j = k
    · rw [if_pos c, if_pos c]
    · rw [if_neg c, if_neg c]
      exact h6 j hj
/-- a body changed -/
theorem Sm_tm {G1 : Hp} {n : Nat} {ys : List Nat} (h : Sm E G s w B t1 t2 ed) (hn : n < 4) (k : sam E G G1 (ivl (bp s w n) 2)) (ht : Tm E G1 (bp s w n) 30 ys) : Sm E G1 s w (upB B n ys) t1 t2 ed ∧ sam E G G1 (ivl s 12) := by
  obtain ⟨h1, ⟨g, h2, h3⟩, h4, ⟨f, h5, h6⟩, ⟨f', h7, h8⟩⟩ := h
  have hb := bp_in (s := s) (w := w) hn
  refine ⟨⟨(k.1 _ (by unfold ivl; omega)).trans h1, ⟨g, (k.1 _ (by unfold ivl; omega)).trans h2, h3⟩, fun m hm => ?_, ⟨f, (k.1 _ (by unfold ivl; omega)).trans h5, h6⟩, ⟨f', (k.1 _ (by unfold ivl; omega)).trans h7, h8⟩⟩, sam_mono k (fun a ha => by unfold ivl at ha ⊢; omega)⟩
  unfold upB
  by_cases c : m = n
  · rw [if_pos c, c]
    exact ht
  · rw [if_neg c]
    have := bp_ne (s := s) (w := w) hm hn c
    exact Tm_sam (h4 m hm) k (by unfold ivl; omega) (by unfold ivl; omega)
theorem c_edits (h : Sm E G s w B t1 t2 ed) : runs E (d + 1) i_X1_edits [.ref s] G P = P (some (.int (iv (ed : Int)))) G := by
  refine runs_one (fun P hP => e_X1_edits ?_) P
  rw [Sm_re h]
  exact hP
theorem c_body {n : Nat} (h : Sm E G s w B t1 t2 ed) (hn : n < 4) : runs E (d + 1) i_X1_body [.ref s, .int (iv (n : Int))] G P = P (some (.ref (bp s w n))) G := by
  refine runs_one (fun P hP => e_X1_body ?_) P
  rw [Sm_rb h, Sm_b h hn]
  exact hP
theorem iqt {q t : Nat} : iv (q : Int) * iv 4 + iv (t : Int) = iv ((4 * q + t : Nat) : Int) := by
  rw [iv_mul, iv_add]
  congr 1
  omega
theorem c_canRead {q t : Nat} (h : Sm E G s w B t1 t2 ed) (hq : q < 3) (ht : t < 4) (hr : Rg (t1 (4 * q + t))) : runs E (d + 1) i_X1_canRead [.ref s, .int (iv (q : Int)), .int (iv (t : Int))] G P = P (some (.int (tf (t1 (4 * q + t) ≠ -1)))) G := by
  refine runs_one (fun P hP => e_X1_canRead ?_) P
  rw [Sm_r1 h, iqt, Sm_g1 h (by omega)]
  simp (disch := first | assumption | omega | decide) only [iv_eq]
  by_cases c : t1 (4 * q + t) = -1
  · rw [if_pos c]
    rw [tf_f (fun z => z c)] at hP
    exact hP
  · rw [if_neg c]
    rw [tf_t c] at hP
    exact hP
theorem c_target {q t c : Nat} (h : Sm E G s w B t1 t2 ed) (hq : q < 3) (ht : t < 4) (hc : c < 10) : runs E (d + 1) i_X1_target [.ref s, .int (iv (q : Int)), .int (iv (t : Int)), .int (iv (c : Int))] G P = P (some (.int (iv (if c = 1 then t1 (4 * q + t) else t2 (4 * q + t))))) G := by
  refine runs_one (fun P hP => e_X1_target ?_) P
  rw [Sm_r1 h, Sm_r2 h, iqt, Sm_g1 h (by omega), Sm_g2 h (by omega)]
  simp (disch := first | assumption | omega | decide) only [iv_eq]
  by_cases c1 : c = 1
  · rw [if_neg (by omega)]
    rw [if_pos c1] at hP
    exact hP
  · rw [if_pos (by omega)]
    rw [if_neg c1] at hP
    exact hP
theorem c_putTransition {q t : Nat} {a b : Int} (h : Sm E G s w B t1 t2 ed) (hq : q < 3) (ht : t < 4) : runs E (d + 1) i_X1_putTransition [.ref s, .int (iv (q : Int)), .int (iv (t : Int)), .int (iv a), .int (iv b)] G (fun v G1 => v = none ∧ Sm E G1 s w B (upI t1 (4 * q + t) a) (upI t2 (4 * q + t) b) (ed + 1) ∧ sam E G G1 (ivl s 12)) := by
  refine e_X1_putTransition ?_
  rw [Sm_r1 h, iqt]
  refine Sm_s1 h (by omega) ?_
  intro G1 p1 q1
  rw [Sm_r2 p1]
  refine Sm_s2 p1 (by omega) ?_
  intro G2 p2 q2
  refine Sm_ee p2 ?_
  intro G3 p3 q3
  exact ⟨rfl, p3, sam_tr q1 (sam_tr q2 q3)⟩
theorem c_dropTransition {q t : Nat} (h : Sm E G s w B t1 t2 ed) (hq : q < 3) (ht : t < 4) : runs E (d + 2) i_X1_dropTransition [.ref s, .int (iv (q : Int)), .int (iv (t : Int))] G (fun v G1 => v = none ∧ Sm E G1 s w B (upI t1 (4 * q + t) (-1)) (upI t2 (4 * q + t) (-1)) (ed + 1) ∧ sam E G G1 (ivl s 12)) := by
  refine e_X1_dropTransition ?_
  rw [Sm_rc h]
  refine ⟨trivial, u_V (c_putTransition h hq ht) ?_⟩
  rintro v G1 ⟨rfl, p, q⟩
  exact ⟨rfl, rfl, p, q⟩
theorem c_changeBody {n u cu : Nat} {ys : List Nat} (h : Sm E G s w B t1 t2 ed) (hn : n < 4) (ht : Tm E G u cu ys) (hu : u + 1 < s ∨ s + 12 ≤ u) (hl : ys.length ≤ 30) : runs E (d + 3) i_X1_changeBody [.ref s, .int (iv (n : Int)), .ref u] G (fun v G1 => v = none ∧ Sm E G1 s w (upB B n ys) t1 t2 (ed + 1) ∧ sam E G G1 (ivl s 12)) := by
  refine e_X1_changeBody ?_
  have hb := bp_in (s := s) (w := w) hn
  have h4 := h.2.2.1 n hn
  rw [Sm_rb h, Sm_b h hn, Tm_r h4]
  refine ⟨trivial, u_V (c_become (d := d) h4 ht (by omega) hl) ?_⟩
  rintro v G1 ⟨rfl, p, q⟩
  obtain ⟨p1, q1⟩ := Sm_tm h hn q p
  refine ⟨rfl, Sm_ee p1 ?_⟩
  intro G2 p2 q2
  exact ⟨rfl, p2, sam_tr q1 q2⟩
end SM
