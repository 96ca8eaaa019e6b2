-- uses 41 42 43 44 45 46 47
/-! Scheme: loops -/
section FL
variable {E : Ev} {d : Nat} {G : Hp} {P : Po}
theorem u_Cp {k n0 n1 a0 a : Nat} {f g : Nat → Int32} {sp dp n : Int} {F : Hp → Prop} (h0 : gt E G a0 = some (cA k n0 f)) (h1 : gt E G a = some (cA k n1 g)) (hr : 0 ≤ sp ∧ 0 ≤ dp ∧ 0 ≤ n ∧ sp + n ≤ n0 ∧ dp + n ≤ n1 ∧ n0 ≤ 100000 ∧ n1 ≤ 100000) (hf : ∀ i, i < n.toNat → fits (kT k) (.int (f (sp.toNat + i))) = true) : qCp E G a0 (iv sp) a (iv dp) (iv n) F = F (st E G a (cA k n1 (va_cpy f g sp.toNat dp.toNat n.toNat))) := by
  have r1 : Rg sp := by constructor <;> omega
  have r2 : Rg dp := by constructor <;> omega
  have r3 : Rg n := by constructor <;> omega
  have e : sp.toNat + n.toNat ≤ n0 ∧ dp.toNat + n.toNat ≤ n1 := by omega
  have e1 : ¬ sp < 0 := by omega
  have e2 : ¬ dp < 0 := by omega
  have e3 : ¬ n < 0 := by omega
  unfold qCp
  rw [h0]
  dsimp only
  rw [h1]
  dsimp only
  rw [iv_cl r1, iv_cl r2, iv_cl r3, iv_lt0 r1, iv_lt0 r2, iv_lt0 r3]
  apply propext
  constructor
  · exact fun z => z.2
  · exact fun z => ⟨⟨rfl, e1, e2, e3, e.1, e.2, hf⟩, z⟩
theorem cpy0 {f g : Nat → Int32} {n k : Nat} (hk : k < n) : va_cpy f g (Int.toNat 0) (Int.toNat 0) (Int.toNat (n : Int)) k = f k := by
  show (if 0 ≤ k ∧ k < 0 + n then f (0 + (k - 0)) else g k) = f k
  rw [if_pos (by omega)]
  congr 1
  omega
theorem c_fillL {a n : Nat} {x : Int32} {w1 : Value} (hn : n ≤ 100000) : ∀ (m i : Nat) (G1 : Hp) (f : Nat → Int32), n - i ≤ m → i ≤ n → gt E G1 a = some (cA 0 n f) → (∀ j, j < i → f j = x) → sam E G G1 (ivl a 1) → (∀ G2 f', gt E G2 a = some (cA 0 n f') → (∀ j, j < n → f' j = x) → sam E G G2 (ivl a 1) → P none G2) → Xr E d x_J7_fill_53178 5 [some (.ref a), some (.int x), some (.int (iv (i : Int))), some (.int (iv (n : Int)))] [] G1 P := by
  intro m
  induction m with
  | zero =>
    intro i G1 f hm hi h hf hs hP
    refine g_J7_fill_53178_5 ?_
    simp (disch := first | assumption | omega | decide) only [iv_le]
    rw [if_pos (by omega)]
    exact hP G1 f h (fun j hj => hf j (by omega)) hs
  | succ m ih =>
    intro i G1 f hm hi h hf hs hP
    refine g_J7_fill_53178_5 ?_
    simp (disch := first | assumption | omega | decide) only [iv_le]
    by_cases c : (n : Int) ≤ i
    · rw [if_pos c]
      exact hP G1 f h (fun j hj => hf j (by omega)) hs
    · rw [if_neg c, u_IS h (by omega), i_s]
      refine ih (i + 1) _ _ (by omega) (by omega) (gt_st_self (by rw [h]; rfl)) ?_ (sam_s hs ⟨Nat.le_refl _, by omega⟩) hP
      intro j hj
      unfold upd
      by_cases c2 : j = i
      · rw [if_pos (by omega)]
      · rw [if_neg (by omega)]
        exact hf j (by omega)
theorem c_fill {a n : Nat} {x : Int32} {f : Nat → Int32} (h : gt E G a = some (cA 0 n f)) (hn : n ≤ 100000) : runs E (d + 1) i_J7_fill_53178 [.ref a, .int x] G (fun v G1 => v = none ∧ (∃ f', gt E G1 a = some (cA 0 n f') ∧ ∀ j, j < n → f' j = x) ∧ sam E G G1 (ivl a 1)) := by
  refine e_J7_fill_53178 ?_
  rw [u_L h]
  refine c_fillL (G := G) (w1 := .int x) hn n 0 G f (by omega) (by omega) h (fun j hj => absurd hj (Nat.not_lt_zero _)) sam_rf ?_
  intro G2 f' h1 h2 h3
  exact ⟨rfl, ⟨f', h1, h2⟩, h3⟩
theorem c_fillBL {a n k : Nat} {z : Int} (hk : k = 1 ∨ k = 2) (hz : vp_nar (kT k) (iv z) = iv z) (hn : n ≤ 100000) : ∀ (m i : Nat) (G1 : Hp) (f : Nat → Int32), n - i ≤ m → i ≤ n → gt E G1 a = some (cA k n f) → (∀ j, j < i → f j = iv z) → sam E G G1 (ivl a 1) → (∀ G2 f', gt E G2 a = some (cA k n f') → (∀ j, j < n → f' j = iv z) → sam E G G2 (ivl a 1) → P none G2) → Xr E d x_J7_fill_031fb 5 [some (.ref a), some (.int (iv z)), some (.int (iv (i : Int))), some (.int (iv (n : Int)))] [] G1 P := by
  intro m
  induction m with
  | zero =>
    intro i G1 f hm hi h hf hs hP
    refine g_J7_fill_031fb_5 ?_
    simp (disch := first | assumption | omega | decide) only [iv_le]
    rw [if_pos (by omega)]
    exact hP G1 f h (fun j hj => hf j (by omega)) hs
  | succ m ih =>
    intro i G1 f hm hi h hf hs hP
    refine g_J7_fill_031fb_5 ?_
    simp (disch := first | assumption | omega | decide) only [iv_le]
    by_cases c : (n : Int) ≤ i
    · rw [if_pos c]
      exact hP G1 f h (fun j hj => hf j (by omega)) hs
    · rw [if_neg c, u_BS h hk (by omega), i_s, hz]
      refine ih (i + 1) _ _ (by omega) (by omega) (gt_st_self (by rw [h]; rfl)) ?_ (sam_s hs ⟨Nat.le_refl _, by omega⟩) hP
      intro j hj
      unfold upd
      by_cases c2 : j = i
      · rw [if_pos (by omega)]
      · rw [if_neg (by omega)]
        exact hf j (by omega)
theorem c_fillB {a n k : Nat} {z : Int} {f : Nat → Int32} (hk : k = 1 ∨ k = 2) (hz : vp_nar (kT k) (iv z) = iv z) (h : gt E G a = some (cA k n f)) (hn : n ≤ 100000) : runs E (d + 1) i_J7_fill_031fb [.ref a, .int (iv z)] G (fun v G1 => v = none ∧ (∃ f', gt E G1 a = some (cA k n f') ∧ ∀ j, j < n → f' j = iv z) ∧ sam E G G1 (ivl a 1)) := by
  refine e_J7_fill_031fb ?_
  rw [u_L h]
  refine c_fillBL (G := G) hk hz hn n 0 G f (by omega) (by omega) h (fun j hj => absurd hj (Nat.not_lt_zero _)) sam_rf ?_
  intro G2 f' h1 h2 h3
  exact ⟨rfl, ⟨f', h1, h2⟩, h3⟩
end FL
def tcn (t : Nat → Int) : Nat → Nat
  | 0 => 0
  | n + 1 => tcn t n + (if t n = -1 then 0 else 1)
theorem tcn_le (t : Nat → Int) : ∀ n, tcn t n ≤ n := by
  intro n
  induction n with
  | zero => exact Nat.le_refl _
  | succ n ih =>
    unfold tcn
    split <;> omega
def sw12 (n : Nat) : Nat := if n = 1 then 2 else if n = 2 then 1 else n
section SM2
variable {E : Ev} {d : Nat} {G : Hp} {P : Po} {s : Nat} {w : Bool} {B : Nat → List Nat} {t1 t2 : Nat → Int} {ed : Nat}
theorem Sm_cg {B' : Nat → List Nat} {t1' t2' : Nat → Int} (h : Sm E G s w B t1 t2 ed) (hb : ∀ n, n < 4 → B n = B' n) (h1 : ∀ k, k < 12 → t1 k = t1' k) (h2 : ∀ k, k < 12 → t2 k = t2' k) : Sm E G s w B' t1' t2' ed := by
  obtain ⟨k1, ⟨g, k2, k3⟩, k4, ⟨f, k5, k6⟩, ⟨f', k7, k8⟩⟩ := h
  refine ⟨k1, ⟨g, k2, k3⟩, fun n hn => ?_, ⟨f, k5, fun k hk => ?_⟩, ⟨f', k7, fun k hk => ?_⟩⟩
  · rw [← hb n hn]; exact k4 n hn
  · rw [← h1 k hk]; exact k6 k hk
  · rw [← h2 k hk]; exact k8 k hk
theorem Sm_a1 {G1 : Hp} {f : Nat → Int32} {t1' : Nat → Int} (h : Sm E G s w B t1 t2 ed) (k : sam E G G1 (ivl (s + 10) 1)) (hg : gt E G1 (s + 10) = some (cA 0 12 f)) (hf : ∀ k, k < 12 → f k = iv (t1' k)) : Sm E G1 s w B t1' t2 ed ∧ sam E G G1 (ivl s 12) := by
  obtain ⟨k1, ⟨g, k2, k3⟩, k4, k5, ⟨f', k7, k8⟩⟩ := h
  refine ⟨⟨(k.1 _ (by unfold ivl; omega)).trans k1, ⟨g, (k.1 _ (by unfold ivl; omega)).trans k2, k3⟩, fun n hn => ?_, ⟨f, hg, hf⟩, ⟨f', (k.1 _ (by unfold ivl; omega)).trans k7, k8⟩⟩, sam_mono k (fun a ha => by unfold ivl at ha ⊢; omega)⟩
  have := bp_in (s := s) (w := w) hn
  exact Tm_sam (k4 n hn) k (by unfold ivl; omega) (by unfold ivl; omega)
theorem Sm_a2 {G1 : Hp} {f : Nat → Int32} {t2' : Nat → Int} (h : Sm E G s w B t1 t2 ed) (k : sam E G G1 (ivl (s + 11) 1)) (hg : gt E G1 (s + 11) = some (cA 0 12 f)) (hf : ∀ k, k < 12 → f k = iv (t2' k)) : Sm E G1 s w B t1 t2' ed ∧ sam E G G1 (ivl s 12) := by
  obtain ⟨k1, ⟨g, k2, k3⟩, k4, ⟨f', k7, k8⟩, k5⟩ := h
  refine ⟨⟨(k.1 _ (by unfold ivl; omega)).trans k1, ⟨g, (k.1 _ (by unfold ivl; omega)).trans k2, k3⟩, fun n hn => ?_, ⟨f', (k.1 _ (by unfold ivl; omega)).trans k7, k8⟩, ⟨f, hg, hf⟩⟩, sam_mono k (fun a ha => by unfold ivl at ha ⊢; omega)⟩
  have := bp_in (s := s) (w := w) hn
  exact Tm_sam (k4 n hn) k (by unfold ivl; omega) (by unfold ivl; omega)
theorem c_tcLoop (h : Sm E G s w B t1 t2 ed) (hr : ∀ k, k < 12 → Rg (t1 k)) : ∀ (m i : Nat), 12 - i ≤ m → i ≤ 12 → P (some (.int (iv (tcn t1 12 : Nat)))) G → Xr E d x_X1_transitionCount 4 [some (.ref s), some (.int (iv (tcn t1 i : Nat))), some (.int (iv (i : Int)))] [] G P := by
  intro m
  induction m with
  | zero =>
    intro i hm hi hP
    refine g_X1_transitionCount_4 ?_
    rw [Sm_r1 h, Sm_l1 h]
    simp (disch := first | assumption | omega | decide) only [iv_le]
    rw [if_pos (by omega)]
    have : i = 12 := by omega
    subst this
    exact hP
  | succ m ih =>
    intro i hm hi hP
    refine g_X1_transitionCount_4 ?_
    rw [Sm_r1 h, Sm_l1 h]
    simp (disch := first | assumption | omega | decide) only [iv_le]
    by_cases c : (12 : Int) ≤ i
    · rw [if_pos c]
      have : i = 12 := by omega
      subst this
      exact hP
    · have hi2 : i < 12 := by omega
      have := hr i hi2
      rw [if_neg c, Sm_r1 h, Sm_g1 h hi2]
      simp (disch := first | assumption | omega | decide) only [iv_eq, i_s]
      have := ih (i + 1) (by omega) (by omega) hP
      unfold tcn at this
      by_cases c2 : t1 i = -1
      · rw [if_pos c2]
        rw [if_pos c2] at this
        exact this
      · rw [if_neg c2]
        rw [if_neg c2] at this
        exact this
theorem c_transitionCount (h : Sm E G s w B t1 t2 ed) (hr : ∀ k, k < 12 → Rg (t1 k)) : runs E (d + 1) i_X1_transitionCount [.ref s] G P = P (some (.int (iv (tcn t1 12 : Nat)))) G := by
  refine runs_one (fun P hP => e_X1_transitionCount ?_) P
  exact c_tcLoop h hr 12 0 (by omega) (by omega) hP
theorem c_rsLoop : ∀ (m n : Nat) (G1 : Hp) (B' : Nat → List Nat), 4 - n ≤ m → n ≤ 4 → (∀ j, j < n → B' j = [2]) → Sm E G1 s w B' t1 t2 ed → sam E G G1 (ivl s 12) → (∀ G2, Sm E G2 s w (fun _ => [2]) (fun _ => -1) (fun _ => -1) (ed + 1) → sam E G G2 (ivl s 12) → P none G2) → Xr E (d + 1) x_X1_reset 2 [some (.ref s), some (.int (iv (n : Int)))] [] G1 P := by
  intro m
  have fin : ∀ (n : Nat) (G1 : Hp) (B' : Nat → List Nat), 4 ≤ n → (∀ j, j < n → B' j = [2]) → Sm E G1 s w B' t1 t2 ed → sam E G G1 (ivl s 12) → (∀ G2, Sm E G2 s w (fun _ => [2]) (fun _ => -1) (fun _ => -1) (ed + 1) → sam E G G2 (ivl s 12) → P none G2) → qFR E G1 s 1 1 (fun v1 => (qCV E (d + 1) i_J7_fill_53178 [.ref v1, .int ((iv (-1)))] G1 fun G2 => (qFR E G2 s 1 2 fun v3 => (qCV E (d + 1) i_J7_fill_53178 [.ref v3, .int ((iv (-1)))] G2 fun G4 => (qFI E G4 s 1 3 fun v5 => (qP E G4 s 1 3 (.int ((v5 + (iv 1)))) fun G6 => P none G6)))))) := by
    intro n G1 B' hn hB h hs hP
    rw [Sm_r1 h]
    obtain ⟨f0, hf0, -⟩ := h.2.2.2.1
    refine u_V (c_fill (d := d) hf0 (by omega)) ?_
    rintro v G2 ⟨rfl, ⟨f', a1, a2⟩, a3⟩
    obtain ⟨p1, q1⟩ := Sm_a1 (t1' := fun _ => -1) h a3 a1 a2
    refine ⟨rfl, ?_⟩
    rw [Sm_r2 p1]
    obtain ⟨f0, hf0, -⟩ := p1.2.2.2.2
    refine u_V (c_fill (d := d) hf0 (by omega)) ?_
    rintro v G3 ⟨rfl, ⟨f', a1, a2⟩, a3⟩
    obtain ⟨p2, q2⟩ := Sm_a2 (t2' := fun _ => -1) p1 a3 a1 a2
    refine ⟨rfl, Sm_ee p2 ?_⟩
    intro G4 p3 q3
    exact hP G4 (Sm_cg p3 (fun n hn => hB n (by omega)) (fun _ _ => rfl) (fun _ _ => rfl)) (sam_tr hs (sam_tr q1 (sam_tr q2 q3)))
  induction m with
  | zero =>
    intro n G1 B' hm hn hB h hs hP
    refine g_X1_reset_2 ?_
    simp (disch := first | assumption | omega | decide) only [iv_le]
    rw [if_pos (by omega)]
    exact fin n G1 B' (by omega) hB h hs hP
  | succ m ih =>
    intro n G1 B' hm hn hB h hs hP
    refine g_X1_reset_2 ?_
    simp (disch := first | assumption | omega | decide) only [iv_le]
    by_cases c : (4 : Int) ≤ n
    · rw [if_pos c]
      exact fin n G1 B' (by omega) hB h hs hP
    · have hn4 : n < 4 := by omega
      have ht := h.2.2.1 n hn4
      rw [if_neg c, Sm_rb h, Sm_b h hn4, Tm_r ht]
      refine ⟨trivial, u_V (c_empty (d := d) ht) ?_⟩
      rintro v G2 ⟨rfl, a1, a2⟩
      obtain ⟨p1, q1⟩ := Sm_tm h hn4 a2 a1
      refine ⟨rfl, ?_⟩
      rw [Sm_rb p1, Sm_b p1 hn4, Tm_r a1]
      refine ⟨trivial, u_I (c_add (d := d) a1 (y := 2) (by decide)) ?_⟩
      rintro v G3 ⟨rfl, b1, b2⟩
      obtain ⟨p2, q2⟩ := Sm_tm p1 hn4 b2 b1
      refine ⟨_, rfl, ?_⟩
      rw [i_s]
      refine ih (n + 1) G3 _ (by omega) (by omega) ?_ p2 (sam_tr hs (sam_tr q1 q2)) hP
      intro j hj
      unfold upB
      by_cases c2 : j = n
      · rw [if_pos c2]
        rfl
      · rw [if_neg c2, if_neg c2]
        exact hB j (by omega)
theorem c_reset (h : Sm E G s w B t1 t2 ed) : runs E (d + 2) i_X1_reset [.ref s] G (fun v G1 => v = none ∧ Sm E G1 s w (fun _ => [2]) (fun _ => -1) (fun _ => -1) (ed + 1) ∧ sam E G G1 (ivl s 12)) := by
  refine e_X1_reset ?_
  exact c_rsLoop (G := G) 4 0 G B (by omega) (by omega) (fun j hj => absurd hj (Nat.not_lt_zero _)) h sam_rf (fun G2 a b => ⟨rfl, a, b⟩)
theorem c_bcLoop {s' : Nat} {w' : Bool} {Bo : Nat → List Nat} {u1 u2 : Nat → Int} {eo : Nat} (hne : s + 12 ≤ s' ∨ s' + 12 ≤ s) : ∀ (m n : Nat) (G1 : Hp) (B' : Nat → List Nat), 4 - n ≤ m → n ≤ 4 → (∀ j, j < n → B' j = Bo j) → Sm E G1 s w B' t1 t2 ed → Sm E G1 s' w' Bo u1 u2 eo → sam E G G1 (ivl s 12) → (∀ G2, Sm E G2 s w Bo u1 u2 (ed + 1) → sam E G G2 (ivl s 12) → P none G2) → Xr E (d + 2) x_X1_become 2 [some (.ref s), some (.ref s'), some (.int (iv (n : Int)))] [] G1 P := by
  intro m
  have fin : ∀ (n : Nat) (G1 : Hp) (B' : Nat → List Nat), 4 ≤ n → (∀ j, j < n → B' j = Bo j) → Sm E G1 s w B' t1 t2 ed → Sm E G1 s' w' Bo u1 u2 eo → sam E G G1 (ivl s 12) → (∀ G2, Sm E G2 s w Bo u1 u2 (ed + 1) → sam E G G2 (ivl s 12) → P none G2) → (qFR E G1 s' 1 1 fun v1 => (qFR E G1 s 1 1 fun v2 => (qFR E G1 s 1 1 fun v3 => (qL 1 E G1 v3 fun v4 => (qCp E G1 v1 (iv 0) v2 (iv 0) v4 fun G5 => (qFR E G5 s' 1 2 fun v6 => (qFR E G5 s 1 2 fun v7 => (qFR E G5 s 1 2 fun v8 => (qL 1 E G5 v8 fun v9 => (qCp E G5 v6 (iv 0) v7 (iv 0) v9 fun G10 => (qFI E G10 s 1 3 fun v11 => (qP E G10 s 1 3 (.int ((v11 + (iv 1)))) fun G12 => P none G12)))))))))))) := by
    intro n G1 B' hn hB h ho hs hP
    rw [Sm_r1 ho, Sm_r1 h, Sm_r1 h, Sm_l1 h]
    obtain ⟨f, a1, a2⟩ := ho.2.2.2.1
    obtain ⟨g, b1, b2⟩ := h.2.2.2.1
    rw [u_Cp a1 b1 (by omega) (fun i hi => rfl)]
    obtain ⟨p1, q1⟩ := Sm_a1 (t1' := u1) h (sam_st (c := cA 0 12 (va_cpy f g (0 : Int).toNat (0 : Int).toNat (12 : Int).toNat)) ⟨Nat.le_refl _, Nat.lt_succ_self _⟩) (gt_st_self (by rw [b1]; rfl)) (fun k hk => (cpy0 (n := 12) hk).trans (a2 k hk))
    have o1 := Sm_dis ho q1 (by omega)
    rw [Sm_r2 o1, Sm_r2 p1, Sm_r2 p1, Sm_l2 p1]
    obtain ⟨f, a1, a2⟩ := o1.2.2.2.2
    obtain ⟨g, b1, b2⟩ := p1.2.2.2.2
    rw [u_Cp a1 b1 (by omega) (fun i hi => rfl)]
    obtain ⟨p2, q2⟩ := Sm_a2 (t2' := u2) p1 (sam_st (c := cA 0 12 (va_cpy f g (0 : Int).toNat (0 : Int).toNat (12 : Int).toNat)) ⟨Nat.le_refl _, Nat.lt_succ_self _⟩) (gt_st_self (by rw [b1]; rfl)) (fun k hk => (cpy0 (n := 12) hk).trans (a2 k hk))
    refine Sm_ee p2 ?_
    intro G4 p3 q3
    exact hP G4 (Sm_cg p3 (fun n hn => hB n (by omega)) (fun _ _ => rfl) (fun _ _ => rfl)) (sam_tr hs (sam_tr q1 (sam_tr q2 q3)))
  induction m with
  | zero =>
    intro n G1 B' hm hn hB h ho hs hP
    refine g_X1_become_2 ?_
    simp (disch := first | assumption | omega | decide) only [iv_le]
    rw [if_pos (by omega)]
    exact fin n G1 B' (by omega) hB h ho hs hP
  | succ m ih =>
    intro n G1 B' hm hn hB h ho hs hP
    refine g_X1_become_2 ?_
    simp (disch := first | assumption | omega | decide) only [iv_le]
    by_cases c : (4 : Int) ≤ n
    · rw [if_pos c]
      exact fin n G1 B' (by omega) hB h ho hs hP
    · have hn4 : n < 4 := by omega
      have ht := h.2.2.1 n hn4
      have hto := ho.2.2.1 n hn4
      have i1 := bp_in (s := s) (w := w) hn4
      have i2 := bp_in (s := s') (w := w') hn4
      rw [if_neg c, Sm_rb h, Sm_b h hn4, Sm_rb ho, Sm_b ho hn4, Tm_r ht]
      refine ⟨trivial, u_V (c_become (d := d) ht hto (by omega) hto.2.2.1.1) ?_⟩
      rintro v G2 ⟨rfl, a1, a2⟩
      obtain ⟨p1, q1⟩ := Sm_tm h hn4 a2 a1
      refine ⟨rfl, ?_⟩
      rw [i_s]
      refine ih (n + 1) G2 _ (by omega) (by omega) ?_ p1 (Sm_dis ho q1 (by omega)) (sam_tr hs q1) hP
      intro j hj
      unfold upB
      by_cases c2 : j = n
      · rw [if_pos c2, c2]
      · rw [if_neg c2]
        exact hB j (by omega)
theorem c_Sbecome {s' : Nat} {w' : Bool} {Bo : Nat → List Nat} {u1 u2 : Nat → Int} {eo : Nat} (h : Sm E G s w B t1 t2 ed) (ho : Sm E G s' w' Bo u1 u2 eo) (hne : s + 12 ≤ s' ∨ s' + 12 ≤ s) : runs E (d + 3) i_X1_become [.ref s, .ref s'] G (fun v G1 => v = none ∧ Sm E G1 s w Bo u1 u2 (ed + 1) ∧ sam E G G1 (ivl s 12)) := by
  refine e_X1_become ?_
  exact c_bcLoop (G := G) hne 4 0 G B (by omega) (by omega) (fun j hj => absurd hj (Nat.not_lt_zero _)) h ho sam_rf (fun G2 a b => ⟨rfl, a, b⟩)
end SM2
