-- uses 41 42 43 44 45 46 47 48
/-! Scheme: exchange; History -/
section SM3
variable {E : Ev} {d : Nat} {G : Hp} {P : Po} {s : Nat} {w : Bool} {B : Nat → List Nat} {t1 t2 : Nat → Int} {ed : Nat}
theorem u_RS {k n a v c : Nat} {g : Nat → Option Nat} {fs : List Value} {i : Int} {F : Hp → Prop} (h : gt E G a = some (cR k n g)) (hk : k ≤ 1) (hi : (0 ≤ i ∧ i < n) ∧ n < 2147483648) (hv : gt E G v = some (cO c fs)) (hc : c = k + 1) : qRS E G a (iv i) v F = F (st E G a (cR k n (va_up g i.toNat (some v)))) := by
  have hr : Rg i := by constructor <;> omega
  subst hc
  simp only [qRS, h, hv, hk, true_and, iv_in hi.1 hi.2, not_false_iff, iv_cl hr]
/-- the first n bodies with F and G exchanged in them -/
def cnts (B : Nat → List Nat) : Nat → Nat
  | 0 => 0
  | n + 1 => cnts B n + cnt (B n)
theorem bp_sw {n : Nat} (hn : n < 4) : bp s (!w) n = bp s w (sw12 n) := by
  unfold bp sw12
  rcases (by omega : n = 0 ∨ n = 1 ∨ n = 2 ∨ n = 3) with rfl | rfl | rfl | rfl <;> cases w <;> rfl
theorem c_swfLoop : ∀ (m n : Nat) (G1 : Hp) (B' : Nat → List Nat), 4 - n ≤ m → n ≤ 4 → (∀ j, j < n → B' j = (B j).map swp) → (∀ j, n ≤ j → B' j = B j) → Sm E G1 s w B' t1 t2 ed → sam E G G1 (ivl s 12) → (∀ G2, Sm E G2 s (!w) (fun n => (B (sw12 n)).map swp) t1 t2 (ed + 1) → sam E G G2 (ivl s 12) → P (some (.int (iv (cnts B 4 : Nat)))) G2) → Xr E (d + 1) x_X1_swapFAndG 4 [some (.ref s), some (.int (iv (cnts B n : Nat))), some (.int (iv (n : Int)))] [] G1 P := by
  intro m
  have fin : ∀ (n : Nat) (G1 : Hp) (B' : Nat → List Nat), n = 4 → (∀ j, j < n → B' j = (B j).map swp) → Sm E G1 s w B' t1 t2 ed → sam E G G1 (ivl s 12) → (∀ G2, Sm E G2 s (!w) (fun n => (B (sw12 n)).map swp) t1 t2 (ed + 1) → sam E G G2 (ivl s 12) → P (some (.int (iv (cnts B 4 : Nat)))) G2) → (qFR E G1 s 1 0 fun v1 => (qRA E G1 v1 (iv 1) fun v2 => (qFR E G1 s 1 0 fun v3 => (qFR E G1 s 1 0 fun v4 => (qRA E G1 v4 (iv 2) fun v5 => (qRS E G1 v3 (iv 1) v5 fun G6 => (qFR E G6 s 1 0 fun v7 => (qRS E G6 v7 (iv 2) v2 fun G8 => (qFI E G8 s 1 3 fun v9 => (qP E G8 s 1 3 (.int ((v9 + (iv 1)))) fun G10 => P (some (.int (iv (cnts B n : Nat)))) G10)))))))))) := by
    intro n G1 B' hn hB h hs hP
    subst hn
    rw [Sm_rb h, show iv 1 = iv ((1 : Nat) : Int) from rfl, show iv 2 = iv ((2 : Nat) : Int) from rfl, Sm_b h (by decide), Sm_rb h, Sm_rb h, Sm_b h (by decide)]
    obtain ⟨k1, ⟨g, k2, k3⟩, k4, ⟨f, k5, k6⟩, ⟨f', k7, k8⟩⟩ := h
    have b1 := bp_in (s := s) (w := w) (n := 1) (by decide)
    have b2 := bp_in (s := s) (w := w) (n := 2) (by decide)
    rw [u_RS k2 (by decide) (by decide) (k4 2 (by decide)).1 rfl]
    have g1 : gt E (st E G1 (s + 1) (cR 1 4 (va_up g (((1 : Nat) : Int)).toNat (some (bp s w 2))))) (s + 1) = some (cR 1 4 (va_up g (((1 : Nat) : Int)).toNat (some (bp s w 2)))) := gt_st_self (by rw [k2]; rfl)
    rw [u_FR ((gt_st_ne (by omega)).trans k1) rfl, u_RS g1 (by decide) (by decide) ((gt_st_ne (by omega)).trans (k4 1 (by decide)).1) rfl]
    have s1 : sam E G1 (st E (st E G1 (s + 1) (cR 1 4 (va_up g (((1 : Nat) : Int)).toNat (some (bp s w 2))))) (s + 1) (cR 1 4 (va_up (va_up g (((1 : Nat) : Int)).toNat (some (bp s w 2))) (((2 : Nat) : Int)).toNat (some (bp s w 1))))) (ivl (s + 1) 1) := sam_s (sam_st ⟨by omega, by omega⟩) ⟨by omega, by omega⟩
    have hn : Sm E (st E (st E G1 (s + 1) (cR 1 4 (va_up g (((1 : Nat) : Int)).toNat (some (bp s w 2))))) (s + 1) (cR 1 4 (va_up (va_up g (((1 : Nat) : Int)).toNat (some (bp s w 2))) (((2 : Nat) : Int)).toNat (some (bp s w 1))))) s (!w) (fun n => (B (sw12 n)).map swp) t1 t2 ed := by
      refine ⟨(s1.1 _ (by unfold ivl; omega)).trans k1, ⟨_, gt_st_self (by rw [g1]; rfl), ?_⟩, ?_, ⟨f, (s1.1 _ (by unfold ivl; omega)).trans k5, k6⟩, ⟨f', (s1.1 _ (by unfold ivl; omega)).trans k7, k8⟩⟩
      · intro n hn
        rw [bp_sw hn]
        unfold va_up sw12
        rcases (by omega : n = 0 ∨ n = 1 ∨ n = 2 ∨ n = 3) with rfl | rfl | rfl | rfl
        · exact k3 0 (by decide)
        · rfl
        · rfl
        · exact k3 3 (by decide)
      · intro n hn
        rw [bp_sw hn]
        have hs4 : sw12 n < 4 := by
          unfold sw12
          split
          · omega
          · split <;> omega
        have := bp_in (s := s) (w := w) hs4
        show Tm _ _ _ _ ((B (sw12 n)).map swp)
        rw [← hB _ hs4]
        exact Tm_sam (k4 _ hs4) s1 (by unfold ivl; omega) (by unfold ivl; omega)
    refine Sm_ee hn ?_
    intro G4 p3 q3
    exact hP G4 p3 (sam_tr hs (sam_tr (sam_mono s1 (fun a ha => by unfold ivl at ha ⊢; omega)) q3))
  induction m with
  | zero =>
    intro n G1 B' hm hn hB hB2 h hs hP
    refine g_X1_swapFAndG_4 ?_
    simp (disch := first | assumption | omega | decide) only [iv_le]
    rw [if_pos (by omega)]
    exact fin n G1 B' (by omega) hB h hs hP
  | succ m ih =>
    intro n G1 B' hm hn hB hB2 h hs hP
    refine g_X1_swapFAndG_4 ?_
    simp (disch := first | assumption | omega | decide) only [iv_le]
    by_cases c : (4 : Int) ≤ n
    · rw [if_pos c]
      exact fin n G1 B' (by omega) hB h hs hP
    · have hn4 : n < 4 := by omega
      have ht := h.2.2.1 n hn4
      rw [if_neg c, Sm_rb h, Sm_b h hn4, Tm_r ht]
      refine ⟨trivial, u_I (c_swapSymbols (d := d) ht) ?_⟩
      rintro v G2 ⟨rfl, a1, a2⟩
      obtain ⟨p1, q1⟩ := Sm_tm h hn4 a2 a1
      refine ⟨_, rfl, ?_⟩
      have e1 : iv ((cnts B n : Nat) : Int) + iv ((cnt (B' n) : Nat) : Int) = iv ((cnts B (n + 1) : Nat) : Int) := by
        rw [hB2 n (Nat.le_refl _), iv_add]
        rfl
      rw [i_s, e1]
      refine ih (n + 1) G2 _ (by omega) (by omega) ?_ ?_ p1 (sam_tr hs q1) hP
      · intro j hj
        unfold upB
        by_cases c2 : j = n
        · rw [if_pos c2, c2, hB2 n (Nat.le_refl _)]
        · rw [if_neg c2]
          exact hB j (by omega)
      · intro j hj
        unfold upB
        rw [if_neg (by omega)]
        exact hB2 j (by omega)
theorem c_swapFAndG (h : Sm E G s w B t1 t2 ed) : runs E (d + 2) i_X1_swapFAndG [.ref s] G (fun v G1 => v = some (.int (iv (cnts B 4 : Nat))) ∧ Sm E G1 s (!w) (fun n => (B (sw12 n)).map swp) t1 t2 (ed + 1) ∧ sam E G G1 (ivl s 12)) := by
  refine e_X1_swapFAndG ?_
  exact c_swfLoop (G := G) 4 0 G B (by omega) (by omega) (fun j hj => absurd hj (Nat.not_lt_zero _)) (fun _ _ => rfl) h sam_rf (fun G2 a b => ⟨rfl, a, b⟩)
end SM3
/-! a scheme's state as one thing -/
abbrev Sc : Type := (Nat → List Nat) × (Nat → Int) × (Nat → Int)
def Sc.mk (x0 : (Nat → List Nat)) (x1 : (Nat → Int)) (x2 : (Nat → Int)) : Sc := (x0, x1, x2)
def Sc.b (z : Sc) : (Nat → List Nat) := z.1
def Sc.u (z : Sc) : (Nat → Int) := z.2.1
def Sc.v (z : Sc) : (Nat → Int) := z.2.2
theorem Sc_b {x0 : (Nat → List Nat)} {x1 : (Nat → Int)} {x2 : (Nat → Int)} : Sc.b (Sc.mk x0 x1 x2) = x0 := rfl
theorem Sc_u {x0 : (Nat → List Nat)} {x1 : (Nat → Int)} {x2 : (Nat → Int)} : Sc.u (Sc.mk x0 x1 x2) = x1 := rfl
theorem Sc_v {x0 : (Nat → List Nat)} {x1 : (Nat → Int)} {x2 : (Nat → Int)} : Sc.v (Sc.mk x0 x1 x2) = x2 := rfl
def Sx (E : Ev) (G : Hp) (s : Nat) (w : Bool) (S : Sc) (ed : Nat) : Prop := Sm E G s w S.b S.u S.v ed
/-- History at h: the ring at h + 1, its schemes at h + 2 + 12 i -/
def Hi (E : Ev) (G : Hp) (h : Nat) (R : Nat → Sc) (nx ct : Nat) : Prop :=
  gt E G h = some (cO 0 [.ref (h + 1), .int (iv (nx : Int)), .int (iv (ct : Int))]) ∧
  (∃ g, gt E G (h + 1) = some (cR 0 14 g) ∧ ∀ n, n < 14 → g n = some (h + 2 + 12 * n)) ∧
  (∀ n, n < 14 → ∃ e, Sx E G (h + 2 + 12 * n) false (R n) e) ∧ nx < 14 ∧ ct ≤ 14
section HI
variable {E : Ev} {d : Nat} {G : Hp} {P : Po} {h : Nat} {R : Nat → Sc} {nx ct : Nat}
theorem Hi_sam {G1 : Hp} {Q : Nat → Prop} (k : Hi E G h R nx ct) (m : sam E G G1 Q) (hr : ∀ a, h ≤ a → a < h + 170 → ¬ Q a) : Hi E G1 h R nx ct := by
  obtain ⟨k1, ⟨g, k2, k3⟩, k4, k5⟩ := k
  refine ⟨(m.1 _ (hr _ (by omega) (by omega))).trans k1, ⟨g, (m.1 _ (hr _ (by omega) (by omega))).trans k2, k3⟩, fun n hn => ?_, k5⟩
  obtain ⟨e, he⟩ := k4 n hn
  exact ⟨e, Sm_sam he m (fun a h1 h2 => hr a (by omega) (by omega))⟩
theorem Hi_dis {G1 : Hp} {lo n : Nat} (k : Hi E G h R nx ct) (m : sam E G G1 (ivl lo n)) (hr : h + 170 ≤ lo ∨ lo + n ≤ h) : Hi E G1 h R nx ct :=
  Hi_sam k m (fun a h1 h2 => by unfold ivl; omega)
theorem c_Hsize (k : Hi E G h R nx ct) : runs E (d + 1) i_X0_size [.ref h] G P = P (some (.int (iv (ct : Int)))) G := by
  refine runs_one (fun P hP => e_X0_size ?_) P
  rw [u_FI k.1 rfl]
  exact hP
theorem c_forget (k : Hi E G h R nx ct) : runs E (d + 1) i_X0_forget [.ref h] G (fun v G1 => v = none ∧ Hi E G1 h R nx 0 ∧ sam E G G1 (ivl h 170)) := by
  obtain ⟨k1, ⟨g, k2, k3⟩, k4, k5⟩ := k
  refine e_X0_forget ?_
  rw [u_P k1 (by simp)]
  have m : sam E G (st E G h (cO 0 [.ref (h + 1), .int (iv (nx : Int)), .int (iv 0)])) (ivl h 1) := sam_st ⟨Nat.le_refl _, by omega⟩
  refine ⟨rfl, ⟨gt_st_self (by rw [k1]; rfl), ⟨g, (gt_st_ne (by omega)).trans k2, k3⟩, fun n hn => ?_, k5.1, by omega⟩, sam_mono m (fun a ha => by unfold ivl at ha ⊢; omega)⟩
  obtain ⟨e, he⟩ := k4 n hn
  exact ⟨e, Sm_dis he m (by omega)⟩
def upR (R : Nat → Sc) (k : Nat) (z : Sc) : Nat → Sc := fun j => if j = k then z else R j
theorem c_remember {s ed : Nat} {w : Bool} {S : Sc} (k : Hi E G h R nx ct) (hs : Sx E G s w S ed) (hd : s + 12 ≤ h ∨ h + 170 ≤ s) : runs E (d + 4) i_X0_remember [.ref h, .ref s] G (fun v G1 => v = none ∧ Hi E G1 h (upR R nx S) ((nx + 1) % 14) (if ct < 14 then ct + 1 else 14) ∧ sam E G G1 (ivl h 170)) := by
  obtain ⟨k1, ⟨g, k2, k3⟩, k4, k5⟩ := k
  refine e_X0_remember ?_
  obtain ⟨e, he⟩ := k4 nx k5.1
  rw [u_FR k1 rfl, u_FI k1 rfl, u_RAn k2 (by decide) (by omega) (k3 nx k5.1), Sm_rc he]
  refine ⟨trivial, u_V (c_Sbecome (d := d) he hs (by omega)) ?_⟩
  rintro v G1 ⟨rfl, p1, q1⟩
  have j1 : gt E G1 h = _ := (q1.1 _ (by unfold ivl; omega)).trans k1
  refine ⟨rfl, ?_⟩
  rw [u_FI j1 rfl, u_P j1 (by simp)]
  have e1 : iv (nx : Int) + iv 1 - (iv (nx : Int) + iv 1) / iv 14 * iv 14 = iv (((nx + 1) % 14 : Nat) : Int) := by
    rw [i_s, iv_tmod (by omega) (by omega)]
    rfl
  rw [e1]
  simp only [List.set_cons_zero, List.set_cons_succ]
  have j2 : gt E (st E G1 h (cO 0 [.ref (h + 1), .int (iv (((nx + 1) % 14 : Nat) : Int)), .int (iv (ct : Int))])) h = some (cO 0 [.ref (h + 1), .int (iv (((nx + 1) % 14 : Nat) : Int)), .int (iv (ct : Int))]) := gt_st_self (by rw [j1]; rfl)
  rw [u_FI j2 rfl, u_P j2 (by simp)]
  have e2 : imin (iv (ct : Int) + iv 1) (iv 14) = iv (((if ct < 14 then ct + 1 else 14) : Nat) : Int) := by
    rw [i_s, iv_min (by constructor <;> omega) (by decide)]
    congr 1
    split <;> omega
  rw [e2]
  simp only [List.set_cons_zero, List.set_cons_succ]
  have m : sam E G1 (st E (st E G1 h (cO 0 [.ref (h + 1), .int (iv (((nx + 1) % 14 : Nat) : Int)), .int (iv (ct : Int))])) h (cO 0 [.ref (h + 1), .int (iv (((nx + 1) % 14 : Nat) : Int)), .int (iv (((if ct < 14 then ct + 1 else 14) : Nat) : Int))])) (ivl h 1) := sam_s (sam_st ⟨by omega, by omega⟩) ⟨by omega, by omega⟩
  refine ⟨by trivial, ⟨gt_st_self (by rw [j2]; rfl), ⟨g, (m.1 _ (by unfold ivl; omega)).trans ((q1.1 _ (by unfold ivl; omega)).trans k2), k3⟩, fun n hn => ?_, Nat.mod_lt _ (by decide), by split <;> omega⟩, sam_tr (sam_mono q1 (fun a ha => by unfold ivl at ha ⊢; omega)) (sam_mono m (fun a ha => by unfold ivl at ha ⊢; omega))⟩
  unfold upR
  by_cases c : n = nx
  · rw [if_pos c, c]
    exact ⟨_, Sm_dis p1 m (by omega)⟩
  · rw [if_neg c]
    obtain ⟨e', he'⟩ := k4 n hn
    exact ⟨e', Sm_dis (Sm_dis he' q1 (by omega)) m (by omega)⟩
theorem c_takeBack {s ed : Nat} {w : Bool} {S : Sc} (k : Hi E G h R nx ct) (hs : Sx E G s w S ed) (hd : s + 12 ≤ h ∨ h + 170 ≤ s) : runs E (d + 4) i_X0_takeBack [.ref h, .ref s] G (fun v G1 => v = some (.int (tf (ct ≠ 0))) ∧ (ct = 0 → G1 = G) ∧ (ct ≠ 0 → Hi E G1 h R ((nx + 13) % 14) (ct - 1) ∧ Sx E G1 s w (R ((nx + 13) % 14)) (ed + 1) ∧ sam E G G1 (fun a => ivl h 170 a ∨ ivl s 12 a))) := by
  obtain ⟨k1, ⟨g, k2, k3⟩, k4, k5⟩ := k
  refine e_X0_takeBack ?_
  rw [u_FI k1 rfl]
  simp (disch := first | assumption | omega | decide) only [iv_eq0]
  by_cases c : ct = 0
  · rw [if_neg (by omega)]
    exact ⟨by rw [tf_f (by omega)], fun _ => by trivial, fun z => absurd c z⟩
  rw [if_pos (by omega), u_FI k1 rfl, u_P k1 (by simp)]
  have e1 : (iv (nx : Int) + iv 14 - iv 1) - (iv (nx : Int) + iv 14 - iv 1) / iv 14 * iv 14 = iv (((nx + 13) % 14 : Nat) : Int) := by
    rw [iv_add, iv_sub, iv_tmod (by omega) (by omega)]
    congr 1
    omega
  rw [e1]
  simp only [List.set_cons_zero, List.set_cons_succ]
  have j2 : gt E (st E G h (cO 0 [.ref (h + 1), .int (iv (((nx + 13) % 14 : Nat) : Int)), .int (iv (ct : Int))])) h = some (cO 0 [.ref (h + 1), .int (iv (((nx + 13) % 14 : Nat) : Int)), .int (iv (ct : Int))]) := gt_st_self (by rw [k1]; rfl)
  rw [u_FI j2 rfl, u_P j2 (by simp)]
  have e2 : iv (ct : Int) - iv 1 = iv ((ct - 1 : Nat) : Int) := by
    rw [iv_sub]
    congr 1
    omega
  rw [e2]
  simp only [List.set_cons_zero, List.set_cons_succ]
  have m : sam E G (st E (st E G h (cO 0 [.ref (h + 1), .int (iv (((nx + 13) % 14 : Nat) : Int)), .int (iv (ct : Int))])) h (cO 0 [.ref (h + 1), .int (iv (((nx + 13) % 14 : Nat) : Int)), .int (iv ((ct - 1 : Nat) : Int))])) (ivl h 1) := sam_s (sam_st ⟨by omega, by omega⟩) ⟨by omega, by omega⟩
  have j3 : gt E (st E (st E G h (cO 0 [.ref (h + 1), .int (iv (((nx + 13) % 14 : Nat) : Int)), .int (iv (ct : Int))])) h (cO 0 [.ref (h + 1), .int (iv (((nx + 13) % 14 : Nat) : Int)), .int (iv ((ct - 1 : Nat) : Int))])) h = some (cO 0 [.ref (h + 1), .int (iv (((nx + 13) % 14 : Nat) : Int)), .int (iv ((ct - 1 : Nat) : Int))]) := gt_st_self (by rw [j2]; rfl)
  have hm : (nx + 13) % 14 < 14 := Nat.mod_lt _ (by decide)
  obtain ⟨e, he⟩ := k4 _ hm
  have hs1 := Sm_dis hs m (by omega)
  rw [u_FR j3 rfl, u_FI j3 rfl, u_RAn ((m.1 _ (by unfold ivl; omega)).trans k2) (by decide) (by omega) (k3 _ hm), Sm_rc hs1]
  refine ⟨trivial, u_V (c_Sbecome (d := d) hs1 (Sm_dis he m (by omega)) (by omega)) ?_⟩
  rintro v G2 ⟨rfl, p1, q1⟩
  refine ⟨rfl, by rw [tf_t c], fun z => absurd z c, fun _ => ⟨⟨(q1.1 _ (by unfold ivl; omega)).trans j3, ⟨g, (q1.1 _ (by unfold ivl; omega)).trans ((m.1 _ (by unfold ivl; omega)).trans k2), k3⟩, fun n hn => ?_, hm, by omega⟩, p1, ?_⟩⟩
  · obtain ⟨e', he'⟩ := k4 n hn
    exact ⟨e', Sm_dis (Sm_dis he' m (by omega)) q1 (by omega)⟩
  · exact sam_tr (sam_mono m (fun a ha => by unfold ivl at ha ⊢; omega)) (sam_mono q1 (fun a ha => by unfold ivl at ha ⊢; omega))
end HI
