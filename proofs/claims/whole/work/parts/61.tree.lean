-- uses 41 42 43 44 45 46 47 48 49 50 51 52 53 54 55 56 57 58 59 60
/-! the tree of the class -/
/-- an array of ints, by numbers -/
def AI (E : Ev) (G : Hp) (a N : Nat) (l : Nat → Int) : Prop := ∃ f, gt E G a = some (cA 0 N f) ∧ ∀ n, n < N → f n = iv (l n)
section AIS
variable {E : Ev} {G : Hp} {a N : Nat} {l : Nat → Int}
theorem AI_sam {G1 : Hp} {R : Nat → Prop} (h : AI E G a N l) (k : sam E G G1 R) (h1 : ¬ R a) : AI E G1 a N l := by
  obtain ⟨f, b, c⟩ := h
  exact ⟨f, (k.1 _ h1).trans b, c⟩
theorem AI_g {o i : Nat} {F : Int32 → Prop} (h : AI E G a N l) (hi : i < N ∧ N < 100000) : qIA o E G a (iv (i : Int)) F = F (iv (l i)) := by
  obtain ⟨f, b, c⟩ := h
  rw [u_IAn b (by omega), c i hi.1]
theorem AI_s {i : Nat} {z : Int} {F : Hp → Prop} (h : AI E G a N l) (hi : i < N ∧ N < 100000) (k : ∀ G1, AI E G1 a N (upI l i z) → sam E G G1 (ivl a 1) → F G1) : qIS E G a (iv (i : Int)) (iv z) F := by
  obtain ⟨f, b, c⟩ := h
  rw [u_ISn b (by omega)]
  refine k _ ⟨_, gt_st_self (by rw [b]; rfl), fun n hn => ?_⟩ (sam_st ⟨Nat.le_refl _, by omega⟩)
  unfold upd upI
  by_cases e : n = i
  · rw [if_pos e, if_pos e]
  · rw [if_neg e, if_neg e]
    exact c n hn
end AIS
abbrev LL : Type := (Nat → Int) × (Nat → Int)
def mrk (node acc : Nat) (r : Nat × List Nat) (L : LL) : LL := (upI L.1 node (if hd r.2 < 4 then (hd r.2 : Nat) else -2), upI L.2 node ((acc + r.1 : Nat) : Int))
def unl (U : Nat → List Nat → LL → LL) (node : Nat) (zs : List Nat) : Nat → Nat → Nat → LL → LL
  | 0, _, _, L => L
  | k + 1, c, st, L => unl U node zs k (c + 1) (st + eol 1 (zs.drop st)) (U (2 * node + c - 1) (slc zs st (st + eol 1 (zs.drop st))) L)
def unf (B : Nat → List Nat) : Nat → Nat → Nat → List Nat → LL → LL
  | 0, node, acc, xs, L => mrk node acc (evl B 40 xs) L
  | h + 1, node, acc, xs, L => if hd (evl B 40 xs).2 < 4 then unl (fun nd ys L => unf B h nd (acc + (evl B 40 xs).1) ys L) node (evl B 40 xs).2 (ar (hd (evl B 40 xs).2)) 1 1 (mrk node acc (evl B 40 xs) L) else mrk node acc (evl B 40 xs) L
/-- what unfold works on, from a depth on -/
def UP (E : Ev) (G : Hp) (t dp : Nat) (L : LL) : Prop := (∀ k, dp ≤ k → k < 7 → ∃ ws, Tm E G (t + 2 + 2 * k) 200 ws) ∧ (∃ ws, Tm E G (t + 16) 200 ws) ∧ AI E G (t + 18) 128 L.1 ∧ AI E G (t + 19) 128 L.2
theorem arg1 {zs : List Nat} {k st : Nat} (h : wfo (k + 1) (zs.drop st)) (hm : ∀ y ∈ zs, y < 8) (hl : zs.length ≤ 200) : okT (slc zs st (st + eol 1 (zs.drop st))) ∧ wfo k (zs.drop (st + eol 1 (zs.drop st))) ∧ st + eol 1 (zs.drop st) ≤ zs.length := by
  rw [Nat.add_comm] at h
  obtain ⟨a, b, e, h1, h2⟩ := wfo_spl _ _ _ h
  have e1 : eol 1 (zs.drop st) = a.length := by rw [e]; exact (eol_app a b 1 h1).1
  have e2 : slc zs st (st + a.length) = a := by
    unfold slc
    rw [e, Nat.add_sub_cancel_left, List.take_left]
  have e3 : zs.drop (st + a.length) = b := by
    rw [← List.drop_drop, e, List.drop_left]
  have hle := eol_le (zs.drop st) 1
  rw [List.length_drop] at hle
  have e4 : zs.length - st = a.length + b.length := by rw [← List.length_drop, e, List.length_append]
  have hapos : 0 < a.length := by
    cases a with
    | nil => exact h1.elim
    | cons x a => simp
  rw [e1, e2, e3]
  refine ⟨⟨h1, fun y hy => hm y (List.mem_of_mem_drop (i := st) (by rw [e]; exact List.mem_append_left _ hy)), by omega⟩, h2, by omega⟩
section UN
variable {E : Ev} {d : Nat} {P : Po} {t s : Nat} {w : Bool} {S : Sc} {ed : Nat} {se : Int}
abbrev rgU (t dp : Nat) : Nat → Prop := ivl (t + 2 + 2 * dp) (18 - 2 * dp)
theorem c_unL (hE : EK E) (hst : s + 12 ≤ t ∨ t + 21 ≤ s) {h dp node made : Nat} {U : Nat → List Nat → LL → LL} (hdp : dp + h + 1 = 6) (hnode : node < 2 ^ (dp + 1))
    (ih : ∀ (nd : Nat) (ys : List Nat) (G : Hp) (L : LL), nd < 2 ^ (dp + 2) → 1 ≤ nd → okT ys → TrO E G t s se → Sx E G s w S ed → UP E G t (dp + 1) L → Tm E G (t + 2 + 2 * (dp + 1)) 200 ys → runs E (d + 6) i_X4_unfold [.ref t, .int (iv (nd : Int)), .int (iv ((dp + 1 : Nat) : Int)), .int (iv (made : Int))] G (fun v G1 => v = none ∧ UP E G1 t (dp + 1) (U nd ys L) ∧ sam E G G1 (rgU t (dp + 1))))
    {zs : List Nat} (hz : ∀ y ∈ zs, y < 8) (hzl : zs.length ≤ 200) (hz4 : hd zs < 4) (h1n : 1 ≤ node) {z3 : Int32} {G : Hp} : ∀ (k c st : Nat) (G1 : Hp) (L : LL) (l9 : Option Value), c + k = ar (hd zs) + 1 → 1 ≤ c → wfo k (zs.drop st) → st ≤ zs.length → TrO E G1 t s se → Sx E G1 s w S ed → UP E G1 t dp L → Tm E G1 (t + 2 + 2 * dp) 200 zs → sam E G G1 (rgU t dp) → (∀ G2, UP E G2 t dp (unl U node zs k c st L) → sam E G G2 (rgU t dp) → P none G2) → Xr E (d + 6) x_X4_unfold 90 [some (.ref t), some (.int (iv (node : Int))), some (.int (iv (dp : Int))), some (.int z3), some (.ref (t + 2 + 2 * dp)), some (.int (iv (made : Int))), some (.int (iv ((hd zs : Nat) : Int))), some (.int (iv (st : Int))), some (.int (iv (c : Int))), l9] [] G1 P := by
  intro k
  have ha := ar_le (hd zs)
  induction k with
  | zero =>
    intro c st G1 L l9 hc hc1 hw hst0 hO hs hU hT hm hP
    refine g_X4_unfold_90 ?_
    rw [v_I (fun P => c_arN (d := d + 5) (P := P) hE.1 (show hd zs < 10 by omega))]
    simp (disch := first | assumption | omega | decide) only [iv_lt]
    rw [if_pos (by omega)]
    exact hP G1 hU hm
  | succ k ihk =>
    intro c st G1 L l9 hc hc1 hw hst0 hO hs hU hT hm hP
    obtain ⟨w1, w2, w3⟩ := arg1 hw hz hzl
    refine g_X4_unfold_90 ?_
    rw [v_I (fun P => c_arN (d := d + 5) (P := P) hE.1 (show hd zs < 10 by omega))]
    simp (disch := first | assumption | omega | decide) only [iv_lt]
    rw [if_neg (by omega), Tm_r hT]
    refine ⟨trivial, ?_⟩
    rw [v_I (fun P => c_endOf (d := d + 4) (P := P) hE.1 hT (show st ≤ 200 by omega))]
    obtain ⟨g, hg1, hg2⟩ := hO.2
    obtain ⟨ws, hW⟩ := hU.1 (dp + 1) (by omega) (by omega)
    rw [u_FR hO.1 rfl, i_s, u_RAn hg1 (by decide) (by omega) (hg2 (dp + 1) (by omega)), Tm_r hW]
    refine ⟨trivial, u_V (c_empty (d := d + 5) hW) ?_⟩
    rintro v G2 ⟨rfl, a1, a2⟩
    refine ⟨rfl, ?_⟩
    have hO2 := TrO_sam hO a2 (by unfold ivl; omega) (by unfold ivl; omega)
    have hs2 := Sm_dis hs a2 (by omega)
    have hT2 := Tm_sam hT a2 (by unfold ivl; omega) (by unfold ivl; omega)
    obtain ⟨g, hg1, hg2⟩ := hO2.2
    rw [u_FR hO2.1 rfl, u_RAn hg1 (by decide) (by omega) (hg2 (dp + 1) (by omega)), Tm_r a1]
    refine ⟨trivial, u_I (c_addPart (d := d + 5) a1 hT2 (by omega) (a := st) (b := ((st + eol 1 (zs.drop st) : Nat) : Int)) (by constructor <;> omega) (by constructor <;> omega) (by constructor <;> omega)) ?_⟩
    rintro v G3 ⟨rfl, b1, b2⟩
    refine ⟨_, rfl, ?_⟩
    have e9 : (0 ≤ (st : Int) ∧ (st : Int) ≤ ((st + eol 1 (zs.drop st) : Nat) : Int) ∧ ((st + eol 1 (zs.drop st) : Nat) : Int) ≤ zs.length ∧ ((st + eol 1 (zs.drop st) : Nat) : Int) - (st : Int) ≤ ((200 : Nat) : Int) - (([] : List Nat).length : Nat)) := by
      simp
      omega
    rw [if_pos e9] at b1
    simp only [List.nil_append, Int.toNat_natCast] at b1
    have hO3 := TrO_sam hO2 b2 (by unfold ivl; omega) (by unfold ivl; omega)
    have hs3 := Sm_dis hs2 b2 (by omega)
    have hT3 := Tm_sam hT2 b2 (by unfold ivl; omega) (by unfold ivl; omega)
    have m12 : sam E G1 G3 (ivl (t + 2 + 2 * (dp + 1)) 2) := sam_tr a2 b2
    have hU3 : UP E G3 t (dp + 1) L := by
      refine ⟨fun j hj1 hj2 => ?_, ?_, AI_sam hU.2.2.1 m12 (by unfold ivl; omega), AI_sam hU.2.2.2 m12 (by unfold ivl; omega)⟩
      · by_cases cj : j = dp + 1
        · subst cj
          exact ⟨_, b1⟩
        · obtain ⟨ws', q⟩ := hU.1 j (by omega) hj2
          exact ⟨ws', Tm_sam q m12 (by unfold ivl; omega) (by unfold ivl; omega)⟩
      · obtain ⟨ws', q⟩ := hU.2.1
        exact ⟨ws', Tm_sam q m12 (by unfold ivl; omega) (by unfold ivl; omega)⟩
    rw [v_I (fun P => c_childOf (d := d + 5) (P := P))]
    have en : 2 * (node : Int) + (c : Int) - 1 = ((2 * node + c - 1 : Nat) : Int) := by omega
    rw [en]
    have hp2 : 2 ^ (dp + 2) = 2 * 2 ^ (dp + 1) := by rw [Nat.pow_succ 2 (dp + 1)]; omega
    refine u_V (ih (2 * node + c - 1) _ G3 L (by omega) (by omega) w1 hO3 hs3 hU3 b1) ?_
    rintro v G4 ⟨rfl, c1, c2⟩
    refine ⟨rfl, ?_⟩
    have m34 : sam E G1 G4 (rgU t (dp + 1)) := sam_tr (sam_mono m12 (fun a ha => by unfold rgU ivl at *; omega)) c2
    have hT4 := Tm_sam hT m34 (by unfold rgU ivl; omega) (by unfold rgU ivl; omega)
    have hU4 : UP E G4 t dp (U (2 * node + c - 1) (slc zs st (st + eol 1 (zs.drop st))) L) := by
      refine ⟨fun j hj1 hj2 => ?_, c1.2⟩
      by_cases cj : j = dp
      · subst cj
        exact ⟨_, hT4⟩
      · exact c1.1 j (by omega) hj2
    simp only [i_s]
    exact ihk (c + 1) (st + eol 1 (zs.drop st)) G4 _ _ (by omega) (by omega) w2 w3 (TrO_sam hO m34 (by unfold rgU ivl; omega) (by unfold rgU ivl; omega)) (Sm_dis hs m34 (by omega)) hU4 hT4 (sam_tr hm (sam_mono m34 (fun a ha => by unfold rgU ivl at *; omega))) hP
set_option maxRecDepth 8000 in
theorem c_unfold (hE : EK E) (hst : s + 12 ≤ t ∨ t + 21 ≤ s) (hS : okS S) : ∀ (h d dp node acc : Nat) (xs : List Nat) (G : Hp) (L : LL), h ≤ d → dp + h = 6 → node < 2 ^ (dp + 1) → 1 ≤ node → okT xs → TrO E G t s se → Sx E G s w S ed → UP E G t dp L → Tm E G (t + 2 + 2 * dp) 200 xs → runs E (d + 6) i_X4_unfold [.ref t, .int (iv (node : Int)), .int (iv (dp : Int)), .int (iv (acc : Int))] G (fun v G1 => v = none ∧ UP E G1 t dp (unf S.b h node acc xs L) ∧ sam E G G1 (rgU t dp)) := by
  intro h
  induction h with
  | zero =>
    intro d dp node acc xs G L hdd hdp hnode hn1 hx hO hs hU hT
    have hd6 : dp = 6 := by omega
    subst hd6
    have hn128 : node < 128 := by
      have : (2 : Nat) ^ (6 + 1) = 128 := rfl
      omega
    refine e_X4_unfold ?_
    simp (disch := first | assumption | omega | decide) only [iv_lt]
    obtain ⟨g, hg1, hg2⟩ := hO.2
    rw [if_neg (by omega), if_pos (by omega), u_FR hO.1 rfl, u_RAn hg1 (by decide) (by omega) (hg2 6 (by omega)), u_rcv hO.1]
    refine ⟨trivial, ?_⟩
    obtain ⟨ws, hW⟩ := hU.2.1
    refine u_I (c_evaluate (d := d + 1) hE (by omega) hst hS hx hO hs hT hW) ?_
    rintro v G2 ⟨rfl, a1, ⟨ws2, a2⟩, a3⟩
    refine ⟨_, rfl, ?_⟩
    have hev := evl_ok hS.1 40 xs hx
    have hO2 := TrO_sam hO a3 (by unfold rgE ivl; omega) (by unfold rgE ivl; omega)
    rw [u_FR hO2.1 rfl]
    have e1 : iv (acc : Int) + iv (((evl S.b 40 xs).1 : Nat) : Int) = iv ((acc + (evl S.b 40 xs).1 : Nat) : Int) := by rw [iv_add]; rfl
    rw [e1]
    refine AI_s (AI_sam hU.2.2.2 a3 (by unfold rgE ivl; omega)) (by omega) ?_
    intro G3 b1 b2
    have a13 := Tm_sam a1 b2 (by unfold ivl; omega) (by unfold ivl; omega)
    rw [Tm_r a13]
    refine ⟨trivial, ?_⟩
    rw [show iv 0 = iv ((0 : Nat) : Int) from rfl, v_I (fun P => c_symN (d := d + 3) (P := P) a13 (okT_pos hev.1))]
    have hO3 := TrO_sam hO2 b2 (by unfold ivl; omega) (by unfold ivl; omega)
    have h8 := okT_hd hev.1
    have hhd : (evl S.b 40 xs).2.getD 0 0 = hd (evl S.b 40 xs).2 := rfl
    rw [hhd, u_FR hO3.1 rfl, v_I (fun P => c_isTerminal (d := d + 4) (P := P) (by constructor <;> omega))]
    simp only [tf_0]
    have l3 : AI E G3 (t + 18) 128 L.1 := AI_sam (AI_sam hU.2.2.1 a3 (by unfold rgE ivl; omega)) b2 (by unfold ivl; omega)
    have hTs : ∀ G4, sam E G3 G4 (ivl (t + 18) 1) → AI E G4 (t + 18) 128 (upI L.1 node (if hd (evl S.b 40 xs).2 < 4 then (hd (evl S.b 40 xs).2 : Nat) else -2)) → UP E G4 t 6 (unf S.b 0 node acc xs L) ∧ sam E G G4 (rgU t 6) := by
      intro G4 q1 q2
      refine ⟨⟨fun j hj1 hj2 => ?_, ⟨ws2, Tm_sam (Tm_sam a2 b2 (by unfold ivl; omega) (by unfold ivl; omega)) q1 (by unfold ivl; omega) (by unfold ivl; omega)⟩, q2, AI_sam b1 q1 (by unfold ivl; omega)⟩, ?_⟩
      · have : j = 6 := by omega
        subst this
        exact ⟨_, Tm_sam a13 q1 (by unfold ivl; omega) (by unfold ivl; omega)⟩
      · exact sam_tr (sam_mono a3 (fun a ha => by unfold rgE rgU ivl at *; omega)) (sam_tr (sam_mono b2 (fun a ha => by unfold rgU ivl at *; omega)) (sam_mono q1 (fun a ha => by unfold rgU ivl at *; omega)))
    by_cases c : hd (evl S.b 40 xs).2 < 4
    · rw [if_neg (by omega)]
      refine AI_s l3 (by omega) ?_
      intro G4 q1 q2
      rw [if_pos (by decide)]
      rw [if_pos c] at hTs
      exact ⟨by trivial, hTs G4 q2 q1⟩
    · rw [if_pos (by omega)]
      refine AI_s l3 (by omega) ?_
      intro G4 q1 q2
      rw [if_pos (by decide)]
      rw [if_neg c] at hTs
      exact ⟨by trivial, hTs G4 q2 q1⟩
  | succ h ih =>
    intro d dp node acc xs G L hdd hdp hnode hn1 hx hO hs hU hT
    obtain ⟨d, rfl⟩ : ∃ d', d = d' + 1 := ⟨d - 1, by omega⟩
    rw [show d + 1 + 6 = d + 7 by omega]
    have hp6 : 2 ^ (dp + 1) ≤ 2 ^ 6 := Nat.pow_le_pow_right (by decide) (by omega)
    have hn128 : node < 64 := by
      have : (2 : Nat) ^ 6 = 64 := rfl
      omega
    refine e_X4_unfold ?_
    simp (disch := first | assumption | omega | decide) only [iv_lt]
    obtain ⟨g, hg1, hg2⟩ := hO.2
    rw [if_neg (by omega), if_pos (by omega), u_FR hO.1 rfl, u_RAn hg1 (by decide) (by omega) (hg2 dp (by omega)), u_rcv hO.1]
    refine ⟨trivial, ?_⟩
    obtain ⟨ws, hW⟩ := hU.2.1
    refine u_I (c_evaluate (d := d + 2) hE (by omega) hst hS hx hO hs hT hW) ?_
    rintro v G2 ⟨rfl, a1, ⟨ws2, a2⟩, a3⟩
    refine ⟨_, rfl, ?_⟩
    have hev := evl_ok hS.1 40 xs hx
    have hO2 := TrO_sam hO a3 (by unfold rgE ivl; omega) (by unfold rgE ivl; omega)
    rw [u_FR hO2.1 rfl]
    have e1 : iv (acc : Int) + iv (((evl S.b 40 xs).1 : Nat) : Int) = iv ((acc + (evl S.b 40 xs).1 : Nat) : Int) := by rw [iv_add]; rfl
    rw [e1]
    refine AI_s (AI_sam hU.2.2.2 a3 (by unfold rgE ivl; omega)) (by omega) ?_
    intro G3 b1 b2
    have a13 := Tm_sam a1 b2 (by unfold ivl; omega) (by unfold ivl; omega)
    rw [Tm_r a13]
    refine ⟨trivial, ?_⟩
    rw [show iv 0 = iv ((0 : Nat) : Int) from rfl, v_I (fun P => c_symN (d := d + 4) (P := P) a13 (okT_pos hev.1))]
    have hO3 := TrO_sam hO2 b2 (by unfold ivl; omega) (by unfold ivl; omega)
    have h8 := okT_hd hev.1
    have hhd : (evl S.b 40 xs).2.getD 0 0 = hd (evl S.b 40 xs).2 := rfl
    rw [hhd, u_FR hO3.1 rfl, v_I (fun P => c_isTerminal (d := d + 5) (P := P) (by constructor <;> omega))]
    simp only [tf_0]
    have l3 : AI E G3 (t + 18) 128 L.1 := AI_sam (AI_sam hU.2.2.1 a3 (by unfold rgE ivl; omega)) b2 (by unfold ivl; omega)
    have m3 : sam E G G3 (rgU t dp) := sam_tr (sam_mono a3 (fun a ha => by unfold rgE rgU ivl at *; omega)) (sam_mono b2 (fun a ha => by unfold rgU ivl at *; omega))
    have hTs : ∀ G4, sam E G3 G4 (ivl (t + 18) 1) → AI E G4 (t + 18) 128 (upI L.1 node (if hd (evl S.b 40 xs).2 < 4 then (hd (evl S.b 40 xs).2 : Nat) else -2)) → UP E G4 t dp (mrk node acc (evl S.b 40 xs) L) ∧ sam E G G4 (rgU t dp) ∧ Tm E G4 (t + 2 + 2 * dp) 200 (evl S.b 40 xs).2 := by
      intro G4 q1 q2
      have m4 : sam E G G4 (rgU t dp) := sam_tr m3 (sam_mono q1 (fun a ha => by unfold rgU ivl at *; omega))
      have hT4 : Tm E G4 (t + 2 + 2 * dp) 200 (evl S.b 40 xs).2 := Tm_sam a13 q1 (by unfold ivl; omega) (by unfold ivl; omega)
      refine ⟨⟨fun j hj1 hj2 => ?_, ⟨ws2, Tm_sam (Tm_sam a2 b2 (by unfold ivl; omega) (by unfold ivl; omega)) q1 (by unfold ivl; omega) (by unfold ivl; omega)⟩, q2, AI_sam b1 q1 (by unfold ivl; omega)⟩, m4, hT4⟩
      by_cases cj : j = dp
      · subst cj
        exact ⟨_, hT4⟩
      · obtain ⟨ws', q⟩ := hU.1 j hj1 hj2
        exact ⟨ws', Tm_sam (Tm_sam (Tm_sam q a3 (by unfold rgE ivl; omega) (by unfold rgE ivl; omega)) b2 (by unfold ivl; omega) (by unfold ivl; omega)) q1 (by unfold ivl; omega) (by unfold ivl; omega)⟩
    unfold unf
    by_cases c : hd (evl S.b 40 xs).2 < 4
    · rw [if_neg (by omega), if_pos c]
      refine AI_s l3 (by omega) ?_
      intro G4 q1 q2
      rw [if_pos c] at hTs
      obtain ⟨u1, u2, u3⟩ := hTs G4 q2 q1
      simp (disch := first | assumption | omega | decide) only [iv_eq]
      rw [if_neg (by omega), v_I (fun P => c_isTerminal (d := d + 5) (P := P) (by constructor <;> omega))]
      simp only [tf_0, Classical.not_not]
      rw [if_pos (by omega)]
      have hwz : wfo (ar (hd (evl S.b 40 xs).2)) ((evl S.b 40 xs).2.drop 1) := by
        have w0 := hev.1.1
        have e0 := dropC (okT_pos hev.1)
        rw [List.drop_zero] at e0
        rw [e0] at w0
        have w1 : wfo (0 + ar (hd (evl S.b 40 xs).2)) ((evl S.b 40 xs).2.drop 1) := w0
        rw [Nat.zero_add] at w1
        exact w1
      have hln := okT_pos hev.1
      have := c_unL (d := d) (G := G) (P := fun v G1 => v = none ∧ UP E G1 t dp (unl (fun nd ys L => unf S.b h nd (acc + (evl S.b 40 xs).1) ys L) node (evl S.b 40 xs).2 (ar (hd (evl S.b 40 xs).2)) 1 1 (mrk node acc (evl S.b 40 xs) L)) ∧ sam E G G1 (rgU t dp)) (z3 := iv (acc : Int)) hE hst (by omega) hnode (fun nd ys G L i1 i2 i3 i4 i5 i6 i7 => ih d (dp + 1) nd (acc + (evl S.b 40 xs).1) ys G L (by omega) (by omega) i1 i2 i3 i4 i5 i6 i7) hev.1.2.1 hev.1.2.2 c hn1 (ar (hd (evl S.b 40 xs).2)) 1 1 G4 (mrk node acc (evl S.b 40 xs) L) none (by omega) (by omega) hwz (by omega) (TrO_sam hO u2 (by unfold rgU ivl; omega) (by unfold rgU ivl; omega)) (Sm_dis hs u2 (by omega)) u1 u3 u2 (fun G5 v1 v2 => ⟨rfl, v1, v2⟩)
      exact this
    · rw [if_pos (by omega), if_neg c]
      refine AI_s l3 (by omega) ?_
      intro G4 q1 q2
      rw [if_neg c] at hTs
      obtain ⟨u1, u2, u3⟩ := hTs G4 q2 q1
      simp (disch := first | assumption | omega | decide) only [iv_eq]
      rw [if_neg (by omega), v_I (fun P => c_isTerminal (d := d + 5) (P := P) (by constructor <;> omega))]
      simp only [tf_0, Classical.not_not]
      rw [if_neg (by omega)]
      exact ⟨by trivial, u1, u2⟩
end UN
