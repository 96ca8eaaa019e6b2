-- uses 41 42 43 44 45 46 47 48 49 50 51 52 53 54 58 69 70 71 72
/-! the class's type check: rounds, questions -/
def lsA (S : Sc) (T : Tb) : Nat → Bool
  | 0 => false
  | n + 1 => lsA S T n || lessN S T n (stn n)
theorem lsA_R {S : Sc} {T : Tb} : lsA S T 4 = lessR S T := by
  unfold lessR
  show ((((false || lessN S T 0 (stn 0)) || lessN S T 1 (stn 1)) || lessN S T 2 (stn 2)) || lessN S T 3 (stn 3)) = _
  rw [Bool.false_or]
theorem fl_0 {b : Bool} : iv (if b = true then 1 else 0) ||| iv 0 = iv (if b = true then 1 else 0) := by cases b <;> decide
theorem fl_1 {b : Bool} : iv (if b = true then 1 else 0) ||| iv 1 = iv 1 := by cases b <;> decide
section TF
variable {E : Ev} {d : Nat} {G : Hp} {P : Po} {c s : Nat} {w : Bool} {S : Sc} {T : Tb} {ed : Nat} {rm se : Int}
theorem kT1f {x : Nat} (h : x < 8) : fits (kT 1) (.int (iv (x : Int))) = true := iv_fit1 (by omega)
/-- the second part of a round: the justified rows are copied -/
theorem c_ru89 (hE : EK E) {T' : Tb} {fl : Bool} : ∀ (r n : Nat) (G1 : Hp) (l3 l4 l5 : Option Value), n + r = 4 → TcO E G1 c s rm se → TcT E G1 c S → (∀ k, k < 4 → AB E G1 (c + 11 + k) (stn k) (T' k)) → (∃ f, gt E G1 (c + 15) = some (cA 0 30 f)) → TcA E G1 c → (∀ k, k < n → AB E G1 (c + 6 + k) (stn k) (T' k)) → sam E G G1 (ivl (c + 6) 10) → (∀ G2, TcO E G2 c s rm se → TcT E G2 c S → TcN E G2 c T' → TcJ E G2 c → sam E G G2 (ivl (c + 6) 10) → P (some (.int (iv (if fl = true then 1 else 0)))) G2) → Xr E (d + 3) x_X5_removeUnjustified 89 [some (.ref c), some (.int (iv (if fl = true then 1 else 0))), some (.int (iv (n : Int))), l3, l4, l5] [] G1 P := by
  intro r
  induction r with
  | zero =>
    intro n G1 l3 l4 l5 hn hO hT hJ hst hA hN hm hP
    refine g_X5_removeUnjustified_89 ?_
    simp (disch := first | assumption | omega | decide) only [iv_le]
    rw [if_pos (by omega)]
    refine ⟨?_, hP G1 hO hT (fun k hk => hN k (by omega)) ⟨fun k hk => AB_z (hJ k hk), hst⟩ hm⟩
    cases fl
    · exact of_eq_true (iv_narZ (Or.inl rfl))
    · exact of_eq_true (iv_narZ (Or.inr rfl))
  | succ r ih =>
    intro n G1 l3 l4 l5 hn hO hT hJ hst hA hN hm hP
    refine g_X5_removeUnjustified_89 ?_
    simp (disch := first | assumption | omega | decide) only [iv_le]
    have hn4 : n < 4 := by omega
    have hv := (stn_v ⟨n, hn4⟩).2.2.2
    dsimp only [Sc_b, Sc_u, Sc_v, Md_len, Md_acts, Md_nxt, Md_ts, Md_bs, Md_lab, Md_xp, Md_sta, Md_tx, Md_nw, Md_tr, Md_rd, Md_di, Md_ke, Md_ik, Md_te, Md_bu, Md_va, Md_ju, Md_ma] at hv
    obtain ⟨f, f1, f2⟩ := hJ n hn4
    obtain ⟨g, g1, g2⟩ := hA (4 + n) (by omega)
    rw [if_neg (by omega), u_FR hO.1 rfl, u_jus hO hn4, u_out hO, i4, u_row hO (by omega), v_I (fun P => c_settingsOf (d := d) (P := P) hE hn4), u_Cp f1 g1 (by omega) (fun i hi => ?_), i_s]
    · have m2 : sam E G1 (st E G1 (c + 2 + (4 + n)) (cA 1 64 (va_cpy f g (Int.toNat 0) (Int.toNat 0) (Int.toNat ((stn n : Nat) : Int))))) (ivl (c + 6 + n) 1) := sam_st ⟨by omega, by omega⟩
      have hrow : ∀ i, i < stn n → va_cpy f g (Int.toNat 0) (Int.toNat 0) (Int.toNat ((stn n : Nat) : Int)) i = f i := fun i hi => cpy0 hi
      refine ih (n + 1) _ _ _ _ (by omega) (TcO_sam hO m2 (by unfold ivl; omega) (by unfold ivl; omega) (by unfold ivl; omega)) (TcT_sam hT m2 (fun a h1 h2 => by unfold ivl; omega)) (fun k hk => AB_sam (hJ k hk) m2 (by unfold ivl; omega)) ?_ ?_ ?_ (sam_tr hm (sam_mono m2 (fun a ha => by unfold ivl at *; omega))) hP
      · obtain ⟨h, hh⟩ := hst
        exact ⟨h, (m2.1 _ (by unfold ivl; omega)).trans hh⟩
      · intro k hk
        by_cases z : k = 4 + n
        · subst z
          exact ⟨_, gt_st_self (by rw [g1]; rfl), fun i hi => absurd hi (Nat.not_lt_zero _)⟩
        · exact AB_sam (hA k hk) m2 (by unfold ivl; omega)
      · intro k hk
        by_cases z : k = n
        · subst z
          refine ⟨_, by rw [show c + 6 + k = c + 2 + (4 + k) by omega]; exact gt_st_self (by rw [g1]; rfl), fun i hi => ?_⟩
          rw [hrow i hi]
          exact f2 i hi
        · exact AB_sam (hN k (by omega)) m2 (by unfold ivl; omega)
    · have h3 : i < stn n := by rw [Int.toNat_natCast] at hi; exact hi
      have h4 := f2 i h3
      have h5 : (0 : Int).toNat + i = i := Nat.zero_add i
      rw [h5, h4.1]
      exact kT1f h4.2
theorem c_ruL (hE : EK E) (hS : okS S) (hT8 : T8 T) (hcs : s + 12 ≤ c ∨ c + 16 ≤ s) : ∀ (r n : Nat) (G1 : Hp) (l3 l4 l5 : Option Value), n + r = 4 → TcO E G1 c s rm se → Sx E G1 s w S ed → TcT E G1 c S → TcN E G1 c T → TcJ E G1 c → (∀ k, k < n → AB E G1 (c + 11 + k) (stn k) (rnd S T k)) → sam E G G1 (ivl (c + 6) 10) → (∀ G2, TcO E G2 c s rm se → TcT E G2 c S → TcN E G2 c (rnd S T) → TcJ E G2 c → sam E G G2 (ivl (c + 6) 10) → P (some (.int (iv (if lessR S T = true then 1 else 0)))) G2) → Xr E (d + 3) x_X5_removeUnjustified 4 [some (.ref c), some (.int (iv (if lsA S T n = true then 1 else 0))), some (.int (iv (n : Int))), l3, l4, l5] [] G1 P := by
  intro r
  induction r with
  | zero =>
    intro n G1 l3 l4 l5 hn hO hs hT hN hJ hK hm hP
    have : n = 4 := by omega
    subst this
    refine g_X5_removeUnjustified_4 ?_
    rw [if_pos (by decide)]
    rw [← lsA_R] at hP
    exact c_ru89 (d := d) (G := G) hE 4 0 G1 _ _ _ (by omega) hO hT hK hJ.2 (TcA_of hT hN) (fun k hk => absurd hk (Nat.not_lt_zero _)) hm hP
  | succ r ih =>
    intro n G1 l3 l4 l5 hn hO hs hT hN hJ hK hm hP
    have hn4 : n < 4 := by omega
    have hv := (stn_v ⟨n, hn4⟩).2.2.2
    dsimp only [Sc_b, Sc_u, Sc_v, Md_len, Md_acts, Md_nxt, Md_ts, Md_bs, Md_lab, Md_xp, Md_sta, Md_tx, Md_nw, Md_tr, Md_rd, Md_di, Md_ke, Md_ik, Md_te, Md_bu, Md_va, Md_ju, Md_ma] at hv
    refine g_X5_removeUnjustified_4 ?_
    simp (disch := first | assumption | omega | decide) only [iv_le]
    rw [if_neg (by omega)]
    have inner : ∀ (q x : Nat) (G2 : Hp) (l4 l5 : Option Value), x + q = stn n → TcO E G2 c s rm se → Sx E G2 s w S ed → TcT E G2 c S → TcN E G2 c T → TcJ E G2 c → (∀ k, k < n → AB E G2 (c + 11 + k) (stn k) (rnd S T k)) → AB E G2 (c + 11 + n) x (rnd S T n) → sam E G G2 (ivl (c + 6) 10) → Xr E (d + 3) x_X5_removeUnjustified 11 [some (.ref c), some (.int (iv (if (lsA S T n || lessN S T n x) = true then 1 else 0))), some (.int (iv (n : Int))), some (.int (iv (x : Int))), l4, l5] [] G2 P := by
      intro q
      induction q with
      | zero =>
        intro x G2 l4 l5 hx hO hs hT hN hJ hK hR hm
        have : x = stn n := by omega
        subst this
        refine g_X5_removeUnjustified_11 ?_
        rw [v_I (fun P => c_settingsOf (d := d) (P := P) hE hn4)]
        simp (disch := first | assumption | omega | decide) only [iv_le]
        rw [if_pos (by omega), i_s]
        refine ih (n + 1) G2 _ _ _ (by omega) hO hs hT hN hJ ?_ hm hP
        intro k hk
        by_cases z : k = n
        · subst z; exact hR
        · exact hK k (by omega)
      | succ q ihq =>
        intro x G2 l4 l5 hx hO hs hT hN hJ hK hR hm
        refine g_X5_removeUnjustified_11 ?_
        rw [v_I (fun P => c_settingsOf (d := d) (P := P) hE hn4)]
        simp (disch := first | assumption | omega | decide) only [iv_le]
        have hNn := hN n hn4
        have hbp := bp_in (s := s) (w := w) hn4
        have hTb := hs.2.2.1 n hn4
        rw [if_neg (by omega), u_out hO, i4, u_row hO (by omega), show c + 2 + (4 + n) = c + 6 + n by omega, AB_g hNn (by omega), u_FR hO.1 rfl, Sm_rc hs]
        refine ⟨trivial, ?_⟩
        rw [v_R (fun P => c_body (d := d + 2) (P := P) hs hn4), u_rcv hO.1]
        refine ⟨trivial, u_I (c_bodyTypes (d := d) hE hT8 (show x < 64 by omega) (by omega) (hS.1 n hn4) hO hT hN hJ hTb) ?_⟩
        rintro v G3 ⟨rfl, a1, a2⟩
        refine ⟨_, rfl, ?_⟩
        have hO3 := TcO_sam hO a2 (by unfold ivl; omega) (by unfold ivl; omega) (by unfold ivl; omega)
        have h7 : T n x &&& bodyT S T n x < 8 := T8_rnd hT8 n x
        have eb : (tyS (smT S T x) (S.b n)).getD 0 0 = bodyT S T n x := rfl
        rw [eb, u_FR hO3.1 rfl, u_jus hO3 hn4, iv_and, iv_b8 (by omega)]
        refine AB_s (AB_sam hR a2 (by unfold ivl; omega)) (by omega) h7 ?_
        intro G4 b1 b2
        have m4 : sam E G2 G4 (ivl (c + 11) 5) := sam_tr (sam_mono a2 (fun a ha => by unfold ivl at *; omega)) (sam_mono b2 (fun a ha => by unfold ivl at *; omega))
        have hJ4 : TcJ E G4 c := by
          refine ⟨fun k hk => ?_, ?_⟩
          · by_cases z : k = n
            · subst z
              exact AB_z (b1 0 (fun _ => 0) (fun j hj => absurd hj (Nat.not_lt_zero _)) (fun h => absurd h (Nat.not_lt_zero _)))
            · exact AB_sam (AB_sam (hJ.1 k hk) a2 (by unfold ivl; omega)) b2 (by unfold ivl; omega)
          · obtain ⟨f, hf⟩ := a1
            exact ⟨f, (b2.1 _ (by unfold ivl; omega)).trans hf⟩
        have hR4 : AB E G4 (c + 11 + n) (x + 1) (rnd S T n) := b1 _ _ (fun j hj1 hj2 => ⟨by omega, rfl⟩) (fun _ => rfl)
        have hTx := hT8 n x
        have nx : ∀ l4 l5, Xr E (d + 3) x_X5_removeUnjustified 11 [some (.ref c), some (.int (iv (if (lsA S T n || lessN S T n (x + 1)) = true then 1 else 0))), some (.int (iv (n : Int))), some (.int (iv ((x + 1 : Nat) : Int))), l4, l5] [] G4 P := fun l4 l5 => ihq (x + 1) G4 l4 l5 (by omega) (TcO_sam hO m4 (by unfold ivl; omega) (by unfold ivl; omega) (by unfold ivl; omega)) (Sm_dis hs m4 (by omega)) (TcT_sam hT m4 (fun a h1 h2 => by unfold ivl; omega)) (TcN_sam hN m4 (fun a h1 h2 => by unfold ivl; omega)) hJ4 (fun k hk => AB_sam (AB_sam (hK k hk) a2 (by unfold ivl; omega)) b2 (by unfold ivl; omega)) hR4 (sam_tr hm (sam_mono m4 (fun a ha => by unfold ivl at *; omega)))
        have el : lessN S T n (x + 1) = (lessN S T n x || decide (rnd S T n x ≠ T n x)) := rfl
        have er : rnd S T n x = T n x &&& bodyT S T n x := rfl
        rw [el, er, ← Bool.or_assoc] at nx
        simp (disch := first | assumption | omega | decide) only [iv_eq, i_s]
        by_cases cz : T n x &&& bodyT S T n x = T n x
        · rw [if_pos (by omega), fl_0]
          have e0 : decide (T n x &&& bodyT S T n x ≠ T n x) = false := by simp [cz]
          rw [e0, Bool.or_false] at nx
          exact nx _ _
        · rw [if_neg (by omega), fl_1]
          have e0 : decide (T n x &&& bodyT S T n x ≠ T n x) = true := by simp [cz]
          rw [e0, Bool.or_true] at nx
          exact nx _ _
    have := inner (stn n) 0 G1 l4 l5 (by omega) hO hs hT hN hJ hK (by
      obtain ⟨f, a, b⟩ := hJ.1 n hn4
      exact ⟨f, a, fun i hi => absurd hi (Nat.not_lt_zero _)⟩) hm
    have e0 : lessN S T n 0 = false := rfl
    rw [e0, Bool.or_false] at this
    exact this
theorem c_removeUnjustified (hE : EK E) (hS : okS S) (hT8 : T8 T) (hcs : s + 12 ≤ c ∨ c + 16 ≤ s) (hO : TcO E G c s rm se) (hs : Sx E G s w S ed) (hT : TcT E G c S) (hN : TcN E G c T) (hJ : TcJ E G c) : runs E (d + 4) i_X5_removeUnjustified [.ref c] G (fun v G1 => v = some (.int (iv (if lessR S T = true then 1 else 0))) ∧ TcO E G1 c s rm se ∧ TcT E G1 c S ∧ TcN E G1 c (rnd S T) ∧ TcJ E G1 c ∧ sam E G G1 (ivl (c + 6) 10)) := by
  refine e_X5_removeUnjustified ?_
  exact c_ruL (G := G) hE hS hT8 hcs 4 0 G none none none (by omega) hO hs hT hN hJ (fun k hk => absurd hk (Nat.not_lt_zero _)) sam_rf (fun G2 a b c d e => ⟨rfl, a, b, c, d, e⟩)
/-- the whole object -/
def Ty (E : Ev) (G : Hp) (c s : Nat) (S : Sc) (T : Tb) (rm se : Int) : Prop := TcO E G c s rm se ∧ TcT E G c S ∧ TcN E G c T ∧ TcJ E G c
def Yfr (E : Ev) (G : Hp) (c s : Nat) (S : Sc) (ed : Nat) : Prop := Ty E G c s S (chk S 244 T7).2 ((chk S 244 T7).1 : Nat) (ed : Int)
def Yok (E : Ev) (G : Hp) (c s : Nat) (S : Sc) (ed : Nat) : Prop := Yfr E G c s S ed ∨ ∃ se rm, (TcO E G c s rm se ∧ TcA E G c ∧ TcJ E G c) ∧ -1 ≤ se ∧ se < ed
theorem Ty_sam {G1 : Hp} {R : Nat → Prop} (h : Ty E G c s S T rm se) (k : sam E G G1 R) (hr : ∀ a, c ≤ a → a < c + 16 → ¬ R a) : Ty E G1 c s S T rm se :=
  ⟨TcO_sam h.1 k (hr _ (by omega) (by omega)) (hr _ (by omega) (by omega)) (hr _ (by omega) (by omega)), TcT_sam h.2.1 k (fun a h1 h2 => hr a (by omega) (by omega)), TcN_sam h.2.2.1 k (fun a h1 h2 => hr a (by omega) (by omega)), TcJ_sam h.2.2.2 k (fun a h1 h2 => hr a (by omega) (by omega))⟩
theorem Yok_sam {G1 : Hp} {R : Nat → Prop} (h : Yok E G c s S ed) (k : sam E G G1 R) (hr : ∀ a, c ≤ a → a < c + 16 → ¬ R a) : Yok E G1 c s S ed := by
  rcases h with h | ⟨se, rm, ⟨h1, h2, h3⟩, h4⟩
  · exact Or.inl (Ty_sam h k hr)
  · exact Or.inr ⟨se, rm, ⟨TcO_sam h1 k (hr _ (by omega) (by omega)) (hr _ (by omega) (by omega)) (hr _ (by omega) (by omega)), TcA_sam h2 k (fun a h1 h2 => hr a (by omega) (by omega)), TcJ_sam h3 k (fun a h1 h2 => hr a (by omega) (by omega))⟩, h4⟩
theorem Yok_new {S' : Sc} (h : Yok E G c s S ed) {e' : Nat} (he : ed < e') : Yok E G c s S' e' := by
  rcases h with h | ⟨se, rm, h1, h2⟩
  · exact Or.inr ⟨_, _, ⟨h.1, TcA_of h.2.1 h.2.2.1, h.2.2.2⟩, by omega, by omega⟩
  · exact Or.inr ⟨se, rm, h1, by omega, by omega⟩
/-- a field of the object is written -/
theorem TcO_p {rm' se' : Int} {G1 : Hp} (hO : TcO E G c s rm se) (h : G1 = st E G c (cO 5 [.ref s, .ref (c + 1), .ref (c + 10), .ref (c + 15), .int (iv rm'), .int (iv se')])) : TcO E G1 c s rm' se' ∧ sam E G G1 (ivl c 1) := by
  subst h
  obtain ⟨a, ⟨g, b, e⟩, ⟨g', b', e'⟩⟩ := hO
  exact ⟨⟨gt_st_self (by rw [a]; rfl), ⟨g, (gt_st_ne (by omega)).trans b, e⟩, ⟨g', (gt_st_ne (by omega)).trans b', e'⟩⟩, sam_st ⟨Nat.le_refl _, by omega⟩⟩
theorem c_tuL (hE : EK E) (hS : okS S) (hcs : s + 12 ≤ c ∨ c + 16 ≤ s) : ∀ (k : Nat) (T : Tb) (G1 : Hp), k ≤ 244 → T8 T → Ty E G1 c s S T ((244 - k : Nat) : Int) se → Sx E G1 s w S ed → sam E G G1 (ivl c 16) → (∀ G2, Ty E G2 c s S (chk S k T).2 ((244 - k + (chk S k T).1 : Nat) : Int) (ed : Int) → sam E G G2 (ivl c 16) → P (some (.ref c)) G2) → Xr E (d + 4) x_X5_upToDate 25 [some (.ref c), some (.int (iv 1))] [] G1 P := by
  intro k
  -- the end: the edits are noted
  have fin : ∀ (T : Tb) (rm : Int) (G1 : Hp), Ty E G1 c s S T rm se → Sx E G1 s w S ed → sam E G G1 (ivl c 16) → (∀ G2, Ty E G2 c s S T rm (ed : Int) → sam E G G2 (ivl c 16) → P (some (.ref c)) G2) → (qFR E G1 c 5 0 fun v1 => (rcv E G1 v1 1 = true ∧ (qCI E (d + 4) i_X1_edits [.ref v1] G1 fun v3 G2 => (qP E G2 c 5 5 (.int v3) fun G4 => P (some (.ref c)) G4)))) := by
    intro T rm G1 hY hs hm hP
    rw [u_FR hY.1.1 rfl, Sm_rc hs]
    refine ⟨trivial, ?_⟩
    rw [v_I (fun P => c_edits (d := d + 3) (P := P) hs), u_P hY.1.1 (by simp)]
    obtain ⟨q1, q2⟩ := TcO_p (rm' := rm) (se' := (ed : Int)) hY.1 rfl
    exact hP _ ⟨q1, TcT_sam hY.2.1 q2 (fun a h1 h2 => by unfold ivl; omega), TcN_sam hY.2.2.1 q2 (fun a h1 h2 => by unfold ivl; omega), TcJ_sam hY.2.2.2 q2 (fun a h1 h2 => by unfold ivl; omega)⟩ (sam_tr hm (sam_mono q2 (fun a ha => by unfold ivl at *; omega)))
  induction k with
  | zero =>
    intro T G1 hk hT8 hY hs hm hP
    refine g_X5_upToDate_25 ?_
    rw [if_neg (by decide), u_FI hY.1.1 rfl, if_pos (by decide)]
    exact fin T _ G1 hY hs hm hP
  | succ k ih =>
    intro T G1 hk hT8 hY hs hm hP
    refine g_X5_upToDate_25 ?_
    rw [if_neg (by decide), u_FI hY.1.1 rfl]
    simp (disch := first | assumption | omega | decide) only [iv_lt]
    rw [if_neg (by omega), u_rcv hY.1.1]
    refine ⟨trivial, u_I (c_removeUnjustified (d := d) hE hS hT8 hcs hY.1 hs hY.2.1 hY.2.2.1 hY.2.2.2) ?_⟩
    rintro v G2 ⟨rfl, a1, a2, a3, a4, a5⟩
    refine ⟨_, rfl, ?_⟩
    have ek : 244 - (k + 1) + 1 = 244 - k := by omega
    rw [u_FI a1.1 rfl, i_s, ek, u_P a1.1 (by simp)]
    obtain ⟨q1, q2⟩ := TcO_p (rm' := ((244 - k : Nat) : Int)) (se' := se) a1 rfl
    have hY3 : Ty E _ c s S (rnd S T) ((244 - k : Nat) : Int) se := ⟨q1, TcT_sam a2 q2 (fun a h1 h2 => by unfold ivl; omega), TcN_sam a3 q2 (fun a h1 h2 => by unfold ivl; omega), TcJ_sam a4 q2 (fun a h1 h2 => by unfold ivl; omega)⟩
    have hs3 := Sm_dis (Sm_dis hs a5 (by omega)) q2 (by omega)
    have m3 := sam_tr hm (sam_tr (sam_mono a5 (fun a ha => by unfold ivl at *; omega)) (sam_mono q2 (fun a ha => by unfold ivl at *; omega)))
    unfold chk at hP
    by_cases cl : lessR S T = true
    · rw [if_pos cl]
      simp only [if_pos cl] at hP
      refine ih (rnd S T) _ (by omega) (T8_rnd hT8) hY3 hs3 m3 ?_
      intro G5 h1 h2
      rw [show 244 - k + (chk S k (rnd S T)).1 = 244 - (k + 1) + ((chk S k (rnd S T)).1 + 1) by omega] at h1
      exact hP G5 h1 h2
    · rw [if_neg cl]
      simp only [if_neg cl, ek] at hP
      refine g_X5_upToDate_25 ?_
      rw [if_pos (by decide)]
      exact fin (rnd S T) _ _ hY3 hs3 m3 hP
theorem c_typesUp (hE : EK E) (hS : okS S) (hcs : s + 12 ≤ c ∨ c + 16 ≤ s) (hed : ed ≤ 2000000) (hY : Yok E G c s S ed) (hs : Sx E G s w S ed) : runs E (d + 5) i_X5_upToDate [.ref c] G (fun v G1 => v = some (.ref c) ∧ Yfr E G1 c s S ed ∧ sam E G G1 (ivl c 16)) := by
  refine e_X5_upToDate ?_
  rcases hY with hY | ⟨se, rm, ⟨hO, hA, hJ⟩, hse⟩
  · rw [u_FI hY.1.1 rfl, u_FR hY.1.1 rfl, Sm_rc hs]
    refine ⟨trivial, ?_⟩
    rw [v_I (fun P => c_edits (d := d + 3) (P := P) hs), if_pos rfl]
    exact ⟨rfl, hY, sam_rf⟩
  · rw [u_FI hO.1 rfl, u_FR hO.1 rfl, Sm_rc hs]
    refine ⟨trivial, ?_⟩
    rw [v_I (fun P => c_edits (d := d + 3) (P := P) hs)]
    simp (disch := first | assumption | omega | decide) only [iv_eq]
    rw [if_neg (by omega), u_rcv hO.1]
    refine ⟨trivial, u_V (c_start (d := d) hE hS hcs hO hs hA hJ) ?_⟩
    rintro v G1 ⟨rfl, a1, a2, a3, a4, a5⟩
    refine ⟨rfl, ?_⟩
    rw [u_P a1.1 (by simp)]
    obtain ⟨q1, q2⟩ := TcO_p (rm' := ((244 - 244 : Nat) : Int)) (se' := se) a1 rfl
    refine c_tuL (G := G) (ed := ed) hE hS hcs 244 T7 _ (Nat.le_refl _) T8_7 ⟨q1, TcT_sam a2 q2 (fun a h1 h2 => by unfold ivl; omega), TcN_sam a3 q2 (fun a h1 h2 => by unfold ivl; omega), TcJ_sam a4 q2 (fun a h1 h2 => by unfold ivl; omega)⟩ (Sm_dis (Sm_dis hs a5 (by omega)) q2 (by omega)) (sam_tr (sam_mono a5 (fun a ha => by unfold ivl at *; omega)) (sam_mono q2 (fun a ha => by unfold ivl at *; omega))) ?_
    intro G2 h1 h2
    rw [show 244 - 244 + (chk S 244 T7).1 = (chk S 244 T7).1 by omega] at h1
    exact ⟨rfl, h1, h2⟩
end TF
