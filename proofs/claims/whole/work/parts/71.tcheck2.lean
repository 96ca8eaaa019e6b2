-- uses 41 42 43 44 45 46 47 48 49 50 51 52 53 54 58 69 70
/-! the class's type check: start, bodies -/
section TD
variable {E : Ev} {d : Nat} {G : Hp} {P : Po} {c s : Nat} {w : Bool} {S : Sc} {T : Tb} {ed : Nat} {rm se : Int}
theorem AB_z {a N : Nat} {l : Nat → Nat} (h : AB E G a N l) : AB E G a 0 (fun _ => 0) := by
  obtain ⟨f, b, e⟩ := h
  exact ⟨f, b, fun i hi => absurd hi (Nat.not_lt_zero _)⟩
def TcA (E : Ev) (G : Hp) (c : Nat) : Prop := ∀ k, k < 8 → AB E G (c + 2 + k) 0 (fun _ => 0)
theorem TcA_sam {G1 : Hp} {R : Nat → Prop} (h : TcA E G c) (k : sam E G G1 R) (hr : ∀ a, c + 2 ≤ a → a < c + 10 → ¬ R a) : TcA E G1 c := fun t ht => AB_sam (h t ht) k (hr _ (by omega) (by omega))
theorem TcA_of (h1 : TcT E G c S) (h2 : TcN E G c T) : TcA E G c := by
  intro k hk
  by_cases z : k < 4
  · exact AB_z (h1 k z)
  · have := AB_z (h2 (k - 4) (by omega))
    rw [show c + 6 + (k - 4) = c + 2 + k by omega] at this
    exact this
theorem u_out (hO : TcO E G c s rm se) {F : Nat → Prop} : qFR E G c 5 1 F = F (c + 1) := u_FR hO.1 rfl
theorem u_row (hO : TcO E G c s rm se) {F : Nat → Prop} {k : Nat} (hk : k < 8) : qRA E G (c + 1) (iv (k : Int)) F = F (c + 2 + k) := by
  obtain ⟨g, a, b⟩ := hO.2.1
  exact u_RAn a (by decide) (by omega) (b k hk)
theorem u_jus (hO : TcO E G c s rm se) {F : Nat → Prop} {k : Nat} (hk : k < 4) : qRA E G (c + 10) (iv (k : Int)) F = F (c + 11 + k) := by
  obtain ⟨g, a, b⟩ := hO.2.2
  exact u_RAn a (by decide) (by omega) (b k hk)
theorem i4 {n : Nat} : iv 4 + iv (n : Int) = iv ((4 + n : Nat) : Int) := by rw [iv_add]; rfl
/-- the nonterminals' rows get all states -/
theorem c_st44 {l2 : Option Value} : ∀ (r n : Nat) (G1 : Hp), n + r = 4 → TcO E G1 c s rm se → TcA E G1 c → TcT E G1 c S → TcJ E G1 c → (∀ k, k < n → AB E G1 (c + 6 + k) (stn k) (T7 k)) → sam E G G1 (ivl (c + 2) 8) → (∀ G2, TcO E G2 c s rm se → TcT E G2 c S → TcN E G2 c T7 → TcJ E G2 c → sam E G G2 (ivl (c + 2) 8) → P none G2) → Xr E (d + 1) x_X5_start 44 [some (.ref c), some (.int (iv (n : Int))), l2] [] G1 P := by
  intro r
  induction r with
  | zero =>
    intro n G1 hn hO hA hT hJ hN hm hP
    refine g_X5_start_44 ?_
    simp (disch := first | assumption | omega | decide) only [iv_le]
    rw [if_pos (by omega)]
    exact hP G1 hO hT (fun k hk => hN k (by omega)) hJ hm
  | succ r ih =>
    intro n G1 hn hO hA hT hJ hN hm hP
    refine g_X5_start_44 ?_
    simp (disch := first | assumption | omega | decide) only [iv_le]
    have h4 := hA (4 + n) (by omega)
    obtain ⟨f, hf1, hf2⟩ := h4
    rw [if_neg (by omega), u_out hO, i4, u_row hO (by omega)]
    refine u_V (c_fillB (d := d) (z := 7) (Or.inl rfl) (iv_nar1 (by decide)) hf1 (by decide)) ?_
    rintro v G2 ⟨rfl, ⟨f', a1, a2⟩, a3⟩
    refine ⟨rfl, ?_⟩
    rw [i_s]
    have hst := (stn_v ⟨n, by omega⟩).2.2.2.1
    dsimp only [Sc_b, Sc_u, Sc_v, Md_len, Md_acts, Md_nxt, Md_ts, Md_bs, Md_lab, Md_xp, Md_sta, Md_tx, Md_nw, Md_tr, Md_rd, Md_di, Md_ke, Md_ik, Md_te, Md_bu, Md_va, Md_ju, Md_ma] at hst
    refine ih (n + 1) G2 (by omega) (TcO_sam hO a3 (by unfold ivl; omega) (by unfold ivl; omega) (by unfold ivl; omega)) ?_ (TcT_sam hT a3 (fun a h1 h2 => by unfold ivl; omega)) (TcJ_sam hJ a3 (fun a h1 h2 => by unfold ivl; omega)) ?_ (sam_tr hm (sam_mono a3 (fun a ha => by unfold ivl at *; omega))) hP
    · intro k hk
      by_cases z : k = 4 + n
      · subst z
        exact ⟨f', a1, fun i hi => absurd hi (Nat.not_lt_zero _)⟩
      · exact AB_sam (hA k hk) a3 (by unfold ivl; omega)
    · intro k hk
      by_cases z : k = n
      · subst z
        refine ⟨f', by rw [show c + 6 + k = c + 2 + (4 + k) by omega]; exact a1, fun i hi => ⟨a2 i (by omega), by show 7 < 8; decide⟩⟩
      · exact AB_sam (hN k (by omega)) a3 (by unfold ivl; omega)
theorem tmT_b {S : Sc} {t a1 a2 : Nat} : (iv ((tmT S t a1 a2 : Nat) : Int)).toInt8.toInt32 = iv ((tmT S t a1 a2 : Nat) : Int) := iv_b8 (by have := tmT_lt (S := S) (t := t) (a1 := a1) (a2 := a2); omega)
theorem c_stL (hE : EK E) (hS : okS S) (hcs : s + 12 ≤ c ∨ c + 16 ≤ s) : ∀ (r t : Nat) (G1 : Hp) (l2 : Option Value), t + r = 4 → TcO E G1 c s rm se → Sx E G1 s w S ed → TcA E G1 c → TcJ E G1 c → (∀ k, k < t → AB E G1 (c + 2 + k) 64 (fun i => tmT S k (i % 8) (i / 8))) → sam E G G1 (ivl (c + 2) 8) → (∀ G2, TcO E G2 c s rm se → TcT E G2 c S → TcN E G2 c T7 → TcJ E G2 c → sam E G G2 (ivl (c + 2) 8) → P none G2) → Xr E (d + 3) x_X5_start 2 [some (.ref c), some (.int (iv (t : Int))), l2] [] G1 P := by
  intro r
  induction r with
  | zero =>
    intro t G1 l2 ht hO hs hA hJ hK hm hP
    refine g_X5_start_2 ?_
    simp (disch := first | assumption | omega | decide) only [iv_le]
    rw [if_pos (by omega)]
    exact c_st44 (d := d + 2) (G := G) 4 0 G1 (by omega) hO hA (fun k hk => hK k (by omega)) hJ (fun k hk => absurd hk (Nat.not_lt_zero _)) hm hP
  | succ r ih =>
    intro t G1 l2 ht hO hs hA hJ hK hm hP
    refine g_X5_start_2 ?_
    simp (disch := first | assumption | omega | decide) only [iv_le]
    rw [if_neg (by omega)]
    have inner : ∀ (q x : Nat) (G2 : Hp), x + q = 64 → TcO E G2 c s rm se → Sx E G2 s w S ed → TcA E G2 c → TcJ E G2 c → (∀ k, k < t → AB E G2 (c + 2 + k) 64 (fun i => tmT S k (i % 8) (i / 8))) → AB E G2 (c + 2 + t) x (fun i => tmT S t (i % 8) (i / 8)) → sam E G G2 (ivl (c + 2) 8) → Xr E (d + 3) x_X5_start 9 [some (.ref c), some (.int (iv (t : Int))), some (.int (iv (x : Int)))] [] G2 P := by
      intro q
      induction q with
      | zero =>
        intro x G2 hx hO hs hA hJ hK hR hm
        refine g_X5_start_9 ?_
        simp (disch := first | assumption | omega | decide) only [iv_le]
        rw [if_pos (by omega), i_s]
        refine ih (t + 1) G2 _ (by omega) hO hs hA hJ ?_ hm hP
        intro k hk
        by_cases z : k = t
        · subst z
          have : x = 64 := by omega
          rw [this] at hR
          exact hR
        · exact hK k (by omega)
      | succ q ihq =>
        intro x G2 hx hO hs hA hJ hK hR hm
        refine g_X5_start_9 ?_
        simp (disch := first | assumption | omega | decide) only [iv_le]
        rw [if_neg (by omega), u_out hO, u_row hO (by omega), u_rcv hO.1]
        refine ⟨trivial, ?_⟩
        rw [v_I (fun P => c_terminalTypes (d := d) (P := P) hE hS hO hs (show t < 4 by omega) (show x < 64 by omega)), tmT_b, i_s]
        refine AB_s hR (by omega) tmT_lt ?_
        intro G3 a1 a2
        refine ihq (x + 1) G3 (by omega) (TcO_sam hO a2 (by unfold ivl; omega) (by unfold ivl; omega) (by unfold ivl; omega)) (Sm_dis hs a2 (by omega)) ?_ (TcJ_sam hJ a2 (fun a h1 h2 => by unfold ivl; omega)) (fun k hk => AB_sam (hK k hk) a2 (by unfold ivl; omega)) (a1 _ _ (fun j hj1 hj2 => ⟨by omega, rfl⟩) (fun _ => rfl)) (sam_tr hm (sam_mono a2 (fun a ha => by unfold ivl at *; omega)))
        intro k hk
        by_cases z : k = t
        · subst z
          exact AB_z (a1 0 (fun _ => 0) (fun j hj => absurd hj (Nat.not_lt_zero _)) (fun h => absurd h (Nat.not_lt_zero _)))
        · exact AB_sam (hA k hk) a2 (by unfold ivl; omega)
    have hR0 : AB E G1 (c + 2 + t) 0 (fun i => tmT S t (i % 8) (i / 8)) := by
      obtain ⟨f, a, b⟩ := hA t (by omega)
      exact ⟨f, a, fun i hi => absurd hi (Nat.not_lt_zero _)⟩
    exact inner 64 0 G1 (by omega) hO hs hA hJ hK hR0 hm
theorem c_start (hE : EK E) (hS : okS S) (hcs : s + 12 ≤ c ∨ c + 16 ≤ s) (hO : TcO E G c s rm se) (hs : Sx E G s w S ed) (hA : TcA E G c) (hJ : TcJ E G c) : runs E (d + 4) i_X5_start [.ref c] G (fun v G1 => v = none ∧ TcO E G1 c s rm se ∧ TcT E G1 c S ∧ TcN E G1 c T7 ∧ TcJ E G1 c ∧ sam E G G1 (ivl (c + 2) 8)) := by
  refine e_X5_start ?_
  exact c_stL (G := G) hE hS hcs 4 0 G none (by omega) hO hs hA hJ (fun k hk => absurd hk (Nat.not_lt_zero _)) sam_rf (fun G2 a b c d e => ⟨rfl, a, b, c, d, e⟩)
theorem c_symbolTypes (hO : TcO E G c s rm se) (hT : TcT E G c S) (hN : TcN E G c T) {y a1 a2 sets : Nat} (hy : y < 10) (h1 : a1 < 8) (h2 : a2 < 8) (hse : sets < 64) (hst : 4 ≤ y → y < 8 → a1 + 8 * a2 < stn (y - 4)) : runs E (d + 2) i_X5_symbolTypes [.ref c, .int (iv (y : Int)), .int (iv ((a1 + 8 * a2 : Nat) : Int)), .int (iv (sets : Int))] G P = P (some (.int (iv (smT S T sets y a1 a2 : Nat)))) G := by
  refine runs_one (fun P hP => e_X5_symbolTypes ?_) P
  unfold smT at hP
  simp (disch := first | assumption | omega | decide) only [iv_eq, iv_lt0]
  by_cases c8 : y = 8
  · rw [if_pos c8] at hP
    rw [if_neg (by omega), v_I (fun P => c_firstOf (d := d) (P := P))]
    exact hP
  · rw [if_neg c8] at hP
    rw [if_pos (by omega)]
    by_cases c9 : y = 9
    · rw [if_pos c9] at hP
      rw [if_neg (by omega), v_I (fun P => c_secondOf (d := d) (P := P) (show sets < 1000 by omega))]
      exact hP
    · rw [if_neg c9] at hP
      obtain ⟨g, hg1, hg2⟩ := hO.2.1
      rw [if_pos (by omega), if_neg (by omega), u_out hO, u_LR hg1 (by decide)]
      simp (disch := first | assumption | omega | decide) only [iv_le]
      rw [if_neg (by omega), u_out hO, u_row hO (by omega)]
      by_cases c4 : y < 4
      · rw [if_pos c4] at hP
        rw [AB_g (hT y c4) (by omega)]
        rw [show (a1 + 8 * a2) % 8 = a1 by omega, show (a1 + 8 * a2) / 8 = a2 by omega]
        exact hP
      · rw [if_neg c4] at hP
        have hs := hst (by omega) (by omega)
        have hn := hN (y - 4) (by omega)
        have hv := (stn_v ⟨y - 4, by omega⟩).2.2.2.1
        dsimp only [Sc_b, Sc_u, Sc_v, Md_len, Md_acts, Md_nxt, Md_ts, Md_bs, Md_lab, Md_xp, Md_sta, Md_tx, Md_nw, Md_tr, Md_rd, Md_di, Md_ke, Md_ik, Md_te, Md_bu, Md_va, Md_ju, Md_ma] at hv
        rw [show c + 6 + (y - 4) = c + 2 + y by omega] at hn
        rw [AB_g hn (by omega)]
        exact hP
end TD
