-- uses 41 42 43 44 45 46 47 48 49 50 51 52 53 54 55 56 57 58 59 60 69 70 72 75 76 77
/-! the reference's rounds -/
def Wy (M N : Md) : Prop := (Md.mk N.len N.acts N.nxt N.ts N.bs N.lab N.xp N.sta N.tx N.nw N.tr N.rd N.di N.ke N.ik N.te M.bu M.va M.ju M.ma) = M
theorem Wy_rf (M : Md) : Wy M M := rfl
theorem Wy_tr {M N O : Md} (h : Wy M N) (k : Wy N O) : Wy M O := by
  unfold Wy at *
  have : (Md.mk O.len O.acts O.nxt O.ts O.bs O.lab O.xp O.sta O.tx O.nw O.tr O.rd O.di O.ke O.ik O.te M.bu M.va M.ju M.ma) = (Md.mk ((Md.mk O.len O.acts O.nxt O.ts O.bs O.lab O.xp O.sta O.tx O.nw O.tr O.rd O.di O.ke O.ik O.te N.bu N.va N.ju N.ma) : Md).len ((Md.mk O.len O.acts O.nxt O.ts O.bs O.lab O.xp O.sta O.tx O.nw O.tr O.rd O.di O.ke O.ik O.te N.bu N.va N.ju N.ma) : Md).acts ((Md.mk O.len O.acts O.nxt O.ts O.bs O.lab O.xp O.sta O.tx O.nw O.tr O.rd O.di O.ke O.ik O.te N.bu N.va N.ju N.ma) : Md).nxt ((Md.mk O.len O.acts O.nxt O.ts O.bs O.lab O.xp O.sta O.tx O.nw O.tr O.rd O.di O.ke O.ik O.te N.bu N.va N.ju N.ma) : Md).ts ((Md.mk O.len O.acts O.nxt O.ts O.bs O.lab O.xp O.sta O.tx O.nw O.tr O.rd O.di O.ke O.ik O.te N.bu N.va N.ju N.ma) : Md).bs ((Md.mk O.len O.acts O.nxt O.ts O.bs O.lab O.xp O.sta O.tx O.nw O.tr O.rd O.di O.ke O.ik O.te N.bu N.va N.ju N.ma) : Md).lab ((Md.mk O.len O.acts O.nxt O.ts O.bs O.lab O.xp O.sta O.tx O.nw O.tr O.rd O.di O.ke O.ik O.te N.bu N.va N.ju N.ma) : Md).xp ((Md.mk O.len O.acts O.nxt O.ts O.bs O.lab O.xp O.sta O.tx O.nw O.tr O.rd O.di O.ke O.ik O.te N.bu N.va N.ju N.ma) : Md).sta ((Md.mk O.len O.acts O.nxt O.ts O.bs O.lab O.xp O.sta O.tx O.nw O.tr O.rd O.di O.ke O.ik O.te N.bu N.va N.ju N.ma) : Md).tx ((Md.mk O.len O.acts O.nxt O.ts O.bs O.lab O.xp O.sta O.tx O.nw O.tr O.rd O.di O.ke O.ik O.te N.bu N.va N.ju N.ma) : Md).nw ((Md.mk O.len O.acts O.nxt O.ts O.bs O.lab O.xp O.sta O.tx O.nw O.tr O.rd O.di O.ke O.ik O.te N.bu N.va N.ju N.ma) : Md).tr ((Md.mk O.len O.acts O.nxt O.ts O.bs O.lab O.xp O.sta O.tx O.nw O.tr O.rd O.di O.ke O.ik O.te N.bu N.va N.ju N.ma) : Md).rd ((Md.mk O.len O.acts O.nxt O.ts O.bs O.lab O.xp O.sta O.tx O.nw O.tr O.rd O.di O.ke O.ik O.te N.bu N.va N.ju N.ma) : Md).di ((Md.mk O.len O.acts O.nxt O.ts O.bs O.lab O.xp O.sta O.tx O.nw O.tr O.rd O.di O.ke O.ik O.te N.bu N.va N.ju N.ma) : Md).ke ((Md.mk O.len O.acts O.nxt O.ts O.bs O.lab O.xp O.sta O.tx O.nw O.tr O.rd O.di O.ke O.ik O.te N.bu N.va N.ju N.ma) : Md).ik ((Md.mk O.len O.acts O.nxt O.ts O.bs O.lab O.xp O.sta O.tx O.nw O.tr O.rd O.di O.ke O.ik O.te N.bu N.va N.ju N.ma) : Md).te M.bu M.va M.ju M.ma) := rfl
  rw [this, k]
  exact h
theorem Wy_row {M N : Md} (h : Wy M N) (b : Bool) : rF N b = rF M b := by
  unfold Wy at h
  unfold rF
  cases b
  · have := congrArg Md.nw h
    exact this
  · have := congrArg Md.tr h
    exact this
theorem okR_wy {M N : Md} {bb : Bool} {S : Sc} (h : okR M bb S) (k : Wy M N) : okR N bb S := by
  unfold okR
  rw [Wy_row k bb]
  exact h
theorem tyA_inj {n q s1 s2 n' q' s1' s2' : Nat} (h : rg4 n q s1 s2) (k : rg4 n' q' s1' s2') (e : tyA n q s1 s2 = tyA n' q' s1' s2') : n = n' ∧ q = q' ∧ s1 = s1' ∧ s2 = s2' := by
  obtain ⟨_, a2, a3, a4, _, a6, a7⟩ := tyA_k h
  obtain ⟨_, b2, b3, b4, _, b6, b7⟩ := tyA_k k
  rw [e] at a2 a3 a4
  omega
/-- the justified ones: which are done -/
def dn (n s1 s2 n' s1' s2' : Nat) : Prop := n' < n ∨ (n' = n ∧ (s1' < s1 ∨ (s1' = s1 ∧ s2' < s2)))
def JuP (S : Sc) (T : Tb) (ju : Nat → Int32) (n s1 s2 : Nat) : Prop := ∀ n' q' s1' s2', rg4 n' q' s1' s2' → dn n s1 s2 n' s1' s2' → ju (tyA n' q' s1' s2') = b2 ((bodyT S T n' (s1' + 8 * s2')).testBit q')
/-- whether something goes, the first k typings -/
def lK (S : Sc) (T : Tb) : Nat → Bool
  | 0 => false
  | k + 1 => lK S T k || (vT T k && !(vT (bodyT S T) k))
theorem lK_t {S : Sc} {T : Tb} : ∀ K, lK S T K = true ↔ ∃ k, k < K ∧ vT T k = true ∧ vT (bodyT S T) k = false := by
  intro K
  induction K with
  | zero =>
    constructor
    · intro h; cases h
    · rintro ⟨k, h, _⟩; omega
  | succ K ih =>
    unfold lK
    rw [Bool.or_eq_true, ih, Bool.and_eq_true, Bool.not_eq_true']
    constructor
    · rintro (⟨k, h1, h2⟩ | h)
      · exact ⟨k, by omega, h2⟩
      · exact ⟨K, by omega, h⟩
    · rintro ⟨k, h1, h2⟩
      by_cases c : k = K
      · subst c; exact Or.inr h2
      · exact Or.inl ⟨k, by omega, h2⟩
theorem lessN_t {S : Sc} {T : Tb} {n : Nat} : ∀ K, lessN S T n K = true ↔ ∃ s, s < K ∧ rnd S T n s ≠ T n s := by
  intro K
  induction K with
  | zero =>
    constructor
    · intro h; cases h
    · rintro ⟨k, h, _⟩; omega
  | succ K ih =>
    unfold lessN
    rw [Bool.or_eq_true, ih, decide_eq_true_eq]
    constructor
    · rintro (⟨k, h1, h2⟩ | h)
      · exact ⟨k, by omega, h2⟩
      · exact ⟨K, by omega, h⟩
    · rintro ⟨k, h1, h2⟩
      by_cases c : k = K
      · subst c; exact Or.inr h2
      · exact Or.inl ⟨k, by omega, h2⟩
theorem lessR_t {S : Sc} {T : Tb} : lessR S T = true ↔ ∃ n s, n < 4 ∧ s < stn n ∧ rnd S T n s ≠ T n s := by
  unfold lessR
  simp only [Bool.or_eq_true, lessN_t]
  constructor
  · rintro (((⟨s, h⟩ | ⟨s, h⟩) | ⟨s, h⟩) | ⟨s, h⟩)
    · exact ⟨0, s, by decide, h⟩
    · exact ⟨1, s, by decide, h⟩
    · exact ⟨2, s, by decide, h⟩
    · exact ⟨3, s, by decide, h⟩
  · rintro ⟨n, s, hn, h⟩
    rcases (by omega : n = 0 ∨ n = 1 ∨ n = 2 ∨ n = 3) with rfl | rfl | rfl | rfl
    · exact Or.inl (Or.inl (Or.inl ⟨s, h⟩))
    · exact Or.inl (Or.inl (Or.inr ⟨s, h⟩))
    · exact Or.inl (Or.inr ⟨s, h⟩)
    · exact Or.inr ⟨s, h⟩
theorem and_ne8 : ∀ a b : Fin 8, a.val &&& b.val ≠ a.val ↔ ∃ q : Fin 3, a.val.testBit q.val = true ∧ b.val.testBit q.val = false := by decide +kernel
theorem lK_R {S : Sc} {T : Tb} (hT8 : T8 T) : lK S T 243 = lessR S T := by
  rw [Bool.eq_iff_iff, lK_t, lessR_t]
  constructor
  · rintro ⟨k, h1, h2, h3⟩
    obtain ⟨s1, s2, rg, e1, e2⟩ := k_tyA h1
    have hk := tyA_k rg
    refine ⟨nk k, sk k, rg.1, by rw [e2]; exact hk.2.2.2.2.1, ?_⟩
    have hs64 : sk k < 64 := by
      have := (stn_v ⟨nk k, rg.1⟩).2.2.2.1
      dsimp only [Sc_b, Sc_u, Sc_v, Md_len, Md_acts, Md_nxt, Md_ts, Md_bs, Md_lab, Md_xp, Md_sta, Md_tx, Md_nw, Md_tr, Md_rd, Md_di, Md_ke, Md_ik, Md_te, Md_bu, Md_va, Md_ju, Md_ma] at this
      rw [e2]
      omega
    exact (and_ne8 ⟨T (nk k) (sk k), hT8 _ _⟩ ⟨bodyT S T (nk k) (sk k), bodyT_lt hT8 hs64⟩).mpr ⟨⟨qk k, rg.2.1⟩, h2, h3⟩
  · rintro ⟨n, s, hn, hs, h⟩
    have hv := (stn_v ⟨n, hn⟩).2.2.2.1
    dsimp only [Sc_b, Sc_u, Sc_v, Md_len, Md_acts, Md_nxt, Md_ts, Md_bs, Md_lab, Md_xp, Md_sta, Md_tx, Md_nw, Md_tr, Md_rd, Md_di, Md_ke, Md_ik, Md_te, Md_bu, Md_va, Md_ju, Md_ma] at hv
    obtain ⟨q, h1, h2⟩ := (and_ne8 ⟨T n s, hT8 _ _⟩ ⟨bodyT S T n s, bodyT_lt hT8 (by omega)⟩).mp h
    have hp := p12 ⟨n, hn⟩
    dsimp only [Sc_b, Sc_u, Sc_v, Md_len, Md_acts, Md_nxt, Md_ts, Md_bs, Md_lab, Md_xp, Md_sta, Md_tx, Md_nw, Md_tr, Md_rd, Md_di, Md_ke, Md_ik, Md_te, Md_bu, Md_va, Md_ju, Md_ma] at hp
    have rg : rg4 n q.val (s % 8) (s / 8) := by
      refine ⟨hn, q.isLt, ?_, ?_⟩
      · rcases (by omega : n = 0 ∨ n = 1 ∨ n = 2 ∨ n = 3) with z | z | z | z
        · have := hp.1 z; omega
        · have := hp.2.1 z; omega
        · have := hp.2.2.1 z; omega
        · have := hp.2.2.2 z; omega
      · rcases (by omega : n = 0 ∨ n = 1 ∨ n = 2 ∨ n = 3) with z | z | z | z
        · have := hp.1 z; omega
        · have := hp.2.1 z; omega
        · have := hp.2.2.1 z; omega
        · have := hp.2.2.2 z; omega
    have es : s % 8 + 8 * (s / 8) = s := by omega
    refine ⟨tyA n q.val (s % 8) (s / 8), (tyA_k rg).1, ?_, ?_⟩
    · rw [vT_A rg, es]; exact h1
    · rw [vT_A rg, es]; exact h2
theorem vT_rnd {S : Sc} {T : Tb} {k : Nat} : vT (rnd S T) k = (vT T k && vT (bodyT S T) k) := by
  unfold vT rnd
  rw [Nat.testBit_and]
section MRD
variable {E : Ev} {d : Nat} {G : Hp} {P : Po} {m : Nat} {T : Tb} {S : Sc}
theorem nar_b {b : Bool} : vp_nar (kT 2) (b2 b) = b2 b := by
  cases b
  · exact iv_nar2 (Or.inl rfl)
  · exact iv_nar2 (Or.inr rfl)
theorem c_mr126 {bb : Bool} {M0 : Md} (hT8 : T8 T) : ∀ (r k : Nat) (G1 : Hp) (M : Md) (l4 l5 l6 : Option Value), k + r = 243 → Mo E G1 m M → (∀ j, j < k → M.va j = b2 (vT (rnd S T) j)) → (∀ j, k ≤ j → j < 243 → M.va j = b2 (vT T j)) → (∀ j, j < 243 → M.ju j = b2 (vT (bodyT S T) j)) → Wy M0 M → sam E G G1 (ivl m 13) → (∀ G2 N, Mo E G2 m N → VaM N (rnd S T) → Wy M0 N → sam E G G2 (ivl m 13) → P (some (.int (b2 (lessR S T)))) G2) → Xr E d x_X7_isRoundLess 126 [some (.ref m), some (.ref (rA m bb)), some (.int (b2 (lK S T k))), some (.int (iv (k : Int))), l4, l5, l6] [] G1 P := by
  intro r
  induction r with
  | zero =>
    intro k G1 M l4 l5 l6 hk hm h1 h2 h3 hw hs hP
    have : k = 243 := by omega
    subst this
    refine g_X7_isRoundLess_126 ?_
    rw [if_pos (by decide), lK_R hT8]
    refine ⟨?_, hP G1 M hm (fun j hj => h1 j hj) hw hs⟩
    cases lessR S T
    · exact of_eq_true (iv_narZ (Or.inl rfl))
    · exact of_eq_true (iv_narZ (Or.inr rfl))
  | succ r ih =>
    intro k G1 M l4 l5 l6 hk hm h1 h2 h3 hw hs hP
    have hk243 : k < 243 := by omega
    have hva := h2 k (Nat.le_refl _) hk243
    have hju := h3 k hk243
    -- the new value is stored
    have sto : ∀ (fl : Bool), fl = lK S T (k + 1) → (qFR E G1 m 7 17 fun v1 => (qFR E G1 m 7 17 fun v2 => (qBA E G1 v2 (iv (k : Int)) fun v3 => (if v3 = 0 then (qBS E G1 v1 (iv (k : Int)) (iv 0) fun G4 => Xr E d x_X7_isRoundLess 126 [some (.ref m), some (.ref (rA m bb)), some (.int (b2 fl)), some (.int (iv (k : Int) + iv 1)), l4, l5, l6] [] G4 P) else (qFR E G1 m 7 18 fun v5 => (qBA E G1 v5 (iv (k : Int)) fun v6 => (if v6 = 0 then (qBS E G1 v1 (iv (k : Int)) (iv 0) fun G7 => Xr E d x_X7_isRoundLess 126 [some (.ref m), some (.ref (rA m bb)), some (.int (b2 fl)), some (.int (iv (k : Int) + iv 1)), l4, l5, l6] [] G7 P) else (qBS E G1 v1 (iv (k : Int)) (iv 1) fun G8 => Xr E d x_X7_isRoundLess 126 [some (.ref m), some (.ref (rA m bb)), some (.int (b2 fl)), some (.int (iv (k : Int) + iv 1)), l4, l5, l6] [] G8 P)))))))) := by
      intro fl hfl
      have nx : ∀ (b : Bool), b = vT (rnd S T) k → qBS E G1 (m + 10) (iv (k : Int)) (b2 b) (fun G4 => Xr E d x_X7_isRoundLess 126 [some (.ref m), some (.ref (rA m bb)), some (.int (b2 fl)), some (.int (iv (k : Int) + iv 1)), l4, l5, l6] [] G4 P) := by
        intro b hb
        refine Ms_va hm hk243 ?_
        intro G2 a1 a2
        rw [i_s, hfl]
        refine ih (k + 1) G2 _ _ _ _ (by omega) a1 ?_ ?_ h3 (Wy_tr hw rfl) (sam_tr hs a2) hP
        · intro j hj
          show upd M.va k _ j = _
          unfold upd
          by_cases z : j = k
          · rw [if_pos z, nar_b, z, hb]
          · rw [if_neg z]
            exact h1 j (by omega)
        · intro j hj1 hj2
          show upd M.va k _ j = _
          unfold upd
          rw [if_neg (by omega)]
          exact h2 j (by omega) hj2
      rw [Mo_va hm, Mo_va hm, Mg_va hm hk243, hva]
      simp only [b_0]
      cases hb1 : vT T k with
      | false =>
        rw [if_pos rfl]
        exact nx false (by rw [vT_rnd, hb1]; rfl)
      | true =>
        rw [if_neg (by decide), Mo_ju hm, Mg_ju hm hk243, hju]
        simp only [b_0]
        cases hb2 : vT (bodyT S T) k with
        | false =>
          rw [if_pos rfl]
          exact nx false (by rw [vT_rnd, hb1, hb2]; rfl)
        | true =>
          rw [if_neg (by decide)]
          exact nx true (by rw [vT_rnd, hb1, hb2]; rfl)
    have el : lK S T (k + 1) = (lK S T k || (vT T k && !(vT (bodyT S T) k))) := rfl
    have g155 : lK S T (k + 1) = true → ∀ x, Xr E d x_X7_isRoundLess 155 [some (.ref m), some (.ref (rA m bb)), some (.int x), some (.int (iv (k : Int))), l4, l5, l6] [] G1 P := by
      intro hh x
      refine g_X7_isRoundLess_155 ?_
      exact sto true hh.symm
    have g159 : lK S T (k + 1) = false → ∀ x, Xr E d x_X7_isRoundLess 159 [some (.ref m), some (.ref (rA m bb)), some (.int x), some (.int (iv (k : Int))), l4, l5, l6] [] G1 P := by
      intro hh x
      refine g_X7_isRoundLess_159 ?_
      exact sto false hh.symm
    refine g_X7_isRoundLess_126 ?_
    rw [if_neg (by rw [iv_le (by decide) (by constructor <;> omega)]; omega)]
    simp only [b_0]
    cases hf : lK S T k with
    | true =>
      rw [if_pos (by decide)]
      exact g155 (by rw [el, hf]; rfl) _
    | false =>
      rw [if_neg (by decide), Mo_va hm, Mg_va hm hk243, hva]
      simp only [b_0]
      cases hb1 : vT T k with
      | false =>
        rw [if_pos rfl]
        exact g159 (by rw [el, hf, hb1]; rfl) _
      | true =>
        rw [if_neg (by decide), Mo_ju hm, Mg_ju hm hk243, hju]
        simp only [b_0]
        cases hb2 : vT (bodyT S T) k with
        | false =>
          rw [if_neg (by decide)]
          exact g155 (by rw [el, hf, hb1, hb2]; rfl) _
        | true =>
          rw [if_pos (by decide)]
          exact g159 (by rw [el, hf, hb1, hb2]; rfl) _
theorem c_mrL2 {bb : Bool} {M0 : Md} (hT8 : T8 T) (hmo : mon T) : ∀ (r n : Nat) (G1 : Hp) (M : Md) (l3 l4 l5 l6 : Option Value), n + r = 4 → Mo E G1 m M → okR M bb S → VaM M T → JuP S T M.ju n 0 0 → Wy M0 M → sam E G G1 (ivl m 13) → (∀ G2 N, Mo E G2 m N → VaM N (rnd S T) → Wy M0 N → sam E G G2 (ivl m 13) → P (some (.int (b2 (lessR S T)))) G2) → Xr E (d + 5) x_X7_isRoundLess 2 [some (.ref m), some (.ref (rA m bb)), some (.int (iv (n : Int))), l3, l4, l5, l6] [] G1 P := by
  intro r
  induction r with
  | zero =>
    intro n G1 M l3 l4 l5 l6 hn hm hR hV hJ hw hs hP
    have : n = 4 := by omega
    subst this
    refine g_X7_isRoundLess_2 ?_
    rw [if_pos (by decide)]
    refine c_mr126 (d := d + 5) (G := G) (M0 := M0) (S := S) hT8 243 0 G1 M _ _ _ (by omega) hm (fun j hj => absurd hj (Nat.not_lt_zero _)) (fun j _ hj => hV j hj) ?_ hw hs hP
    intro k hk
    obtain ⟨s1, s2, rg, e1, e2⟩ := k_tyA hk
    have := hJ (nk k) (qk k) s1 s2 rg (Or.inl rg.1)
    rw [e1] at this
    rw [this]
    unfold vT
    rw [e2]
  | succ r ih =>
    intro n G1 M l3 l4 l5 l6 hn hm hR hV hJ hw hs hP
    have hn4 : n < 4 := by omega
    have har := ar_le (4 + n)
    have hpp := p12 ⟨n, hn4⟩
    dsimp only [Sc_b, Sc_u, Sc_v, Md_len, Md_acts, Md_nxt, Md_ts, Md_bs, Md_lab, Md_xp, Md_sta, Md_tx, Md_nw, Md_tr, Md_rd, Md_di, Md_ke, Md_ik, Md_te, Md_bu, Md_va, Md_ju, Md_ma] at hpp
    have ep1 : p1 n = if 1 ≤ ar (4 + n) then 8 else 1 := rfl
    have ep2 : p2 n = if 2 ≤ ar (4 + n) then 8 else 1 := rfl
    refine g_X7_isRoundLess_2 ?_
    rw [if_neg (by rw [iv_le (by decide) (by constructor <;> omega)]; omega)]
    -- over s1
    have L9 : ∀ (r1 s1 : Nat) (G1 : Hp) (M : Md) (l4 l5 l6 : Option Value), s1 + r1 = p1 n → Mo E G1 m M → okR M bb S → VaM M T → JuP S T M.ju n s1 0 → Wy M0 M → sam E G G1 (ivl m 13) → Xr E (d + 5) x_X7_isRoundLess 9 [some (.ref m), some (.ref (rA m bb)), some (.int (iv (n : Int))), some (.int (iv (s1 : Int))), l4, l5, l6] [] G1 P := by
      intro r1
      induction r1 with
      | zero =>
        intro s1 G1 M l4 l5 l6 hs1 hm hR hV hJ hw hs
        refine g_X7_isRoundLess_9 ?_
        rw [v_I (fun P => c_params (d := d + 4) (P := P) hn4), i_s]
        have nx := ih (n + 1) G1 M (some (.int (iv (s1 : Int)))) l4 l5 l6 (by omega) hm hR hV (fun n' q' s1' s2' rg dd => by
          refine hJ n' q' s1' s2' rg ?_
          rcases dd with z | z
          · by_cases y : n' = n
            · subst y
              have := rg.2.2.1
              exact Or.inr ⟨rfl, Or.inl (by omega)⟩
            · exact Or.inl (by omega)
          · omega) hw hs hP
        simp (disch := first | assumption | omega | decide) only [iv_le0, iv_le]
        by_cases ca : 1 ≤ ar (4 + n)
        · rw [if_pos ca] at ep1
          rw [if_neg (by omega), if_pos (by omega)]
          exact nx
        · rw [if_neg ca] at ep1
          rw [if_pos (by omega), if_pos (by omega)]
          exact nx
      | succ r1 ih1 =>
        intro s1 G1 M l4 l5 l6 hs1 hm hR hV hJ hw hs
        have hs1p : s1 < p1 n := by omega
        have hs18 : s1 < 8 := by
          rw [ep1] at hs1p
          split at hs1p <;> omega
        -- over s2
        have L29 : ∀ (r2 s2 : Nat) (G1 : Hp) (M : Md) (l5 l6 : Option Value), s2 + r2 = p2 n → Mo E G1 m M → okR M bb S → VaM M T → JuP S T M.ju n s1 s2 → Wy M0 M → sam E G G1 (ivl m 13) → Xr E (d + 5) x_X7_isRoundLess 29 [some (.ref m), some (.ref (rA m bb)), some (.int (iv (n : Int))), some (.int (iv (s1 : Int))), some (.int (iv (s2 : Int))), l5, l6] [] G1 P := by
          intro r2
          induction r2 with
          | zero =>
            intro s2 G1 M l5 l6 hs2 hm hR hV hJ hw hs
            refine g_X7_isRoundLess_29 ?_
            rw [v_I (fun P => c_params (d := d + 4) (P := P) hn4), i_s]
            have nx := ih1 (s1 + 1) G1 M (some (.int (iv (s2 : Int)))) l5 l6 (by omega) hm hR hV (fun n' q' s1' s2' rg dd => by
              refine hJ n' q' s1' s2' rg ?_
              rcases dd with z | ⟨z, y⟩
              · exact Or.inl z
              · refine Or.inr ⟨z, ?_⟩
                by_cases x : s1' = s1
                · have := rg.2.2.2
                  rw [z] at this
                  exact Or.inr ⟨x, by omega⟩
                · exact Or.inl (by omega)) hw hs
            simp (disch := first | assumption | omega | decide) only [iv_le0, iv_le]
            by_cases ca : 2 ≤ ar (4 + n)
            · rw [if_pos ca] at ep2
              rw [if_neg (by omega), if_pos (by omega)]
              exact nx
            · rw [if_neg ca] at ep2
              rw [if_pos (by omega), if_pos (by omega)]
              exact nx
          | succ r2 ih2 =>
            intro s2 G1 M l5 l6 hs2 hm hR hV hJ hw hs
            have hs2p : s2 < p2 n := by omega
            have hs28 : s2 < 8 := by
              rw [ep2] at hs2p
              split at hs2p <;> omega
            have hB := bodyT_lt (S := S) (n := n) hT8 (show s1 + 8 * s2 < 64 by omega)
            -- over q
            have L62 : ∀ (r3 q : Nat) (G1 : Hp) (M : Md), q + r3 = 3 → Mo E G1 m M → okR M bb S → VaM M T → JuP S T M.ju n s1 s2 → (∀ q', q' < q → M.ju (tyA n q' s1 s2) = b2 ((bodyT S T n (s1 + 8 * s2)).testBit q')) → Wy M0 M → sam E G G1 (ivl m 13) → Xr E (d + 5) x_X7_isRoundLess 62 [some (.ref m), some (.ref (rA m bb)), some (.int (iv (n : Int))), some (.int (iv (s1 : Int))), some (.int (iv (s2 : Int))), some (.int (iv (bodyT S T n (s1 + 8 * s2) : Nat))), some (.int (iv (q : Int)))] [] G1 P := by
              intro r3
              induction r3 with
              | zero =>
                intro q G1 M hq hm hR hV hJ hQ hw hs
                have : q = 3 := by omega
                subst this
                refine g_X7_isRoundLess_62 ?_
                rw [if_pos (by decide), i_s]
                refine ih2 (s2 + 1) G1 M _ _ (by omega) hm hR hV ?_ hw hs
                intro n' q' s1' s2' rg dd
                by_cases x : n' = n ∧ s1' = s1 ∧ s2' = s2
                · obtain ⟨rfl, rfl, rfl⟩ := x
                  exact hQ q' rg.2.1
                · refine hJ n' q' s1' s2' rg ?_
                  rcases dd with z | ⟨z, y⟩
                  · exact Or.inl z
                  · refine Or.inr ⟨z, ?_⟩
                    rcases y with y | ⟨y1, y2⟩
                    · exact Or.inl y
                    · exact Or.inr ⟨y1, by
                        have : s2' ≠ s2 := fun e => x ⟨z, y1, e⟩
                        omega⟩
              | succ r3 ih3 =>
                intro q G1 M hq hm hR hV hJ hQ hw hs
                have hq3 : q < 3 := by omega
                have rg : rg4 n q s1 s2 := ⟨hn4, hq3, hs1p, hs2p⟩
                have hk := tyA_k rg
                refine g_X7_isRoundLess_62 ?_
                rw [if_neg (by rw [iv_le (by decide) (by constructor <;> omega)]; omega), Mo_ju hm, v_I (fun P => c_typingAt (d := d + 4) (P := P) hn4), i_bit (by omega) (by omega), i_s]
                simp only [b_1]
                have nx : ∀ (b : Bool), b = (bodyT S T n (s1 + 8 * s2)).testBit q → qBS E G1 (m + 11) (iv (tyA n q s1 s2 : Nat)) (b2 b) (fun G4 => Xr E (d + 5) x_X7_isRoundLess 62 [some (.ref m), some (.ref (rA m bb)), some (.int (iv (n : Int))), some (.int (iv (s1 : Int))), some (.int (iv (s2 : Int))), some (.int (iv (bodyT S T n (s1 + 8 * s2) : Nat))), some (.int (iv ((q + 1 : Nat) : Int)))] [] G4 P) := by
                  intro b hb
                  refine Ms_ju hm hk.1 ?_
                  intro G2 a1 a2
                  refine ih3 (q + 1) G2 _ (by omega) a1 hR hV ?_ ?_ (Wy_tr hw rfl) (sam_tr hs a2)
                  · intro n' q' s1' s2' rg' dd
                    show upd M.ju _ _ _ = _
                    unfold upd
                    have : tyA n' q' s1' s2' ≠ tyA n q s1 s2 := by
                      intro e
                      obtain ⟨rfl, rfl, rfl, rfl⟩ := tyA_inj rg' rg e
                      unfold dn at dd
                      omega
                    rw [if_neg this]
                    exact hJ n' q' s1' s2' rg' dd
                  · intro q' hq'
                    show upd M.ju _ _ _ = _
                    unfold upd
                    by_cases z : q' = q
                    · subst z
                      rw [if_pos rfl, nar_b, hb]
                    · have : tyA n q' s1 s2 ≠ tyA n q s1 s2 := by
                        intro e
                        exact z (tyA_inj ⟨hn4, by omega, hs1p, hs2p⟩ rg e).2.1
                      rw [if_neg this]
                      exact hQ q' (by omega)
                cases hb : (bodyT S T n (s1 + 8 * s2)).testBit q with
                | false =>
                  rw [if_pos (by decide)]
                  exact nx false hb.symm
                | true =>
                  rw [if_neg (by decide)]
                  exact nx true hb.symm
            have bod : rcv E G1 m 7 = true ∧ (qCI E (d + 5) i_X7_bodyTypes [.ref m, .ref (rA m bb), .int (iv (n : Int)), .int (iv (s1 : Int)), .int (iv (s2 : Int))] G1 fun v4 G3 => Xr E (d + 5) x_X7_isRoundLess 62 [some (.ref m), some (.ref (rA m bb)), some (.int (iv (n : Int))), some (.int (iv (s1 : Int))), some (.int (iv (s2 : Int))), some (.int v4), some (.int (iv 0))] [] G3 P) := by
              rw [Mo_rc hm]
              refine ⟨trivial, u_I (c_mBodyTypes (d := d) (T := T) (S := S) (bb := bb) hT8 hmo hn4 hs18 hs28 hm hR hV) ?_⟩
              rintro v G2 ⟨rfl, ⟨bu', ma', a1⟩, a2⟩
              refine ⟨_, rfl, ?_⟩
              exact L62 3 0 G2 _ (by omega) a1 hR hV hJ (fun q' h => absurd h (Nat.not_lt_zero _)) (Wy_tr hw rfl) (sam_tr hs a2)
            refine g_X7_isRoundLess_29 ?_
            rw [v_I (fun P => c_params (d := d + 4) (P := P) hn4)]
            simp (disch := first | assumption | omega | decide) only [iv_le0, iv_le]
            by_cases ca : 2 ≤ ar (4 + n)
            · rw [if_pos ca] at ep2
              rw [if_neg (by omega), if_neg (by omega)]
              exact bod
            · rw [if_neg ca] at ep2
              rw [if_pos (by omega), if_neg (by omega)]
              exact bod
        refine g_X7_isRoundLess_9 ?_
        rw [v_I (fun P => c_params (d := d + 4) (P := P) hn4)]
        have go := L29 (p2 n) 0 G1 M l5 l6 (by omega) hm hR hV hJ hw hs
        simp (disch := first | assumption | omega | decide) only [iv_le0, iv_le]
        by_cases ca : 1 ≤ ar (4 + n)
        · rw [if_pos ca] at ep1
          rw [if_neg (by omega), if_neg (by omega)]
          exact go
        · rw [if_neg ca] at ep1
          rw [if_pos (by omega), if_neg (by omega)]
          exact go
    exact L9 (p1 n) 0 G1 M l4 l5 l6 (by omega) hm hR hV hJ hw hs
theorem c_isRoundLess {bb : Bool} {M : Md} (hT8 : T8 T) (hmo : mon T) (hm : Mo E G m M) (hR : okR M bb S) (hV : VaM M T) : runs E (d + 6) i_X7_isRoundLess [.ref m, .ref (rA m bb)] G (fun v G1 => v = some (.int (b2 (lessR S T))) ∧ ∃ N, Mo E G1 m N ∧ VaM N (rnd S T) ∧ Wy M N ∧ sam E G G1 (ivl m 13)) := by
  refine e_X7_isRoundLess ?_
  exact c_mrL2 (G := G) (M0 := M) hT8 hmo 4 0 G M none none none none (by omega) hm hR hV (fun n' q' s1' s2' rg dd => by unfold dn at dd; omega) (Wy_rf _) sam_rf (fun G2 N a b c d => ⟨rfl, N, a, b, c, d⟩)
end MRD
