-- uses 41 42 43 44 45 46 47 48 49 50 51 52 53 54 55 56 57 58 59
/-! evaluation -/
def hd (xs : List Nat) : Nat := xs.getD 0 0
def evl (B : Nat → List Nat) : Nat → List Nat → Nat × List Nat
  | 0, xs => (0, xs)
  | k + 1, xs => if 4 ≤ hd xs ∧ hd xs < 8 then (if (xpd xs 0 (B (hd xs - 4))).length ≤ 200 then ((evl B k (xpd xs 0 (B (hd xs - 4)))).1 + 1, (evl B k (xpd xs 0 (B (hd xs - 4)))).2) else (0, xs)) else (0, xs)
/-- a closed term of the tree -/
def okT (xs : List Nat) : Prop := wfo 1 xs ∧ (∀ y ∈ xs, y < 8) ∧ xs.length ≤ 200
theorem okT_pos {xs : List Nat} (h : okT xs) : 0 < xs.length := by
  cases xs with
  | nil => exact h.1.elim
  | cons x xs => simp
theorem okT_10 {xs : List Nat} (h : okT xs) : ∀ i, i < xs.length → xs.getD i 0 < 10 := (gD_mem (p := fun y => y < 10)).mpr (fun y hy => by have := h.2.1 y hy; omega)
theorem okT_hd {xs : List Nat} (h : okT xs) : hd xs < 8 := by
  have := gD_mem (p := fun y => y < 8) (xs := xs)
  exact this.mpr h.2.1 0 (okT_pos h)
theorem xpd_ok {xs bd : List Nat} (h : okT xs) (hh : 4 ≤ hd xs ∧ hd xs < 8) (hb : okB (hd xs - 4) bd) (hl : (xpd xs 0 bd).length ≤ 200) : okT (xpd xs 0 bd) := by
  have := xpd_wf (n := hd xs - 4) h.1 (okT_pos h) (show xs.getD 0 0 = 4 + (hd xs - 4) by unfold hd at *; omega) (by omega) hb
  refine ⟨this.1, fun y hy => ?_, hl⟩
  rcases this.2.1 y hy with z | z
  · exact h.2.1 y z
  · exact z
theorem evl_ok {B : Nat → List Nat} (hB : ∀ n, n < 4 → okB n (B n)) : ∀ (k : Nat) (xs : List Nat), okT xs → okT (evl B k xs).2 ∧ (evl B k xs).1 ≤ k := by
  intro k
  induction k with
  | zero => intro xs h; exact ⟨h, Nat.le_refl _⟩
  | succ k ih =>
    intro xs h
    unfold evl
    by_cases c : 4 ≤ hd xs ∧ hd xs < 8
    · rw [if_pos c]
      by_cases c2 : (xpd xs 0 (B (hd xs - 4))).length ≤ 200
      · rw [if_pos c2]
        have := ih _ (xpd_ok h c (hB _ (by omega)) c2)
        exact ⟨this.1, by show _ + 1 ≤ _; omega⟩
      · rw [if_neg c2]
        exact ⟨h, Nat.zero_le _⟩
    · rw [if_neg c]
      exact ⟨h, Nat.zero_le _⟩
/-- the tree object's fixed part: its scheme, its rows -/
def TrO (E : Ev) (G : Hp) (t s : Nat) (se : Int) : Prop := gt E G t = some (cO 4 [.ref s, .ref (t + 1), .ref (t + 16), .ref (t + 18), .ref (t + 19), .ref (t + 20), .int (iv se)]) ∧ (∃ g, gt E G (t + 1) = some (cR 1 7 g) ∧ ∀ k, k < 7 → g k = some (t + 2 + 2 * k))
section EV
variable {E : Ev} {d : Nat} {G : Hp} {P : Po} {t s : Nat} {w : Bool} {S : Sc} {ed : Nat} {se : Int}
theorem TrO_sam {G1 : Hp} {R : Nat → Prop} (h : TrO E G t s se) (k : sam E G G1 R) (h1 : ¬ R t) (h2 : ¬ R (t + 1)) : TrO E G1 t s se := by
  obtain ⟨a, g, b, c⟩ := h
  exact ⟨(k.1 _ h1).trans a, g, (k.1 _ h2).trans b, c⟩
abbrev rgE (t T : Nat) : Nat → Prop := fun a => ivl T 2 a ∨ ivl (t + 16) 2 a
theorem c_evL (hE : EK E) {T : Nat} (hT : t + 2 ≤ T ∧ T + 2 ≤ t + 16) (hst : s + 12 ≤ t ∨ t + 21 ≤ s) (hS : okS S) : ∀ (k : Nat) (xs ws : List Nat) (G1 : Hp) (l3 : Option Value), k ≤ 40 → okT xs → TrO E G1 t s se → Sx E G1 s w S ed → Tm E G1 T 200 xs → Tm E G1 (t + 16) 200 ws → sam E G G1 (rgE t T) → (∀ G2 ws', Tm E G2 T 200 (evl S.b k xs).2 → Tm E G2 (t + 16) 200 ws' → sam E G G2 (rgE t T) → P (some (.int (iv ((40 - k + (evl S.b k xs).1 : Nat) : Int)))) G2) → Xr E (d + 3) x_X4_evaluate 2 [some (.ref t), some (.ref T), some (.int (iv ((40 - k : Nat) : Int))), l3] [] G1 P := by
  intro k
  induction k with
  | zero =>
    intro xs ws G1 l3 hk hx hO hs hT1 hT2 hm hP
    refine g_X4_evaluate_2 ?_
    rw [if_pos (by decide)]
    exact hP G1 ws hT1 hT2 hm
  | succ k ih =>
    intro xs ws G1 l3 hk hx hO hs hT1 hT2 hm hP
    refine g_X4_evaluate_2 ?_
    simp (disch := first | assumption | omega | decide) only [iv_le]
    rw [if_neg (by omega), Tm_r hT1]
    refine ⟨trivial, ?_⟩
    have hpos := okT_pos hx
    have h8 := okT_hd hx
    rw [show iv 0 = iv ((0 : Nat) : Int) from rfl, v_I (fun P => c_symN (d := d + 1) (P := P) hT1 hpos)]
    have hhd : xs.getD 0 0 = hd xs := rfl
    rw [hhd, iv_sub, v_I (fun P => c_isNonterminal (d := d + 2) (P := P) (by constructor <;> omega))]
    simp only [tf_0]
    unfold evl at hP
    by_cases c : 4 ≤ hd xs ∧ hd xs < 8
    · rw [if_pos c] at hP
      have hb := hS.1 (hd xs - 4) (by omega)
      have hbp := bp_in (s := s) (w := w) (n := hd xs - 4) (by omega)
      have hTb := hs.2.2.1 (hd xs - 4) (by omega)
      rw [if_neg (by omega), u_FR hO.1 rfl, u_FR hO.1 rfl, Sm_rc hs]
      refine ⟨trivial, ?_⟩
      have en : ((hd xs : Nat) : Int) - 4 = ((hd xs - 4 : Nat) : Int) := by omega
      rw [en, v_R (fun P => c_body (d := d + 2) (P := P) hs (show hd xs - 4 < 4 by omega)), Tm_r hT2]
      refine ⟨trivial, ?_⟩
      have hwf := xpd_wf (n := hd xs - 4) hx.1 hpos (show xs.getD 0 0 = 4 + (hd xs - 4) by unfold hd at *; omega) (by omega) hb
      refine u_I (c_expand (d := d) hE.1 hT2 hT1 hTb (by omega) (by omega) hpos (by omega) hwf.2.2) ?_
      rintro v G2 ⟨rfl, a1, ⟨ws2, a2⟩, a3⟩
      have m2 := sam_tr hm (sam_mono a3 (fun a ha => Or.inr ha))
      have hO2 := TrO_sam hO a3 (by unfold ivl; omega) (by unfold ivl; omega)
      have hs2 := Sm_dis hs a3 (by omega)
      have hT12 := Tm_sam hT1 a3 (by unfold ivl; omega) (by unfold ivl; omega)
      refine ⟨_, rfl, ?_⟩
      simp only [tf_0, Classical.not_not]
      by_cases c2 : (xpd xs 0 (S.b (hd xs - 4))).length ≤ 200
      · simp only [if_pos c2] at hP
        rw [if_pos c2, u_FR hO2.1 rfl, Tm_r hT12]
        refine ⟨trivial, u_V (c_become (d := d + 1) hT12 (a1 c2) (by omega) c2) ?_⟩
        rintro v G3 ⟨rfl, b1, b2⟩
        refine ⟨rfl, ?_⟩
        have e2 : iv ((40 - (k + 1) : Nat) : Int) + iv 1 = iv ((40 - k : Nat) : Int) := by
          rw [iv_add]
          congr 1
          omega
        rw [e2]
        refine ih _ ws2 G3 _ (by omega) (xpd_ok hx c hb c2) (TrO_sam hO2 b2 (by unfold ivl; omega) (by unfold ivl; omega)) (Sm_dis hs2 b2 (by omega)) b1 (Tm_sam a2 b2 (by unfold ivl; omega) (by unfold ivl; omega)) (sam_tr m2 (sam_mono b2 (fun a ha => Or.inl ha))) ?_
        intro G4 ws4 d1 d2 d3
        have := hP G4 ws4 d1 d2 d3
        rw [show 40 - (k + 1) + ((evl S.b k (xpd xs 0 (S.b (hd xs - 4)))).1 + 1) = 40 - k + (evl S.b k (xpd xs 0 (S.b (hd xs - 4)))).1 by omega] at this
        exact this
      · simp only [if_neg c2] at hP
        rw [if_neg c2]
        exact hP G2 ws2 hT12 a2 m2
    · rw [if_neg c] at hP
      rw [if_pos (by omega)]
      exact hP G1 ws hT1 hT2 hm
theorem c_evaluate (hE : EK E) {T : Nat} {xs ws : List Nat} (hT : t + 2 ≤ T ∧ T + 2 ≤ t + 16) (hst : s + 12 ≤ t ∨ t + 21 ≤ s) (hS : okS S) (hx : okT xs) (hO : TrO E G t s se) (hs : Sx E G s w S ed) (hT1 : Tm E G T 200 xs) (hT2 : Tm E G (t + 16) 200 ws) : runs E (d + 4) i_X4_evaluate [.ref t, .ref T] G (fun v G1 => v = some (.int (iv ((evl S.b 40 xs).1 : Nat))) ∧ Tm E G1 T 200 (evl S.b 40 xs).2 ∧ (∃ ws', Tm E G1 (t + 16) 200 ws') ∧ sam E G G1 (rgE t T)) := by
  refine e_X4_evaluate ?_
  refine c_evL (G := G) (ed := ed) hE hT hst hS 40 xs ws G none (Nat.le_refl _) hx hO hs hT1 hT2 sam_rf ?_
  intro G2 ws' a1 a2 a3
  refine ⟨?_, a1, ⟨ws', a2⟩, a3⟩
  congr 4
  omega
end EV
/-- all but what a walk changes is the same -/
def Wk (M N : Md) : Prop := (Md.mk N.len N.acts N.nxt M.ts M.bs M.lab M.xp M.sta N.tx N.nw N.tr N.rd N.di N.ke N.ik M.te M.bu N.va N.ju N.ma) = M
theorem Wk_rf (M : Md) : Wk M M := rfl
theorem Wk_tr {M N O : Md} (h : Wk M N) (k : Wk N O) : Wk M O := by
  unfold Wk at *
  have : (Md.mk O.len O.acts O.nxt M.ts M.bs M.lab M.xp M.sta O.tx O.nw O.tr O.rd O.di O.ke O.ik M.te M.bu O.va O.ju O.ma) = (Md.mk ((Md.mk O.len O.acts O.nxt N.ts N.bs N.lab N.xp N.sta O.tx O.nw O.tr O.rd O.di O.ke O.ik N.te N.bu O.va O.ju O.ma) : Md).len ((Md.mk O.len O.acts O.nxt N.ts N.bs N.lab N.xp N.sta O.tx O.nw O.tr O.rd O.di O.ke O.ik N.te N.bu O.va O.ju O.ma) : Md).acts ((Md.mk O.len O.acts O.nxt N.ts N.bs N.lab N.xp N.sta O.tx O.nw O.tr O.rd O.di O.ke O.ik N.te N.bu O.va O.ju O.ma) : Md).nxt M.ts M.bs M.lab M.xp M.sta ((Md.mk O.len O.acts O.nxt N.ts N.bs N.lab N.xp N.sta O.tx O.nw O.tr O.rd O.di O.ke O.ik N.te N.bu O.va O.ju O.ma) : Md).tx ((Md.mk O.len O.acts O.nxt N.ts N.bs N.lab N.xp N.sta O.tx O.nw O.tr O.rd O.di O.ke O.ik N.te N.bu O.va O.ju O.ma) : Md).nw ((Md.mk O.len O.acts O.nxt N.ts N.bs N.lab N.xp N.sta O.tx O.nw O.tr O.rd O.di O.ke O.ik N.te N.bu O.va O.ju O.ma) : Md).tr ((Md.mk O.len O.acts O.nxt N.ts N.bs N.lab N.xp N.sta O.tx O.nw O.tr O.rd O.di O.ke O.ik N.te N.bu O.va O.ju O.ma) : Md).rd ((Md.mk O.len O.acts O.nxt N.ts N.bs N.lab N.xp N.sta O.tx O.nw O.tr O.rd O.di O.ke O.ik N.te N.bu O.va O.ju O.ma) : Md).di ((Md.mk O.len O.acts O.nxt N.ts N.bs N.lab N.xp N.sta O.tx O.nw O.tr O.rd O.di O.ke O.ik N.te N.bu O.va O.ju O.ma) : Md).ke ((Md.mk O.len O.acts O.nxt N.ts N.bs N.lab N.xp N.sta O.tx O.nw O.tr O.rd O.di O.ke O.ik N.te N.bu O.va O.ju O.ma) : Md).ik M.te M.bu ((Md.mk O.len O.acts O.nxt N.ts N.bs N.lab N.xp N.sta O.tx O.nw O.tr O.rd O.di O.ke O.ik N.te N.bu O.va O.ju O.ma) : Md).va ((Md.mk O.len O.acts O.nxt N.ts N.bs N.lab N.xp N.sta O.tx O.nw O.tr O.rd O.di O.ke O.ik N.te N.bu O.va O.ju O.ma) : Md).ju ((Md.mk O.len O.acts O.nxt N.ts N.bs N.lab N.xp N.sta O.tx O.nw O.tr O.rd O.di O.ke O.ik N.te N.bu O.va O.ju O.ma) : Md).ma) := rfl
  rw [this, k]
  exact h
theorem Wk_row {M N : Md} (h : Wk M N) (b : Bool) : rF N b = rF M b := by
  unfold Wk at h
  unfold rF
  cases b
  · have := congrArg Md.nw h
    exact this
  · have := congrArg Md.tr h
    exact this
def lbO (xs : List Nat) : Int := if hd xs < 4 then (chr (hd xs) : Nat) else 0
def okR (M : Md) (b : Bool) (S : Sc) : Prop := Rw (rF M b) S ∧ okS S
section ME
variable {E : Ev} {d : Nat} {G : Hp} {P : Po} {m : Nat}
theorem TeM_c {M N : Md} {xs : List Nat} (h : TeM M xs) (h1 : N.ts = M.ts) (h2 : N.te = M.te) : TeM N xs := by
  unfold TeM
  rw [h1, h2]
  exact h
theorem c_mevC {zs : List Nat} {z2 z3 : Int32} {rr : Nat} (hz : zs.length ≤ 200) (hz10 : ∀ i, i < zs.length → zs.getD i 0 < 10) : ∀ (k i : Nat) (G1 : Hp) (M : Md), zs.length - i ≤ k → i ≤ zs.length → Mo E G1 m M → BuM M zs → M.ts = zs.length → (∀ j, j < i → M.te j = iv (chr (zs.getD j 0) : Nat)) → sam E G G1 (ivl m 13) → (∀ G2 te' i', Mo E G2 m (Md.mk M.len M.acts M.nxt M.ts M.bs M.lab (M.xp + 1) M.sta M.tx M.nw M.tr M.rd M.di M.ke M.ik te' M.bu M.va M.ju M.ma) → TeM (Md.mk M.len M.acts M.nxt M.ts M.bs M.lab (M.xp + 1) M.sta M.tx M.nw M.tr M.rd M.di M.ke M.ik te' M.bu M.va M.ju M.ma) zs → sam E G G2 (ivl m 13) → Xr E d x_X7_evaluate 2 [some (.ref m), some (.ref rr), some (.int (z2 + iv 1)), some (.int z3), some (.int i')] [] G2 P) → Xr E d x_X7_evaluate 71 [some (.ref m), some (.ref rr), some (.int z2), some (.int z3), some (.int (iv (i : Int)))] [] G1 P := by
  intro k
  have fin : ∀ (i : Nat) (G1 : Hp) (M : Md), i = zs.length → Mo E G1 m M → M.ts = zs.length → (∀ j, j < i → M.te j = iv (chr (zs.getD j 0) : Nat)) → sam E G G1 (ivl m 13) → (∀ G2 te' i', Mo E G2 m (Md.mk M.len M.acts M.nxt M.ts M.bs M.lab (M.xp + 1) M.sta M.tx M.nw M.tr M.rd M.di M.ke M.ik te' M.bu M.va M.ju M.ma) → TeM (Md.mk M.len M.acts M.nxt M.ts M.bs M.lab (M.xp + 1) M.sta M.tx M.nw M.tr M.rd M.di M.ke M.ik te' M.bu M.va M.ju M.ma) zs → sam E G G2 (ivl m 13) → Xr E d x_X7_evaluate 2 [some (.ref m), some (.ref rr), some (.int (z2 + iv 1)), some (.int z3), some (.int i')] [] G2 P) → (qFI E G1 m 7 15 fun v2 => (qP E G1 m 7 15 (.int ((v2 + (iv 1)))) fun G3 => Xr E d x_X7_evaluate 2 [some (.ref m), some (.ref rr), some (.int (z2 + iv 1)), some (.int z3), some (.int (iv (i : Int)))] [] G3 P)) := by
    intro i G1 M hi hm hts h1 hs hP
    rw [Mo_xp hm, iv_add]
    refine Mp_xp hm ?_
    intro G2 a1 a2
    exact hP G2 M.te _ a1 ⟨hts, hz, fun j hj => h1 j (by omega), hz10⟩ (sam_tr hs a2)
  induction k with
  | zero =>
    intro i G1 M hk hi hm hb hts h1 hs hP
    refine g_X7_evaluate_71 ?_
    rw [Mo_ts hm, hts]
    simp (disch := first | assumption | omega | decide) only [iv_le]
    rw [if_pos (by omega)]
    exact fin i G1 M (by omega) hm hts h1 hs hP
  | succ k ih =>
    intro i G1 M hk hi hm hb hts h1 hs hP
    refine g_X7_evaluate_71 ?_
    rw [Mo_ts hm, hts]
    simp (disch := first | assumption | omega | decide) only [iv_le]
    by_cases c : (zs.length : Int) ≤ i
    · rw [if_pos c]
      exact fin i G1 M (by omega) hm hts h1 hs hP
    · rw [if_neg c, Mo_te hm, Mo_bu hm, Mg_bu hm (by omega), i_s, hb.2 i (by omega) (by omega)]
      refine Ms_te hm (by omega) ?_
      intro G2 a1 a2
      refine ih (i + 1) G2 _ (by omega) (by omega) a1 hb hts ?_ (sam_tr hs a2) ?_
      · intro j hj
        show upd M.te i _ j = _
        unfold upd
        by_cases c2 : j = i
        · rw [if_pos c2, c2]
        · rw [if_neg c2]
          exact h1 j (by omega)
      · intro G3 te' i' b1 b2 b3
        exact hP G3 te' i' b1 b2 b3
theorem c_mevL {S : Sc} {bb : Bool} : ∀ (k : Nat) (xs : List Nat) (G1 : Hp) (M : Md) (l3 l4 : Option Value), k ≤ 40 → okT xs → Mo E G1 m M → TeM M xs → okR M bb S → sam E G G1 (ivl m 13) → (∀ G2 N, Mo E G2 m N → TeM N (evl S.b k xs).2 → N.lab = lbO (evl S.b k xs).2 → N.xp = M.xp + (evl S.b k xs).1 → N.sta = M.sta → Wk M N → sam E G G2 (ivl m 13) → P none G2) → Xr E (d + 5) x_X7_evaluate 2 [some (.ref m), some (.ref (rA m bb)), some (.int (iv ((40 - k : Nat) : Int))), l3, l4] [] G1 P := by
  intro k
  have h0 : ∀ (xs : List Nat) (G1 : Hp) (M : Md), okT xs → TeM M xs → M.te 0 = iv (chr (hd xs) : Nat) := fun xs G1 M hx ht => ht.2.2.1 0 (okT_pos hx)
  have lab0 : ∀ (xs : List Nat) (k : Nat) (G1 : Hp) (M : Md), okT xs → ¬ hd xs < 4 → evl S.b k xs = (0, xs) → Mo E G1 m M → TeM M xs → sam E G G1 (ivl m 13) → (∀ G2 N, Mo E G2 m N → TeM N (evl S.b k xs).2 → N.lab = lbO (evl S.b k xs).2 → N.xp = M.xp + (evl S.b k xs).1 → N.sta = M.sta → Wk M N → sam E G G2 (ivl m 13) → P none G2) → ∀ (M0 : Md) (G2 : Hp), Mo E G2 m M0 → TeM M0 xs → M0.xp = M.xp → M0.sta = M.sta → Wk M M0 → sam E G G2 (ivl m 13) → qP E G2 m 7 14 (.int (iv 0)) (fun G3 => P none G3) := by
    intro xs k G1 M hx hh he hm ht hs hP M0 G2 b1 b2 b3 b4 b5 b6
    refine Mp_lab b1 ?_
    intro G3 d1 d2
    rw [he] at hP
    refine hP G3 _ d1 b2 ?_ ?_ b4 (Wk_tr b5 rfl) (sam_tr b6 d2)
    · show (0 : Int) = lbO xs
      unfold lbO
      rw [if_neg hh]
    · show M0.xp = M.xp + 0
      rw [b3]
      omega
  induction k with
  | zero =>
    intro xs G1 M l3 l4 hk hx hm ht hR hs hP
    have h8 := okT_hd hx
    have hs8 := syc ⟨hd xs, by omega⟩
    dsimp only [Sc_b, Sc_u, Sc_v, Md_len, Md_acts, Md_nxt, Md_ts, Md_bs, Md_lab, Md_xp, Md_sta, Md_tx, Md_nw, Md_tr, Md_rd, Md_di, Md_ke, Md_ik, Md_te, Md_bu, Md_va, Md_ju, Md_ma] at hs8
    refine g_X7_evaluate_2 ?_
    rw [Mo_te hm, show iv 0 = iv ((0 : Nat) : Int) from rfl, Mg_te hm (by omega), h0 xs G1 M hx ht, v_I (fun P => c_ntS (d := d + 3) (P := P) hs8.2), hs8.1]
    by_cases c : 4 ≤ hd xs ∧ hd xs < 8
    · rw [if_pos c]
      simp (disch := first | assumption | omega | decide) only [iv_eq]
      rw [if_neg (by omega), if_neg (by omega)]
      exact lab0 xs 0 G1 M hx (by omega) rfl hm ht hs hP M G1 hm ht rfl rfl (Wk_rf _) hs
    · rw [if_neg c]
      simp only [if_true]
      rw [Mo_te hm, Mg_te hm (by omega), h0 xs G1 M hx ht]
      refine Mp_lab hm ?_
      intro G2 a1 a2
      refine hP G2 _ a1 ht ?_ ?_ rfl rfl (sam_tr hs a2)
      · show ((chr (hd xs) : Nat) : Int) = lbO xs
        unfold lbO
        rw [if_pos (by omega)]
      · show M.xp = M.xp + 0
        omega
  | succ k ih =>
    intro xs G1 M l3 l4 hk hx hm ht hR hs hP
    have h8 := okT_hd hx
    have hs8 := syc ⟨hd xs, by omega⟩
    dsimp only [Sc_b, Sc_u, Sc_v, Md_len, Md_acts, Md_nxt, Md_ts, Md_bs, Md_lab, Md_xp, Md_sta, Md_tx, Md_nw, Md_tr, Md_rd, Md_di, Md_ke, Md_ik, Md_te, Md_bu, Md_va, Md_ju, Md_ma] at hs8
    refine g_X7_evaluate_2 ?_
    rw [Mo_te hm, show iv 0 = iv ((0 : Nat) : Int) from rfl, Mg_te hm (by omega), h0 xs G1 M hx ht, v_I (fun P => c_ntS (d := d + 3) (P := P) hs8.2), hs8.1]
    by_cases c : 4 ≤ hd xs ∧ hd xs < 8
    · rw [if_pos c]
      have hn4 : hd xs - 4 < 4 := by omega
      have hb := hR.2.1 (hd xs - 4) hn4
      have hrow := hR.1.1 (hd xs - 4) hn4
      have hpos := okT_pos hx
      simp (disch := first | assumption | omega | decide) only [iv_eq]
      rw [if_neg (by omega), if_pos (by omega)]
      refine Mp_bs hm ?_
      intro G2 a1 a2
      rw [Mo_te a1, Mo_rc a1]
      have hz0 : BuM (Md.mk M.len M.acts M.nxt M.ts (((0 : Nat) : Int)) M.lab M.xp M.sta M.tx M.nw M.tr M.rd M.di M.ke M.ik M.te M.bu M.va M.ju M.ma) [] := ⟨rfl, fun i hi => absurd hi (Nat.not_lt_zero _)⟩
      refine ⟨trivial, u_I (c_putExpanded (d := d) (bb := bb) (n := hd xs - 4) (bd := S.b (hd xs - 4)) hn4 hx.1 hpos (show xs.getD 0 0 = 4 + (hd xs - 4) by unfold hd at *; omega) hb a1 hz0 ht hrow (by simp)) ?_⟩
      rintro v G3 ⟨rfl, ⟨bu', bs', b1, b2⟩, b3⟩
      have ex : xpd xs 0 (S.b (hd xs - 4)) = sbl (slc xs (0 + 1) (e1o xs 0)) (slc xs (e1o xs 0) (e2o xs 0)) (S.b (hd xs - 4)) := by
        obtain ⟨a1, a2, R, o', e, h1, h2, h3, h4, c0, c1, c2, c3⟩ := xp_ends hx.1 hpos
        have : R = [] := by
          have w := hx.1
          have e0 : xs = hd xs :: xs.drop 1 := by
            have := dropC hpos
            rw [List.drop_zero] at this
            exact this
          rw [e0, e] at w
          have w1 : wfo (0 + ar (hd xs)) (a1 ++ (a2 ++ R)) := w
          rw [Nat.zero_add] at w1
          have w2 := wfo_cpl _ _ w1
          have w3 : eol (ar (hd xs)) (a1 ++ (a2 ++ R)) = a1.length + a2.length := by
            have ha := ar_le (hd xs)
            rcases (by omega : ar (hd xs) = 0 ∨ ar (hd xs) = 1 ∨ ar (hd xs) = 2) with q | q | q
            · have := c0 q
              rw [q, this.1, this.2]
              exact (eol_app [] R 0 trivial).1
            · have := c1 q
              rw [q, this.2]
              rw [(eol_app a1 _ 1 this.1).1]
              simp
            · have := c2 q
              have w4 := wfo_app a1 a2 1 1 this.1 this.2
              rw [q, ← List.append_assoc, (eol_app (a1 ++ a2) R 2 w4).1, List.length_append]
          rw [w2.2, List.length_append, List.length_append] at w3
          cases R with
          | nil => rfl
          | cons r R => simp at w3
        unfold xpd
        rw [h4, this]
        simp
      rw [List.nil_append, ← ex] at b2
      have hbs : bs' = ((xpd xs 0 (S.b (hd xs - 4))).length : Int) := b2.1
      have hlx : (xpd xs 0 (S.b (hd xs - 4))).length ≤ 100000 := by
        have sl : ∀ (u1 u2 : List Nat) (ys : List Nat), u1.length ≤ 200 → u2.length ≤ 200 → (sbl u1 u2 ys).length ≤ 200 * ys.length := by
          intro u1 u2 ys h1 h2
          induction ys with
          | nil => simp [sbl]
          | cons y ys ih =>
            unfold sbl
            rw [List.length_append, List.length_cons]
            have : (if y = 8 then u1 else if y = 9 then u2 else [y]).length ≤ 200 := by
              split
              · exact h1
              · split
                · exact h2
                · simp
            omega
        have sl1 : ∀ a b, (slc xs a b).length ≤ 200 := by
          intro a b
          unfold slc
          have := hx.2.2
          rw [List.length_take, List.length_drop]
          omega
        have := sl _ _ (S.b (hd xs - 4)) (sl1 (0 + 1) (e1o xs 0)) (sl1 (e1o xs 0) (e2o xs 0))
        have := hb.1
        rw [ex]
        omega
      refine ⟨_, rfl, ?_⟩
      unfold evl at hP
      rw [if_pos c] at hP
      have hr : Rg bs' := by constructor <;> omega
      rw [Mo_bs b1]
      show (if iv bs' ≤ iv 200 then _ else _)
      simp (disch := first | assumption | omega | decide) only [iv_le]
      by_cases c2 : (xpd xs 0 (S.b (hd xs - 4))).length ≤ 200
      · simp only [if_pos c2] at hP
        rw [if_pos (by omega), Mo_bs b1]
        refine Mp_ts b1 ?_
        intro G4 d1 d2
        refine c_mevC (G := G) (zs := xpd xs 0 (S.b (hd xs - 4))) c2 (okT_10 (xpd_ok hx c hb c2)) (xpd xs 0 (S.b (hd xs - 4))).length 0 G4 _ (by omega) (by omega) d1 b2 hbs (fun j hj => absurd hj (Nat.not_lt_zero _)) (sam_tr hs (sam_tr a2 (sam_tr b3 d2))) ?_
        intro G5 te' i' f1 f2 f3
        have e2 : iv ((40 - (k + 1) : Nat) : Int) + iv 1 = iv ((40 - k : Nat) : Int) := by
          rw [iv_add]
          congr 1
          omega
        rw [e2]
        refine ih _ G5 _ _ _ (by omega) (xpd_ok hx c hb c2) f1 f2 hR f3 ?_
        intro G6 N g1 g2 g3 g4 g5 g6 g7
        refine hP G6 N g1 g2 g3 ?_ g5 (Wk_tr (N := (Md.mk M.len M.acts M.nxt bs' bs' M.lab (M.xp + 1) M.sta M.tx M.nw M.tr M.rd M.di M.ke M.ik te' bu' M.va M.ju M.ma)) rfl g6) g7
        rw [g4]
        show M.xp + 1 + _ = M.xp + ((_ + 1 : Nat) : Int)
        omega
      · have ev0 : evl S.b (k + 1) xs = (0, xs) := by
          unfold evl
          rw [if_pos c, if_neg c2]
        rw [if_neg (by omega)]
        simp only [if_neg c2] at hP
        have := lab0 xs (k + 1) G1 M hx (by omega) ev0 hm ht hs (by rw [ev0]; exact hP) _ G3 b1 ht rfl rfl rfl (sam_tr hs (sam_tr a2 b3))
        exact this
    · rw [if_neg c]
      unfold evl at hP
      rw [if_neg c] at hP
      simp only [if_true]
      rw [Mo_te hm, Mg_te hm (by omega), h0 xs G1 M hx ht]
      refine Mp_lab hm ?_
      intro G2 a1 a2
      refine hP G2 _ a1 ht ?_ ?_ rfl rfl (sam_tr hs a2)
      · show ((chr (hd xs) : Nat) : Int) = lbO xs
        unfold lbO
        rw [if_pos (by omega)]
      · show M.xp = M.xp + 0
        omega
theorem c_mEvaluate {S : Sc} {bb : Bool} {xs : List Nat} {M : Md} (hx : okT xs) (hm : Mo E G m M) (ht : TeM M xs) (hR : okR M bb S) : runs E (d + 6) i_X7_evaluate [.ref m, .ref (rA m bb)] G (fun v G1 => v = none ∧ ∃ N, Mo E G1 m N ∧ TeM N (evl S.b 40 xs).2 ∧ N.lab = lbO (evl S.b 40 xs).2 ∧ N.xp = M.xp + (evl S.b 40 xs).1 ∧ N.sta = M.sta ∧ Wk M N ∧ sam E G G1 (ivl m 13)) := by
  refine e_X7_evaluate ?_
  exact c_mevL (G := G) 40 xs G M none none (Nat.le_refl _) hx hm ht hR sam_rf (fun G2 N a1 a2 a3 a4 a5 a6 a7 => ⟨rfl, N, a1, a2, a3, a4, a5, a6, a7⟩)
end ME
