-- uses 41 42 43 44 45 46 47 48 49 50 51 52 53 54 55 56 57 58 59 60 61 62 63 64 65 66 67 68 69 70 71 72 73 74 75 76 77 78 79 80 87
/-! the reference: descend -/
def chW (w : Wa) : Nat := if hd w.1 < 4 then ar (hd w.1) else 0
def nxz (z : Int64) : Int64 := z * 6364136223846793005 + 1442695040888963407
def dsc1 (S : Sc) : Nat → Wa → Int64 → Nat × Int64
  | 0, _, z => (0, z)
  | r + 1, w, z => if chW w = 0 then (0, z) else match wd S w (1 + rn (nxz z) % chW w) with
    | none => (0, nxz z)
    | some w' => ((dsc1 S r w' (nxz z)).1 + 1, (dsc1 S r w' (nxz z)).2)
def dscL (S : Sc) : Nat → Int64 → Nat
  | 0, _ => 0
  | k + 1, z => (dsc1 S 6 (w0 S) z).1 + dscL S k (dsc1 S 6 (w0 S) z).2
def s_descend (A : As) (z : Int64) (k : Int) : Int × As := if 1 ≤ k ∧ k ≤ 30 then (((dscL A.S k.toNat z : Nat) : Int), A) else (-2, A)
theorem chW_le {w : Wa} : chW w ≤ 2 := by
  unfold chW
  split
  · exact ar_le _
  · omega
theorem wd_s {S : Sc} {w : Wa} {c : Nat} (h : c ≤ chW w) (h0 : chW w ≠ 0) : ∃ w', wd S w c = some w' := by
  unfold chW at h h0
  by_cases c4 : hd w.1 < 4
  · rw [if_pos c4] at h
    unfold wd
    rw [if_pos ⟨c4, h⟩]
    exact ⟨_, rfl⟩
  · rw [if_neg c4] at h0
    exact absurd rfl h0
theorem dsc1_le {S : Sc} : ∀ r w z, (dsc1 S r w z).1 ≤ r := by
  intro r
  induction r with
  | zero => intro w z; exact Nat.le_refl _
  | succ r ih =>
    intro w z
    unfold dsc1
    split
    · exact Nat.zero_le _
    · split
      · exact Nat.zero_le _
      · next w' _ =>
        have := ih w' (nxz z)
        show _ + 1 ≤ r + 1
        omega
theorem dscL_le {S : Sc} : ∀ k z, dscL S k z ≤ 6 * k := by
  intro k
  induction k with
  | zero => intro z; exact Nat.le_refl _
  | succ k ih =>
    intro z
    unfold dscL
    have h1 := dsc1_le (S := S) 6 (w0 S) z
    have h2 := ih (dsc1 S 6 (w0 S) z).2
    omega
theorem wd_okW {S : Sc} (hS : okS S) {w w' : Wa} {c : Nat} (hw : okW w) (hc : c = 1 ∨ c = 2) (e : wd S w c = some w') : okW w' := by
  refine wks_ok hS [c] w w' hw ?_ ?_
  · intro y hy
    rcases List.mem_cons.mp hy with z | z
    · rw [z]; exact hc
    · cases z
  · show wks S (wd S w c) [] = some w'
    rw [e]
    rfl
theorem rn_m {z : Int64} {c : Nat} (hc : c = 1 ∨ c = 2) : iv ((rn z : Nat) : Int) - iv ((rn z : Nat) : Int) / iv (c : Int) * iv (c : Int) = iv ((rn z % c : Nat) : Int) := by
  have := rn_lt z
  rw [iv_tmod (by omega) (by omega)]
  rfl
section MDC
variable {E : Ev} {d : Nat} {G : Hp} {P : Po} {m : Nat} {A : As}
theorem c_ds41 {n k sm : Nat} {x1 : Int64} (hsm : sm ≤ 1000) : ∀ (r dp : Nat) (w : Wa) (z : Int64) (G1 : Hp) (M : Md) (l9 : Option Value), dp + r = 6 → okW w → Mo E G1 m M → MI M A → WM M w → sam E G G1 (ivl m 13) → (∀ G2 l8 l9', MH E G2 m A → sam E G G2 (ivl m 13) → Xr E (d + 7) x_X7_descend 24 [some (.ref m), some (.long x1), none, some (.int (iv (n : Int))), some (.long (dsc1 A.S r w z).2), none, some (.int (iv ((sm + (dp + (dsc1 A.S r w z).1) : Nat) : Int))), some (.int (iv ((k + 1 : Nat) : Int))), l8, l9'] [] G2 P) → Xr E (d + 7) x_X7_descend 41 [some (.ref m), some (.long x1), none, some (.int (iv (n : Int))), some (.long z), none, some (.int (iv (sm : Int))), some (.int (iv (k : Int))), some (.int (iv (dp : Int))), l9] [] G1 P := by
  intro r
  induction r with
  | zero =>
    intro dp w z G1 M l9 hdp hw hm hI hM hs hP
    have : dp = 6 := by omega
    subst this
    refine g_X7_descend_41 ?_
    rw [if_pos (by decide), i_s, iv_add]
    exact hP G1 _ _ ⟨M, hm, hI⟩ hs
  | succ r ih =>
    intro dp w z G1 M l9 hdp hw hm hI hM hs hP
    refine g_X7_descend_41 ?_
    have hc2 := chW_le (w := w)
    have ec : ∀ (P : Po), runs E (d + 7) i_X7_childrenOf [.ref m, .int (iv (lbO w.1))] G1 P = P (some (.int (iv ((chW w : Nat) : Int)))) G1 := by
      intro P
      rw [c_childrenOf (d := d + 4)]
      unfold chW
      by_cases c4 : hd w.1 < 4
      · rw [if_pos c4, if_pos c4]
      · rw [if_neg c4, if_neg c4]; rfl
    rw [if_neg (by rw [iv_le (by decide) (by constructor <;> omega)]; omega), Mo_lab hm, hM.2.1, v_I ec, Mo_rc hm]
    refine ⟨trivial, ?_⟩
    by_cases c0 : chW w = 0
    · rw [if_pos (by rw [iv_le0 (by constructor <;> omega)]; omega), i_s, iv_add]
      have := hP G1 (some (.int (iv (dp : Int)))) l9 ⟨M, hm, hI⟩ hs
      unfold dsc1 at this
      rw [if_pos c0] at this
      exact this
    · have hcc : chW w = 1 ∨ chW w = 2 := by omega
      have hml : rn (nxz z) % chW w < chW w := Nat.mod_lt _ (by omega)
      rw [if_neg (by rw [iv_le0 (by constructor <;> omega)]; omega), Mo_nw hm, Mo_lab hm, hM.2.1]
      refine ⟨trivial, ?_⟩
      rw [v_I ec]
      refine ⟨by rw [iv_eq0 (by constructor <;> omega)]; omega, by rw [Mo_rc hm]; trivial, ?_⟩
      rw [show z * 6364136223846793005 + 1442695040888963407 = nxz z from rfl, rn_e, rn_m hcc, show iv 1 + iv ((rn (nxz z) % chW w : Nat) : Int) = iv ((1 + rn (nxz z) % chW w : Nat) : Int) by rw [iv_add]; rfl, i_s]
      obtain ⟨w', hw'⟩ := wd_s (S := A.S) (w := w) (c := 1 + rn (nxz z) % chW w) (by omega) c0
      refine u_I (c_goDown (d := d) (S := A.S) (bb := false) hw (c := 1 + rn (nxz z) % chW w) (by omega) hm hM hI.2.1) ?_
      intro v G2 hgd
      rw [hw'] at hgd
      obtain ⟨rfl, N, a1, a2, a3, a4⟩ := hgd
      refine ⟨_, rfl, ?_⟩
      refine ih (dp + 1) w' (nxz z) G2 N _ (by omega) (wd_okW (MI_ok hI) hw (by omega) hw') a1 (MI_wk hI a3) a2 (sam_tr hs a4) ?_
      intro G3 l8 l9' b1 b2
      have := hP G3 l8 l9' b1 b2
      unfold dsc1 at this
      rw [if_neg c0, hw'] at this
      dsimp only [Sc_b, Sc_u, Sc_v, Md_len, Md_acts, Md_nxt, Md_ts, Md_bs, Md_lab, Md_xp, Md_sta, Md_tx, Md_nw, Md_tr, Md_rd, Md_di, Md_ke, Md_ik, Md_te, Md_bu, Md_va, Md_ju, Md_ma, As_tx, As_S, As_R, As_nx, As_ct, As_K, As_F] at this
      rw [show dp + ((dsc1 A.S r w' (nxz z)).1 + 1) = dp + 1 + (dsc1 A.S r w' (nxz z)).1 by omega] at this
      exact this
theorem c_ds24 {n : Nat} {x1 : Int64} (hn : n ≤ 30) : ∀ (r k sm : Nat) (z : Int64) (G1 : Hp) (l8 l9 : Option Value), k + r = n → sm ≤ 6 * k → MH E G1 m A → sam E G G1 (ivl m 13) → (∀ G2, MH E G2 m A → sam E G G2 (ivl m 13) → P (some (.int (iv ((sm + dscL A.S r z : Nat) : Int)))) G2) → Xr E (d + 7) x_X7_descend 24 [some (.ref m), some (.long x1), none, some (.int (iv (n : Int))), some (.long z), none, some (.int (iv (sm : Int))), some (.int (iv (k : Int))), l8, l9] [] G1 P := by
  intro r
  induction r with
  | zero =>
    intro k sm z G1 l8 l9 hk hsm hM hs hP
    refine g_X7_descend_24 ?_
    rw [if_pos (by rw [iv_le (by constructor <;> omega) (by constructor <;> omega)]; omega)]
    exact hP G1 hM hs
  | succ r ih =>
    intro k sm z G1 l8 l9 hk hsm hM hs hP
    refine g_X7_descend_24 ?_
    obtain ⟨M, hm, hI⟩ := hM
    rw [if_neg (by rw [iv_le (by constructor <;> omega) (by constructor <;> omega)]; omega), Mo_nw hm, Mo_rc hm]
    refine ⟨trivial, u_V (c_beginWalk (d := d) (bb := false) (S := A.S) hm hI.2.1) ?_⟩
    rintro v G2 ⟨rfl, N, a1, a2, a3, a4⟩
    refine ⟨rfl, ?_⟩
    refine c_ds41 (G := G) (d := d) (A := A) (n := n) (k := k) (sm := sm) (by omega) 6 0 (w0 A.S) z G2 N _ (by omega) (okW_0 (MI_ok hI)) a1 (MI_wk hI a3) a2 (sam_tr hs a4) ?_
    intro G3 l8' l9' b1 b2
    have hl := dsc1_le (S := A.S) 6 (w0 A.S) z
    refine ih (k + 1) _ _ G3 l8' l9' (by omega) (by omega) b1 b2 ?_
    intro G4 e1 e2
    have := hP G4 e1 e2
    unfold dscL at this
    rw [show sm + (0 + (dsc1 A.S 6 (w0 A.S) z).1) + dscL A.S r (dsc1 A.S 6 (w0 A.S) z).2 = sm + ((dsc1 A.S 6 (w0 A.S) z).1 + dscL A.S r (dsc1 A.S 6 (w0 A.S) z).2) by omega]
    exact this
theorem m_descend {z : Int64} {k : Int} (hk : Rg k) (h : MH E G m A) : runs E (d + 8) i_X7_descend [.ref m, .long z, .int (iv k)] G (mP E G m (s_descend A z k)) := by
  refine e_X7_descend ?_
  rw [v_I (fun P => c_in (d := d + 6) (P := P) (i64 hk) (b := 1) (c := 30) rfl rfl)]
  by_cases c1 : 1 ≤ k ∧ k ≤ 30
  · obtain ⟨n, rfl⟩ := Int.eq_ofNat_of_zero_le (show 0 ≤ k by omega)
    have e : s_descend A z (n : Int) = (((dscL A.S n z : Nat) : Int), A) := by unfold s_descend; exact if_pos c1
    rw [e, if_pos (by rw [tf_t c1]; decide)]
    refine c_ds24 (G := G) (d := d) (A := A) (n := n) (by omega) n 0 0 z G _ _ (by omega) (by omega) h sam_rf ?_
    intro G2 a b
    rw [Nat.zero_add]
    exact ⟨rfl, a, b⟩
  · have e : s_descend A z k = (-2, A) := by unfold s_descend; exact if_neg c1
    rw [e, if_neg (by rw [tf_f c1]; decide)]
    exact ⟨rfl, h, sam_rf⟩
end MDC
