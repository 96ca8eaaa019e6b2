-- uses 41 42 43 44 45 46 47 48 49 50 51 52 53 54 55 56 57 58 59 60 64 65 66 67 68 69 70 74 75 78 79 80 81 82
/-! the reference: exchange, inline -/
def exS (S : Sc) : Sc := (Sc.mk (fun n => (S.b (sw12 n)).map swp) S.u S.v)
def s_exchange (A : As) : Int × As := ((cnts A.S.b 4 : Nat), (As.mk (rem A).tx (exS A.S) (rem A).R (rem A).nx (rem A).ct (rem A).K (rem A).F))
def inB (S : Sc) (n i : Nat) : List Nat := xpd (S.b n) i (S.b ((S.b n).getD i 0 - 4))
def s_inline (A : As) (a i : Int) : Int × As := if (0 ≤ a ∧ a < 4) ∧ (0 ≤ i ∧ i < (A.S.b a.toNat).length) then (if 4 ≤ (A.S.b a.toNat).getD i.toNat 0 ∧ (A.S.b a.toNat).getD i.toNat 0 < 8 then (if (inB A.S a.toNat i.toNat).length ≤ 30 then (((inB A.S a.toNat i.toNat).length : Nat), (As.mk (rem A).tx ((Sc.mk (upB A.S.b a.toNat (inB A.S a.toNat i.toNat)) A.S.u A.S.v)) (rem A).R (rem A).nx (rem A).ct (rem A).K (rem A).F)) else (-4, A)) else (-3, A)) else (-1, A)
theorem ar_swp : ∀ y : Fin 10, ar (swp y.val) = ar y.val ∧ swp y.val < 10 ∧ (swp y.val = 8 ↔ y.val = 8) ∧ (swp y.val = 9 ↔ y.val = 9) := by decide +kernel
theorem wfo_swp : ∀ (xs : List Nat) (o : Nat), (∀ y ∈ xs, y < 10) → wfo o xs → wfo o (xs.map swp) := by
  intro xs
  induction xs with
  | nil => intro o _ h; exact h
  | cons y ys ih =>
    intro o hx h
    cases o with
    | zero => exact h.elim
    | succ o =>
      have := ar_swp ⟨y, hx y List.mem_cons_self⟩
      dsimp only [Sc_b, Sc_u, Sc_v, Md_len, Md_acts, Md_nxt, Md_ts, Md_bs, Md_lab, Md_xp, Md_sta, Md_tx, Md_nw, Md_tr, Md_rd, Md_di, Md_ke, Md_ik, Md_te, Md_bu, Md_va, Md_ju, Md_ma, As_tx, As_S, As_R, As_nx, As_ct, As_K, As_F] at this
      show wfo (o + ar (swp y)) (ys.map swp)
      rw [this.1]
      exact ih _ (fun z hz => hx z (List.mem_cons_of_mem _ hz)) h
theorem sw12_lt : ∀ n : Fin 4, sw12 n.val < 4 ∧ ar (4 + sw12 n.val) = ar (4 + n.val) := by decide +kernel
theorem okS_ex {S : Sc} (h : okS S) : okS (exS S) := by
  refine ⟨fun n hn => ?_, h.2⟩
  have hs := sw12_lt ⟨n, hn⟩
  dsimp only [Sc_b, Sc_u, Sc_v, Md_len, Md_acts, Md_nxt, Md_ts, Md_bs, Md_lab, Md_xp, Md_sta, Md_tx, Md_nw, Md_tr, Md_rd, Md_di, Md_ke, Md_ik, Md_te, Md_bu, Md_va, Md_ju, Md_ma, As_tx, As_S, As_R, As_nx, As_ct, As_K, As_F] at hs
  have hb := h.1 _ hs.1
  have hm := okB_m hb
  refine okB_of ?_ ?_ ?_
  · show ((S.b (sw12 n)).map swp).length ≤ 30
    rw [List.length_map]; exact hb.1
  · exact wfo_swp _ _ (fun y hy => (hm y hy).1) hb.2.1
  · intro y hy
    have hy' : y ∈ (S.b (sw12 n)).map swp := hy
    obtain ⟨z, hz, rfl⟩ := List.mem_map.mp hy'
    have h1 := hm z hz
    have h2 := ar_swp ⟨z, h1.1⟩
    dsimp only [Sc_b, Sc_u, Sc_v, Md_len, Md_acts, Md_nxt, Md_ts, Md_bs, Md_lab, Md_xp, Md_sta, Md_tx, Md_nw, Md_tr, Md_rd, Md_di, Md_ke, Md_ik, Md_te, Md_bu, Md_va, Md_ju, Md_ma, As_tx, As_S, As_R, As_nx, As_ct, As_K, As_F] at h2
    refine ⟨h2.2.1, fun e => ?_, fun e => ?_⟩
    · rw [← hs.2]; exact h1.2.1 (h2.2.2.1.mp e)
    · rw [← hs.2]; exact h1.2.2 (h2.2.2.2.mp e)
theorem chr_sw : ∀ y : Fin 10, (chr y.val = 70 ↔ y.val = 5) ∧ (chr y.val = 71 ↔ y.val = 6) ∧ chr y.val ≤ 255 ∧ (y.val ≠ 5 → y.val ≠ 6 → swp y.val = y.val) := by decide +kernel
theorem gD_map {xs : List Nat} {i : Nat} (h : i < xs.length) : (xs.map swp).getD i 0 = swp (xs.getD i 0) := by
  simp [List.getD, h]
section MX
variable {E : Ev} {d : Nat} {G : Hp} {P : Po} {m : Nat} {A : As}
/-- the rows of F and G change places -/
theorem c_ex6 {M : Md} : ∀ (r k : Nat) (G1 : Hp) (f : Nat → Int32) (l2 : Option Value), k + r = 31 → Mo E G1 m (Md.mk M.len M.acts M.nxt M.ts M.bs M.lab M.xp M.sta M.tx f M.tr M.rd M.di M.ke M.ik M.te M.bu M.va M.ju M.ma) → (∀ j, j < k → f (31 + j) = M.nw (62 + j) ∧ f (62 + j) = M.nw (31 + j)) → (∀ j, j < 31 ∨ (31 + k ≤ j ∧ j < 62) ∨ 62 + k ≤ j → f j = M.nw j) → sam E G G1 (ivl m 13) → (∀ G2 f', Mo E G2 m (Md.mk M.len M.acts M.nxt M.ts M.bs M.lab M.xp M.sta M.tx f' M.tr M.rd M.di M.ke M.ik M.te M.bu M.va M.ju M.ma) → (∀ j, j < 31 → f' (31 + j) = M.nw (62 + j) ∧ f' (62 + j) = M.nw (31 + j)) → (∀ j, j < 31 ∨ 93 ≤ j → f' j = M.nw j) → sam E G G2 (ivl m 13) → Xr E d x_X7_exchange 60 [some (.ref m), some (.int (iv 0)), some (.int (iv 0)), none, none] [] G2 P) → Xr E d x_X7_exchange 6 [some (.ref m), some (.int (iv (k : Int))), l2, none, none] [] G1 P := by
  intro r
  induction r with
  | zero =>
    intro k G1 f l2 hk hm h1 h2 hs hP
    have : k = 31 := by omega
    subst this
    refine g_X7_exchange_6 ?_
    rw [if_pos (by decide)]
    exact hP G1 f hm h1 (fun j hj => h2 j (by omega)) hs
  | succ r ih =>
    intro k G1 f l2 hk hm h1 h2 hs hP
    refine g_X7_exchange_6 ?_
    rw [if_neg (by rw [iv_lt (by decide) (by constructor <;> omega)]; omega), Mo_nw hm, show iv 31 + iv (k : Int) = iv ((31 + k : Nat) : Int) by rw [iv_add]; rfl, show iv 62 + iv (k : Int) = iv ((62 + k : Nat) : Int) by rw [iv_add]; rfl, Mg_nw hm (by omega), Mo_nw hm, Mo_nw hm, Mg_nw hm (by omega)]
    refine Ms_nw hm (by omega) ?_
    intro G2 a1 a2
    rw [Mo_nw a1]
    refine Ms_nw a1 (by omega) ?_
    intro G3 b1 b2
    rw [i_s]
    refine ih (k + 1) G3 (upd (upd f (31 + k) (f (62 + k))) (62 + k) (f (31 + k))) _ (by omega) b1 ?_ ?_ (sam_tr (sam_tr hs a2) b2) hP
    · intro j hj
      unfold upd
      by_cases z : j = k
      · subst z
        rw [if_neg (by omega), if_pos rfl, if_pos rfl, h2 (62 + j) (by omega), h2 (31 + j) (by omega)]
        exact ⟨rfl, rfl⟩
      · rw [if_neg (by omega), if_neg (by omega), if_neg (by omega), if_neg (by omega)]
        exact h1 j (by omega)
    · intro j hj
      unfold upd
      rw [if_neg (by omega), if_neg (by omega)]
      exact h2 j (by omega)
/-- half done: the rows before n, and the first i symbols of row n, have their F and G exchanged -/
def hx (B : Nat → List Nat) (n i k j : Nat) : Nat := if k < n ∨ (k = n ∧ j < i) then swp ((B k).getD j 0) else (B k).getD j 0
def HX (S : Sc) (n i : Nat) (f : Nat → Int32) : Prop := (∀ k, k < 4 → f (31 * k) = iv ((S.b k).length : Nat) ∧ ∀ j, j < (S.b k).length → f (31 * k + 1 + j) = iv (chr (hx S.b n i k j) : Nat)) ∧ ∀ k, k < 12 → f (124 + 3 * k) = iv (if S.u k = -1 then 0 else 1) ∧ (S.u k ≠ -1 → f (124 + 3 * k + 1) = iv (S.u k) ∧ (k % 4 = 0 → f (124 + 3 * k + 2) = iv (S.v k)))
theorem c_ex67 {S : Sc} {M : Md} (hS : okS S) {n : Nat} (hn : n < 4) {c0 : Nat} (hc0 : c0 ≤ 1000) : ∀ (r i c : Nat) (G1 : Hp) (f : Nat → Int32) (l4 : Option Value), i + r = (S.b n).length → c + cnt ((S.b n).drop i) = c0 + cnt (S.b n) → Mo E G1 m (Md.mk M.len M.acts M.nxt M.ts M.bs M.lab M.xp M.sta M.tx f M.tr M.rd M.di M.ke M.ik M.te M.bu M.va M.ju M.ma) → HX S n i f → sam E G G1 (ivl m 13) → (∀ G2 f' l3 l4, Mo E G2 m (Md.mk M.len M.acts M.nxt M.ts M.bs M.lab M.xp M.sta M.tx f' M.tr M.rd M.di M.ke M.ik M.te M.bu M.va M.ju M.ma) → HX S (n + 1) 0 f' → sam E G G2 (ivl m 13) → Xr E d x_X7_exchange 60 [some (.ref m), some (.int (iv ((c0 + cnt (S.b n) : Nat) : Int))), some (.int (iv ((n + 1 : Nat) : Int))), l3, l4] [] G2 P) → Xr E d x_X7_exchange 67 [some (.ref m), some (.int (iv (c : Int))), some (.int (iv (n : Int))), some (.int (iv ((i + 1 : Nat) : Int))), l4] [] G1 P := by
  have hL := (hS.1 n hn).1
  intro r
  induction r with
  | zero =>
    intro i c G1 f l4 hi hc hm hf hs hP
    refine g_X7_exchange_67 ?_
    rw [Mo_nw hm, show iv 31 * iv (n : Int) = iv ((31 * n : Nat) : Int) from nmul (a := 31), Mg_nw hm (by omega), show ((Md.mk M.len M.acts M.nxt M.ts M.bs M.lab M.xp M.sta M.tx f M.tr M.rd M.di M.ke M.ik M.te M.bu M.va M.ju M.ma) : Md).nw (31 * n) = _ from (hf.1 n hn).1, if_pos (by rw [iv_lt (by constructor <;> omega) (by constructor <;> omega)]; omega), i_s]
    rw [List.drop_eq_nil_of_le (by omega)] at hc
    have e : c = c0 + cnt (S.b n) := hc
    rw [e]
    refine hP G1 f _ _ hm ⟨fun k hk => ⟨(hf.1 k hk).1, fun j hj => ?_⟩, hf.2⟩ hs
    rw [(hf.1 k hk).2 j hj]
    unfold hx
    by_cases z : k < n ∨ (k = n ∧ j < i)
    · rw [if_pos z, if_pos (by omega)]
    · rw [if_neg z, if_neg]
      intro y
      by_cases x : k = n
      · subst x
        omega
      · omega
  | succ r ih =>
    intro i c G1 f l4 hi hc hm hf hs hP
    have hi' : i < (S.b n).length := by omega
    have h10 := ((hS.1 n hn).2.2 i hi').1
    have hch := chr_sw ⟨(S.b n).getD i 0, h10⟩
    dsimp only [Sc_b, Sc_u, Sc_v, Md_len, Md_acts, Md_nxt, Md_ts, Md_bs, Md_lab, Md_xp, Md_sta, Md_tx, Md_nw, Md_tr, Md_rd, Md_di, Md_ke, Md_ik, Md_te, Md_bu, Md_va, Md_ju, Md_ma, As_tx, As_S, As_R, As_nx, As_ct, As_K, As_F] at hch
    have hfi : f (31 * n + 1 + i) = iv (chr ((S.b n).getD i 0) : Nat) := by
      rw [(hf.1 n hn).2 i hi']
      unfold hx
      rw [if_neg (by omega)]
    rw [dropC hi'] at hc
    have hc' : c + ((if (S.b n).getD i 0 = 5 ∨ (S.b n).getD i 0 = 6 then 1 else 0) + cnt ((S.b n).drop (i + 1))) = c0 + cnt (S.b n) := hc
    have hcl := cnt_le ((S.b n).drop (i + 1))
    have nx : ∀ (y : Nat) (c' : Nat), y = swp ((S.b n).getD i 0) → c' = c + (if (S.b n).getD i 0 = 5 ∨ (S.b n).getD i 0 = 6 then 1 else 0) → ∀ l4', qIS E G1 (m + 2) (iv ((31 * n + 1 + i : Nat) : Int)) (iv (chr y : Nat)) (fun G6 => Xr E d x_X7_exchange 67 [some (.ref m), some (.int (iv (c' : Int))), some (.int (iv (n : Int))), some (.int (iv ((i + 1 + 1 : Nat) : Int))), l4'] [] G6 P) := by
      intro y c' hy hcc l4'
      refine Ms_nw hm (by omega) ?_
      intro G2 a1 a2
      refine ih (i + 1) c' G2 (upd f (31 * n + 1 + i) (iv (chr y : Nat))) _ (by omega) (by omega) a1 ?_ (sam_tr hs a2) hP
      refine ⟨fun k hk => ⟨?_, fun j hj => ?_⟩, fun k hk => ?_⟩
      · unfold upd
        rw [if_neg (by omega)]
        exact (hf.1 k hk).1
      · have hk30 := (hS.1 k hk).1
        unfold upd
        by_cases z : k = n ∧ j = i
        · obtain ⟨rfl, rfl⟩ := z
          rw [if_pos rfl, hy]
          unfold hx
          rw [if_pos (by omega)]
        · have ne : ¬ (31 * k + 1 + j = 31 * n + 1 + i) := by
            intro e
            apply z
            omega
          rw [if_neg ne, (hf.1 k hk).2 j hj]
          unfold hx
          by_cases y : k < n ∨ (k = n ∧ j < i)
          · rw [if_pos y, if_pos (by omega)]
          · rw [if_neg y, if_neg (by omega)]
      · have h2 := hf.2 k hk
        have ne : ∀ j, 124 ≤ j → upd f (31 * n + 1 + i) (iv (chr y : Nat)) j = f j := by
          intro j hj
          unfold upd
          rw [if_neg (by omega)]
        rw [ne _ (by omega), ne _ (by omega), ne _ (by omega)]
        exact h2
    refine g_X7_exchange_67 ?_
    rw [Mo_nw hm, show iv 31 * iv (n : Int) = iv ((31 * n : Nat) : Int) from nmul (a := 31), Mg_nw hm (by omega), show ((Md.mk M.len M.acts M.nxt M.ts M.bs M.lab M.xp M.sta M.tx f M.tr M.rd M.di M.ke M.ik M.te M.bu M.va M.ju M.ma) : Md).nw (31 * n) = _ from (hf.1 n hn).1, if_neg (by rw [iv_lt (by constructor <;> omega) (by constructor <;> omega)]; omega), Mo_nw hm, show iv ((31 * n : Nat) : Int) + iv ((i + 1 : Nat) : Int) = iv ((31 * n + 1 + i : Nat) : Int) by rw [iv_add, show ((31 * n : Nat) : Int) + ((i + 1 : Nat) : Int) = ((31 * n + 1 + i : Nat) : Int) by omega], Mg_nw hm (by omega), show ((Md.mk M.len M.acts M.nxt M.ts M.bs M.lab M.xp M.sta M.tx f M.tr M.rd M.di M.ke M.ik M.te M.bu M.va M.ju M.ma) : Md).nw (31 * n + 1 + i) = _ from hfi, i_s]
    have q70 : (iv ((chr ((S.b n).getD i 0) : Nat) : Int) = iv 70) = ((S.b n).getD i 0 = 5) := by
      rw [iv_eq (by constructor <;> omega) (by decide)]
      exact propext ⟨fun z => hch.1.mp (by omega), fun z => by have := hch.1.mpr z; omega⟩
    have q71 : (iv ((chr ((S.b n).getD i 0) : Nat) : Int) = iv 71) = ((S.b n).getD i 0 = 6) := by
      rw [iv_eq (by constructor <;> omega) (by decide)]
      exact propext ⟨fun z => hch.2.1.mp (by omega), fun z => by have := hch.2.1.mpr z; omega⟩
    by_cases c5 : (S.b n).getD i 0 = 5
    · rw [if_pos (by rw [q70]; exact c5), Mo_nw hm, if_neg (by rw [q70]; exact fun z => z c5), i_s]
      exact nx 6 (c + 1) (by rw [c5]; rfl) (by rw [if_pos (Or.inl c5)]) _
    · rw [if_neg (by rw [q70]; exact c5)]
      by_cases c6 : (S.b n).getD i 0 = 6
      · rw [if_neg (by rw [q71]; exact fun z => z c6), Mo_nw hm, if_pos (by rw [q70]; exact c5), if_neg (by rw [q71]; exact fun z => z c6), i_s]
        exact nx 5 (c + 1) (by rw [c6]; rfl) (by rw [if_pos (Or.inr c6)]) _
      · rw [if_pos (by rw [q71]; exact c6), Mo_nw hm, if_pos (by rw [q70]; exact c5), if_pos (by rw [q71]; exact c6), show iv (c : Int) + iv 0 = iv ((c : Nat) : Int) by rw [iv_add]; simp, i_s]
        exact nx _ c (hch.2.2.2 c5 c6).symm (by rw [if_neg (by omega)]; rfl) _
theorem cnts_le {B : Nat → List Nat} (h : ∀ k, k < 4 → (B k).length ≤ 30) : ∀ n, n ≤ 4 → cnts B n ≤ 30 * n := by
  intro n
  induction n with
  | zero => intro _; exact Nat.le_refl _
  | succ n ih =>
    intro hn
    unfold cnts
    have h1 := ih (by omega)
    have h2 := cnt_le (B n)
    have h3 := h n (by omega)
    omega
theorem c_ex60 {S : Sc} {M : Md} (hS : okS S) : ∀ (r n : Nat) (G1 : Hp) (f : Nat → Int32) (l3 l4 : Option Value), n + r = 4 → Mo E G1 m (Md.mk M.len M.acts M.nxt M.ts M.bs M.lab M.xp M.sta M.tx f M.tr M.rd M.di M.ke M.ik M.te M.bu M.va M.ju M.ma) → HX S n 0 f → sam E G G1 (ivl m 13) → (∀ G2 f', Mo E G2 m (Md.mk M.len M.acts M.nxt M.ts M.bs M.lab M.xp M.sta M.tx f' M.tr M.rd M.di M.ke M.ik M.te M.bu M.va M.ju M.ma) → HX S 4 0 f' → sam E G G2 (ivl m 13) → P (some (.int (iv (cnts S.b 4 : Nat)))) G2) → Xr E d x_X7_exchange 60 [some (.ref m), some (.int (iv (cnts S.b n : Nat))), some (.int (iv (n : Int))), l3, l4] [] G1 P := by
  intro r
  induction r with
  | zero =>
    intro n G1 f l3 l4 hn hm hf hs hP
    have : n = 4 := by omega
    subst this
    refine g_X7_exchange_60 ?_
    rw [if_pos (by decide)]
    exact hP G1 f hm hf hs
  | succ r ih =>
    intro n G1 f l3 l4 hn hm hf hs hP
    refine g_X7_exchange_60 ?_
    rw [if_neg (by rw [iv_le (by decide) (by constructor <;> omega)]; omega)]
    have hle := cnts_le (fun k hk => (hS.1 k hk).1) n (by omega)
    refine c_ex67 (G := G) hS (show n < 4 by omega) (c0 := cnts S.b n) (by omega) (S.b n).length 0 (cnts S.b n) G1 f _ (by omega) rfl hm hf hs ?_
    intro G2 f' l3' l4' a1 a2 a3
    exact ih (n + 1) G2 f' _ _ (by omega) a1 a2 a3 hP
theorem m_exchange (h : MH E G m A) : runs E (d + 2) i_X7_exchange [.ref m] G (mP E G m (s_exchange A)) := by
  obtain ⟨M, hm, hI⟩ := h
  refine e_X7_exchange ?_
  rw [Mo_rc hm]
  refine ⟨trivial, u_V (c_note (d := d) hm hI) ?_⟩
  rintro v G1 ⟨rfl, N, a1, a2, a3, a4⟩
  refine ⟨rfl, ?_⟩
  refine c_ex6 (G := G) (M := N) 31 0 G1 N.nw _ (by omega) a1 (fun j hj => absurd hj (Nat.not_lt_zero _)) (fun j _ => rfl) a4 ?_
  intro G2 f b1 b2 b3 b4
  have hS := MI_ok (A := rem A) a2
  have hR : Rw N.nw A.S := MI_rw (A := rem A) a2
  have hS' : okS A.S := hS
  have sw : ∀ k, k < 4 → (k = 0 ∧ sw12 k = 0) ∨ (k = 1 ∧ sw12 k = 2) ∨ (k = 2 ∧ sw12 k = 1) ∨ (k = 3 ∧ sw12 k = 3) := by
    intro k hk
    rcases (by omega : k = 0 ∨ k = 1 ∨ k = 2 ∨ k = 3) with rfl | rfl | rfl | rfl
    · exact Or.inl ⟨rfl, rfl⟩
    · exact Or.inr (Or.inl ⟨rfl, rfl⟩)
    · exact Or.inr (Or.inr (Or.inl ⟨rfl, rfl⟩))
    · exact Or.inr (Or.inr (Or.inr ⟨rfl, rfl⟩))
  have row : ∀ k j, k < 4 → j < 31 → f (31 * k + j) = N.nw (31 * sw12 k + j) := by
    intro k j hk hj
    rcases sw k hk with ⟨rfl, e⟩ | ⟨rfl, e⟩ | ⟨rfl, e⟩ | ⟨rfl, e⟩
    · rw [e]; exact b3 _ (by omega)
    · rw [e]; exact (b2 j hj).1
    · rw [e]; exact (b2 j hj).2
    · rw [e]; exact b3 _ (by omega)
  have hS1 : okS (Sc.mk (fun n => A.S.b (sw12 n)) A.S.u A.S.v) := by
    refine ⟨fun n hn => ?_, hS'.2⟩
    have hs := sw12_lt ⟨n, hn⟩
    dsimp only [Sc_b, Sc_u, Sc_v, Md_len, Md_acts, Md_nxt, Md_ts, Md_bs, Md_lab, Md_xp, Md_sta, Md_tx, Md_nw, Md_tr, Md_rd, Md_di, Md_ke, Md_ik, Md_te, Md_bu, Md_va, Md_ju, Md_ma, As_tx, As_S, As_R, As_nx, As_ct, As_K, As_F] at hs
    have hb := hS'.1 _ hs.1
    refine okB_of hb.1 hb.2.1 (fun y hy => ?_)
    have h1 := okB_m hb y hy
    exact ⟨h1.1, fun e => by rw [← hs.2]; exact h1.2.1 e, fun e => by rw [← hs.2]; exact h1.2.2 e⟩
  have hHX : HX (Sc.mk (fun n => A.S.b (sw12 n)) A.S.u A.S.v) 0 0 f := by
    refine ⟨fun k hk => ?_, fun k hk => ?_⟩
    · have hs := (sw12_lt ⟨k, hk⟩).1
      dsimp only [Sc_b, Sc_u, Sc_v, Md_len, Md_acts, Md_nxt, Md_ts, Md_bs, Md_lab, Md_xp, Md_sta, Md_tx, Md_nw, Md_tr, Md_rd, Md_di, Md_ke, Md_ik, Md_te, Md_bu, Md_va, Md_ju, Md_ma, As_tx, As_S, As_R, As_nx, As_ct, As_K, As_F] at hs
      have h1 := hR.1 _ hs
      have h30 := (hS'.1 _ hs).1
      refine ⟨?_, fun j hj => ?_⟩
      · have := row k 0 hk (by decide)
        rw [Nat.add_zero, Nat.add_zero] at this
        rw [this]; exact h1.1
      · have hj' : j < (A.S.b (sw12 k)).length := hj
        have := row k (1 + j) hk (by omega)
        rw [← Nat.add_assoc, ← Nat.add_assoc] at this
        rw [this, h1.2 j hj']
        unfold hx
        rw [if_neg (by omega)]
        rfl
    · have h2 := hR.2 k hk
      show f (124 + 3 * k) = iv (if A.S.u k = -1 then 0 else 1) ∧ (A.S.u k ≠ -1 → f (124 + 3 * k + 1) = iv (A.S.u k) ∧ (k % 4 = 0 → f (124 + 3 * k + 2) = iv (A.S.v k)))
      rw [b3 _ (by omega), b3 _ (by omega), b3 _ (by omega)]
      exact h2
  have hcn : cnts (fun n => A.S.b (sw12 n)) 4 = cnts A.S.b 4 := by
    show 0 + cnt (A.S.b (sw12 0)) + cnt (A.S.b (sw12 1)) + cnt (A.S.b (sw12 2)) + cnt (A.S.b (sw12 3)) = 0 + cnt (A.S.b 0) + cnt (A.S.b 1) + cnt (A.S.b 2) + cnt (A.S.b 3)
    show 0 + cnt (A.S.b 0) + cnt (A.S.b 2) + cnt (A.S.b 1) + cnt (A.S.b 3) = _
    omega
  refine c_ex60 (G := G) (S := (Sc.mk (fun n => A.S.b (sw12 n)) A.S.u A.S.v)) (M := N) hS1 4 0 G2 f _ _ (by omega) b1 hHX b4 ?_
  intro G3 f' d1 d2 d3
  refine ⟨?_, ⟨_, d1, ?_⟩, d3⟩
  · show some (Value.int (iv (cnts (fun n => A.S.b (sw12 n)) 4 : Nat))) = _
    rw [hcn]; rfl
  · have a2' : MI N (rem A) := a2
    refine ⟨a2'.1, ⟨?_, okS_ex hS'⟩, a2'.2.2⟩
    refine ⟨fun k hk => ?_, d2.2⟩
    have h1 := d2.1 k hk
    refine ⟨?_, fun j hj => ?_⟩
    · show f' (31 * k) = iv (((A.S.b (sw12 k)).map swp).length : Nat)
      rw [List.length_map]; exact h1.1
    · have hj' : j < (A.S.b (sw12 k)).length := by
        have : j < ((A.S.b (sw12 k)).map swp).length := hj
        rw [List.length_map] at this; exact this
      show f' (31 * k + 1 + j) = iv (chr (((A.S.b (sw12 k)).map swp).getD j 0) : Nat)
      rw [gD_map hj', h1.2 j hj']
      unfold hx
      rw [if_pos (by omega)]
      rfl
end MX
