-- uses 41 42 43 44 45 46 47 48 49 50 51 52 53 54 58 69 70 71
/-! the class's type check: bodies, rounds -/
section TE
variable {E : Ev} {d : Nat} {G : Hp} {P : Po} {c s : Nat} {w : Bool} {S : Sc} {T : Tb} {ed : Nat} {rm se : Int}
/-- the stack, its top first -/
def Stk (E : Ev) (G : Hp) (a : Nat) (st : List Nat) : Prop := ∃ f, gt E G a = some (cA 0 30 f) ∧ ∀ i, i < st.length → f (st.length - 1 - i) = iv (st.getD i 0 : Nat)
theorem arg_st {y a1 a2 : Nat} (hy : 4 ≤ y) (h8 : y < 8) (h1 : a1 < 8) (h2 : a2 < 8) (z1 : ar y < 1 → a1 = 0) (z2 : ar y < 2 → a2 = 0) : a1 + 8 * a2 < stn (y - 4) := by
  have hv := stn_v ⟨y - 4, by omega⟩
  dsimp only [Sc_b, Sc_u, Sc_v, Md_len, Md_acts, Md_nxt, Md_ts, Md_bs, Md_lab, Md_xp, Md_sta, Md_tx, Md_nw, Md_tr, Md_rd, Md_di, Md_ke, Md_ik, Md_te, Md_bu, Md_va, Md_ju, Md_ma] at hv
  rw [show 4 + (y - 4) = y by omega] at hv
  have ha := ar_le y
  rcases (by omega : ar y = 0 ∨ ar y = 1 ∨ ar y = 2) with q | q | q
  · have := z1 (by omega)
    have := z2 (by omega)
    rw [hv.1 q]
    omega
  · have := z2 (by omega)
    rw [hv.2.1 q]
    omega
  · rw [hv.2.2.1 q]
    omega
theorem c_btL (hE : EK E) (hT8 : T8 T) {b cb n sets : Nat} {xs : List Nat} (hse : sets < 64) (hb : b + 1 < c ∨ c + 16 ≤ b) (hx : okB n xs) : ∀ (r : Nat) (G1 : Hp) (l5 l6 l7 l8 : Option Value), r ≤ xs.length → TcO E G1 c s rm se → TcT E G1 c S → TcN E G1 c T → Tm E G1 b cb xs → Stk E G1 (c + 15) (tyS (smT S T sets) (xs.drop r)) → sam E G G1 (ivl (c + 15) 1) → (∀ G2 st, Stk E G2 (c + 15) st → sam E G G2 (ivl (c + 15) 1) → P (some (.int (iv ((tyS (smT S T sets) xs).getD 0 0 : Nat)))) G2) → Xr E (d + 2) x_X5_bodyTypes 10 [some (.ref c), some (.ref b), some (.int (iv (sets : Int))), some (.int (iv ((tyS (smT S T sets) (xs.drop r)).length : Nat))), some (.int (iv ((r : Int) - 1))), l5, l6, l7, l8] [] G1 P := by
  intro r
  have hsm : ∀ y a b, smT S T sets y a b < 8 := fun y a b => smT_lt hT8 hse
  have hwf : ∀ r, r ≤ xs.length → ∃ o, wfo o (xs.drop r) := by
    intro r hr
    have := hx.2.1
    rw [← List.take_append_drop r xs] at this
    obtain ⟨o, h1, h2⟩ := wfo_ctx _ _ _ this
    exact ⟨o, h1⟩
  induction r with
  | zero =>
    intro G1 l5 l6 l7 l8 hr hO hT hN hb1 hS hm hP
    refine g_X5_bodyTypes_10 ?_
    rw [if_pos (by decide)]
    rw [List.drop_zero] at hS ⊢
    have hl := tyS_len (f := smT S T sets) xs 1 hx.2.1
    rw [hl, if_neg (by decide), u_FR hO.1 rfl]
    obtain ⟨f, h1, h2⟩ := hS
    have h3 := h2 0 (by omega)
    rw [hl] at h3
    rw [show iv 0 = iv ((0 : Nat) : Int) from rfl, u_IAn h1 (by omega)]
    have h4 : f 0 = iv ((tyS (smT S T sets) xs).getD 0 0 : Nat) := h3
    rw [h4]
    exact hP G1 _ ⟨f, h1, h2⟩ hm
  | succ r ih =>
    intro G1 l5 l6 l7 l8 hr hO hT hN hb1 hSt hm hP
    have hrl : r < xs.length := by omega
    have hy := hx.2.2 r hrl
    have hy10 := hy.1
    have hl30 := hx.1
    have ha := ar_le (xs.getD r 0)
    obtain ⟨o, hw⟩ := hwf r (by omega)
    rw [dropC hrl] at hw
    cases o with
    | zero => exact hw.elim
    | succ o =>
    have hw2 : wfo (o + ar (xs.getD r 0)) (xs.drop (r + 1)) := hw
    have hlen := tyS_len (f := smT S T sets) _ _ hw2
    have hlen30 : (tyS (smT S T sets) (xs.drop (r + 1))).length ≤ xs.length - (r + 1) := by
      have gen : ∀ (ys : List Nat), (tyS (smT S T sets) ys).length ≤ ys.length := by
        intro ys
        induction ys with
        | nil => exact Nat.le_refl _
        | cons y ys ih =>
          unfold tyS
          rw [List.length_cons, List.length_cons, List.length_drop]
          omega
      have := gen (xs.drop (r + 1))
      rw [List.length_drop] at this
      exact this
    refine g_X5_bodyTypes_10 ?_
    simp (disch := first | assumption | omega | decide) only [iv_lt0]
    rw [if_neg (by omega), Tm_r hb1, show ((r + 1 : Nat) : Int) - 1 = ((r : Nat) : Int) by omega]
    refine ⟨trivial, ?_⟩
    rw [v_I (fun P => c_symN (d := d) (P := P) hb1 hrl), v_I (fun P => c_arN (d := d + 1) (P := P) hE.1 hy10)]
    obtain ⟨f, hf1, hf2⟩ := hSt
    have e1 : tyS (smT S T sets) (xs.drop r) = smT S T sets (xs.getD r 0) (if 1 ≤ ar (xs.getD r 0) then (tyS (smT S T sets) (xs.drop (r + 1))).getD 0 0 else 0) (if 2 ≤ ar (xs.getD r 0) then (tyS (smT S T sets) (xs.drop (r + 1))).getD 1 0 else 0) :: (tyS (smT S T sets) (xs.drop (r + 1))).drop (ar (xs.getD r 0)) := by
      rw [dropC hrl]
      rfl
    have g8 := fun i => tyS_g hsm (xs.drop (r + 1)) i
    rw [e1] at ih
    generalize hst : tyS (smT S T sets) (xs.drop (r + 1)) = sk at *
    generalize hyy : xs.getD r 0 = y at *
    simp (disch := first | assumption | omega | decide) only [iv_lt]
    rw [if_neg (by omega), u_FR hO.1 rfl, u_L hf1]
    have e2 : iv ((sk.length : Nat) : Int) - iv ((ar y : Nat) : Int) = iv ((sk.length - ar y : Nat) : Int) := by
      rw [iv_sub]
      congr 1
      omega
    rw [e2]
    simp (disch := first | assumption | omega | decide) only [iv_lt]
    rw [if_pos (by omega)]
    -- the value is put on the stack
    have put : ∀ (a1 a2 : Nat) (l7 l8 : Option Value), a1 = (if 1 ≤ ar y then sk.getD 0 0 else 0) → a2 = (if 2 ≤ ar y then sk.getD 1 0 else 0) → qCI E (d + 2) i_X6_setsOf [.int (iv (a1 : Int)), .int (iv (a2 : Int))] G1 (fun v11 G10 => (rcv E G10 c 5 = true ∧ (qCI E (d + 2) i_X5_symbolTypes [.ref c, .int (iv (y : Int)), .int v11, .int (iv (sets : Int))] G10 fun v13 G12 => (qIS E G12 (c + 15) (iv ((sk.length - ar y : Nat) : Int)) v13 fun G14 => Xr E (d + 2) x_X5_bodyTypes 10 [some (.ref c), some (.ref b), some (.int (iv (sets : Int))), some (.int (iv ((sk.length - ar y : Nat) : Int) + iv 1)), some (.int (iv (r : Int) + iv (-1))), some (.int (iv (y : Int))), some (.int (iv ((ar y : Nat) : Int))), l7, l8] [] G14 P)))) := by
      intro a1 a2 l7 l8 h1 h2
      have ha1 : a1 < 8 := by
        rw [h1]
        split
        · exact g8 0
        · decide
      have ha2 : a2 < 8 := by
        rw [h2]
        split
        · exact g8 1
        · decide
      rw [v_I (fun P => c_setsOf (d := d + 1) (P := P)), u_rcv hO.1]
      refine ⟨trivial, ?_⟩
      rw [show (a1 : Int) + 8 * (a2 : Int) = ((a1 + 8 * a2 : Nat) : Int) by omega, v_I (fun P => c_symbolTypes (d := d) (P := P) hO hT hN hy10 ha1 ha2 hse (fun z1 z2 => arg_st z1 z2 ha1 ha2 (fun z => by rw [h1, if_neg (by omega)]) (fun z => by rw [h2, if_neg (by omega)]))), u_ISn hf1 (by omega), i_s, show iv (r : Int) + iv (-1) = iv ((r : Int) - 1) by rw [iv_add]; rfl]
      have m2 : sam E G1 (st E G1 (c + 15) (cA 0 30 (upd f (sk.length - ar y) (iv ((smT S T sets y a1 a2 : Nat) : Int))))) (ivl (c + 15) 1) := sam_st ⟨Nat.le_refl _, by omega⟩
      rw [← h1, ← h2] at ih
      have el : (smT S T sets y a1 a2 :: sk.drop (ar y)).length = sk.length - ar y + 1 := by
        rw [List.length_cons, List.length_drop]
      rw [el] at ih
      refine ih _ _ _ _ _ (by omega) (TcO_sam hO m2 (by unfold ivl; omega) (by unfold ivl; omega) (by unfold ivl; omega)) (TcT_sam hT m2 (fun a h1 h2 => by unfold ivl; omega)) (TcN_sam hN m2 (fun a h1 h2 => by unfold ivl; omega)) (Tm_sam hb1 m2 (by unfold ivl; omega) (by unfold ivl; omega)) ⟨_, gt_st_self (by rw [hf1]; rfl), ?_⟩ (sam_tr hm m2) hP
      intro i hi
      rw [el] at hi ⊢
      unfold upd
      cases i with
      | zero =>
        rw [if_pos (by omega)]
        rfl
      | succ i =>
        rw [if_neg (by omega)]
        have e3 : (smT S T sets y a1 a2 :: sk.drop (ar y)).getD (i + 1) 0 = sk.getD (ar y + i) 0 := by simp [List.getD, List.getElem?_drop]
        rw [e3, show sk.length - ar y + 1 - 1 - (i + 1) = sk.length - 1 - (ar y + i) by omega]
        exact hf2 _ (by omega)
    rcases (by omega : ar y = 0 ∨ ar y = 1 ∨ ar y = 2) with q | q | q
    · rw [if_pos (by omega), if_pos (by omega), u_FR hO.1 rfl]
      exact put 0 0 _ _ (by rw [if_neg (by omega)]) (by rw [if_neg (by omega)])
    · have e4 : iv ((sk.length : Nat) : Int) - iv 1 = iv ((sk.length - 1 - 0 : Nat) : Int) := by
        rw [iv_sub]
        congr 1
        omega
      rw [if_neg (by omega), u_FR hO.1 rfl, e4, u_IAn hf1 (by omega), hf2 0 (by omega), if_pos (by omega), u_FR hO.1 rfl]
      exact put (sk.getD 0 0) 0 _ _ (by rw [if_pos (by omega)]) (by rw [if_neg (by omega)])
    · have e4 : iv ((sk.length : Nat) : Int) - iv 1 = iv ((sk.length - 1 - 0 : Nat) : Int) := by
        rw [iv_sub]
        congr 1
        omega
      have e5 : iv ((sk.length : Nat) : Int) - iv 2 = iv ((sk.length - 1 - 1 : Nat) : Int) := by
        rw [iv_sub]
        congr 1
        omega
      rw [if_neg (by omega), u_FR hO.1 rfl, e4, u_IAn hf1 (by omega), hf2 0 (by omega), if_neg (by omega), u_FR hO.1 rfl, e5, u_IAn hf1 (by omega), hf2 1 (by omega), u_FR hO.1 rfl]
      exact put (sk.getD 0 0) (sk.getD 1 0) _ _ (by rw [if_pos (by omega)]) (by rw [if_pos (by omega)])
theorem c_bodyTypes (hE : EK E) (hT8 : T8 T) {b cb n sets : Nat} {xs : List Nat} (hse : sets < 64) (hb : b + 1 < c ∨ c + 16 ≤ b) (hx : okB n xs) (hO : TcO E G c s rm se) (hT : TcT E G c S) (hN : TcN E G c T) (hJ : TcJ E G c) (hb1 : Tm E G b cb xs) : runs E (d + 3) i_X5_bodyTypes [.ref c, .ref b, .int (iv (sets : Int))] G (fun v G1 => v = some (.int (iv ((tyS (smT S T sets) xs).getD 0 0 : Nat))) ∧ (∃ f, gt E G1 (c + 15) = some (cA 0 30 f)) ∧ sam E G G1 (ivl (c + 15) 1)) := by
  refine e_X5_bodyTypes ?_
  rw [Tm_r hb1]
  refine ⟨trivial, ?_⟩
  rw [v_I (fun P => c_size (d := d + 1) (P := P) hb1), iv_sub]
  obtain ⟨f, hf⟩ := hJ.2
  have hz : tyS (smT S T sets) (xs.drop xs.length) = [] := by rw [List.drop_length]; rfl
  have := c_btL (d := d) (G := G) (P := fun v G1 => v = some (.int (iv ((tyS (smT S T sets) xs).getD 0 0 : Nat))) ∧ (∃ f, gt E G1 (c + 15) = some (cA 0 30 f)) ∧ sam E G G1 (ivl (c + 15) 1)) hE hT8 hse hb hx xs.length G none none none none (Nat.le_refl _) hO hT hN hb1 (by rw [hz]; exact ⟨f, hf, fun i hi => absurd hi (Nat.not_lt_zero _)⟩) sam_rf (fun G2 sk h1 h2 => ⟨rfl, ⟨h1.choose, h1.choose_spec.1⟩, h2⟩)
  rw [hz] at this
  exact this
end TE
