-- uses 41 42 43 44 45 46 47 48 49 50 51 52 53 54 55 56 57 58 59 60 61 62 63 64 65 66 67 68 69 70 71 72 73 74 75 76 77 78 79 80 81 82
/-! the class's object: all that it holds -/
def CF (c : Nat) : List Value := [.ref (c + 1), .ref (c + 3), .ref (c + 15), .ref (c + 36), .ref (c + 52), .ref (c + 222), .ref (c + 247), .ref (c + 248), .ref (c + 260), .ref (c + 262), .ref (c + 274)]
def K0 (E : Ev) (G : Hp) (c : Nat) : Prop := gt E G c = some (cO 6 (CF c))
def K1 (E : Ev) (G : Hp) (c : Nat) (tx : List Nat) : Prop := ∃ p, Tx E G (c + 1) tx p
def K2 (E : Ev) (G : Hp) (c : Nat) (S : Sc) (n : Nat) : Prop := ∃ w ed, ed ≤ n ∧ Sx E G (c + 3) w S ed ∧ Tok E G (c + 15) (c + 3) S ed ∧ Yok E G (c + 36) (c + 3) S ed
def K4 (E : Ev) (G : Hp) (c : Nat) (R : Nat → Sc) (nx ct : Nat) : Prop := Hi E G (c + 52) R nx ct
def K5 (E : Ev) (G : Hp) (c : Nat) (K : Nat → Sc) (F : Nat → Bool) : Prop := (∃ g, gt E G (c + 222) = some (cR 0 2 g) ∧ ∀ i, i < 2 → g i = some (c + 223 + 12 * i)) ∧ (∀ i, i < 2 → ∃ e, Sx E G (c + 223 + 12 * i) false (K i) e) ∧ ∃ f, gt E G (c + 247) = some (cA 2 2 f) ∧ ∀ i, i < 2 → f i = b2 (F i)
def K6 (E : Ev) (G : Hp) (c : Nat) : Prop := (∃ S e, Sx E G (c + 248) false S e) ∧ ∃ zs, Tm E G (c + 260) 30 zs
def K7 (E : Ev) (G : Hp) (c n : Nat) : Prop := ∃ T ed, ed ≤ n ∧ Sx E G (c + 262) false T ed ∧ Yok E G (c + 274) (c + 262) T ed
def CI (E : Ev) (G : Hp) (c : Nat) (A : As) (n : Nat) : Prop := K0 E G c ∧ K1 E G c A.tx ∧ K2 E G c A.S n ∧ K4 E G c A.R A.nx A.ct ∧ K5 E G c A.K A.F ∧ K6 E G c ∧ K7 E G c n
def cP (E : Ev) (G : Hp) (c n : Nat) (r : Int × As) : Po := fun v G1 => v = some (.int (iv r.1)) ∧ CI E G1 c r.2 (n + 10) ∧ sam E G G1 (ivl c 290)
section KS
variable {E : Ev} {G G1 : Hp} {c n lo k : Nat} {S : Sc} {tx : List Nat} {R : Nat → Sc} {nx ct : Nat} {K : Nat → Sc} {F : Nat → Bool}
theorem K0_s (h : K0 E G c) (m : sam E G G1 (ivl lo k)) (hr : c + 1 ≤ lo ∨ lo + k ≤ c) : K0 E G1 c := (m.1 _ (by unfold ivl; omega)).trans h
theorem K1_s (h : K1 E G c tx) (m : sam E G G1 (ivl lo k)) (hr : c + 3 ≤ lo ∨ lo + k ≤ c + 1) : K1 E G1 c tx := by
  obtain ⟨p, h⟩ := h
  exact ⟨p, Tx_sam h m (by unfold ivl; omega) (by unfold ivl; omega)⟩
theorem K2_s (h : K2 E G c S n) (m : sam E G G1 (ivl lo k)) (hr : c + 52 ≤ lo ∨ lo + k ≤ c + 3) : K2 E G1 c S n := by
  obtain ⟨w, ed, h1, h2, h3, h4⟩ := h
  exact ⟨w, ed, h1, Sm_dis h2 m (by omega), Tok_sam h3 m (fun a _ _ => by unfold ivl; omega), Yok_sam h4 m (fun a _ _ => by unfold ivl; omega)⟩
theorem K4_s (h : K4 E G c R nx ct) (m : sam E G G1 (ivl lo k)) (hr : c + 222 ≤ lo ∨ lo + k ≤ c + 52) : K4 E G1 c R nx ct := Hi_dis h m (by omega)
theorem K5_s (h : K5 E G c K F) (m : sam E G G1 (ivl lo k)) (hr : c + 248 ≤ lo ∨ lo + k ≤ c + 222) : K5 E G1 c K F := by
  obtain ⟨⟨g, h1, h2⟩, h3, ⟨f, h4, h5⟩⟩ := h
  refine ⟨⟨g, (m.1 _ (by unfold ivl; omega)).trans h1, h2⟩, fun i hi => ?_, ⟨f, (m.1 _ (by unfold ivl; omega)).trans h4, h5⟩⟩
  obtain ⟨e, he⟩ := h3 i hi
  exact ⟨e, Sm_dis he m (by omega)⟩
theorem K6_s (h : K6 E G c) (m : sam E G G1 (ivl lo k)) (hr : c + 262 ≤ lo ∨ lo + k ≤ c + 248) : K6 E G1 c := by
  obtain ⟨⟨T, e, h1⟩, ⟨zs, h2⟩⟩ := h
  exact ⟨⟨T, e, Sm_dis h1 m (by omega)⟩, ⟨zs, Tm_sam h2 m (by unfold ivl; omega) (by unfold ivl; omega)⟩⟩
theorem K7_s (h : K7 E G c n) (m : sam E G G1 (ivl lo k)) (hr : c + 290 ≤ lo ∨ lo + k ≤ c + 262) : K7 E G1 c n := by
  obtain ⟨T, ed, h1, h2, h3⟩ := h
  exact ⟨T, ed, h1, Sm_dis h2 m (by omega), Yok_sam h3 m (fun a _ _ => by unfold ivl; omega)⟩
theorem K2_m (h : K2 E G c S n) {n' : Nat} (hn : n ≤ n') : K2 E G c S n' := by
  obtain ⟨w, ed, h1, h2⟩ := h
  exact ⟨w, ed, by omega, h2⟩
theorem K7_m (h : K7 E G c n) {n' : Nat} (hn : n ≤ n') : K7 E G c n' := by
  obtain ⟨T, ed, h1, h2⟩ := h
  exact ⟨T, ed, by omega, h2⟩
theorem CI_m {A : As} (h : CI E G c A n) {n' : Nat} (hn : n ≤ n') : CI E G c A n' := ⟨h.1, h.2.1, K2_m h.2.2.1 hn, h.2.2.2.1, h.2.2.2.2.1, h.2.2.2.2.2.1, K7_m h.2.2.2.2.2.2 hn⟩
theorem CI_s {A : As} (h : CI E G c A n) (m : sam E G G1 (ivl lo k)) (hr : c + 290 ≤ lo ∨ lo + k ≤ c) : CI E G1 c A n := by
  obtain ⟨h0, h1, h2, h4, h5, h6, h7⟩ := h
  exact ⟨K0_s h0 m (by omega), K1_s h1 m (by omega), K2_s h2 m (by omega), K4_s h4 m (by omega), K5_s h5 m (by omega), K6_s h6 m (by omega), K7_s h7 m (by omega)⟩
end KS
section CQ
variable {E : Ev} {d : Nat} {G : Hp} {P : Po} {c n : Nat} {A : As}
theorem k_0 {F : Nat → Prop} (h : K0 E G c) : qFR E G c 6 0 F = F (c + 1) := u_FR h rfl
theorem k_1 {F : Nat → Prop} (h : K0 E G c) : qFR E G c 6 1 F = F (c + 3) := u_FR h rfl
theorem k_2 {F : Nat → Prop} (h : K0 E G c) : qFR E G c 6 2 F = F (c + 15) := u_FR h rfl
theorem k_3 {F : Nat → Prop} (h : K0 E G c) : qFR E G c 6 3 F = F (c + 36) := u_FR h rfl
theorem k_4 {F : Nat → Prop} (h : K0 E G c) : qFR E G c 6 4 F = F (c + 52) := u_FR h rfl
theorem k_5 {F : Nat → Prop} (h : K0 E G c) : qFR E G c 6 5 F = F (c + 222) := u_FR h rfl
theorem k_6 {F : Nat → Prop} (h : K0 E G c) : qFR E G c 6 6 F = F (c + 247) := u_FR h rfl
theorem k_7 {F : Nat → Prop} (h : K0 E G c) : qFR E G c 6 7 F = F (c + 248) := u_FR h rfl
theorem k_8 {F : Nat → Prop} (h : K0 E G c) : qFR E G c 6 8 F = F (c + 260) := u_FR h rfl
theorem k_9 {F : Nat → Prop} (h : K0 E G c) : qFR E G c 6 9 F = F (c + 262) := u_FR h rfl
theorem k_10 {F : Nat → Prop} (h : K0 E G c) : qFR E G c 6 10 F = F (c + 274) := u_FR h rfl
theorem k_rc (h : K0 E G c) : (rcv E G c 6 = true) = True := u_rcv h
theorem Hi_rc {h : Nat} {R : Nat → Sc} {nx ct : Nat} (k : Hi E G h R nx ct) : (rcv E G h 0 = true) = True := u_rcv k.1
/-- a call that changes nothing -/
theorem cP_r {r : Int} (h : CI E G c A n) : cP E G c n (r, A) (some (.int (iv r))) G := ⟨rfl, CI_m h (by omega), sam_rf⟩
theorem u_ar (hE : EK E) {t : Nat} (ht : t < 10) {F : Int32 → Prop} : qIA 6 E G (eA E) (iv (t : Int)) F = F (iv (ar t : Nat)) := by
  have ho : gt E G (eA E) = none := gt_old hE.1
  have h2 : oI 6 E (eA E) = some (10, arit) := by simp [oI]
  simp only [qIA, ho, h2, true_and, iv_in (show 0 ≤ (t : Int) ∧ (t : Int) < (10 : Nat) by omega) (by decide), not_false_iff, iv_cl (show Rg (t : Int) by constructor <;> omega), Int.toNat_natCast, arit_ar t ht]
theorem x_append (hA : okA A) (h : CI E G c A n) {a : Int} (ha : Rg a) : runs E (d + 2) i_X6_append [.ref c, .int (iv a)] G (cP E G c n (s_append A a)) := by
  refine e_X6_append ?_
  have hl := hA.2.2.2.2
  by_cases c1 : 0 ≤ a ∧ a ≤ 255
  · obtain ⟨a, rfl⟩ := Int.eq_ofNat_of_zero_le c1.1
    obtain ⟨h0, ⟨p, h1⟩, h2, h4, h5, h6, h7⟩ := h
    rw [if_neg (by rw [iv_lt0 ha]; omega), if_pos (by rw [iv_le ha (by decide)]; omega), k_0 h0, Tx_r h1]
    refine ⟨trivial, u_I (c_Tadd (d := d) h1 (show a ≤ 255 by omega)) ?_⟩
    rintro v G1 ⟨rfl, b1, b2⟩
    refine ⟨_, rfl, ?_⟩
    have mk : ∀ tx, Tx E G1 (c + 1) tx p → CI E G1 c (As.mk tx A.S A.R A.nx A.ct A.K A.F) (n + 10) := fun tx z => ⟨K0_s h0 b2 (by omega), ⟨p, z⟩, K2_m (K2_s h2 b2 (by omega)) (by omega), K4_s h4 b2 (by omega), K5_s h5 b2 (by omega), K6_s h6 b2 (by omega), K7_m (K7_s h7 b2 (by omega)) (by omega)⟩
    have sm : sam E G G1 (ivl c 290) := sam_mono b2 (fun a ha => by unfold ivl at *; omega)
    by_cases c2 : A.tx.length < 99
    · have e : s_append A (a : Int) = ((A.tx.length : Int) + 1, (As.mk (A.tx ++ [a]) A.S A.R A.nx A.ct A.K A.F)) := by unfold s_append; rw [if_pos c1, if_pos c2]; rfl
      rw [if_pos c2] at b1
      rw [e, if_neg (by rw [tf_t c2]; decide), k_0 (K0_s h0 b2 (by omega)), Tx_r b1]
      refine ⟨trivial, ?_⟩
      rw [v_I (fun P => c_Tsize (d := d) (P := P) b1)]
      refine ⟨?_, mk _ b1, sm⟩
      rw [List.length_append]
      rfl
    · have e : s_append A (a : Int) = (-4, A) := by unfold s_append; rw [if_pos c1, if_neg c2]
      rw [if_neg c2] at b1
      rw [e, if_pos (by rw [tf_f c2]; decide)]
      exact ⟨rfl, mk _ b1, sm⟩
  · have e : s_append A a = (-2, A) := by unfold s_append; rw [if_neg c1]
    rw [e]
    by_cases c2 : a < 0
    · rw [if_pos (by rw [iv_lt0 ha]; exact c2)]
      exact cP_r h
    · rw [if_neg (by rw [iv_lt0 ha]; exact c2), if_neg (by rw [iv_le ha (by decide)]; omega)]
      exact cP_r h
theorem x_clearText (h : CI E G c A n) : runs E (d + 2) i_X6_clearText [.ref c] G (cP E G c n (s_clearText A)) := by
  refine e_X6_clearText ?_
  obtain ⟨h0, ⟨p, h1⟩, h2, h4, h5, h6, h7⟩ := h
  rw [k_0 h0, Tx_r h1]
  refine ⟨trivial, ?_⟩
  rw [v_I (fun P => c_Tsize (d := d) (P := P) h1), k_0 h0, Tx_r h1]
  refine ⟨trivial, u_V (c_Tempty (d := d) h1) ?_⟩
  rintro v G1 ⟨rfl, b1, b2⟩
  refine ⟨rfl, rfl, ⟨K0_s h0 b2 (by omega), ⟨p, b1⟩, K2_m (K2_s h2 b2 (by omega)) (by omega), K4_s h4 b2 (by omega), K5_s h5 b2 (by omega), K6_s h6 b2 (by omega), K7_m (K7_s h7 b2 (by omega)) (by omega)⟩, sam_mono b2 (fun a ha => by unfold ivl at *; omega)⟩
/-- the reader: what it leaves -/
theorem x_read (hE : EK E) (h : CI E G c A n) {F : Int32 → Hp → Prop} (k : ∀ G1, CI E G1 c A n → (∃ e, Sx E G1 (c + 248) false (rdA A.tx 99 0 S0).2 e) → sam E G G1 (ivl c 290) → F (iv (rdA A.tx 99 0 S0).1) G1) : rcv E G (c + 1) 3 = true ∧ qCI E (d + 9) i_X3_readSetup [.ref (c + 1), .ref (c + 248), .ref (c + 260)] G F := by
  obtain ⟨h0, ⟨p, h1⟩, h2, h4, h5, ⟨⟨Sd, e, h6⟩, ⟨zs, h6b⟩⟩, h7⟩ := h
  rw [Tx_r h1]
  refine ⟨trivial, u_I (c_readSetup (d := d) hE (w := false) (by omega) (by omega) (by omega) h1 h6b h6) ?_⟩
  rintro v G1 ⟨rfl, ⟨p', b1, b2⟩, ⟨ws, b3⟩, ⟨e', b4⟩, b5⟩
  refine ⟨_, rfl, ?_⟩
  have ne : ∀ a, ¬ ivl (c + 1) 2 a → ¬ ivl (c + 248) 14 a → gt E G1 a = gt E G a := fun a y1 y2 => b5.1 a (fun z => by unfold r3 ivl at *; omega)
  have q0 : K0 E G1 c := (ne _ (by unfold ivl; omega) (by unfold ivl; omega)).trans h0
  have mm : ∀ {Q : Nat → Prop}, (∀ a, Q a → ¬ ivl (c + 1) 2 a ∧ ¬ ivl (c + 248) 14 a) → sam E G G1 (fun a => ¬ Q a) := fun hq => ⟨fun a ha => ne a (hq a (Classical.not_not.mp ha)).1 (hq a (Classical.not_not.mp ha)).2, b5.2⟩
  have q2 : K2 E G1 c A.S n := by
    obtain ⟨w, ed, g1, g2, g3, g4⟩ := h2
    exact ⟨w, ed, g1, Sm_sam g2 b5 (fun a _ _ => by unfold r3 ivl; omega), Tok_sam g3 b5 (fun a _ _ => by unfold r3 ivl; omega), Yok_sam g4 b5 (fun a _ _ => by unfold r3 ivl; omega)⟩
  have q4 : K4 E G1 c A.R A.nx A.ct := Hi_sam h4 b5 (fun a _ _ => by unfold r3 ivl; omega)
  have q5 : K5 E G1 c A.K A.F := by
    obtain ⟨⟨g, g1, g2⟩, g3, ⟨f, g4, g5⟩⟩ := h5
    refine ⟨⟨g, (ne _ (by unfold ivl; omega) (by unfold ivl; omega)).trans g1, g2⟩, fun i hi => ?_, ⟨f, (ne _ (by unfold ivl; omega) (by unfold ivl; omega)).trans g4, g5⟩⟩
    obtain ⟨e, he⟩ := g3 i hi
    exact ⟨e, Sm_sam he b5 (fun a _ _ => by unfold r3 ivl; omega)⟩
  have q7 : K7 E G1 c n := by
    obtain ⟨T, ed, g1, g2, g3⟩ := h7
    exact ⟨T, ed, g1, Sm_sam g2 b5 (fun a _ _ => by unfold r3 ivl; omega), Yok_sam g3 b5 (fun a _ _ => by unfold r3 ivl; omega)⟩
  exact k G1 ⟨q0, ⟨p', b1⟩, q2, q4, q5, ⟨⟨_, e', b4⟩, ⟨ws, b3⟩⟩, q7⟩ ⟨e', b4⟩ (sam_mono b5 (fun a ha => by unfold r3 ivl at *; omega))
theorem x_errorPosition (hE : EK E) (h : CI E G c A n) : runs E (d + 10) i_X6_errorPosition [.ref c] G (cP E G c n (s_errorPosition A)) := by
  refine e_X6_errorPosition ?_
  rw [k_0 h.1, k_7 h.1, k_8 h.1]
  refine x_read (d := d) hE h ?_
  intro G1 a1 a2 a3
  exact ⟨rfl, CI_m a1 (by omega), a3⟩
/-- the main scheme becomes another one -/
theorem K2_n {G1 : Hp} {S S' : Sc} {w' : Bool} {ed : Nat} (hn : ed ≤ n) (h1 : Sx E G1 (c + 3) w' S' (ed + 1)) (h2 : Tok E G (c + 15) (c + 3) S ed) (h3 : Yok E G (c + 36) (c + 3) S ed) {Q : Nat → Prop} (m : sam E G G1 Q) (hr : ∀ a, c + 15 ≤ a → a < c + 52 → ¬ Q a) : K2 E G1 c S' (n + 10) :=
  ⟨w', ed + 1, by omega, h1, Tok_new (Tok_sam h2 m (fun a x y => hr a (by omega) (by omega))) (by omega), Yok_new (Yok_sam h3 m (fun a x y => hr a (by omega) (by omega))) (by omega)⟩
theorem okS_rg {S : Sc} (h : okS S) : ∀ k, k < 12 → Rg (S.u k) := by
  intro k hk
  have := (okS_u' h hk).1
  constructor <;> omega
theorem x_load (hE : EK E) (hA : okA A) (h : CI E G c A n) : runs E (d + 10) i_X6_load [.ref c] G (cP E G c n (s_load A)) := by
  refine e_X6_load ?_
  rw [k_0 h.1, k_7 h.1, k_8 h.1]
  refine x_read (d := d) hE h ?_
  rintro G1 a1 ⟨e', a2⟩ a3
  have hrg : Rg (rdA A.tx 99 0 S0).1 := rdA_rg hA.2.2.2.2
  by_cases c1 : (rdA A.tx 99 0 S0).1 = -9
  · have e : s_load A = (((tcn (rdA A.tx 99 0 S0).2.u 12 : Nat) : Int), (As.mk A.tx ((rdA A.tx 99 0 S0).2) A.R A.nx 0 A.K (fun _ => false))) := by unfold s_load; rw [if_pos c1]
    have hok := rdA_ok (tx := A.tx) 99 0 S0 okS_0
    obtain ⟨h0, h1, ⟨w, ed, g1, g2, g3, g4⟩, h4, h5, h6, h7⟩ := a1
    rw [e, if_pos (by rw [c1]), k_1 h0, k_7 h0, Sm_rc g2]
    refine ⟨trivial, u_V (c_Sbecome (d := d + 6) g2 a2 (by omega)) ?_⟩
    rintro v G2 ⟨rfl, b1, b2⟩
    refine ⟨rfl, ?_⟩
    have q4 := K4_s h4 b2 (by omega)
    rw [k_4 (K0_s h0 b2 (by omega)), Hi_rc q4]
    refine ⟨trivial, u_V (c_forget (d := d + 8) q4) ?_⟩
    rintro v G3 ⟨rfl, d1, d2⟩
    refine ⟨rfl, ?_⟩
    have q0 : K0 E G3 c := K0_s (K0_s h0 b2 (by omega)) d2 (by omega)
    obtain ⟨⟨g, i1, i2⟩, i3, ⟨f, i4, i5⟩⟩ := K5_s (K5_s h5 b2 (by omega)) d2 (by omega)
    refine g_X6_load_43 ?_
    rw [if_neg (by decide), k_6 q0, show iv 0 = iv ((0 : Nat) : Int) from rfl, u_BSn i4 (Or.inr rfl) (by decide), i_s]
    refine g_X6_load_43 ?_
    have j4 := gt_st_self (E := E) (G := G3) (a := c + 247) (c := cA 2 2 (upd f 0 (vp_nar (kT 2) (iv ((0 : Nat) : Int))))) (by rw [i4]; rfl)
    have s4 : sam E G3 _ (ivl (c + 247) 1) := sam_st (E := E) (G := G3) (a := c + 247) (c := cA 2 2 (upd f 0 (vp_nar (kT 2) (iv ((0 : Nat) : Int))))) ⟨by omega, by omega⟩
    rw [if_neg (by decide), k_6 (K0_s q0 s4 (by omega)), u_BSn j4 (Or.inr rfl) (by decide), i_s]
    refine g_X6_load_43 ?_
    generalize hG4 : st E G3 (c + 247) (cA 2 2 (upd f 0 (vp_nar (kT 2) (iv ((0 : Nat) : Int))))) = G4 at *
    have j5 := gt_st_self (E := E) (G := G4) (a := c + 247) (c := cA 2 2 (upd (upd f 0 (vp_nar (kT 2) (iv ((0 : Nat) : Int)))) (0 + 1) (vp_nar (kT 2) (iv 0)))) (by rw [j4]; rfl)
    have s5 : sam E G4 _ (ivl (c + 247) 1) := sam_st (E := E) (G := G4) (a := c + 247) (c := cA 2 2 (upd (upd f 0 (vp_nar (kT 2) (iv ((0 : Nat) : Int)))) (0 + 1) (vp_nar (kT 2) (iv 0)))) ⟨by omega, by omega⟩
    generalize hG5 : st E G4 (c + 247) (cA 2 2 (upd (upd f 0 (vp_nar (kT 2) (iv ((0 : Nat) : Int)))) (0 + 1) (vp_nar (kT 2) (iv 0)))) = G5 at *
    have s35 := sam_tr s4 s5
    have g2' := Sm_dis (Sm_dis b1 d2 (by omega)) s35 (by omega)
    have q0' : K0 E G5 c := K0_s q0 s35 (by omega)
    rw [if_pos (by decide), k_1 q0', Sm_rc g2']
    refine ⟨trivial, ?_⟩
    rw [v_I (fun P => c_transitionCount (d := d + 8) (P := P) g2' (okS_rg hok))]
    have m15 : sam E G1 G5 (fun a => ivl (c + 3) 12 a ∨ ivl (c + 52) 196 a) := sam_tr (sam_mono b2 (fun a ha => Or.inl ha)) (sam_tr (sam_mono d2 (fun a ha => Or.inr (by unfold ivl at *; omega))) (sam_mono s35 (fun a ha => Or.inr (by unfold ivl at *; omega))))
    refine ⟨rfl, ⟨q0', K1_s (K1_s (K1_s h1 b2 (by omega)) d2 (by omega)) s35 (by omega), K2_n g1 g2' g3 g4 m15 (fun a x y => by unfold ivl; omega), K4_s d1 s35 (by omega), ⟨⟨g, (s35.1 _ (by unfold ivl; omega)).trans i1, i2⟩, fun i hi => ?_, ⟨_, j5, ?_⟩⟩, K6_s (K6_s (K6_s h6 b2 (by omega)) d2 (by omega)) s35 (by omega), K7_m (K7_s (K7_s (K7_s h7 b2 (by omega)) d2 (by omega)) s35 (by omega)) (by omega)⟩, sam_tr a3 (sam_mono m15 (fun a ha => by unfold ivl at *; omega))⟩
    · obtain ⟨e, he⟩ := i3 i hi
      exact ⟨e, Sm_dis he s35 (by omega)⟩
    · intro i hi
      show upd (upd f 0 _) (0 + 1) _ i = iv 0
      unfold upd
      rcases (by omega : i = 0 ∨ i = 1) with rfl | rfl
      · rw [if_neg (by decide), if_pos rfl]; exact iv_nar2 (Or.inl rfl)
      · rw [if_pos rfl]; exact iv_nar2 (Or.inl rfl)
  · have e : s_load A = (-3, A) := by unfold s_load; rw [if_neg c1]
    rw [e, if_neg (by rw [iv_eq hrg (by decide)]; exact c1)]
    exact ⟨rfl, CI_m a1 (by omega), a3⟩
end CQ
