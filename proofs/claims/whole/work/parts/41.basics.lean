-- uses
/-! LAYER 2: what a call does to the heap; terms -/
def tf (p : Prop) [Decidable p] : Int32 := if p then iv 1 else iv 0
theorem tf_0 (p : Prop) [Decidable p] : (tf p = 0) = ¬ p := by
  unfold tf
  by_cases h : p
  · simp [h]; decide
  · simp [h]; decide
theorem tf_iv1 (p : Prop) [Decidable p] : (tf p = iv 1) = p := by
  unfold tf
  by_cases h : p
  · simp [h]
  · simp [h]; decide
theorem tf_z (p : Prop) [Decidable p] : (narrow .boolean (.int (tf p)) = .int (tf p)) = True := by
  unfold tf
  by_cases h : p
  · simp only [if_pos h]; exact iv_narZ (Or.inr rfl)
  · simp only [if_neg h]; exact iv_narZ (Or.inl rfl)
theorem tf_t {p : Prop} [Decidable p] (h : p) : tf p = iv 1 := if_pos h
theorem tf_f {p : Prop} [Decidable p] (h : ¬ p) : tf p = iv 0 := if_neg h
theorem tf_c {p q : Prop} [Decidable p] [Decidable q] (h : p ↔ q) : tf p = tf q := by
  unfold tf
  by_cases hp : p
  · rw [if_pos hp, if_pos (h.mp hp)]
  · rw [if_neg hp, if_neg (fun z => hp (h.mpr z))]
/-- outside R the heap is the same -/
def sam (E : Ev) (G G1 : Hp) (R : Nat → Prop) : Prop := (∀ a, ¬ R a → gt E G1 a = gt E G a) ∧ G1.1.length = G.1.length ∧ G1.2 = G.2
theorem sam_rf {E : Ev} {G : Hp} {R : Nat → Prop} : sam E G G R := ⟨fun _ _ => rfl, rfl, rfl⟩
theorem sam_st {E : Ev} {G : Hp} {R : Nat → Prop} {a : Nat} {c : Cl} (h : R a) : sam E G (st E G a c) R :=
  ⟨fun b hb => gt_st_ne (fun e => hb (e ▸ h)), st_len0.1, st_len0.2⟩
theorem sam_tr {E : Ev} {G G1 G2 : Hp} {R : Nat → Prop} (h : sam E G G1 R) (k : sam E G1 G2 R) : sam E G G2 R :=
  ⟨fun a ha => (k.1 a ha).trans (h.1 a ha), k.2.1.trans h.2.1, k.2.2.trans h.2.2⟩
theorem sam_mono {E : Ev} {G G1 : Hp} {R S : Nat → Prop} (h : sam E G G1 R) (k : ∀ a, R a → S a) : sam E G G1 S :=
  ⟨fun a ha => h.1 a (fun z => ha (k a z)), h.2⟩
theorem sam_tr2 {E : Ev} {G G1 G2 : Hp} {R S : Nat → Prop} (h : sam E G G1 S) (k : sam E G1 G2 R) (m : ∀ a, R a → S a) : sam E G G2 S := sam_tr h (sam_mono k m)
theorem sam_s {E : Ev} {G G1 : Hp} {R : Nat → Prop} {a : Nat} {c : Cl} (h : sam E G G1 R) (ha : R a) : sam E G (st E G1 a c) R := sam_tr h (sam_st ha)
/-- an interval of addresses -/
def ivl (lo n : Nat) : Nat → Prop := fun a => lo ≤ a ∧ a < lo + n
/-- a term object at t, its symbols at t + 1 -/
def Tm (E : Ev) (G : Hp) (t cap : Nat) (xs : List Nat) : Prop := gt E G t = some (cO 2 [.ref (t + 1), .int (iv xs.length)]) ∧ (∃ f, gt E G (t + 1) = some (cA 1 cap f) ∧ ∀ i, i < xs.length → f i = iv (xs.getD i 0 : Nat)) ∧ (xs.length ≤ cap ∧ cap ≤ 200) ∧ ∀ i, i < xs.length → xs.getD i 0 < 10
theorem Tm_sam {E : Ev} {G G1 : Hp} {R : Nat → Prop} {t cap : Nat} {xs : List Nat} (h : Tm E G t cap xs) (k : sam E G G1 R) (h1 : ¬ R t) (h2 : ¬ R (t + 1)) : Tm E G1 t cap xs := by
  obtain ⟨a, ⟨f, b, c⟩, d, e⟩ := h
  exact ⟨(k.1 _ h1).trans a, ⟨f, (k.1 _ h2).trans b, c⟩, d, e⟩
/-! heap formulas, a row each -/
section UU
variable {E : Ev} {G : Hp} {a n : Nat} {f : Nat → Int32}
theorem u_FI {c k : Nat} {F : Int32 → Prop} {fs : List Value} {x : Int32} (h : gt E G a = some (cO c fs)) (hx : fs[k]? = some (.int x)) : qFI E G a c k F = F x := by
  simp only [qFI, h, hx, true_and]
theorem u_FR {c k : Nat} {F : Nat → Prop} {fs : List Value} {x : Nat} (h : gt E G a = some (cO c fs)) (hx : fs[k]? = some (.ref x)) : qFR E G a c k F = F x := by
  simp only [qFR, h, hx, true_and]
theorem u_P {c k : Nat} {v : Value} {F : Hp → Prop} {fs : List Value} (h : gt E G a = some (cO c fs)) (hk : k < fs.length) : qP E G a c k v F = F (st E G a (cO c (fs.set k v))) := by
  simp only [qP, h, hk, true_and]
theorem u_IA {o : Nat} {i : Int} {F : Int32 → Prop} (h : gt E G a = some (cA 0 n f)) (hi : (0 ≤ i ∧ i < n) ∧ n < 2147483648) : qIA o E G a (iv i) F = F (f i.toNat) := by
  have hr : Rg i := by constructor <;> omega
  simp only [qIA, h, true_and, iv_in hi.1 hi.2, not_false_iff, iv_cl hr]
theorem u_BA {k : Nat} {i : Int} {F : Int32 → Prop} (h : gt E G a = some (cA k n f)) (hk : k = 1 ∨ k = 2) (hi : (0 ≤ i ∧ i < n) ∧ n < 2147483648) : qBA E G a (iv i) F = F (f i.toNat) := by
  have hr : Rg i := by constructor <;> omega
  simp only [qBA, h, hk, true_and, iv_in hi.1 hi.2, not_false_iff, iv_cl hr]
theorem u_RA {k : Nat} {g : Nat → Option Nat} {i : Int} {F : Nat → Prop} {x : Nat} (h : gt E G a = some (cR k n g)) (hk : k ≤ 2) (hi : (0 ≤ i ∧ i < n) ∧ n < 2147483648) (hx : g i.toNat = some x) : qRA E G a (iv i) F = F x := by
  have hr : Rg i := by constructor <;> omega
  simp only [qRA, h, hk, true_and, iv_in hi.1 hi.2, not_false_iff, iv_cl hr, hx]
theorem u_IS {i : Int} {x : Int32} {F : Hp → Prop} (h : gt E G a = some (cA 0 n f)) (hi : (0 ≤ i ∧ i < n) ∧ n < 2147483648) : qIS E G a (iv i) x F = F (st E G a (cA 0 n (upd f i.toNat x))) := by
  have hr : Rg i := by constructor <;> omega
  simp only [qIS, h, true_and, iv_in hi.1 hi.2, not_false_iff, iv_cl hr]
theorem u_BS {k : Nat} {i : Int} {x : Int32} {F : Hp → Prop} (h : gt E G a = some (cA k n f)) (hk : k = 1 ∨ k = 2) (hi : (0 ≤ i ∧ i < n) ∧ n < 2147483648) : qBS E G a (iv i) x F = F (st E G a (cA k n (upd f i.toNat (vp_nar (kT k) x)))) := by
  have hr : Rg i := by constructor <;> omega
  simp only [qBS, h, hk, true_and, iv_in hi.1 hi.2, not_false_iff, iv_cl hr]
theorem u_IAn {o i : Nat} {F : Int32 → Prop} (h : gt E G a = some (cA 0 n f)) (hi : i < n ∧ n < 2147483648) : qIA o E G a (iv (i : Int)) F = F (f i) := u_IA h (by omega)
theorem u_BAn {k i : Nat} {F : Int32 → Prop} (h : gt E G a = some (cA k n f)) (hk : k = 1 ∨ k = 2) (hi : i < n ∧ n < 2147483648) : qBA E G a (iv (i : Int)) F = F (f i) := u_BA h hk (by omega)
theorem u_RAn {k i : Nat} {g : Nat → Option Nat} {F : Nat → Prop} {x : Nat} (h : gt E G a = some (cR k n g)) (hk : k ≤ 2) (hi : i < n ∧ n < 2147483648) (hx : g i = some x) : qRA E G a (iv (i : Int)) F = F x := u_RA h hk (by omega) hx
theorem u_ISn {i : Nat} {x : Int32} {F : Hp → Prop} (h : gt E G a = some (cA 0 n f)) (hi : i < n ∧ n < 2147483648) : qIS E G a (iv (i : Int)) x F = F (st E G a (cA 0 n (upd f i x))) := u_IS h (by omega)
theorem u_BSn {k i : Nat} {x : Int32} {F : Hp → Prop} (h : gt E G a = some (cA k n f)) (hk : k = 1 ∨ k = 2) (hi : i < n ∧ n < 2147483648) : qBS E G a (iv (i : Int)) x F = F (st E G a (cA k n (upd f i (vp_nar (kT k) x)))) := u_BS h hk (by omega)
theorem u_L {o k : Nat} {F : Int32 → Prop} (h : gt E G a = some (cA k n f)) : qL o E G a F = F (iv n) := by
  simp only [qL, h, iv_nat]
theorem u_LR {o k : Nat} {g : Nat → Option Nat} {F : Int32 → Prop} (h : gt E G a = some (cR k n g)) (hk : k ≤ 2) : qL o E G a F = F (iv n) := by
  simp only [qL, h, hk, true_and, iv_nat]
theorem u_rcv {c : Nat} {fs : List Value} (h : gt E G a = some (cO c fs)) : (rcv E G a c = true) = True := by
  unfold rcv
  rw [h]
  simp
theorem u_I {d id : Nat} {args : List Value} {F : Int32 → Hp → Prop} {P : Po} (h : runs E d id args G P) (k : ∀ v G1, P v G1 → ∃ x, v = some (.int x) ∧ F x G1) : qCI E d id args G F := by
  refine runs_mono _ _ _ _ _ _ ?_ h
  intro v G1 hp
  obtain ⟨x, rfl, h2⟩ := k v G1 hp
  exact h2
theorem u_V {d id : Nat} {args : List Value} {F : Hp → Prop} {P : Po} (h : runs E d id args G P) (k : ∀ v G1, P v G1 → v = none ∧ F G1) : qCV E d id args G F := by
  refine runs_mono _ _ _ _ _ _ ?_ h
  intro v G1 hp
  obtain ⟨rfl, h2⟩ := k v G1 hp
  exact h2
theorem u_R {d id : Nat} {args : List Value} {F : Nat → Hp → Prop} {P : Po} (h : runs E d id args G P) (k : ∀ v G1, P v G1 → ∃ x, v = some (.ref x) ∧ F x G1) : qCR E d id args G F := by
  refine runs_mono _ _ _ _ _ _ ?_ h
  intro v G1 hp
  obtain ⟨x, rfl, h2⟩ := k v G1 hp
  exact h2
/-- a call that changes nothing, as an equation -/
theorem v_I {d id : Nat} {args : List Value} {F : Int32 → Hp → Prop} {x : Int32} (h : ∀ P : Po, runs E d id args G P = P (some (.int x)) G) : qCI E d id args G F = F x G := by
  unfold qCI
  rw [h]
theorem v_R {d id : Nat} {args : List Value} {F : Nat → Hp → Prop} {x : Nat} (h : ∀ P : Po, runs E d id args G P = P (some (.ref x)) G) : qCR E d id args G F = F x G := by
  unfold qCR
  rw [h]
end UU
section UT
variable {E : Ev} {G : Hp} {t cap : Nat} {xs : List Nat}
theorem Tm_l {F : Int32 → Prop} (h : Tm E G t cap xs) : qFI E G t 2 1 F = F (iv xs.length) := u_FI h.1 rfl
theorem Tm_a {F : Nat → Prop} (h : Tm E G t cap xs) : qFR E G t 2 0 F = F (t + 1) := u_FR h.1 rfl
theorem Tm_g {i : Int} {F : Int32 → Prop} (h : Tm E G t cap xs) (hi : 0 ≤ i ∧ i < xs.length) : qBA E G (t + 1) (iv i) F = F (iv (xs.getD i.toNat 0 : Nat)) := by
  obtain ⟨h1, ⟨f, h2, h3⟩, h4, h5⟩ := h
  rw [u_BA h2 (Or.inl rfl) (by omega), h3 _ (by omega)]
theorem Tm_r (h : Tm E G t cap xs) : (rcv E G t 2 = true) = True := u_rcv h.1
theorem Tm_n {F : Int32 → Prop} {o : Nat} (h : Tm E G t cap xs) : qL o E G (t + 1) F = F (iv cap) := by
  obtain ⟨h1, ⟨f, h2, h3⟩, h4, h5⟩ := h
  exact u_L h2
end UT
