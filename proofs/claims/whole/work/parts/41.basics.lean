/-! LAYER 2: what a call does to the heap; terms -/
def tf (p : Prop) [Decidable p] : Int32 := if p then iv 1 else iv 0
theorem tf_0 (p : Prop) [Decidable p] : (tf p = 0) = ¬ p := by
  unfold tf
  by_cases h : p
  · simp [h]; decide
  · simp [h]; decide
theorem tf_iv1 (p : Prop) [Decidable p] : (tf p = iv 1) = p := by
  unfold tf
  by_cases h : p
  · simp [h]
  · simp [h]; decide
theorem tf_z (p : Prop) [Decidable p] : (narrow .boolean (.int (tf p)) = .int (tf p)) = True := by
  unfold tf
  by_cases h : p
  · simp only [if_pos h]; exact iv_narZ (Or.inr rfl)
  · simp only [if_neg h]; exact iv_narZ (Or.inl rfl)
theorem tf_t {p : Prop} [Decidable p] (h : p) : tf p = iv 1 := if_pos h
theorem tf_f {p : Prop} [Decidable p] (h : ¬ p) : tf p = iv 0 := if_neg h
theorem tf_c {p q : Prop} [Decidable p] [Decidable q] (h : p ↔ q) : tf p = tf q := by
  unfold tf
  by_cases hp : p
  · rw [if_pos hp, if_pos (h.mp hp)]
  · rw [if_neg hp, if_neg (fun z => hp (h.mpr z))]
/-- outside R the heap is the same -/
def sam (E : Ev) (G G1 : Hp) (R : Nat → Prop) : Prop := (∀ a, ¬ R a → gt E G1 a = gt E G a) ∧ G1.1.length = G.1.length ∧ G1.2 = G.2
theorem sam_rf {E : Ev} {G : Hp} {R : Nat → Prop} : sam E G G R := ⟨fun _ _ => rfl, rfl, rfl⟩
theorem sam_st {E : Ev} {G : Hp} {R : Nat → Prop} {a : Nat} {c : Cl} (h : R a) : sam E G (st E G a c) R :=
  ⟨fun b hb => gt_st_ne (fun e => hb (e ▸ h)), st_len0.1, st_len0.2⟩
theorem sam_tr {E : Ev} {G G1 G2 : Hp} {R : Nat → Prop} (h : sam E G G1 R) (k : sam E G1 G2 R) : sam E G G2 R :=
  ⟨fun a ha => (k.1 a ha).trans (h.1 a ha), k.2.1.trans h.2.1, k.2.2.trans h.2.2⟩
theorem sam_mono {E : Ev} {G G1 : Hp} {R S : Nat → Prop} (h : sam E G G1 R) (k : ∀ a, R a → S a) : sam E G G1 S :=
  ⟨fun a ha => h.1 a (fun z => ha (k a z)), h.2⟩
theorem sam_tr2 {E : Ev} {G G1 G2 : Hp} {R S : Nat → Prop} (h : sam E G G1 S) (k : sam E G1 G2 R) (m : ∀ a, R a → S a) : sam E G G2 S := sam_tr h (sam_mono k m)
theorem sam_s {E : Ev} {G G1 : Hp} {R : Nat → Prop} {a : Nat} {c : Cl} (h : sam E G G1 R) (ha : R a) : sam E G (st E G1 a c) R := sam_tr h (sam_st ha)
/-- an interval of addresses -/
def ivl (lo n : Nat) : Nat → Prop := fun a => lo ≤ a ∧ a < lo + n
/-- a term object at t, its symbols at t + 1 -/
def Tm (E : Ev) (G : Hp) (t cap : Nat) (xs : List Nat) : Prop := gt E G t = some (cO 2 [.ref (t + 1), .int (iv xs.length)]) ∧ (∃ f, gt E G (t + 1) = some (cA 1 cap f) ∧ ∀ i, i < xs.length → f i = iv (xs.getD i 0 : Nat)) ∧ (xs.length ≤ cap ∧ cap ≤ 200) ∧ ∀ i, i < xs.length → xs.getD i 0 < 10
theorem Tm_sam {E : Ev} {G G1 : Hp} {R : Nat → Prop} {t cap : Nat} {xs : List Nat} (h : Tm E G t cap xs) (k : sam E G G1 R) (h1 : ¬ R t) (h2 : ¬ R (t + 1)) : Tm E G1 t cap xs := by
  obtain ⟨a, ⟨f, b, c⟩, d, e⟩ := h
  exact ⟨(k.1 _ h1).trans a, ⟨f, (k.1 _ h2).trans b, c⟩, d, e⟩
