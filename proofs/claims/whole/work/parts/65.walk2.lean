-- uses 41 42 43 44 45 46 47 48 49 50 51 52 53 54 55 56 57 58 59 60 61 62 63 64
/-! the states by paths; all in one -/
theorem raStep_ne {S : Sc} {lb f : Nat → Int} {n m : Nat} (h1 : m ≠ 2 * n) (h2 : m ≠ 2 * n + 1) : raStep S lb n f m = f m := by
  unfold raStep
  split
  · split
    · rfl
    · split
      · unfold upI
        rw [if_neg h1]
      · unfold upI
        rw [if_neg h2, if_neg h1]
  · rfl
def rv (S : Sc) (l x : Int) (c : Nat) : Int := if (0 ≤ l ∧ l < 4) ∧ c ≤ ar l.toNat then (if (0 ≤ x ∧ x < 3) ∧ S.u (4 * x.toNat + l.toNat) ≠ -1 then (if c = 1 then S.u (4 * x.toNat + l.toNat) else S.v (4 * x.toNat + l.toNat)) else -9) else -9
theorem raStep_eq {S : Sc} {lb f : Nat → Int} {n c : Nat} (hc : c = 1 ∨ c = 2) (h9 : f (2 * n + c - 1) = -9) : raStep S lb n f (2 * n + c - 1) = rv S (lb n) (f n) c := by
  have ha := ar_le (lb n).toNat
  unfold raStep rv
  by_cases c1 : 0 ≤ lb n ∧ lb n < 4
  · by_cases c2 : (0 ≤ f n ∧ f n < 3) ∧ S.u (4 * (f n).toNat + (lb n).toNat) ≠ -1
    · rw [if_pos ⟨⟨c1, c2.1⟩, c2.2⟩]
      rcases (by omega : ar (lb n).toNat = 0 ∨ ar (lb n).toNat = 1 ∨ ar (lb n).toNat = 2) with z | z | z
      · rw [if_pos z, if_neg (by omega)]
        exact h9
      · rw [if_neg (by omega), if_pos z]
        unfold upI
        rcases hc with rfl | rfl
        · rw [if_pos (by omega), if_pos (by omega), if_pos c2, if_pos rfl]
        · rw [if_neg (by omega), if_neg (by omega)]
          exact h9
      · rw [if_neg (by omega), if_neg (by omega)]
        unfold upI
        rcases hc with rfl | rfl
        · rw [if_neg (by omega), if_pos (by omega), if_pos (by omega), if_pos c2, if_pos rfl]
        · rw [if_pos (by omega), if_pos (by omega), if_pos c2, if_neg (by decide)]
    · rw [if_neg (fun z => c2 ⟨z.1.2, z.2⟩), if_neg c2, h9]
      split <;> rfl
  · rw [if_neg (fun z => c1 z.1.1), if_neg (fun z => c1 z.1)]
    exact h9
theorem raN_1 {S : Sc} {lb : Nat → Int} : ∀ k, raN S lb k 1 = 0 := by
  intro k
  induction k with
  | zero => rfl
  | succ k ih =>
    show raStep S lb (k + 1) (raN S lb k) 1 = 0
    rw [raStep_ne (by omega) (by omega)]
    exact ih
theorem raN_2 {S : Sc} {lb : Nat → Int} : ∀ k n c, 1 ≤ n → c = 1 ∨ c = 2 → raN S lb k (2 * n + c - 1) = if n ≤ k then rv S (lb n) (raN S lb k n) c else -9 := by
  intro k
  induction k with
  | zero =>
    intro n c hn hc
    rw [if_neg (by omega)]
    show upI (fun _ => -9) 1 0 (2 * n + c - 1) = -9
    unfold upI
    rw [if_neg (by omega)]
  | succ k ih =>
    intro n c hn hc
    show raStep S lb (k + 1) (raN S lb k) (2 * n + c - 1) = if n ≤ k + 1 then rv S (lb n) (raStep S lb (k + 1) (raN S lb k) n) c else -9
    have h := ih n c hn hc
    by_cases c1 : n = k + 1
    · rw [if_neg (by omega)] at h
      subst c1
      rw [if_pos (by omega), raStep_ne (m := k + 1) (by omega) (by omega)]
      exact raStep_eq hc h
    · rw [raStep_ne (by omega) (by omega), h]
      by_cases c2 : n ≤ k
      · rw [if_pos c2, if_pos (by omega), raStep_ne (by omega) (by omega)]
      · rw [if_neg c2, if_neg (by omega)]
def okW (w : Wa) : Prop := okT w.1 ∧ (w.2.2 = -9 ∨ (0 ≤ w.2.2 ∧ w.2.2 < 3))
theorem wst_ok {S : Sc} {q : Int} {t c : Nat} (hS : okS S) (hq : q = -9 ∨ (0 ≤ q ∧ q < 3)) (ht : t < 4) : wst S q t c = -9 ∨ (0 ≤ wst S q t c ∧ wst S q t c < 3) := by
  unfold wst
  split
  · next z =>
    have := hS.2 (4 * q.toNat + t) (by omega)
    split
    · omega
    · omega
  · exact Or.inl rfl
theorem chd_ok {zs : List Nat} {c : Nat} (h : okT zs) (h4 : hd zs < 4) (hc : c = 1 ∨ c = 2) (hca : c ≤ ar (hd zs)) : okT (chd zs c) := by
  have ha := ar_le (hd zs)
  have hwz : wfo (ar (hd zs)) (zs.drop 1) := by
    have w0 := h.1
    have e0 := dropC (okT_pos h)
    rw [List.drop_zero] at e0
    rw [e0] at w0
    have w1 : wfo (0 + ar (hd zs)) (zs.drop 1) := w0
    rw [Nat.zero_add] at w1
    exact w1
  obtain ⟨k, hk⟩ : ∃ k, ar (hd zs) = k + 1 := ⟨ar (hd zs) - 1, by omega⟩
  rw [hk] at hwz
  obtain ⟨a1, a2, a3⟩ := arg1 hwz h.2.1 h.2.2
  unfold chd
  rcases hc with rfl | rfl
  · rw [if_pos rfl]
    exact a1
  · rw [if_neg (by decide)]
    have : k = 1 := by omega
    subst this
    exact (arg1 (k := 0) a2 h.2.1 h.2.2).1
theorem wd_ok {S : Sc} {w w' : Wa} {c : Nat} (hS : okS S) (h : okW w) (hc : c = 1 ∨ c = 2) (e : wd S w c = some w') : okW w' := by
  unfold wd at e
  split at e
  · next z =>
    have := Option.some.inj e
    subst this
    exact ⟨(evl_ok hS.1 40 _ (chd_ok h.1 z.1 hc z.2)).1, wst_ok hS h.2 z.1⟩
  · cases e
theorem wks_ok {S : Sc} (hS : okS S) : ∀ (p : List Nat) (w w' : Wa), okW w → dig p → wks S (some w) p = some w' → okW w' := by
  intro p
  induction p with
  | nil =>
    intro w w' h hp e
    have := Option.some.inj e
    subst this
    exact h
  | cons c p ih =>
    intro w w' h hp e
    have e2 : wks S (wd S w c) p = some w' := e
    cases hw : wd S w c with
    | none =>
      rw [hw, wks_none] at e2
      cases e2
    | some v =>
      rw [hw] at e2
      exact ih v w' (wd_ok hS h (hp c List.mem_cons_self) hw) (fun x hx => hp x (List.mem_cons_of_mem _ hx)) e2
theorem okW_0 {S : Sc} (hS : okS S) : okW (w0 S) := ⟨(evl_ok hS.1 40 _ okT_S).1, Or.inr (by show 0 ≤ (0 : Int) ∧ (0 : Int) < 3; decide)⟩
theorem nd_lt : ∀ (p : List Nat) (n : Nat), dig p → nd n p < (n + 1) * 2 ^ p.length := by
  intro p
  induction p with
  | nil => intro n _; show n < (n + 1) * 1; omega
  | cons c p ih =>
    intro n hp
    have hc := hp c List.mem_cons_self
    have := ih (2 * n + c - 1) (fun x hx => hp x (List.mem_cons_of_mem _ hx))
    show nd (2 * n + c - 1) p < (n + 1) * 2 ^ (p.length + 1)
    refine Nat.lt_of_lt_of_le this ?_
    rw [Nat.pow_succ, Nat.mul_comm (2 ^ p.length) 2, ← Nat.mul_assoc]
    exact Nat.mul_le_mul_right _ (by omega)
theorem nd_rg {p : List Nat} (hp : dig p) (hl : p.length ≤ 6) : 1 ≤ nd 1 p ∧ nd 1 p < 128 ∧ (p.length ≤ 5 → nd 1 p < 64) := by
  have h1 := (nd_div p 1 hp).2
  have h2 := nd_lt p 1 hp
  have h3 : 0 < 2 ^ p.length := Nat.pow_pos (by decide)
  have h4 : 2 ^ p.length ≤ 2 ^ 6 := Nat.pow_le_pow_right (by decide) hl
  have h5 : (2 : Nat) ^ 6 = 64 := rfl
  refine ⟨by omega, by omega, fun z => ?_⟩
  have h6 : 2 ^ p.length ≤ 2 ^ 5 := Nat.pow_le_pow_right (by decide) z
  have h7 : (2 : Nat) ^ 5 = 32 := rfl
  omega
/-- the tree's rows at a path -/
theorem tree_at {S : Sc} {x0 : Nat → Int} (hS : okS S) : ∀ (k : Nat) (p : List Nat), p.length = k → k ≤ 6 → dig p → (match wks S (some (w0 S)) p with
    | none => (tL S x0).1 (nd 1 p) = -1
    | some w => (tL S x0).1 (nd 1 p) = lbN w.1 ∧ (tL S x0).2 (nd 1 p) = (w.2.1 : Int) ∧ raN S (tL S x0).1 63 (nd 1 p) = w.2.2) := by
  intro k
  induction k with
  | zero =>
    intro p hl hk hp
    have : p = [] := List.length_eq_zero_iff.mp hl
    subst this
    have h1 := unf_in (S := S) 6 1 0 [4] (fun _ => -1, x0) [] 0 (by simp) hp (by omega)
    rw [Nat.zero_add] at h1
    exact ⟨h1.1, h1.2, raN_1 63⟩
  | succ k ih =>
    intro p hl hk hp
    obtain ⟨p', c, rfl⟩ : ∃ p' c, p = p' ++ [c] := by
      rcases List.eq_nil_or_concat p with z | ⟨p', c, z⟩
      · subst z; simp at hl
      · exact ⟨p', c, by simpa using z⟩
    have hl' : p'.length = k := by simp at hl; exact hl
    have hp' : dig p' := fun x hx => hp x (List.mem_append_left _ hx)
    have hc : c = 1 ∨ c = 2 := hp c (List.mem_append_right _ (by simp))
    have h1 := unf_in (S := S) 6 1 0 [4] (fun _ => -1, x0) (p' ++ [c]) 0 (by omega) hp (by omega)
    rw [Nat.zero_add] at h1
    have hih := ih p' hl' (by omega) hp'
    have hnr := nd_rg hp' (by omega)
    have hra := raN_2 (S := S) (lb := (tL S x0).1) 63 (nd 1 p') c hnr.1 hc
    rw [if_pos (by have := hnr.2.2 (by omega); omega), ← nd_app] at hra
    have key : wks S (some (w0 S)) (p' ++ [c]) = match wks S (some (w0 S)) p' with | none => none | some w => wd S w c := wks_app p' _ c
    have h1' : inP (fun _ => -1, x0) (tL S x0) (nd 1 (p' ++ [c])) (wks S (some (w0 S)) (p' ++ [c])) := h1
    cases hw : wks S (some (w0 S)) p' with
    | none =>
      rw [hw] at key
      dsimp only [Sc_b, Sc_u, Sc_v, Md_len, Md_acts, Md_nxt, Md_ts, Md_bs, Md_lab, Md_xp, Md_sta, Md_tx, Md_nw, Md_tr, Md_rd, Md_di, Md_ke, Md_ik, Md_te, Md_bu, Md_va, Md_ju, Md_ma] at key
      rw [key] at h1' ⊢
      exact h1'
    | some w =>
      rw [hw] at key hih
      dsimp only [Sc_b, Sc_u, Sc_v, Md_len, Md_acts, Md_nxt, Md_ts, Md_bs, Md_lab, Md_xp, Md_sta, Md_tx, Md_nw, Md_tr, Md_rd, Md_di, Md_ke, Md_ik, Md_te, Md_bu, Md_va, Md_ju, Md_ma] at key hih
      rw [key] at h1' ⊢
      cases hv : wd S w c with
      | none =>
        rw [hv] at h1'
        exact h1'
      | some v =>
        rw [hv] at h1'
        refine ⟨h1'.1, h1'.2, ?_⟩
        rw [hra, hih.1, hih.2.2]
        have ok := wks_ok hS p' _ _ (okW_0 hS) hp' hw
        unfold wd at hv
        split at hv
        · next z =>
          have := Option.some.inj hv
          rw [← this]
          show rv S (lbN w.1) w.2.2 c = wst S w.2.2 (hd w.1) c
          have e1 : lbN w.1 = (hd w.1 : Nat) := by
            unfold lbN
            rw [if_pos z.1]
          unfold rv wst
          rw [e1, Int.toNat_natCast, if_pos ⟨by omega, z.2⟩]
          by_cases c2 : 0 ≤ w.2.2 ∧ S.u (4 * w.2.2.toNat + hd w.1) ≠ -1
          · rw [if_pos c2, if_pos ⟨by rcases ok.2 with y | y <;> omega, c2.2⟩]
          · rw [if_neg c2, if_neg (fun y => c2 ⟨y.1.1, y.2⟩)]
        · cases hv
