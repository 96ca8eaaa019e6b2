-- uses 41 42 43 44 45 46 47 48 49 50 51 52 53 54 55 56 57 58 59 60 61 62 63
/-! the tree by its paths: pure -/
abbrev Wa : Type := List Nat × Nat × Int
def chd (zs : List Nat) (c : Nat) : List Nat := if c = 1 then slc zs 1 (1 + eol 1 (zs.drop 1)) else slc zs (1 + eol 1 (zs.drop 1)) (1 + eol 1 (zs.drop 1) + eol 1 (zs.drop (1 + eol 1 (zs.drop 1))))
def wst (S : Sc) (q : Int) (t c : Nat) : Int := if 0 ≤ q ∧ S.u (4 * q.toNat + t) ≠ -1 then (if c = 1 then S.u (4 * q.toNat + t) else S.v (4 * q.toNat + t)) else -9
def wd (S : Sc) (w : Wa) (c : Nat) : Option Wa := if hd w.1 < 4 ∧ c ≤ ar (hd w.1) then some ((evl S.b 40 (chd w.1 c)).2, w.2.1 + (evl S.b 40 (chd w.1 c)).1, wst S w.2.2 (hd w.1) c) else none
def wks (S : Sc) : Option Wa → List Nat → Option Wa
  | o, [] => o
  | none, _ :: _ => none
  | some w, c :: p => wks S (wd S w c) p
def w0 (S : Sc) : Wa := ((evl S.b 40 [4]).2, (evl S.b 40 [4]).1, 0)
def nd : Nat → List Nat → Nat
  | n, [] => n
  | n, c :: p => nd (2 * n + c - 1) p
theorem wks_none {S : Sc} : ∀ p, wks S none p = none := by
  intro p
  cases p <;> rfl
theorem wks_app {S : Sc} : ∀ (p : List Nat) (o : Option Wa) (c : Nat), wks S o (p ++ [c]) = match wks S o p with | none => none | some w => wd S w c := by
  intro p
  induction p with
  | nil =>
    intro o c
    cases o with
    | none => rfl
    | some w => rfl
  | cons x p ih =>
    intro o c
    cases o with
    | none => rfl
    | some w => exact ih _ _
theorem nd_app : ∀ (p : List Nat) (n c : Nat), nd n (p ++ [c]) = 2 * nd n p + c - 1 := by
  intro p
  induction p with
  | nil => intro n c; rfl
  | cons x p ih => intro n c; exact ih _ _
abbrev dig (p : List Nat) : Prop := ∀ c ∈ p, c = 1 ∨ c = 2
theorem nd_div : ∀ (p : List Nat) (n : Nat), dig p → nd n p / 2 ^ p.length = n ∧ n * 2 ^ p.length ≤ nd n p := by
  intro p
  induction p with
  | nil =>
    intro n _
    refine ⟨by simp [nd], ?_⟩
    show n * 1 ≤ n
    omega
  | cons c p ih =>
    intro n hp
    have hc := hp c List.mem_cons_self
    have h1 := ih (2 * n + c - 1) (fun x hx => hp x (List.mem_cons_of_mem _ hx))
    show nd (2 * n + c - 1) p / 2 ^ (p.length + 1) = n ∧ n * 2 ^ (p.length + 1) ≤ nd (2 * n + c - 1) p
    rw [Nat.pow_succ, ← Nat.div_div_eq_div_mul, h1.1]
    refine ⟨by omega, ?_⟩
    have h2 := h1.2
    have : n * (2 ^ p.length * 2) = (2 * n) * 2 ^ p.length := by
      rw [Nat.mul_comm (2 ^ p.length) 2, ← Nat.mul_assoc, Nat.mul_comm n 2]
    rw [this]
    exact Nat.le_trans (Nat.mul_le_mul_right _ (by omega)) h2
/-- where nothing is written -/
theorem unf_out {B : Nat → List Nat} : ∀ (h node acc : Nat) (xs : List Nat) (L : LL) (m : Nat), (∀ j, j ≤ h → m / 2 ^ j ≠ node) → (unf B h node acc xs L).1 m = L.1 m ∧ (unf B h node acc xs L).2 m = L.2 m := by
  intro h
  have mk : ∀ (node acc : Nat) (r : Nat × List Nat) (L : LL) (m : Nat), m ≠ node → (mrk node acc r L).1 m = L.1 m ∧ (mrk node acc r L).2 m = L.2 m := by
    intro node acc r L m hm
    constructor
    · show upI L.1 node _ m = _
      unfold upI
      rw [if_neg hm]
    · show upI L.2 node _ m = _
      unfold upI
      rw [if_neg hm]
  induction h with
  | zero =>
    intro node acc xs L m hm
    exact mk node acc _ L m (by have := hm 0 (by omega); simpa using this)
  | succ h ih =>
    intro node acc xs L m hm
    have hm0 : m ≠ node := by have := hm 0 (by omega); simpa using this
    have hch : ∀ c, c = 1 ∨ c = 2 → ∀ j, j ≤ h → m / 2 ^ j ≠ 2 * node + c - 1 := by
      intro c hc j hj e
      have := hm (j + 1) (by omega)
      rw [Nat.pow_succ, ← Nat.div_div_eq_div_mul, e] at this
      omega
    unfold unf
    split
    · next c =>
      have ha := ar_le (hd (evl B 40 xs).2)
      have m0 := mk node acc (evl B 40 xs) L m hm0
      rcases (by omega : ar (hd (evl B 40 xs).2) = 0 ∨ ar (hd (evl B 40 xs).2) = 1 ∨ ar (hd (evl B 40 xs).2) = 2) with q | q | q <;> rw [q]
      · exact m0
      · have := ih (2 * node + 1 - 1) (acc + (evl B 40 xs).1) (slc (evl B 40 xs).2 1 (1 + eol 1 ((evl B 40 xs).2.drop 1))) (mrk node acc (evl B 40 xs) L) m (hch 1 (Or.inl rfl))
        exact ⟨this.1.trans m0.1, this.2.trans m0.2⟩
      · have h1 := ih (2 * node + 1 - 1) (acc + (evl B 40 xs).1) (slc (evl B 40 xs).2 1 (1 + eol 1 ((evl B 40 xs).2.drop 1))) (mrk node acc (evl B 40 xs) L) m (hch 1 (Or.inl rfl))
        have h2 := ih (2 * node + 2 - 1) (acc + (evl B 40 xs).1) (chd (evl B 40 xs).2 2) (unf B h (2 * node + 1 - 1) (acc + (evl B 40 xs).1) (slc (evl B 40 xs).2 1 (1 + eol 1 ((evl B 40 xs).2.drop 1))) (mrk node acc (evl B 40 xs) L)) m (hch 2 (Or.inr rfl))
        exact ⟨h2.1.trans (h1.1.trans m0.1), h2.2.trans (h1.2.trans m0.2)⟩
    · exact mk node acc _ L m hm0
def lbN (zs : List Nat) : Int := if hd zs < 4 then (hd zs : Nat) else -2
/-- what unfold writes, path by path; a state goes along -/
def inP (L L1 : LL) (m : Nat) (o : Option Wa) : Prop := match o with
  | none => L1.1 m = L.1 m
  | some w => L1.1 m = lbN w.1 ∧ L1.2 m = (w.2.1 : Int)
theorem nd_sub {n c c' : Nat} {p : List Nat} (hn : 1 ≤ n) (hp : dig p) (hc : c = 1 ∨ c = 2) (hc' : c' = 1 ∨ c' = 2) (hne : c ≠ c') : ∀ j, nd (2 * n + c - 1) p / 2 ^ j ≠ 2 * n + c' - 1 := by
  intro j e
  have h1 := nd_div p (2 * n + c - 1) hp
  rcases Nat.lt_trichotomy j p.length with hj | hj | hj
  · have : nd (2 * n + c - 1) p / 2 ^ j / 2 ^ (p.length - j) = 2 * n + c - 1 := by
      rw [Nat.div_div_eq_div_mul, ← Nat.pow_add, show j + (p.length - j) = p.length by omega]
      exact h1.1
    rw [e] at this
    obtain ⟨k, hk⟩ : ∃ k, p.length - j = k + 1 := ⟨p.length - j - 1, by omega⟩
    rw [hk, Nat.pow_succ, Nat.mul_comm (2 ^ k) 2, ← Nat.div_div_eq_div_mul] at this
    have h3 : (2 * n + c' - 1) / 2 / 2 ^ k ≤ (2 * n + c' - 1) / 2 := Nat.div_le_self _ _
    omega
  · rw [hj, h1.1] at e
    omega
  · have : nd (2 * n + c - 1) p / 2 ^ p.length / 2 ^ (j - p.length) = 2 * n + c' - 1 := by
      rw [Nat.div_div_eq_div_mul, ← Nat.pow_add, show p.length + (j - p.length) = j by omega]
      exact e
    rw [h1.1] at this
    obtain ⟨k, hk⟩ : ∃ k, j - p.length = k + 1 := ⟨j - p.length - 1, by omega⟩
    rw [hk, Nat.pow_succ, Nat.mul_comm (2 ^ k) 2, ← Nat.div_div_eq_div_mul] at this
    have h3 : (2 * n + c - 1) / 2 / 2 ^ k ≤ (2 * n + c - 1) / 2 := Nat.div_le_self _ _
    omega
theorem nd_up {n : Nat} (hn : 1 ≤ n) {c' : Nat} (hc' : c' = 1 ∨ c' = 2) : ∀ j, n / 2 ^ j ≠ 2 * n + c' - 1 := by
  intro j e
  have : n / 2 ^ j ≤ n := Nat.div_le_self _ _
  omega
theorem unf_in {S : Sc} : ∀ (h node acc : Nat) (xs : List Nat) (L : LL) (p : List Nat) (q : Int), p.length ≤ h → dig p → 1 ≤ node → inP L (unf S.b h node acc xs L) (nd node p) (wks S (some ((evl S.b 40 xs).2, acc + (evl S.b 40 xs).1, q)) p) := by
  intro h
  have here : ∀ (node acc : Nat) (r : Nat × List Nat) (L : LL) (q : Int), inP L (mrk node acc r L) node (some (r.2, acc + r.1, q)) := by
    intro node acc r L q
    constructor
    · show upI L.1 node _ node = lbN r.2
      unfold upI lbN
      rw [if_pos rfl]
    · show upI L.2 node _ node = _
      unfold upI
      rw [if_pos rfl]
  induction h with
  | zero =>
    intro node acc xs L p q hl hp hn
    have : p = [] := List.length_eq_zero_iff.mp (by omega)
    subst this
    exact here node acc _ L q
  | succ h ih =>
    intro node acc xs L p q hl hp hn
    have hr : unf S.b (h + 1) node acc xs L = if hd (evl S.b 40 xs).2 < 4 then unl (fun nd ys L => unf S.b h nd (acc + (evl S.b 40 xs).1) ys L) node (evl S.b 40 xs).2 (ar (hd (evl S.b 40 xs).2)) 1 1 (mrk node acc (evl S.b 40 xs) L) else mrk node acc (evl S.b 40 xs) L := rfl
    rw [hr]
    generalize hR : evl S.b 40 xs = r at *
    have ha := ar_le (hd r.2)
    have mkne : ∀ (c : Nat) (p : List Nat), dig (c :: p) → nd node (c :: p) ≠ node := by
      intro c p hp
      have := nd_div (c :: p) node hp
      intro e
      have h2 := this.2
      rw [e] at h2
      have : 2 ≤ 2 ^ (c :: p).length := by
        rw [List.length_cons, Nat.pow_succ]
        have := Nat.pow_pos (n := p.length) (show 0 < 2 by decide)
        omega
      have : node * 2 ≤ node * 2 ^ (c :: p).length := Nat.mul_le_mul_left _ this
      omega
    have mk : ∀ (c : Nat) (p : List Nat), dig (c :: p) → (mrk node acc r L).1 (nd node (c :: p)) = L.1 (nd node (c :: p)) := by
      intro c p hp
      show upI L.1 node _ _ = _
      unfold upI
      rw [if_neg (mkne c p hp)]
    by_cases c4 : hd r.2 < 4
    · rw [if_pos c4]
      cases p with
      | nil =>
        have hk := here node acc r L q
        rcases (by omega : ar (hd r.2) = 0 ∨ ar (hd r.2) = 1 ∨ ar (hd r.2) = 2) with z | z | z <;> rw [z]
        · exact hk
        · have h1 := unf_out (B := S.b) h (2 * node + 1 - 1) (acc + r.1) (chd r.2 1) (mrk node acc r L) node (fun j _ => nd_up hn (Or.inl rfl) j)
          exact ⟨h1.1.trans hk.1, h1.2.trans hk.2⟩
        · have h1 := unf_out (B := S.b) h (2 * node + 1 - 1) (acc + r.1) (chd r.2 1) (mrk node acc r L) node (fun j _ => nd_up hn (Or.inl rfl) j)
          have h2 := unf_out (B := S.b) h (2 * node + 2 - 1) (acc + r.1) (chd r.2 2) (unf S.b h (2 * node + 1 - 1) (acc + r.1) (chd r.2 1) (mrk node acc r L)) node (fun j _ => nd_up hn (Or.inr rfl) j)
          exact ⟨h2.1.trans (h1.1.trans hk.1), h2.2.trans (h1.2.trans hk.2)⟩
      | cons c p =>
        have hc := hp c List.mem_cons_self
        have hp' : dig p := fun x hx => hp x (List.mem_cons_of_mem _ hx)
        have hl' : p.length ≤ h := by rw [List.length_cons] at hl; omega
        have hmk := mk c p hp
        show inP L _ (nd (2 * node + c - 1) p) (wks S (wd S (r.2, acc + r.1, q) c) p)
        have hmk' : (mrk node acc r L).1 (nd (2 * node + c - 1) p) = L.1 (nd (2 * node + c - 1) p) := hmk
        have wdn : ¬ c ≤ ar (hd r.2) → wd S (r.2, acc + r.1, q) c = none := by
          intro z
          unfold wd
          rw [if_neg (fun y => z y.2)]
        have wds : c ≤ ar (hd r.2) → wd S (r.2, acc + r.1, q) c = some ((evl S.b 40 (chd r.2 c)).2, acc + r.1 + (evl S.b 40 (chd r.2 c)).1, wst S q (hd r.2) c) := by
          intro z
          unfold wd
          rw [if_pos ⟨c4, z⟩]
        -- a later change outside keeps it
        have keep : ∀ (L1 L2 L3 : LL) (m : Nat) (o : Option Wa), L1.1 m = L.1 m → inP L1 L2 m o → (L3.1 m = L2.1 m ∧ L3.2 m = L2.2 m) → inP L L3 m o := by
          intro L1 L2 L3 m o e1 e2 e3
          cases o with
          | none => exact e3.1.trans ((show L2.1 m = L1.1 m from e2).trans e1)
          | some w => exact ⟨e3.1.trans e2.1, e3.2.trans e2.2⟩
        rcases (by omega : ar (hd r.2) = 0 ∨ ar (hd r.2) = 1 ∨ ar (hd r.2) = 2) with z | z | z <;> rw [z]
        · rw [wdn (by omega), wks_none]
          exact hmk'
        · rcases hc with rfl | rfl
          · rw [wds (by omega)]
            exact keep _ _ _ _ _ hmk' (ih (2 * node + 1 - 1) (acc + r.1) (chd r.2 1) (mrk node acc r L) p _ hl' hp' (by omega)) ⟨rfl, rfl⟩
          · rw [wdn (by omega), wks_none]
            have h1 := unf_out (B := S.b) h (2 * node + 1 - 1) (acc + r.1) (chd r.2 1) (mrk node acc r L) (nd (2 * node + 2 - 1) p) (fun j _ => nd_sub hn hp' (Or.inr rfl) (Or.inl rfl) (by decide) j)
            exact h1.1.trans hmk'
        · rcases hc with rfl | rfl
          · rw [wds (by omega)]
            have h2 := unf_out (B := S.b) h (2 * node + 2 - 1) (acc + r.1) (chd r.2 2) (unf S.b h (2 * node + 1 - 1) (acc + r.1) (chd r.2 1) (mrk node acc r L)) (nd (2 * node + 1 - 1) p) (fun j _ => nd_sub hn hp' (Or.inl rfl) (Or.inr rfl) (by decide) j)
            exact keep _ _ _ _ _ hmk' (ih (2 * node + 1 - 1) (acc + r.1) (chd r.2 1) (mrk node acc r L) p _ hl' hp' (by omega)) h2
          · rw [wds (by omega)]
            have h1 := unf_out (B := S.b) h (2 * node + 1 - 1) (acc + r.1) (chd r.2 1) (mrk node acc r L) (nd (2 * node + 2 - 1) p) (fun j _ => nd_sub hn hp' (Or.inr rfl) (Or.inl rfl) (by decide) j)
            exact keep _ _ _ _ _ (h1.1.trans hmk') (ih (2 * node + 2 - 1) (acc + r.1) (chd r.2 2) (unf S.b h (2 * node + 1 - 1) (acc + r.1) (chd r.2 1) (mrk node acc r L)) p _ hl' hp' (by omega)) ⟨rfl, rfl⟩
    · rw [if_neg c4]
      cases p with
      | nil => exact here node acc r L q
      | cons c p =>
        show inP L _ _ (wks S (wd S (r.2, acc + r.1, q) c) p)
        have : wd S (r.2, acc + r.1, q) c = none := by
          unfold wd
          rw [if_neg (fun y => c4 y.1)]
        rw [this, wks_none]
        exact mk c p hp
