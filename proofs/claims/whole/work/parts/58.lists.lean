-- uses 41 42 43 44 45 46 47 48 49 50 51 52 53 54
/-! terms in order: pure -/
theorem gD_mem {xs : List Nat} {p : Nat → Prop} : (∀ i, i < xs.length → p (xs.getD i 0)) ↔ ∀ y ∈ xs, p y := by
  constructor
  · intro h y hy
    obtain ⟨i, hi, e⟩ := List.mem_iff_getElem.mp hy
    have := h i hi
    simp [List.getD, hi] at this
    rw [e] at this
    exact this
  · intro h i hi
    have : xs.getD i 0 = xs[i] := by simp [List.getD, hi]
    rw [this]
    exact h _ (List.getElem_mem hi)
theorem wfo_cpl : ∀ (xs : List Nat) (o : Nat), wfo o xs → cpl o xs ∧ eol o xs = xs.length := by
  intro xs
  induction xs with
  | nil =>
    intro o h
    cases o with
    | zero => exact ⟨trivial, rfl⟩
    | succ o => exact h.elim
  | cons y ys ih =>
    intro o h
    cases o with
    | zero => exact h.elim
    | succ o =>
      have := ih _ h
      refine ⟨this.1, ?_⟩
      simp only [eol, List.length_cons]
      omega
theorem wfo_app : ∀ (xs ys : List Nat) (o p : Nat), wfo o xs → wfo p ys → wfo (o + p) (xs ++ ys) := by
  intro xs
  induction xs with
  | nil =>
    intro ys o p h k
    cases o with
    | zero => rw [Nat.zero_add]; exact k
    | succ o => exact h.elim
  | cons x xs ih =>
    intro ys o p h k
    cases o with
    | zero => exact h.elim
    | succ o =>
      have := ih ys (o + ar x) p h k
      rw [show o + 1 + p = (o + p) + 1 by omega]
      show wfo (o + p + ar x) (xs ++ ys)
      rw [show o + p + ar x = o + ar x + p by omega]
      exact this
theorem wfo_spl : ∀ (xs : List Nat) (o p : Nat), wfo (o + p) xs → ∃ as bs, xs = as ++ bs ∧ wfo o as ∧ wfo p bs := by
  intro xs
  induction xs with
  | nil =>
    intro o p h
    cases o with
    | zero =>
      rw [Nat.zero_add] at h
      exact ⟨[], [], rfl, trivial, h⟩
    | succ o =>
      rw [show o + 1 + p = (o + p) + 1 by omega] at h
      exact h.elim
  | cons x xs ih =>
    intro o p h
    cases o with
    | zero =>
      rw [Nat.zero_add] at h
      exact ⟨[], x :: xs, rfl, trivial, h⟩
    | succ o =>
      rw [show o + 1 + p = (o + p) + 1 by omega] at h
      have h2 : wfo (o + p + ar x) xs := h
      rw [show o + p + ar x = o + ar x + p by omega] at h2
      obtain ⟨as, bs, e, h3, h4⟩ := ih _ _ h2
      exact ⟨x :: as, bs, by rw [e]; rfl, h3, h4⟩
theorem wfo_ctx : ∀ (p s : List Nat) (o : Nat), wfo o (p ++ s) → ∃ o', wfo o' s ∧ ∀ s', wfo o' s' → wfo o (p ++ s') := by
  intro p
  induction p with
  | nil => intro s o h; exact ⟨o, h, fun _ k => k⟩
  | cons x p ih =>
    intro s o h
    cases o with
    | zero => exact h.elim
    | succ o =>
      obtain ⟨o', h1, h2⟩ := ih s _ h
      exact ⟨o', h1, fun s' k => h2 s' k⟩
theorem eol_app : ∀ (xs ys : List Nat) (o : Nat), wfo o xs → eol o (xs ++ ys) = xs.length ∧ cpl o (xs ++ ys) := by
  intro xs
  induction xs with
  | nil =>
    intro ys o h
    cases o with
    | zero => exact ⟨by cases ys <;> rfl, by cases ys <;> trivial⟩
    | succ o => exact h.elim
  | cons x xs ih =>
    intro ys o h
    cases o with
    | zero => exact h.elim
    | succ o =>
      have := ih ys _ h
      refine ⟨?_, this.2⟩
      show 1 + eol (o + ar x) (xs ++ ys) = (x :: xs).length
      rw [this.1, List.length_cons]
      omega
/-- where a nonterminal or terminal stands: its arguments, and what is behind -/
theorem wf_at {xs : List Nat} {i : Nat} (h : wfo 1 xs) (hi : i < xs.length) : ∃ as R o', xs.drop (i + 1) = as ++ R ∧ wfo (ar (xs.getD i 0)) as ∧ wfo o' R ∧ ∀ T, wfo 1 T → wfo 1 (xs.take i ++ (T ++ R)) := by
  have e : xs.take i ++ xs.drop i = xs := List.take_append_drop i xs
  rw [← e] at h
  obtain ⟨o, h1, h2⟩ := wfo_ctx _ _ _ h
  rw [dropC hi] at h1
  cases o with
  | zero => exact h1.elim
  | succ o =>
    have h3 : wfo (o + ar (xs.getD i 0)) (xs.drop (i + 1)) := h1
    rw [Nat.add_comm] at h3
    obtain ⟨as, R, e2, h4, h5⟩ := wfo_spl _ _ _ h3
    refine ⟨as, R, o, e2, h4, h5, fun T hT => h2 _ ?_⟩
    have := wfo_app T R 1 o hT h5
    rw [Nat.add_comm] at this
    exact this
theorem sbl_wf {a1 a2 : List Nat} : ∀ (ys : List Nat) (o : Nat), wfo o ys → ((8 ∈ ys) → wfo 1 a1) → ((9 ∈ ys) → wfo 1 a2) → wfo o (sbl a1 a2 ys) := by
  intro ys
  induction ys with
  | nil => intro o h _ _; exact h
  | cons y ys ih =>
    intro o h h8 h9
    cases o with
    | zero => exact h.elim
    | succ o =>
      have hr := ih _ h (fun z => h8 (List.mem_cons_of_mem _ z)) (fun z => h9 (List.mem_cons_of_mem _ z))
      unfold sbl
      by_cases c8 : y = 8
      · rw [if_pos c8]
        subst c8
        have := wfo_app a1 _ 1 _ (h8 List.mem_cons_self) hr
        have e : 1 + (o + ar 8) = o + 1 := by
          show 1 + (o + 0) = o + 1
          omega
        rw [e] at this
        exact this
      · rw [if_neg c8]
        by_cases c9 : y = 9
        · rw [if_pos c9]
          subst c9
          have := wfo_app a2 _ 1 _ (h9 List.mem_cons_self) hr
          have e : 1 + (o + ar 9) = o + 1 := by
            show 1 + (o + 0) = o + 1
            omega
          rw [e] at this
          exact this
        · rw [if_neg c9]
          exact hr
theorem sbl_mem {a1 a2 : List Nat} {y : Nat} : ∀ ys : List Nat, y ∈ sbl a1 a2 ys → (y ∈ a1 ∧ 8 ∈ ys) ∨ (y ∈ a2 ∧ 9 ∈ ys) ∨ (y ∈ ys ∧ y ≠ 8 ∧ y ≠ 9) := by
  intro ys
  induction ys with
  | nil => intro h; cases h
  | cons x ys ih =>
    intro h
    unfold sbl at h
    rw [List.mem_append] at h
    rcases h with h | h
    · by_cases c8 : x = 8
      · rw [if_pos c8] at h
        exact Or.inl ⟨h, by rw [c8]; exact List.mem_cons_self⟩
      · rw [if_neg c8] at h
        by_cases c9 : x = 9
        · rw [if_pos c9] at h
          exact Or.inr (Or.inl ⟨h, by rw [c9]; exact List.mem_cons_self⟩)
        · rw [if_neg c9] at h
          have : y = x := by simpa using h
          subst this
          exact Or.inr (Or.inr ⟨List.mem_cons_self, c8, c9⟩)
    · rcases ih h with h | h | h
      · exact Or.inl ⟨h.1, List.mem_cons_of_mem _ h.2⟩
      · exact Or.inr (Or.inl ⟨h.1, List.mem_cons_of_mem _ h.2⟩)
      · exact Or.inr (Or.inr ⟨List.mem_cons_of_mem _ h.1, h.2⟩)
theorem okB_m {n : Nat} {xs : List Nat} (h : okB n xs) : ∀ y ∈ xs, may n y := gD_mem.mp h.2.2
theorem okB_of {n : Nat} {xs : List Nat} (h1 : xs.length ≤ 30) (h2 : wfo 1 xs) (h3 : ∀ y ∈ xs, may n y) : okB n xs := ⟨h1, h2, gD_mem.mpr h3⟩
theorem slc_app {as bs cs : List Nat} : slc (as ++ (bs ++ cs)) as.length (as.length + bs.length) = bs := by
  unfold slc
  rw [List.drop_left, Nat.add_sub_cancel_left, List.take_left]
theorem drop1 {xs as R : List Nat} {i : Nat} (hi : i < xs.length) (h : xs.drop (i + 1) = as ++ R) : xs = (xs.take i ++ [xs.getD i 0]) ++ (as ++ R) ∧ (xs.take i ++ [xs.getD i 0]).length = i + 1 := by
  constructor
  · have e := List.take_append_drop i xs
    rw [dropC hi, h] at e
    rw [List.append_assoc]
    exact e.symm
  · rw [List.length_append, List.length_take]
    simp
    omega
/-- the ends that expand asks for -/
theorem xp_ends {xs : List Nat} {i : Nat} (h : wfo 1 xs) (hi : i < xs.length) : ∃ a1 a2 R o', xs.drop (i + 1) = a1 ++ (a2 ++ R) ∧ wfo o' R ∧ (∀ T, wfo 1 T → wfo 1 (xs.take i ++ (T ++ R))) ∧ e2o xs i = i + 1 + a1.length + a2.length ∧ xs.drop (e2o xs i) = R ∧
    (ar (xs.getD i 0) = 0 → a1 = [] ∧ a2 = []) ∧ (ar (xs.getD i 0) = 1 → wfo 1 a1 ∧ a2 = []) ∧ (ar (xs.getD i 0) = 2 → wfo 1 a1 ∧ wfo 1 a2) ∧ (1 ≤ ar (xs.getD i 0) → e1o xs i = i + 1 + a1.length ∧ slc xs (i + 1) (e1o xs i) = a1 ∧ slc xs (e1o xs i) (e2o xs i) = a2) := by
  obtain ⟨as, R, o', e, h1, h2, h3⟩ := wf_at h hi
  have ha := ar_le (xs.getD i 0)
  obtain ⟨d1, d2⟩ := drop1 hi e
  have E2 : e2o xs i = i + 1 + as.length := by
    unfold e2o
    rw [dropC hi, e]
    show i + (1 + eol (0 + ar (xs.getD i 0)) (as ++ R)) = _
    rw [Nat.zero_add, (eol_app as R _ h1).1]
    omega
  have DR : xs.drop (e2o xs i) = R := by
    rw [E2]
    have : (xs.take i ++ [xs.getD i 0] ++ (as ++ R)).drop (i + 1 + as.length) = R := by
      rw [← d2, ← List.append_assoc, ← List.length_append, List.drop_left]
    rw [← d1] at this
    exact this
  rcases (by omega : ar (xs.getD i 0) = 0 ∨ ar (xs.getD i 0) = 1 ∨ ar (xs.getD i 0) = 2) with c | c | c
  · rw [c] at h1
    cases as with
    | nil => exact ⟨[], [], R, o', e, h2, h3, by rw [E2]; rfl, DR, fun _ => ⟨rfl, rfl⟩, fun z => by omega, fun z => by omega, fun z => by omega⟩
    | cons x as => exact h1.elim
  · rw [c] at h1
    refine ⟨as, [], R, o', by rw [e]; rfl, h2, h3, by rw [E2]; rfl, DR, fun z => by omega, fun _ => ⟨h1, rfl⟩, fun z => by omega, fun _ => ?_⟩
    have E1 : e1o xs i = i + 1 + as.length := by
      unfold e1o
      rw [e, (eol_app as R 1 h1).1]
    refine ⟨E1, ?_, ?_⟩
    · rw [E1, ← d2]
      have := slc_app (as := xs.take i ++ [xs.getD i 0]) (bs := as) (cs := R)
      rw [← d1] at this
      exact this
    · rw [E1, E2]
      unfold slc
      rw [Nat.sub_self]
      rfl
  · rw [c] at h1
    obtain ⟨a1, a2, e3, h4, h5⟩ := wfo_spl as 1 1 h1
    subst e3
    rw [List.append_assoc] at e
    rw [List.length_append] at E2
    refine ⟨a1, a2, R, o', e, h2, h3, by rw [E2]; omega, DR, fun z => by omega, fun z => by omega, fun _ => ⟨h4, h5⟩, fun _ => ?_⟩
    have E1 : e1o xs i = i + 1 + a1.length := by
      unfold e1o
      rw [e, (eol_app a1 (a2 ++ R) 1 h4).1]
    obtain ⟨d1, d2⟩ := drop1 hi e
    refine ⟨E1, ?_, ?_⟩
    · rw [E1, ← d2]
      have := slc_app (as := xs.take i ++ [xs.getD i 0]) (bs := a1) (cs := a2 ++ R)
      rw [← d1] at this
      exact this
    · rw [E1, E2]
      have := slc_app (as := xs.take i ++ [xs.getD i 0] ++ a1) (bs := a2) (cs := R)
      rw [List.length_append, d2, List.append_assoc _ a1, ← d1] at this
      rw [show i + 1 + (a1.length + a2.length) = i + 1 + a1.length + a2.length by omega]
      exact this
theorem slc_mem {xs : List Nat} {a b y : Nat} (h : y ∈ slc xs a b) : y ∈ xs := List.mem_of_mem_drop (List.mem_of_mem_take h)
/-- an expansion is in order -/
theorem xpd_wf {xs bd : List Nat} {i n : Nat} (h : wfo 1 xs) (hi : i < xs.length) (hy : xs.getD i 0 = 4 + n) (hn : n < 4) (hb : okB n bd) : wfo 1 (xpd xs i bd) ∧ (∀ y ∈ xpd xs i bd, y ∈ xs ∨ y < 8) ∧ (e1o xs i ≤ e2o xs i ∨ ∀ j, j < bd.length → bd.getD j 0 ≠ 9) := by
  obtain ⟨a1, a2, R, o', e, h1, h2, h3, h4, c0, c1, c2, c3⟩ := xp_ends h hi
  have hm := okB_m hb
  rw [hy] at c0 c1 c2 c3
  have ha := ar_le (4 + n)
  have w8 : 8 ∈ bd → 1 ≤ ar (4 + n) := fun z => (hm 8 z).2.1 rfl
  have w9 : 9 ∈ bd → 2 ≤ ar (4 + n) := fun z => (hm 9 z).2.2 rfl
  refine ⟨?_, ?_, ?_⟩
  · unfold xpd
    rw [h4]
    refine h2 _ (sbl_wf bd 1 hb.2.1 (fun z => ?_) (fun z => ?_))
    · rw [(c3 (w8 z)).2.1]
      have := w8 z
      rcases (by omega : ar (4 + n) = 1 ∨ ar (4 + n) = 2) with q | q
      · exact (c1 q).1
      · exact (c2 q).1
    · have w := w9 z
      rw [(c3 (by omega)).2.2]
      exact (c2 (by omega)).2
  · intro y hyy
    unfold xpd at hyy
    rw [List.mem_append, List.mem_append] at hyy
    rcases hyy with z | z | z
    · exact Or.inl (List.mem_of_mem_take z)
    · rcases sbl_mem bd z with w | w | w
      · exact Or.inl (slc_mem w.1)
      · exact Or.inl (slc_mem w.1)
      · have := hm y w.1
        have := this.1
        exact Or.inr (by omega)
    · exact Or.inl (List.mem_of_mem_drop z)
  · by_cases c : ar (4 + n) = 2
    · left
      rw [(c3 (by omega)).1, h3]
      omega
    · right
      intro j hj z
      have := hb.2.2 j hj
      rw [z] at this
      have := this.2.2 rfl
      omega
