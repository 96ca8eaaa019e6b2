-- uses 41 42 43 44 45 46 47 48 49 50 51 52
/-! the reference's object at m, its arrays behind it (written by wip/whole/gen/mo.py) -/
structure Md where
  (len acts nxt ts bs lab xp sta : Int)
  (tx nw tr rd di ke ik te bu va ju ma : Nat → Int32)
def MoF (m : Nat) (M : Md) : List Value := [.ref (m + 1), .int (iv M.len), .ref (m + 2), .ref (m + 3), .ref (m + 4), .ref (m + 5), .int (iv M.acts), .int (iv M.nxt), .ref (m + 6), .ref (m + 7), .ref (m + 8), .int (iv M.ts), .ref (m + 9), .int (iv M.bs), .int (iv M.lab), .int (iv M.xp), .int (iv M.sta), .ref (m + 10), .ref (m + 11), .ref (m + 12)]
def Mo (E : Ev) (G : Hp) (m : Nat) (M : Md) : Prop :=
  gt E G m = some (cO 7 (MoF m M)) ∧ gt E G (m + 1) = some (cA 0 99 M.tx) ∧ gt E G (m + 2) = some (cA 0 160 M.nw) ∧ gt E G (m + 3) = some (cA 0 160 M.tr) ∧ gt E G (m + 4) = some (cA 0 160 M.rd) ∧ gt E G (m + 5) = some (cA 0 2240 M.di) ∧ gt E G (m + 6) = some (cA 0 320 M.ke) ∧ gt E G (m + 7) = some (cA 2 2 M.ik) ∧ gt E G (m + 8) = some (cA 0 200 M.te) ∧ gt E G (m + 9) = some (cA 0 200 M.bu) ∧ gt E G (m + 10) = some (cA 2 243 M.va) ∧ gt E G (m + 11) = some (cA 2 243 M.ju) ∧ gt E G (m + 12) = some (cA 0 31 M.ma)
section MO
variable {E : Ev} {G : Hp} {m : Nat} {M : Md}
theorem Mo_sam {G1 : Hp} {R : Nat → Prop} (h : Mo E G m M) (k : sam E G G1 R) (hr : ∀ a, m ≤ a → a < m + 13 → ¬ R a) : Mo E G1 m M := by
  obtain ⟨h0, h1, h2, h3, h4, h5, h6, h7, h8, h9, h10, h11, h12⟩ := h
  exact ⟨(k.1 _ (hr _ (by omega) (by omega))).trans h0, (k.1 _ (hr _ (by omega) (by omega))).trans h1, (k.1 _ (hr _ (by omega) (by omega))).trans h2, (k.1 _ (hr _ (by omega) (by omega))).trans h3, (k.1 _ (hr _ (by omega) (by omega))).trans h4, (k.1 _ (hr _ (by omega) (by omega))).trans h5, (k.1 _ (hr _ (by omega) (by omega))).trans h6, (k.1 _ (hr _ (by omega) (by omega))).trans h7, (k.1 _ (hr _ (by omega) (by omega))).trans h8, (k.1 _ (hr _ (by omega) (by omega))).trans h9, (k.1 _ (hr _ (by omega) (by omega))).trans h10, (k.1 _ (hr _ (by omega) (by omega))).trans h11, (k.1 _ (hr _ (by omega) (by omega))).trans h12⟩
theorem Mo_rc (h : Mo E G m M) : (rcv E G m 7 = true) = True := u_rcv h.1
theorem Mo_tx {F : Nat → Prop} (h : Mo E G m M) : qFR E G m 7 0 F = F (m + 1) := u_FR h.1 rfl
theorem Mo_len {F : Int32 → Prop} (h : Mo E G m M) : qFI E G m 7 1 F = F (iv M.len) := u_FI h.1 rfl
theorem Mp_len {z : Int} {F : Hp → Prop} (h : Mo E G m M) (k : ∀ G1, Mo E G1 m { M with len := z } → sam E G G1 (ivl m 13) → F G1) : qP E G m 7 1 (.int (iv z)) F := by
  obtain ⟨h0, h1, h2, h3, h4, h5, h6, h7, h8, h9, h10, h11, h12⟩ := h
  rw [u_P h0 (by show 1 < 20; decide)]
  exact k _ ⟨gt_st_self (by rw [h0]; rfl), (gt_st_ne (by omega)).trans h1, (gt_st_ne (by omega)).trans h2, (gt_st_ne (by omega)).trans h3, (gt_st_ne (by omega)).trans h4, (gt_st_ne (by omega)).trans h5, (gt_st_ne (by omega)).trans h6, (gt_st_ne (by omega)).trans h7, (gt_st_ne (by omega)).trans h8, (gt_st_ne (by omega)).trans h9, (gt_st_ne (by omega)).trans h10, (gt_st_ne (by omega)).trans h11, (gt_st_ne (by omega)).trans h12⟩ (sam_st ⟨Nat.le_refl _, by omega⟩)
theorem Mo_nw {F : Nat → Prop} (h : Mo E G m M) : qFR E G m 7 2 F = F (m + 2) := u_FR h.1 rfl
theorem Mo_tr {F : Nat → Prop} (h : Mo E G m M) : qFR E G m 7 3 F = F (m + 3) := u_FR h.1 rfl
theorem Mo_rd {F : Nat → Prop} (h : Mo E G m M) : qFR E G m 7 4 F = F (m + 4) := u_FR h.1 rfl
theorem Mo_di {F : Nat → Prop} (h : Mo E G m M) : qFR E G m 7 5 F = F (m + 5) := u_FR h.1 rfl
theorem Mo_acts {F : Int32 → Prop} (h : Mo E G m M) : qFI E G m 7 6 F = F (iv M.acts) := u_FI h.1 rfl
theorem Mp_acts {z : Int} {F : Hp → Prop} (h : Mo E G m M) (k : ∀ G1, Mo E G1 m { M with acts := z } → sam E G G1 (ivl m 13) → F G1) : qP E G m 7 6 (.int (iv z)) F := by
  obtain ⟨h0, h1, h2, h3, h4, h5, h6, h7, h8, h9, h10, h11, h12⟩ := h
  rw [u_P h0 (by show 6 < 20; decide)]
  exact k _ ⟨gt_st_self (by rw [h0]; rfl), (gt_st_ne (by omega)).trans h1, (gt_st_ne (by omega)).trans h2, (gt_st_ne (by omega)).trans h3, (gt_st_ne (by omega)).trans h4, (gt_st_ne (by omega)).trans h5, (gt_st_ne (by omega)).trans h6, (gt_st_ne (by omega)).trans h7, (gt_st_ne (by omega)).trans h8, (gt_st_ne (by omega)).trans h9, (gt_st_ne (by omega)).trans h10, (gt_st_ne (by omega)).trans h11, (gt_st_ne (by omega)).trans h12⟩ (sam_st ⟨Nat.le_refl _, by omega⟩)
theorem Mo_nxt {F : Int32 → Prop} (h : Mo E G m M) : qFI E G m 7 7 F = F (iv M.nxt) := u_FI h.1 rfl
theorem Mp_nxt {z : Int} {F : Hp → Prop} (h : Mo E G m M) (k : ∀ G1, Mo E G1 m { M with nxt := z } → sam E G G1 (ivl m 13) → F G1) : qP E G m 7 7 (.int (iv z)) F := by
  obtain ⟨h0, h1, h2, h3, h4, h5, h6, h7, h8, h9, h10, h11, h12⟩ := h
  rw [u_P h0 (by show 7 < 20; decide)]
  exact k _ ⟨gt_st_self (by rw [h0]; rfl), (gt_st_ne (by omega)).trans h1, (gt_st_ne (by omega)).trans h2, (gt_st_ne (by omega)).trans h3, (gt_st_ne (by omega)).trans h4, (gt_st_ne (by omega)).trans h5, (gt_st_ne (by omega)).trans h6, (gt_st_ne (by omega)).trans h7, (gt_st_ne (by omega)).trans h8, (gt_st_ne (by omega)).trans h9, (gt_st_ne (by omega)).trans h10, (gt_st_ne (by omega)).trans h11, (gt_st_ne (by omega)).trans h12⟩ (sam_st ⟨Nat.le_refl _, by omega⟩)
theorem Mo_ke {F : Nat → Prop} (h : Mo E G m M) : qFR E G m 7 8 F = F (m + 6) := u_FR h.1 rfl
theorem Mo_ik {F : Nat → Prop} (h : Mo E G m M) : qFR E G m 7 9 F = F (m + 7) := u_FR h.1 rfl
theorem Mo_te {F : Nat → Prop} (h : Mo E G m M) : qFR E G m 7 10 F = F (m + 8) := u_FR h.1 rfl
theorem Mo_ts {F : Int32 → Prop} (h : Mo E G m M) : qFI E G m 7 11 F = F (iv M.ts) := u_FI h.1 rfl
theorem Mp_ts {z : Int} {F : Hp → Prop} (h : Mo E G m M) (k : ∀ G1, Mo E G1 m { M with ts := z } → sam E G G1 (ivl m 13) → F G1) : qP E G m 7 11 (.int (iv z)) F := by
  obtain ⟨h0, h1, h2, h3, h4, h5, h6, h7, h8, h9, h10, h11, h12⟩ := h
  rw [u_P h0 (by show 11 < 20; decide)]
  exact k _ ⟨gt_st_self (by rw [h0]; rfl), (gt_st_ne (by omega)).trans h1, (gt_st_ne (by omega)).trans h2, (gt_st_ne (by omega)).trans h3, (gt_st_ne (by omega)).trans h4, (gt_st_ne (by omega)).trans h5, (gt_st_ne (by omega)).trans h6, (gt_st_ne (by omega)).trans h7, (gt_st_ne (by omega)).trans h8, (gt_st_ne (by omega)).trans h9, (gt_st_ne (by omega)).trans h10, (gt_st_ne (by omega)).trans h11, (gt_st_ne (by omega)).trans h12⟩ (sam_st ⟨Nat.le_refl _, by omega⟩)
theorem Mo_bu {F : Nat → Prop} (h : Mo E G m M) : qFR E G m 7 12 F = F (m + 9) := u_FR h.1 rfl
theorem Mo_bs {F : Int32 → Prop} (h : Mo E G m M) : qFI E G m 7 13 F = F (iv M.bs) := u_FI h.1 rfl
theorem Mp_bs {z : Int} {F : Hp → Prop} (h : Mo E G m M) (k : ∀ G1, Mo E G1 m { M with bs := z } → sam E G G1 (ivl m 13) → F G1) : qP E G m 7 13 (.int (iv z)) F := by
  obtain ⟨h0, h1, h2, h3, h4, h5, h6, h7, h8, h9, h10, h11, h12⟩ := h
  rw [u_P h0 (by show 13 < 20; decide)]
  exact k _ ⟨gt_st_self (by rw [h0]; rfl), (gt_st_ne (by omega)).trans h1, (gt_st_ne (by omega)).trans h2, (gt_st_ne (by omega)).trans h3, (gt_st_ne (by omega)).trans h4, (gt_st_ne (by omega)).trans h5, (gt_st_ne (by omega)).trans h6, (gt_st_ne (by omega)).trans h7, (gt_st_ne (by omega)).trans h8, (gt_st_ne (by omega)).trans h9, (gt_st_ne (by omega)).trans h10, (gt_st_ne (by omega)).trans h11, (gt_st_ne (by omega)).trans h12⟩ (sam_st ⟨Nat.le_refl _, by omega⟩)
theorem Mo_lab {F : Int32 → Prop} (h : Mo E G m M) : qFI E G m 7 14 F = F (iv M.lab) := u_FI h.1 rfl
theorem Mp_lab {z : Int} {F : Hp → Prop} (h : Mo E G m M) (k : ∀ G1, Mo E G1 m { M with lab := z } → sam E G G1 (ivl m 13) → F G1) : qP E G m 7 14 (.int (iv z)) F := by
  obtain ⟨h0, h1, h2, h3, h4, h5, h6, h7, h8, h9, h10, h11, h12⟩ := h
  rw [u_P h0 (by show 14 < 20; decide)]
  exact k _ ⟨gt_st_self (by rw [h0]; rfl), (gt_st_ne (by omega)).trans h1, (gt_st_ne (by omega)).trans h2, (gt_st_ne (by omega)).trans h3, (gt_st_ne (by omega)).trans h4, (gt_st_ne (by omega)).trans h5, (gt_st_ne (by omega)).trans h6, (gt_st_ne (by omega)).trans h7, (gt_st_ne (by omega)).trans h8, (gt_st_ne (by omega)).trans h9, (gt_st_ne (by omega)).trans h10, (gt_st_ne (by omega)).trans h11, (gt_st_ne (by omega)).trans h12⟩ (sam_st ⟨Nat.le_refl _, by omega⟩)
theorem Mo_xp {F : Int32 → Prop} (h : Mo E G m M) : qFI E G m 7 15 F = F (iv M.xp) := u_FI h.1 rfl
theorem Mp_xp {z : Int} {F : Hp → Prop} (h : Mo E G m M) (k : ∀ G1, Mo E G1 m { M with xp := z } → sam E G G1 (ivl m 13) → F G1) : qP E G m 7 15 (.int (iv z)) F := by
  obtain ⟨h0, h1, h2, h3, h4, h5, h6, h7, h8, h9, h10, h11, h12⟩ := h
  rw [u_P h0 (by show 15 < 20; decide)]
  exact k _ ⟨gt_st_self (by rw [h0]; rfl), (gt_st_ne (by omega)).trans h1, (gt_st_ne (by omega)).trans h2, (gt_st_ne (by omega)).trans h3, (gt_st_ne (by omega)).trans h4, (gt_st_ne (by omega)).trans h5, (gt_st_ne (by omega)).trans h6, (gt_st_ne (by omega)).trans h7, (gt_st_ne (by omega)).trans h8, (gt_st_ne (by omega)).trans h9, (gt_st_ne (by omega)).trans h10, (gt_st_ne (by omega)).trans h11, (gt_st_ne (by omega)).trans h12⟩ (sam_st ⟨Nat.le_refl _, by omega⟩)
theorem Mo_sta {F : Int32 → Prop} (h : Mo E G m M) : qFI E G m 7 16 F = F (iv M.sta) := u_FI h.1 rfl
theorem Mp_sta {z : Int} {F : Hp → Prop} (h : Mo E G m M) (k : ∀ G1, Mo E G1 m { M with sta := z } → sam E G G1 (ivl m 13) → F G1) : qP E G m 7 16 (.int (iv z)) F := by
  obtain ⟨h0, h1, h2, h3, h4, h5, h6, h7, h8, h9, h10, h11, h12⟩ := h
  rw [u_P h0 (by show 16 < 20; decide)]
  exact k _ ⟨gt_st_self (by rw [h0]; rfl), (gt_st_ne (by omega)).trans h1, (gt_st_ne (by omega)).trans h2, (gt_st_ne (by omega)).trans h3, (gt_st_ne (by omega)).trans h4, (gt_st_ne (by omega)).trans h5, (gt_st_ne (by omega)).trans h6, (gt_st_ne (by omega)).trans h7, (gt_st_ne (by omega)).trans h8, (gt_st_ne (by omega)).trans h9, (gt_st_ne (by omega)).trans h10, (gt_st_ne (by omega)).trans h11, (gt_st_ne (by omega)).trans h12⟩ (sam_st ⟨Nat.le_refl _, by omega⟩)
theorem Mo_va {F : Nat → Prop} (h : Mo E G m M) : qFR E G m 7 17 F = F (m + 10) := u_FR h.1 rfl
theorem Mo_ju {F : Nat → Prop} (h : Mo E G m M) : qFR E G m 7 18 F = F (m + 11) := u_FR h.1 rfl
theorem Mo_ma {F : Nat → Prop} (h : Mo E G m M) : qFR E G m 7 19 F = F (m + 12) := u_FR h.1 rfl
theorem Ma_tx (h : Mo E G m M) : gt E G (m + 1) = some (cA 0 99 M.tx) := h.2.1
theorem Mg_tx {o i : Nat} {F : Int32 → Prop} (h : Mo E G m M) (hi : i < 99) : qIA o E G (m + 1) (iv (i : Int)) F = F (M.tx i) := u_IAn (Ma_tx h) (by omega)
theorem Ms_tx {i : Nat} {x : Int32} {F : Hp → Prop} (h : Mo E G m M) (hi : i < 99) (k : ∀ G1, Mo E G1 m { M with tx := upd M.tx i x } → sam E G G1 (ivl m 13) → F G1) : qIS E G (m + 1) (iv (i : Int)) x F := by
  obtain ⟨h0, h1, h2, h3, h4, h5, h6, h7, h8, h9, h10, h11, h12⟩ := h
  rw [u_ISn h1 (by omega)]
  exact k _ ⟨(gt_st_ne (by omega)).trans h0, gt_st_self (by rw [h1]; rfl), (gt_st_ne (by omega)).trans h2, (gt_st_ne (by omega)).trans h3, (gt_st_ne (by omega)).trans h4, (gt_st_ne (by omega)).trans h5, (gt_st_ne (by omega)).trans h6, (gt_st_ne (by omega)).trans h7, (gt_st_ne (by omega)).trans h8, (gt_st_ne (by omega)).trans h9, (gt_st_ne (by omega)).trans h10, (gt_st_ne (by omega)).trans h11, (gt_st_ne (by omega)).trans h12⟩ (sam_st ⟨by omega, by omega⟩)
theorem Ma_nw (h : Mo E G m M) : gt E G (m + 2) = some (cA 0 160 M.nw) := h.2.2.1
theorem Mg_nw {o i : Nat} {F : Int32 → Prop} (h : Mo E G m M) (hi : i < 160) : qIA o E G (m + 2) (iv (i : Int)) F = F (M.nw i) := u_IAn (Ma_nw h) (by omega)
theorem Ms_nw {i : Nat} {x : Int32} {F : Hp → Prop} (h : Mo E G m M) (hi : i < 160) (k : ∀ G1, Mo E G1 m { M with nw := upd M.nw i x } → sam E G G1 (ivl m 13) → F G1) : qIS E G (m + 2) (iv (i : Int)) x F := by
  obtain ⟨h0, h1, h2, h3, h4, h5, h6, h7, h8, h9, h10, h11, h12⟩ := h
  rw [u_ISn h2 (by omega)]
  exact k _ ⟨(gt_st_ne (by omega)).trans h0, (gt_st_ne (by omega)).trans h1, gt_st_self (by rw [h2]; rfl), (gt_st_ne (by omega)).trans h3, (gt_st_ne (by omega)).trans h4, (gt_st_ne (by omega)).trans h5, (gt_st_ne (by omega)).trans h6, (gt_st_ne (by omega)).trans h7, (gt_st_ne (by omega)).trans h8, (gt_st_ne (by omega)).trans h9, (gt_st_ne (by omega)).trans h10, (gt_st_ne (by omega)).trans h11, (gt_st_ne (by omega)).trans h12⟩ (sam_st ⟨by omega, by omega⟩)
theorem Ma_tr (h : Mo E G m M) : gt E G (m + 3) = some (cA 0 160 M.tr) := h.2.2.2.1
theorem Mg_tr {o i : Nat} {F : Int32 → Prop} (h : Mo E G m M) (hi : i < 160) : qIA o E G (m + 3) (iv (i : Int)) F = F (M.tr i) := u_IAn (Ma_tr h) (by omega)
theorem Ms_tr {i : Nat} {x : Int32} {F : Hp → Prop} (h : Mo E G m M) (hi : i < 160) (k : ∀ G1, Mo E G1 m { M with tr := upd M.tr i x } → sam E G G1 (ivl m 13) → F G1) : qIS E G (m + 3) (iv (i : Int)) x F := by
  obtain ⟨h0, h1, h2, h3, h4, h5, h6, h7, h8, h9, h10, h11, h12⟩ := h
  rw [u_ISn h3 (by omega)]
  exact k _ ⟨(gt_st_ne (by omega)).trans h0, (gt_st_ne (by omega)).trans h1, (gt_st_ne (by omega)).trans h2, gt_st_self (by rw [h3]; rfl), (gt_st_ne (by omega)).trans h4, (gt_st_ne (by omega)).trans h5, (gt_st_ne (by omega)).trans h6, (gt_st_ne (by omega)).trans h7, (gt_st_ne (by omega)).trans h8, (gt_st_ne (by omega)).trans h9, (gt_st_ne (by omega)).trans h10, (gt_st_ne (by omega)).trans h11, (gt_st_ne (by omega)).trans h12⟩ (sam_st ⟨by omega, by omega⟩)
theorem Ma_rd (h : Mo E G m M) : gt E G (m + 4) = some (cA 0 160 M.rd) := h.2.2.2.2.1
theorem Mg_rd {o i : Nat} {F : Int32 → Prop} (h : Mo E G m M) (hi : i < 160) : qIA o E G (m + 4) (iv (i : Int)) F = F (M.rd i) := u_IAn (Ma_rd h) (by omega)
theorem Ms_rd {i : Nat} {x : Int32} {F : Hp → Prop} (h : Mo E G m M) (hi : i < 160) (k : ∀ G1, Mo E G1 m { M with rd := upd M.rd i x } → sam E G G1 (ivl m 13) → F G1) : qIS E G (m + 4) (iv (i : Int)) x F := by
  obtain ⟨h0, h1, h2, h3, h4, h5, h6, h7, h8, h9, h10, h11, h12⟩ := h
  rw [u_ISn h4 (by omega)]
  exact k _ ⟨(gt_st_ne (by omega)).trans h0, (gt_st_ne (by omega)).trans h1, (gt_st_ne (by omega)).trans h2, (gt_st_ne (by omega)).trans h3, gt_st_self (by rw [h4]; rfl), (gt_st_ne (by omega)).trans h5, (gt_st_ne (by omega)).trans h6, (gt_st_ne (by omega)).trans h7, (gt_st_ne (by omega)).trans h8, (gt_st_ne (by omega)).trans h9, (gt_st_ne (by omega)).trans h10, (gt_st_ne (by omega)).trans h11, (gt_st_ne (by omega)).trans h12⟩ (sam_st ⟨by omega, by omega⟩)
theorem Ma_di (h : Mo E G m M) : gt E G (m + 5) = some (cA 0 2240 M.di) := h.2.2.2.2.2.1
theorem Mg_di {o i : Nat} {F : Int32 → Prop} (h : Mo E G m M) (hi : i < 2240) : qIA o E G (m + 5) (iv (i : Int)) F = F (M.di i) := u_IAn (Ma_di h) (by omega)
theorem Ms_di {i : Nat} {x : Int32} {F : Hp → Prop} (h : Mo E G m M) (hi : i < 2240) (k : ∀ G1, Mo E G1 m { M with di := upd M.di i x } → sam E G G1 (ivl m 13) → F G1) : qIS E G (m + 5) (iv (i : Int)) x F := by
  obtain ⟨h0, h1, h2, h3, h4, h5, h6, h7, h8, h9, h10, h11, h12⟩ := h
  rw [u_ISn h5 (by omega)]
  exact k _ ⟨(gt_st_ne (by omega)).trans h0, (gt_st_ne (by omega)).trans h1, (gt_st_ne (by omega)).trans h2, (gt_st_ne (by omega)).trans h3, (gt_st_ne (by omega)).trans h4, gt_st_self (by rw [h5]; rfl), (gt_st_ne (by omega)).trans h6, (gt_st_ne (by omega)).trans h7, (gt_st_ne (by omega)).trans h8, (gt_st_ne (by omega)).trans h9, (gt_st_ne (by omega)).trans h10, (gt_st_ne (by omega)).trans h11, (gt_st_ne (by omega)).trans h12⟩ (sam_st ⟨by omega, by omega⟩)
theorem Ma_ke (h : Mo E G m M) : gt E G (m + 6) = some (cA 0 320 M.ke) := h.2.2.2.2.2.2.1
theorem Mg_ke {o i : Nat} {F : Int32 → Prop} (h : Mo E G m M) (hi : i < 320) : qIA o E G (m + 6) (iv (i : Int)) F = F (M.ke i) := u_IAn (Ma_ke h) (by omega)
theorem Ms_ke {i : Nat} {x : Int32} {F : Hp → Prop} (h : Mo E G m M) (hi : i < 320) (k : ∀ G1, Mo E G1 m { M with ke := upd M.ke i x } → sam E G G1 (ivl m 13) → F G1) : qIS E G (m + 6) (iv (i : Int)) x F := by
  obtain ⟨h0, h1, h2, h3, h4, h5, h6, h7, h8, h9, h10, h11, h12⟩ := h
  rw [u_ISn h6 (by omega)]
  exact k _ ⟨(gt_st_ne (by omega)).trans h0, (gt_st_ne (by omega)).trans h1, (gt_st_ne (by omega)).trans h2, (gt_st_ne (by omega)).trans h3, (gt_st_ne (by omega)).trans h4, (gt_st_ne (by omega)).trans h5, gt_st_self (by rw [h6]; rfl), (gt_st_ne (by omega)).trans h7, (gt_st_ne (by omega)).trans h8, (gt_st_ne (by omega)).trans h9, (gt_st_ne (by omega)).trans h10, (gt_st_ne (by omega)).trans h11, (gt_st_ne (by omega)).trans h12⟩ (sam_st ⟨by omega, by omega⟩)
theorem Ma_ik (h : Mo E G m M) : gt E G (m + 7) = some (cA 2 2 M.ik) := h.2.2.2.2.2.2.2.1
theorem Mg_ik {i : Nat} {F : Int32 → Prop} (h : Mo E G m M) (hi : i < 2) : qBA E G (m + 7) (iv (i : Int)) F = F (M.ik i) := u_BAn (Ma_ik h) (by decide) (by omega)
theorem Ms_ik {i : Nat} {x : Int32} {F : Hp → Prop} (h : Mo E G m M) (hi : i < 2) (k : ∀ G1, Mo E G1 m { M with ik := upd M.ik i (vp_nar (kT 2) x) } → sam E G G1 (ivl m 13) → F G1) : qBS E G (m + 7) (iv (i : Int)) x F := by
  obtain ⟨h0, h1, h2, h3, h4, h5, h6, h7, h8, h9, h10, h11, h12⟩ := h
  rw [u_BSn h7 (by decide) (by omega)]
  exact k _ ⟨(gt_st_ne (by omega)).trans h0, (gt_st_ne (by omega)).trans h1, (gt_st_ne (by omega)).trans h2, (gt_st_ne (by omega)).trans h3, (gt_st_ne (by omega)).trans h4, (gt_st_ne (by omega)).trans h5, (gt_st_ne (by omega)).trans h6, gt_st_self (by rw [h7]; rfl), (gt_st_ne (by omega)).trans h8, (gt_st_ne (by omega)).trans h9, (gt_st_ne (by omega)).trans h10, (gt_st_ne (by omega)).trans h11, (gt_st_ne (by omega)).trans h12⟩ (sam_st ⟨by omega, by omega⟩)
theorem Ma_te (h : Mo E G m M) : gt E G (m + 8) = some (cA 0 200 M.te) := h.2.2.2.2.2.2.2.2.1
theorem Mg_te {o i : Nat} {F : Int32 → Prop} (h : Mo E G m M) (hi : i < 200) : qIA o E G (m + 8) (iv (i : Int)) F = F (M.te i) := u_IAn (Ma_te h) (by omega)
theorem Ms_te {i : Nat} {x : Int32} {F : Hp → Prop} (h : Mo E G m M) (hi : i < 200) (k : ∀ G1, Mo E G1 m { M with te := upd M.te i x } → sam E G G1 (ivl m 13) → F G1) : qIS E G (m + 8) (iv (i : Int)) x F := by
  obtain ⟨h0, h1, h2, h3, h4, h5, h6, h7, h8, h9, h10, h11, h12⟩ := h
  rw [u_ISn h8 (by omega)]
  exact k _ ⟨(gt_st_ne (by omega)).trans h0, (gt_st_ne (by omega)).trans h1, (gt_st_ne (by omega)).trans h2, (gt_st_ne (by omega)).trans h3, (gt_st_ne (by omega)).trans h4, (gt_st_ne (by omega)).trans h5, (gt_st_ne (by omega)).trans h6, (gt_st_ne (by omega)).trans h7, gt_st_self (by rw [h8]; rfl), (gt_st_ne (by omega)).trans h9, (gt_st_ne (by omega)).trans h10, (gt_st_ne (by omega)).trans h11, (gt_st_ne (by omega)).trans h12⟩ (sam_st ⟨by omega, by omega⟩)
theorem Ma_bu (h : Mo E G m M) : gt E G (m + 9) = some (cA 0 200 M.bu) := h.2.2.2.2.2.2.2.2.2.1
theorem Mg_bu {o i : Nat} {F : Int32 → Prop} (h : Mo E G m M) (hi : i < 200) : qIA o E G (m + 9) (iv (i : Int)) F = F (M.bu i) := u_IAn (Ma_bu h) (by omega)
theorem Ms_bu {i : Nat} {x : Int32} {F : Hp → Prop} (h : Mo E G m M) (hi : i < 200) (k : ∀ G1, Mo E G1 m { M with bu := upd M.bu i x } → sam E G G1 (ivl m 13) → F G1) : qIS E G (m + 9) (iv (i : Int)) x F := by
  obtain ⟨h0, h1, h2, h3, h4, h5, h6, h7, h8, h9, h10, h11, h12⟩ := h
  rw [u_ISn h9 (by omega)]
  exact k _ ⟨(gt_st_ne (by omega)).trans h0, (gt_st_ne (by omega)).trans h1, (gt_st_ne (by omega)).trans h2, (gt_st_ne (by omega)).trans h3, (gt_st_ne (by omega)).trans h4, (gt_st_ne (by omega)).trans h5, (gt_st_ne (by omega)).trans h6, (gt_st_ne (by omega)).trans h7, (gt_st_ne (by omega)).trans h8, gt_st_self (by rw [h9]; rfl), (gt_st_ne (by omega)).trans h10, (gt_st_ne (by omega)).trans h11, (gt_st_ne (by omega)).trans h12⟩ (sam_st ⟨by omega, by omega⟩)
theorem Ma_va (h : Mo E G m M) : gt E G (m + 10) = some (cA 2 243 M.va) := h.2.2.2.2.2.2.2.2.2.2.1
theorem Mg_va {i : Nat} {F : Int32 → Prop} (h : Mo E G m M) (hi : i < 243) : qBA E G (m + 10) (iv (i : Int)) F = F (M.va i) := u_BAn (Ma_va h) (by decide) (by omega)
theorem Ms_va {i : Nat} {x : Int32} {F : Hp → Prop} (h : Mo E G m M) (hi : i < 243) (k : ∀ G1, Mo E G1 m { M with va := upd M.va i (vp_nar (kT 2) x) } → sam E G G1 (ivl m 13) → F G1) : qBS E G (m + 10) (iv (i : Int)) x F := by
  obtain ⟨h0, h1, h2, h3, h4, h5, h6, h7, h8, h9, h10, h11, h12⟩ := h
  rw [u_BSn h10 (by decide) (by omega)]
  exact k _ ⟨(gt_st_ne (by omega)).trans h0, (gt_st_ne (by omega)).trans h1, (gt_st_ne (by omega)).trans h2, (gt_st_ne (by omega)).trans h3, (gt_st_ne (by omega)).trans h4, (gt_st_ne (by omega)).trans h5, (gt_st_ne (by omega)).trans h6, (gt_st_ne (by omega)).trans h7, (gt_st_ne (by omega)).trans h8, (gt_st_ne (by omega)).trans h9, gt_st_self (by rw [h10]; rfl), (gt_st_ne (by omega)).trans h11, (gt_st_ne (by omega)).trans h12⟩ (sam_st ⟨by omega, by omega⟩)
theorem Ma_ju (h : Mo E G m M) : gt E G (m + 11) = some (cA 2 243 M.ju) := h.2.2.2.2.2.2.2.2.2.2.2.1
theorem Mg_ju {i : Nat} {F : Int32 → Prop} (h : Mo E G m M) (hi : i < 243) : qBA E G (m + 11) (iv (i : Int)) F = F (M.ju i) := u_BAn (Ma_ju h) (by decide) (by omega)
theorem Ms_ju {i : Nat} {x : Int32} {F : Hp → Prop} (h : Mo E G m M) (hi : i < 243) (k : ∀ G1, Mo E G1 m { M with ju := upd M.ju i (vp_nar (kT 2) x) } → sam E G G1 (ivl m 13) → F G1) : qBS E G (m + 11) (iv (i : Int)) x F := by
  obtain ⟨h0, h1, h2, h3, h4, h5, h6, h7, h8, h9, h10, h11, h12⟩ := h
  rw [u_BSn h11 (by decide) (by omega)]
  exact k _ ⟨(gt_st_ne (by omega)).trans h0, (gt_st_ne (by omega)).trans h1, (gt_st_ne (by omega)).trans h2, (gt_st_ne (by omega)).trans h3, (gt_st_ne (by omega)).trans h4, (gt_st_ne (by omega)).trans h5, (gt_st_ne (by omega)).trans h6, (gt_st_ne (by omega)).trans h7, (gt_st_ne (by omega)).trans h8, (gt_st_ne (by omega)).trans h9, (gt_st_ne (by omega)).trans h10, gt_st_self (by rw [h11]; rfl), (gt_st_ne (by omega)).trans h12⟩ (sam_st ⟨by omega, by omega⟩)
theorem Ma_ma (h : Mo E G m M) : gt E G (m + 12) = some (cA 0 31 M.ma) := h.2.2.2.2.2.2.2.2.2.2.2.2
theorem Mg_ma {o i : Nat} {F : Int32 → Prop} (h : Mo E G m M) (hi : i < 31) : qIA o E G (m + 12) (iv (i : Int)) F = F (M.ma i) := u_IAn (Ma_ma h) (by omega)
theorem Ms_ma {i : Nat} {x : Int32} {F : Hp → Prop} (h : Mo E G m M) (hi : i < 31) (k : ∀ G1, Mo E G1 m { M with ma := upd M.ma i x } → sam E G G1 (ivl m 13) → F G1) : qIS E G (m + 12) (iv (i : Int)) x F := by
  obtain ⟨h0, h1, h2, h3, h4, h5, h6, h7, h8, h9, h10, h11, h12⟩ := h
  rw [u_ISn h12 (by omega)]
  exact k _ ⟨(gt_st_ne (by omega)).trans h0, (gt_st_ne (by omega)).trans h1, (gt_st_ne (by omega)).trans h2, (gt_st_ne (by omega)).trans h3, (gt_st_ne (by omega)).trans h4, (gt_st_ne (by omega)).trans h5, (gt_st_ne (by omega)).trans h6, (gt_st_ne (by omega)).trans h7, (gt_st_ne (by omega)).trans h8, (gt_st_ne (by omega)).trans h9, (gt_st_ne (by omega)).trans h10, (gt_st_ne (by omega)).trans h11, gt_st_self (by rw [h12]; rfl)⟩ (sam_st ⟨by omega, by omega⟩)
theorem MG_tx {o : Nat} {z : Int} (i : Nat) {F : Int32 → Prop} (hz : z = (i : Nat)) (h : Mo E G m M) (hi : i < 99) : qIA o E G (m + 1) (iv z) F = F (M.tx i) := by subst hz; exact Mg_tx h hi
theorem MS_tx {z : Int} (i : Nat) {x : Int32} {F : Hp → Prop} (hz : z = (i : Nat)) (h : Mo E G m M) (hi : i < 99) (k : ∀ G1, Mo E G1 m { M with tx := upd M.tx i x } → sam E G G1 (ivl m 13) → F G1) : qIS E G (m + 1) (iv z) x F := by subst hz; exact Ms_tx h hi k
theorem Mx_tx {G1 : Hp} {f : Nat → Int32} (h : Mo E G m M) (k : sam E G G1 (ivl (m + 1) 1)) (g : gt E G1 (m + 1) = some (cA 0 99 f)) : Mo E G1 m { M with tx := f } ∧ sam E G G1 (ivl m 13) := by
  obtain ⟨h0, h1, h2, h3, h4, h5, h6, h7, h8, h9, h10, h11, h12⟩ := h
  exact ⟨⟨(k.1 _ (by unfold ivl; omega)).trans h0, g, (k.1 _ (by unfold ivl; omega)).trans h2, (k.1 _ (by unfold ivl; omega)).trans h3, (k.1 _ (by unfold ivl; omega)).trans h4, (k.1 _ (by unfold ivl; omega)).trans h5, (k.1 _ (by unfold ivl; omega)).trans h6, (k.1 _ (by unfold ivl; omega)).trans h7, (k.1 _ (by unfold ivl; omega)).trans h8, (k.1 _ (by unfold ivl; omega)).trans h9, (k.1 _ (by unfold ivl; omega)).trans h10, (k.1 _ (by unfold ivl; omega)).trans h11, (k.1 _ (by unfold ivl; omega)).trans h12⟩, sam_mono k (fun a ha => by unfold ivl at ha ⊢; omega)⟩
theorem MG_nw {o : Nat} {z : Int} (i : Nat) {F : Int32 → Prop} (hz : z = (i : Nat)) (h : Mo E G m M) (hi : i < 160) : qIA o E G (m + 2) (iv z) F = F (M.nw i) := by subst hz; exact Mg_nw h hi
theorem MS_nw {z : Int} (i : Nat) {x : Int32} {F : Hp → Prop} (hz : z = (i : Nat)) (h : Mo E G m M) (hi : i < 160) (k : ∀ G1, Mo E G1 m { M with nw := upd M.nw i x } → sam E G G1 (ivl m 13) → F G1) : qIS E G (m + 2) (iv z) x F := by subst hz; exact Ms_nw h hi k
theorem Mx_nw {G1 : Hp} {f : Nat → Int32} (h : Mo E G m M) (k : sam E G G1 (ivl (m + 2) 1)) (g : gt E G1 (m + 2) = some (cA 0 160 f)) : Mo E G1 m { M with nw := f } ∧ sam E G G1 (ivl m 13) := by
  obtain ⟨h0, h1, h2, h3, h4, h5, h6, h7, h8, h9, h10, h11, h12⟩ := h
  exact ⟨⟨(k.1 _ (by unfold ivl; omega)).trans h0, (k.1 _ (by unfold ivl; omega)).trans h1, g, (k.1 _ (by unfold ivl; omega)).trans h3, (k.1 _ (by unfold ivl; omega)).trans h4, (k.1 _ (by unfold ivl; omega)).trans h5, (k.1 _ (by unfold ivl; omega)).trans h6, (k.1 _ (by unfold ivl; omega)).trans h7, (k.1 _ (by unfold ivl; omega)).trans h8, (k.1 _ (by unfold ivl; omega)).trans h9, (k.1 _ (by unfold ivl; omega)).trans h10, (k.1 _ (by unfold ivl; omega)).trans h11, (k.1 _ (by unfold ivl; omega)).trans h12⟩, sam_mono k (fun a ha => by unfold ivl at ha ⊢; omega)⟩
theorem MG_tr {o : Nat} {z : Int} (i : Nat) {F : Int32 → Prop} (hz : z = (i : Nat)) (h : Mo E G m M) (hi : i < 160) : qIA o E G (m + 3) (iv z) F = F (M.tr i) := by subst hz; exact Mg_tr h hi
theorem MS_tr {z : Int} (i : Nat) {x : Int32} {F : Hp → Prop} (hz : z = (i : Nat)) (h : Mo E G m M) (hi : i < 160) (k : ∀ G1, Mo E G1 m { M with tr := upd M.tr i x } → sam E G G1 (ivl m 13) → F G1) : qIS E G (m + 3) (iv z) x F := by subst hz; exact Ms_tr h hi k
theorem Mx_tr {G1 : Hp} {f : Nat → Int32} (h : Mo E G m M) (k : sam E G G1 (ivl (m + 3) 1)) (g : gt E G1 (m + 3) = some (cA 0 160 f)) : Mo E G1 m { M with tr := f } ∧ sam E G G1 (ivl m 13) := by
  obtain ⟨h0, h1, h2, h3, h4, h5, h6, h7, h8, h9, h10, h11, h12⟩ := h
  exact ⟨⟨(k.1 _ (by unfold ivl; omega)).trans h0, (k.1 _ (by unfold ivl; omega)).trans h1, (k.1 _ (by unfold ivl; omega)).trans h2, g, (k.1 _ (by unfold ivl; omega)).trans h4, (k.1 _ (by unfold ivl; omega)).trans h5, (k.1 _ (by unfold ivl; omega)).trans h6, (k.1 _ (by unfold ivl; omega)).trans h7, (k.1 _ (by unfold ivl; omega)).trans h8, (k.1 _ (by unfold ivl; omega)).trans h9, (k.1 _ (by unfold ivl; omega)).trans h10, (k.1 _ (by unfold ivl; omega)).trans h11, (k.1 _ (by unfold ivl; omega)).trans h12⟩, sam_mono k (fun a ha => by unfold ivl at ha ⊢; omega)⟩
theorem MG_rd {o : Nat} {z : Int} (i : Nat) {F : Int32 → Prop} (hz : z = (i : Nat)) (h : Mo E G m M) (hi : i < 160) : qIA o E G (m + 4) (iv z) F = F (M.rd i) := by subst hz; exact Mg_rd h hi
theorem MS_rd {z : Int} (i : Nat) {x : Int32} {F : Hp → Prop} (hz : z = (i : Nat)) (h : Mo E G m M) (hi : i < 160) (k : ∀ G1, Mo E G1 m { M with rd := upd M.rd i x } → sam E G G1 (ivl m 13) → F G1) : qIS E G (m + 4) (iv z) x F := by subst hz; exact Ms_rd h hi k
theorem Mx_rd {G1 : Hp} {f : Nat → Int32} (h : Mo E G m M) (k : sam E G G1 (ivl (m + 4) 1)) (g : gt E G1 (m + 4) = some (cA 0 160 f)) : Mo E G1 m { M with rd := f } ∧ sam E G G1 (ivl m 13) := by
  obtain ⟨h0, h1, h2, h3, h4, h5, h6, h7, h8, h9, h10, h11, h12⟩ := h
  exact ⟨⟨(k.1 _ (by unfold ivl; omega)).trans h0, (k.1 _ (by unfold ivl; omega)).trans h1, (k.1 _ (by unfold ivl; omega)).trans h2, (k.1 _ (by unfold ivl; omega)).trans h3, g, (k.1 _ (by unfold ivl; omega)).trans h5, (k.1 _ (by unfold ivl; omega)).trans h6, (k.1 _ (by unfold ivl; omega)).trans h7, (k.1 _ (by unfold ivl; omega)).trans h8, (k.1 _ (by unfold ivl; omega)).trans h9, (k.1 _ (by unfold ivl; omega)).trans h10, (k.1 _ (by unfold ivl; omega)).trans h11, (k.1 _ (by unfold ivl; omega)).trans h12⟩, sam_mono k (fun a ha => by unfold ivl at ha ⊢; omega)⟩
theorem MG_di {o : Nat} {z : Int} (i : Nat) {F : Int32 → Prop} (hz : z = (i : Nat)) (h : Mo E G m M) (hi : i < 2240) : qIA o E G (m + 5) (iv z) F = F (M.di i) := by subst hz; exact Mg_di h hi
theorem MS_di {z : Int} (i : Nat) {x : Int32} {F : Hp → Prop} (hz : z = (i : Nat)) (h : Mo E G m M) (hi : i < 2240) (k : ∀ G1, Mo E G1 m { M with di := upd M.di i x } → sam E G G1 (ivl m 13) → F G1) : qIS E G (m + 5) (iv z) x F := by subst hz; exact Ms_di h hi k
theorem Mx_di {G1 : Hp} {f : Nat → Int32} (h : Mo E G m M) (k : sam E G G1 (ivl (m + 5) 1)) (g : gt E G1 (m + 5) = some (cA 0 2240 f)) : Mo E G1 m { M with di := f } ∧ sam E G G1 (ivl m 13) := by
  obtain ⟨h0, h1, h2, h3, h4, h5, h6, h7, h8, h9, h10, h11, h12⟩ := h
  exact ⟨⟨(k.1 _ (by unfold ivl; omega)).trans h0, (k.1 _ (by unfold ivl; omega)).trans h1, (k.1 _ (by unfold ivl; omega)).trans h2, (k.1 _ (by unfold ivl; omega)).trans h3, (k.1 _ (by unfold ivl; omega)).trans h4, g, (k.1 _ (by unfold ivl; omega)).trans h6, (k.1 _ (by unfold ivl; omega)).trans h7, (k.1 _ (by unfold ivl; omega)).trans h8, (k.1 _ (by unfold ivl; omega)).trans h9, (k.1 _ (by unfold ivl; omega)).trans h10, (k.1 _ (by unfold ivl; omega)).trans h11, (k.1 _ (by unfold ivl; omega)).trans h12⟩, sam_mono k (fun a ha => by unfold ivl at ha ⊢; omega)⟩
theorem MG_ke {o : Nat} {z : Int} (i : Nat) {F : Int32 → Prop} (hz : z = (i : Nat)) (h : Mo E G m M) (hi : i < 320) : qIA o E G (m + 6) (iv z) F = F (M.ke i) := by subst hz; exact Mg_ke h hi
theorem MS_ke {z : Int} (i : Nat) {x : Int32} {F : Hp → Prop} (hz : z = (i : Nat)) (h : Mo E G m M) (hi : i < 320) (k : ∀ G1, Mo E G1 m { M with ke := upd M.ke i x } → sam E G G1 (ivl m 13) → F G1) : qIS E G (m + 6) (iv z) x F := by subst hz; exact Ms_ke h hi k
theorem Mx_ke {G1 : Hp} {f : Nat → Int32} (h : Mo E G m M) (k : sam E G G1 (ivl (m + 6) 1)) (g : gt E G1 (m + 6) = some (cA 0 320 f)) : Mo E G1 m { M with ke := f } ∧ sam E G G1 (ivl m 13) := by
  obtain ⟨h0, h1, h2, h3, h4, h5, h6, h7, h8, h9, h10, h11, h12⟩ := h
  exact ⟨⟨(k.1 _ (by unfold ivl; omega)).trans h0, (k.1 _ (by unfold ivl; omega)).trans h1, (k.1 _ (by unfold ivl; omega)).trans h2, (k.1 _ (by unfold ivl; omega)).trans h3, (k.1 _ (by unfold ivl; omega)).trans h4, (k.1 _ (by unfold ivl; omega)).trans h5, g, (k.1 _ (by unfold ivl; omega)).trans h7, (k.1 _ (by unfold ivl; omega)).trans h8, (k.1 _ (by unfold ivl; omega)).trans h9, (k.1 _ (by unfold ivl; omega)).trans h10, (k.1 _ (by unfold ivl; omega)).trans h11, (k.1 _ (by unfold ivl; omega)).trans h12⟩, sam_mono k (fun a ha => by unfold ivl at ha ⊢; omega)⟩
theorem MG_ik {z : Int} (i : Nat) {F : Int32 → Prop} (hz : z = (i : Nat)) (h : Mo E G m M) (hi : i < 2) : qBA E G (m + 7) (iv z) F = F (M.ik i) := by subst hz; exact Mg_ik h hi
theorem MS_ik {z : Int} (i : Nat) {x : Int32} {F : Hp → Prop} (hz : z = (i : Nat)) (h : Mo E G m M) (hi : i < 2) (k : ∀ G1, Mo E G1 m { M with ik := upd M.ik i (vp_nar (kT 2) x) } → sam E G G1 (ivl m 13) → F G1) : qBS E G (m + 7) (iv z) x F := by subst hz; exact Ms_ik h hi k
theorem Mx_ik {G1 : Hp} {f : Nat → Int32} (h : Mo E G m M) (k : sam E G G1 (ivl (m + 7) 1)) (g : gt E G1 (m + 7) = some (cA 2 2 f)) : Mo E G1 m { M with ik := f } ∧ sam E G G1 (ivl m 13) := by
  obtain ⟨h0, h1, h2, h3, h4, h5, h6, h7, h8, h9, h10, h11, h12⟩ := h
  exact ⟨⟨(k.1 _ (by unfold ivl; omega)).trans h0, (k.1 _ (by unfold ivl; omega)).trans h1, (k.1 _ (by unfold ivl; omega)).trans h2, (k.1 _ (by unfold ivl; omega)).trans h3, (k.1 _ (by unfold ivl; omega)).trans h4, (k.1 _ (by unfold ivl; omega)).trans h5, (k.1 _ (by unfold ivl; omega)).trans h6, g, (k.1 _ (by unfold ivl; omega)).trans h8, (k.1 _ (by unfold ivl; omega)).trans h9, (k.1 _ (by unfold ivl; omega)).trans h10, (k.1 _ (by unfold ivl; omega)).trans h11, (k.1 _ (by unfold ivl; omega)).trans h12⟩, sam_mono k (fun a ha => by unfold ivl at ha ⊢; omega)⟩
theorem MG_te {o : Nat} {z : Int} (i : Nat) {F : Int32 → Prop} (hz : z = (i : Nat)) (h : Mo E G m M) (hi : i < 200) : qIA o E G (m + 8) (iv z) F = F (M.te i) := by subst hz; exact Mg_te h hi
theorem MS_te {z : Int} (i : Nat) {x : Int32} {F : Hp → Prop} (hz : z = (i : Nat)) (h : Mo E G m M) (hi : i < 200) (k : ∀ G1, Mo E G1 m { M with te := upd M.te i x } → sam E G G1 (ivl m 13) → F G1) : qIS E G (m + 8) (iv z) x F := by subst hz; exact Ms_te h hi k
theorem Mx_te {G1 : Hp} {f : Nat → Int32} (h : Mo E G m M) (k : sam E G G1 (ivl (m + 8) 1)) (g : gt E G1 (m + 8) = some (cA 0 200 f)) : Mo E G1 m { M with te := f } ∧ sam E G G1 (ivl m 13) := by
  obtain ⟨h0, h1, h2, h3, h4, h5, h6, h7, h8, h9, h10, h11, h12⟩ := h
  exact ⟨⟨(k.1 _ (by unfold ivl; omega)).trans h0, (k.1 _ (by unfold ivl; omega)).trans h1, (k.1 _ (by unfold ivl; omega)).trans h2, (k.1 _ (by unfold ivl; omega)).trans h3, (k.1 _ (by unfold ivl; omega)).trans h4, (k.1 _ (by unfold ivl; omega)).trans h5, (k.1 _ (by unfold ivl; omega)).trans h6, (k.1 _ (by unfold ivl; omega)).trans h7, g, (k.1 _ (by unfold ivl; omega)).trans h9, (k.1 _ (by unfold ivl; omega)).trans h10, (k.1 _ (by unfold ivl; omega)).trans h11, (k.1 _ (by unfold ivl; omega)).trans h12⟩, sam_mono k (fun a ha => by unfold ivl at ha ⊢; omega)⟩
theorem MG_bu {o : Nat} {z : Int} (i : Nat) {F : Int32 → Prop} (hz : z = (i : Nat)) (h : Mo E G m M) (hi : i < 200) : qIA o E G (m + 9) (iv z) F = F (M.bu i) := by subst hz; exact Mg_bu h hi
theorem MS_bu {z : Int} (i : Nat) {x : Int32} {F : Hp → Prop} (hz : z = (i : Nat)) (h : Mo E G m M) (hi : i < 200) (k : ∀ G1, Mo E G1 m { M with bu := upd M.bu i x } → sam E G G1 (ivl m 13) → F G1) : qIS E G (m + 9) (iv z) x F := by subst hz; exact Ms_bu h hi k
theorem Mx_bu {G1 : Hp} {f : Nat → Int32} (h : Mo E G m M) (k : sam E G G1 (ivl (m + 9) 1)) (g : gt E G1 (m + 9) = some (cA 0 200 f)) : Mo E G1 m { M with bu := f } ∧ sam E G G1 (ivl m 13) := by
  obtain ⟨h0, h1, h2, h3, h4, h5, h6, h7, h8, h9, h10, h11, h12⟩ := h
  exact ⟨⟨(k.1 _ (by unfold ivl; omega)).trans h0, (k.1 _ (by unfold ivl; omega)).trans h1, (k.1 _ (by unfold ivl; omega)).trans h2, (k.1 _ (by unfold ivl; omega)).trans h3, (k.1 _ (by unfold ivl; omega)).trans h4, (k.1 _ (by unfold ivl; omega)).trans h5, (k.1 _ (by unfold ivl; omega)).trans h6, (k.1 _ (by unfold ivl; omega)).trans h7, (k.1 _ (by unfold ivl; omega)).trans h8, g, (k.1 _ (by unfold ivl; omega)).trans h10, (k.1 _ (by unfold ivl; omega)).trans h11, (k.1 _ (by unfold ivl; omega)).trans h12⟩, sam_mono k (fun a ha => by unfold ivl at ha ⊢; omega)⟩
theorem MG_va {z : Int} (i : Nat) {F : Int32 → Prop} (hz : z = (i : Nat)) (h : Mo E G m M) (hi : i < 243) : qBA E G (m + 10) (iv z) F = F (M.va i) := by subst hz; exact Mg_va h hi
theorem MS_va {z : Int} (i : Nat) {x : Int32} {F : Hp → Prop} (hz : z = (i : Nat)) (h : Mo E G m M) (hi : i < 243) (k : ∀ G1, Mo E G1 m { M with va := upd M.va i (vp_nar (kT 2) x) } → sam E G G1 (ivl m 13) → F G1) : qBS E G (m + 10) (iv z) x F := by subst hz; exact Ms_va h hi k
theorem Mx_va {G1 : Hp} {f : Nat → Int32} (h : Mo E G m M) (k : sam E G G1 (ivl (m + 10) 1)) (g : gt E G1 (m + 10) = some (cA 2 243 f)) : Mo E G1 m { M with va := f } ∧ sam E G G1 (ivl m 13) := by
  obtain ⟨h0, h1, h2, h3, h4, h5, h6, h7, h8, h9, h10, h11, h12⟩ := h
  exact ⟨⟨(k.1 _ (by unfold ivl; omega)).trans h0, (k.1 _ (by unfold ivl; omega)).trans h1, (k.1 _ (by unfold ivl; omega)).trans h2, (k.1 _ (by unfold ivl; omega)).trans h3, (k.1 _ (by unfold ivl; omega)).trans h4, (k.1 _ (by unfold ivl; omega)).trans h5, (k.1 _ (by unfold ivl; omega)).trans h6, (k.1 _ (by unfold ivl; omega)).trans h7, (k.1 _ (by unfold ivl; omega)).trans h8, (k.1 _ (by unfold ivl; omega)).trans h9, g, (k.1 _ (by unfold ivl; omega)).trans h11, (k.1 _ (by unfold ivl; omega)).trans h12⟩, sam_mono k (fun a ha => by unfold ivl at ha ⊢; omega)⟩
theorem MG_ju {z : Int} (i : Nat) {F : Int32 → Prop} (hz : z = (i : Nat)) (h : Mo E G m M) (hi : i < 243) : qBA E G (m + 11) (iv z) F = F (M.ju i) := by subst hz; exact Mg_ju h hi
theorem MS_ju {z : Int} (i : Nat) {x : Int32} {F : Hp → Prop} (hz : z = (i : Nat)) (h : Mo E G m M) (hi : i < 243) (k : ∀ G1, Mo E G1 m { M with ju := upd M.ju i (vp_nar (kT 2) x) } → sam E G G1 (ivl m 13) → F G1) : qBS E G (m + 11) (iv z) x F := by subst hz; exact Ms_ju h hi k
theorem Mx_ju {G1 : Hp} {f : Nat → Int32} (h : Mo E G m M) (k : sam E G G1 (ivl (m + 11) 1)) (g : gt E G1 (m + 11) = some (cA 2 243 f)) : Mo E G1 m { M with ju := f } ∧ sam E G G1 (ivl m 13) := by
  obtain ⟨h0, h1, h2, h3, h4, h5, h6, h7, h8, h9, h10, h11, h12⟩ := h
  exact ⟨⟨(k.1 _ (by unfold ivl; omega)).trans h0, (k.1 _ (by unfold ivl; omega)).trans h1, (k.1 _ (by unfold ivl; omega)).trans h2, (k.1 _ (by unfold ivl; omega)).trans h3, (k.1 _ (by unfold ivl; omega)).trans h4, (k.1 _ (by unfold ivl; omega)).trans h5, (k.1 _ (by unfold ivl; omega)).trans h6, (k.1 _ (by unfold ivl; omega)).trans h7, (k.1 _ (by unfold ivl; omega)).trans h8, (k.1 _ (by unfold ivl; omega)).trans h9, (k.1 _ (by unfold ivl; omega)).trans h10, g, (k.1 _ (by unfold ivl; omega)).trans h12⟩, sam_mono k (fun a ha => by unfold ivl at ha ⊢; omega)⟩
theorem MG_ma {o : Nat} {z : Int} (i : Nat) {F : Int32 → Prop} (hz : z = (i : Nat)) (h : Mo E G m M) (hi : i < 31) : qIA o E G (m + 12) (iv z) F = F (M.ma i) := by subst hz; exact Mg_ma h hi
theorem MS_ma {z : Int} (i : Nat) {x : Int32} {F : Hp → Prop} (hz : z = (i : Nat)) (h : Mo E G m M) (hi : i < 31) (k : ∀ G1, Mo E G1 m { M with ma := upd M.ma i x } → sam E G G1 (ivl m 13) → F G1) : qIS E G (m + 12) (iv z) x F := by subst hz; exact Ms_ma h hi k
theorem Mx_ma {G1 : Hp} {f : Nat → Int32} (h : Mo E G m M) (k : sam E G G1 (ivl (m + 12) 1)) (g : gt E G1 (m + 12) = some (cA 0 31 f)) : Mo E G1 m { M with ma := f } ∧ sam E G G1 (ivl m 13) := by
  obtain ⟨h0, h1, h2, h3, h4, h5, h6, h7, h8, h9, h10, h11, h12⟩ := h
  exact ⟨⟨(k.1 _ (by unfold ivl; omega)).trans h0, (k.1 _ (by unfold ivl; omega)).trans h1, (k.1 _ (by unfold ivl; omega)).trans h2, (k.1 _ (by unfold ivl; omega)).trans h3, (k.1 _ (by unfold ivl; omega)).trans h4, (k.1 _ (by unfold ivl; omega)).trans h5, (k.1 _ (by unfold ivl; omega)).trans h6, (k.1 _ (by unfold ivl; omega)).trans h7, (k.1 _ (by unfold ivl; omega)).trans h8, (k.1 _ (by unfold ivl; omega)).trans h9, (k.1 _ (by unfold ivl; omega)).trans h10, (k.1 _ (by unfold ivl; omega)).trans h11, g⟩, sam_mono k (fun a ha => by unfold ivl at ha ⊢; omega)⟩
end MO
