/-! THE ABSTRACT MACHINE IS SOUND: what holds of the machine's heap, of its tables, of the locals -/
abbrev clsT : List vw_C := [(RX0, TX0, 3), (RX1, TX1, 4), (RX2, TX2, 2), (RX3, TX3, 3), (RX4, TX4, 7), (RX5, TX5, 6), (RX6, TX6, 11), (RX7, TX7, 20)]
abbrev Yc : Type := ClassId × ClassId × ClassId × ClassId × ClassId × ClassId
def yk (Y : Yc) (k : Nat) : ClassId := match k with
  | 0 => Y.1 | 1 => Y.2.1 | _ => Y.2.2.1
def yr (Y : Yc) (k : Nat) : ClassId := match k with
  | 0 => Y.2.2.2.1 | 1 => Y.2.2.2.2.1 | _ => Y.2.2.2.2.2
def rT (k : Nat) : FieldType := match k with
  | 0 => .object RX1 | 1 => .object RX2 | _ => .array .byte
abbrev tyY (Y : Yc) : List (ClassId × FieldType) := [(Y.1, .int), (Y.2.1, .byte), (Y.2.2.1, .boolean), (Y.2.2.2.1, .object RX1), (Y.2.2.2.2.1, .object RX2), (Y.2.2.2.2.2, .array .byte)]
theorem ty_k (Y : Yc) (k : Nat) : ∃ t : Nat, (tyY Y)[t]? = some (yk Y k, kT k) := by
  match k with
  | 0 => exact ⟨0, rfl⟩
  | 1 => exact ⟨1, rfl⟩
  | k + 2 => exact ⟨2, rfl⟩
theorem ty_r (Y : Yc) (k : Nat) : ∃ t : Nat, (tyY Y)[t]? = some (yr Y k, rT k) := by
  match k with
  | 0 => exact ⟨3, rfl⟩
  | 1 => exact ⟨4, rfl⟩
  | k + 2 => exact ⟨5, rfl⟩
def tr (Y : Yc) (c : Cl) : va_E := match c with
  | .inl (k, n, f) => .inl (yk Y k, n, .inl f)
  | .inr (.inl (k, n, f)) => .inl (yr Y k, n, .inr (.inr (.inr (.inr f))))
  | .inr (.inr (c, fs)) => .inr (c, fs)
def trW (Y : Yc) (B : Nat) (L : List Cl) : va_W := L.mapIdx (fun i c => (B + i, tr Y c))
theorem trW_get (Y : Yc) (B : Nat) (L : List Cl) (i : Nat) : (trW Y B L)[i]? = (L[i]?).map (fun c => (B + i, tr Y c)) := by
  unfold trW
  rw [List.getElem?_mapIdx]
theorem trW_set (Y : Yc) (B : Nat) (L : List Cl) (i : Nat) (c : Cl) : (trW Y B L).set i (B + i, tr Y c) = trW Y B (L.set i c) := by
  apply List.ext_getElem?
  intro j
  rw [trW_get, List.getElem?_set, List.getElem?_set]
  by_cases h : i = j
  · subst h
    simp only [if_true]
    have e : (trW Y B L).length = L.length := by simp [trW]
    rw [e]
    by_cases hl : i < L.length
    · simp [hl]
    · simp [hl]
  · rw [if_neg h, if_neg h, trW_get]
theorem trW_app (Y : Yc) (B : Nat) (L : List Cl) (c : Cl) : trW Y B (L ++ [c]) = trW Y B L ++ [(B + L.length, tr Y c)] := by
  unfold trW
  rw [List.mapIdx_append]
  simp
def AA (E : Ev) : Nat → Prop := fun q => eB E ≤ q
def IV (E : Ev) (D : va_G) (Y : Yc) (G : Hp) (H : Heap) : Prop := va_P D clsT (trW Y (eB E) G.1) H ∧ H.size = eB E + G.1.length
theorem IV.D {E : Ev} {Y : Yc} {L : List Cl} : va_D (AA E) (trW Y (eB E) L) := by
  refine ⟨fun i j p q hi hj e => ?_, fun k q hk => ?_⟩
  · rw [trW_get] at hi hj
    cases h1 : L[i]? with
    | none => rw [h1] at hi; cases hi
    | some c =>
      cases h2 : L[j]? with
      | none => rw [h2] at hj; cases hj
      | some c' =>
        rw [h1] at hi; rw [h2] at hj
        cases hi; cases hj
        have e' : eB E + i = eB E + j := e
        omega
  · rw [trW_get] at hk
    cases h1 : L[k]? with
    | none => rw [h1] at hk; cases hk
    | some c =>
      rw [h1] at hk
      cases hk
      exact Nat.le_add_right _ _
theorem gt_at {E : Ev} {Y : Yc} {G : Hp} {a : Nat} {c : Cl} (h : gt E G a = some c) : (trW Y (eB E) G.1)[a - eB E]? = some (a, tr Y c) ∧ eB E ≤ a := by
  unfold gt at h
  split at h
  · next hb =>
    rw [trW_get, h]
    refine ⟨?_, hb⟩
    show some (eB E + (a - eB E), tr Y c) = _
    rw [Nat.add_sub_cancel' hb]
  · cases h
theorem st_tr {E : Ev} {Y : Yc} {G : Hp} {a : Nat} {c : Cl} (hb : eB E ≤ a) : (trW Y (eB E) G.1).set (a - eB E) (a, tr Y c) = trW Y (eB E) (st E G a c).1 := by
  unfold st
  rw [if_pos hb, ← trW_set, Nat.add_sub_cancel' hb]
theorem st_len {E : Ev} {G : Hp} {a : Nat} {c : Cl} : (st E G a c).1.length = G.1.length ∧ (st E G a c).2 = G.2 := by
  unfold st
  split
  · exact ⟨by simp, rfl⟩
  · exact ⟨rfl, rfl⟩
/-- the words that every method has: those of the tables that last -/
def LW : List Cond := lw_tbl.filter goodWord
theorem LW_in {w : Cond} (h : w ∈ lw_tbl) (g : goodWord w = true) : w ∈ LW := List.mem_filter.mpr ⟨h, g⟩
theorem LW_good {w : Cond} (h : w ∈ LW) : (w.onTables && w.keeps) = true ∨ ∃ ty, w = .arrayClass ty := good_of_word (List.mem_filter.mp h).2
theorem LW_t {w : Cond} (i : Nat) (h : tables_1[i]? = some w) (g : goodWord w = true) : w ∈ LW := LW_in (List.mem_append_right _ (List.mem_of_getElem? h)) g
def nestL : List (Nat × Nat × Nat) := (tM.filter (fun q => q.2.1 == 5)).map (fun q => (q.1, q.2.2.1, q.2.2.2))
def yOf (id : Nat) : MethodName := ((tY[id]?).map (fun m => m.1)).getD yX2_add
/-- what the tables and the old heap say -/
def KN (E : Ev) (D : va_G) (Y : Yc) (U : State) : Prop :=
  va_K D clsT (tyY Y) U ∧
  (∀ (o idx id p : Nat), fM o idx = some (5, id, p) → va_Nw (.methodLinkNest (tN o) idx (yOf id) RX6) U) ∧
  (va_AO RX1 U ∧ va_AO RX2 U ∧ va_Nw (.arrayOver (.array .byte)) U) ∧
  (va_Z RX6 "ARITIES" "[I" (.ref (eA E)) (AA E) U U.heap ∧ va_T .int (eA E) 10 (fun j => .int (arit j)) (AA E) U U.heap) ∧
  va_Z RJ0 "COMPACT_STRINGS" "Z" (.int 1) (AA E) U U.heap ∧
  va_Z RJ3 "SIOOBE_FORMATTER" "Ljava/util/function/BiFunction;" (eF E) (AA E) U U.heap ∧
  (va_O RJ0 (eS E) (AA E) U U.heap ∧ va_OF RJ0 "coder" "B" (.int 0) (eS E) (AA E) U U.heap ∧ va_OF RJ0 "value" "[B" (.ref (eV E)) (eS E) (AA E) U U.heap ∧ va_T .byte (eV E) 10 (fun j => .int (byts j)) (AA E) U U.heap) ∧
  (vk_R RX3 90 "abcdSFGHxy" (eS E) U ∧ vk_R RX6 253 "abcdSFGHxy" (eS E) U) ∧
  (va_X (eb E) (eL E) (ex E) U U.heap ∧ eb E < eB E ∧ eB E ≤ U.heap.size)
def AOp (comp : ClassId) (x : Class) : Bool := match x.kind with
  | .array component _ => component == comp
  | _ => false
def AOk (vm : Vm) (c : Nat) (k : Class) : Bool := match k.kind with
  | .array _ ty => decide (ty = .array .byte) && decide (vm.findClass ("[" ++ (FieldType.array .byte).toString) = some c)
  | _ => false
theorem AOb_iff {U : State} : va_Nw (.arrayOver (.array .byte)) U = ((((U.vm.findClass (FieldType.array .byte).toString).bind fun comp => (U.vm.classes.findIdx? (AOp comp)).bind fun c => (U.vm.classes[c]?).map (AOk U.vm c)) == some true) = true) := rfl
theorem AOb_moved {u U : State} (hvm : u.vm.Alike U.vm) (h : va_Nw (.arrayOver (.array .byte)) u) : va_Nw (.arrayOver (.array .byte)) U := by
  rw [AOb_iff] at h ⊢
  rw [hvm.findClass]
  cases hc : u.vm.findClass (FieldType.array FieldType.byte).toString with
  | none => rw [hc] at h; simp at h
  | some comp =>
    rw [hc, Option.bind_some] at h
    rw [Option.bind_some]
    have hi : U.vm.classes.findIdx? (AOp comp) = u.vm.classes.findIdx? (AOp comp) := by
      have e1 : U.vm.bare.classes.findIdx? (AOp comp) = U.vm.classes.findIdx? (AOp comp) := va_idx_bare U.vm comp
      have e2 : u.vm.bare.classes.findIdx? (AOp comp) = u.vm.classes.findIdx? (AOp comp) := va_idx_bare u.vm comp
      rw [← e1, ← e2]
      first | rw [hvm.bare_eq] | rw [← hvm.bare_eq]
    rw [hi]
    cases hx : u.vm.classes.findIdx? (AOp comp) with
    | none => rw [hx] at h; simp at h
    | some c =>
      rw [hx, Option.bind_some] at h
      rw [Option.bind_some]
      cases hk : u.vm.classes[c]? with
      | none => rw [hk] at h; simp at h
      | some k =>
        obtain ⟨k', hk', he⟩ := hvm.2.2 _ _ hk
        rw [hk, Option.map_some] at h
        rw [hk', Option.map_some]
        have hkind : k'.kind = k.kind := by rw [he]
        have e : AOk U.vm c k' = AOk u.vm c k := by
          unfold AOk
          rw [hkind, hvm.findClass]
        rw [e]
        exact h
theorem KN.to {E : Ev} {D : va_G} {Y : Yc} {s U : State} {H : Heap} {locs : List Loc} (h : KN E D Y s) (hW : s.WarmedH U.vm) (hU : U.heap = H) (hS : va_S (AA E) s.heap H locs) : KN E D Y U := by
  obtain ⟨h1, h2, ⟨h3a, h3b, h3c⟩, ⟨h4a, h4b⟩, h5, h6, ⟨h7a, h7b, h7c, h7d⟩, ⟨h8a, h8b⟩, h9a, h9b, h9c⟩ := h
  have hA := hW.alike
  subst hU
  have hq := hS.2.1
  refine ⟨va_K.moved hA h1, fun o idx id p hf => va_Nw.warmM hW (h2 o idx id p hf), ⟨va_AO.moved hA h3a, va_AO.moved hA h3b, ?_⟩, ⟨va_Z.moved hA (h4a.kept hq), va_T.moved hA (h4b.kept hq)⟩, va_Z.moved hA (h5.kept hq), va_Z.moved hA (h6.kept hq), ⟨va_O.moved hA (h7a.kept hq), va_OF.moved hA (h7b.kept hq), va_OF.moved hA (h7c.kept hq), va_T.moved hA (h7d.kept hq)⟩, ⟨vk_R.warm hW h8a, vk_R.warm hW h8b⟩, va_X.moved hA (h9a.kept (hq _ (Nat.lt_of_lt_of_le h9b h9c) (Nat.not_le.mpr h9b))), h9b, Nat.le_trans h9c hS.1⟩
  exact AOb_moved hA h3c

/-- the locals -/
def toA (lo : Lo) : List (Nat × Value) := (lo.mapIdx (fun i v => v.map (fun x => (i, x)))).filterMap (fun q => q)
theorem toA_mem {lo : Lo} {q : Nat × Value} : q ∈ toA lo ↔ lo[q.1]? = some (some q.2) := by
  unfold toA
  rw [List.mem_filterMap]
  constructor
  · rintro ⟨a, ha, e⟩
    obtain ⟨i, hi⟩ := List.getElem?_of_mem ha
    rw [List.getElem?_mapIdx] at hi
    cases h : lo[i]? with
    | none => rw [h] at hi; cases hi
    | some v =>
      rw [h] at hi
      cases v with
      | none => cases hi; cases e
      | some x =>
        cases hi
        cases e
        exact h
  · intro h
    refine ⟨some q, ?_, rfl⟩
    refine List.mem_of_getElem? (i := q.1) ?_
    rw [List.getElem?_mapIdx, h]
    rfl
def LR (ls : Array Slot) (nL : Nat) (lo : Lo) : Prop := lo.length = nL ∧ lv_has ls nL (toA lo)
theorem LR.at {ls : Array Slot} {nL : Nat} {lo : Lo} (h : LR ls nL lo) {i : Nat} {v : Value} (hv : lget lo i = some v) : ls[i]? = some (.val v) := by
  refine h.2.2.2 (i, v) (toA_mem.mpr ?_)
  unfold lget at hv
  split at hv
  · next x hx => cases hv; exact hx
  · cases hv
theorem LR.st1 {ls : Array Slot} {nL : Nat} {lo lo' : Lo} {i : Nat} {v : Value} (hl : lo.length = nL) (hs : lst1 lo i v = some lo') (h : lv_has ls nL ((i, v) :: (toA lo).filter (fun q => !(q.1 == i) && !(q.1 + 1 == i && q.2.category == 2)))) : LR ls nL lo' ∧ i < nL := by
  unfold lst1 at hs
  split at hs
  · next hc =>
    cases hs
    refine ⟨⟨by simp [hl], h.1, h.2.1, fun q hq => ?_⟩, by omega⟩
    rw [toA_mem] at hq
    by_cases e : i = q.1
    · subst e
      rw [List.getElem?_set, if_pos rfl, if_pos hc.1] at hq
      have e2 : v = q.2 := Option.some.inj (Option.some.inj hq)
      subst e2
      exact h.2.2 _ List.mem_cons_self
    · rw [List.getElem?_set, if_neg e] at hq
      refine h.2.2 q (List.mem_cons_of_mem _ (List.mem_filter.mpr ⟨toA_mem.mpr hq, ?_⟩))
      have h1 : (q.1 == i) = false := beq_eq_false_iff_ne.mpr (Ne.symm e)
      rw [h1]
      have h2 : (q.1 + 1 == i && q.2.category == 2) = false := by
        by_cases e3 : q.1 + 1 = i
        · subst e3
          have hn := hc.2
          unfold noLong at hn
          simp only [hq] at hn
          have e4 : q.2.category = 1 := by simpa using hn
          simp [e4]
        · have : (q.1 + 1 == i) = false := beq_eq_false_iff_ne.mpr e3
          rw [this]; rfl
      rw [h2]
      rfl
  · cases hs
theorem LR.st2 {ls : Array Slot} {nL : Nat} {lo lo' : Lo} {i : Nat} {v : Value} (hl : lo.length = nL) (hs : lst2 lo i v = some lo') (h : lv_has ls nL ((i, v) :: (toA lo).filter (fun q => !(q.1 == i) && (!(q.1 == i + 1) && !(q.1 + 1 == i && q.2.category == 2))))) : LR ls nL lo' ∧ i + 1 < nL := by
  unfold lst2 at hs
  split at hs
  · next hc =>
    cases hs
    refine ⟨⟨by simp [hl], h.1, h.2.1, fun q hq => ?_⟩, by omega⟩
    rw [toA_mem] at hq
    rw [List.getElem?_set] at hq
    by_cases e1 : i + 1 = q.1
    · rw [if_pos e1] at hq
      split at hq <;> cases hq
    · rw [if_neg e1] at hq
      by_cases e : i = q.1
      · subst e
        rw [List.getElem?_set, if_pos rfl, if_pos (by omega)] at hq
        have e2 : v = q.2 := Option.some.inj (Option.some.inj hq)
        subst e2
        exact h.2.2 _ List.mem_cons_self
      · rw [List.getElem?_set, if_neg e] at hq
        refine h.2.2 q (List.mem_cons_of_mem _ (List.mem_filter.mpr ⟨toA_mem.mpr hq, ?_⟩))
        have h1 : (q.1 == i) = false := beq_eq_false_iff_ne.mpr (Ne.symm e)
        have h3 : (q.1 == i + 1) = false := beq_eq_false_iff_ne.mpr (Ne.symm e1)
        rw [h1, h3]
        have h2 : (q.1 + 1 == i && q.2.category == 2) = false := by
          by_cases e3 : q.1 + 1 = i
          · subst e3
            have hn := hc.2
            unfold noLong at hn
            simp only [hq] at hn
            have e4 : q.2.category = 1 := by simpa using hn
            simp [e4]
          · have : (q.1 + 1 == i) = false := beq_eq_false_iff_ne.mpr e3
            rw [this]; rfl
        rw [h2]
        rfl
  · cases hs
theorem ent_at : ∀ (vs : List Value) (n b : Nat) (q : Nat × Value), entS vs ≤ n → (ent vs n)[q.1]? = some (some q.2) → (b + q.1, q.2) ∈ lv_args b vs := by
  intro vs
  induction vs with
  | nil =>
    intro n b q _ h
    unfold ent at h
    rw [List.getElem?_replicate] at h
    split at h <;> cases h
  | cons v vs ih =>
    intro n b q hn h
    unfold ent at h
    unfold entS at hn
    unfold lv_args
    by_cases hc : v.category = 2
    · rw [if_pos hc] at h
      rw [if_pos hc]
      obtain ⟨i, x⟩ := q
      match i, h with
      | 0, h =>
        cases h
        exact List.mem_cons_self
      | 1, h => cases h
      | i + 2, h =>
        have := ih (n - 2) (b + 2) (i, x) (by omega) h
        refine List.mem_cons_of_mem _ ?_
        have e : b + (i + 2) = b + 2 + i := by omega
        show (b + (i + 2), x) ∈ _
        rw [e]
        exact this
    · rw [if_neg hc] at h
      rw [if_neg hc]
      have hc1 : v.category = 1 := by
        rcases lv_cat v with h1 | h1
        · exact h1
        · exact absurd h1 hc
      obtain ⟨i, x⟩ := q
      match i, h with
      | 0, h =>
        cases h
        exact List.mem_cons_self
      | i + 1, h =>
        have := ih (n - 1) (b + 1) (i, x) (by omega) h
        refine List.mem_cons_of_mem _ ?_
        have e : b + (i + 1) = b + 1 + i := by omega
        show (b + (i + 1), x) ∈ _
        rw [e]
        exact this
theorem ent_len : ∀ (vs : List Value) (n : Nat), entS vs ≤ n → (ent vs n).length = n := by
  intro vs
  induction vs with
  | nil => intro n _; simp [ent]
  | cons v vs ih =>
    intro n hn
    unfold entS at hn
    unfold ent
    by_cases hc : v.category = 2
    · rw [if_pos hc, List.length_cons, List.length_cons, ih (n - 2) (by omega)]
      omega
    · have hc1 : v.category = 1 := by
        rcases lv_cat v with h1 | h1
        · exact h1
        · exact absurd h1 hc
      rw [if_neg hc, List.length_cons, ih (n - 1) (by omega)]
      omega
theorem lg_len : ∀ vs : List Value, (lg_sl vs).length = entS vs := by
  intro vs
  induction vs with
  | nil => rfl
  | cons v vs ih =>
    have e : lg_sl (v :: vs) = lg_sl [v] ++ lg_sl vs := by simp [lg_sl]
    rw [e, List.length_append, ih]
    show _ = v.category + entS vs
    congr 1
    rcases lv_cat v with h | h <;> simp [lg_sl, h]
theorem LR.ent {vs : List Value} {n : Nat} (h : entS vs ≤ n) : LR ((lg_sl vs ++ List.replicate (n - (lg_sl vs).length) Slot.unset).toArray) n (ent vs n) := by
  have h1 := lv_entry vs (n := n) (by rw [lg_len]; exact h)
  refine ⟨ent_len vs n h, h1.1, h1.2.1, fun q hq => h1.2.2 q ?_⟩
  have := ent_at vs n 0 q h (toA_mem.mp hq)
  rw [Nat.zero_add] at this
  exact this

