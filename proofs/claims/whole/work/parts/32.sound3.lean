/-! heap instructions -/
theorem lookup_mem {β : Type} : ∀ {l : List (Nat × β)} {k : Nat} {v : β}, l.lookup k = some v → (k, v) ∈ l := by
  intro l
  induction l with
  | nil => intro k v h; cases h
  | cons q l ih =>
    intro k v h
    obtain ⟨a, b⟩ := q
    rw [List.lookup_cons] at h
    by_cases e : k = a
    · subst e
      simp at h
      subst h
      exact List.mem_cons_self
    · have : (k == a) = false := beq_eq_false_iff_ne.mpr e
      rw [this] at h
      exact List.mem_cons_of_mem _ (ih h)
theorem look {β : Type} {l : List (Nat × β)} {o x : Nat} {v : β} (h : (if x < 10000 then l.lookup (o * 10000 + x) else none) = some v) : (o * 10000 + x, v) ∈ l ∧ (o * 10000 + x) / 10000 = o ∧ (o * 10000 + x) % 10000 = x := by
  split at h
  · exact ⟨lookup_mem h, by omega, by omega⟩
  · cases h
def okF (q : Nat × Nat × Nat × Nat) : Prop := tables_1[q.2.2.2]? = some (.fieldLink (tN (q.1 / 10000)) (q.1 % 10000) (tN q.2.1) (fTb q.2.1 q.2.2.1).2.1 (fTb q.2.1 q.2.2.1).2.2.1) ∧ q.2.2.1 < fSz q.2.1 ∧ q.2.1 < 8 ∧ (fTb q.2.1 q.2.2.1).1 = tN q.2.1

theorem okF_0 : okF (30009, 3, 0, 32) := ⟨by decide +kernel, by decide, by decide, by rfl⟩
theorem okF_1 : okF (30015, 3, 1, 33) := ⟨by decide +kernel, by decide, by decide, by rfl⟩
theorem okF_2 : okF (30019, 3, 2, 34) := ⟨by decide +kernel, by decide, by decide, by rfl⟩
theorem okF_3 : okF (20015, 2, 0, 59) := ⟨by decide +kernel, by decide, by decide, by rfl⟩
theorem okF_4 : okF (20021, 2, 1, 60) := ⟨by decide +kernel, by decide, by decide, by rfl⟩
theorem okF_5 : okF (10011, 1, 0, 82) := ⟨by decide +kernel, by decide, by decide, by rfl⟩
theorem okF_6 : okF (10020, 1, 1, 83) := ⟨by decide +kernel, by decide, by decide, by rfl⟩
theorem okF_7 : okF (10024, 1, 2, 84) := ⟨by decide +kernel, by decide, by decide, by rfl⟩
theorem okF_8 : okF (10027, 1, 3, 85) := ⟨by decide +kernel, by decide, by decide, by rfl⟩
theorem okF_9 : okF (40009, 4, 0, 103) := ⟨by decide +kernel, by decide, by decide, by rfl⟩
theorem okF_10 : okF (40017, 4, 1, 104) := ⟨by decide +kernel, by decide, by decide, by rfl⟩
theorem okF_11 : okF (40024, 4, 2, 105) := ⟨by decide +kernel, by decide, by decide, by rfl⟩
theorem okF_12 : okF (40028, 4, 3, 106) := ⟨by decide +kernel, by decide, by decide, by rfl⟩
theorem okF_13 : okF (40032, 4, 4, 107) := ⟨by decide +kernel, by decide, by decide, by rfl⟩
theorem okF_14 : okF (40035, 4, 5, 108) := ⟨by decide +kernel, by decide, by decide, by rfl⟩
theorem okF_15 : okF (40038, 4, 6, 109) := ⟨by decide +kernel, by decide, by decide, by rfl⟩
theorem okF_16 : okF (50009, 5, 0, 133) := ⟨by decide +kernel, by decide, by decide, by rfl⟩
theorem okF_17 : okF (50017, 5, 1, 134) := ⟨by decide +kernel, by decide, by decide, by rfl⟩
theorem okF_18 : okF (50020, 5, 2, 135) := ⟨by decide +kernel, by decide, by decide, by rfl⟩
theorem okF_19 : okF (50023, 5, 3, 136) := ⟨by decide +kernel, by decide, by decide, by rfl⟩
theorem okF_20 : okF (50027, 5, 4, 137) := ⟨by decide +kernel, by decide, by decide, by rfl⟩
theorem okF_21 : okF (50031, 5, 5, 138) := ⟨by decide +kernel, by decide, by decide, by rfl⟩
theorem okF_22 : okF (11, 0, 0, 161) := ⟨by decide +kernel, by decide, by decide, by rfl⟩
theorem okF_23 : okF (18, 0, 1, 162) := ⟨by decide +kernel, by decide, by decide, by rfl⟩
theorem okF_24 : okF (22, 0, 2, 163) := ⟨by decide +kernel, by decide, by decide, by rfl⟩
theorem okF_25 : okF (60010, 6, 0, 173) := ⟨by decide +kernel, by decide, by decide, by rfl⟩
theorem okF_26 : okF (60019, 6, 1, 174) := ⟨by decide +kernel, by decide, by decide, by rfl⟩
theorem okF_27 : okF (60028, 6, 2, 175) := ⟨by decide +kernel, by decide, by decide, by rfl⟩
theorem okF_28 : okF (60035, 6, 3, 176) := ⟨by decide +kernel, by decide, by decide, by rfl⟩
theorem okF_29 : okF (60042, 6, 4, 177) := ⟨by decide +kernel, by decide, by decide, by rfl⟩
theorem okF_30 : okF (60046, 6, 5, 178) := ⟨by decide +kernel, by decide, by decide, by rfl⟩
theorem okF_31 : okF (60050, 6, 6, 179) := ⟨by decide +kernel, by decide, by decide, by rfl⟩
theorem okF_32 : okF (60054, 6, 7, 180) := ⟨by decide +kernel, by decide, by decide, by rfl⟩
theorem okF_33 : okF (60062, 6, 8, 181) := ⟨by decide +kernel, by decide, by decide, by rfl⟩
theorem okF_34 : okF (60066, 6, 9, 182) := ⟨by decide +kernel, by decide, by decide, by rfl⟩
theorem okF_35 : okF (60069, 6, 10, 183) := ⟨by decide +kernel, by decide, by decide, by rfl⟩
theorem okF_36 : okF (70007, 7, 0, 805) := ⟨by decide +kernel, by decide, by decide, by rfl⟩
theorem okF_37 : okF (70081, 7, 1, 806) := ⟨by decide +kernel, by decide, by decide, by rfl⟩
theorem okF_38 : okF (70013, 7, 2, 807) := ⟨by decide +kernel, by decide, by decide, by rfl⟩
theorem okF_39 : okF (70016, 7, 3, 808) := ⟨by decide +kernel, by decide, by decide, by rfl⟩
theorem okF_40 : okF (70019, 7, 4, 809) := ⟨by decide +kernel, by decide, by decide, by rfl⟩
theorem okF_41 : okF (70022, 7, 5, 810) := ⟨by decide +kernel, by decide, by decide, by rfl⟩
theorem okF_42 : okF (70113, 7, 6, 811) := ⟨by decide +kernel, by decide, by decide, by rfl⟩
theorem okF_43 : okF (70132, 7, 7, 812) := ⟨by decide +kernel, by decide, by decide, by rfl⟩
theorem okF_44 : okF (70025, 7, 8, 813) := ⟨by decide +kernel, by decide, by decide, by rfl⟩
theorem okF_45 : okF (70028, 7, 9, 814) := ⟨by decide +kernel, by decide, by decide, by rfl⟩
theorem okF_46 : okF (70032, 7, 10, 815) := ⟨by decide +kernel, by decide, by decide, by rfl⟩
theorem okF_47 : okF (70157, 7, 11, 816) := ⟨by decide +kernel, by decide, by decide, by rfl⟩
theorem okF_48 : okF (70035, 7, 12, 817) := ⟨by decide +kernel, by decide, by decide, by rfl⟩
theorem okF_49 : okF (70142, 7, 13, 818) := ⟨by decide +kernel, by decide, by decide, by rfl⟩
theorem okF_50 : okF (70164, 7, 14, 819) := ⟨by decide +kernel, by decide, by decide, by rfl⟩
theorem okF_51 : okF (70167, 7, 15, 820) := ⟨by decide +kernel, by decide, by decide, by rfl⟩
theorem okF_52 : okF (70170, 7, 16, 821) := ⟨by decide +kernel, by decide, by decide, by rfl⟩
theorem okF_53 : okF (70038, 7, 17, 822) := ⟨by decide +kernel, by decide, by decide, by rfl⟩
theorem okF_54 : okF (70041, 7, 18, 823) := ⟨by decide +kernel, by decide, by decide, by rfl⟩
theorem okF_55 : okF (70044, 7, 19, 824) := ⟨by decide +kernel, by decide, by decide, by rfl⟩
theorem tF_ok : ∀ q ∈ tF, okF q := List.forall_mem_cons.mpr ⟨okF_0, List.forall_mem_cons.mpr ⟨okF_1, List.forall_mem_cons.mpr ⟨okF_2, List.forall_mem_cons.mpr ⟨okF_3, List.forall_mem_cons.mpr ⟨okF_4, List.forall_mem_cons.mpr ⟨okF_5, List.forall_mem_cons.mpr ⟨okF_6, List.forall_mem_cons.mpr ⟨okF_7, List.forall_mem_cons.mpr ⟨okF_8, List.forall_mem_cons.mpr ⟨okF_9, List.forall_mem_cons.mpr ⟨okF_10, List.forall_mem_cons.mpr ⟨okF_11, List.forall_mem_cons.mpr ⟨okF_12, List.forall_mem_cons.mpr ⟨okF_13, List.forall_mem_cons.mpr ⟨okF_14, List.forall_mem_cons.mpr ⟨okF_15, List.forall_mem_cons.mpr ⟨okF_16, List.forall_mem_cons.mpr ⟨okF_17, List.forall_mem_cons.mpr ⟨okF_18, List.forall_mem_cons.mpr ⟨okF_19, List.forall_mem_cons.mpr ⟨okF_20, List.forall_mem_cons.mpr ⟨okF_21, List.forall_mem_cons.mpr ⟨okF_22, List.forall_mem_cons.mpr ⟨okF_23, List.forall_mem_cons.mpr ⟨okF_24, List.forall_mem_cons.mpr ⟨okF_25, List.forall_mem_cons.mpr ⟨okF_26, List.forall_mem_cons.mpr ⟨okF_27, List.forall_mem_cons.mpr ⟨okF_28, List.forall_mem_cons.mpr ⟨okF_29, List.forall_mem_cons.mpr ⟨okF_30, List.forall_mem_cons.mpr ⟨okF_31, List.forall_mem_cons.mpr ⟨okF_32, List.forall_mem_cons.mpr ⟨okF_33, List.forall_mem_cons.mpr ⟨okF_34, List.forall_mem_cons.mpr ⟨okF_35, List.forall_mem_cons.mpr ⟨okF_36, List.forall_mem_cons.mpr ⟨okF_37, List.forall_mem_cons.mpr ⟨okF_38, List.forall_mem_cons.mpr ⟨okF_39, List.forall_mem_cons.mpr ⟨okF_40, List.forall_mem_cons.mpr ⟨okF_41, List.forall_mem_cons.mpr ⟨okF_42, List.forall_mem_cons.mpr ⟨okF_43, List.forall_mem_cons.mpr ⟨okF_44, List.forall_mem_cons.mpr ⟨okF_45, List.forall_mem_cons.mpr ⟨okF_46, List.forall_mem_cons.mpr ⟨okF_47, List.forall_mem_cons.mpr ⟨okF_48, List.forall_mem_cons.mpr ⟨okF_49, List.forall_mem_cons.mpr ⟨okF_50, List.forall_mem_cons.mpr ⟨okF_51, List.forall_mem_cons.mpr ⟨okF_52, List.forall_mem_cons.mpr ⟨okF_53, List.forall_mem_cons.mpr ⟨okF_54, List.forall_mem_cons.mpr ⟨okF_55, fun _ h => absurd h List.not_mem_nil⟩⟩⟩⟩⟩⟩⟩⟩⟩⟩⟩⟩⟩⟩⟩⟩⟩⟩⟩⟩⟩⟩⟩⟩⟩⟩⟩⟩⟩⟩⟩⟩⟩⟩⟩⟩⟩⟩⟩⟩⟩⟩⟩⟩⟩⟩⟩⟩⟩⟩⟩⟩⟩⟩⟩⟩
theorem fF_ok {o x : Nat} {q : Nat × Nat × Nat} (h : fF o x = some q) : tables_1[q.2.2]? = some (.fieldLink (tN o) x (tN q.1) (fTb q.1 q.2.1).2.1 (fTb q.1 q.2.1).2.2.1) ∧ q.2.1 < fSz q.1 ∧ q.1 < 8 ∧ (fTb q.1 q.2.1).1 = tN q.1 := by
  obtain ⟨h1, h2, h3⟩ := look h
  have h4 := tF_ok _ h1
  unfold okF at h4
  rw [h2, h3] at h4
  exact h4
theorem cls_at {ci : Nat} (h : ci < 8) : clsT[ci]? = some (tN ci, fTb ci, fSz ci) := by
  match ci, h with
  | 0, _ => rfl | 1, _ => rfl | 2, _ => rfl | 3, _ => rfl | 4, _ => rfl | 5, _ => rfl | 6, _ => rfl | 7, _ => rfl

theorem ul_0_0 : u_lay RX0 TX0 0 ∈ LW := LW_t 164 (by decide +kernel) (by rfl)
theorem ul_0_1 : u_lay RX0 TX0 1 ∈ LW := LW_t 166 (by decide +kernel) (by rfl)
theorem ul_0_2 : u_lay RX0 TX0 2 ∈ LW := LW_t 168 (by decide +kernel) (by rfl)
theorem ul_0 : ∀ w ∈ u_ws RX0 TX0 3, w ∈ LW := by
  intro w hw
  obtain ⟨k, hk, rfl⟩ := List.mem_map.mp hw
  have hk := List.mem_range.mp hk
  match k, hk with
  | 0, _ => exact ul_0_0
  | 1, _ => exact ul_0_1
  | 2, _ => exact ul_0_2
  | k + 3, hk => exact absurd hk (by omega)
theorem ul_1_0 : u_lay RX1 TX1 0 ∈ LW := LW_t 86 (by decide +kernel) (by rfl)
theorem ul_1_1 : u_lay RX1 TX1 1 ∈ LW := LW_t 88 (by decide +kernel) (by rfl)
theorem ul_1_2 : u_lay RX1 TX1 2 ∈ LW := LW_t 90 (by decide +kernel) (by rfl)
theorem ul_1_3 : u_lay RX1 TX1 3 ∈ LW := LW_t 92 (by decide +kernel) (by rfl)
theorem ul_1 : ∀ w ∈ u_ws RX1 TX1 4, w ∈ LW := by
  intro w hw
  obtain ⟨k, hk, rfl⟩ := List.mem_map.mp hw
  have hk := List.mem_range.mp hk
  match k, hk with
  | 0, _ => exact ul_1_0
  | 1, _ => exact ul_1_1
  | 2, _ => exact ul_1_2
  | 3, _ => exact ul_1_3
  | k + 4, hk => exact absurd hk (by omega)
theorem ul_2_0 : u_lay RX2 TX2 0 ∈ LW := LW_t 61 (by decide +kernel) (by rfl)
theorem ul_2_1 : u_lay RX2 TX2 1 ∈ LW := LW_t 63 (by decide +kernel) (by rfl)
theorem ul_2 : ∀ w ∈ u_ws RX2 TX2 2, w ∈ LW := by
  intro w hw
  obtain ⟨k, hk, rfl⟩ := List.mem_map.mp hw
  have hk := List.mem_range.mp hk
  match k, hk with
  | 0, _ => exact ul_2_0
  | 1, _ => exact ul_2_1
  | k + 2, hk => exact absurd hk (by omega)
theorem ul_3_0 : u_lay RX3 TX3 0 ∈ LW := LW_t 35 (by decide +kernel) (by rfl)
theorem ul_3_1 : u_lay RX3 TX3 1 ∈ LW := LW_t 37 (by decide +kernel) (by rfl)
theorem ul_3_2 : u_lay RX3 TX3 2 ∈ LW := LW_t 39 (by decide +kernel) (by rfl)
theorem ul_3 : ∀ w ∈ u_ws RX3 TX3 3, w ∈ LW := by
  intro w hw
  obtain ⟨k, hk, rfl⟩ := List.mem_map.mp hw
  have hk := List.mem_range.mp hk
  match k, hk with
  | 0, _ => exact ul_3_0
  | 1, _ => exact ul_3_1
  | 2, _ => exact ul_3_2
  | k + 3, hk => exact absurd hk (by omega)
theorem ul_4_0 : u_lay RX4 TX4 0 ∈ LW := LW_t 110 (by decide +kernel) (by rfl)
theorem ul_4_1 : u_lay RX4 TX4 1 ∈ LW := LW_t 112 (by decide +kernel) (by rfl)
theorem ul_4_2 : u_lay RX4 TX4 2 ∈ LW := LW_t 114 (by decide +kernel) (by rfl)
theorem ul_4_3 : u_lay RX4 TX4 3 ∈ LW := LW_t 116 (by decide +kernel) (by rfl)
theorem ul_4_4 : u_lay RX4 TX4 4 ∈ LW := LW_t 118 (by decide +kernel) (by rfl)
theorem ul_4_5 : u_lay RX4 TX4 5 ∈ LW := LW_t 120 (by decide +kernel) (by rfl)
theorem ul_4_6 : u_lay RX4 TX4 6 ∈ LW := LW_t 122 (by decide +kernel) (by rfl)
theorem ul_4 : ∀ w ∈ u_ws RX4 TX4 7, w ∈ LW := by
  intro w hw
  obtain ⟨k, hk, rfl⟩ := List.mem_map.mp hw
  have hk := List.mem_range.mp hk
  match k, hk with
  | 0, _ => exact ul_4_0
  | 1, _ => exact ul_4_1
  | 2, _ => exact ul_4_2
  | 3, _ => exact ul_4_3
  | 4, _ => exact ul_4_4
  | 5, _ => exact ul_4_5
  | 6, _ => exact ul_4_6
  | k + 7, hk => exact absurd hk (by omega)
theorem ul_5_0 : u_lay RX5 TX5 0 ∈ LW := LW_t 139 (by decide +kernel) (by rfl)
theorem ul_5_1 : u_lay RX5 TX5 1 ∈ LW := LW_t 141 (by decide +kernel) (by rfl)
theorem ul_5_2 : u_lay RX5 TX5 2 ∈ LW := LW_t 143 (by decide +kernel) (by rfl)
theorem ul_5_3 : u_lay RX5 TX5 3 ∈ LW := LW_t 145 (by decide +kernel) (by rfl)
theorem ul_5_4 : u_lay RX5 TX5 4 ∈ LW := LW_t 147 (by decide +kernel) (by rfl)
theorem ul_5_5 : u_lay RX5 TX5 5 ∈ LW := LW_t 149 (by decide +kernel) (by rfl)
theorem ul_5 : ∀ w ∈ u_ws RX5 TX5 6, w ∈ LW := by
  intro w hw
  obtain ⟨k, hk, rfl⟩ := List.mem_map.mp hw
  have hk := List.mem_range.mp hk
  match k, hk with
  | 0, _ => exact ul_5_0
  | 1, _ => exact ul_5_1
  | 2, _ => exact ul_5_2
  | 3, _ => exact ul_5_3
  | 4, _ => exact ul_5_4
  | 5, _ => exact ul_5_5
  | k + 6, hk => exact absurd hk (by omega)
theorem ul_6_0 : u_lay RX6 TX6 0 ∈ LW := LW_t 184 (by decide +kernel) (by rfl)
theorem ul_6_1 : u_lay RX6 TX6 1 ∈ LW := LW_t 186 (by decide +kernel) (by rfl)
theorem ul_6_2 : u_lay RX6 TX6 2 ∈ LW := LW_t 188 (by decide +kernel) (by rfl)
theorem ul_6_3 : u_lay RX6 TX6 3 ∈ LW := LW_t 190 (by decide +kernel) (by rfl)
theorem ul_6_4 : u_lay RX6 TX6 4 ∈ LW := LW_t 192 (by decide +kernel) (by rfl)
theorem ul_6_5 : u_lay RX6 TX6 5 ∈ LW := LW_t 194 (by decide +kernel) (by rfl)
theorem ul_6_6 : u_lay RX6 TX6 6 ∈ LW := LW_t 196 (by decide +kernel) (by rfl)
theorem ul_6_7 : u_lay RX6 TX6 7 ∈ LW := LW_t 198 (by decide +kernel) (by rfl)
theorem ul_6_8 : u_lay RX6 TX6 8 ∈ LW := LW_t 200 (by decide +kernel) (by rfl)
theorem ul_6_9 : u_lay RX6 TX6 9 ∈ LW := LW_t 202 (by decide +kernel) (by rfl)
theorem ul_6_10 : u_lay RX6 TX6 10 ∈ LW := LW_t 204 (by decide +kernel) (by rfl)
theorem ul_6 : ∀ w ∈ u_ws RX6 TX6 11, w ∈ LW := by
  intro w hw
  obtain ⟨k, hk, rfl⟩ := List.mem_map.mp hw
  have hk := List.mem_range.mp hk
  match k, hk with
  | 0, _ => exact ul_6_0
  | 1, _ => exact ul_6_1
  | 2, _ => exact ul_6_2
  | 3, _ => exact ul_6_3
  | 4, _ => exact ul_6_4
  | 5, _ => exact ul_6_5
  | 6, _ => exact ul_6_6
  | 7, _ => exact ul_6_7
  | 8, _ => exact ul_6_8
  | 9, _ => exact ul_6_9
  | 10, _ => exact ul_6_10
  | k + 11, hk => exact absurd hk (by omega)
theorem ul_7_0 : u_lay RX7 TX7 0 ∈ LW := LW_t 825 (by decide +kernel) (by rfl)
theorem ul_7_1 : u_lay RX7 TX7 1 ∈ LW := LW_t 827 (by decide +kernel) (by rfl)
theorem ul_7_2 : u_lay RX7 TX7 2 ∈ LW := LW_t 829 (by decide +kernel) (by rfl)
theorem ul_7_3 : u_lay RX7 TX7 3 ∈ LW := LW_t 831 (by decide +kernel) (by rfl)
theorem ul_7_4 : u_lay RX7 TX7 4 ∈ LW := LW_t 833 (by decide +kernel) (by rfl)
theorem ul_7_5 : u_lay RX7 TX7 5 ∈ LW := LW_t 835 (by decide +kernel) (by rfl)
theorem ul_7_6 : u_lay RX7 TX7 6 ∈ LW := LW_t 837 (by decide +kernel) (by rfl)
theorem ul_7_7 : u_lay RX7 TX7 7 ∈ LW := LW_t 839 (by decide +kernel) (by rfl)
theorem ul_7_8 : u_lay RX7 TX7 8 ∈ LW := LW_t 841 (by decide +kernel) (by rfl)
theorem ul_7_9 : u_lay RX7 TX7 9 ∈ LW := LW_t 843 (by decide +kernel) (by rfl)
theorem ul_7_10 : u_lay RX7 TX7 10 ∈ LW := LW_t 845 (by decide +kernel) (by rfl)
theorem ul_7_11 : u_lay RX7 TX7 11 ∈ LW := LW_t 847 (by decide +kernel) (by rfl)
theorem ul_7_12 : u_lay RX7 TX7 12 ∈ LW := LW_t 849 (by decide +kernel) (by rfl)
theorem ul_7_13 : u_lay RX7 TX7 13 ∈ LW := LW_t 851 (by decide +kernel) (by rfl)
theorem ul_7_14 : u_lay RX7 TX7 14 ∈ LW := LW_t 853 (by decide +kernel) (by rfl)
theorem ul_7_15 : u_lay RX7 TX7 15 ∈ LW := LW_t 855 (by decide +kernel) (by rfl)
theorem ul_7_16 : u_lay RX7 TX7 16 ∈ LW := LW_t 857 (by decide +kernel) (by rfl)
theorem ul_7_17 : u_lay RX7 TX7 17 ∈ LW := LW_t 859 (by decide +kernel) (by rfl)
theorem ul_7_18 : u_lay RX7 TX7 18 ∈ LW := LW_t 861 (by decide +kernel) (by rfl)
theorem ul_7_19 : u_lay RX7 TX7 19 ∈ LW := LW_t 863 (by decide +kernel) (by rfl)
theorem ul_7 : ∀ w ∈ u_ws RX7 TX7 20, w ∈ LW := by
  intro w hw
  obtain ⟨k, hk, rfl⟩ := List.mem_map.mp hw
  have hk := List.mem_range.mp hk
  match k, hk with
  | 0, _ => exact ul_7_0
  | 1, _ => exact ul_7_1
  | 2, _ => exact ul_7_2
  | 3, _ => exact ul_7_3
  | 4, _ => exact ul_7_4
  | 5, _ => exact ul_7_5
  | 6, _ => exact ul_7_6
  | 7, _ => exact ul_7_7
  | 8, _ => exact ul_7_8
  | 9, _ => exact ul_7_9
  | 10, _ => exact ul_7_10
  | 11, _ => exact ul_7_11
  | 12, _ => exact ul_7_12
  | 13, _ => exact ul_7_13
  | 14, _ => exact ul_7_14
  | 15, _ => exact ul_7_15
  | 16, _ => exact ul_7_16
  | 17, _ => exact ul_7_17
  | 18, _ => exact ul_7_18
  | 19, _ => exact ul_7_19
  | k + 20, hk => exact absurd hk (by omega)
theorem cls_in {ci : Nat} (h : ci < 8) : ∀ w ∈ u_ws (tN ci) (fTb ci) (fSz ci), w ∈ LW := by
  match ci, h with
  | 0, _ => exact ul_0
  | 1, _ => exact ul_1
  | 2, _ => exact ul_2
  | 3, _ => exact ul_3
  | 4, _ => exact ul_4
  | 5, _ => exact ul_5
  | 6, _ => exact ul_6
  | 7, _ => exact ul_7
theorem cls_ty {ci : Nat} (h : ci < 8) : ∀ k, k < fSz ci → parseFieldDescriptor (fTb ci k).2.2.1 = some (fTy ci k) := by
  match ci, h with
  | 0, _ => exact tyX0_ok
  | 1, _ => exact tyX1_ok
  | 2, _ => exact tyX2_ok
  | 3, _ => exact tyX3_ok
  | 4, _ => exact tyX4_ok
  | 5, _ => exact tyX5_ok
  | 6, _ => exact tyX6_ok
  | 7, _ => exact tyX7_ok
theorem cls_nm {ci : Nat} (h : ci < 8) : ∀ a, a < fSz ci → ∀ b, b < fSz ci → a ≠ b → (fTb ci a).2.1 ≠ (fTb ci b).2.1 := by
  match ci, h with
  | 0, _ => exact nmX0
  | 1, _ => exact nmX1
  | 2, _ => exact nmX2
  | 3, _ => exact nmX3
  | 4, _ => exact nmX4
  | 5, _ => exact nmX5
  | 6, _ => exact nmX6
  | 7, _ => exact nmX7
theorem okV_ok {t : FieldType} {v : Value} (h : okV t v = true) : narrow t v = v ∧ fits t v = true := by
  unfold okV at h
  split at h
  · exact ⟨rfl, rfl⟩
  · exact ⟨rfl, rfl⟩
  · exact ⟨rfl, rfl⟩
  · cases h
theorem IV.at {E : Ev} {D : va_G} {Y : Yc} {G : Hp} {H : Heap} (h : IV E D Y G H) {a : Nat} {c : Cl} (hg : gt E G a = some c) : va_at D clsT (a, tr Y c) H := h.1 _ _ (gt_at hg).1
theorem IV.put {E : Ev} {D : va_G} {Y : Yc} {G : Hp} {H H1 : Heap} (h : IV E D Y G H) {a : Nat} {c0 c : Cl} (hg : gt E G a = some c0) (he : va_at D clsT (a, tr Y c) H1) (hz : H1.size = H.size) (oq : ∀ q : Nat, q ≠ a → H1[q]? = H[q]?) : IV E D Y (st E G a c) H1 := by
  refine ⟨?_, by rw [hz, h.2, st_len.1]⟩
  rw [← st_tr (gt_at (Y := Y) hg).2]
  exact h.1.set (A := AA E) IV.D (gt_at hg).1 he oq
theorem nxA_eq {E : Ev} {D : va_G} {Y : Yc} {G : Hp} {H : Heap} (h : IV E D Y G H) : H.size = nxA E G := h.2
theorem IV.psh {E : Ev} {D : va_G} {Y : Yc} {G : Hp} {H H1 : Heap} (h : IV E D Y G H) {c : Cl} {n : Nat} (he : va_at D clsT (H.size, tr Y c) H1) (hz : H1.size = H.size + 1) (oq : ∀ q : Nat, q < H.size → H1[q]? = H[q]?) : IV E D Y (psh G c n) H1 := by
  refine ⟨?_, ?_⟩
  · show va_P D clsT (trW Y (eB E) (G.1 ++ [c])) H1
    rw [trW_app]
    refine (h.1.kept (fun k q hk => oq _ (h.1 k q hk).lt)).app ?_
    intro k q hk
    have hk0 : k < 1 := (List.getElem?_eq_some_iff.mp hk).1
    rw [show k = 0 by omega] at hk
    cases hk
    rw [← h.2]
    exact he
  · show H1.size = eB E + (G.1 ++ [c]).length
    rw [hz, h.2, List.length_append]
    rfl
theorem va_S.psh {A : Nat → Prop} {H0 H H1 : Heap} {locs : List Loc} (h : va_S A H0 H locs) (hz : H.size ≤ H1.size) (oq : ∀ q : Nat, q < H.size → H1[q]? = H[q]?) : va_S A H0 H1 locs :=
  ⟨Nat.le_trans h.1 hz, fun q g1 g2 => (oq q (Nat.lt_of_lt_of_le g1 h.1)).trans (h.2.1 q g1 g2), h.2.2⟩
theorem p1i_inj {t : List Value} {f : Int32 → List Value → Option Rs} {y : Rs} (h : p1i t f = some y) : ∃ x t', t = .int x :: t' ∧ f x t' = some y := by
  unfold p1i at h
  split at h
  · exact ⟨_, _, rfl, h⟩
  · cases h
theorem p2i_inj {t : List Value} {f : Int32 → Int32 → List Value → Option Rs} {y : Rs} (h : p2i t f = some y) : ∃ x z t', t = .int z :: .int x :: t' ∧ f x z t' = some y := by
  unfold p2i at h
  split at h
  · exact ⟨_, _, _, rfl, h⟩
  · cases h
theorem p1r_inj {t : List Value} {f : Nat → List Value → Option Rs} {y : Rs} (h : p1r t f = some y) : ∃ a t', t = .ref a :: t' ∧ f a t' = some y := by
  unfold p1r at h
  split at h
  · exact ⟨_, _, rfl, h⟩
  · cases h
theorem pir_inj {t : List Value} {f : Nat → Int32 → List Value → Option Rs} {y : Rs} (h : pir t f = some y) : ∃ a i t', t = .int i :: .ref a :: t' ∧ f a i t' = some y := by
  unfold pir at h
  split at h
  · exact ⟨_, _, _, rfl, h⟩
  · cases h
theorem piir_inj {t : List Value} {f : Nat → Int32 → Int32 → List Value → Option Rs} {y : Rs} (h : piir t f = some y) : ∃ a i x t', t = .int x :: .int i :: .ref a :: t' ∧ f a i x t' = some y := by
  unfold piir at h
  split at h
  · exact ⟨_, _, _, _, rfl, h⟩
  · cases h
theorem prir_inj {t : List Value} {f : Nat → Int32 → Nat → List Value → Option Rs} {y : Rs} (h : prir t f = some y) : ∃ a i v t', t = .ref v :: .int i :: .ref a :: t' ∧ f a i v t' = some y := by
  unfold prir at h
  split at h
  · exact ⟨_, _, _, _, rfl, h⟩
  · cases h
theorem pvr_inj {t : List Value} {f : Nat → Value → List Value → Option Rs} {y : Rs} (h : pvr t f = some y) : ∃ a v t', t = v :: .ref a :: t' ∧ f a v t' = some y := by
  unfold pvr at h
  split at h
  · exact ⟨_, _, _, rfl, h⟩
  · cases h
theorem pcp_inj {t : List Value} {f : Nat → Int32 → Nat → Int32 → Int32 → List Value → Option Rs} {y : Rs} (h : pcp t f = some y) : ∃ a0 sp a dp n t', t = .int n :: .int dp :: .ref a :: .int sp :: .ref a0 :: t' ∧ f a0 sp a dp n t' = some y := by
  unfold pcp at h
  split at h
  · exact ⟨_, _, _, _, _, _, rfl, h⟩
  · cases h
theorem gtA_inj {E : Ev} {G : Hp} {a : Nat} {f : Nat → Nat → (Nat → Int32) → Option Rs} {g : Option Rs} {y : Rs} (h : gtA E G a f g = some y) : (∃ k n v, gt E G a = some (cA k n v) ∧ f k n v = some y) ∨ (gt E G a = none ∧ g = some y) := by
  unfold gtA at h
  split at h
  · next hg => exact Or.inl ⟨_, _, _, hg, h⟩
  · next hg => exact Or.inr ⟨hg, h⟩
  · cases h
theorem gtR_inj {E : Ev} {G : Hp} {a : Nat} {f : Nat → Nat → (Nat → Option Nat) → Option Rs} {y : Rs} (h : gtR E G a f = some y) : ∃ k n v, gt E G a = some (cR k n v) ∧ f k n v = some y := by
  unfold gtR at h
  split at h
  · next hg => exact ⟨_, _, _, hg, h⟩
  · cases h
theorem gtO_inj {E : Ev} {G : Hp} {a : Nat} {f : Nat → List Value → Option Rs} {g : Option Rs} {y : Rs} (h : gtO E G a f g = some y) : (∃ c fs, gt E G a = some (cO c fs) ∧ f c fs = some y) ∨ (gt E G a = none ∧ g = some y) := by
  unfold gtO at h
  split at h
  · next hg => exact Or.inl ⟨_, _, hg, h⟩
  · next hg => exact Or.inr ⟨hg, h⟩
  · cases h
theorem iv1 : iv 1 = 1 := by decide
theorem iv0 : iv 0 = 0 := by decide
theorem tI_ok : ∀ q ∈ tI, tables_1[q.2.2]? = some (.constant (tN (q.1 / 10000)) (q.1 % 10000) q.2.1) := by decide +kernel
theorem tJ_ok : ∀ q ∈ tJ, tables_1[q.2.2]? = some (.constantLong (tN (q.1 / 10000)) (q.1 % 10000) q.2.1) := by decide +kernel
theorem tC_ok : ∀ q ∈ tC, tables_1[q.2.2]? = some (.classLink (tN (q.1 / 10000)) (q.1 % 10000) (tN q.2.1)) := by decide +kernel
theorem fI_ok {o x : Nat} {q : Int32 × Nat} (h : fI o x = some q) : Cond.constant (tN o) x q.1 ∈ LW := by
  obtain ⟨h1, h2, h3⟩ := look h
  have h4 := tI_ok _ h1
  dsimp only at h4
  rw [h2, h3] at h4
  exact LW_t _ h4 rfl
theorem fJ_ok {o x : Nat} {q : Int64 × Nat} (h : fJ o x = some q) : Cond.constantLong (tN o) x q.1 ∈ LW := by
  obtain ⟨h1, h2, h3⟩ := look h
  have h4 := tJ_ok _ h1
  dsimp only at h4
  rw [h2, h3] at h4
  exact LW_t _ h4 rfl
theorem fC_ok {o x : Nat} {q : Nat × Nat} (h : fC o x = some q) : Cond.classLink (tN o) x (tN q.1) ∈ LW := by
  obtain ⟨h1, h2, h3⟩ := look h
  have h4 := tC_ok _ h1
  dsimp only at h4
  rw [h2, h3] at h4
  exact LW_t _ h4 rfl
theorem cls_inst {ci : Nat} (h : ci < 8) : Cond.instantiable (tN ci) (fSz ci) ∈ LW := by
  match ci, h with
  | 0, _ => exact LW_t 153 (by decide +kernel) (by rfl)
  | 1, _ => exact LW_t 44 (by decide +kernel) (by rfl)
  | 2, _ => exact LW_t 51 (by decide +kernel) (by rfl)
  | 3, _ => exact LW_t 27 (by decide +kernel) (by rfl)
  | 4, _ => exact LW_t 96 (by decide +kernel) (by rfl)
  | 5, _ => exact LW_t 126 (by decide +kernel) (by rfl)
  | 6, _ => exact LW_t 19 (by decide +kernel) (by rfl)
  | 7, _ => exact LW_t 797 (by decide +kernel) (by rfl)
theorem cls_init {ci : Nat} (h : ci < 8) : Cond.initialized (tN ci) ∈ LW := by
  match ci, h with
  | 0, _ => exact LW_t 9 (by decide +kernel) (by rfl)
  | 1, _ => exact LW_t 3 (by decide +kernel) (by rfl)
  | 2, _ => exact LW_t 4 (by decide +kernel) (by rfl)
  | 3, _ => exact LW_t 2 (by decide +kernel) (by rfl)
  | 4, _ => exact LW_t 7 (by decide +kernel) (by rfl)
  | 5, _ => exact LW_t 8 (by decide +kernel) (by rfl)
  | 6, _ => exact LW_t 1 (by decide +kernel) (by rfl)
  | 7, _ => exact LW_t 10 (by decide +kernel) (by rfl)
section SNH
variable {p : Program} {l : Launch} {e : Env} {R : Room} {s : State} {m : MethodId} {args : Array Value} {below : List Frame} {meth : Method} {c : Code} {Q : State → Prop} {E : Ev} {D : va_G} {Y : Yc} {nL N0 S0 : Nat} {cx : Cx} {pc : Nat} {lo : Lo} {t : List Value} {G : Hp} {r : Nat × Lo × List Value × Hp}
theorem ss_ldc {x : Nat} (hM : MC p s m args meth c E D Y cx nL) (hd : decode cx.2.1 pc = .ok (.ldc x, 2)) (h : stpI E cx (.ldc x) pc lo t G = some (.inl r))  (k : WP p l e R s m args below meth c Q E D Y nL N0 S0 r.1 r.2.1 r.2.2.1 r.2.2.2) : WP p l e R s m args below meth c Q E D Y nL N0 S0 pc lo t G := by
  obtain ⟨⟨hx, hb, hml, hr, hlk⟩, hown, hini, hts, hK⟩ := hM
  have h : (match kS E cx.1 x with | some a => nx (pc + 2) lo (.ref a :: t) G | none => ov (fI cx.1 x) fun q => nx (pc + 2) lo (.int q.1 :: t) G) = some (.inl r) := h
  split at h
  · next a ha =>
    cases nx_inj h
    intro H locs ls hl hI hS g1 g2
    unfold kS at ha
    split at ha
    · next hc =>
      cases ha
      obtain ⟨o, cc⟩ := cx
      obtain ⟨e1, rfl⟩ := hc
      have e1 : o = 3 := e1
      subst e1
      exact va_ldcS hx hb hown hK.2.2.2.2.2.2.2.1.1 hd (k H locs ls hl hI hS g1 g2)
    · split at ha
      · next hc =>
        cases ha
        obtain ⟨o, cc⟩ := cx
        obtain ⟨e1, rfl⟩ := hc
        have e1 : o = 6 := e1
        subst e1
        exact va_ldcS hx hb hown hK.2.2.2.2.2.2.2.1.2 hd (k H locs ls hl hI hS g1 g2)
      · cases ha
  · obtain ⟨q, h1, h2⟩ := ov_inj h
    cases nx_inj h2
    intro H locs ls hl hI hS g1 g2
    exact lv_ldc hx hb hown (hts _ (fI_ok h1)) hd (k H locs ls hl hI hS g1 g2)
theorem ss_ldcw {x : Nat} (hM : MC p s m args meth c E D Y cx nL) (hd : decode cx.2.1 pc = .ok (.ldc_w x, 3)) (h : stpI E cx (.ldc_w x) pc lo t G = some (.inl r))  (k : WP p l e R s m args below meth c Q E D Y nL N0 S0 r.1 r.2.1 r.2.2.1 r.2.2.2) : WP p l e R s m args below meth c Q E D Y nL N0 S0 pc lo t G := by
  obtain ⟨⟨hx, hb, hml, hr, hlk⟩, hown, hini, hts, hK⟩ := hM
  obtain ⟨q, h1, h2⟩ := ov_inj h
  cases nx_inj h2
  intro H locs ls hl hI hS g1 g2
  exact lv_ldcw hx hb hown (hts _ (fI_ok h1)) hd (k H locs ls hl hI hS g1 g2)
theorem ss_ldc2 {x : Nat} (hM : MC p s m args meth c E D Y cx nL) (hd : decode cx.2.1 pc = .ok (.ldc2_w x, 3)) (h : stpI E cx (.ldc2_w x) pc lo t G = some (.inl r))  (k : WP p l e R s m args below meth c Q E D Y nL N0 S0 r.1 r.2.1 r.2.2.1 r.2.2.2) : WP p l e R s m args below meth c Q E D Y nL N0 S0 pc lo t G := by
  obtain ⟨⟨hx, hb, hml, hr, hlk⟩, hown, hini, hts, hK⟩ := hM
  obtain ⟨q, h1, h2⟩ := ov_inj h
  cases nx_inj h2
  intro H locs ls hl hI hS g1 g2
  exact lv_ldc2 hx hb hown (hts _ (fJ_ok h1)) hd (k H locs ls hl hI hS g1 g2)
theorem ss_getfield {x : Nat} (hM : MC p s m args meth c E D Y cx nL) (hd : decode cx.2.1 pc = .ok (.getfield x, 3)) (h : stpI E cx (.getfield x) pc lo t G = some (.inl r))  (k : WP p l e R s m args below meth c Q E D Y nL N0 S0 r.1 r.2.1 r.2.2.1 r.2.2.2) : WP p l e R s m args below meth c Q E D Y nL N0 S0 pc lo t G := by
  obtain ⟨⟨hx, hb, hml, hr, hlk⟩, hown, hini, hts, hK⟩ := hM
  obtain ⟨a, t', rfl, h2⟩ := p1r_inj h
  split at h2
  · next q hq =>
    rcases gtO_inj h2 with ⟨c0, fs, hg, h3⟩ | ⟨-, h3⟩
    · obtain ⟨e1, h4⟩ := gd_inj h3
      obtain ⟨v, h1, h5⟩ := ov_inj h4
      cases nx_inj h5
      obtain ⟨f1, f2, f3, f4⟩ := fF_ok hq
      rw [e1] at hg
      intro H locs ls hl hI hS g1 g2
      exact va_get (C := tN q.1) (T := fTb q.1) (N := fSz q.1) (own := tN cx.1) (ref := tN q.1) hx hb hts (cls_in f3) hown hK.1 hI.1 _ (gt_at hg).1 (cls_at f3) q.2.1 f2 (hts _ (LW_t _ f1 rfl)) (by rw [f4]; exact fun y z => z) h1 hd (k H locs ls hl hI hS g1 g2)
    · cases h3
  · rcases gtO_inj h2 with ⟨c0, fs, hg, h3⟩ | ⟨hg, h3⟩
    · cases h3
    · obtain ⟨v, h1, h4⟩ := ov_inj h3
      cases nx_inj h4
      intro H locs ls hl hI hS g1 g2
      unfold hT at h1
      split at h1
      · next hc =>
        cases h1
        obtain ⟨o, cc⟩ := cx
        obtain ⟨e1, rfl, rfl⟩ := hc
        have e1 : o = 9 := e1
        subst e1
        exact vk_getf (own := RJ0) (ref := RJ0) hx hb hK.2.2.2.2.2.2.1.2.2.1 hS hown (hts _ (LW_t 1145 (by decide +kernel) (by rfl))) (fun y z => z) hd (k H locs ls hl hI hS g1 g2)
      · split at h1
        · next hc =>
          cases h1
          obtain ⟨o, cc⟩ := cx
          obtain ⟨e1, rfl, rfl⟩ := hc
          have e1 : o = 9 := e1
          subst e1
          refine vk_getf (own := RJ0) (ref := RJ0) (v := .int 0) hx hb hK.2.2.2.2.2.2.1.2.1 hS hown (hts _ (LW_t 1144 (by decide +kernel) (by rfl))) (fun y z => z) hd ?_
          have kk := k H locs ls hl hI hS g1 g2
          rw [iv0] at kk
          exact kk
        · cases h1
theorem ss_putfield {x : Nat} (hM : MC p s m args meth c E D Y cx nL) (hd : decode cx.2.1 pc = .ok (.putfield x, 3)) (h : stpI E cx (.putfield x) pc lo t G = some (.inl r))  (k : WP p l e R s m args below meth c Q E D Y nL N0 S0 r.1 r.2.1 r.2.2.1 r.2.2.2) : WP p l e R s m args below meth c Q E D Y nL N0 S0 pc lo t G := by
  obtain ⟨⟨hx, hb, hml, hr, hlk⟩, hown, hini, hts, hK⟩ := hM
  obtain ⟨a, v, t', rfl, h2⟩ := pvr_inj h
  obtain ⟨q, hq, h3⟩ := ov_inj h2
  · rcases gtO_inj h3 with ⟨c0, fs, hg, h4⟩ | ⟨-, h4⟩
    · obtain ⟨⟨e1, e2, e3, e4⟩, h5⟩ := gd_inj h4
      rw [e1] at h5 hg
      cases nx_inj h5
      obtain ⟨f1, f2, f3, f4⟩ := fF_ok hq
      obtain ⟨n1, n2⟩ := okV_ok e3
      intro H locs ls hl hI hS g1 g2
      have hc := cls_at f3
      have hlink := hts _ (LW_t _ f1 rfl)
      have hap := va_apart (own := tN cx.1) hts (cls_in f3) (fTy q.1) (cls_ty f3) (cls_nm f3) hK.1 hc
      obtain ⟨r0, h1, cell, q1, q2, q3, q4⟩ := hI.at hg
      have hr0 : r0 = (tN q.1, fTb q.1, fSz q.1) := Option.some.inj (h1.symm.trans hc)
      subst hr0
      obtain ⟨hSl, hfc, kC, hkC, hkind⟩ := hK.1.1 q.1 _ hc
      obtain ⟨cf, kf, fi, f, hi, hsl⟩ := hSl q.2.1 f2
      have hst := (u_facts hfc hkC (u_lays hts (cls_in f3) f2) hi).1
      have hi2 : s.fieldFound? (tN q.1) (fTb q.1 q.2.1).2.1 (fTb q.1 q.2.1).2.2.1 = some (cf, kf, fi, f) := by rw [← f4]; exact hi
      have fin : ∀ (H1 : Heap) (sl : Nat), H1[a]? = some (cell.setSlot f.slot v) → H1.size = H.size → (∀ z, z ≠ a → H1[z]? = H[z]?) → W p l e R s m args below meth c H1 (locs ++ [⟨a, f.slot⟩]) (G.1.length - N0) (G.2 - S0) Q (F0 m (pc + 3) ls t') := by
        intro H1 _ e1 z1 o1
        have e1' := e1
        rw [hsl] at e1
        have kk := k H1 (locs ++ [⟨a, f.slot⟩]) ls hl (hI.put hg ⟨_, hc, t_OB.to (V := updV (vp_V fs) q.2.1 v) ⟨_, e1, q2, q3, t_set q4 hap f2 v⟩ (fun j _ => vp_updV_set e2 v j)⟩ z1 o1) (hS.put z1 o1 (gt_at (Y := Y) hg).2) (by rw [st_len.1]; exact g1) (by rw [st_len.2]; exact g2)
        dsimp only at kk
        rw [st_len.1, st_len.2] at kk
        exact kk
      by_cases hf : (fTb q.1 q.2.1).2.2.2 = true
      · obtain ⟨i1, i2⟩ := e4 hf
        have hlay := hts _ (cls_in f3 _ (u_in_lay f2))
        unfold u_lay at hlay
        rw [if_pos hf] at hlay
        have hcf : m.cls = cf := by
          obtain ⟨_, _, c', _, _, _, -, -, hf', -, -, -, hown2, -⟩ := Cond.laysFinal_spec hlay
          have e1 : c' = cf := by have := hi.symm.trans hf'; simp at this; exact this.1.symm
          rw [f4, ← i2] at hown2
          rw [← e1]
          exact Option.some.inj (hown.symm.trans hown2)
        have h6 := u_fits hfc hkC hkind (Or.inr hlay) hi (cls_ty f3 _ f2) n1 n2
        exact W.putFinK hx hb hown hlink hi2 hst hcf (hini i1) (by rw [q2]; exact h6) q1 q3 (by rw [hsl]; exact k2_hasslot (q4 _ f2)) rfl rfl hd fun H' e1 e2 e3 => fin H' 0 e1 e2 e3
      · have hlay := hts _ (cls_in f3 _ (u_in_lay f2))
        unfold u_lay at hlay
        rw [if_neg hf] at hlay
        have h6 := u_store hfc hkC hkind hlay hi (cls_ty f3 _ f2) n1 n2
        exact W.putK hx hb (f := f) ⟨hown, hlink, ⟨_, _, _, hi2⟩, hst⟩ (by rw [q2]; exact h6) q1 q3 (by rw [hsl]; exact k2_hasslot (q4 _ f2)) rfl rfl hd fun H' e1 e2 e3 => fin H' 0 e1 e2 e3
    · cases h4
theorem ss_getstatic {x : Nat} (hM : MC p s m args meth c E D Y cx nL) (hd : decode cx.2.1 pc = .ok (.getstatic x, 3)) (h : stpI E cx (.getstatic x) pc lo t G = some (.inl r))  (k : WP p l e R s m args below meth c Q E D Y nL N0 S0 r.1 r.2.1 r.2.2.1 r.2.2.2) : WP p l e R s m args below meth c Q E D Y nL N0 S0 pc lo t G := by
  obtain ⟨⟨hx, hb, hml, hr, hlk⟩, hown, hini, hts, hK⟩ := hM
  obtain ⟨v, h1, h2⟩ := ov_inj h
  cases nx_inj h2
  intro H locs ls hl hI hS g1 g2
  unfold gS at h1
  split at h1
  · next hc =>
    cases h1
    obtain ⟨o, cc⟩ := cx
    obtain ⟨e1, rfl⟩ := hc
    have e1 : o = 6 := e1
    subst e1
    exact va_gets (own := RX6) (ref := RX6) hx hb hK.2.2.2.1.1 hS hown (hts _ (LW_t 356 (by decide +kernel) (by rfl))) (fun y z => z) hd (k H locs ls hl hI hS g1 g2)
  · split at h1
    · next hc =>
      cases h1
      obtain ⟨o, cc⟩ := cx
      obtain ⟨e1, rfl⟩ := hc
      have e1 : o = 9 := e1
      subst e1
      refine va_gets (own := RJ0) (ref := RJ0) (v := .int 1) hx hb hK.2.2.2.2.1 hS hown (hts _ (LW_t 262 (by decide +kernel) (by rfl))) (fun y z => z) hd ?_
      have kk := k H locs ls hl hI hS g1 g2
      rw [iv1] at kk
      exact kk
    · split at h1
      · next hc =>
        cases h1
        obtain ⟨o, cc⟩ := cx
        obtain ⟨e1, rfl⟩ := hc
        have e1 : o = 9 := e1
        subst e1
        exact va_gets (own := RJ0) (ref := RJ3) hx hb hK.2.2.2.2.2.1 hS hown (hts _ (LW_t 303 (by decide +kernel) (by rfl))) (fun y z => z) hd (k H locs ls hl hI hS g1 g2)
      · cases h1
theorem ss_iaload  (hM : MC p s m args meth c E D Y cx nL) (hd : decode cx.2.1 pc = .ok (.iaload, 1)) (h : stpI E cx (.iaload) pc lo t G = some (.inl r))  (k : WP p l e R s m args below meth c Q E D Y nL N0 S0 r.1 r.2.1 r.2.2.1 r.2.2.2) : WP p l e R s m args below meth c Q E D Y nL N0 S0 pc lo t G := by
  obtain ⟨⟨hx, hb, hml, hr, hlk⟩, hown, hini, hts, hK⟩ := hM
  obtain ⟨a, i, t', rfl, h2⟩ := pir_inj h
  · rcases gtA_inj h2 with ⟨kd, n, f, hg, h3⟩ | ⟨hg, h3⟩
    · obtain ⟨⟨e1, e2⟩, h4⟩ := gd_inj h3
      subst e1
      cases nx_inj h4
      intro H locs ls hl hI hS g1 g2
      exact va_iald hx hb hK.1 hI.1 _ 0 (gt_at hg).1 rfl e2 hd (k H locs ls hl hI hS g1 g2)
    · obtain ⟨q, h1, h4⟩ := ov_inj h3
      obtain ⟨e2, h5⟩ := gd_inj h4
      cases nx_inj h5
      intro H locs ls hl hI hS g1 g2
      unfold oI at h1
      split at h1
      · split at h1
        · next ea =>
          cases h1
          subst ea
          exact va_sld hx hb hK.2.2.2.2.2.2.2.2.1 (Nat.lt_of_lt_of_le hK.2.2.2.2.2.2.2.2.2.1 hK.2.2.2.2.2.2.2.2.2.2) (Nat.not_le.mpr hK.2.2.2.2.2.2.2.2.2.1) hS e2 hd (k H locs ls hl hI hS g1 g2)
        · cases h1
      · split at h1
        · next ea =>
          cases h1
          subst ea
          exact va_ti (f := fun j => .int (arit j)) hx hb hK.2.2.2.1.2 hS e2 rfl hd (k H locs ls hl hI hS g1 g2)
        · cases h1
theorem ss_baload  (hM : MC p s m args meth c E D Y cx nL) (hd : decode cx.2.1 pc = .ok (.baload, 1)) (h : stpI E cx (.baload) pc lo t G = some (.inl r))  (k : WP p l e R s m args below meth c Q E D Y nL N0 S0 r.1 r.2.1 r.2.2.1 r.2.2.2) : WP p l e R s m args below meth c Q E D Y nL N0 S0 pc lo t G := by
  obtain ⟨⟨hx, hb, hml, hr, hlk⟩, hown, hini, hts, hK⟩ := hM
  obtain ⟨a, i, t', rfl, h2⟩ := pir_inj h
  · rcases gtA_inj h2 with ⟨kd, n, f, hg, h3⟩ | ⟨hg, h3⟩
    · obtain ⟨⟨e1, e2⟩, h4⟩ := gd_inj h3
      cases nx_inj h4
      intro H locs ls hl hI hS g1 g2
      rcases e1 with rfl | rfl
      · exact va_bald hx hb hK.1 hI.1 _ 1 (gt_at hg).1 rfl e2 hd (k H locs ls hl hI hS g1 g2)
      · exact va_zald hx hb hK.1 hI.1 _ 2 (gt_at hg).1 rfl e2 hd (k H locs ls hl hI hS g1 g2)
    · obtain ⟨q, h1, h4⟩ := ov_inj h3
      obtain ⟨e2, h5⟩ := gd_inj h4
      cases nx_inj h5
      intro H locs ls hl hI hS g1 g2
      unfold oB at h1
      split at h1
      · next ea =>
        cases h1
        subst ea
        exact va_tb (f := fun j => .int (byts j)) hx hb hK.2.2.2.2.2.2.1.2.2.2 hS e2 rfl hd (k H locs ls hl hI hS g1 g2)
      · cases h1
theorem ss_aaload  (hM : MC p s m args meth c E D Y cx nL) (hd : decode cx.2.1 pc = .ok (.aaload, 1)) (h : stpI E cx (.aaload) pc lo t G = some (.inl r))  (k : WP p l e R s m args below meth c Q E D Y nL N0 S0 r.1 r.2.1 r.2.2.1 r.2.2.2) : WP p l e R s m args below meth c Q E D Y nL N0 S0 pc lo t G := by
  obtain ⟨⟨hx, hb, hml, hr, hlk⟩, hown, hini, hts, hK⟩ := hM
  obtain ⟨a, i, t', rfl, h2⟩ := pir_inj h
  · obtain ⟨kd, n, f, hg, h3⟩ := gtR_inj h2
    · obtain ⟨⟨e1, e2⟩, h4⟩ := gd_inj h3
      obtain ⟨v, h1, h5⟩ := ov_inj h4
      cases nx_inj h5
      intro H locs ls hl hI hS g1 g2
      obtain ⟨t0, ht⟩ := ty_r Y kd
      have hlt : i.toNatClampNeg < n := Nat.not_le.mp fun q => e2 (Or.inr q)
      have hcell : H[a]? = some (vp_cell (yr Y kd) (n, .inr (.inr (.inr (.inr f))))) := hI.at hg
      refine W.aald (v := va_rf (f i.toNatClampNeg)) (ty := rT kd) hx hb hcell ((hK.1.2 t0 _ ht).1 n (fun j => va_rf (f j))) ?_ (fun q => by cases q) (by show ¬ (i < 0 ∨ (arrV _ _ _).slots.size ≤ _); rw [arrV_size]; exact e2) (by show (arrV _ _ _).slots[_]? = _; rw [arrV_read _ _ hlt]) rfl rfl hd ?_
      · match kd with
        | 0 => rfl
        | 1 => rfl
        | kd + 2 => rfl
      · rw [h1]
        exact k H locs ls hl hI hS g1 g2
theorem ss_iastore  (hM : MC p s m args meth c E D Y cx nL) (hd : decode cx.2.1 pc = .ok (.iastore, 1)) (h : stpI E cx (.iastore) pc lo t G = some (.inl r))  (k : WP p l e R s m args below meth c Q E D Y nL N0 S0 r.1 r.2.1 r.2.2.1 r.2.2.2) : WP p l e R s m args below meth c Q E D Y nL N0 S0 pc lo t G := by
  obtain ⟨⟨hx, hb, hml, hr, hlk⟩, hown, hini, hts, hK⟩ := hM
  obtain ⟨a, i, x, t', rfl, h2⟩ := piir_inj h
  · rcases gtA_inj h2 with ⟨kd, n, f, hg, h3⟩ | ⟨-, h3⟩
    · obtain ⟨⟨e1, e2⟩, h4⟩ := gd_inj h3
      cases nx_inj h4
      intro H locs ls hl hI hS g1 g2
      subst e1
      refine W.iast hx hb (show H[a]? = some (vp_cell (yk Y 0) (n, .inl f)) from hI.at hg) ((hK.1.2 0 _ rfl).1 n (fun j => .int (f j))) (fun q => by cases q) (by show ¬ (i < 0 ∨ (arrV _ _ _).slots.size ≤ _); rw [arrV_size]; exact e2) rfl rfl hd fun H1 e z oq => ?_
      have he : H1[a]? = some (vp_cell (yk Y 0) (n, .inl (upd f i.toNatClampNeg x))) := by
        rw [e]
        rw [vp_cell_i, vp_cell_i, arrV_store]
        congr 2
        funext q
        by_cases hq : q = i.toNatClampNeg
        · subst hq
          simp [updV, upd]
          try rfl
        · simp [updV, upd, hq]
      have kk := k H1 (locs ++ [⟨a, i.toNatClampNeg⟩]) ls hl (hI.put hg he z oq) (hS.put z oq (gt_at (Y := Y) hg).2) (by rw [st_len.1]; exact g1) (by rw [st_len.2]; exact g2)
      dsimp only at kk
      rw [st_len.1, st_len.2] at kk
      exact kk
    · cases h3
theorem ss_bastore  (hM : MC p s m args meth c E D Y cx nL) (hd : decode cx.2.1 pc = .ok (.bastore, 1)) (h : stpI E cx (.bastore) pc lo t G = some (.inl r))  (k : WP p l e R s m args below meth c Q E D Y nL N0 S0 r.1 r.2.1 r.2.2.1 r.2.2.2) : WP p l e R s m args below meth c Q E D Y nL N0 S0 pc lo t G := by
  obtain ⟨⟨hx, hb, hml, hr, hlk⟩, hown, hini, hts, hK⟩ := hM
  obtain ⟨a, i, x, t', rfl, h2⟩ := piir_inj h
  · rcases gtA_inj h2 with ⟨kd, n, f, hg, h3⟩ | ⟨-, h3⟩
    · obtain ⟨⟨e1, e2⟩, h4⟩ := gd_inj h3
      cases nx_inj h4
      intro H locs ls hl hI hS g1 g2
      rcases e1 with rfl | rfl
      · refine W.bast hx hb (show H[a]? = some (vp_cell (yk Y 1) (n, .inl f)) from hI.at hg) ((hK.1.2 1 _ rfl).1 n (fun j => .int (f j))) (fun q => by cases q) (by show ¬ (i < 0 ∨ (arrV _ _ _).slots.size ≤ _); rw [arrV_size]; exact e2) rfl rfl hd fun H1 e z oq => ?_
        have he : H1[a]? = some (vp_cell (yk Y 1) (n, .inl (upd f i.toNatClampNeg (vp_nar .byte x)))) := by
          rw [e]
          rw [vp_cell_i, vp_cell_i, arrV_store]
          congr 2
          funext q
          by_cases hq : q = i.toNatClampNeg
          · subst hq
            simp [updV, upd, vp_nar]
            try rfl
          · simp [updV, upd, hq]
        have kk := k H1 (locs ++ [⟨a, i.toNatClampNeg⟩]) ls hl (hI.put hg he z oq) (hS.put z oq (gt_at (Y := Y) hg).2) (by rw [st_len.1]; exact g1) (by rw [st_len.2]; exact g2)
        dsimp only at kk
        rw [st_len.1, st_len.2] at kk
        exact kk
      · refine W.zast hx hb (show H[a]? = some (vp_cell (yk Y 2) (n, .inl f)) from hI.at hg) ((hK.1.2 2 _ rfl).1 n (fun j => .int (f j))) (fun q => by cases q) (by show ¬ (i < 0 ∨ (arrV _ _ _).slots.size ≤ _); rw [arrV_size]; exact e2) rfl rfl hd fun H1 e z oq => ?_
        have he : H1[a]? = some (vp_cell (yk Y 2) (n, .inl (upd f i.toNatClampNeg (vp_nar .boolean x)))) := by
          rw [e]
          rw [vp_cell_i, vp_cell_i, arrV_store]
          congr 2
          funext q
          by_cases hq : q = i.toNatClampNeg
          · subst hq
            simp [updV, upd, vp_nar]
            try rfl
          · simp [updV, upd, hq]
        have kk := k H1 (locs ++ [⟨a, i.toNatClampNeg⟩]) ls hl (hI.put hg he z oq) (hS.put z oq (gt_at (Y := Y) hg).2) (by rw [st_len.1]; exact g1) (by rw [st_len.2]; exact g2)
        dsimp only at kk
        rw [st_len.1, st_len.2] at kk
        exact kk
    · cases h3
theorem ss_aastore  (hM : MC p s m args meth c E D Y cx nL) (hd : decode cx.2.1 pc = .ok (.aastore, 1)) (h : stpI E cx (.aastore) pc lo t G = some (.inl r))  (k : WP p l e R s m args below meth c Q E D Y nL N0 S0 r.1 r.2.1 r.2.2.1 r.2.2.2) : WP p l e R s m args below meth c Q E D Y nL N0 S0 pc lo t G := by
  obtain ⟨⟨hx, hb, hml, hr, hlk⟩, hown, hini, hts, hK⟩ := hM
  obtain ⟨a, i, v, t', rfl, h2⟩ := prir_inj h
  · obtain ⟨kd, n, f, hg, h3⟩ := gtR_inj h2
    · obtain ⟨⟨e1, e2⟩, h4⟩ := gd_inj h3
      rcases gtO_inj h4 with ⟨c0, vs, hv, h5⟩ | ⟨-, h5⟩
      · obtain ⟨e3, h6⟩ := gd_inj h5
        subst e3
        cases nx_inj h6
        intro H locs ls hl hI hS g1 g2
        have hlt : i.toNatClampNeg < n := Nat.not_le.mp fun q => e2 (Or.inr q)
        have h0 : ¬ i < 0 := fun q => e2 (Or.inl q)
        have hc8 : kd + 1 < 8 := by omega
        have hc := cls_at hc8
        obtain ⟨r', hr', cellV, w1, w2, w3, -⟩ := hI.at hv
        have hcls := (hK.1.1 (kd + 1) _ hc).2
        obtain ⟨t0, ht⟩ := ty_r Y kd
        have hRT : rT kd = .object (tN (kd + 1)) := by
          match kd, e1 with
          | 0, _ => rfl
          | 1, _ => rfl
        have hRA := (hK.1.2 t0 _ ht).2
        dsimp only at hRA
        rw [hRT] at hRA
        obtain ⟨kA, comp, k1, k2, k3, -⟩ := hRA
        have hcomp : comp = D.1 (kd + 1) := Option.some.inj (k3.symm.trans hcls.1)
        subst hcomp
        obtain ⟨kC, hkC, hkC2⟩ := hcls.2
        refine W.aast hx hb (show H[a]? = some (vp_cell (yr Y kd) (n, .inr (.inr (.inr (.inr f))))) from hI.at hg) (fun q h => by cases h) (fun h => by cases h) k1 k2 rfl hkC ⟨h0, by show _ < (arrV _ _ _).slots.size; rw [arrV_size]; exact hlt⟩ w1 (fun q h => by rw [w3] at h; cases h) (by rw [w2]; exact hkC) (by rw [w2]; exact va_assign hcls) rfl rfl hd fun H1 e z oq => ?_
        have he : H1[a]? = some (vp_cell (yr Y kd) (n, .inr (.inr (.inr (.inr (va_up f i.toNatClampNeg (some v))))))) := by
          rw [e]
          rw [vp_cell_q, vp_cell_q, arrV_store]
          congr 2
          funext q
          by_cases hq : q = i.toNatClampNeg
          · subst hq
            simp [updV, va_up, va_rf]
          · simp [updV, va_up, hq]
        have kk := k H1 (locs ++ [⟨a, i.toNatClampNeg⟩]) ls hl (hI.put hg he z oq) (hS.put z oq (gt_at (Y := Y) hg).2) (by rw [st_len.1]; exact g1) (by rw [st_len.2]; exact g2)
        dsimp only at kk
        rw [st_len.1, st_len.2] at kk
        exact kk
      · cases h5
theorem ss_alen  (hM : MC p s m args meth c E D Y cx nL) (hd : decode cx.2.1 pc = .ok (.arraylength, 1)) (h : stpI E cx (.arraylength) pc lo t G = some (.inl r))  (k : WP p l e R s m args below meth c Q E D Y nL N0 S0 r.1 r.2.1 r.2.2.1 r.2.2.2) : WP p l e R s m args below meth c Q E D Y nL N0 S0 pc lo t G := by
  obtain ⟨⟨hx, hb, hml, hr, hlk⟩, hown, hini, hts, hK⟩ := hM
  obtain ⟨a, t', rfl, h2⟩ := p1r_inj h
  · split at h2
    · next kd n f hg =>
      cases nx_inj h2
      intro H locs ls hl hI hS g1 g2
      obtain ⟨t0, ht⟩ := ty_k Y kd
      exact va_alen (x := (n, .inl f)) hx hb hK.1 hI.1 _ t0 (gt_at hg).1 ht rfl hd (k H locs ls hl hI hS g1 g2)
    · next kd n f hg =>
      obtain ⟨e1, h3⟩ := gd_inj h2
      cases nx_inj h3
      intro H locs ls hl hI hS g1 g2
      obtain ⟨t0, ht⟩ := ty_r Y kd
      exact va_alen (x := (n, .inr (.inr (.inr (.inr f))))) hx hb hK.1 hI.1 _ t0 (gt_at hg).1 ht rfl hd (k H locs ls hl hI hS g1 g2)
    · cases h2
    · obtain ⟨n, h1, h3⟩ := ov_inj h2
      cases nx_inj h3
      intro H locs ls hl hI hS g1 g2
      unfold oL at h1
      split at h1
      · split at h1
        · next ea =>
          cases h1
          subst ea
          exact va_slen hx hb hK.2.2.2.2.2.2.2.2.1 (Nat.lt_of_lt_of_le hK.2.2.2.2.2.2.2.2.2.1 hK.2.2.2.2.2.2.2.2.2.2) (Nat.not_le.mpr hK.2.2.2.2.2.2.2.2.2.1) hS hd (k H locs ls hl hI hS g1 g2)
        · cases h1
      · split at h1
        · next ea =>
          cases h1
          subst ea
          exact va_tlen hx hb hK.2.2.2.1.2 hS rfl hd (k H locs ls hl hI hS g1 g2)
        · split at h1
          · next ea =>
            cases h1
            subst ea
            exact va_tlen hx hb hK.2.2.2.2.2.2.1.2.2.2 hS rfl hd (k H locs ls hl hI hS g1 g2)
          · cases h1
abbrev ca (k n : Nat) (f : Nat → Int32) : Cl := .inl (k, n, f)
theorem ss_newarray {ty : ArrayType} (hM : MC p s m args meth c E D Y cx nL) (hd : decode cx.2.1 pc = .ok (.newarray ty, 2)) (h : stpI E cx (.newarray ty) pc lo t G = some (.inl r)) (hbd : r.2.2.2.1.length - N0 ≤ R.cells ∧ r.2.2.2.2 - S0 ≤ R.slots) (k : WP p l e R s m args below meth c Q E D Y nL N0 S0 r.1 r.2.1 r.2.2.1 r.2.2.2) : WP p l e R s m args below meth c Q E D Y nL N0 S0 pc lo t G := by
  obtain ⟨⟨hx, hb, hml, hr, hlk⟩, hown, hini, hts, hK⟩ := hM
  obtain ⟨n, t', rfl, h2⟩ := p1i_inj h
  · obtain ⟨⟨e1, e2⟩, h3⟩ := gd_inj h2
    split at h3
    · skip
      cases nx_inj h3
      intro H locs ls hl hI hS g1 g2
      have b1 : G.1.length + 1 - N0 ≤ R.cells := by
        have := hbd.1
        simp only [psh, List.length_append, List.length_cons, List.length_nil] at this
        exact this
      have b2 : G.2 + n.toNatClampNeg - S0 ≤ R.slots := hbd.2
      refine va_newaK (atype := .int) hx hb (hts _ (LW_t 42 (by decide +kernel) (by rfl))) rfl hd rfl e1 rfl (by show _ * 4 ≤ _; omega) (by omega) (by omega) rfl fun H1 cA he hz ho hAr hNm => ?_
      have hcA : cA = yk Y 0 := Option.some.inj (hNm.symm.trans (hK.1.2 0 _ rfl).2)
      subst hcA
      have kk := k H1 locs ls hl (hI.psh (c := ca 0 n.toNatClampNeg (fun _ => 0)) (n := n.toNatClampNeg) he hz ho) (hS.psh (by omega) ho) (by simp only [psh, List.length_append]; omega) (by simp only [psh]; omega)
      rw [nxA_eq hI]
      dsimp only at kk
      have c1 : (psh G (ca 0 n.toNatClampNeg (fun _ => 0)) n.toNatClampNeg).1.length - N0 = G.1.length - N0 + 1 := by simp only [psh, List.length_append, List.length_cons, List.length_nil]; omega
      have c2 : (psh G (ca 0 n.toNatClampNeg (fun _ => 0)) n.toNatClampNeg).2 - S0 = G.2 - S0 + n.toNatClampNeg := by simp only [psh]; omega
      rw [c1, c2] at kk
      exact kk
    · skip
      cases nx_inj h3
      intro H locs ls hl hI hS g1 g2
      have b1 : G.1.length + 1 - N0 ≤ R.cells := by
        have := hbd.1
        simp only [psh, List.length_append, List.length_cons, List.length_nil] at this
        exact this
      have b2 : G.2 + n.toNatClampNeg - S0 ≤ R.slots := hbd.2
      refine va_newaK (atype := .byte) hx hb (hts _ (LW_t 66 (by decide +kernel) (by rfl))) rfl hd rfl e1 rfl (by show _ * 1 ≤ _; omega) (by omega) (by omega) rfl fun H1 cA he hz ho hAr hNm => ?_
      have hcA : cA = yk Y 1 := Option.some.inj (hNm.symm.trans (hK.1.2 1 _ rfl).2)
      subst hcA
      have kk := k H1 locs ls hl (hI.psh (c := ca 1 n.toNatClampNeg (fun _ => 0)) (n := n.toNatClampNeg) he hz ho) (hS.psh (by omega) ho) (by simp only [psh, List.length_append]; omega) (by simp only [psh]; omega)
      rw [nxA_eq hI]
      dsimp only at kk
      have c1 : (psh G (ca 1 n.toNatClampNeg (fun _ => 0)) n.toNatClampNeg).1.length - N0 = G.1.length - N0 + 1 := by simp only [psh, List.length_append, List.length_cons, List.length_nil]; omega
      have c2 : (psh G (ca 1 n.toNatClampNeg (fun _ => 0)) n.toNatClampNeg).2 - S0 = G.2 - S0 + n.toNatClampNeg := by simp only [psh]; omega
      rw [c1, c2] at kk
      exact kk
    · skip
      cases nx_inj h3
      intro H locs ls hl hI hS g1 g2
      have b1 : G.1.length + 1 - N0 ≤ R.cells := by
        have := hbd.1
        simp only [psh, List.length_append, List.length_cons, List.length_nil] at this
        exact this
      have b2 : G.2 + n.toNatClampNeg - S0 ≤ R.slots := hbd.2
      refine va_newaK (atype := .boolean) hx hb (hts _ (LW_t 207 (by decide +kernel) (by rfl))) rfl hd rfl e1 rfl (by show _ * 1 ≤ _; omega) (by omega) (by omega) rfl fun H1 cA he hz ho hAr hNm => ?_
      have hcA : cA = yk Y 2 := Option.some.inj (hNm.symm.trans (hK.1.2 2 _ rfl).2)
      subst hcA
      have kk := k H1 locs ls hl (hI.psh (c := ca 2 n.toNatClampNeg (fun _ => 0)) (n := n.toNatClampNeg) he hz ho) (hS.psh (by omega) ho) (by simp only [psh, List.length_append]; omega) (by simp only [psh]; omega)
      rw [nxA_eq hI]
      dsimp only at kk
      have c1 : (psh G (ca 2 n.toNatClampNeg (fun _ => 0)) n.toNatClampNeg).1.length - N0 = G.1.length - N0 + 1 := by simp only [psh, List.length_append, List.length_cons, List.length_nil]; omega
      have c2 : (psh G (ca 2 n.toNatClampNeg (fun _ => 0)) n.toNatClampNeg).2 - S0 = G.2 - S0 + n.toNatClampNeg := by simp only [psh]; omega
      rw [c1, c2] at kk
      exact kk
    · cases h3
theorem ss_anewarray {x : Nat} (hM : MC p s m args meth c E D Y cx nL) (hd : decode cx.2.1 pc = .ok (.anewarray x, 3)) (h : stpI E cx (.anewarray x) pc lo t G = some (.inl r)) (hbd : r.2.2.2.1.length - N0 ≤ R.cells ∧ r.2.2.2.2 - S0 ≤ R.slots) (k : WP p l e R s m args below meth c Q E D Y nL N0 S0 r.1 r.2.1 r.2.2.1 r.2.2.2) : WP p l e R s m args below meth c Q E D Y nL N0 S0 pc lo t G := by
  obtain ⟨⟨hx, hb, hml, hr, hlk⟩, hown, hini, hts, hK⟩ := hM
  obtain ⟨n, t', rfl, h2⟩ := p1i_inj h
  · obtain ⟨q, hq, h3⟩ := ov_inj h2
    obtain ⟨⟨e0, e1, e2⟩, h4⟩ := gd_inj h3
    cases nx_inj h4
    intro H locs ls hl hI hS g1 g2
    have b1 : G.1.length + 1 - N0 ≤ R.cells := by
      have := hbd.1
      simp only [psh, List.length_append, List.length_cons, List.length_nil] at this
      exact this
    have b2 : G.2 + n.toNatClampNeg - S0 ≤ R.slots := hbd.2
    have hAO : va_AO (tN q.1) s := by
      rcases e0 with e0 | e0
      · rw [e0]; exact hK.2.2.1.1
      · rw [e0]; exact hK.2.2.1.2.1
    obtain ⟨t0, ht⟩ := ty_r Y (q.1 - 1)
    have hRT : rT (q.1 - 1) = .object (tN q.1) := by
      rcases e0 with e0 | e0
      · rw [e0]; rfl
      · rw [e0]; rfl
    refine W.anew hx hb hown (hts _ (fC_ok hq)) (va_AO.use hAO) rfl hd rfl e1 (by omega) (by omega) (by omega) fun cA kA comp f1 f2 f3 f4 => ?_
    generalize hH1 : H.push ({ cls := cA, slots := Array.replicate n.toNatClampNeg .null, vm := .none } : Cell) = H1
    have z1 : H1.size = H.size + 1 := by rw [← hH1, Array.size_push]
    have he : H1[H.size]? = some (arrV cA n.toNatClampNeg (fun _ => .null)) := by rw [← hH1, Array.getElem?_push_size, ← arrV_new]
    have ho : ∀ q : Nat, q < H.size → H1[q]? = H[q]? := fun q hq => by rw [← hH1, Array.getElem?_push, if_neg (Nat.ne_of_lt hq)]
    have hcA : cA = yr Y (q.1 - 1) := by
      have hRA := (hK.1.2 t0 _ ht).2
      dsimp only at hRA
      rw [hRT] at hRA
      obtain ⟨kA', comp', -, -, -, k4⟩ := hRA
      exact Option.some.inj (f1.symm.trans k4)
    subst hcA
    have hv : va_at D clsT (H.size, tr Y (cR (q.1 - 1) n.toNatClampNeg (fun _ => none))) H1 := by
      show H1[H.size]? = some (vp_cell (yr Y (q.1 - 1)) (n.toNatClampNeg, .inr (.inr (.inr (.inr (fun _ => none))))))
      rw [vp_cell_q]
      exact he
    have kk := k H1 locs ls hl (hI.psh (n := n.toNatClampNeg) hv z1 ho) (hS.psh (by omega) ho) (by simp only [psh, List.length_append]; omega) (by simp only [psh]; omega)
    rw [nxA_eq hI]
    dsimp only at kk
    have c1 : (psh G (cR (q.1 - 1) n.toNatClampNeg (fun _ => none)) n.toNatClampNeg).1.length - N0 = G.1.length - N0 + 1 := by simp only [psh, List.length_append, List.length_cons, List.length_nil]; omega
    have c2 : (psh G (cR (q.1 - 1) n.toNatClampNeg (fun _ => none)) n.toNatClampNeg).2 - S0 = G.2 - S0 + n.toNatClampNeg := by simp only [psh]; omega
    rw [c1, c2] at kk
    exact kk
theorem ss_new {x : Nat} (hM : MC p s m args meth c E D Y cx nL) (hd : decode cx.2.1 pc = .ok (.new x, 3)) (h : stpI E cx (.new x) pc lo t G = some (.inl r)) (hbd : r.2.2.2.1.length - N0 ≤ R.cells ∧ r.2.2.2.2 - S0 ≤ R.slots) (k : WP p l e R s m args below meth c Q E D Y nL N0 S0 r.1 r.2.1 r.2.2.1 r.2.2.2) : WP p l e R s m args below meth c Q E D Y nL N0 S0 pc lo t G := by
  obtain ⟨⟨hx, hb, hml, hr, hlk⟩, hown, hini, hts, hK⟩ := hM
  obtain ⟨q, hq, h2⟩ := ov_inj h
  obtain ⟨e0, h3⟩ := gd_inj h2
  cases nx_inj h3
  intro H locs ls hl hI hS g1 g2
  have b1 : G.1.length + 1 - N0 ≤ R.cells := by
    have := hbd.1
    simp only [psh, List.length_append, List.length_cons, List.length_nil] at this
    exact this
  have b2 : G.2 + fSz q.1 - S0 ≤ R.slots := hbd.2
  have hKn := hK.1.1 q.1 _ (cls_at e0)
  refine W.newcK hx hb hown (hts _ (fC_ok hq)) (hts _ (cls_inst e0)) (hts _ (cls_init e0)) rfl hd (by omega) (by omega) hKn.2.1 rfl fun H1 kC hkC he hz ho => ?_
  have hv : va_at D clsT (H.size, tr Y (cO q.1 (fDf q.1))) H1 := ⟨_, cls_at e0, (u_born (fTy q.1) hts (cls_in e0) hKn hkC he (cls_ty e0)).to (fun j hj => by
    show defaultValue (fTy q.1 j) = vp_V (fDf q.1) j
    unfold vp_V fDf
    simp [hj])⟩
  have kk := k H1 locs ls hl (hI.psh (n := fSz q.1) hv hz ho) (hS.psh (by omega) ho) (by simp only [psh, List.length_append]; omega) (by simp only [psh]; omega)
  rw [nxA_eq hI]
  dsimp only at kk
  have c1 : (psh G (cO q.1 (fDf q.1)) (fSz q.1)).1.length - N0 = G.1.length - N0 + 1 := by simp only [psh, List.length_append, List.length_cons, List.length_nil]; omega
  have c2 : (psh G (cO q.1 (fDf q.1)) (fSz q.1)).2 - S0 = G.2 - S0 + fSz q.1 := by simp only [psh]; omega
  rw [c1, c2] at kk
  exact kk
end SNH
