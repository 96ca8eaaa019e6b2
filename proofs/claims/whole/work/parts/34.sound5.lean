theorem gm_at {id : Nat} {m : Mi} (h : tY[id]? = some m) : GM m := gm_all m (List.mem_of_getElem? h)
theorem yOf_at {id : Nat} {m : Mi} (h : tY[id]? = some m) : yOf id = m.1 := by
  unfold yOf
  rw [h]
  rfl
def okM (q : Nat × Nat × Nat × Nat) : Bool := match q.2.1 with
  | 3 => decide (tables_1[q.2.2.2]? = some (.methodLink (tN (q.1 / 10000)) (q.1 % 10000) arraycopyName))
  | 4 => decide (tables_1[q.2.2.2]? = some (.methodLink (tN (q.1 / 10000)) (q.1 % 10000) objectInit))
  | 6 => decide (tables_1[q.2.2.2]? = some (.methodLink (tN (q.1 / 10000)) (q.1 % 10000) Lib.Math.max.name))
  | 7 => decide (tables_1[q.2.2.2]? = some (.methodLink (tN (q.1 / 10000)) (q.1 % 10000) Lib.Math.min.name))
  | 5 => decide (tables_1[q.2.2.2]? = some (.methodLinkNest (tN (q.1 / 10000)) (q.1 % 10000) (yOf q.2.2.1) RX6))
  | _ => decide (tables_1[q.2.2.2]? = some (.methodLink (tN (q.1 / 10000)) (q.1 % 10000) (yOf q.2.2.1)))
set_option maxRecDepth 20000 in
theorem tM_ok : ∀ q ∈ tM, okM q = true := by decide +kernel
theorem fM_ok {o x : Nat} {q : Nat × Nat × Nat} (h : fM o x = some q) : (match q.1 with
  | 3 => tables_1[q.2.2]? = some (.methodLink (tN o) x arraycopyName)
  | 4 => tables_1[q.2.2]? = some (.methodLink (tN o) x objectInit)
  | 6 => tables_1[q.2.2]? = some (.methodLink (tN o) x Lib.Math.max.name)
  | 7 => tables_1[q.2.2]? = some (.methodLink (tN o) x Lib.Math.min.name)
  | 5 => tables_1[q.2.2]? = some (.methodLinkNest (tN o) x (yOf q.2.1) RX6)
  | _ => tables_1[q.2.2]? = some (.methodLink (tN o) x (yOf q.2.1))) := by
  obtain ⟨h1, h2, h3⟩ := look h
  have h4 := tM_ok _ h1
  unfold okM at h4
  rw [h2, h3] at h4
  split at h4
  all_goals
    dsimp only at *
    have h5 := of_decide_eq_true h4
    first
      | exact h5
      | (split
         all_goals first
           | exact h5
           | (exfalso; simp_all; done)
           | (simp_all; done))
def okN (q : Nat × Nat × Nat × Nat) : Bool := match q.2.1 with
  | 3 => true
  | 4 => true
  | 6 => true
  | 7 => true
  | _ => decide ((tY[q.2.2.1]?).map (fun m => m.2.2.2.2.2.1) ≠ some 14)
set_option maxRecDepth 20000 in
theorem tM_n : ∀ q ∈ tM, okN q = true := by decide +kernel
theorem fM_n {o x kind id p : Nat} {m : Mi} (h : fM o x = some (kind, id, p)) (hk : kind ≠ 3 ∧ kind ≠ 4 ∧ kind ≠ 6 ∧ kind ≠ 7) (hm : tY[id]? = some m) : m.2.2.2.2.2.1 ≠ 14 := by
  have h4 := tM_n _ (look h).1
  unfold okN at h4
  dsimp only at h4
  split at h4
  · exact absurd rfl hk.1
  · exact absurd rfl hk.2.1
  · exact absurd rfl hk.2.2.1
  · exact absurd rfl hk.2.2.2
  · have h5 := of_decide_eq_true h4
    rw [hm] at h5
    exact fun z => h5 (by rw [Option.map_some, z])
theorem cat_sum (l : List Value) : (l.map fun v => v.category).sum ≤ 2 * l.length := by
  induction l with
  | nil => simp
  | cons v l ih =>
    rw [List.map_cons, List.sum_cons, List.length_cons]
    rcases lv_cat v with h | h <;> omega
theorem cat_8 {l : List Value} (h : l.length ≤ 4) : (l.map fun v => v.category).sum ≤ 8 := by
  have := cat_sum l
  omega
theorem nfw : nativeFrameWords "java/lang/System" "arraycopy" 5 ≤ 30 := by decide +kernel
theorem callA_no {E : Ev} {kind id pc : Nat} {s : List Value} {G : Hp} {r} (h : callA E kind id pc s G = some (.inl r)) : False := by
  unfold callA at h
  obtain ⟨m, -, h⟩ := ov_inj h
  unfold callB at h
  obtain ⟨-, h⟩ := gd_inj h
  split at h
  · split at h
    · obtain ⟨-, h⟩ := gd_inj h
      cases h
    · cases h
  · split at h
    · obtain ⟨-, h⟩ := gd_inj h
      cases h
    · cases h
  · obtain ⟨-, h⟩ := gd_inj h
    cases h
section SNK
variable {p : Program} {l : Launch} {e : Env} {R : Room} {s : State} {m : MethodId} {args : Array Value} {below : List Frame} {meth : Method} {c : Code} {Q : State → Prop} {E : Ev} {D : va_G} {Y : Yc} {nL N0 S0 : Nat} {cx : Cx} {pc : Nat} {lo : Lo} {t : List Value} {G : Hp} {r : Nat × Lo × List Value × Hp}
theorem ss_invI {x : Nat} (hR : 1 ≤ R.frames ∧ 60 ≤ R.locals) (hM : MC p s m args meth c E D Y cx nL) (hd : decode cx.2.1 pc = .ok (.invokespecial x, 3)) (h : stpI E cx (.invokespecial x) pc lo t G = some (.inl r)) (k : WP p l e R s m args below meth c Q E D Y nL N0 S0 r.1 r.2.1 r.2.2.1 r.2.2.2) : WP p l e R s m args below meth c Q E D Y nL N0 S0 pc lo t G := by
  obtain ⟨⟨hx, hb, hml, hr, hlk⟩, hown, hini, hts, hK⟩ := hM
  have h : invI E cx.1 x pc lo t G = some (.inl r) := h
  unfold invI at h
  obtain ⟨q, hq, h2⟩ := ov_inj h
  have hf := fM_ok hq
  split at h2
  · exact (callA_no h2).elim
  · next e0 =>
    rw [e0] at hf
    obtain ⟨a, t', rfl, h3⟩ := p1r_inj h2
    obtain ⟨h4, h5⟩ := gd_inj h3
    cases nx_inj h5
    intro H locs ls hl hI hS g1 g2
    have hc := cat_8 h4
    exact W.objInit hx hb hown (hts _ (LW_t _ hf rfl)) (hts _ (LW_t 24 (by decide +kernel) rfl)) (hts _ (LW_t 25 (by decide +kernel) rfl)) rfl (hl.2.1.trans hml.symm) rfl hd hR.1 (by show 2 * 0 + _ + 12 ≤ _; omega) (k H locs ls hl hI hS g1 g2)
  · cases h2
theorem refK (k : Nat) : refKind (kT k) = false := by
  match k with
  | 0 => rfl
  | 1 => rfl
  | k + 2 => rfl
theorem ss_invS {x : Nat} (hR : 1 ≤ R.frames ∧ 60 ≤ R.locals) (hbd : r.2.2.2.1.length - N0 ≤ R.cells ∧ r.2.2.2.2 - S0 ≤ R.slots) (hM : MC p s m args meth c E D Y cx nL) (hd : decode cx.2.1 pc = .ok (.invokestatic x, 3)) (h : stpI E cx (.invokestatic x) pc lo t G = some (.inl r)) (k : WP p l e R s m args below meth c Q E D Y nL N0 S0 r.1 r.2.1 r.2.2.1 r.2.2.2) : WP p l e R s m args below meth c Q E D Y nL N0 S0 pc lo t G := by
  obtain ⟨⟨hx, hb, hml, hr, hlk⟩, hown, hini, hts, hK⟩ := hM
  have h : invS E cx.1 x pc lo t G = some (.inl r) := h
  unfold invS at h
  obtain ⟨q, hq, h2⟩ := ov_inj h
  have hf := fM_ok hq
  split at h2
  · exact (callA_no h2).elim
  · exact (callA_no h2).elim
  · next e0 =>
    rw [e0] at hf
    obtain ⟨a0, sp, a, dp, n, t', rfl, h3⟩ := pcp_inj h2
    rcases gtA_inj h3 with ⟨k0, n0, f, hg0, h4⟩ | ⟨-, h4⟩
    · rcases gtA_inj h4 with ⟨kd, n1, g, hg, h5⟩ | ⟨-, h5⟩
      · obtain ⟨⟨e1, e2, p1, p2, p3, p4, p5, p6⟩, h6⟩ := gd_inj h5
        cases nx_inj h6
        subst e1
        intro H locs ls hl hI hS g1 g2
        have hc8 := cat_8 e2
        have hnf := nfw
        have nn : ∀ z : Int32, ¬ z < 0 → z.toInt = (z.toNatClampNeg : Int) := by
          intro z hz
          have hz0 : (0 : Int) ≤ z.toInt := by
            have := Int32.not_lt.mp hz
            simpa using Int32.le_iff_toInt_le.mp this
          show z.toInt = ((z.toInt.toNat : Nat) : Int)
          omega
        obtain ⟨t0, ht⟩ := ty_k Y k0
        intro T hT X
        have hc0 : H[a0]? = some (vp_cell (yk Y k0) (n0, .inl f)) := hI.at hg0
        have hc1 : H[a]? = some (vp_cell (yk Y k0) (n1, .inl g)) := hI.at hg
        obtain ⟨-, kk0, hk0, cm0, hkk0⟩ := (hK.1.2 t0 _ ht).1 n0 (fun j => .int (f j))
        obtain ⟨-, kk1, hk1, cm1, hkk1⟩ := (hK.1.2 t0 _ ht).1 n1 (fun j => .int (g j))
        obtain ⟨vm', X', step⟩ := X.arraycopy hx hown (hts _ (LW_t _ hf rfl)) (hts _ (LW_t 373 (by decide +kernel) rfl)) (hts _ (LW_t 372 (by decide +kernel) rfl)) (hts _ (LW_t 16 (by decide +kernel) rfl)) (src := a0) (dst := a) (cs := vp_cell (yk Y k0) (n0, .inl f)) (cd := vp_cell (yk Y k0) (n1, .inl g)) (srcPos := sp) (destPos := dp) (n := n) (by rw [hT]; exact hc0) (by rw [hT]; exact hc1)
          (fun _ h => by cases h) (fun _ h => by cases h) (fun h => by cases h) (fun h => by cases h) hk0 hk1 hkk0 hkk1 (by simp [refK]) p1 p2 p3
          (by rw [nn sp p1, nn n p3]; show ¬ _ > ((arrV (yk Y k0) n0 (fun j => .int (f j))).slots.size : Int); rw [arrV_size]; omega)
          (by rw [nn dp p2, nn n p3]; show ¬ _ > ((arrV (yk Y k0) n1 (fun j => .int (g j))).slots.size : Int); rw [arrV_size]; omega)
          (fun vm₁ _ i hi => by
            have e : (vp_cell (yk Y k0) (n0, .inl f)).slots.getD (sp.toNatClampNeg + i) .null = .int (f (sp.toNatClampNeg + i)) := by
              show (arrV (yk Y k0) n0 (fun j => .int (f j))).slots.getD _ _ = _
              rw [Array.getD_eq_getD_getElem?, arrV_read _ _ (by omega)]
              rfl
            refine ⟨?_, ?_⟩
            · rw [e]
              exact p6 i hi
            · rw [e]
              exact trivial)
          (g := F0 m pc ls (.int n :: .int dp :: .ref a :: .int sp :: .ref a0 :: t')) rfl (by rw [hml]; exact hl.2.1) (rest := t') rfl (by rw [hb]; exact hd) hR.1 (by show 2 * 0 + _ + _ ≤ _; omega)
        have e1 : copied (vp_cell (yk Y k0) (n0, .inl f)) (vp_cell (yk Y k0) (n1, .inl g)) sp dp n = vp_cell (yk Y k0) (n1, .inl (va_cpy f g sp.toNatClampNeg dp.toNatClampNeg n.toNatClampNeg)) := va_copied (fun z => .int z) (yk Y k0) (yk Y k0) f g p4
        rw [e1] at X' step
        have hlt : a < H.size := (Array.getElem?_eq_some_iff.mp hc1).1
        have hheap : ((T.setVm vm').setCell a (vp_cell (yk Y k0) (n1, .inl (va_cpy f g sp.toNatClampNeg dp.toNatClampNeg n.toNatClampNeg)))).heap = H.setIfInBounds a (vp_cell (yk Y k0) (n1, .inl (va_cpy f g sp.toNatClampNeg dp.toNatClampNeg n.toNatClampNeg))) := by rw [← hT]; rfl
        have oq : ∀ q : Nat, q ≠ a → (H.setIfInBounds a (vp_cell (yk Y k0) (n1, .inl (va_cpy f g sp.toNatClampNeg dp.toNatClampNeg n.toNatClampNeg))))[q]? = H[q]? := fun q hq => by simp [Array.getElem?_setIfInBounds, Ne.symm hq]
        have hAa : AA E a := (gt_at (Y := Y) hg).2
        have hS2 : va_S (AA E) s.heap (H.setIfInBounds a (vp_cell (yk Y k0) (n1, .inl (va_cpy f g sp.toNatClampNeg dp.toNatClampNeg n.toNatClampNeg)))) (locs ++ ((vp_cell (yk Y k0) (n0, .inl f)).stretch sp.toNatClampNeg n.toNatClampNeg).zipIdx.map fun q => ⟨a, dp.toNatClampNeg + q.2⟩) := ⟨by simp; exact hS.1, fun q g1 g2 => by
            rw [oq q (fun e => g2 (by rw [e]; exact hAa))]
            exact hS.2.1 q g1 g2, fun q hq => by
            rcases List.mem_append.mp hq with h | h
            · exact hS.2.2 q h
            · obtain ⟨z, -, hz⟩ := List.mem_map.mp h
              rw [← hz]
              exact hAa⟩
        have hI2 : IV E D Y (st E G a (cA k0 n1 (va_cpy f g sp.toNatClampNeg dp.toNatClampNeg n.toNatClampNeg))) (H.setIfInBounds a (vp_cell (yk Y k0) (n1, .inl (va_cpy f g sp.toNatClampNeg dp.toNatClampNeg n.toNatClampNeg)))) := hI.put hg (show (H.setIfInBounds a _)[a]? = some _ by simp [Array.getElem?_setIfInBounds, hlt]) (by simp) oq
        have kk := k _ _ ls hl hI2 hS2 (by rw [st_len.1]; exact g1) (by rw [st_len.2]; exact g2)
        dsimp only at kk
        rw [st_len.1, st_len.2] at kk
        obtain ⟨t9, a1, b1⟩ := kk _ hheap X'
        exact ⟨t9, step t9 a1, b1⟩
      · cases h5
    · cases h4
  · next e0 =>
    rw [e0] at hf
    obtain ⟨a, b, t', rfl, h3⟩ := p2i_inj h2
    obtain ⟨h4, h5⟩ := gd_inj h3
    cases nx_inj h5
    intro H locs ls hl hI hS g1 g2
    have hc := cat_8 h4
    exact va_mmax hx hb (hml.trans hl.2.1.symm) hown (hts _ (LW_t _ hf rfl)) (hts _ (LW_t 57 (by decide +kernel) rfl)) (hts _ (LW_t 5 (by decide +kernel) rfl)) (hts _ (LW_t 58 (by decide +kernel) rfl)) hR.1 (by omega) hbd.1 hbd.2 hd (k H locs ls hl hI hS g1 g2)
  · next e0 =>
    rw [e0] at hf
    obtain ⟨a, b, t', rfl, h3⟩ := p2i_inj h2
    obtain ⟨h4, h5⟩ := gd_inj h3
    cases nx_inj h5
    intro H locs ls hl hI hS g1 g2
    have hc := cat_8 h4
    exact va_mmin hx hb (hml.trans hl.2.1.symm) hown (hts _ (LW_t _ hf rfl)) (hts _ (LW_t 280 (by decide +kernel) rfl)) (hts _ (LW_t 5 (by decide +kernel) rfl)) (hts _ (LW_t 281 (by decide +kernel) rfl)) hR.1 (by omega) hbd.1 hbd.2 hd (k H locs ls hl hI hS g1 g2)
  · cases h2
end SNK
