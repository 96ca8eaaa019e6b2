/-! rows of X, an instruction a row; what a heap access asks, as a piece of a formula -/
def qFI (E : Ev) (G : Hp) (a ci k : Nat) (F : Int32 → Prop) : Prop := match gt E G a with
  | some (.inr (.inr (c, fs))) => c = ci ∧ (match fs[k]? with
    | some (.int x) => F x
    | _ => False)
  | _ => False
def qFR (E : Ev) (G : Hp) (a ci k : Nat) (F : Nat → Prop) : Prop := match gt E G a with
  | some (.inr (.inr (c, fs))) => c = ci ∧ (match fs[k]? with
    | some (.ref x) => F x
    | _ => False)
  | _ => False
def qP (E : Ev) (G : Hp) (a ci k : Nat) (v : Value) (F : Hp → Prop) : Prop := match gt E G a with
  | some (.inr (.inr (c, fs))) => c = ci ∧ k < fs.length ∧ F (st E G a (cO c (fs.set k v)))
  | _ => False
def qIA (o : Nat) (E : Ev) (G : Hp) (a : Nat) (i : Int32) (F : Int32 → Prop) : Prop := match gt E G a with
  | some (.inl (k, n, f)) => k = 0 ∧ ¬ bad i n ∧ F (f i.toNatClampNeg)
  | none => (match oI o E a with
    | some q => ¬ bad i q.1 ∧ F (q.2 i.toNatClampNeg)
    | none => False)
  | _ => False
def qBA (E : Ev) (G : Hp) (a : Nat) (i : Int32) (F : Int32 → Prop) : Prop := match gt E G a with
  | some (.inl (k, n, f)) => (k = 1 ∨ k = 2) ∧ ¬ bad i n ∧ F (f i.toNatClampNeg)
  | none => (match oB E a with
    | some q => ¬ bad i q.1 ∧ F (q.2 i.toNatClampNeg)
    | none => False)
  | _ => False
def qRA (E : Ev) (G : Hp) (a : Nat) (i : Int32) (F : Nat → Prop) : Prop := match gt E G a with
  | some (.inr (.inl (k, n, f))) => k ≤ 2 ∧ ¬ bad i n ∧ (match f i.toNatClampNeg with
    | some v => F v
    | none => False)
  | _ => False
def qIS (E : Ev) (G : Hp) (a : Nat) (i x : Int32) (F : Hp → Prop) : Prop := match gt E G a with
  | some (.inl (k, n, f)) => k = 0 ∧ ¬ bad i n ∧ F (st E G a (cA 0 n (upd f i.toNatClampNeg x)))
  | _ => False
def qBS (E : Ev) (G : Hp) (a : Nat) (i x : Int32) (F : Hp → Prop) : Prop := match gt E G a with
  | some (.inl (k, n, f)) => (k = 1 ∨ k = 2) ∧ ¬ bad i n ∧ F (st E G a (cA k n (upd f i.toNatClampNeg (vp_nar (kT k) x))))
  | _ => False
def qRS (E : Ev) (G : Hp) (a : Nat) (i : Int32) (v : Nat) (F : Hp → Prop) : Prop := match gt E G a with
  | some (.inr (.inl (k, n, f))) => k ≤ 1 ∧ ¬ bad i n ∧ (match gt E G v with
    | some (.inr (.inr (c, _))) => c = k + 1 ∧ F (st E G a (cR k n (va_up f i.toNatClampNeg (some v))))
    | _ => False)
  | _ => False
def qL (o : Nat) (E : Ev) (G : Hp) (a : Nat) (F : Int32 → Prop) : Prop := match gt E G a with
  | some (.inl (_, n, _)) => F (Int32.ofNat n)
  | some (.inr (.inl (k, n, _))) => k ≤ 2 ∧ F (Int32.ofNat n)
  | some (.inr (.inr _)) => False
  | none => (match oL o E a with
    | some n => F (Int32.ofNat n)
    | none => False)
def qCp (E : Ev) (G : Hp) (a0 : Nat) (sp : Int32) (a : Nat) (dp n : Int32) (F : Hp → Prop) : Prop := match gt E G a0 with
  | some (.inl (k0, n0, f)) => (match gt E G a with
    | some (.inl (k, n1, g)) => (k0 = k ∧ ¬ sp < 0 ∧ ¬ dp < 0 ∧ ¬ n < 0 ∧ sp.toNatClampNeg + n.toNatClampNeg ≤ n0 ∧ dp.toNatClampNeg + n.toNatClampNeg ≤ n1 ∧ ∀ i, i < n.toNatClampNeg → fits (kT k) (.int (f (sp.toNatClampNeg + i))) = true) ∧ F (st E G a (cA k n1 (va_cpy f g sp.toNatClampNeg dp.toNatClampNeg n.toNatClampNeg)))
    | _ => False)
  | _ => False
def qCI (E : Ev) (d id : Nat) (a : List Value) (G : Hp) (F : Int32 → Hp → Prop) : Prop := runs E d id a G fun v G' => match v with
  | some (.int x) => F x G'
  | _ => False
def qCJ (E : Ev) (d id : Nat) (a : List Value) (G : Hp) (F : Int64 → Hp → Prop) : Prop := runs E d id a G fun v G' => match v with
  | some (.long x) => F x G'
  | _ => False
def qCR (E : Ev) (d id : Nat) (a : List Value) (G : Hp) (F : Nat → Hp → Prop) : Prop := runs E d id a G fun v G' => match v with
  | some (.ref x) => F x G'
  | _ => False
def qCV (E : Ev) (d id : Nat) (a : List Value) (G : Hp) (F : Hp → Prop) : Prop := runs E d id a G fun v G' => match v with
  | none => F G'
  | _ => False
section XR
variable {E : Ev} {d : Nat} {cx : Cx} {pc : Nat} {lo : Lo} {s : List Value} {G : Hp} {Q : Po}
theorem stp_of {i : Instr} {n : Nat} (hd : decode cx.2.1 pc = .ok (i, n)) (hl : lenOk i n = true) : stp E cx pc lo s G = stpI E cx i pc lo s G := by
  unfold stp
  rw [hd]
  exact if_pos hl
theorem r_nx {i : Instr} {n : Nat} {pc' lo' s' G'} (hd : decode cx.2.1 pc = .ok (i, n)) (hl : lenOk i n = true) (hs : stpI E cx i pc lo s G = nx pc' lo' s' G') (h : Xr E d cx pc' lo' s' G' Q) : Xr E d cx pc lo s G Q := by
  rw [Xr_nx ((stp_of hd hl).trans hs)]
  exact h
theorem r_iconst {n : Int} (hd : decode cx.2.1 pc = .ok (.iconst n, 1)) (h : Xr E d cx (pc + 1) lo (.int (iv n) :: s) G Q) : Xr E d cx pc lo s G Q := r_nx hd rfl rfl h
theorem r_bipush {n : Int} (hd : decode cx.2.1 pc = .ok (.bipush n, 2)) (hn : (Int8.ofInt n).toInt32 = iv n) (h : Xr E d cx (pc + 2) lo (.int (iv n) :: s) G Q) : Xr E d cx pc lo s G Q := r_nx hd rfl (if_pos hn) h
theorem r_sipush {n : Int} (hd : decode cx.2.1 pc = .ok (.sipush n, 3)) (hn : (Int16.ofInt n).toInt32 = iv n) (h : Xr E d cx (pc + 3) lo (.int (iv n) :: s) G Q) : Xr E d cx pc lo s G Q := r_nx hd rfl (if_pos hn) h
theorem r_lconst {n : Fin 2} {v : Int64} (hd : decode cx.2.1 pc = .ok (.lconst n, 1)) (hv : Int64.ofNat (n : Nat) = v) (h : Xr E d cx (pc + 1) lo (.long v :: s) G Q) : Xr E d cx pc lo s G Q := by subst hv; exact r_nx hd rfl rfl h
theorem r_ldcS {x : Nat} (hd : decode cx.2.1 pc = .ok (.ldc x, 2)) (hk : kS E cx.1 x = some (eS E)) (h : Xr E d cx (pc + 2) lo (.ref (eS E) :: s) G Q) : Xr E d cx pc lo s G Q := by
  refine r_nx hd rfl ?_ h
  show (match kS E cx.1 x with | some a => nx (pc + 2) lo (.ref a :: s) G | none => _) = _
  rw [hk]
theorem r_ldcw {x p : Nat} {v : Int32} {z : Int} (hd : decode cx.2.1 pc = .ok (.ldc_w x, 3)) (hk : fI cx.1 x = some (v, p)) (hv : v = iv z) (h : Xr E d cx (pc + 3) lo (.int (iv z) :: s) G Q) : Xr E d cx pc lo s G Q := by
  subst hv
  refine r_nx hd rfl ?_ h
  show ov (fI cx.1 x) _ = _
  rw [hk]
  rfl
theorem r_ldc2 {x p : Nat} {v : Int64} (hd : decode cx.2.1 pc = .ok (.ldc2_w x, 3)) (hk : fJ cx.1 x = some (v, p)) (h : Xr E d cx (pc + 3) lo (.long v :: s) G Q) : Xr E d cx pc lo s G Q := by
  refine r_nx hd rfl ?_ h
  show ov (fJ cx.1 x) _ = _
  rw [hk]
  rfl
theorem ld_eq {p : Value → Bool} {pc i : Nat} {v : Value} (hk : lget lo i = some v) (hp : p v = true) : ld p pc i lo s G = nx pc lo (v :: s) G := by
  unfold ld ldv
  rw [hk]
  exact if_pos hp
theorem r_iload_n {k : Fin 4} {x : Int32} (hd : decode cx.2.1 pc = .ok (.iload_n k, 1)) (hk : lget lo k = some (.int x)) (h : Xr E d cx (pc + 1) lo (.int x :: s) G Q) : Xr E d cx pc lo s G Q := r_nx hd rfl (ld_eq hk rfl) h
theorem r_iload {k : Nat} {x : Int32} (hd : decode cx.2.1 pc = .ok (.iload k, 2)) (hk : lget lo k = some (.int x)) (h : Xr E d cx (pc + 2) lo (.int x :: s) G Q) : Xr E d cx pc lo s G Q := r_nx hd rfl (ld_eq hk rfl) h
theorem r_lload_n {k : Fin 4} {x : Int64} (hd : decode cx.2.1 pc = .ok (.lload_n k, 1)) (hk : lget lo k = some (.long x)) (h : Xr E d cx (pc + 1) lo (.long x :: s) G Q) : Xr E d cx pc lo s G Q := r_nx hd rfl (ld_eq hk rfl) h
theorem r_lload {k : Nat} {x : Int64} (hd : decode cx.2.1 pc = .ok (.lload k, 2)) (hk : lget lo k = some (.long x)) (h : Xr E d cx (pc + 2) lo (.long x :: s) G Q) : Xr E d cx pc lo s G Q := r_nx hd rfl (ld_eq hk rfl) h
theorem r_aload_n {k : Fin 4} {x : Nat} (hd : decode cx.2.1 pc = .ok (.aload_n k, 1)) (hk : lget lo k = some (.ref x)) (h : Xr E d cx (pc + 1) lo (.ref x :: s) G Q) : Xr E d cx pc lo s G Q := r_nx hd rfl (ld_eq hk rfl) h
theorem r_aload {k : Nat} {x : Nat} (hd : decode cx.2.1 pc = .ok (.aload k, 2)) (hk : lget lo k = some (.ref x)) (h : Xr E d cx (pc + 2) lo (.ref x :: s) G Q) : Xr E d cx pc lo s G Q := r_nx hd rfl (ld_eq hk rfl) h
theorem sto1_eq {p : Value → Bool} {pc i : Nat} {v : Value} {lo' : Lo} (hk : lst1 lo i v = some lo') (hp : p v = true) : sto1 p pc i lo (v :: s) G = nx pc lo' s G := by
  show gd (p v = true) inferInstance (ov (lst1 lo i v) fun lo' => nx pc lo' s G) = _
  rw [hk]
  exact if_pos hp
theorem r_istore_n {k : Fin 4} {x : Int32} {lo' : Lo} (hd : decode cx.2.1 pc = .ok (.istore_n k, 1)) (hk : lst1 lo k (.int x) = some lo') (h : Xr E d cx (pc + 1) lo' s G Q) : Xr E d cx pc lo (.int x :: s) G Q := r_nx hd rfl (sto1_eq hk rfl) h
theorem r_istore {k : Nat} {x : Int32} {lo' : Lo} (hd : decode cx.2.1 pc = .ok (.istore k, 2)) (hk : lst1 lo k (.int x) = some lo') (h : Xr E d cx (pc + 2) lo' s G Q) : Xr E d cx pc lo (.int x :: s) G Q := r_nx hd rfl (sto1_eq hk rfl) h
theorem r_astore_n {k : Fin 4} {x : Nat} {lo' : Lo} (hd : decode cx.2.1 pc = .ok (.astore_n k, 1)) (hk : lst1 lo k (.ref x) = some lo') (h : Xr E d cx (pc + 1) lo' s G Q) : Xr E d cx pc lo (.ref x :: s) G Q := r_nx hd rfl (sto1_eq hk rfl) h
theorem r_astore {k : Nat} {x : Nat} {lo' : Lo} (hd : decode cx.2.1 pc = .ok (.astore k, 2)) (hk : lst1 lo k (.ref x) = some lo') (h : Xr E d cx (pc + 2) lo' s G Q) : Xr E d cx pc lo (.ref x :: s) G Q := r_nx hd rfl (sto1_eq hk rfl) h
theorem sto2_eq {pc i : Nat} {x : Int64} {lo' : Lo} (hk : lst2 lo i (.long x) = some lo') : sto2 pc i lo (.long x :: s) G = nx pc lo' s G := by
  unfold sto2 p1l
  show ov (lst2 lo i (.long x)) _ = _
  rw [hk]
  rfl
theorem r_lstore_n {k : Fin 4} {x : Int64} {lo' : Lo} (hd : decode cx.2.1 pc = .ok (.lstore_n k, 1)) (hk : lst2 lo k (.long x) = some lo') (h : Xr E d cx (pc + 1) lo' s G Q) : Xr E d cx pc lo (.long x :: s) G Q := r_nx hd rfl (sto2_eq hk) h
theorem r_lstore {k : Nat} {x : Int64} {lo' : Lo} (hd : decode cx.2.1 pc = .ok (.lstore k, 2)) (hk : lst2 lo k (.long x) = some lo') (h : Xr E d cx (pc + 2) lo' s G Q) : Xr E d cx pc lo (.long x :: s) G Q := r_nx hd rfl (sto2_eq hk) h
theorem r_iinc {k : Nat} {n : Int} {x : Int32} {lo' : Lo} (hd : decode cx.2.1 pc = .ok (.iinc k n, 3)) (hx : lget lo k = some (.int x)) (hk : lst1 lo k (.int (x + iv n)) = some lo') (h : Xr E d cx (pc + 3) lo' s G Q) : Xr E d cx pc lo s G Q := by
  refine r_nx hd rfl ?_ h
  show ldv lo k _ = _
  unfold ldv
  rw [hx]
  show ov (lst1 lo k _) _ = _
  rw [hk]
  rfl
theorem r_iadd {x y : Int32} (hd : decode cx.2.1 pc = .ok (.iadd, 1)) (h : Xr E d cx (pc + 1) lo (.int (x + y) :: s) G Q) : Xr E d cx pc lo (.int y :: .int x :: s) G Q := r_nx hd rfl rfl h
theorem r_isub {x y : Int32} (hd : decode cx.2.1 pc = .ok (.isub, 1)) (h : Xr E d cx (pc + 1) lo (.int (x - y) :: s) G Q) : Xr E d cx pc lo (.int y :: .int x :: s) G Q := r_nx hd rfl rfl h
theorem r_imul {x y : Int32} (hd : decode cx.2.1 pc = .ok (.imul, 1)) (h : Xr E d cx (pc + 1) lo (.int (x * y) :: s) G Q) : Xr E d cx pc lo (.int y :: .int x :: s) G Q := r_nx hd rfl rfl h
theorem r_iand {x y : Int32} (hd : decode cx.2.1 pc = .ok (.iand, 1)) (h : Xr E d cx (pc + 1) lo (.int (x &&& y) :: s) G Q) : Xr E d cx pc lo (.int y :: .int x :: s) G Q := r_nx hd rfl rfl h
theorem r_ior {x y : Int32} (hd : decode cx.2.1 pc = .ok (.ior, 1)) (h : Xr E d cx (pc + 1) lo (.int (x ||| y) :: s) G Q) : Xr E d cx pc lo (.int y :: .int x :: s) G Q := r_nx hd rfl rfl h
theorem r_ixor {x y : Int32} (hd : decode cx.2.1 pc = .ok (.ixor, 1)) (h : Xr E d cx (pc + 1) lo (.int (x ^^^ y) :: s) G Q) : Xr E d cx pc lo (.int y :: .int x :: s) G Q := r_nx hd rfl rfl h
theorem r_ishl {x y : Int32} (hd : decode cx.2.1 pc = .ok (.ishl, 1)) (h : Xr E d cx (pc + 1) lo (.int (x <<< (y &&& 31)) :: s) G Q) : Xr E d cx pc lo (.int y :: .int x :: s) G Q := r_nx hd rfl rfl h
theorem r_ishr {x y : Int32} (hd : decode cx.2.1 pc = .ok (.ishr, 1)) (h : Xr E d cx (pc + 1) lo (.int (x >>> (y &&& 31)) :: s) G Q) : Xr E d cx pc lo (.int y :: .int x :: s) G Q := r_nx hd rfl rfl h
theorem r_iushr {x y : Int32} (hd : decode cx.2.1 pc = .ok (.iushr, 1)) (h : Xr E d cx (pc + 1) lo (.int ((x.toUInt32 >>> (y.toUInt32 &&& Int32.toUInt32 31)).toInt32) :: s) G Q) : Xr E d cx pc lo (.int y :: .int x :: s) G Q := r_nx hd rfl rfl h
theorem r_idiv {x y : Int32} (hd : decode cx.2.1 pc = .ok (.idiv, 1)) (h : ¬ y = 0 ∧ Xr E d cx (pc + 1) lo (.int (x / y) :: s) G Q) : Xr E d cx pc lo (.int y :: .int x :: s) G Q := r_nx hd rfl (if_pos h.1) h.2
theorem r_irem {x y : Int32} (hd : decode cx.2.1 pc = .ok (.irem, 1)) (h : ¬ y = 0 ∧ Xr E d cx (pc + 1) lo (.int (x - x / y * y) :: s) G Q) : Xr E d cx pc lo (.int y :: .int x :: s) G Q := r_nx hd rfl (if_pos h.1) h.2
theorem r_ladd {x y : Int64} (hd : decode cx.2.1 pc = .ok (.ladd, 1)) (h : Xr E d cx (pc + 1) lo (.long (x + y) :: s) G Q) : Xr E d cx pc lo (.long y :: .long x :: s) G Q := r_nx hd rfl rfl h
theorem r_lsub {x y : Int64} (hd : decode cx.2.1 pc = .ok (.lsub, 1)) (h : Xr E d cx (pc + 1) lo (.long (x - y) :: s) G Q) : Xr E d cx pc lo (.long y :: .long x :: s) G Q := r_nx hd rfl rfl h
theorem r_lmul {x y : Int64} (hd : decode cx.2.1 pc = .ok (.lmul, 1)) (h : Xr E d cx (pc + 1) lo (.long (x * y) :: s) G Q) : Xr E d cx pc lo (.long y :: .long x :: s) G Q := r_nx hd rfl rfl h
theorem r_land {x y : Int64} (hd : decode cx.2.1 pc = .ok (.land, 1)) (h : Xr E d cx (pc + 1) lo (.long (x &&& y) :: s) G Q) : Xr E d cx pc lo (.long y :: .long x :: s) G Q := r_nx hd rfl rfl h
theorem r_lor {x y : Int64} (hd : decode cx.2.1 pc = .ok (.lor, 1)) (h : Xr E d cx (pc + 1) lo (.long (x ||| y) :: s) G Q) : Xr E d cx pc lo (.long y :: .long x :: s) G Q := r_nx hd rfl rfl h
theorem r_ldiv {x y : Int64} (hd : decode cx.2.1 pc = .ok (.ldiv, 1)) (h : ¬ y = 0 ∧ Xr E d cx (pc + 1) lo (.long (x / y) :: s) G Q) : Xr E d cx pc lo (.long y :: .long x :: s) G Q := r_nx hd rfl (if_pos h.1) h.2
theorem r_lrem {x y : Int64} (hd : decode cx.2.1 pc = .ok (.lrem, 1)) (h : ¬ y = 0 ∧ Xr E d cx (pc + 1) lo (.long (x - x / y * y) :: s) G Q) : Xr E d cx pc lo (.long y :: .long x :: s) G Q := r_nx hd rfl (if_pos h.1) h.2
theorem r_lushr {x : Int64} {y : Int32} (hd : decode cx.2.1 pc = .ok (.lushr, 1)) (h : Xr E d cx (pc + 1) lo (.long ((x.toUInt64 >>> (y.toInt64.toUInt64 &&& Int64.toUInt64 63)).toInt64) :: s) G Q) : Xr E d cx pc lo (.int y :: .long x :: s) G Q := r_nx hd rfl rfl h
theorem r_lshl {x : Int64} {y : Int32} (hd : decode cx.2.1 pc = .ok (.lshl, 1)) (h : Xr E d cx (pc + 1) lo (.long (x <<< (y.toInt64 &&& 63)) :: s) G Q) : Xr E d cx pc lo (.int y :: .long x :: s) G Q := r_nx hd rfl rfl h
theorem r_lcmp {x y : Int64} (hd : decode cx.2.1 pc = .ok (.lcmp, 1)) (h : Xr E d cx (pc + 1) lo (.int (lg_cmp x y) :: s) G Q) : Xr E d cx pc lo (.long y :: .long x :: s) G Q := r_nx hd rfl rfl h
theorem r_i2l {x : Int32} (hd : decode cx.2.1 pc = .ok (.i2l, 1)) (h : Xr E d cx (pc + 1) lo (.long x.toInt64 :: s) G Q) : Xr E d cx pc lo (.int x :: s) G Q := r_nx hd rfl rfl h
theorem r_l2i {x : Int64} (hd : decode cx.2.1 pc = .ok (.l2i, 1)) (h : Xr E d cx (pc + 1) lo (.int x.toInt32 :: s) G Q) : Xr E d cx pc lo (.long x :: s) G Q := r_nx hd rfl rfl h
theorem r_i2b {x : Int32} (hd : decode cx.2.1 pc = .ok (.i2b, 1)) (h : Xr E d cx (pc + 1) lo (.int x.toInt8.toInt32 :: s) G Q) : Xr E d cx pc lo (.int x :: s) G Q := r_nx hd rfl rfl h
theorem r_i2c {x : Int32} (hd : decode cx.2.1 pc = .ok (.i2c, 1)) (h : Xr E d cx (pc + 1) lo (.int (x.toUInt32 % 65536).toInt32 :: s) G Q) : Xr E d cx pc lo (.int x :: s) G Q := r_nx hd rfl rfl h
theorem r_dup {v : Value} (hd : decode cx.2.1 pc = .ok (.dup, 1)) (hc : v.category = 1) (h : Xr E d cx (pc + 1) lo (v :: v :: s) G Q) : Xr E d cx pc lo (v :: s) G Q := r_nx hd rfl (if_pos hc) h
theorem r_pop {v : Value} (hd : decode cx.2.1 pc = .ok (.pop, 1)) (hc : v.category = 1) (h : Xr E d cx (pc + 1) lo s G Q) : Xr E d cx pc lo (v :: s) G Q := r_nx hd rfl (if_pos hc) h
theorem jmp_eq {pc tgt : Nat} {off : Int} (ht : (pc : Int) + off = (tgt : Int)) : jmp pc off lo s G = nx tgt lo s G := by
  unfold jmp
  rw [ht]
  exact if_pos (Int.natCast_nonneg _)
theorem r_goto {off : Int} {tgt : Nat} (hd : decode cx.2.1 pc = .ok (.goto off, 3)) (ht : (pc : Int) + off = (tgt : Int)) (h : Xr E d cx tgt lo s G Q) : Xr E d cx pc lo s G Q := r_nx hd rfl (jmp_eq ht) h
theorem r_bra {i : Instr} {c : Prop} [dc : Decidable c] {off : Int} {tgt : Nat} {s' : List Value} (hd : decode cx.2.1 pc = .ok (i, 3)) (hl : lenOk i 3 = true) (hs : stpI E cx i pc lo s' G = bra (decide c) pc off lo s G) (ht : (pc : Int) + off = (tgt : Int)) (h : if c then Xr E d cx tgt lo s G Q else Xr E d cx (pc + 3) lo s G Q) : Xr E d cx pc lo s' G Q := by
  by_cases hc : c
  · rw [if_pos hc] at h
    refine r_nx hd hl ?_ h
    rw [hs, decide_eq_true hc]
    unfold bra
    rw [ht]
    exact if_pos (Int.natCast_nonneg _)
  · rw [if_neg hc] at h
    refine r_nx hd hl ?_ h
    rw [hs, decide_eq_false hc]
    unfold bra
    rw [ht]
    exact if_pos (Int.natCast_nonneg _)
theorem r_ifeq {off : Int} {tgt : Nat} {x : Int32} (hd : decode cx.2.1 pc = .ok (.ifCond .eq off, 3)) (ht : (pc : Int) + off = (tgt : Int)) (h : if x = 0 then Xr E d cx tgt lo s G Q else Xr E d cx (pc + 3) lo s G Q) : Xr E d cx pc lo (.int x :: s) G Q := r_bra hd rfl rfl ht h
theorem r_ifne {off : Int} {tgt : Nat} {x : Int32} (hd : decode cx.2.1 pc = .ok (.ifCond .ne off, 3)) (ht : (pc : Int) + off = (tgt : Int)) (h : if ¬ x = 0 then Xr E d cx tgt lo s G Q else Xr E d cx (pc + 3) lo s G Q) : Xr E d cx pc lo (.int x :: s) G Q := r_bra hd rfl rfl ht h
theorem r_iflt {off : Int} {tgt : Nat} {x : Int32} (hd : decode cx.2.1 pc = .ok (.ifCond .lt off, 3)) (ht : (pc : Int) + off = (tgt : Int)) (h : if x < 0 then Xr E d cx tgt lo s G Q else Xr E d cx (pc + 3) lo s G Q) : Xr E d cx pc lo (.int x :: s) G Q := r_bra hd rfl rfl ht h
theorem r_ifge {off : Int} {tgt : Nat} {x : Int32} (hd : decode cx.2.1 pc = .ok (.ifCond .ge off, 3)) (ht : (pc : Int) + off = (tgt : Int)) (h : if 0 ≤ x then Xr E d cx tgt lo s G Q else Xr E d cx (pc + 3) lo s G Q) : Xr E d cx pc lo (.int x :: s) G Q := r_bra hd rfl rfl ht h
theorem r_ifgt {off : Int} {tgt : Nat} {x : Int32} (hd : decode cx.2.1 pc = .ok (.ifCond .gt off, 3)) (ht : (pc : Int) + off = (tgt : Int)) (h : if 0 < x then Xr E d cx tgt lo s G Q else Xr E d cx (pc + 3) lo s G Q) : Xr E d cx pc lo (.int x :: s) G Q := r_bra hd rfl rfl ht h
theorem r_ifle {off : Int} {tgt : Nat} {x : Int32} (hd : decode cx.2.1 pc = .ok (.ifCond .le off, 3)) (ht : (pc : Int) + off = (tgt : Int)) (h : if x ≤ 0 then Xr E d cx tgt lo s G Q else Xr E d cx (pc + 3) lo s G Q) : Xr E d cx pc lo (.int x :: s) G Q := r_bra hd rfl rfl ht h
theorem r_ceq {off : Int} {tgt : Nat} {x y : Int32} (hd : decode cx.2.1 pc = .ok (.if_icmp .eq off, 3)) (ht : (pc : Int) + off = (tgt : Int)) (h : if x = y then Xr E d cx tgt lo s G Q else Xr E d cx (pc + 3) lo s G Q) : Xr E d cx pc lo (.int y :: .int x :: s) G Q := r_bra hd rfl rfl ht h
theorem r_cne {off : Int} {tgt : Nat} {x y : Int32} (hd : decode cx.2.1 pc = .ok (.if_icmp .ne off, 3)) (ht : (pc : Int) + off = (tgt : Int)) (h : if ¬ x = y then Xr E d cx tgt lo s G Q else Xr E d cx (pc + 3) lo s G Q) : Xr E d cx pc lo (.int y :: .int x :: s) G Q := r_bra hd rfl rfl ht h
theorem r_clt {off : Int} {tgt : Nat} {x y : Int32} (hd : decode cx.2.1 pc = .ok (.if_icmp .lt off, 3)) (ht : (pc : Int) + off = (tgt : Int)) (h : if x < y then Xr E d cx tgt lo s G Q else Xr E d cx (pc + 3) lo s G Q) : Xr E d cx pc lo (.int y :: .int x :: s) G Q := r_bra hd rfl rfl ht h
theorem r_cge {off : Int} {tgt : Nat} {x y : Int32} (hd : decode cx.2.1 pc = .ok (.if_icmp .ge off, 3)) (ht : (pc : Int) + off = (tgt : Int)) (h : if y ≤ x then Xr E d cx tgt lo s G Q else Xr E d cx (pc + 3) lo s G Q) : Xr E d cx pc lo (.int y :: .int x :: s) G Q := r_bra hd rfl rfl ht h
theorem r_cgt {off : Int} {tgt : Nat} {x y : Int32} (hd : decode cx.2.1 pc = .ok (.if_icmp .gt off, 3)) (ht : (pc : Int) + off = (tgt : Int)) (h : if y < x then Xr E d cx tgt lo s G Q else Xr E d cx (pc + 3) lo s G Q) : Xr E d cx pc lo (.int y :: .int x :: s) G Q := r_bra hd rfl rfl ht h
theorem r_cle {off : Int} {tgt : Nat} {x y : Int32} (hd : decode cx.2.1 pc = .ok (.if_icmp .le off, 3)) (ht : (pc : Int) + off = (tgt : Int)) (h : if x ≤ y then Xr E d cx tgt lo s G Q else Xr E d cx (pc + 3) lo s G Q) : Xr E d cx pc lo (.int y :: .int x :: s) G Q := r_bra hd rfl rfl ht h
theorem r_tswIn {dflt l hh : Int} {offs : Array Int} {n : Nat} {x : Int32} {off : Int} {tgt : Nat} (hd : decode cx.2.1 pc = .ok (.tableswitch dflt l hh offs, n)) (h1 : ¬ (x.toInt < l ∨ hh < x.toInt)) (ho : offs[(x.toInt - l).toNat]? = some off) (ht : (pc : Int) + off = (tgt : Int)) (h : Xr E d cx tgt lo s G Q) : Xr E d cx pc lo (.int x :: s) G Q := by
  refine r_nx hd rfl ?_ h
  show (if x.toInt < l ∨ hh < x.toInt then jmp pc dflt lo s G else ov offs[(x.toInt - l).toNat]? fun off => jmp pc off lo s G) = _
  rw [if_neg h1, ho]
  exact jmp_eq ht
theorem r_tswOut {dflt l hh : Int} {offs : Array Int} {n : Nat} {x : Int32} {tgt : Nat} (hd : decode cx.2.1 pc = .ok (.tableswitch dflt l hh offs, n)) (h1 : x.toInt < l ∨ hh < x.toInt) (ht : (pc : Int) + dflt = (tgt : Int)) (h : Xr E d cx tgt lo s G Q) : Xr E d cx pc lo (.int x :: s) G Q := by
  refine r_nx hd rfl ?_ h
  show (if x.toInt < l ∨ hh < x.toInt then jmp pc dflt lo s G else _) = _
  rw [if_pos h1]
  exact jmp_eq ht
/-! heap -/
theorem getO_eq {x a : Nat} {q : Nat × Nat × Nat} {fs : List Value} {v : Value} {r : List Value} (hf : fF cx.1 x = some q) (hg : gt E G a = some (cO q.1 fs)) (hv : fs[q.2.1]? = some v) : stpI E cx (.getfield x) pc lo (.ref a :: r) G = nx (pc + 3) lo (v :: r) G := by
  show (match fF cx.1 x with | some q => gtO E G a (fun c fs => gd (c = q.1) inferInstance (ov fs[q.2.1]? fun v => nx (pc + 3) lo (v :: r) G)) none | none => _) = _
  rw [hf]
  show gtO E G a _ _ = _
  unfold gtO
  rw [hg]
  show gd _ _ (ov fs[q.2.1]? _) = _
  rw [hv]
  exact if_pos rfl
theorem r_getI {x a ci k p : Nat} (hd : decode cx.2.1 pc = .ok (.getfield x, 3)) (hf : fF cx.1 x = some (ci, k, p)) (h : qFI E G a ci k fun v => Xr E d cx (pc + 3) lo (.int v :: s) G Q) : Xr E d cx pc lo (.ref a :: s) G Q := by
  unfold qFI at h
  split at h
  · next c fs hg =>
    obtain ⟨rfl, h⟩ := h
    split at h
    · next v hv => exact r_nx hd rfl (getO_eq hf hg hv) h
    · exact h.elim
  · exact h.elim
theorem r_getR {x a ci k p : Nat} (hd : decode cx.2.1 pc = .ok (.getfield x, 3)) (hf : fF cx.1 x = some (ci, k, p)) (h : qFR E G a ci k fun v => Xr E d cx (pc + 3) lo (.ref v :: s) G Q) : Xr E d cx pc lo (.ref a :: s) G Q := by
  unfold qFR at h
  split at h
  · next c fs hg =>
    obtain ⟨rfl, h⟩ := h
    split at h
    · next v hv => exact r_nx hd rfl (getO_eq hf hg hv) h
    · exact h.elim
  · exact h.elim
theorem r_getH {x a : Nat} {v : Value} (hd : decode cx.2.1 pc = .ok (.getfield x, 3)) (hf : fF cx.1 x = none) (hv : hT E cx.1 x a = some v) (h : gt E G a = none ∧ Xr E d cx (pc + 3) lo (v :: s) G Q) : Xr E d cx pc lo (.ref a :: s) G Q := by
  refine r_nx hd rfl ?_ h.2
  show (match fF cx.1 x with | some q => _ | none => gtO E G a (fun _ _ => none) (ov (hT E cx.1 x a) fun v => nx (pc + 3) lo (v :: s) G)) = _
  rw [hf]
  show gtO E G a _ _ = _
  unfold gtO
  rw [h.1]
  show ov _ _ = _
  rw [hv]
  rfl
theorem r_gets {x : Nat} {v : Value} (hd : decode cx.2.1 pc = .ok (.getstatic x, 3)) (hv : gS E cx.1 x = some v) (h : Xr E d cx (pc + 3) lo (v :: s) G Q) : Xr E d cx pc lo s G Q := by
  refine r_nx hd rfl ?_ h
  show ov (gS E cx.1 x) _ = _
  rw [hv]
  rfl
theorem r_put {x a ci k p : Nat} {v : Value} (hd : decode cx.2.1 pc = .ok (.putfield x, 3)) (hf : fF cx.1 x = some (ci, k, p)) (ho : okV (fTy ci k) v = true) (hi : (fTb ci k).2.2.2 = true → cx.2.2.1 = true ∧ cx.1 = ci) (h : qP E G a ci k v fun G' => Xr E d cx (pc + 3) lo s G' Q) : Xr E d cx pc lo (v :: .ref a :: s) G Q := by
  unfold qP at h
  split at h
  · next c fs hg =>
    obtain ⟨rfl, hl, h⟩ := h
    refine r_nx hd rfl ?_ h
    show ov (fF cx.1 x) _ = _
    rw [hf]
    show gtO E G a _ _ = _
    unfold gtO
    rw [hg]
    exact if_pos ⟨rfl, hl, ho, hi⟩
  · exact h.elim
theorem r_iald {a : Nat} {i : Int32} (hd : decode cx.2.1 pc = .ok (.iaload, 1)) (h : qIA cx.1 E G a i fun v => Xr E d cx (pc + 1) lo (.int v :: s) G Q) : Xr E d cx pc lo (.int i :: .ref a :: s) G Q := by
  unfold qIA at h
  split at h
  · next k n f hg =>
    refine r_nx hd rfl ?_ h.2.2
    show gtA E G a _ _ = _
    unfold gtA
    rw [hg]
    exact if_pos ⟨h.1, h.2.1⟩
  · next hg =>
    split at h
    · next q hq =>
      refine r_nx hd rfl ?_ h.2
      show gtA E G a _ _ = _
      unfold gtA
      rw [hg]
      show ov (oI cx.1 E a) _ = _
      rw [hq]
      exact if_pos h.1
    · exact h.elim
  · exact h.elim
theorem r_bald {a : Nat} {i : Int32} (hd : decode cx.2.1 pc = .ok (.baload, 1)) (h : qBA E G a i fun v => Xr E d cx (pc + 1) lo (.int v :: s) G Q) : Xr E d cx pc lo (.int i :: .ref a :: s) G Q := by
  unfold qBA at h
  split at h
  · next k n f hg =>
    refine r_nx hd rfl ?_ h.2.2
    show gtA E G a _ _ = _
    unfold gtA
    rw [hg]
    exact if_pos ⟨h.1, h.2.1⟩
  · next hg =>
    split at h
    · next q hq =>
      refine r_nx hd rfl ?_ h.2
      show gtA E G a _ _ = _
      unfold gtA
      rw [hg]
      show ov (oB E a) _ = _
      rw [hq]
      exact if_pos h.1
    · exact h.elim
  · exact h.elim
theorem r_aald {a : Nat} {i : Int32} (hd : decode cx.2.1 pc = .ok (.aaload, 1)) (h : qRA E G a i fun v => Xr E d cx (pc + 1) lo (.ref v :: s) G Q) : Xr E d cx pc lo (.int i :: .ref a :: s) G Q := by
  unfold qRA at h
  split at h
  · next k n f hg =>
    obtain ⟨h1, h2, h⟩ := h
    split at h
    · next v hv =>
      refine r_nx hd rfl ?_ h
      show gtR E G a _ = _
      unfold gtR
      rw [hg]
      show gd _ _ (ov (f i.toNatClampNeg) _) = _
      rw [hv]
      exact if_pos ⟨h1, h2⟩
    · exact h.elim
  · exact h.elim
theorem r_iast {a : Nat} {i x : Int32} (hd : decode cx.2.1 pc = .ok (.iastore, 1)) (h : qIS E G a i x fun G' => Xr E d cx (pc + 1) lo s G' Q) : Xr E d cx pc lo (.int x :: .int i :: .ref a :: s) G Q := by
  unfold qIS at h
  split at h
  · next k n f hg =>
    refine r_nx hd rfl ?_ h.2.2
    show gtA E G a _ _ = _
    unfold gtA
    rw [hg]
    exact if_pos ⟨h.1, h.2.1⟩
  · exact h.elim
theorem r_bast {a : Nat} {i x : Int32} (hd : decode cx.2.1 pc = .ok (.bastore, 1)) (h : qBS E G a i x fun G' => Xr E d cx (pc + 1) lo s G' Q) : Xr E d cx pc lo (.int x :: .int i :: .ref a :: s) G Q := by
  unfold qBS at h
  split at h
  · next k n f hg =>
    refine r_nx hd rfl ?_ h.2.2
    show gtA E G a _ _ = _
    unfold gtA
    rw [hg]
    exact if_pos ⟨h.1, h.2.1⟩
  · exact h.elim
theorem r_aast {a v : Nat} {i : Int32} (hd : decode cx.2.1 pc = .ok (.aastore, 1)) (h : qRS E G a i v fun G' => Xr E d cx (pc + 1) lo s G' Q) : Xr E d cx pc lo (.ref v :: .int i :: .ref a :: s) G Q := by
  unfold qRS at h
  split at h
  · next k n f hg =>
    obtain ⟨h1, h2, h⟩ := h
    split at h
    · next c fs hv =>
      refine r_nx hd rfl ?_ h.2
      show gtR E G a _ = _
      unfold gtR
      rw [hg]
      show gd _ _ (gtO E G v _ _) = _
      unfold gtO
      rw [hv]
      show gd _ _ (gd _ _ _) = _
      rw [show gd (c = k + 1) inferInstance (nx (pc + 1) lo s (st E G a (cR k n (va_up f i.toNatClampNeg (some v))))) = nx (pc + 1) lo s (st E G a (cR k n (va_up f i.toNatClampNeg (some v)))) from if_pos h.1]
      exact if_pos ⟨h1, h2⟩
    · exact h.elim
  · exact h.elim
theorem r_alen {a : Nat} (hd : decode cx.2.1 pc = .ok (.arraylength, 1)) (h : qL cx.1 E G a fun v => Xr E d cx (pc + 1) lo (.int v :: s) G Q) : Xr E d cx pc lo (.ref a :: s) G Q := by
  unfold qL at h
  have e : stpI E cx .arraylength pc lo (.ref a :: s) G = (match gt E G a with
    | some (.inl (_, n, _)) => nx (pc + 1) lo (.int (Int32.ofNat n) :: s) G
    | some (.inr (.inl (k, n, _))) => gd (k ≤ 2) inferInstance (nx (pc + 1) lo (.int (Int32.ofNat n) :: s) G)
    | some (.inr (.inr _)) => none
    | none => ov (oL cx.1 E a) fun n => nx (pc + 1) lo (.int (Int32.ofNat n) :: s) G) := rfl
  split at h
  · next hg => exact r_nx hd rfl (by rw [e, hg]) h
  · next hg => exact r_nx hd rfl (by rw [e, hg]; exact if_pos h.1) h.2
  · exact h.elim
  · next hg =>
    split at h
    · next hq => exact r_nx hd rfl (by rw [e, hg, hq]; rfl) h
    · exact h.elim
theorem r_newI {n : Int32} (hd : decode cx.2.1 pc = .ok (.newarray .int, 2)) (h : (¬ n < 0 ∧ n.toNatClampNeg ≤ 100000) ∧ Xr E d cx (pc + 2) lo (.ref (nxA E G) :: s) (psh G (cA 0 n.toNatClampNeg (fun _ => 0)) n.toNatClampNeg) Q) : Xr E d cx pc lo (.int n :: s) G Q := r_nx hd rfl (if_pos h.1) h.2
theorem r_newB {n : Int32} (hd : decode cx.2.1 pc = .ok (.newarray .byte, 2)) (h : (¬ n < 0 ∧ n.toNatClampNeg ≤ 100000) ∧ Xr E d cx (pc + 2) lo (.ref (nxA E G) :: s) (psh G (cA 1 n.toNatClampNeg (fun _ => 0)) n.toNatClampNeg) Q) : Xr E d cx pc lo (.int n :: s) G Q := r_nx hd rfl (if_pos h.1) h.2
theorem r_newZ {n : Int32} (hd : decode cx.2.1 pc = .ok (.newarray .boolean, 2)) (h : (¬ n < 0 ∧ n.toNatClampNeg ≤ 100000) ∧ Xr E d cx (pc + 2) lo (.ref (nxA E G) :: s) (psh G (cA 2 n.toNatClampNeg (fun _ => 0)) n.toNatClampNeg) Q) : Xr E d cx pc lo (.int n :: s) G Q := r_nx hd rfl (if_pos h.1) h.2
theorem r_newR {n : Int32} {x p ci : Nat} (hd : decode cx.2.1 pc = .ok (.anewarray x, 3)) (hf : fC cx.1 x = some (ci, p)) (hc : ci = 1 ∨ ci = 2) (h : (¬ n < 0 ∧ n.toNatClampNeg ≤ 100000) ∧ Xr E d cx (pc + 3) lo (.ref (nxA E G) :: s) (psh G (cR (ci - 1) n.toNatClampNeg (fun _ => none)) n.toNatClampNeg) Q) : Xr E d cx pc lo (.int n :: s) G Q := by
  refine r_nx hd rfl ?_ h.2
  show ov (fC cx.1 x) _ = _
  rw [hf]
  exact if_pos ⟨hc, h.1⟩
theorem r_newM {n k : Int32} (hd : decode cx.2.1 pc = .ok (.multianewarray 15 2, 4)) (ho : cx.1 = 5) (h : (¬ n < 0 ∧ ¬ k < 0 ∧ n.toNatClampNeg ≤ 1000 ∧ k.toNatClampNeg ≤ 1000) ∧ Xr E d cx (pc + 4) lo (.ref (nxA E G) :: s) (pshs (psh G (cR 2 n.toNatClampNeg (fun i => if i < n.toNatClampNeg then some (nxA E G + 1 + i) else none)) n.toNatClampNeg) n.toNatClampNeg k.toNatClampNeg) Q) : Xr E d cx pc lo (.int k :: .int n :: s) G Q := r_nx hd rfl (if_pos ⟨ho, rfl, h.1⟩) h.2
theorem r_new {x p ci : Nat} (hd : decode cx.2.1 pc = .ok (.new x, 3)) (hf : fC cx.1 x = some (ci, p)) (hc : ci < 8) (h : Xr E d cx (pc + 3) lo (.ref (nxA E G) :: s) (psh G (cO ci (fDf ci)) (fSz ci)) Q) : Xr E d cx pc lo s G Q := by
  refine r_nx hd rfl ?_ h
  show ov (fC cx.1 x) _ = _
  rw [hf]
  exact if_pos hc
theorem r_cpy {x a0 a p z : Nat} {sp dp n : Int32} (hd : decode cx.2.1 pc = .ok (.invokestatic x, 3)) (hf : fM cx.1 x = some (3, z, p)) (hl : s.length ≤ 4) (h : qCp E G a0 sp a dp n fun G' => Xr E d cx (pc + 3) lo s G' Q) : Xr E d cx pc lo (.int n :: .int dp :: .ref a :: .int sp :: .ref a0 :: s) G Q := by
  unfold qCp at h
  split at h
  · next k0 n0 f hg0 =>
    split at h
    · next k n1 g hg =>
      obtain ⟨⟨h1, h2⟩, h⟩ := h
      refine r_nx hd rfl ?_ h
      show ov (fM cx.1 x) _ = _
      rw [hf]
      show gtA E G a0 _ _ = _
      unfold gtA
      rw [hg0]
      show gtA E G a _ _ = _
      unfold gtA
      rw [hg]
      exact if_pos ⟨h1, hl, h2⟩
    · exact h.elim
  · exact h.elim
theorem r_oinit {x a p z : Nat} (hd : decode cx.2.1 pc = .ok (.invokespecial x, 3)) (hf : fM cx.1 x = some (4, z, p)) (hl : s.length ≤ 4) (h : Xr E d cx (pc + 3) lo s G Q) : Xr E d cx pc lo (.ref a :: s) G Q := by
  refine r_nx hd rfl ?_ h
  show ov (fM cx.1 x) _ = _
  rw [hf]
  exact if_pos hl
theorem r_max {x p z : Nat} {a b : Int32} (hd : decode cx.2.1 pc = .ok (.invokestatic x, 3)) (hf : fM cx.1 x = some (6, z, p)) (hl : s.length ≤ 4) (h : Xr E d cx (pc + 3) lo (.int (imax a b) :: s) G Q) : Xr E d cx pc lo (.int b :: .int a :: s) G Q := by
  refine r_nx hd rfl ?_ h
  show ov (fM cx.1 x) _ = _
  rw [hf]
  exact if_pos hl
theorem r_min {x p z : Nat} {a b : Int32} (hd : decode cx.2.1 pc = .ok (.invokestatic x, 3)) (hf : fM cx.1 x = some (7, z, p)) (hl : s.length ≤ 4) (h : Xr E d cx (pc + 3) lo (.int (imin a b) :: s) G Q) : Xr E d cx pc lo (.int b :: .int a :: s) G Q := by
  refine r_nx hd rfl ?_ h
  show ov (fM cx.1 x) _ = _
  rw [hf]
  exact if_pos hl
/-! calls -/
theorem r_call {i : Instr} {id : Nat} {a r : List Value} (hd : decode cx.2.1 pc = .ok (i, 3)) (hl : lenOk i 3 = true) (hs : stpI E cx i pc lo s G = some (.inr (.inl (id, a, pc + 3, r)))) (h : runs E d id a G (fun v G' => Xr E d cx (pc + 3) lo (v.toList ++ r) G' Q)) : Xr E d cx pc lo s G Q := by
  rw [Xr_call ((stp_of hd hl).trans hs)]
  exact h
theorem invS_eq {x kind id p : Nat} {m : Mi} {a r : List Value} (hf : fM cx.1 x = some (kind, id, p)) (hk : kind = 0 ∨ kind = 5) (hm : tY[id]? = some m) (hst : m.2.2.2.2.2.2.2 = true) (ha : (s.take (nA m)).reverse = a) (hr : s.drop (nA m) = r) (hl : a.length = nA m ∧ r.length ≤ 4) : stpI E cx (.invokestatic x) pc lo s G = some (.inr (.inl (id, a, pc + 3, r))) := by
  show invS E cx.1 x pc lo s G = _
  unfold invS
  rw [hf]
  rcases hk with rfl | rfl
  · show callA E 0 id pc s G = _
    unfold callA
    rw [hm]
    show callB E 0 id pc G m _ _ = _
    rw [ha, hr]
    unfold callB
    exact (if_pos hl).trans (if_pos hst)
  · show callA E 5 id pc s G = _
    unfold callA
    rw [hm]
    show callB E 5 id pc G m _ _ = _
    rw [ha, hr]
    unfold callB
    exact (if_pos hl).trans (if_pos hst)
theorem invV_eq {x id p b : Nat} {m : Mi} {a r : List Value} (hf : fM cx.1 x = some (1, id, p)) (hm : tY[id]? = some m) (hst : m.2.2.2.2.2.2.2 = false) (hin : m.2.2.2.2.2.2.1 = false) (ha : (s.take (nA m)).reverse = .ref b :: a) (hr : s.drop (nA m) = r) (hl : (Value.ref b :: a).length = nA m ∧ r.length ≤ 4) (hrc : rcv E G b m.2.2.2.2.2.1 = true) : stpI E cx (.invokevirtual x) pc lo s G = some (.inr (.inl (id, .ref b :: a, pc + 3, r))) := by
  show invV E cx.1 x pc s G = _
  unfold invV
  rw [hf]
  show callA E 1 id pc s G = _
  unfold callA
  rw [hm]
  show callB E 1 id pc G m _ _ = _
  rw [ha, hr]
  unfold callB
  exact (if_pos hl).trans (if_pos ⟨hst, hin, hrc⟩)
theorem invI_eq {x id p b : Nat} {m : Mi} {a r : List Value} (hf : fM cx.1 x = some (2, id, p)) (hm : tY[id]? = some m) (hst : m.2.2.2.2.2.2.2 = false) (hin : m.2.2.2.2.2.2.1 = true) (ha : (s.take (nA m)).reverse = .ref b :: a) (hr : s.drop (nA m) = r) (hl : (Value.ref b :: a).length = nA m ∧ r.length ≤ 4) : stpI E cx (.invokespecial x) pc lo s G = some (.inr (.inl (id, .ref b :: a, pc + 3, r))) := by
  show invI E cx.1 x pc lo s G = _
  unfold invI
  rw [hf]
  show callA E 2 id pc s G = _
  unfold callA
  rw [hm]
  show callB E 2 id pc G m _ _ = _
  rw [ha, hr]
  unfold callB
  exact (if_pos hl).trans (if_pos ⟨hst, hin⟩)
theorem r_cI {i : Instr} {id : Nat} {a r : List Value} (hd : decode cx.2.1 pc = .ok (i, 3)) (hl : lenOk i 3 = true) (hs : stpI E cx i pc lo s G = some (.inr (.inl (id, a, pc + 3, r)))) (h : qCI E d id a G (fun v G' => Xr E d cx (pc + 3) lo (.int v :: r) G' Q)) : Xr E d cx pc lo s G Q :=
  r_call hd hl hs (runs_mono _ _ _ _ _ _ (fun v G' q => by
    split at q
    · exact q
    · exact q.elim) h)
theorem r_cJ {i : Instr} {id : Nat} {a r : List Value} (hd : decode cx.2.1 pc = .ok (i, 3)) (hl : lenOk i 3 = true) (hs : stpI E cx i pc lo s G = some (.inr (.inl (id, a, pc + 3, r)))) (h : qCJ E d id a G (fun v G' => Xr E d cx (pc + 3) lo (.long v :: r) G' Q)) : Xr E d cx pc lo s G Q :=
  r_call hd hl hs (runs_mono _ _ _ _ _ _ (fun v G' q => by
    split at q
    · exact q
    · exact q.elim) h)
theorem r_cR {i : Instr} {id : Nat} {a r : List Value} (hd : decode cx.2.1 pc = .ok (i, 3)) (hl : lenOk i 3 = true) (hs : stpI E cx i pc lo s G = some (.inr (.inl (id, a, pc + 3, r)))) (h : qCR E d id a G (fun v G' => Xr E d cx (pc + 3) lo (.ref v :: r) G' Q)) : Xr E d cx pc lo s G Q :=
  r_call hd hl hs (runs_mono _ _ _ _ _ _ (fun v G' q => by
    split at q
    · exact q
    · exact q.elim) h)
theorem r_cV {i : Instr} {id : Nat} {a r : List Value} (hd : decode cx.2.1 pc = .ok (i, 3)) (hl : lenOk i 3 = true) (hs : stpI E cx i pc lo s G = some (.inr (.inl (id, a, pc + 3, r)))) (h : qCV E d id a G (fun G' => Xr E d cx (pc + 3) lo r G' Q)) : Xr E d cx pc lo s G Q :=
  r_call hd hl hs (runs_mono _ _ _ _ _ _ (fun v G' q => by
    split at q
    · exact q
    · exact q.elim) h)
/-! ends -/
theorem r_ret {i : Instr} {v : Option Value} (hd : decode cx.2.1 pc = .ok (i, 1)) (hl : lenOk i 1 = true) (hs : stpI E cx i pc lo s G = some (.inr (.inr v))) (h : Q v G) : Xr E d cx pc lo s G Q := by
  rw [Xr_ret ((stp_of hd hl).trans hs)]
  exact h
theorem r_iret {t : FieldType} {v : Int32} (hd : decode cx.2.1 pc = .ok (.ireturn, 1)) (ht : cx.2.2.2 = some t) (h : narrow t (.int v) = .int v ∧ Q (some (.int v)) G) : Xr E d cx pc lo [.int v] G Q := by
  refine r_ret hd rfl ?_ h.2
  show (match cx.2.2.2 with | some t => gd (narrow t (Value.int v) = Value.int v) inferInstance (some (Sum.inr (Sum.inr (some (Value.int v))))) | none => none) = _
  rw [ht]
  exact if_pos h.1
theorem r_lret {v : Int64} (hd : decode cx.2.1 pc = .ok (.lreturn, 1)) (ht : cx.2.2.2 = some .long) (h : Q (some (.long v)) G) : Xr E d cx pc lo [.long v] G Q := r_ret hd rfl (if_pos ht) h
theorem r_aret {v : Nat} {nm : String} (hd : decode cx.2.1 pc = .ok (.areturn, 1)) (ht : cx.2.2.2 = some (.object nm)) (h : Q (some (.ref v)) G) : Xr E d cx pc lo [.ref v] G Q := by
  refine r_ret hd rfl ?_ h
  show ((match cx.2.2.2 with | some (.object _) => some (Sum.inr (Sum.inr (some (Value.ref v)))) | some (.array _) => some (Sum.inr (Sum.inr (some (Value.ref v)))) | _ => none) : Option Rs) = _
  rw [ht]
theorem r_vret (hd : decode cx.2.1 pc = .ok (.return_, 1)) (ht : cx.2.2.2 = none) (h : Q none G) : Xr E d cx pc lo [] G Q := r_ret hd rfl (if_pos ht) h
end XR
theorem ite_imp {c : Prop} [Decidable c] {A B A' B' : Prop} (f : A → A') (g : B → B') (h : if c then A else B) : if c then A' else B' := by
  by_cases hc : c
  · rw [if_pos hc] at h ⊢; exact f h
  · rw [if_neg hc] at h ⊢; exact g h
section QI
variable {E : Ev} {d : Nat} {G : Hp}
theorem qFI_imp {a ci k : Nat} {F F' : Int32 → Prop} (f : ∀ v, F v → F' v) (h : qFI E G a ci k F) : qFI E G a ci k F' := by
  unfold qFI at h ⊢
  split at h
  · refine ⟨h.1, ?_⟩
    have h := h.2
    split at h
    · exact f _ h
    · exact h.elim
  · exact h.elim
theorem qFR_imp {a ci k : Nat} {F F' : Nat → Prop} (f : ∀ v, F v → F' v) (h : qFR E G a ci k F) : qFR E G a ci k F' := by
  unfold qFR at h ⊢
  split at h
  · refine ⟨h.1, ?_⟩
    have h := h.2
    split at h
    · exact f _ h
    · exact h.elim
  · exact h.elim
theorem qP_imp {a ci k : Nat} {v : Value} {F F' : Hp → Prop} (f : ∀ v, F v → F' v) (h : qP E G a ci k v F) : qP E G a ci k v F' := by
  unfold qP at h ⊢
  split at h
  · exact ⟨h.1, h.2.1, f _ h.2.2⟩
  · exact h.elim
theorem qIA_imp {o a : Nat} {i : Int32} {F F' : Int32 → Prop} (f : ∀ v, F v → F' v) (h : qIA o E G a i F) : qIA o E G a i F' := by
  unfold qIA at h ⊢
  split at h
  · exact ⟨h.1, h.2.1, f _ h.2.2⟩
  · split at h
    · exact ⟨h.1, f _ h.2⟩
    · exact h.elim
  · exact h.elim
theorem qBA_imp {a : Nat} {i : Int32} {F F' : Int32 → Prop} (f : ∀ v, F v → F' v) (h : qBA E G a i F) : qBA E G a i F' := by
  unfold qBA at h ⊢
  split at h
  · exact ⟨h.1, h.2.1, f _ h.2.2⟩
  · split at h
    · exact ⟨h.1, f _ h.2⟩
    · exact h.elim
  · exact h.elim
theorem qRA_imp {a : Nat} {i : Int32} {F F' : Nat → Prop} (f : ∀ v, F v → F' v) (h : qRA E G a i F) : qRA E G a i F' := by
  unfold qRA at h ⊢
  split at h
  · refine ⟨h.1, h.2.1, ?_⟩
    have h := h.2.2
    split at h
    · exact f _ h
    · exact h.elim
  · exact h.elim
theorem qIS_imp {a : Nat} {i x : Int32} {F F' : Hp → Prop} (f : ∀ v, F v → F' v) (h : qIS E G a i x F) : qIS E G a i x F' := by
  unfold qIS at h ⊢
  split at h
  · exact ⟨h.1, h.2.1, f _ h.2.2⟩
  · exact h.elim
theorem qBS_imp {a : Nat} {i x : Int32} {F F' : Hp → Prop} (f : ∀ v, F v → F' v) (h : qBS E G a i x F) : qBS E G a i x F' := by
  unfold qBS at h ⊢
  split at h
  · exact ⟨h.1, h.2.1, f _ h.2.2⟩
  · exact h.elim
theorem qRS_imp {a v : Nat} {i : Int32} {F F' : Hp → Prop} (f : ∀ v, F v → F' v) (h : qRS E G a i v F) : qRS E G a i v F' := by
  unfold qRS at h ⊢
  split at h
  · refine ⟨h.1, h.2.1, ?_⟩
    have h := h.2.2
    split at h
    · exact ⟨h.1, f _ h.2⟩
    · exact h.elim
  · exact h.elim
theorem qL_imp {o a : Nat} {F F' : Int32 → Prop} (f : ∀ v, F v → F' v) (h : qL o E G a F) : qL o E G a F' := by
  unfold qL at h ⊢
  split at h
  · exact f _ h
  · exact ⟨h.1, f _ h.2⟩
  · exact h.elim
  · split at h
    · exact f _ h
    · exact h.elim
theorem qCp_imp {a0 a : Nat} {sp dp n : Int32} {F F' : Hp → Prop} (f : ∀ v, F v → F' v) (h : qCp E G a0 sp a dp n F) : qCp E G a0 sp a dp n F' := by
  unfold qCp at h ⊢
  split at h
  · split at h
    · exact ⟨h.1, f _ h.2⟩
    · exact h.elim
  · exact h.elim
theorem qCI_imp {id : Nat} {a : List Value} {F F' : Int32 → Hp → Prop} (f : ∀ v G, F v G → F' v G) (h : qCI E d id a G F) : qCI E d id a G F' :=
  runs_mono _ _ _ _ _ _ (fun v G' q => by
    split at q
    · exact f _ _ q
    · exact q.elim) h
theorem qCJ_imp {id : Nat} {a : List Value} {F F' : Int64 → Hp → Prop} (f : ∀ v G, F v G → F' v G) (h : qCJ E d id a G F) : qCJ E d id a G F' :=
  runs_mono _ _ _ _ _ _ (fun v G' q => by
    split at q
    · exact f _ _ q
    · exact q.elim) h
theorem qCR_imp {id : Nat} {a : List Value} {F F' : Nat → Hp → Prop} (f : ∀ v G, F v G → F' v G) (h : qCR E d id a G F) : qCR E d id a G F' :=
  runs_mono _ _ _ _ _ _ (fun v G' q => by
    split at q
    · exact f _ _ q
    · exact q.elim) h
theorem qCV_imp {id : Nat} {a : List Value} {F F' : Hp → Prop} (f : ∀ G, F G → F' G) (h : qCV E d id a G F) : qCV E d id a G F' :=
  runs_mono _ _ _ _ _ _ (fun v G' q => by
    split at q
    · exact f _ q
    · exact q.elim) h
theorem hT_9 : hT E 9 9 (eS E) = some (.ref (eV E)) := by simp [hT]
theorem hT_15 : hT E 9 15 (eS E) = some (.int (iv 0)) := by simp [hT]
end QI
