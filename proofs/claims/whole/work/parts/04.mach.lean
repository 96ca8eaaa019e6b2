/-! AN ABSTRACT MACHINE: the heap is a list of cells from a base address on; one step is a function; X: it comes to its end with Q. -/
abbrev Cl : Type := (Nat × Nat × (Nat → Int32)) ⊕ ((Nat × Nat × (Nat → Option Nat)) ⊕ (Nat × List Value))
abbrev Hp : Type := List Cl × Nat
abbrev Lo : Type := List (Option Value)
abbrev Ev : Type := Nat × Nat × Nat × Nat × Value × Nat × Nat × (Nat → Int32)
/-- own class, code, whether it is <init>, what it returns -/
abbrev Cx : Type := Nat × ByteArray × Bool × Option FieldType
abbrev Rs : Type := (Nat × Lo × List Value × Hp) ⊕ ((Nat × List Value × Nat × List Value) ⊕ Option Value)
abbrev Po : Type := Option Value → Hp → Prop
abbrev cA (k n : Nat) (f : Nat → Int32) : Cl := .inl (k, n, f)
abbrev cR (k n : Nat) (f : Nat → Option Nat) : Cl := .inr (.inl (k, n, f))
abbrev cO (c : Nat) (fs : List Value) : Cl := .inr (.inr (c, fs))
def eB (E : Ev) : Nat := E.1
def eS (E : Ev) : Nat := E.2.1
def eV (E : Ev) : Nat := E.2.2.1
def eA (E : Ev) : Nat := E.2.2.2.1
def eF (E : Ev) : Value := E.2.2.2.2.1
def eb (E : Ev) : Nat := E.2.2.2.2.2.1
def eL (E : Ev) : Nat := E.2.2.2.2.2.2.1
def ex (E : Ev) : Nat → Int32 := E.2.2.2.2.2.2.2
def gt (E : Ev) (G : Hp) (a : Nat) : Option Cl := if eB E ≤ a then G.1[a - eB E]? else none
def st (E : Ev) (G : Hp) (a : Nat) (c : Cl) : Hp := if eB E ≤ a then (G.1.set (a - eB E) c, G.2) else G
/-- an int by its number -/
def iv (z : Int) : Int32 := Int32.ofInt z
def nxA (E : Ev) (G : Hp) : Nat := eB E + G.1.length
def psh (G : Hp) (c : Cl) (n : Nat) : Hp := (G.1 ++ [c], G.2 + n)
/-- n arrays of bytes of length k -/
def pshs (G : Hp) (n k : Nat) : Hp := (G.1 ++ List.replicate n (cA 1 k (fun _ => 0)), G.2 + n * k)
def arit : Nat → Int32 := fun j => [2, 1, 0, 0, 0, 1, 1, 2, 0, 0].getD j 0
def byts : Nat → Int32 := fun j => [97, 98, 99, 100, 83, 70, 71, 72, 120, 121].getD j 0
def oI (o : Nat) (E : Ev) (a : Nat) : Option (Nat × (Nat → Int32)) := if o = 8 then (if a = eb E then some (eL E, ex E) else none) else if a = eA E then some (10, arit) else none
def oB (E : Ev) (a : Nat) : Option (Nat × (Nat → Int32)) := if a = eV E then some (10, byts) else none
def oL (o : Nat) (E : Ev) (a : Nat) : Option Nat := if o = 8 then (if a = eb E then some (eL E) else none) else if a = eA E then some 10 else if a = eV E then some 10 else none
def gS (E : Ev) (o idx : Nat) : Option Value := if o = 6 ∧ idx = 120 then some (.ref (eA E)) else if o = 9 ∧ idx = 38 then some (.int (iv 1)) else if o = 9 ∧ idx = 1053 then some (eF E) else none
def hT (E : Ev) (o idx a : Nat) : Option Value := if o = 9 ∧ idx = 9 ∧ a = eS E then some (.ref (eV E)) else if o = 9 ∧ idx = 15 ∧ a = eS E then some (.int (iv 0)) else none
def kS (E : Ev) (o idx : Nat) : Option Nat := if o = 3 ∧ idx = 90 then some (eS E) else if o = 6 ∧ idx = 253 then some (eS E) else none
def fF (o idx : Nat) : Option (Nat × Nat × Nat) := if idx < 10000 then tF.lookup (o * 10000 + idx) else none
def fM (o idx : Nat) : Option (Nat × Nat × Nat) := if idx < 10000 then tM.lookup (o * 10000 + idx) else none
def fI (o idx : Nat) : Option (Int32 × Nat) := if idx < 10000 then tI.lookup (o * 10000 + idx) else none
def fJ (o idx : Nat) : Option (Int64 × Nat) := if idx < 10000 then tJ.lookup (o * 10000 + idx) else none
def fC (o idx : Nat) : Option (Nat × Nat) := if idx < 10000 then tC.lookup (o * 10000 + idx) else none
/-- a class's fields: type, final; the values of a new object -/
def fTy (ci : Nat) : Nat → FieldType := match ci with
  | 0 => tyX0 | 1 => tyX1 | 2 => tyX2 | 3 => tyX3 | 4 => tyX4 | 5 => tyX5 | 6 => tyX6 | _ => tyX7
def fTb (ci : Nat) : u_T := match ci with
  | 0 => TX0 | 1 => TX1 | 2 => TX2 | 3 => TX3 | 4 => TX4 | 5 => TX5 | 6 => TX6 | _ => TX7
def fSz (ci : Nat) : Nat := match ci with
  | 0 => 3 | 1 => 4 | 2 => 2 | 3 => 3 | 4 => 7 | 5 => 6 | 6 => 11 | _ => 20
def fDf (ci : Nat) : List Value := (List.range (fSz ci)).map (fun k => defaultValue (fTy ci k))
def okV (t : FieldType) (v : Value) : Bool := match t, v with
  | .int, .int _ => true
  | .array _, .ref _ => true
  | .object _, .ref _ => true
  | _, _ => false
def lget (lo : Lo) (i : Nat) : Option Value := match lo[i]? with
  | some (some v) => some v
  | _ => none
def noLong (lo : Lo) (i : Nat) : Bool := match i with
  | 0 => true
  | j + 1 => match lo[j]? with
    | some (some v) => v.category == 1
    | _ => true
def lst1 (lo : Lo) (i : Nat) (v : Value) : Option Lo := if i < lo.length ∧ noLong lo i = true then some (lo.set i (some v)) else none
def lst2 (lo : Lo) (i : Nat) (v : Value) : Option Lo := if i + 1 < lo.length ∧ noLong lo i = true then some ((lo.set i (some v)).set (i + 1) none) else none
def nx (pc : Nat) (lo : Lo) (s : List Value) (G : Hp) : Option Rs := some (.inl (pc, lo, s, G))
def p1i (s : List Value) (f : Int32 → List Value → Option Rs) : Option Rs := match s with
  | .int x :: r => f x r
  | _ => none
def p2i (s : List Value) (f : Int32 → Int32 → List Value → Option Rs) : Option Rs := match s with
  | .int y :: .int x :: r => f x y r
  | _ => none
def p1l (s : List Value) (f : Int64 → List Value → Option Rs) : Option Rs := match s with
  | .long x :: r => f x r
  | _ => none
def p2l (s : List Value) (f : Int64 → Int64 → List Value → Option Rs) : Option Rs := match s with
  | .long y :: .long x :: r => f x y r
  | _ => none
def pli (s : List Value) (f : Int64 → Int32 → List Value → Option Rs) : Option Rs := match s with
  | .int y :: .long x :: r => f x y r
  | _ => none
def p1r (s : List Value) (f : Nat → List Value → Option Rs) : Option Rs := match s with
  | .ref a :: r => f a r
  | _ => none
def pir (s : List Value) (f : Nat → Int32 → List Value → Option Rs) : Option Rs := match s with
  | .int i :: .ref a :: r => f a i r
  | _ => none
def piir (s : List Value) (f : Nat → Int32 → Int32 → List Value → Option Rs) : Option Rs := match s with
  | .int x :: .int i :: .ref a :: r => f a i x r
  | _ => none
def prir (s : List Value) (f : Nat → Int32 → Nat → List Value → Option Rs) : Option Rs := match s with
  | .ref v :: .int i :: .ref a :: r => f a i v r
  | _ => none
def pvr (s : List Value) (f : Nat → Value → List Value → Option Rs) : Option Rs := match s with
  | v :: .ref a :: r => f a v r
  | _ => none
def pcp (s : List Value) (f : Nat → Int32 → Nat → Int32 → Int32 → List Value → Option Rs) : Option Rs := match s with
  | .int n :: .int dp :: .ref a :: .int sp :: .ref a0 :: r => f a0 sp a dp n r
  | _ => none
def gtA (E : Ev) (G : Hp) (a : Nat) (f : Nat → Nat → (Nat → Int32) → Option Rs) (g : Option Rs) : Option Rs := match gt E G a with
  | some (.inl (k, n, h)) => f k n h
  | none => g
  | _ => none
def gtR (E : Ev) (G : Hp) (a : Nat) (f : Nat → Nat → (Nat → Option Nat) → Option Rs) : Option Rs := match gt E G a with
  | some (.inr (.inl (k, n, h))) => f k n h
  | _ => none
def gtO (E : Ev) (G : Hp) (a : Nat) (f : Nat → List Value → Option Rs) (g : Option Rs) : Option Rs := match gt E G a with
  | some (.inr (.inr (c, fs))) => f c fs
  | none => g
  | _ => none
def gd (c : Prop) (d : Decidable c) (r : Option Rs) : Option Rs := @ite _ c d r none
def ov {α : Type} (x : Option α) (f : α → Option Rs) : Option Rs := match x with
  | some v => f v
  | none => none
def bad (i : Int32) (n : Nat) : Prop := i < 0 ∨ n ≤ i.toNatClampNeg
def dbad (i : Int32) (n : Nat) : Decidable (bad i n) := inferInstanceAs (Decidable (i < 0 ∨ n ≤ i.toNatClampNeg))
def kT (k : Nat) : FieldType := match k with
  | 0 => .int | 1 => .byte | _ => .boolean
def jmp (pc : Nat) (off : Int) (lo : Lo) (s : List Value) (G : Hp) : Option Rs := gd (0 ≤ (pc : Int) + off) inferInstance (nx ((pc : Int) + off).toNat lo s G)
def bra (b : Bool) (pc : Nat) (off : Int) (lo : Lo) (s : List Value) (G : Hp) : Option Rs := gd (0 ≤ (pc : Int) + off) inferInstance (match b with
  | true => nx ((pc : Int) + off).toNat lo s G
  | false => nx (pc + 3) lo s G)
def ldv (lo : Lo) (i : Nat) (f : Value → Option Rs) : Option Rs := ov (lget lo i) f
def rcv (E : Ev) (G : Hp) (b o : Nat) : Bool := match gt E G b with
  | some (.inr (.inr (c, _))) => c == o
  | none => b == eS E && o == 9
  | _ => false
def isI (v : Value) : Bool := match v with | .int _ => true | _ => false
def isL (v : Value) : Bool := match v with | .long _ => true | _ => false
def isR (v : Value) : Bool := match v with | .ref _ => true | _ => false
def lenOk (i : Instr) (n : Nat) : Bool := match i with
  | .bipush _ | .iload _ | .istore _ | .aload _ | .astore _ | .lload _ | .lstore _ | .ldc _ | .newarray _ => n == 2
  | .sipush _ | .getfield _ | .putfield _ | .getstatic _ | .ifCond _ _ | .if_icmp _ _ | .goto _ | .invokevirtual _ | .invokespecial _ | .invokestatic _ | .new _ | .anewarray _ | .iinc _ _ | .ldc_w _ | .ldc2_w _ => n == 3
  | .multianewarray _ _ => n == 4
  | .tableswitch _ _ _ _ => true
  | _ => n == 1
def ld (p : Value → Bool) (pc i : Nat) (lo : Lo) (s : List Value) (G : Hp) : Option Rs := ldv lo i fun v => gd (p v = true) inferInstance (nx pc lo (v :: s) G)
def sto1 (p : Value → Bool) (pc i : Nat) (lo : Lo) (s : List Value) (G : Hp) : Option Rs := match s with
  | v :: r => gd (p v = true) inferInstance (ov (lst1 lo i v) fun lo' => nx pc lo' r G)
  | [] => none
def sto2 (pc i : Nat) (lo : Lo) (s : List Value) (G : Hp) : Option Rs := p1l s fun x r => ov (lst2 lo i (.long x)) fun lo' => nx pc lo' r G
def nA (m : Mi) : Nat := m.2.2.2.2.1 + (if m.2.2.2.2.2.2.2 = true then 0 else 1)
def callB (E : Ev) (kind id pc : Nat) (G : Hp) (m : Mi) (a r : List Value) : Option Rs := gd (a.length = nA m ∧ r.length ≤ 4) inferInstance (match kind with
    | 1 => match a with
      | .ref b :: _ => gd (m.2.2.2.2.2.2.2 = false ∧ m.2.2.2.2.2.2.1 = false ∧ rcv E G b m.2.2.2.2.2.1 = true) inferInstance (some (.inr (.inl (id, a, pc + 3, r))))
      | _ => none
    | 2 => match a with
      | .ref _ :: _ => gd (m.2.2.2.2.2.2.2 = false ∧ m.2.2.2.2.2.2.1 = true) inferInstance (some (.inr (.inl (id, a, pc + 3, r))))
      | _ => none
    | _ => gd (m.2.2.2.2.2.2.2 = true) inferInstance (some (.inr (.inl (id, a, pc + 3, r)))))
/-- a call: the arguments off the stack -/
def callA (E : Ev) (kind id pc : Nat) (s : List Value) (G : Hp) : Option Rs := ov tY[id]? fun m => callB E kind id pc G m (s.take (nA m)).reverse (s.drop (nA m))
def imax (x y : Int32) : Int32 := if x < y then y else x
def imin (x y : Int32) : Int32 := if y < x then y else x
def invS (E : Ev) (o idx pc : Nat) (lo : Lo) (s : List Value) (G : Hp) : Option Rs := ov (fM o idx) fun q => match q.1 with
  | 0 => callA E 0 q.2.1 pc s G
  | 5 => callA E 5 q.2.1 pc s G
  | 3 => pcp s fun a0 sp a dp n r => gtA E G a0 (fun k0 n0 f => gtA E G a (fun k n1 g => gd (k0 = k ∧ r.length ≤ 4 ∧ ¬ sp < 0 ∧ ¬ dp < 0 ∧ ¬ n < 0 ∧ sp.toNatClampNeg + n.toNatClampNeg ≤ n0 ∧ dp.toNatClampNeg + n.toNatClampNeg ≤ n1 ∧ ∀ i, i < n.toNatClampNeg → fits (kT k) (.int (f (sp.toNatClampNeg + i))) = true) inferInstance
      (nx (pc + 3) lo r (st E G a (cA k n1 (va_cpy f g sp.toNatClampNeg dp.toNatClampNeg n.toNatClampNeg))))) none) none
  | 6 => p2i s fun x y r => gd (r.length ≤ 4) inferInstance (nx (pc + 3) lo (.int (imax x y) :: r) G)
  | 7 => p2i s fun x y r => gd (r.length ≤ 4) inferInstance (nx (pc + 3) lo (.int (imin x y) :: r) G)
  | _ => none
def invI (E : Ev) (o idx pc : Nat) (lo : Lo) (s : List Value) (G : Hp) : Option Rs := ov (fM o idx) fun q => match q.1 with
  | 2 => callA E 2 q.2.1 pc s G
  | 4 => p1r s fun _ r => gd (r.length ≤ 4) inferInstance (nx (pc + 3) lo r G)
  | _ => none
def invV (E : Ev) (o idx pc : Nat) (s : List Value) (G : Hp) : Option Rs := ov (fM o idx) fun q => match q.1 with
  | 1 => callA E 1 q.2.1 pc s G
  | _ => none
def stpI (E : Ev) (cx : Cx) (i : Instr) (pc : Nat) (lo : Lo) (s : List Value) (G : Hp) : Option Rs := match i with
  | .iconst n => nx (pc + 1) lo (.int (iv n) :: s) G
  | .bipush n => gd ((Int8.ofInt n).toInt32 = iv n) inferInstance (nx (pc + 2) lo (.int (iv n) :: s) G)
  | .sipush n => gd ((Int16.ofInt n).toInt32 = iv n) inferInstance (nx (pc + 3) lo (.int (iv n) :: s) G)
  | .lconst n => nx (pc + 1) lo (.long (Int64.ofNat n) :: s) G
  | .ldc x => match kS E cx.1 x with
    | some a => nx (pc + 2) lo (.ref a :: s) G
    | none => ov (fI cx.1 x) fun q => nx (pc + 2) lo (.int q.1 :: s) G
  | .ldc_w x => ov (fI cx.1 x) fun q => nx (pc + 3) lo (.int q.1 :: s) G
  | .ldc2_w x => ov (fJ cx.1 x) fun q => nx (pc + 3) lo (.long q.1 :: s) G
  | .iload_n k => ld isI (pc + 1) k lo s G
  | .iload k => ld isI (pc + 2) k lo s G
  | .lload_n k => ld isL (pc + 1) k lo s G
  | .lload k => ld isL (pc + 2) k lo s G
  | .aload_n k => ld isR (pc + 1) k lo s G
  | .aload k => ld isR (pc + 2) k lo s G
  | .istore_n k => sto1 isI (pc + 1) k lo s G
  | .istore k => sto1 isI (pc + 2) k lo s G
  | .astore_n k => sto1 isR (pc + 1) k lo s G
  | .astore k => sto1 isR (pc + 2) k lo s G
  | .lstore_n k => sto2 (pc + 1) k lo s G
  | .lstore k => sto2 (pc + 2) k lo s G
  | .iinc k n => ldv lo k fun v => match v with
    | .int x => ov (lst1 lo k (.int (x + iv n))) fun lo' => nx (pc + 3) lo' s G
    | _ => none
  | .iadd => p2i s fun x y r => nx (pc + 1) lo (.int (x + y) :: r) G
  | .isub => p2i s fun x y r => nx (pc + 1) lo (.int (x - y) :: r) G
  | .imul => p2i s fun x y r => nx (pc + 1) lo (.int (x * y) :: r) G
  | .iand => p2i s fun x y r => nx (pc + 1) lo (.int (x &&& y) :: r) G
  | .ior => p2i s fun x y r => nx (pc + 1) lo (.int (x ||| y) :: r) G
  | .ixor => p2i s fun x y r => nx (pc + 1) lo (.int (x ^^^ y) :: r) G
  | .idiv => p2i s fun x y r => gd (¬ y = 0) inferInstance (nx (pc + 1) lo (.int (x / y) :: r) G)
  | .irem => p2i s fun x y r => gd (¬ y = 0) inferInstance (nx (pc + 1) lo (.int (x - x / y * y) :: r) G)
  | .ishl => p2i s fun x y r => nx (pc + 1) lo (.int (x <<< (y &&& 31)) :: r) G
  | .ishr => p2i s fun x y r => nx (pc + 1) lo (.int (x >>> (y &&& 31)) :: r) G
  | .iushr => p2i s fun x y r => nx (pc + 1) lo (.int ((x.toUInt32 >>> (y.toUInt32 &&& Int32.toUInt32 31)).toInt32) :: r) G
  | .ladd => p2l s fun x y r => nx (pc + 1) lo (.long (x + y) :: r) G
  | .lsub => p2l s fun x y r => nx (pc + 1) lo (.long (x - y) :: r) G
  | .lmul => p2l s fun x y r => nx (pc + 1) lo (.long (x * y) :: r) G
  | .land => p2l s fun x y r => nx (pc + 1) lo (.long (x &&& y) :: r) G
  | .lor => p2l s fun x y r => nx (pc + 1) lo (.long (x ||| y) :: r) G
  | .ldiv => p2l s fun x y r => gd (¬ y = 0) inferInstance (nx (pc + 1) lo (.long (x / y) :: r) G)
  | .lrem => p2l s fun x y r => gd (¬ y = 0) inferInstance (nx (pc + 1) lo (.long (x - x / y * y) :: r) G)
  | .lushr => pli s fun x y r => nx (pc + 1) lo (.long ((x.toUInt64 >>> (y.toInt64.toUInt64 &&& Int64.toUInt64 63)).toInt64) :: r) G
  | .lshl => pli s fun x y r => nx (pc + 1) lo (.long (x <<< (y.toInt64 &&& 63)) :: r) G
  | .lcmp => p2l s fun x y r => nx (pc + 1) lo (.int (lg_cmp x y) :: r) G
  | .i2l => p1i s fun x r => nx (pc + 1) lo (.long x.toInt64 :: r) G
  | .l2i => p1l s fun x r => nx (pc + 1) lo (.int x.toInt32 :: r) G
  | .i2b => p1i s fun x r => nx (pc + 1) lo (.int x.toInt8.toInt32 :: r) G
  | .i2c => p1i s fun x r => nx (pc + 1) lo (.int (x.toUInt32 % 65536).toInt32 :: r) G
  | .dup => match s with
    | v :: r => gd (v.category = 1) inferInstance (nx (pc + 1) lo (v :: v :: r) G)
    | [] => none
  | .pop => match s with
    | v :: r => gd (v.category = 1) inferInstance (nx (pc + 1) lo r G)
    | [] => none
  | .goto off => jmp pc off lo s G
  | .ifCond .eq off => p1i s fun x r => bra (decide (x = 0)) pc off lo r G
  | .ifCond .ne off => p1i s fun x r => bra (decide (¬ x = 0)) pc off lo r G
  | .ifCond .lt off => p1i s fun x r => bra (decide (x < 0)) pc off lo r G
  | .ifCond .ge off => p1i s fun x r => bra (decide (0 ≤ x)) pc off lo r G
  | .ifCond .gt off => p1i s fun x r => bra (decide (0 < x)) pc off lo r G
  | .ifCond .le off => p1i s fun x r => bra (decide (x ≤ 0)) pc off lo r G
  | .if_icmp .eq off => p2i s fun x y r => bra (decide (x = y)) pc off lo r G
  | .if_icmp .ne off => p2i s fun x y r => bra (decide (¬ x = y)) pc off lo r G
  | .if_icmp .lt off => p2i s fun x y r => bra (decide (x < y)) pc off lo r G
  | .if_icmp .ge off => p2i s fun x y r => bra (decide (y ≤ x)) pc off lo r G
  | .if_icmp .gt off => p2i s fun x y r => bra (decide (y < x)) pc off lo r G
  | .if_icmp .le off => p2i s fun x y r => bra (decide (x ≤ y)) pc off lo r G
  | .tableswitch dflt l h offs => p1i s fun x r => if x.toInt < l ∨ h < x.toInt then jmp pc dflt lo r G else ov offs[(x.toInt - l).toNat]? fun off => jmp pc off lo r G
  | .getfield x => p1r s fun a r => match fF cx.1 x with
    | some q => gtO E G a (fun c fs => gd (c = q.1) inferInstance (ov fs[q.2.1]? fun v => nx (pc + 3) lo (v :: r) G)) none
    | none => gtO E G a (fun _ _ => none) (ov (hT E cx.1 x a) fun v => nx (pc + 3) lo (v :: r) G)
  | .putfield x => pvr s fun a v r => ov (fF cx.1 x) fun q => gtO E G a (fun c fs => gd (c = q.1 ∧ q.2.1 < fs.length ∧ okV (fTy q.1 q.2.1) v = true ∧ ((fTb q.1 q.2.1).2.2.2 = true → cx.2.2.1 = true ∧ cx.1 = q.1)) inferInstance (nx (pc + 3) lo r (st E G a (cO c (fs.set q.2.1 v))))) none
  | .getstatic x => ov (gS E cx.1 x) fun v => nx (pc + 3) lo (v :: s) G
  | .iaload => pir s fun a i r => gtA E G a (fun k n f => gd (k = 0 ∧ ¬ bad i n) (@instDecidableAnd _ _ _ (@instDecidableNot _ (dbad i n))) (nx (pc + 1) lo (.int (f i.toNatClampNeg) :: r) G)) (ov (oI cx.1 E a) fun q => gd (¬ bad i q.1) (@instDecidableNot _ (dbad i q.1)) (nx (pc + 1) lo (.int (q.2 i.toNatClampNeg) :: r) G))
  | .baload => pir s fun a i r => gtA E G a (fun k n f => gd ((k = 1 ∨ k = 2) ∧ ¬ bad i n) (@instDecidableAnd _ _ _ (@instDecidableNot _ (dbad i n))) (nx (pc + 1) lo (.int (f i.toNatClampNeg) :: r) G)) (ov (oB E a) fun q => gd (¬ bad i q.1) (@instDecidableNot _ (dbad i q.1)) (nx (pc + 1) lo (.int (q.2 i.toNatClampNeg) :: r) G))
  | .aaload => pir s fun a i r => gtR E G a fun k n f => gd (k ≤ 2 ∧ ¬ bad i n) (@instDecidableAnd _ _ _ (@instDecidableNot _ (dbad i n))) (ov (f i.toNatClampNeg) fun v => nx (pc + 1) lo (.ref v :: r) G)
  | .iastore => piir s fun a i x r => gtA E G a (fun k n f => gd (k = 0 ∧ ¬ bad i n) (@instDecidableAnd _ _ _ (@instDecidableNot _ (dbad i n))) (nx (pc + 1) lo r (st E G a (cA 0 n (upd f i.toNatClampNeg x))))) none
  | .bastore => piir s fun a i x r => gtA E G a (fun k n f => gd ((k = 1 ∨ k = 2) ∧ ¬ bad i n) (@instDecidableAnd _ _ _ (@instDecidableNot _ (dbad i n))) (nx (pc + 1) lo r (st E G a (cA k n (upd f i.toNatClampNeg (vp_nar (kT k) x)))))) none
  | .aastore => prir s fun a i v r => gtR E G a fun k n f => gd (k ≤ 1 ∧ ¬ bad i n) (@instDecidableAnd _ _ _ (@instDecidableNot _ (dbad i n))) (gtO E G v (fun c _ => gd (c = k + 1) inferInstance (nx (pc + 1) lo r (st E G a (cR k n (va_up f i.toNatClampNeg (some v)))))) none)
  | .arraylength => p1r s fun a r => match gt E G a with
    | some (.inl (_, n, _)) => nx (pc + 1) lo (.int (Int32.ofNat n) :: r) G
    | some (.inr (.inl (k, n, _))) => gd (k ≤ 2) inferInstance (nx (pc + 1) lo (.int (Int32.ofNat n) :: r) G)
    | some (.inr (.inr _)) => none
    | none => ov (oL cx.1 E a) fun n => nx (pc + 1) lo (.int (Int32.ofNat n) :: r) G
  | .newarray t => p1i s fun n r => gd (¬ n < 0 ∧ n.toNatClampNeg ≤ 100000) inferInstance (match t with
    | .int => nx (pc + 2) lo (.ref (nxA E G) :: r) (psh G (cA 0 n.toNatClampNeg (fun _ => 0)) n.toNatClampNeg)
    | .byte => nx (pc + 2) lo (.ref (nxA E G) :: r) (psh G (cA 1 n.toNatClampNeg (fun _ => 0)) n.toNatClampNeg)
    | .boolean => nx (pc + 2) lo (.ref (nxA E G) :: r) (psh G (cA 2 n.toNatClampNeg (fun _ => 0)) n.toNatClampNeg)
    | _ => none)
  | .anewarray x => p1i s fun n r => ov (fC cx.1 x) fun q => gd ((q.1 = 1 ∨ q.1 = 2) ∧ ¬ n < 0 ∧ n.toNatClampNeg ≤ 100000) inferInstance (nx (pc + 3) lo (.ref (nxA E G) :: r) (psh G (cR (q.1 - 1) n.toNatClampNeg (fun _ => none)) n.toNatClampNeg))
  | .multianewarray x 2 => p2i s fun n k r => gd (cx.1 = 5 ∧ x = 15 ∧ ¬ n < 0 ∧ ¬ k < 0 ∧ n.toNatClampNeg ≤ 1000 ∧ k.toNatClampNeg ≤ 1000) inferInstance
      (nx (pc + 4) lo (.ref (nxA E G) :: r) (pshs (psh G (cR 2 n.toNatClampNeg (fun i => if i < n.toNatClampNeg then some (nxA E G + 1 + i) else none)) n.toNatClampNeg) n.toNatClampNeg k.toNatClampNeg))
  | .new x => ov (fC cx.1 x) fun q => gd (q.1 < 8) inferInstance (nx (pc + 3) lo (.ref (nxA E G) :: s) (psh G (cO q.1 (fDf q.1)) (fSz q.1)))
  | .invokestatic x => invS E cx.1 x pc lo s G
  | .invokespecial x => invI E cx.1 x pc lo s G
  | .invokevirtual x => invV E cx.1 x pc s G
  | .ireturn => match s with
    | [.int v] => match cx.2.2.2 with
      | some t => gd (narrow t (.int v) = .int v) inferInstance (some (.inr (.inr (some (.int v)))))
      | none => none
    | _ => none
  | .lreturn => match s with
    | [.long v] => gd (cx.2.2.2 = some .long) inferInstance (some (.inr (.inr (some (.long v)))))
    | _ => none
  | .areturn => match s with
    | [.ref v] => match cx.2.2.2 with
      | some (.object _) => some (.inr (.inr (some (.ref v))))
      | some (.array _) => some (.inr (.inr (some (.ref v))))
      | _ => none
    | _ => none
  | .return_ => match s with
    | [] => gd (cx.2.2.2 = none) inferInstance (some (.inr (.inr none)))
    | _ => none
  | _ => none
def stp (E : Ev) (cx : Cx) (pc : Nat) (lo : Lo) (s : List Value) (G : Hp) : Option Rs := match decode cx.2.1 pc with
  | .ok (i, n) => gd (lenOk i n = true) inferInstance (stpI E cx i pc lo s G)
  | .error _ => none
def X (call : Nat → List Value → Hp → Po → Prop) (E : Ev) (cx : Cx) : Nat → Nat → Lo → List Value → Hp → Po → Prop
  | 0, _, _, _, _, _ => False
  | k + 1, pc, lo, s, G, Q => match stp E cx pc lo s G with
    | some (.inl r) => X call E cx k r.1 r.2.1 r.2.2.1 r.2.2.2 Q
    | some (.inr (.inl r)) => call r.1 r.2.1 G (fun v G' => X call E cx k r.2.2.1 lo (v.toList ++ r.2.2.2) G' Q)
    | some (.inr (.inr v)) => Q v G
    | none => False
def ent : List Value → Nat → Lo
  | [], n => List.replicate n none
  | v :: vs, n => if v.category = 2 then some v :: none :: ent vs (n - 2) else some v :: ent vs (n - 1)
def entS : List Value → Nat
  | [] => 0
  | v :: vs => v.category + entS vs
def cxM (m : Mi) : Cx := (m.2.2.2.2.2.1, m.2.1, m.2.2.2.2.2.2.1, m.2.2.2.1)
def runs (E : Ev) : Nat → Nat → List Value → Hp → Po → Prop
  | 0, _, _, _, _ => False
  | d + 1, id, a, G, Q => match tY[id]? with
    | some m => entS a ≤ m.2.2.1 ∧ ∃ k, X (runs E d) E (cxM m) k 0 (ent a m.2.2.1) [] G Q
    | none => False
def Xr (E : Ev) (d : Nat) (cx : Cx) (pc : Nat) (lo : Lo) (s : List Value) (G : Hp) (Q : Po) : Prop := ∃ k, X (runs E d) E cx k pc lo s G Q
