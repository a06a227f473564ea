/-! THE ABSTRACT MACHINE. A heap is a list of cells; a reference is a place in it. A cell: may it be written, and what it is: an array (its components' type, its length and contents) or an object (number of its class, its fields). -/
abbrev aCl : List vw_C := [(RX0, TX0, 3), (RX1, TX1, 5), (RX2, TX2, 3), (RX3, TX3, 3), (RX4, TX4, 6), (RX5, TX5, 8), (RX6, TX6, 8), (RX7, TX7, 8)]
def aTy (ci : Nat) : Nat → FieldType := match ci with
  | 0 => tyX0
  | 1 => tyX1
  | 2 => tyX2
  | 3 => tyX3
  | 4 => tyX4
  | 5 => tyX5
  | 6 => tyX6
  | _ => tyX7
def aNf (ci : Nat) : Nat := match ci with
  | 0 => 3
  | 1 => 5
  | 2 => 3
  | 3 => 3
  | 4 => 6
  | 5 => 8
  | 6 => 8
  | _ => 8
abbrev aE : Type := (FieldType × vp_A) ⊕ (Nat × List Value)
abbrev aC : Type := Bool × aE
abbrev aH : Type := List aC
/-- an instruction, and what its places in the tables say: two numbers and an int -/
abbrev aI : Type := Instr × Nat × Nat × Int32
/-- counts: cells and slots made so far -/
abbrev aK : Type := Nat × Nat
/-- pc, locals, stack, heap, counts -/
abbrev aS : Type := Nat × List (Option Value) × List Value × aH × aK
/-- an answer (none: void) or an exception's number; heap; counts -/
abbrev aR : Type := (Option Value ⊕ Nat) × aH × aK
abbrev aF : Type := Nat → List Value → aH → Option aR
/-- handlers: from, to, where, which exception -/
abbrev aD : Type := List (Nat × Nat × Nat × Nat)
def aIx (i : Int32) (n : Nat) : Option Nat := if i < 0 ∨ n ≤ i.toNatClampNeg then none else some i.toNatClampNeg
/-- the arrays' component types that there are -/
def aTk (ty : FieldType) : Bool := match ty with
  | .int => true
  | .char => true
  | .long => true
  | .object n => n == RX6
  | .array .int => true
  | _ => false
def aGo (pc : Nat) (ls : List (Option Value)) (st : List Value) (h : aH) (k : aK) : Option (aS ⊕ aR) := some (.inl (pc, ls, st, h, k))
def aP1 (st : List Value) (f : Int32 → List Value → Option (aS ⊕ aR)) : Option (aS ⊕ aR) := match st with
  | .int x :: r => f x r
  | _ => none
def aP2 (st : List Value) (f : Int32 → Int32 → List Value → Option (aS ⊕ aR)) : Option (aS ⊕ aR) := match st with
  | .int y :: .int x :: r => f x y r
  | _ => none
def aPr (st : List Value) (f : Nat → List Value → Option (aS ⊕ aR)) : Option (aS ⊕ aR) := match st with
  | .ref q :: r => f q r
  | _ => none
/-- an index over an array -/
def aPir (st : List Value) (f : Int32 → Nat → List Value → Option (aS ⊕ aR)) : Option (aS ⊕ aR) := match st with
  | .int i :: .ref q :: r => f i q r
  | _ => none
def aPvir (st : List Value) (f : Value → Int32 → Nat → List Value → Option (aS ⊕ aR)) : Option (aS ⊕ aR) := match st with
  | x :: .int i :: .ref q :: r => f x i q r
  | _ => none
def aOb (h : aH) (q : Nat) (f : Bool → Nat → List Value → Option (aS ⊕ aR)) : Option (aS ⊕ aR) := match h[q]? with
  | some (w, .inr (ci, fs)) => f w ci fs
  | _ => none
def aAr (h : aH) (q : Nat) (f : Bool → FieldType → vp_A → Option (aS ⊕ aR)) : Option (aS ⊕ aR) := match h[q]? with
  | some (w, .inl (ty, x)) => f w ty x
  | _ => none
def aAt (i : Int32) (n : Nat) (f : Nat → Option (aS ⊕ aR)) : Option (aS ⊕ aR) := match aIx i n with
  | some j => f j
  | none => none
/-- does a value suit a field or an answer of that type -/
def aFit (ty : FieldType) (x : Value) : Bool := match ty, x with
  | .int, .int _ => true
  | .boolean, .int z => z == 0 || z == 1
  | .char, .int z => (z.toUInt32 % 65536).toInt32 == z
  | .float, .float _ => true
  | .double, .double _ => true
  | .object _, .ref _ => true
  | .array _, .ref _ => true
  | _, _ => false
/-- may a value of one slot be stored at place i: the place is there, and no long or double stands before it -/
def aMay (ls : List (Option Value)) (i : Nat) : Bool := decide (i < ls.length) && (match i with
  | 0 => true
  | j + 1 => match ls[j]? with
    | some (some x) => x.category == 1
    | _ => true)
def aSum (st : List Value) : Nat := (st.map fun x => x.category).sum
def aCond (c : ClassFile.Cond) (x y : Int32) : Bool := match c with
  | .eq => decide (x = y)
  | .ne => decide (x ≠ y)
  | .lt => decide (x < y)
  | .ge => decide (y ≤ x)
  | .gt => decide (y < x)
  | .le => decide (x ≤ y)
def aHd : aD → Nat → Nat → Option Nat
  | [], _, _ => none
  | (f, t, w, e) :: r, pc, x => if f ≤ pc ∧ pc < t ∧ e = x then some w else aHd r pc x
/-- behind a call -/
def aBack (nt : Bool) (hd : aD) (cd : List aI) (pc : Nat) (ls : List (Option Value)) (rest : List Value) (k : aK) (r : Option aR) : Option (aS ⊕ aR) := match r with
  | none => none
  | some (.inl v, h, d) => aGo (pc + 3) ls (v.toList ++ rest) h (k.1 + d.1, k.2 + d.2)
  | some (.inr e, h, d) => if nt = true then none else match aHd hd pc e with
    | none => if hd = [] then some (.inr (.inr e, h, (k.1 + d.1, k.2 + d.2))) else none
    | some t => match cd[t]? with
      | some (.astore_n n, _) => if aMay ls n.val then aGo (t + 1) (ls.set n.val none) [] h (k.1 + d.1, k.2 + d.2) else none
      | some (.astore n, _) => if aMay ls n then aGo (t + 2) (ls.set n none) [] h (k.1 + d.1, k.2 + d.2) else none
      | _ => none
/-- Math.max, min, System.arraycopy -/
def aNat (a : Nat) (pc : Nat) (ls : List (Option Value)) (st : List Value) (h : aH) (k : aK) : Option (aS ⊕ aR) := match a with
  | 500 => aP2 st fun x y r => if aSum r ≤ 8 then aGo (pc + 3) ls (.int (if x < y then y else x) :: r) h k else none
  | 501 => aP2 st fun x y r => if aSum r ≤ 8 then aGo (pc + 3) ls (.int (if y < x then y else x) :: r) h k else none
  | 502 => match st with
    | .int n :: .int dp :: .ref d :: .int sp :: .ref q :: r =>
      if n < 0 ∨ dp < 0 ∨ sp < 0 ∨ 8 < aSum r then none else
      aAr h q fun w0 ty0 x0 => aAr h d fun w1 ty1 x1 => match x0.2, x1.2 with
        | .inl f, .inl g => if w0 = true ∧ w1 = true ∧ ty0 = .int ∧ ty1 = .int ∧ sp.toNatClampNeg + n.toNatClampNeg ≤ x0.1 ∧ dp.toNatClampNeg + n.toNatClampNeg ≤ x1.1 then
            aGo (pc + 3) ls r (h.set d (true, .inl (.int, x1.1, .inl (va_cpy f g sp.toNatClampNeg dp.toNatClampNeg n.toNatClampNeg)))) k else none
        | _, _ => none
    | _ => none
  | _ => none
/-- a call: of the program's own method a with b arguments (this counted) -/
def aCall (nt : Bool) (call : aF) (hd : aD) (cd : List aI) (a b : Nat) (pc : Nat) (ls : List (Option Value)) (st : List Value) (h : aH) (k : aK) : Option (aS ⊕ aR) :=
  if b ≤ st.length ∧ aSum (st.drop b) ≤ 8 ∧ ((st.take b).all fun x => x.category == 1) = true then aBack nt hd cd pc ls (st.drop b) k (call a (st.take b).reverse h) else none
/-- the object that a call is made on: the last of its arguments on the stack -/
def aRecv (cls : Nat → Nat) (a b : Nat) (st : List Value) (h : aH) : Bool := match st[b - 1]? with
  | some (.ref q) => match h[q]? with
    | some (true, .inr (ci, _)) => ci == cls a && decide (1 ≤ b)
    | _ => false
  | _ => false
/-- texts: 90 "gsfiox", 91 to 95 the parts of a text, from 100 on whole texts, by their three digits -/
def aStr (ci : Nat) : List Int32 := if ci = 90 then [103, 115, 102, 105, 111, 120] else if ci = 91 then [116] else if ci = 92 then [42, 50, 59, 101] else if ci = 93 then [59, 102, 49, 50] else if ci = 94 then [48] else if ci < 100 then [] else
  [116, Int32.ofNat (48 + (ci - 100) / 55), 42, 50, 59, 101, Int32.ofNat (48 + (ci - 100) / 11 % 5)] ++ (if (ci - 100) % 11 = 0 then [] else [59, 102, 49, 50, Int32.ofNat (47 + (ci - 100) % 11), 48])
/-- charAt and length of those -/
def aText (a : Nat) (pc : Nat) (ls : List (Option Value)) (st : List Value) (h : aH) (k : aK) : Option (aS ⊕ aR) := match a with
  | 503 => aPir st fun i q r => if aSum r ≤ 8 then aOb h q fun _ ci _ => if 90 ≤ ci ∧ ci < 400 then aAt i (aStr ci).length fun j => aGo (pc + 3) ls (.int ((aStr ci).getD j 0) :: r) h k else none else none
  | 505 => aPr st fun q r => if aSum r ≤ 8 then aOb h q fun _ ci _ => if 90 ≤ ci ∧ ci < 400 then aGo (pc + 3) ls (.int (Int32.ofNat (aStr ci).length) :: r) h k else none else none
  | _ => none
/-- one step -/
def aEx (call : aF) (cls : Nat → Nat) (hd : aD) (cd : List aI) (rt : Option FieldType) (al : Bool) (i : Instr) (a b : Nat) (v : Int32) (pc : Nat) (ls : List (Option Value)) (st : List Value) (h : aH) (k : aK) : Option (aS ⊕ aR) := match i with
  | .iconst _ => aGo (pc + 1) ls (.int v :: st) h k
  | .bipush _ => aGo (pc + 2) ls (.int v :: st) h k
  | .sipush _ => aGo (pc + 3) ls (.int v :: st) h k
  | .ldc _ => if b = 1 then aGo (pc + 2) ls (.int v :: st) h k else match h[a]? with
    | some (_, .inr (ci, _)) => if ci = b then aGo (pc + 2) ls (.ref a :: st) h k else none
    | _ => none
  | .ldc2_w _ => aGo (pc + 3) ls (.long v.toInt64 :: st) h k
  | .lload_n n => match ls[n.val]? with
    | some (some (.long x)) => aGo (pc + 1) ls (.long x :: st) h k
    | _ => none
  | .lstore_n n => match st with
    | .long x :: r => if aMay ls n.val ∧ n.val + 1 < ls.length then aGo (pc + 1) ((ls.set n.val (some (.long x))).set (n.val + 1) none) r h k else none
    | _ => none
  | .ladd => match st with
    | .long y :: .long x :: r => aGo (pc + 1) ls (.long (x + y) :: r) h k
    | _ => none
  | .lmul => match st with
    | .long y :: .long x :: r => aGo (pc + 1) ls (.long (x * y) :: r) h k
    | _ => none
  | .iushr => aP2 st fun x y r => aGo (pc + 1) ls (.int (x.toUInt32 >>> (y.toUInt32 &&& Int32.toUInt32 31)).toInt32 :: r) h k
  | .ifnull _ => aPr st fun _ r => aGo (pc + 3) ls r h k
  | .iload_n n => match ls[n.val]? with
    | some (some (.int x)) => aGo (pc + 1) ls (.int x :: st) h k
    | _ => none
  | .iload n => match ls[n]? with
    | some (some (.int x)) => aGo (pc + 2) ls (.int x :: st) h k
    | _ => none
  | .aload_n n => match ls[n.val]? with
    | some (some (.ref x)) => aGo (pc + 1) ls (.ref x :: st) h k
    | _ => none
  | .aload n => match ls[n]? with
    | some (some (.ref x)) => aGo (pc + 2) ls (.ref x :: st) h k
    | _ => none
  | .fload n => match ls[n]? with
    | some (some (.float x)) => aGo (pc + 2) ls (.float x :: st) h k
    | _ => none
  | .dload n => match ls[n]? with
    | some (some (.double x)) => aGo (pc + 2) ls (.double x :: st) h k
    | _ => none
  | .istore_n n => aP1 st fun x r => if aMay ls n.val then aGo (pc + 1) (ls.set n.val (some (.int x))) r h k else none
  | .istore n => aP1 st fun x r => if aMay ls n then aGo (pc + 2) (ls.set n (some (.int x))) r h k else none
  | .astore_n n => aPr st fun x r => if aMay ls n.val then aGo (pc + 1) (ls.set n.val (some (.ref x))) r h k else none
  | .astore n => aPr st fun x r => if aMay ls n then aGo (pc + 2) (ls.set n (some (.ref x))) r h k else none
  | .fstore n => match st with
    | .float x :: r => if aMay ls n then aGo (pc + 2) (ls.set n (some (.float x))) r h k else none
    | _ => none
  | .dstore n => match st with
    | .double x :: r => if aMay ls n ∧ n + 1 < ls.length then aGo (pc + 2) ((ls.set n (some (.double x))).set (n + 1) none) r h k else none
    | _ => none
  | .iinc n _ => match ls[n]? with
    | some (some (.int x)) => if aMay ls n then aGo (pc + 3) (ls.set n (some (.int (x + v)))) st h k else none
    | _ => none
  | .iadd => aP2 st fun x y r => aGo (pc + 1) ls (.int (x + y) :: r) h k
  | .isub => aP2 st fun x y r => aGo (pc + 1) ls (.int (x - y) :: r) h k
  | .imul => aP2 st fun x y r => aGo (pc + 1) ls (.int (x * y) :: r) h k
  | .iand => aP2 st fun x y r => aGo (pc + 1) ls (.int (x &&& y) :: r) h k
  | .idiv => aP2 st fun x y r => if y = 0 then none else aGo (pc + 1) ls (.int (x / y) :: r) h k
  | .irem => aP2 st fun x y r => if y = 0 then none else aGo (pc + 1) ls (.int (x - x / y * y) :: r) h k
  | .i2l => aP1 st fun x r => aGo (pc + 1) ls (.long x.toInt64 :: r) h k
  | .i2c => aP1 st fun x r => aGo (pc + 1) ls (.int (x.toUInt32 % 65536).toInt32 :: r) h k
  | .i2f => aP1 st fun x r => aGo (pc + 1) ls (.float (FP.i2f x) :: r) h k
  | .i2d => aP1 st fun x r => aGo (pc + 1) ls (.double (FP.i2d x) :: r) h k
  | .f2d => match st with
    | .float x :: r => if FP.f2d x &&& 0x7fffffffffffffff ≤ 0x7ff0000000000000 then aGo (pc + 1) ls (.double (FP.f2d x) :: r) h k else none
    | _ => none
  | .fdiv => match st with
    | .float y :: .float x :: r => if FP.fdiv x y &&& 0x7fffffff ≤ 0x7f800000 then aGo (pc + 1) ls (.float (FP.fdiv x y) :: r) h k else none
    | _ => none
  | .ddiv => match st with
    | .double y :: .double x :: r => if FP.ddiv x y &&& 0x7fffffffffffffff ≤ 0x7ff0000000000000 then aGo (pc + 1) ls (.double (FP.ddiv x y) :: r) h k else none
    | _ => none
  | .fconst n => if n = 0 then aGo (pc + 1) ls (.float FP.fconst0 :: st) h k else none
  | .dconst n => if n = 0 then aGo (pc + 1) ls (.double FP.dconst0 :: st) h k else none
  | .lcmp => match st with
    | .long y :: .long x :: r => aGo (pc + 1) ls (.int (lg_cmp x y) :: r) h k
    | _ => none
  | .fcmp op => match st with
    | .float y :: .float x :: r => aGo (pc + 1) ls (.int (Op.cmpValue (FP.fcmp x y) op) :: r) h k
    | _ => none
  | .dcmp op => match st with
    | .double y :: .double x :: r => aGo (pc + 1) ls (.int (Op.cmpValue (FP.dcmp x y) op) :: r) h k
    | _ => none
  | .dup => match st with
    | x :: r => if x.category = 1 then aGo (pc + 1) ls (x :: x :: r) h k else none
    | _ => none
  | .dup2 => match st with
    | x :: y :: r => if x.category = 1 ∧ y.category = 1 then aGo (pc + 1) ls (x :: y :: x :: y :: r) h k else none
    | _ => none
  | .ifCond c _ => aP1 st fun x r => aGo (if aCond c x 0 = true then a else pc + 3) ls r h k
  | .if_icmp c _ => aP2 st fun x y r => aGo (if aCond c x y = true then a else pc + 3) ls r h k
  | .goto _ => aGo a ls st h k
  | .tableswitch dflt lo hi offs => aP1 st fun x r => if x.toInt < lo ∨ hi < x.toInt then aGo a ls r h k else match offs[(x.toInt - lo).toNat]? with
    | some o => if 0 ≤ (pc : Int) + o then aGo ((pc : Int) + o).toNat ls r h k else none
    | none => none
  | .lookupswitch dflt ps => aP1 st fun x r => if 0 ≤ (pc : Int) + Op.lookupswitch.offset ps.toList dflt x.toInt then aGo ((pc : Int) + Op.lookupswitch.offset ps.toList dflt x.toInt).toNat ls r h k else none
  | .getfield _ => aPr st fun q r => aOb h q fun w ci fs => if w = true ∧ ci = a then match fs[b]? with
    | some x => aGo (pc + 3) ls (x :: r) h k
    | none => none else none
  | .putfield _ => match st with
    | x :: .ref q :: r => aOb h q fun w ci fs => if w = true ∧ ci = a ∧ b < fs.length ∧ aFit (aTy a b) x = true then aGo (pc + 3) ls r (h.set q (true, .inr (ci, fs.set b x))) k else none
    | _ => none
  | .getstatic _ => aGo (pc + 3) ls (.ref a :: st) h k
  | .iaload => aPir st fun i q r => aAr h q fun _ ty x => match ty, x.2 with
    | .int, .inl f => aAt i x.1 fun j => aGo (pc + 1) ls (.int (f j) :: r) h k
    | _, _ => none
  | .caload => aPir st fun i q r => aAr h q fun _ ty x => match ty, x.2 with
    | .char, .inl f => aAt i x.1 fun j => aGo (pc + 1) ls (.int (f j) :: r) h k
    | _, _ => none
  | .laload => aPir st fun i q r => aAr h q fun _ ty x => match ty, x.2 with
    | .long, .inr (.inl f) => aAt i x.1 fun j => aGo (pc + 1) ls (.long (f j) :: r) h k
    | _, _ => none
  | .aaload => aPir st fun i q r => aAr h q fun w ty x => match x.2 with
    | .inr (.inr (.inr (.inr f))) => if w = true ∧ ty.isReference = true ∧ aTk ty = true then aAt i x.1 fun j => match f j with
      | some y => aGo (pc + 1) ls (.ref y :: r) h k
      | none => none else none
    | _ => none
  | .iastore => aPvir st fun x i q r => aAr h q fun w ty z => match x, ty, z.2 with
    | .int x, .int, .inl f => if w = true then aAt i z.1 fun j => aGo (pc + 1) ls r (h.set q (true, .inl (.int, z.1, .inl (upd f j x)))) k else none
    | _, _, _ => none
  | .castore => aPvir st fun x i q r => aAr h q fun w ty z => match x, ty, z.2 with
    | .int x, .char, .inl f => if w = true ∧ (x.toUInt32 % 65536).toInt32 = x then aAt i z.1 fun j => aGo (pc + 1) ls r (h.set q (true, .inl (.char, z.1, .inl (upd f j x)))) k else none
    | _, _, _ => none
  | .lastore => aPvir st fun x i q r => aAr h q fun w ty z => match x, ty, z.2 with
    | .long x, .long, .inr (.inl f) => if w = true then aAt i z.1 fun j => aGo (pc + 1) ls r (h.set q (true, .inl (.long, z.1, .inr (.inl (vp_updL f j x))))) k else none
    | _, _, _ => none
  | .aastore => aPvir st fun x i q r => aAr h q fun w ty z => match x, z.2 with
    | .ref y, .inr (.inr (.inr (.inr f))) => aOb h y fun w1 ci _ => if w = true ∧ w1 = true ∧ ci = 6 ∧ ty = .object RX6 then aAt i z.1 fun j => aGo (pc + 1) ls r (h.set q (true, .inl (.object RX6, z.1, .inr (.inr (.inr (.inr (va_up f j (some y)))))))) k else none
    | _, _ => none
  | .arraylength => aPr st fun q r => aAr h q fun _ ty x => if aTk ty = true then aGo (pc + 1) ls (.int (Int32.ofNat x.1) :: r) h k else none
  | .newarray t => aP1 st fun n r => if al = true ∧ 0 ≤ n ∧ n.toNatClampNeg ≤ 100000 then match t with
    | .int => aGo (pc + 2) ls (.ref h.length :: r) (h ++ [(true, .inl (.int, n.toNatClampNeg, .inl fun _ => 0))]) (k.1 + 1, k.2 + n.toNatClampNeg)
    | .char => aGo (pc + 2) ls (.ref h.length :: r) (h ++ [(true, .inl (.char, n.toNatClampNeg, .inl fun _ => 0))]) (k.1 + 1, k.2 + n.toNatClampNeg)
    | .long => aGo (pc + 2) ls (.ref h.length :: r) (h ++ [(true, .inl (.long, n.toNatClampNeg, .inr (.inl fun _ => 0)))]) (k.1 + 1, k.2 + n.toNatClampNeg)
    | _ => none else none
  | .anewarray _ => aP1 st fun n r => if al = true ∧ 0 ≤ n ∧ n.toNatClampNeg ≤ 100000 then aGo (pc + 3) ls (.ref h.length :: r) (h ++ [(true, .inl (.object RX6, n.toNatClampNeg, .inr (.inr (.inr (.inr fun _ => none)))))]) (k.1 + 1, k.2 + n.toNatClampNeg) else none
  | .multianewarray _ _ => match st with
    | .int y :: .int x :: r => if al = true ∧ x = 3 ∧ y = 20 then aGo (pc + 4) ls (.ref h.length :: r) (h ++ [(true, .inl (.array .int, 3, .inr (.inr (.inr (.inr fun i => if i < 3 then some (h.length + 1 + i) else none))))), (true, .inl (.int, 20, .inl fun _ => 0)), (true, .inl (.int, 20, .inl fun _ => 0)), (true, .inl (.int, 20, .inl fun _ => 0))]) (k.1 + 4, k.2 + 63) else none
    | _ => none
  | .new _ => if a = 999 then none else if 100 ≤ a then (if al = false ∧ hd = [] ∧ aSum st ≤ 8 then some (.inr (.inr (a - 100), h, (k.1 + 1, k.2 + 6))) else none) else
    if al = true then aGo (pc + 3) ls (.ref h.length :: st) (h ++ [(true, .inr (a, (List.range (aNf a)).map fun j => defaultValue (aTy a j)))]) (k.1 + 1, k.2 + aNf a) else none
  | .invokevirtual _ => if 500 ≤ a then aText a pc ls st h k else if aRecv cls a b st h = true then aCall (v == 1) call hd cd a b pc ls st h k else none
  | .invokestatic _ => if 500 ≤ a then aNat a pc ls st h k else aCall (v == 1) call hd cd a b pc ls st h k
  | .invokespecial _ => if a = 600 then aPr st fun _ r => if aSum r ≤ 8 then aGo (pc + 3) ls r h k else none else if aRecv cls a b st h = true then aCall (v == 1) call hd cd a b pc ls st h k else none
  | .ireturn => match st with
    | [.int x] => match rt with
      | some ty => if aFit ty (.int x) = true then some (.inr (.inl (some (.int x)), h, k)) else none
      | none => none
    | _ => none
  | .freturn => match st with
    | [.float x] => if rt = some .float then some (.inr (.inl (some (.float x)), h, k)) else none
    | _ => none
  | .dreturn => match st with
    | [.double x] => if rt = some .double then some (.inr (.inl (some (.double x)), h, k)) else none
    | _ => none
  | .lreturn => match st with
    | [.long x] => if rt = some .long then some (.inr (.inl (some (.long x)), h, k)) else none
    | _ => none
  | .areturn => match st with
    | [.ref x] => if rt = some (.object RX6) ∨ rt = some (.object RX7) then some (.inr (.inl (some (.ref x)), h, k)) else none
    | _ => none
  | .return_ => match st with
    | [] => if rt = none then some (.inr (.inl none, h, k)) else none
    | _ => none
  | _ => none
def aStep (call : aF) (cls : Nat → Nat) (hd : aD) (cd : List aI) (rt : Option FieldType) (al : Bool) (s : aS) : Option (aS ⊕ aR) := match cd[s.1]? with
  | none => none
  | some (i, a, b, v) => aEx call cls hd cd rt al i a b v s.1 s.2.1 s.2.2.1 s.2.2.2.1 s.2.2.2.2
/-- n steps, or until an end -/
def aIt (f : aS → Option (aS ⊕ aR)) : Nat → aS → Option (aS ⊕ aR)
  | 0, s => some (.inl s)
  | n + 1, s => match f s with
    | some (.inl t) => aIt f n t
    | x => x
