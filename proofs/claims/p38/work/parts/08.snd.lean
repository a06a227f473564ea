/-! SOUNDNESS, STEP BY STEP -/
/-- from that abstract state the machine comes to Q -/
def aSim (p : Program) (l : Launch) (e : Env) (R : Room) (s : State) (m : MethodId) (args : Array Value) (below : List Frame) (meth : Method) (c : Code) (Q : State → Prop) (D : va_G) (ka : FieldType → ClassId) (sg : Nat → Nat) (A : Nat → Prop) (nL : Nat) (al : Bool) (t : aS) : Prop :=
  ∀ (H : Heap) (locs : List Loc) (L : Array Slot), aRel D ka sg A s t.2.2.2.1 H → va_S A s.heap H locs → aLoc sg L nL t.2.1 → (al = true → ∀ j : Nat, sg (t.2.2.2.1.length + j) = H.size + j) →
    W p l e R s m args below meth c H locs t.2.2.2.2.1 t.2.2.2.2.2 Q (F0 m t.1 L (t.2.2.1.map (aCv sg)))
/-- what holds all through a method's body -/
def aCx (p : Program) (l : Launch) (s : State) (m : MethodId) (args : Array Value) (c : Code) (D : va_G) (ka : FieldType → ClassId) (sg : Nat → Nat) (A : Nat → Prop) (nL : Nat) (own : String) (cc : ByteArray) : Prop :=
  p.tables.exec = Jvm.exec ∧ c.code = cc ∧ c.maxLocals = nL ∧ s.vm.findClass own = some m.cls ∧ (∀ w ∈ aWg, w.before args s = true) ∧ aKn D ka sg A s ∧ (∀ q : Nat, s.heap.size ≤ q → A q) ∧ l.stackTraces = false
section SND
variable {p : Program} {l : Launch} {e : Env} {R : Room} {s : State} {m : MethodId} {args : Array Value} {below : List Frame} {meth : Method} {c : Code} {Q : State → Prop} {D : va_G} {ka : FieldType → ClassId} {sg : Nat → Nat} {A : Nat → Prop} {nL : Nat} {own : String} {cc : ByteArray} {al : Bool}
variable {pc : Nat} {ls : List (Option Value)} {st r : List Value} {h : aH} {k : aK} {x y : Int32}
theorem s_iconst (C : aCx p l s m args c D ka sg A nL own cc) {n : Int} {v : Int32} (hv : Int32.ofInt n = v) (hd : decode cc pc = .ok (.iconst n, 1)) (K : aSim p l e R s m args below meth c Q D ka sg A nL al (pc + 1, ls, .int v :: st, h, k)) : aSim p l e R s m args below meth c Q D ka sg A nL al (pc, ls, st, h, k) :=
  fun H locs L h1 h2 h3 h4 => lv_iconst C.1 C.2.1 hd hv (K H locs L h1 h2 h3 h4)
theorem s_bipush (C : aCx p l s m args c D ka sg A nL own cc) {n : Int} {v : Int32} (hv : (Int8.ofInt n).toInt32 = v) (hd : decode cc pc = .ok (.bipush n, 2)) (K : aSim p l e R s m args below meth c Q D ka sg A nL al (pc + 2, ls, .int v :: st, h, k)) : aSim p l e R s m args below meth c Q D ka sg A nL al (pc, ls, st, h, k) :=
  fun H locs L h1 h2 h3 h4 => lv_bipush C.1 C.2.1 hd hv (K H locs L h1 h2 h3 h4)
theorem s_sipush (C : aCx p l s m args c D ka sg A nL own cc) {n : Int} {v : Int32} (hv : (Int16.ofInt n).toInt32 = v) (hd : decode cc pc = .ok (.sipush n, 3)) (K : aSim p l e R s m args below meth c Q D ka sg A nL al (pc + 3, ls, .int v :: st, h, k)) : aSim p l e R s m args below meth c Q D ka sg A nL al (pc, ls, st, h, k) :=
  fun H locs L h1 h2 h3 h4 => lv_sipush C.1 C.2.1 hd hv (K H locs L h1 h2 h3 h4)
theorem s_iload_n (C : aCx p l s m args c D ka sg A nL own cc) {n : Fin 4} (hl : ls[n.val]? = some (some (.int x))) (hd : decode cc pc = .ok (.iload_n n, 1)) (K : aSim p l e R s m args below meth c Q D ka sg A nL al (pc + 1, ls, .int x :: st, h, k)) : aSim p l e R s m args below meth c Q D ka sg A nL al (pc, ls, st, h, k) :=
  fun H locs L h1 h2 h3 h4 => lv_iload_n C.1 C.2.1 hd rfl (h3.2.2.2 _ _ hl) (K H locs L h1 h2 h3 h4)
theorem s_iload (C : aCx p l s m args c D ka sg A nL own cc) {n : Nat} (hl : ls[n]? = some (some (.int x))) (hd : decode cc pc = .ok (.iload n, 2)) (K : aSim p l e R s m args below meth c Q D ka sg A nL al (pc + 2, ls, .int x :: st, h, k)) : aSim p l e R s m args below meth c Q D ka sg A nL al (pc, ls, st, h, k) :=
  fun H locs L h1 h2 h3 h4 => lv_iload C.1 C.2.1 hd (h3.2.2.2 _ _ hl) (K H locs L h1 h2 h3 h4)
theorem s_aload_n (C : aCx p l s m args c D ka sg A nL own cc) {n : Fin 4} {q : Nat} (hl : ls[n.val]? = some (some (.ref q))) (hd : decode cc pc = .ok (.aload_n n, 1)) (K : aSim p l e R s m args below meth c Q D ka sg A nL al (pc + 1, ls, .ref q :: st, h, k)) : aSim p l e R s m args below meth c Q D ka sg A nL al (pc, ls, st, h, k) :=
  fun H locs L h1 h2 h3 h4 => lv_aload_n C.1 C.2.1 hd rfl (h3.2.2.2 _ _ hl) (K H locs L h1 h2 h3 h4)
theorem s_aload (C : aCx p l s m args c D ka sg A nL own cc) {n : Nat} {q : Nat} (hl : ls[n]? = some (some (.ref q))) (hd : decode cc pc = .ok (.aload n, 2)) (K : aSim p l e R s m args below meth c Q D ka sg A nL al (pc + 2, ls, .ref q :: st, h, k)) : aSim p l e R s m args below meth c Q D ka sg A nL al (pc, ls, st, h, k) :=
  fun H locs L h1 h2 h3 h4 => lv_aload C.1 C.2.1 hd (h3.2.2.2 _ _ hl) (K H locs L h1 h2 h3 h4)
theorem s_fload (C : aCx p l s m args c D ka sg A nL own cc) {n : Nat} {z : UInt32} (hl : ls[n]? = some (some (.float z))) (hd : decode cc pc = .ok (.fload n, 2)) (K : aSim p l e R s m args below meth c Q D ka sg A nL al (pc + 2, ls, .float z :: st, h, k)) : aSim p l e R s m args below meth c Q D ka sg A nL al (pc, ls, st, h, k) :=
  fun H locs L h1 h2 h3 h4 => lv_fload C.1 C.2.1 hd (h3.2.2.2 _ _ hl) (K H locs L h1 h2 h3 h4)
theorem s_dload (C : aCx p l s m args c D ka sg A nL own cc) {n : Nat} {z : UInt64} (hl : ls[n]? = some (some (.double z))) (hd : decode cc pc = .ok (.dload n, 2)) (K : aSim p l e R s m args below meth c Q D ka sg A nL al (pc + 2, ls, .double z :: st, h, k)) : aSim p l e R s m args below meth c Q D ka sg A nL al (pc, ls, st, h, k) :=
  fun H locs L h1 h2 h3 h4 => lv_dload C.1 C.2.1 hd (h3.2.2.2 _ _ hl) (K H locs L h1 h2 h3 h4)
theorem s_istore_n (C : aCx p l s m args c D ka sg A nL own cc) {n : Fin 4} (hm : aMay ls n.val = true) (hd : decode cc pc = .ok (.istore_n n, 1)) (K : aSim p l e R s m args below meth c Q D ka sg A nL al (pc + 1, ls.set n.val (some (.int x)), r, h, k)) : aSim p l e R s m args below meth c Q D ka sg A nL al (pc, ls, .int x :: r, h, k) :=
  fun H locs L h1 h2 h3 h4 => lv_istore_n C.1 C.2.1 hd rfl h3.has (by rw [← h3.2.2.1]; exact aMay_lt hm) rfl (fun L1 g => K H locs L1 h1 h2 (h3.back hm (fun v hv => by cases hv; rfl) g) h4)
theorem s_istore (C : aCx p l s m args c D ka sg A nL own cc) {n : Nat} (hm : aMay ls n = true) (hd : decode cc pc = .ok (.istore n, 2)) (K : aSim p l e R s m args below meth c Q D ka sg A nL al (pc + 2, ls.set n (some (.int x)), r, h, k)) : aSim p l e R s m args below meth c Q D ka sg A nL al (pc, ls, .int x :: r, h, k) :=
  fun H locs L h1 h2 h3 h4 => lv_istore C.1 C.2.1 hd h3.has (by rw [← h3.2.2.1]; exact aMay_lt hm) rfl (fun L1 g => K H locs L1 h1 h2 (h3.back hm (fun v hv => by cases hv; rfl) g) h4)
theorem s_astore_n (C : aCx p l s m args c D ka sg A nL own cc) {n : Fin 4} {q : Nat} (hm : aMay ls n.val = true) (hd : decode cc pc = .ok (.astore_n n, 1)) (K : aSim p l e R s m args below meth c Q D ka sg A nL al (pc + 1, ls.set n.val (some (.ref q)), r, h, k)) : aSim p l e R s m args below meth c Q D ka sg A nL al (pc, ls, .ref q :: r, h, k) :=
  fun H locs L h1 h2 h3 h4 => lv_astore_n C.1 C.2.1 hd rfl h3.has (by rw [← h3.2.2.1]; exact aMay_lt hm) rfl (fun L1 g => K H locs L1 h1 h2 (h3.back hm (fun v hv => by cases hv; rfl) g) h4)
theorem s_astore (C : aCx p l s m args c D ka sg A nL own cc) {n : Nat} {q : Nat} (hm : aMay ls n = true) (hd : decode cc pc = .ok (.astore n, 2)) (K : aSim p l e R s m args below meth c Q D ka sg A nL al (pc + 2, ls.set n (some (.ref q)), r, h, k)) : aSim p l e R s m args below meth c Q D ka sg A nL al (pc, ls, .ref q :: r, h, k) :=
  fun H locs L h1 h2 h3 h4 => lv_astore C.1 C.2.1 hd h3.has (by rw [← h3.2.2.1]; exact aMay_lt hm) rfl (fun L1 g => K H locs L1 h1 h2 (h3.back hm (fun v hv => by cases hv; rfl) g) h4)
theorem s_fstore (C : aCx p l s m args c D ka sg A nL own cc) {n : Nat} {z : UInt32} (hm : aMay ls n = true) (hd : decode cc pc = .ok (.fstore n, 2)) (K : aSim p l e R s m args below meth c Q D ka sg A nL al (pc + 2, ls.set n (some (.float z)), r, h, k)) : aSim p l e R s m args below meth c Q D ka sg A nL al (pc, ls, .float z :: r, h, k) :=
  fun H locs L h1 h2 h3 h4 => lv_fstore C.1 C.2.1 hd h3.has (by rw [← h3.2.2.1]; exact aMay_lt hm) rfl (fun L1 g => K H locs L1 h1 h2 (h3.back hm (fun v hv => by cases hv; rfl) g) h4)
theorem s_dstore (C : aCx p l s m args c D ka sg A nL own cc) {n : Nat} {z : UInt64} (hm : aMay ls n = true) (hm2 : n + 1 < ls.length) (hd : decode cc pc = .ok (.dstore n, 2)) (K : aSim p l e R s m args below meth c Q D ka sg A nL al (pc + 2, (ls.set n (some (.double z))).set (n + 1) none, r, h, k)) : aSim p l e R s m args below meth c Q D ka sg A nL al (pc, ls, .double z :: r, h, k) :=
  fun H locs L h1 h2 h3 h4 => lv_dstore C.1 C.2.1 hd h3.has (by rw [← h3.2.2.1]; exact hm2) rfl (fun L1 g => K H locs L1 h1 h2 (h3.back2 hm hm2 g) h4)
theorem s_iinc (C : aCx p l s m args c D ka sg A nL own cc) {n : Nat} {z : Int} {v : Int32} (hv : Int32.ofInt z = v) (hl : ls[n]? = some (some (.int x))) (hm : aMay ls n = true) (hd : decode cc pc = .ok (.iinc n z, 3)) (K : aSim p l e R s m args below meth c Q D ka sg A nL al (pc + 3, ls.set n (some (.int (x + v))), st, h, k)) : aSim p l e R s m args below meth c Q D ka sg A nL al (pc, ls, st, h, k) := by
  intro H locs L h1 h2 h3 h4
  obtain ⟨j, hj⟩ := List.getElem?_of_mem (aLv_mem.mpr ⟨_, hl, rfl⟩ : (n, Value.int x) ∈ aLv sg ls)
  exact lv_iinc (k := j) C.1 C.2.1 hd h3.has hj (by rw [hv]) (by rw [← h3.2.2.1]; exact aMay_lt hm) rfl (fun L1 g => K H locs L1 h1 h2 (h3.back hm (fun v hv => by cases hv; rfl) g) h4)
theorem s_iadd (C : aCx p l s m args c D ka sg A nL own cc) (hd : decode cc pc = .ok (.iadd, 1)) (K : aSim p l e R s m args below meth c Q D ka sg A nL al (pc + 1, ls, .int (x + y) :: r, h, k)) : aSim p l e R s m args below meth c Q D ka sg A nL al (pc, ls, .int y :: .int x :: r, h, k) :=
  fun H locs L h1 h2 h3 h4 => lv_iadd C.1 C.2.1 hd (K H locs L h1 h2 h3 h4)
theorem s_isub (C : aCx p l s m args c D ka sg A nL own cc) (hd : decode cc pc = .ok (.isub, 1)) (K : aSim p l e R s m args below meth c Q D ka sg A nL al (pc + 1, ls, .int (x - y) :: r, h, k)) : aSim p l e R s m args below meth c Q D ka sg A nL al (pc, ls, .int y :: .int x :: r, h, k) :=
  fun H locs L h1 h2 h3 h4 => lv_isub C.1 C.2.1 hd (K H locs L h1 h2 h3 h4)
theorem s_imul (C : aCx p l s m args c D ka sg A nL own cc) (hd : decode cc pc = .ok (.imul, 1)) (K : aSim p l e R s m args below meth c Q D ka sg A nL al (pc + 1, ls, .int (x * y) :: r, h, k)) : aSim p l e R s m args below meth c Q D ka sg A nL al (pc, ls, .int y :: .int x :: r, h, k) :=
  fun H locs L h1 h2 h3 h4 => lv_imul C.1 C.2.1 hd (K H locs L h1 h2 h3 h4)
theorem s_iand (C : aCx p l s m args c D ka sg A nL own cc) (hd : decode cc pc = .ok (.iand, 1)) (K : aSim p l e R s m args below meth c Q D ka sg A nL al (pc + 1, ls, .int (x &&& y) :: r, h, k)) : aSim p l e R s m args below meth c Q D ka sg A nL al (pc, ls, .int y :: .int x :: r, h, k) :=
  fun H locs L h1 h2 h3 h4 => lv_iand C.1 C.2.1 hd (K H locs L h1 h2 h3 h4)
theorem s_idiv (C : aCx p l s m args c D ka sg A nL own cc) (hn : ¬ y = 0) (hd : decode cc pc = .ok (.idiv, 1)) (K : aSim p l e R s m args below meth c Q D ka sg A nL al (pc + 1, ls, .int (x / y) :: r, h, k)) : aSim p l e R s m args below meth c Q D ka sg A nL al (pc, ls, .int y :: .int x :: r, h, k) :=
  fun H locs L h1 h2 h3 h4 => lv_idiv C.1 C.2.1 hd hn (K H locs L h1 h2 h3 h4)
theorem s_irem (C : aCx p l s m args c D ka sg A nL own cc) (hn : ¬ y = 0) (hd : decode cc pc = .ok (.irem, 1)) (K : aSim p l e R s m args below meth c Q D ka sg A nL al (pc + 1, ls, .int (x - x / y * y) :: r, h, k)) : aSim p l e R s m args below meth c Q D ka sg A nL al (pc, ls, .int y :: .int x :: r, h, k) :=
  fun H locs L h1 h2 h3 h4 => lv_irem C.1 C.2.1 hd hn (K H locs L h1 h2 h3 h4)
theorem s_i2l (C : aCx p l s m args c D ka sg A nL own cc) (hd : decode cc pc = .ok (.i2l, 1)) (K : aSim p l e R s m args below meth c Q D ka sg A nL al (pc + 1, ls, .long x.toInt64 :: r, h, k)) : aSim p l e R s m args below meth c Q D ka sg A nL al (pc, ls, .int x :: r, h, k) :=
  fun H locs L h1 h2 h3 h4 => lv_i2l C.1 C.2.1 hd rfl (K H locs L h1 h2 h3 h4)
theorem s_i2c (C : aCx p l s m args c D ka sg A nL own cc) (hd : decode cc pc = .ok (.i2c, 1)) (K : aSim p l e R s m args below meth c Q D ka sg A nL al (pc + 1, ls, .int (x.toUInt32 % 65536).toInt32 :: r, h, k)) : aSim p l e R s m args below meth c Q D ka sg A nL al (pc, ls, .int x :: r, h, k) :=
  fun H locs L h1 h2 h3 h4 => lv_i2c C.1 C.2.1 hd rfl (K H locs L h1 h2 h3 h4)
theorem s_i2f (C : aCx p l s m args c D ka sg A nL own cc) (hd : decode cc pc = .ok (.i2f, 1)) (K : aSim p l e R s m args below meth c Q D ka sg A nL al (pc + 1, ls, .float (FP.i2f x) :: r, h, k)) : aSim p l e R s m args below meth c Q D ka sg A nL al (pc, ls, .int x :: r, h, k) :=
  fun H locs L h1 h2 h3 h4 => lv_i2f C.1 C.2.1 hd (K H locs L h1 h2 h3 h4)
theorem s_i2d (C : aCx p l s m args c D ka sg A nL own cc) (hd : decode cc pc = .ok (.i2d, 1)) (K : aSim p l e R s m args below meth c Q D ka sg A nL al (pc + 1, ls, .double (FP.i2d x) :: r, h, k)) : aSim p l e R s m args below meth c Q D ka sg A nL al (pc, ls, .int x :: r, h, k) :=
  fun H locs L h1 h2 h3 h4 => lv_i2d C.1 C.2.1 hd (K H locs L h1 h2 h3 h4)
theorem s_f2d (C : aCx p l s m args c D ka sg A nL own cc) {z : UInt32} (hn : FP.f2d z &&& 0x7fffffffffffffff ≤ 0x7ff0000000000000) (hd : decode cc pc = .ok (.f2d, 1)) (K : aSim p l e R s m args below meth c Q D ka sg A nL al (pc + 1, ls, .double (FP.f2d z) :: r, h, k)) : aSim p l e R s m args below meth c Q D ka sg A nL al (pc, ls, .float z :: r, h, k) :=
  fun H locs L h1 h2 h3 h4 => lv_f2d C.1 C.2.1 hd hn (K H locs L h1 h2 h3 h4)
theorem s_fdiv (C : aCx p l s m args c D ka sg A nL own cc) {z w : UInt32} (hn : FP.fdiv z w &&& 0x7fffffff ≤ 0x7f800000) (hd : decode cc pc = .ok (.fdiv, 1)) (K : aSim p l e R s m args below meth c Q D ka sg A nL al (pc + 1, ls, .float (FP.fdiv z w) :: r, h, k)) : aSim p l e R s m args below meth c Q D ka sg A nL al (pc, ls, .float w :: .float z :: r, h, k) :=
  fun H locs L h1 h2 h3 h4 => lv_fdiv C.1 C.2.1 hd hn (K H locs L h1 h2 h3 h4)
theorem s_ddiv (C : aCx p l s m args c D ka sg A nL own cc) {z w : UInt64} (hn : FP.ddiv z w &&& 0x7fffffffffffffff ≤ 0x7ff0000000000000) (hd : decode cc pc = .ok (.ddiv, 1)) (K : aSim p l e R s m args below meth c Q D ka sg A nL al (pc + 1, ls, .double (FP.ddiv z w) :: r, h, k)) : aSim p l e R s m args below meth c Q D ka sg A nL al (pc, ls, .double w :: .double z :: r, h, k) :=
  fun H locs L h1 h2 h3 h4 => lv_ddiv C.1 C.2.1 hd hn (K H locs L h1 h2 h3 h4)
theorem s_fconst (C : aCx p l s m args c D ka sg A nL own cc) (hd : decode cc pc = .ok (.fconst 0, 1)) (K : aSim p l e R s m args below meth c Q D ka sg A nL al (pc + 1, ls, .float FP.fconst0 :: st, h, k)) : aSim p l e R s m args below meth c Q D ka sg A nL al (pc, ls, st, h, k) :=
  fun H locs L h1 h2 h3 h4 => lv_fconst0 C.1 C.2.1 hd (K H locs L h1 h2 h3 h4)
theorem s_dconst (C : aCx p l s m args c D ka sg A nL own cc) (hd : decode cc pc = .ok (.dconst 0, 1)) (K : aSim p l e R s m args below meth c Q D ka sg A nL al (pc + 1, ls, .double FP.dconst0 :: st, h, k)) : aSim p l e R s m args below meth c Q D ka sg A nL al (pc, ls, st, h, k) :=
  fun H locs L h1 h2 h3 h4 => lv_dconst0 C.1 C.2.1 hd (K H locs L h1 h2 h3 h4)
theorem s_lcmp (C : aCx p l s m args c D ka sg A nL own cc) {z w : Int64} (hd : decode cc pc = .ok (.lcmp, 1)) (K : aSim p l e R s m args below meth c Q D ka sg A nL al (pc + 1, ls, .int (lg_cmp z w) :: r, h, k)) : aSim p l e R s m args below meth c Q D ka sg A nL al (pc, ls, .long w :: .long z :: r, h, k) :=
  fun H locs L h1 h2 h3 h4 => W.lcmp C.1 C.2.1 hd (K H locs L h1 h2 h3 h4)
theorem s_fcmp (C : aCx p l s m args c D ka sg A nL own cc) {z w : UInt32} {op : CmpOp} (hd : decode cc pc = .ok (.fcmp op, 1)) (K : aSim p l e R s m args below meth c Q D ka sg A nL al (pc + 1, ls, .int (Op.cmpValue (FP.fcmp z w) op) :: r, h, k)) : aSim p l e R s m args below meth c Q D ka sg A nL al (pc, ls, .float w :: .float z :: r, h, k) :=
  fun H locs L h1 h2 h3 h4 => lv_fcmp C.1 C.2.1 hd (K H locs L h1 h2 h3 h4)
theorem s_dcmp (C : aCx p l s m args c D ka sg A nL own cc) {z w : UInt64} {op : CmpOp} (hd : decode cc pc = .ok (.dcmp op, 1)) (K : aSim p l e R s m args below meth c Q D ka sg A nL al (pc + 1, ls, .int (Op.cmpValue (FP.dcmp z w) op) :: r, h, k)) : aSim p l e R s m args below meth c Q D ka sg A nL al (pc, ls, .double w :: .double z :: r, h, k) :=
  fun H locs L h1 h2 h3 h4 => lv_dcmp C.1 C.2.1 hd (K H locs L h1 h2 h3 h4)
theorem s_dup (C : aCx p l s m args c D ka sg A nL own cc) {z : Value} (hz : z.category = 1) (hd : decode cc pc = .ok (.dup, 1)) (K : aSim p l e R s m args below meth c Q D ka sg A nL al (pc + 1, ls, z :: z :: r, h, k)) : aSim p l e R s m args below meth c Q D ka sg A nL al (pc, ls, z :: r, h, k) :=
  fun H locs L h1 h2 h3 h4 => lv_dup C.1 C.2.1 hd (by rw [aCv_cat]; exact hz) (K H locs L h1 h2 h3 h4)
theorem s_dup2 (C : aCx p l s m args c D ka sg A nL own cc) {z w : Value} (hz : z.category = 1) (hw : w.category = 1) (hd : decode cc pc = .ok (.dup2, 1)) (K : aSim p l e R s m args below meth c Q D ka sg A nL al (pc + 1, ls, z :: w :: z :: w :: r, h, k)) : aSim p l e R s m args below meth c Q D ka sg A nL al (pc, ls, z :: w :: r, h, k) :=
  fun H locs L h1 h2 h3 h4 => lv_dup2_11 C.1 C.2.1 hd (by rw [aCv_cat]; exact hz) (by rw [aCv_cat]; exact hw) (K H locs L h1 h2 h3 h4)
theorem s_iushr (C : aCx p l s m args c D ka sg A nL own cc)  (hd : decode cc pc = .ok (.iushr, 1)) (K : aSim p l e R s m args below meth c Q D ka sg A nL al (pc + 1, ls, .int (x.toUInt32 >>> (y.toUInt32 &&& Int32.toUInt32 31)).toInt32 :: r, h, k)) : aSim p l e R s m args below meth c Q D ka sg A nL al (pc, ls, .int y :: .int x :: r, h, k) :=
  fun H locs L h1 h2 h3 h4 => lv_iushr C.1 C.2.1 hd rfl (K H locs L h1 h2 h3 h4)
theorem s_ladd (C : aCx p l s m args c D ka sg A nL own cc) {z w : Int64} (hd : decode cc pc = .ok (.ladd, 1)) (K : aSim p l e R s m args below meth c Q D ka sg A nL al (pc + 1, ls, .long (z + w) :: r, h, k)) : aSim p l e R s m args below meth c Q D ka sg A nL al (pc, ls, .long w :: .long z :: r, h, k) :=
  fun H locs L h1 h2 h3 h4 => lv_ladd C.1 C.2.1 hd (K H locs L h1 h2 h3 h4)
theorem s_lmul (C : aCx p l s m args c D ka sg A nL own cc) {z w : Int64} (hd : decode cc pc = .ok (.lmul, 1)) (K : aSim p l e R s m args below meth c Q D ka sg A nL al (pc + 1, ls, .long (z * w) :: r, h, k)) : aSim p l e R s m args below meth c Q D ka sg A nL al (pc, ls, .long w :: .long z :: r, h, k) :=
  fun H locs L h1 h2 h3 h4 => lv_lmul C.1 C.2.1 hd (K H locs L h1 h2 h3 h4)
theorem s_lload_n (C : aCx p l s m args c D ka sg A nL own cc) {n : Fin 4} {z : Int64} (hl : ls[n.val]? = some (some (.long z))) (hd : decode cc pc = .ok (.lload_n n, 1)) (K : aSim p l e R s m args below meth c Q D ka sg A nL al (pc + 1, ls, .long z :: st, h, k)) : aSim p l e R s m args below meth c Q D ka sg A nL al (pc, ls, st, h, k) :=
  fun H locs L h1 h2 h3 h4 => lv_lload_n C.1 C.2.1 hd rfl (h3.2.2.2 _ _ hl) (K H locs L h1 h2 h3 h4)
theorem s_lstore_n (C : aCx p l s m args c D ka sg A nL own cc) {n : Fin 4} {z : Int64} (hm : aMay ls n.val = true) (hm2 : n.val + 1 < ls.length) (hd : decode cc pc = .ok (.lstore_n n, 1)) (K : aSim p l e R s m args below meth c Q D ka sg A nL al (pc + 1, (ls.set n.val (some (.long z))).set (n.val + 1) none, r, h, k)) : aSim p l e R s m args below meth c Q D ka sg A nL al (pc, ls, .long z :: r, h, k) :=
  fun H locs L h1 h2 h3 h4 => lv_lstore_n C.1 C.2.1 hd rfl h3.has (by rw [← h3.2.2.1]; exact hm2) rfl (fun L1 g => K H locs L1 h1 h2 (h3.back2 hm hm2 g) h4)
theorem s_ldci (C : aCx p l s m args c D ka sg A nL own cc) {idx : Nat} {v : Int32} (hl : Cond.constant own idx v ∈ aWg) (hd : decode cc pc = .ok (.ldc idx, 2)) (K : aSim p l e R s m args below meth c Q D ka sg A nL al (pc + 2, ls, .int v :: st, h, k)) : aSim p l e R s m args below meth c Q D ka sg A nL al (pc, ls, st, h, k) :=
  fun H locs L h1 h2 h3 h4 => lv_ldc C.1 C.2.1 C.2.2.2.1 (C.2.2.2.2.1 _ hl) hd (K H locs L h1 h2 h3 h4)
theorem s_ldc2 (C : aCx p l s m args c D ka sg A nL own cc) {idx : Nat} {v : Int64} (hl : Cond.constantLong own idx v ∈ aWg) (hd : decode cc pc = .ok (.ldc2_w idx, 3)) (K : aSim p l e R s m args below meth c Q D ka sg A nL al (pc + 3, ls, .long v :: st, h, k)) : aSim p l e R s m args below meth c Q D ka sg A nL al (pc, ls, st, h, k) :=
  fun H locs L h1 h2 h3 h4 => lv_ldc2 C.1 C.2.1 C.2.2.2.1 (C.2.2.2.2.1 _ hl) hd (K H locs L h1 h2 h3 h4)
theorem s_ifnull (C : aCx p l s m args c D ka sg A nL own cc) {off : Int} {q : Nat} (hd : decode cc pc = .ok (.ifnull off, 3)) (K : aSim p l e R s m args below meth c Q D ka sg A nL al (pc + 3, ls, r, h, k)) : aSim p l e R s m args below meth c Q D ka sg A nL al (pc, ls, .ref q :: r, h, k) :=
  fun H locs L h1 h2 h3 h4 => lv_ifnull C.1 C.2.1 hd (K H locs L h1 h2 h3 h4)
theorem s_goto (C : aCx p l s m args c D ka sg A nL own cc) {off : Int} {t : Nat} (ht : (pc : Int) + off = (t : Int)) (hd : decode cc pc = .ok (.goto off, 3)) (K : aSim p l e R s m args below meth c Q D ka sg A nL al (t, ls, st, h, k)) : aSim p l e R s m args below meth c Q D ka sg A nL al (pc, ls, st, h, k) :=
  fun H locs L h1 h2 h3 h4 => lv_goto C.1 C.2.1 hd ht (K H locs L h1 h2 h3 h4)
theorem aCond_t {q : ClassFile.Cond} {P : Prop} {z w : Int32} (hp : aCond q z w = true ↔ P) {t t1 : Nat} {X : Nat → Prop} (K : X (if aCond q z w = true then t else t1)) : (P → X t) ∧ (¬ P → X t1) := by
  by_cases h : aCond q z w = true
  · rw [if_pos h] at K
    exact ⟨fun _ => K, fun n => absurd (hp.mp h) n⟩
  · rw [if_neg h] at K
    exact ⟨fun n => absurd (hp.mpr n) h, fun _ => K⟩
theorem s_if (C : aCx p l s m args c D ka sg A nL own cc) {off : Int} {t : Nat} {q : ClassFile.Cond} (ht : (pc : Int) + off = (t : Int)) (hd : decode cc pc = .ok (.ifCond q off, 3)) (K : aSim p l e R s m args below meth c Q D ka sg A nL al (if aCond q x 0 = true then t else pc + 3, ls, r, h, k)) : aSim p l e R s m args below meth c Q D ka sg A nL al (pc, ls, .int x :: r, h, k) := by
  intro H locs L h1 h2 h3 h4
  have G := K H locs L h1 h2 h3 h4
  cases q
  · obtain ⟨a, b⟩ := aCond_t (X := fun t => W p l e R s m args below meth c H locs k.1 k.2 Q (F0 m t L (r.map (aCv sg)))) (show aCond .eq x 0 = true ↔ x = 0 by simp [aCond]) G
    exact lv_if_eq C.1 C.2.1 hd ht a b
  · obtain ⟨a, b⟩ := aCond_t (X := fun t => W p l e R s m args below meth c H locs k.1 k.2 Q (F0 m t L (r.map (aCv sg)))) (show aCond .ne x 0 = true ↔ ¬ x = 0 by simp [aCond]) G
    exact lv_if_ne C.1 C.2.1 hd ht a (fun q => b (fun n => n q))
  · obtain ⟨a, b⟩ := aCond_t (X := fun t => W p l e R s m args below meth c H locs k.1 k.2 Q (F0 m t L (r.map (aCv sg)))) (show aCond .lt x 0 = true ↔ x < 0 by simp [aCond]) G
    exact lv_if_lt C.1 C.2.1 hd ht a b
  · obtain ⟨a, b⟩ := aCond_t (X := fun t => W p l e R s m args below meth c H locs k.1 k.2 Q (F0 m t L (r.map (aCv sg)))) (show aCond .ge x 0 = true ↔ 0 ≤ x by simp [aCond]) G
    exact lv_if_ge C.1 C.2.1 hd ht a b
  · obtain ⟨a, b⟩ := aCond_t (X := fun t => W p l e R s m args below meth c H locs k.1 k.2 Q (F0 m t L (r.map (aCv sg)))) (show aCond .gt x 0 = true ↔ 0 < x by simp [aCond]) G
    exact lv_if_gt C.1 C.2.1 hd ht a b
  · obtain ⟨a, b⟩ := aCond_t (X := fun t => W p l e R s m args below meth c H locs k.1 k.2 Q (F0 m t L (r.map (aCv sg)))) (show aCond .le x 0 = true ↔ x ≤ 0 by simp [aCond]) G
    exact lv_if_le C.1 C.2.1 hd ht a b
theorem s_icmp (C : aCx p l s m args c D ka sg A nL own cc) {off : Int} {t : Nat} {q : ClassFile.Cond} (ht : (pc : Int) + off = (t : Int)) (hd : decode cc pc = .ok (.if_icmp q off, 3)) (K : aSim p l e R s m args below meth c Q D ka sg A nL al (if aCond q x y = true then t else pc + 3, ls, r, h, k)) : aSim p l e R s m args below meth c Q D ka sg A nL al (pc, ls, .int y :: .int x :: r, h, k) := by
  intro H locs L h1 h2 h3 h4
  have G := K H locs L h1 h2 h3 h4
  cases q
  · obtain ⟨a, b⟩ := aCond_t (X := fun t => W p l e R s m args below meth c H locs k.1 k.2 Q (F0 m t L (r.map (aCv sg)))) (show aCond .eq x y = true ↔ x = y by simp [aCond]) G
    exact lv_icmp_eq C.1 C.2.1 hd ht a b
  · obtain ⟨a, b⟩ := aCond_t (X := fun t => W p l e R s m args below meth c H locs k.1 k.2 Q (F0 m t L (r.map (aCv sg)))) (show aCond .ne x y = true ↔ ¬ x = y by simp [aCond]) G
    exact lv_icmp_ne C.1 C.2.1 hd ht a (fun q => b (fun n => n q))
  · obtain ⟨a, b⟩ := aCond_t (X := fun t => W p l e R s m args below meth c H locs k.1 k.2 Q (F0 m t L (r.map (aCv sg)))) (show aCond .lt x y = true ↔ x < y by simp [aCond]) G
    exact lv_icmp_lt C.1 C.2.1 hd ht a b
  · obtain ⟨a, b⟩ := aCond_t (X := fun t => W p l e R s m args below meth c H locs k.1 k.2 Q (F0 m t L (r.map (aCv sg)))) (show aCond .ge x y = true ↔ y ≤ x by simp [aCond]) G
    exact lv_icmp_ge C.1 C.2.1 hd ht a b
  · obtain ⟨a, b⟩ := aCond_t (X := fun t => W p l e R s m args below meth c H locs k.1 k.2 Q (F0 m t L (r.map (aCv sg)))) (show aCond .gt x y = true ↔ y < x by simp [aCond]) G
    exact lv_icmp_gt C.1 C.2.1 hd ht a b
  · obtain ⟨a, b⟩ := aCond_t (X := fun t => W p l e R s m args below meth c H locs k.1 k.2 Q (F0 m t L (r.map (aCv sg)))) (show aCond .le x y = true ↔ x ≤ y by simp [aCond]) G
    exact lv_icmp_le C.1 C.2.1 hd ht a b
theorem s_tableOut (C : aCx p l s m args c D ka sg A nL own cc) {dflt lo hi : Int} {offs : Array Int} {len t : Nat} (ho : x.toInt < lo ∨ hi < x.toInt) (ht : (pc : Int) + dflt = (t : Int)) (hd : decode cc pc = .ok (.tableswitch dflt lo hi offs, len)) (K : aSim p l e R s m args below meth c Q D ka sg A nL al (t, ls, r, h, k)) : aSim p l e R s m args below meth c Q D ka sg A nL al (pc, ls, .int x :: r, h, k) :=
  fun H locs L h1 h2 h3 h4 => lv_tableOut C.1 C.2.1 hd ho ht (K H locs L h1 h2 h3 h4)
theorem s_tableIn (C : aCx p l s m args c D ka sg A nL own cc) {dflt lo hi o : Int} {offs : Array Int} {len : Nat} (ho : ¬ (x.toInt < lo ∨ hi < x.toInt)) (hf : offs[(x.toInt - lo).toNat]? = some o) (ht : 0 ≤ (pc : Int) + o) (hd : decode cc pc = .ok (.tableswitch dflt lo hi offs, len)) (K : aSim p l e R s m args below meth c Q D ka sg A nL al (((pc : Int) + o).toNat, ls, r, h, k)) : aSim p l e R s m args below meth c Q D ka sg A nL al (pc, ls, .int x :: r, h, k) :=
  fun H locs L h1 h2 h3 h4 => lv_tableIn C.1 C.2.1 hd (fun q => ho (Or.inl q)) (fun q => ho (Or.inr q)) hf (Int.toNat_of_nonneg ht).symm (K H locs L h1 h2 h3 h4)
theorem s_lookup (C : aCx p l s m args c D ka sg A nL own cc) {dflt : Int} {ps : Array (Int × Int)} {len : Nat} (hp : (ps.toList.zip (ps.toList.drop 1)).all (fun (a, next) => a.1 < next.1) = true) (ht : 0 ≤ (pc : Int) + Op.lookupswitch.offset ps.toList dflt x.toInt) (hd : decode cc pc = .ok (.lookupswitch dflt ps, len)) (K : aSim p l e R s m args below meth c Q D ka sg A nL al (((pc : Int) + Op.lookupswitch.offset ps.toList dflt x.toInt).toNat, ls, r, h, k)) : aSim p l e R s m args below meth c Q D ka sg A nL al (pc, ls, .int x :: r, h, k) :=
  fun H locs L h1 h2 h3 h4 => lv_lookup C.1 C.2.1 hd hp rfl (Int.toNat_of_nonneg ht).symm (K H locs L h1 h2 h3 h4)
end SND
