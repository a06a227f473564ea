/-! A BUILDER OF TEXTS: its two cells; contracts that write these alone -/
def RSB : String := "java/lang/StringBuilder"
def RAB : String := "java/lang/AbstractStringBuilder"
def TSB : u_T := fun k => match k with
  | 0 => (RAB, "value", "[B", false)
  | 1 => (RAB, "coder", "B", false)
  | 2 => (RAB, "maybeLatin1", "Z", false)
  | _ => (RAB, "count", "I", false)
def tySB : Nat → FieldType := fun k => match k with
  | 0 => .array .byte
  | 1 => .byte
  | 2 => .boolean
  | _ => .int
abbrev bCl : List vw_C := [(RSB, TSB, 4)]
theorem nSB : ∀ a, a < 4 → ∀ b, b < 4 → a ≠ b → (TSB a).2.1 ≠ (TSB b).2.1 := by decide +kernel
theorem tSB_ok : ∀ k, k < 4 → parseFieldDescriptor (TSB k).2.2.1 = some (tySB k) := by decide +kernel
/-- a builder's own methods that are private: what a call of them finds -/
def bSel : List Cond := aPvB.map fun y => Cond.selects RSB y y
def bWg : List Cond := bSel ++ aWg
/-- the builder at sb, its sixteen bytes at v: n of them count -/
def bWs (cA : ClassId) (sb v n : Nat) (f : Nat → Int32) : va_W := [(sb, .inr (0, [.ref v, .int 0, .int 0, .int (Int32.ofNat n)])), (v, .inl (cA, 16, .inl f))]
def bA (sb v : Nat) : Nat → Prop := fun q => q = sb ∨ q = v
theorem bD {cA : ClassId} {sb v n : Nat} {f : Nat → Int32} (h : sb ≠ v) : va_D (bA sb v) (bWs cA sb v n f) := by
  refine ⟨fun i j p q hp hq e => ?_, fun k q hq => ?_⟩
  · match i, j, hp, hq with
    | 0, 0, _, _ => rfl
    | 1, 1, _, _ => rfl
    | 0, 1, hp, hq => cases hp; cases hq; exact absurd e h
    | 1, 0, hp, hq => cases hp; cases hq; exact absurd e.symm h
    | i + 2, _, hp, _ => cases hp
    | 0, j + 2, _, hq => cases hq
    | 1, j + 2, _, hq => cases hq
  · match k, hq with
    | 0, hq => cases hq; exact Or.inl rfl
    | 1, hq => cases hq; exact Or.inr rfl
    | k + 2, hq => cases hq
/-- a String of those letters -/
def gStr (tx : List Int32) (a v : Nat) (A : Nat → Prop) (U : State) (H : Heap) : Prop :=
  va_Z "java/lang/String" "COMPACT_STRINGS" "Z" (.int 1) A U H ∧ va_Zq "jdk/internal/util/Preconditions" "SIOOBE_FORMATTER" "Ljava/util/function/BiFunction;" A U H ∧ vk_S 1 [tx.length] [tx] (fun _ => a) (fun _ => v) A U H
theorem gStr.moved {tx : List Int32} {a v : Nat} {A : Nat → Prop} {u U : State} {H : Heap} (hvm : u.vm.Alike U.vm) (h : gStr tx a v A u H) : gStr tx a v A U H := ⟨h.1.moved hvm, h.2.1.moved hvm, h.2.2.moved hvm⟩
theorem gStr.kept {tx : List Int32} {a v : Nat} {A : Nat → Prop} {U : State} {H H1 : Heap} (h : gStr tx a v A U H) (hq : ∀ a : Nat, a < H.size → ¬ A a → H1[a]? = H[a]?) : gStr tx a v A U H1 := ⟨h.1.kept hq, h.2.1.kept hq, h.2.2.kept hq⟩
theorem gStr.narrow {tx : List Int32} {a v : Nat} {A B : Nat → Prop} {U : State} {H : Heap} (h : gStr tx a v A U H) (hAB : ∀ q, B q → A q) : gStr tx a v B U H := ⟨h.1.narrow hAB, h.2.1.narrow hAB, h.2.2.narrow hAB⟩
theorem jStr.g {ci a v : Nat} {A : Nat → Prop} {U : State} {H : Heap} (h : jStr ci a v A U H) : gStr (aStr ci) a v A U H := h
theorem gStr.j {ci a v : Nat} {A : Nat → Prop} {U : State} {H : Heap} (h : gStr (aStr ci) a v A U H) : jStr ci a v A U H := h
/-- what is known besides: the tables', statics, a text where one is asked for -/
def bKn (D : va_G) (cA : ClassId) (A : Nat → Prop) (tx : Option (List Int32 × Nat × Nat)) (U : State) (H : Heap) : Prop :=
  va_K D bCl [(cA, .byte)] U ∧ va_Z "java/lang/String" "COMPACT_STRINGS" "Z" (.int 1) A U H ∧ aDg A U H ∧ ∀ x, tx = some x → gStr x.1 x.2.1 x.2.2 A U H
theorem bKn.moved {D : va_G} {cA : ClassId} {A : Nat → Prop} {tx : Option (List Int32 × Nat × Nat)} {u U : State} {H : Heap} (hvm : u.vm.Alike U.vm) (h : bKn D cA A tx u H) : bKn D cA A tx U H :=
  ⟨h.1.moved hvm, h.2.1.moved hvm, h.2.2.1.moved hvm, fun x e => (h.2.2.2 x e).moved hvm⟩
theorem bKn.kept {D : va_G} {cA : ClassId} {A : Nat → Prop} {tx : Option (List Int32 × Nat × Nat)} {U : State} {H H1 : Heap} (h : bKn D cA A tx U H) (hq : ∀ a : Nat, a < H.size → ¬ A a → H1[a]? = H[a]?) : bKn D cA A tx U H1 :=
  ⟨h.1, h.2.1.kept hq, h.2.2.1.kept hq, fun x e => (h.2.2.2 x e).kept hq⟩
def bPc (D : va_G) (cA : ClassId) (sb v n : Nat) (f : Nat → Int32) (tx : Option (List Int32 × Nat × Nat)) (vs : List Value) : Array Value → State → Prop := fun av U => av = vs.toArray ∧ va_P D bCl (bWs cA sb v n f) U.heap ∧ bKn D cA (bA sb v) tx U U.heap
def bQc (D : va_G) (cA : ClassId) (sb v n : Nat) (f : Nat → Int32) (r : Option Value) : Array Value → State → Outcome → State → Prop := fun _ st o t => o = .returned r ∧ va_P D bCl (bWs cA sb v n f) t.heap ∧ va_F (bA sb v) st t
def bRm (j : Nat) : Room := { frames := j + 1, cells := 0, slots := 0, locals := 30 * j + 40 }
/-- that method, over a builder of n letters f: answers r, leaves n1, f1 -/
def bCon (l : Launch) (y : MethodName) (b : ByteArray) (nL : Nat) (rt : Option FieldType) (d : Nat) (vs : List Value) (r : Option Value) (D : va_G) (cA : ClassId) (sb v n : Nat) (f : Nat → Int32) (n1 : Nat) (f1 : Nat → Int32) (tx : Option (List Int32 × Nat × Nat)) : Prop :=
  Met l y (Cond.code y b nL rt :: bWg) (bRm d) (bPc D cA sb v n f tx vs) (bQc D cA sb v n1 f1 r) 0 0 (bA sb v)
theorem bPc.blind {D : va_G} {cA : ClassId} {sb v n : Nat} {f : Nat → Int32} {tx : Option (List Int32 × Nat × Nat)} {vs : List Value} : FrameBlind (bPc D cA sb v n f tx vs) := by
  intro x U g mk q
  exact ⟨q.1, q.2.1, bKn.moved (U := U.calling g mk x) (Vm.Alike.refl U.vm) q.2.2⟩
section SBW
variable {p : Program} {l : Launch} {e : Env} {R : Room} {s : State} {m : MethodId} {args : Array Value} {below : List Frame} {meth : Method} {c : Code} {H : Heap} {locs : List Loc} {Q : State → Prop} {A0 : Nat → Prop} {H0 : Heap} {nL : Nat} {own : String} {cc : ByteArray}
variable {pc k1 k2 d idx nl np sb v n n1 : Nat} {L : Array Slot} {rest st0 vs : List Value} {r : Option Value} {y : MethodName} {b : ByteArray} {rt : Option FieldType} {D : va_G} {cA : ClassId} {f f1 : Nat → Int32} {tx : Option (List Int32 × Nat × Nat)}
theorem b_pre (hP : va_P D bCl (bWs cA sb v n f) H) (hK : bKn D cA (bA sb v) tx s H) : PreS s H (bPc D cA sb v n f tx vs) vs :=
  ⟨bPc.blind, fun U hU hW => ⟨rfl, by rw [hU]; exact hP, by rw [hU]; exact hK.moved hW.alike⟩⟩
theorem b_recv (hP : va_P D bCl (bWs cA sb v n f) H) (hK : bKn D cA (bA sb v) tx s H) : ∃ cell : Cell, H[sb]? = some cell ∧ cell.vm.isStatics = false ∧ s.vm.findClass RSB = some cell.cls :=
  va_recv (q0 := 0) (ci := 0) hK.1 hP rfl rfl
theorem b_ret {x : Array Value} (hS : va_S A0 H0 H locs) (hAA : ∀ q, bA sb v q → A0 q) (hr : va_Run p l e R s m args below meth c H locs k1 k2 0 0 (F0 m pc L st0) rest (bQc D cA sb v n1 f1 r x) (bA sb v)) (K : ∀ (H1 : Heap) (locs1 : List Loc), va_P D bCl (bWs cA sb v n1 f1) H1 → (H.size ≤ H1.size ∧ ∀ q : Nat, q < H.size → ¬ bA sb v q → H1[q]? = H[q]?) → va_S A0 H0 H1 locs1 → W p l e R s m args below meth c H1 locs1 k1 k2 Q (F0 m (pc + 3) L (r.toList ++ rest))) : W p l e R s m args below meth c H locs k1 k2 Q (F0 m pc L st0) := by
  intro T hT X
  obtain ⟨v9, st₀, t, T', Ls, h0, X', hL, e1, e2, ⟨eo, hp, hF⟩, stp⟩ := hr T hT X
  cases eo
  unfold va_F at hF
  rw [h0] at hF
  obtain ⟨t2, a1, b1⟩ := K t.heap (locs ++ Ls) hp hF ⟨Nat.le_trans hS.1 hF.1, fun q g1 g2 => by
    rw [hF.2 q (Nat.lt_of_lt_of_le g1 hS.1) (fun z => g2 (hAA q z))]
    exact hS.2.1 q g1 g2, fun q hq => by
    rcases List.mem_append.mp hq with h | h
    · exact hS.2.2 q h
    · exact hAA _ (hL q h)⟩ T' e1 X'
  exact ⟨t2, stp t2 a1, b1⟩
end SBW
