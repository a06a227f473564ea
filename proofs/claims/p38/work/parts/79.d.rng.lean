/-! Arrays.copyOfRange: its contract -/
/-- what may be written: the builder's two cells, and what is new from z on -/
def bA3 (sb v z : Nat) : Nat → Prop := fun q => q = sb ∨ q = v ∨ z ≤ q
theorem bKn.narrow {D : va_G} {cA : ClassId} {A B : Nat → Prop} {tx : Option (List Int32 × Nat × Nat)} {U : State} {H : Heap} (h : bKn D cA A tx U H) (hAB : ∀ q, B q → A q) : bKn D cA B tx U H :=
  ⟨h.1, h.2.1.narrow hAB, h.2.2.1.elim (fun t q => ⟨t, q.1.narrow hAB, q.2.narrow hAB⟩), fun x e => (h.2.2.2 x e).narrow hAB⟩
/-- the builder, and the new bytes at z -/
def kWs (cA : ClassId) (sb v n : Nat) (f : Nat → Int32) (z : Nat) (g : Nat → Int32) : va_W := bWs cA sb v n f ++ [(z, .inl (cA, n, .inl g))]
def kPc (D : va_G) (cA : ClassId) (sb v n : Nat) (f : Nat → Int32) (z : Nat) (vs : List Value) : Array Value → State → Prop := fun av U => av = vs.toArray ∧ va_P D bCl (bWs cA sb v n f) U.heap ∧ U.heap.size = z ∧ bKn D cA (bA3 sb v z) none U U.heap ∧ U.vm.findClass "[B" = some cA
def kQc (D : va_G) (cA : ClassId) (sb v n : Nat) (f : Nat → Int32) (z : Nat) : Array Value → State → Outcome → State → Prop := fun _ st o t => (∃ y, z ≤ y ∧ o = .returned (some (.ref y)) ∧ va_P D bCl (kWs cA sb v n f y (va_cpy f (fun _ => 0) 0 0 n)) t.heap) ∧ va_F (bA3 sb v z) st t
def kRm (d : Nat) : Room := { frames := d + 1, cells := 1, slots := 16, locals := 30 * d + 40 }
def kCon (l : Launch) (y : MethodName) (b : ByteArray) (nL d : Nat) (vs : List Value) (D : va_G) (cA : ClassId) (sb v n : Nat) (f : Nat → Int32) (z : Nat) : Prop :=
  Met l y (Cond.code y b nL (some (.array .byte)) :: bWg) (kRm d) (kPc D cA sb v n f z vs) (kQc D cA sb v n f z) 1 n (bA3 sb v z)
theorem kPc.blind {D : va_G} {cA : ClassId} {sb v n z : Nat} {f : Nat → Int32} {vs : List Value} : FrameBlind (kPc D cA sb v n f z vs) := by
  intro x U g mk q
  exact ⟨q.1, q.2.1, q.2.2.1, bKn.moved (U := U.calling g mk x) (Vm.Alike.refl U.vm) q.2.2.2.1, q.2.2.2.2⟩
