/-! Arrays.copyOfRange: its contract -/
/-- what may be written: the builder's two cells, and what is new from z on -/
def bA3 (sb v z : Nat) : Nat → Prop := fun q => q = sb ∨ q = v ∨ z ≤ q
theorem bKn.narrow {D : va_G} {cA : ClassId} {A B : Nat → Prop} {tx : Option (List Int32 × Nat × Nat)} {U : State} {H : Heap} (h : bKn D cA A tx U H) (hAB : ∀ q, B q → A q) : bKn D cA B tx U H :=
  ⟨h.1, h.2.1.narrow hAB, h.2.2.1.elim (fun t q => ⟨t, q.1.narrow hAB, q.2.narrow hAB⟩), fun x e => (h.2.2.2 x e).narrow hAB⟩
/-- the builder, and the new bytes at z -/
def kWs (cA : ClassId) (sb v n : Nat) (f : Nat → Int32) (z : Nat) (g : Nat → Int32) : va_W := bWs cA sb v n f ++ [(z, .inl (cA, n, .inl g))]
def kPc (D : va_G) (cA : ClassId) (sb v n : Nat) (f : Nat → Int32) (z : Nat) (vs : List Value) : Array Value → State → Prop := fun av U => av = vs.toArray ∧ va_P D bCl (bWs cA sb v n f) U.heap ∧ U.heap.size = z ∧ bKn D cA (bA3 sb v z) none U U.heap ∧ U.vm.findClass "[B" = some cA
def kQc (D : va_G) (cA : ClassId) (sb v n : Nat) (f : Nat → Int32) (z : Nat) : Array Value → State → Outcome → State → Prop := fun _ st o t => (∃ y, z ≤ y ∧ o = .returned (some (.ref y)) ∧ va_P D bCl (kWs cA sb v n f y (va_cpy f (fun _ => 0) 0 0 n)) t.heap) ∧ va_F (bA3 sb v z) st t
def kRm (d : Nat) : Room := { frames := d + 1, cells := 1, slots := 16, locals := 30 * d + 40 }
def kCon (l : Launch) (y : MethodName) (b : ByteArray) (nL d : Nat) (vs : List Value) (D : va_G) (cA : ClassId) (sb v n : Nat) (f : Nat → Int32) (z : Nat) : Prop :=
  Met l y (Cond.code y b nL (some (.array .byte)) :: bWg) (kRm d) (kPc D cA sb v n f z vs) (kQc D cA sb v n f z) 1 n (bA3 sb v z)
theorem kPc.blind {D : va_G} {cA : ClassId} {sb v n z : Nat} {f : Nat → Int32} {vs : List Value} : FrameBlind (kPc D cA sb v n f z vs) := by
  intro x U g mk q
  exact ⟨q.1, q.2.1, q.2.2.1, bKn.moved (U := U.calling g mk x) (Vm.Alike.refl U.vm) q.2.2.2.1, q.2.2.2.2⟩
section SBK2
variable {p : Program} {l : Launch} {e : Env} {R : Room} {s : State} {m : MethodId} {args : Array Value} {below : List Frame} {meth : Method} {c : Code} {H : Heap} {locs : List Loc} {Q : State → Prop}
variable {pc k1 k2 d idx nl np sb v n z w : Nat} {L : Array Slot} {rest vs : List Value} {y : MethodName} {b : ByteArray} {D : va_G} {cA : ClassId} {f : Nat → Int32}
theorem k_of (hy : plainName y.cls = true) (body : ∀ (p : Program) (e : Env) (s : State) (m : MethodId) (below : List Frame) (meth : Method) (c : Code), p.tables.exec = Jvm.exec → c.code = b → c.maxLocals = nl → s.vm.findClass y.cls = some m.cls → (∀ w ∈ bWg, w.before vs.toArray s = true) → meth.locks = false → meth.sig.returnType = some (.array .byte) → va_P D bCl (bWs cA sb v n f) s.heap → s.heap.size = z → bKn D cA (bA3 sb v z) none s s.heap → s.vm.findClass "[B" = some cA →
      W p l e (kRm d) s m vs.toArray below meth c s.heap [] 0 0 (vx_MQ below (kQc D cA sb v n f z) (fun _ _ _ => False) vs.toArray s 1 n (bA3 sb v z)) (F0 m 0 ((lg_sl vs ++ List.replicate (nl - (lg_sl vs).length) Slot.unset).toArray) [])) : kCon l y b nl d vs D cA sb v n f z := by
  refine vx_toMet (XC := fun _ _ _ => False) (vx_ofW (ws' := bWg) hy rfl (fun p e s m args below meth c s₁ B hml ht hP => ?_)) (fun _ _ _ h => h)
  obtain ⟨rfl, hP, hz, hK, hf⟩ := hP
  have hts := atoms_spec (ws := Cond.code y b nl (some (.array .byte)) :: bWg) B.pre
  have hw := body p e s m below meth c B.exec B.bytes hml (findClass_of_methodNamed B.named) (fun w hw => hts w (List.mem_cons_of_mem _ hw)) B.notSynchronized B.returns hP hz hK hf
  rw [← lg_entry_eq] at hw
  exact hw
theorem k_aret {st : Array Value} (hx : p.tables.exec = Jvm.exec) (hb : c.code = b) (hr : meth.sig.returnType = some (.array .byte)) (hlocks : meth.locks = false) (hzw : z ≤ w) (hP : va_P D bCl (kWs cA sb v n f w (va_cpy f (fun _ => 0) 0 0 n)) H) (hS : va_S (bA3 sb v z) s.heap H locs) (hdg : decode b pc = .ok (.areturn, 1)) : W p l e R s m st below meth c H locs 1 n (vx_MQ below (kQc D cA sb v n f z) (fun _ _ _ => False) st s 1 n (bA3 sb v z)) (F0 m pc L [.ref w]) :=
  vx_ret (W.aret hx hb hr (Or.inr ⟨_, rfl⟩) (Or.inr ⟨w, rfl⟩) (fun t ht _ => ⟨⟨w, hzw, rfl, by rw [ht]; exact hP⟩, hS.F ht⟩) hS.2.2 hdg hlocks)
end SBK2
