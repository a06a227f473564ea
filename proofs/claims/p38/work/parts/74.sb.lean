/-! A BUILDER'S METHODS: the words they need; calls of them -/
theorem goodWord_sel (C : String) (x y : MethodName) : goodWord (Cond.selects C x y) = true := rfl
theorem bWg_good {ws : List Cond} (h : ∀ w ∈ ws, w ∈ bWg) : GoodIn bWg ws := fun w hw => by
  refine ⟨h w hw, good_of_word ?_⟩
  rcases List.mem_append.mp (h w hw) with q | q
  · obtain ⟨y, -, rfl⟩ := List.mem_map.mp q
    rfl
  · exact (List.mem_filter.mp q).2
theorem bWg_a {w : Cond} (h : w ∈ aWg) : w ∈ bWg := List.mem_append_right _ h
theorem bWg_hts {s : State} {args : Array Value} (hts : ∀ w ∈ aWg, w.before args s = true) (hpv : ∀ y, y ∈ aPvB → va_Nw (.selects "java/lang/StringBuilder" y y) s) : ∀ w ∈ bWg, w.before args s = true := fun w hw => by
  rcases List.mem_append.mp hw with q | q
  · obtain ⟨y, hy, rfl⟩ := List.mem_map.mp q
    exact (hpv y hy).use rfl
  · exact hts w q
/-- the words for a call of y by link idx of own, on a builder -/
def bU (own : String) (idx : Nat) (y : MethodName) (b : ByteArray) (nl : Nat) (rt : Option FieldType) (np : Nat) : Prop :=
  (Cond.methodLink own idx y ∈ bWg ∧ Cond.sameMethod y.cls y.cls y.name y.desc ∈ bWg ∧ Cond.selects RSB y y ∈ bWg ∧ Cond.instanceMethod y ∈ bWg ∧ Cond.initialized y.cls ∈ bWg ∧ Cond.code y b nl rt ∈ bWg) ∧ y.cls ≠ "java/lang/invoke/MethodHandle" ∧ y.cls ≠ "java/lang/invoke/VarHandle" ∧ (parseMethodDescriptor y.desc).map (fun d => d.parameters.length) = some np
section SBC
variable {p : Program} {l : Launch} {e : Env} {R : Room} {s : State} {m : MethodId} {args : Array Value} {below : List Frame} {meth : Method} {c : Code} {H : Heap} {locs : List Loc} {Q : State → Prop} {A0 : Nat → Prop} {H0 : Heap} {nL : Nat} {own : String} {cc : ByteArray}
variable {pc k1 k2 d idx nl np sb v n n1 : Nat} {L : Array Slot} {rest st0 vs : List Value} {r : Option Value} {y : MethodName} {b : ByteArray} {rt : Option FieldType} {D : va_G} {cA : ClassId} {f f1 : Nat → Int32} {tx : Option (List Int32 × Nat × Nat)}
theorem b_callU (hx : p.tables.exec = Jvm.exec) (hb : c.code = cc) (hml : c.maxLocals = nL) (hown : s.vm.findClass own = some m.cls) (hts : ∀ w ∈ bWg, w.before args s = true) (hP : va_P D bCl (bWs cA sb v n f) H) (hK : bKn D cA (bA sb v) tx s H) (hS : va_S A0 H0 H locs) (hAA : ∀ q, bA sb v q → A0 q)
    (hcon : bCon l y b nl rt d (.ref sb :: vs) r D cA sb v n f n1 f1 tx) (hU : bU own idx y b nl rt np) (hR : d + 2 ≤ R.frames ∧ 8 + (nl + 11) + (30 * d + 40) ≤ R.locals) (hn : vs.length = np) (hsz : L.size = nL) (hr : (rest.map fun v => v.category).sum ≤ 8) (hk : k1 ≤ R.cells ∧ k2 ≤ R.slots) (hd : decode cc pc = .ok (.invokevirtual idx, 3))
    (K : ∀ (H1 : Heap) (locs1 : List Loc), va_P D bCl (bWs cA sb v n1 f1) H1 → (H.size ≤ H1.size ∧ ∀ q : Nat, q < H.size → ¬ bA sb v q → H1[q]? = H[q]?) → va_S A0 H0 H1 locs1 → W p l e R s m args below meth c H1 locs1 k1 k2 Q (F0 m (pc + 3) L (r.toList ++ rest))) : W p l e R s m args below meth c H locs k1 k2 Q (F0 m pc L (vs.reverse ++ .ref sb :: rest)) := by
  obtain ⟨⟨u1, u2, u3, u4, u5, u6⟩, u7, u8, u9⟩ := hU
  have hcw : va_CU R s args own RSB y.cls idx y y b nl rt (Cond.code y b nl rt :: bWg) (bRm d) 0 0 np := va_cwU np hts (bWg_good (fun w hw => by
    simp only [va_wsU, List.cons_append, List.nil_append, List.mem_cons] at hw
    rcases hw with rfl | rfl | rfl | rfl | rfl | rfl | hw
    · exact u1
    · exact u2
    · exact u3
    · exact u4
    · exact u5
    · exact u6
    · exact hw)) rfl rfl rfl rfl ⟨u7, u8, u9⟩ hR
  have hrun := va_runU (As := vs) (b := sb) (rest := rest) (g := F0 m pc L (vs.reverse ++ .ref sb :: rest)) (locs := locs) (cells := k1) (slots := k2) (below := below) (meth := meth) (e := e) ⟨hx, hb, hml, hown, hts⟩ hcon hcw ⟨bPc.blind, b_recv hP hK, (b_pre hP hK (vs := .ref sb :: vs)).2⟩ rfl hn hsz rfl (by show 2 * 0 + _ ≤ 8; omega) hd hk
  exact b_ret hS hAA hrun K
/-- a static method -/
theorem b_callS (hx : p.tables.exec = Jvm.exec) (hb : c.code = cc) (hml : c.maxLocals = nL) (hown : s.vm.findClass own = some m.cls) (hts : ∀ w ∈ bWg, w.before args s = true) (hP : va_P D bCl (bWs cA sb v n f) H) (hK : bKn D cA (bA sb v) tx s H) (hS : va_S A0 H0 H locs) (hAA : ∀ q, bA sb v q → A0 q)
    (hcon : bCon l y b nl rt d vs r D cA sb v n f n1 f1 tx) (hy : Cond.code y b nl rt ∈ bWg ∧ Cond.initialized y.cls ∈ bWg ∧ y.cls ≠ "java/lang/invoke/MethodHandle" ∧ y.cls ≠ "java/lang/invoke/VarHandle" ∧ (parseMethodDescriptor y.desc).map (fun d => d.parameters.length) = some np) (hl : Cond.methodLink own idx y ∈ bWg) (hs : Cond.static y ∈ bWg) (hR : d + 2 ≤ R.frames ∧ 8 + (nl + 11) + (30 * d + 40) ≤ R.locals) (hn : vs.length = np) (hsz : L.size = nL) (hr : (rest.map fun v => v.category).sum ≤ 8) (hk : k1 ≤ R.cells ∧ k2 ≤ R.slots) (hd : decode cc pc = .ok (.invokestatic idx, 3))
    (K : ∀ (H1 : Heap) (locs1 : List Loc), va_P D bCl (bWs cA sb v n1 f1) H1 → (H.size ≤ H1.size ∧ ∀ q : Nat, q < H.size → ¬ bA sb v q → H1[q]? = H[q]?) → va_S A0 H0 H1 locs1 → W p l e R s m args below meth c H1 locs1 k1 k2 Q (F0 m (pc + 3) L (r.toList ++ rest))) : W p l e R s m args below meth c H locs k1 k2 Q (F0 m pc L (vs.reverse ++ rest)) := by
  have hcw : CallB R s args own idx y b nl rt (Cond.code y b nl rt :: bWg) (bRm d) 0 0 np ∧ (Cond.static y).before args s = true := va_cwS np hts (bWg_good (fun w hw => by
    simp only [va_wsS, List.cons_append, List.nil_append, List.mem_cons] at hw
    rcases hw with rfl | rfl | rfl | rfl | hw
    · exact hl
    · exact hs
    · exact hy.2.1
    · exact hy.1
    · exact hw)) rfl rfl rfl ⟨hy.2.2.1, hy.2.2.2.1, hy.2.2.2.2⟩ hR
  have hrun := va_runS (As := vs) (rest := rest) (g := F0 m pc L (vs.reverse ++ rest)) (locs := locs) (cells := k1) (slots := k2) (below := below) (meth := meth) (e := e) ⟨hx, hb, hml, hown, hts⟩ hcon hcw (b_pre hP hK) rfl hn hsz rfl (by show 2 * 0 + _ ≤ 8; omega) hd hk
  exact b_ret hS hAA hrun K
/-- a contract out of the body's walk -/
theorem b_of (hy : plainName y.cls = true) (body : ∀ (p : Program) (e : Env) (s : State) (m : MethodId) (below : List Frame) (meth : Method) (c : Code), p.tables.exec = Jvm.exec → c.code = b → c.maxLocals = nl → s.vm.findClass y.cls = some m.cls → (∀ w ∈ bWg, w.before vs.toArray s = true) → meth.locks = false → meth.sig.returnType = rt → va_P D bCl (bWs cA sb v n f) s.heap → bKn D cA (bA sb v) tx s s.heap →
      W p l e (bRm d) s m vs.toArray below meth c s.heap [] 0 0 (vx_MQ below (bQc D cA sb v n1 f1 r) (fun _ _ _ => False) vs.toArray s 0 0 (bA sb v)) (F0 m 0 ((lg_sl vs ++ List.replicate (nl - (lg_sl vs).length) Slot.unset).toArray) [])) : bCon l y b nl rt d vs r D cA sb v n f n1 f1 tx := by
  refine vx_toMet (XC := fun _ _ _ => False) (vx_ofW (ws' := bWg) hy rfl (fun p e s m args below meth c s₁ B hml ht hP => ?_)) (fun _ _ _ h => h)
  obtain ⟨rfl, hP, hK⟩ := hP
  have hts := atoms_spec (ws := Cond.code y b nl rt :: bWg) B.pre
  have hw := body p e s m below meth c B.exec B.bytes hml (findClass_of_methodNamed B.named) (fun w hw => hts w (List.mem_cons_of_mem _ hw)) B.notSynchronized B.returns hP hK
  rw [← lg_entry_eq] at hw
  exact hw
end SBC
