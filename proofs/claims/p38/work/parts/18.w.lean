/-! THE STRINGS' METHODS: WHAT IS KNOWN OF A STRING, CONTRACTS THAT WRITE NOTHING -/
abbrev jN : Nat → Prop := fun _ => False
def jP (ci a v : Nat) (vs : List Value) : Array Value → State → Prop := fun av U => av = vs.toArray ∧ jStr ci a v jN U U.heap
def jQ (r : Option Value) : Array Value → State → Outcome → State → Prop := fun _ st o t => o = .returned r ∧ t.heap = st.heap
def jRm (j : Nat) : Room := { frames := j + 1, cells := 0, slots := 0, locals := 30 * j + 30 }
def jCon (l : Launch) (y : MethodName) (b : ByteArray) (n : Nat) (rt : Option FieldType) (d : Nat) (vs : List Value) (r : Option Value) (ci a v : Nat) : Prop :=
  Met l y (Cond.code y b n rt :: aWg) (jRm d) (jP ci a v vs) (jQ r) 0 0 jN
theorem jP.blind {ci a v : Nat} {vs : List Value} : FrameBlind (jP ci a v vs) := by
  intro x U g mk q
  exact ⟨q.1, jStr.moved (U := U.calling g mk x) (Vm.Alike.refl U.vm) q.2⟩
section SJ1
variable {p : Program} {l : Launch} {e : Env} {R : Room} {s : State} {m : MethodId} {args : Array Value} {below : List Frame} {meth : Method} {c : Code} {H : Heap} {locs : List Loc} {Q : State → Prop} {A : Nat → Prop} {nL : Nat} {own : String} {cc : ByteArray}
variable {pc k1 k2 ci a v d idx n np : Nat} {L : Array Slot} {rest st0 vs : List Value} {r : Option Value} {y : MethodName} {b : ByteArray} {rt : Option FieldType}
theorem j_pre (hJ : jStr ci a v A s H) : PreS s H (jP ci a v vs) vs :=
  ⟨jP.blind, fun U hU hW => ⟨rfl, by rw [hU]; exact (hJ.moved hW.alike).narrow (fun _ h => h.elim)⟩⟩
theorem j_recv (hJ : jStr ci a v A s H) : ∃ cell : Cell, H[a]? = some cell ∧ cell.vm.isStatics = false ∧ s.vm.findClass "java/lang/String" = some cell.cls := by
  obtain ⟨cell, h1, h2, h3, -⟩ := (hJ.2.2.1 0 (by decide)).1
  exact ⟨cell, h1, h2, h3⟩
theorem j_ret {x : Array Value} (hr : va_Run p l e R s m args below meth c H locs k1 k2 0 0 (F0 m pc L st0) rest (jQ r x) jN) (K : W p l e R s m args below meth c H locs k1 k2 Q (F0 m (pc + 3) L (r.toList ++ rest))) : W p l e R s m args below meth c H locs k1 k2 Q (F0 m pc L st0) := by
  intro T hT X
  obtain ⟨v9, st₀, t, T', Ls, h0, X', hL, e1, e2, ⟨eo, eh⟩, stp⟩ := hr T hT X
  have e4 : Ls = [] := List.eq_nil_iff_forall_not_mem.mpr fun z hz => hL z hz
  subst e4
  cases eo
  rw [List.append_nil] at X'
  obtain ⟨t2, a1, b1⟩ := K T' (by rw [e1, eh, h0]) X'
  exact ⟨t2, stp t2 a1, b1⟩
theorem j_callV (hx : p.tables.exec = Jvm.exec) (hb : c.code = cc) (hml : c.maxLocals = nL) (hown : s.vm.findClass own = some m.cls) (hts : ∀ w ∈ aWg, w.before args s = true) (hJ : jStr ci a v A s H) (_ : va_S A s.heap H locs)
    (hcon : jCon l y b n rt d (.ref a :: vs) r ci a v) (hc : y.cls = "java/lang/String") (hy : aMy y b n rt np) (hl : Cond.methodLink own idx y ∈ aWg) (hi : Cond.instanceMethod y ∈ aWg) (hs : Cond.selects y.cls y y ∈ aWg) (hR : d + 2 ≤ R.frames ∧ 8 + (n + 11) + (30 * d + 30) ≤ R.locals) (hn : vs.length = np) (hsz : L.size = nL) (hr : (rest.map fun v => v.category).sum ≤ 8) (hk : k1 ≤ R.cells ∧ k2 ≤ R.slots) (hd : decode cc pc = .ok (.invokevirtual idx, 3))
    (K : W p l e R s m args below meth c H locs k1 k2 Q (F0 m (pc + 3) L (r.toList ++ rest))) : W p l e R s m args below meth c H locs k1 k2 Q (F0 m pc L (vs.reverse ++ .ref a :: rest)) := by
  have hcw : CallW R s args own y.cls idx y b n rt (Cond.code y b n rt :: aWg) (jRm d) 0 0 np := cwV np hts (aWg_good (fun w hw => by
    simp only [wsV, List.cons_append, List.nil_append, List.mem_cons] at hw
    rcases hw with rfl | rfl | rfl | rfl | rfl | hw
    · exact hl
    · exact hi
    · exact hs
    · exact hy.2.1
    · exact hy.1
    · exact hw)) rfl rfl rfl ⟨rfl, hy.2.2.1, hy.2.2.2.1, hy.2.2.2.2.1⟩ hR
  have hrun := va_runV (As := vs) (b := a) (rest := rest) (g := F0 m pc L (vs.reverse ++ .ref a :: rest)) (locs := locs) (cells := k1) (slots := k2) (below := below) (meth := meth) (e := e) ⟨hx, hb, hml, hown, hts⟩ hcon hcw ⟨jP.blind, by rw [hc]; exact j_recv hJ, (j_pre hJ (vs := .ref a :: vs)).2⟩ rfl hn hsz rfl (by show 2 * 0 + _ ≤ 8; omega) hd hk
  exact j_ret hrun K
theorem j_callS (hx : p.tables.exec = Jvm.exec) (hb : c.code = cc) (hml : c.maxLocals = nL) (hown : s.vm.findClass own = some m.cls) (hts : ∀ w ∈ aWg, w.before args s = true) (hJ : jStr ci a v A s H) (_ : va_S A s.heap H locs)
    (hcon : jCon l y b n rt d vs r ci a v) (hy : aMy y b n rt np) (hl : Cond.methodLink own idx y ∈ aWg) (hs : Cond.static y ∈ aWg) (hR : d + 2 ≤ R.frames ∧ 8 + (n + 11) + (30 * d + 30) ≤ R.locals) (hn : vs.length = np) (hsz : L.size = nL) (hr : (rest.map fun v => v.category).sum ≤ 8) (hk : k1 ≤ R.cells ∧ k2 ≤ R.slots) (hd : decode cc pc = .ok (.invokestatic idx, 3))
    (K : W p l e R s m args below meth c H locs k1 k2 Q (F0 m (pc + 3) L (r.toList ++ rest))) : W p l e R s m args below meth c H locs k1 k2 Q (F0 m pc L (vs.reverse ++ rest)) := by
  have hcw : CallB R s args own idx y b n rt (Cond.code y b n rt :: aWg) (jRm d) 0 0 np ∧ (Cond.static y).before args s = true := va_cwS np hts (aWg_good (fun w hw => by
    simp only [va_wsS, List.cons_append, List.nil_append, List.mem_cons] at hw
    rcases hw with rfl | rfl | rfl | rfl | hw
    · exact hl
    · exact hs
    · exact hy.2.1
    · exact hy.1
    · exact hw)) rfl rfl rfl ⟨hy.2.2.1, hy.2.2.2.1, hy.2.2.2.2.1⟩ hR
  have hrun := va_runS (As := vs) (rest := rest) (g := F0 m pc L (vs.reverse ++ rest)) (locs := locs) (cells := k1) (slots := k2) (below := below) (meth := meth) (e := e) ⟨hx, hb, hml, hown, hts⟩ hcon hcw (j_pre hJ) rfl hn hsz rfl (by show 2 * 0 + _ ≤ 8; omega) hd hk
  exact j_ret hrun K
/-- the contract out of the body's walk -/
theorem j_of (hy : plainName y.cls = true) (body : ∀ (p : Program) (e : Env) (s : State) (m : MethodId) (below : List Frame) (meth : Method) (c : Code), p.tables.exec = Jvm.exec → c.code = b → c.maxLocals = n → s.vm.findClass y.cls = some m.cls → (∀ w ∈ aWg, w.before vs.toArray s = true) → meth.locks = false → meth.sig.returnType = rt → jStr ci a v jN s s.heap →
      W p l e (jRm d) s m vs.toArray below meth c s.heap [] 0 0 (vx_MQ below (jQ r) (fun _ _ _ => False) vs.toArray s 0 0 jN) (F0 m 0 ((lg_sl vs ++ List.replicate (n - (lg_sl vs).length) Slot.unset).toArray) [])) : jCon l y b n rt d vs r ci a v := by
  refine vx_toMet (XC := fun _ _ _ => False) (vx_ofW (ws' := aWg) hy rfl (fun p e s m args below meth c s₁ B hml ht hP => ?_)) (fun _ _ _ h => h)
  obtain ⟨rfl, hJ⟩ := hP
  have hts := atoms_spec (ws := Cond.code y b n rt :: aWg) B.pre
  have hw := body p e s m below meth c B.exec B.bytes hml (findClass_of_methodNamed B.named) (fun w hw => hts w (List.mem_cons_of_mem _ hw)) B.notSynchronized B.returns hJ
  rw [← lg_entry_eq] at hw
  exact hw
theorem j_zret {z : Int32} {ty : FieldType} {st : Array Value} (hx : p.tables.exec = Jvm.exec) (hb : c.code = cc) (hr : meth.sig.returnType = some ty) (hn : narrow ty (.int z) = .int z) (hlocks : meth.locks = false) (hdg : decode cc pc = .ok (.ireturn, 1)) : W p l e R s m st below meth c s.heap [] 0 0 (vx_MQ below (jQ (some (.int z))) (fun _ _ _ => False) st s 0 0 jN) (F0 m pc L [.int z]) :=
  vx_ret (W.zret hx hb hr hn (fun t ht _ => ⟨rfl, ht⟩) (fun q h => nomatch h) hdg hlocks)
theorem j_vret {st : Array Value} (hx : p.tables.exec = Jvm.exec) (hb : c.code = cc) (hr : meth.sig.returnType = none) (hlocks : meth.locks = false) (hdg : decode cc pc = .ok (.return_, 1)) : W p l e R s m st below meth c s.heap [] 0 0 (vx_MQ below (jQ none) (fun _ _ _ => False) st s 0 0 jN) (F0 m pc L []) :=
  vx_ret (W.vret hx hb hr (fun t ht _ => ⟨rfl, ht⟩) (fun q h => nomatch h) hdg hlocks)
end SJ1
