/-! STRINGS BY THEIR LETTERS: coder, length -/
def gP (tx : List Int32) (a v : Nat) (vs : List Value) : Array Value → State → Prop := fun av U => av = vs.toArray ∧ gStr tx a v jN U U.heap
def gCon (l : Launch) (y : MethodName) (b : ByteArray) (n : Nat) (rt : Option FieldType) (d : Nat) (vs : List Value) (r : Option Value) (tx : List Int32) (a v : Nat) : Prop :=
  Met l y (Cond.code y b n rt :: aWg) (jRm d) (gP tx a v vs) (jQ r) 0 0 jN
theorem gP.blind {tx : List Int32} {a v : Nat} {vs : List Value} : FrameBlind (gP tx a v vs) := by
  intro x U g mk q
  exact ⟨q.1, gStr.moved (U := U.calling g mk x) (Vm.Alike.refl U.vm) q.2⟩
section SG1
variable {p : Program} {l : Launch} {e : Env} {R : Room} {s : State} {m : MethodId} {args : Array Value} {below : List Frame} {meth : Method} {c : Code} {H : Heap} {locs : List Loc} {Q : State → Prop} {A : Nat → Prop} {nL : Nat} {own : String} {cc : ByteArray}
variable {tx : List Int32} {pc k1 k2 a v d idx n np : Nat} {L : Array Slot} {rest st0 vs : List Value} {r : Option Value} {y : MethodName} {b : ByteArray} {rt : Option FieldType}
theorem gs_pre (hJ : gStr tx a v A s H) : PreS s H (gP tx a v vs) vs :=
  ⟨gP.blind, fun U hU hW => ⟨rfl, by rw [hU]; exact (hJ.moved hW.alike).narrow (fun _ h => h.elim)⟩⟩
theorem gs_recv (hJ : gStr tx a v A s H) : ∃ cell : Cell, H[a]? = some cell ∧ cell.vm.isStatics = false ∧ s.vm.findClass "java/lang/String" = some cell.cls := by
  obtain ⟨cell, h1, h2, h3, -⟩ := (hJ.2.2.1 0 (by decide)).1
  exact ⟨cell, h1, h2, h3⟩
theorem gs_callV (hx : p.tables.exec = Jvm.exec) (hb : c.code = cc) (hml : c.maxLocals = nL) (hown : s.vm.findClass own = some m.cls) (hts : ∀ w ∈ aWg, w.before args s = true) (hJ : gStr tx a v A s H) (_ : va_S A s.heap H locs)
    (hcon : gCon l y b n rt d (.ref a :: vs) r tx a v) (hc : y.cls = "java/lang/String") (hy : aMy y b n rt np) (hl : Cond.methodLink own idx y ∈ aWg) (hi : Cond.instanceMethod y ∈ aWg) (hs : Cond.selects y.cls y y ∈ aWg) (hR : d + 2 ≤ R.frames ∧ 8 + (n + 11) + (30 * d + 30) ≤ R.locals) (hn : vs.length = np) (hsz : L.size = nL) (hr : (rest.map fun v => v.category).sum ≤ 8) (hk : k1 ≤ R.cells ∧ k2 ≤ R.slots) (hd : decode cc pc = .ok (.invokevirtual idx, 3))
    (K : W p l e R s m args below meth c H locs k1 k2 Q (F0 m (pc + 3) L (r.toList ++ rest))) : W p l e R s m args below meth c H locs k1 k2 Q (F0 m pc L (vs.reverse ++ .ref a :: rest)) := by
  have hcw : CallW R s args own y.cls idx y b n rt (Cond.code y b n rt :: aWg) (jRm d) 0 0 np := cwV np hts (aWg_good (fun w hw => by
    simp only [wsV, List.cons_append, List.nil_append, List.mem_cons] at hw
    rcases hw with rfl | rfl | rfl | rfl | rfl | hw
    · exact hl
    · exact hi
    · exact hs
    · exact hy.2.1
    · exact hy.1
    · exact hw)) rfl rfl rfl ⟨rfl, hy.2.2.1, hy.2.2.2.1, hy.2.2.2.2.1⟩ hR
  have hrun := va_runV (As := vs) (b := a) (rest := rest) (g := F0 m pc L (vs.reverse ++ .ref a :: rest)) (locs := locs) (cells := k1) (slots := k2) (below := below) (meth := meth) (e := e) ⟨hx, hb, hml, hown, hts⟩ hcon hcw ⟨gP.blind, by rw [hc]; exact gs_recv hJ, (gs_pre hJ (vs := .ref a :: vs)).2⟩ rfl hn hsz rfl (by show 2 * 0 + _ ≤ 8; omega) hd hk
  exact j_ret hrun K
/-- the contract out of the body's walk -/
theorem gs_of (hy : plainName y.cls = true) (body : ∀ (p : Program) (e : Env) (s : State) (m : MethodId) (below : List Frame) (meth : Method) (c : Code), p.tables.exec = Jvm.exec → c.code = b → c.maxLocals = n → s.vm.findClass y.cls = some m.cls → (∀ w ∈ aWg, w.before vs.toArray s = true) → meth.locks = false → meth.sig.returnType = rt → gStr tx a v jN s s.heap →
      W p l e (jRm d) s m vs.toArray below meth c s.heap [] 0 0 (vx_MQ below (jQ r) (fun _ _ _ => False) vs.toArray s 0 0 jN) (F0 m 0 ((lg_sl vs ++ List.replicate (n - (lg_sl vs).length) Slot.unset).toArray) [])) : gCon l y b n rt d vs r tx a v := by
  refine vx_toMet (XC := fun _ _ _ => False) (vx_ofW (ws' := aWg) hy rfl (fun p e s m args below meth c s₁ B hml ht hP => ?_)) (fun _ _ _ h => h)
  obtain ⟨rfl, hJ⟩ := hP
  have hts := atoms_spec (ws := Cond.code y b n rt :: aWg) B.pre
  have hw := body p e s m below meth c B.exec B.bytes hml (findClass_of_methodNamed B.named) (fun w hw => hts w (List.mem_cons_of_mem _ hw)) B.notSynchronized B.returns hJ
  rw [← lg_entry_eq] at hw
  exact hw
end SG1
section SG4
variable {l : Launch} {tx : List Int32} {a v : Nat} {x : Int32}
theorem gs_cod : gCon l jyCod prog_27_method_152_code 1 (some .byte) 0 [.ref a] (some (.int 0)) tx a v := by
  refine gs_of (by decide) (fun p e s m below meth c hx hb hml hown hts hlk hret hJ => ?_)
  have hS : va_S jN s.heap s.heap [] := va_S.rf
  refine va_gets hx hb hJ.1 hS hown (hts _ jl_38) (fun _ z => z) (by decide +kernel) ?_
  refine lv_if_eq hx hb (off := 10) (tgt := 13) (by decide +kernel) (by decide) (fun h => absurd h (by decide)) (fun _ => ?_)
  refine lv_aload_n hx hb (k := 0) (i := 0) (x := a) (by decide +kernel) rfl rfl ?_
  refine vk_getf hx hb (hJ.2.2.1 0 (by decide)).2.1 hS hown (hts _ jl_15) (fun _ z => z) (by decide +kernel) ?_
  refine lv_goto hx hb (off := 4) (tgt := 14) (by decide +kernel) (by decide) ?_
  exact j_zret hx hb hret rfl hlk (by decide +kernel)
theorem gs_len : gCon l jyLen prog_27_method_54_code 1 (some .int) 1 [.ref a] (some (.int (Int32.ofNat tx.length))) tx a v := by
  refine gs_of (by decide) (fun p e s m below meth c hx hb hml hown hts hlk hret hJ => ?_)
  have hS : va_S jN s.heap s.heap [] := va_S.rf
  have hT : va_T .byte v tx.length (fun j => .int (tx.getD j 0)) jN s s.heap := (hJ.2.2.1 0 (by decide)).2.2.2
  refine lv_aload_n hx hb (k := 0) (i := 0) (x := a) (by decide +kernel) rfl rfl ?_
  refine vk_getf hx hb (hJ.2.2.1 0 (by decide)).2.2.1 hS hown (hts _ jl_9) (fun _ z => z) (by decide +kernel) ?_
  refine va_tlen hx hb hT hS (v := Int32.ofNat tx.length) rfl (by decide +kernel) ?_
  refine lv_aload_n hx hb (k := 0) (i := 0) (x := a) (by decide +kernel) rfl rfl ?_
  refine gs_callV (vs := []) (rest := [.int (Int32.ofNat tx.length)]) (own := "java/lang/String") hx hb hml hown hts hJ hS gs_cod rfl jmCod jl_335 ji_Cod.1 ji_Cod.2 ⟨by decide, by decide⟩ rfl rfl (by show 1 ≤ 8; decide) ⟨by decide, by decide⟩ (by decide +kernel) ?_
  refine lv_ishr hx hb (by decide +kernel) ?_
  have e9 : (Int32.ofNat tx.length) >>> ((0 : Int32) &&& 31) = Int32.ofNat tx.length := by
    rw [show (0 : Int32) &&& 31 = 0 from by decide]
    exact Int32.shiftRight_zero
  rw [e9]
  exact j_zret hx hb hret rfl hlk (by decide +kernel)
end SG4
