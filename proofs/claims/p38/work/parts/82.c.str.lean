/-! A NEW STRING OUT OF A BUILDER: AbstractStringBuilder.length, String.<init>, toString -/
def RST : String := "java/lang/String"
def TST : u_T := fun k => match k with
  | 0 => (RST, "value", "[B", true)
  | 1 => (RST, "coder", "B", true)
  | 2 => (RST, "hash", "I", false)
  | _ => (RST, "hashIsZero", "Z", false)
def tyST : Nat → FieldType := fun k => match k with
  | 0 => .array .byte
  | 1 => .byte
  | 2 => .int
  | _ => .boolean
abbrev sCl : List vw_C := [(RSB, TSB, 4), (RST, TST, 4)]
theorem nST : ∀ a, a < 4 → ∀ b, b < 4 → a ≠ b → (TST a).2.1 ≠ (TST b).2.1 := by decide +kernel
theorem tST_ok : ∀ k, k < 4 → parseFieldDescriptor (TST k).2.2.1 = some (tyST k) := by decide +kernel
def syA : MethodName := ⟨RST, "<init>", "(Ljava/lang/AbstractStringBuilder;Ljava/lang/Void;)V"⟩
def syB : MethodName := ⟨RST, "<init>", "(Ljava/lang/StringBuilder;)V"⟩
def syLen : MethodName := ⟨RSB, "length", "()I"⟩
def syLn0 : MethodName := ⟨RAB, "length", "()I"⟩
def syTo : MethodName := ⟨RSB, "toString", "()Ljava/lang/String;"⟩
def bW7 : List Cond := [.code syA prog_27_method_150_code 5 none, .instanceMethod syA, .initialized RST, .methodLink RST 489 syA, .code syB prog_27_method_53_code 2 none, .instanceMethod syB, .methodLink RSB 137 syB,
  .methodLink RST 1 Lib.objectInit, .methodLink RST 552 byVal, .methodLink RST 1047 byIsL, .methodLink RST 549 syLn0, .instanceMethod syLn0, .sameMethod RAB RAB "length" "()I", .selects RSB syLn0 syLen, .instanceMethod syLen, .code syLen prog_28_method_93_code 1 (some .int), .initialized RSB, .methodLink RSB 343 syLn0, .code syLn0 prog_12_method_6_code 1 (some .int), .initialized RAB, .superclass RSB RAB,
  .fieldLink RST 9 RST "value" "[B", .fieldLink RST 15 RST "coder" "B", u_lay RST TST 0, u_lay RST TST 1, u_lay RST TST 2, u_lay RST TST 3, .classLink RSB 18 RST, .instantiable RST 4, .code syTo prog_28_method_42_code 1 (some (.object RST)), .instanceMethod syTo, .selects RSB syTo syTo, .instantiable RSB 4]
set_option maxRecDepth 100000 in
theorem bW7_ok : (bW7.all fun w => decide (w ∈ aWg)) = true := by decide +kernel
theorem bw7 {w : Cond} (h : w ∈ bW7) : w ∈ bWg := bWg_a (of_decide_eq_true (List.all_eq_true.mp bW7_ok w h))
theorem sLay : ∀ w ∈ u_ws RST TST 4, w ∈ bWg := fun w h => by
  have h : w ∈ [u_lay RST TST 0, u_lay RST TST 1, u_lay RST TST 2, u_lay RST TST 3] := h
  simp only [List.mem_cons, List.not_mem_nil, or_false] at h
  rcases h with rfl | rfl | rfl | rfl
  · exact bw7 (by decide +kernel)
  · exact bw7 (by decide +kernel)
  · exact bw7 (by decide +kernel)
  · exact bw7 (by decide +kernel)
theorem bU_Val : bU RST 552 byVal prog_12_method_64_code 1 (some (.array .byte)) 0 := ⟨⟨bw7 (by decide +kernel), bw (by decide +kernel), bw (by decide +kernel), bw (by decide +kernel), bw (by decide +kernel), bw (by decide +kernel)⟩, by decide, by decide, by decide +kernel⟩
theorem bU_IsS : bU RST 1047 byIsL prog_12_method_68_code 1 (some .boolean) 0 := ⟨⟨bw7 (by decide +kernel), bw (by decide +kernel), bw (by decide +kernel), bw (by decide +kernel), bw (by decide +kernel), bw (by decide +kernel)⟩, by decide, by decide, by decide +kernel⟩
theorem bSU_Ln0 : bSU 343 syLn0 prog_12_method_6_code 1 (some .int) 0 := ⟨⟨bw7 (by decide +kernel), bw7 (by decide +kernel), bw7 (by decide +kernel), bw7 (by decide +kernel), bw7 (by decide +kernel), bw7 (by decide +kernel)⟩, by decide, by decide +kernel⟩
theorem sl_9 : Cond.fieldLink RST 9 RST "value" "[B" ∈ bWg ∧ Cond.fieldLink RST 15 RST "coder" "B" ∈ bWg := ⟨bw7 (by decide +kernel), bw7 (by decide +kernel)⟩
theorem sl_1 : Cond.methodLink RST 1 Lib.objectInit ∈ bWg := bw7 (by decide +kernel)
theorem smA : Cond.code syA prog_27_method_150_code 5 none ∈ bWg ∧ Cond.instanceMethod syA ∈ bWg ∧ Cond.initialized syA.cls ∈ bWg ∧ Cond.methodLink RST 489 syA ∈ bWg := ⟨bw7 (by decide +kernel), bw7 (by decide +kernel), bw7 (by decide +kernel), bw7 (by decide +kernel)⟩
theorem smB : Cond.code syB prog_27_method_53_code 2 none ∈ bWg ∧ Cond.instanceMethod syB ∈ bWg ∧ Cond.initialized syB.cls ∈ bWg ∧ Cond.methodLink RSB 137 syB ∈ bWg := ⟨bw7 (by decide +kernel), bw7 (by decide +kernel), bw7 (by decide +kernel), bw7 (by decide +kernel)⟩
theorem sl_n : Cond.classLink RSB 18 RST ∈ bWg ∧ Cond.instantiable RST 4 ∈ bWg ∧ Cond.initialized RST ∈ bWg := ⟨bw7 (by decide +kernel), bw7 (by decide +kernel), bw7 (by decide +kernel)⟩
/-- the words of a call whose reference names another method's code -/
def bO (own : String) (idx : Nat) (x y : MethodName) (b : ByteArray) (nl : Nat) (rt : Option FieldType) (b0 : ByteArray) (m0 : Nat) (r0 : Option FieldType) (np : Nat) : Prop :=
  (Cond.methodLink own idx x ∈ bWg ∧ Cond.sameMethod x.cls x.cls x.name x.desc ∈ bWg ∧ Cond.instanceMethod ⟨x.cls, x.name, x.desc⟩ ∈ bWg ∧ Cond.selects RSB x y ∈ bWg ∧ Cond.instanceMethod y ∈ bWg ∧ Cond.initialized y.cls ∈ bWg ∧ Cond.code y b nl rt ∈ bWg ∧ Cond.code ⟨x.cls, x.name, x.desc⟩ b0 m0 r0 ∈ bWg) ∧ x.cls ≠ "java/lang/invoke/MethodHandle" ∧ x.cls ≠ "java/lang/invoke/VarHandle" ∧ (parseMethodDescriptor x.desc).map (fun d => d.parameters.length) = some np
theorem bO_Len : bO RST 549 syLn0 syLen prog_28_method_93_code 1 (some .int) prog_12_method_6_code 1 (some .int) 0 := ⟨⟨bw7 (by decide +kernel), bw7 (by decide +kernel), bw7 (by decide +kernel), bw7 (by decide +kernel), bw7 (by decide +kernel), bw7 (by decide +kernel), bw7 (by decide +kernel), bw7 (by decide +kernel)⟩, by decide, by decide, by decide +kernel⟩
section SBO
variable {p : Program} {l : Launch} {e : Env} {R : Room} {s : State} {m : MethodId} {args : Array Value} {below : List Frame} {meth : Method} {c : Code} {H : Heap} {locs : List Loc} {Q : State → Prop} {A0 : Nat → Prop} {H0 : Heap} {nL : Nat} {own : String} {cc : ByteArray}
variable {pc k1 k2 d idx nl np sb v n n1 m0 : Nat} {L : Array Slot} {rest st0 vs : List Value} {r : Option Value} {x y : MethodName} {b b0 : ByteArray} {rt r0 : Option FieldType} {D : va_G} {cA : ClassId} {f f1 : Nat → Int32} {tx : Option (List Int32 × Nat × Nat)}
theorem b_callO (hx : p.tables.exec = Jvm.exec) (hb : c.code = cc) (hml : c.maxLocals = nL) (hown : s.vm.findClass own = some m.cls) (hts : ∀ w ∈ bWg, w.before args s = true) (hP : va_P D bCl (bWs cA sb v n f) H) (hK : bKn D cA (bA sb v) tx s H) (hS : va_S A0 H0 H locs) (hAA : ∀ q, bA sb v q → A0 q)
    (hcon : bCon l y b nl rt d (.ref sb :: vs) r D cA sb v n f n1 f1 tx) (hU : bO own idx x y b nl rt b0 m0 r0 np) (hR : d + 2 ≤ R.frames ∧ 8 + (nl + 11) + (30 * d + 40) ≤ R.locals) (hn : vs.length = np) (hsz : L.size = nL) (hr : (rest.map fun v => v.category).sum ≤ 8) (hk : k1 ≤ R.cells ∧ k2 ≤ R.slots) (hd : decode cc pc = .ok (.invokevirtual idx, 3))
    (K : ∀ (H1 : Heap) (locs1 : List Loc), va_P D bCl (bWs cA sb v n1 f1) H1 → (H.size ≤ H1.size ∧ ∀ q : Nat, q < H.size → ¬ bA sb v q → H1[q]? = H[q]?) → va_S A0 H0 H1 locs1 → W p l e R s m args below meth c H1 locs1 k1 k2 Q (F0 m (pc + 3) L (r.toList ++ rest))) : W p l e R s m args below meth c H locs k1 k2 Q (F0 m pc L (vs.reverse ++ .ref sb :: rest)) := by
  obtain ⟨⟨u1, u2, u3, u4, u5, u6, u7, u8⟩, u9, u10, u11⟩ := hU
  have hcw : va_CU R s args own RSB x.cls idx x y b nl rt (Cond.code y b nl rt :: bWg) (bRm d) 0 0 np := va_cwO np hts (bWg_good (fun w hw => by
    simp only [va_wsO, List.cons_append, List.nil_append, List.mem_cons] at hw
    rcases hw with rfl | rfl | rfl | rfl | rfl | rfl | rfl | hw
    · exact u1
    · exact u2
    · exact u3
    · exact u4
    · exact u5
    · exact u6
    · exact u7
    · exact hw)) rfl rfl rfl u8 ⟨u9, u10, u11⟩ hR
  have hrun := va_runU (As := vs) (b := sb) (rest := rest) (g := F0 m pc L (vs.reverse ++ .ref sb :: rest)) (locs := locs) (cells := k1) (slots := k2) (below := below) (meth := meth) (e := e) ⟨hx, hb, hml, hown, hts⟩ hcon hcw ⟨bPc.blind, b_recv hP hK, (b_pre hP hK (vs := .ref sb :: vs)).2⟩ rfl hn hsz rfl (by show 2 * 0 + _ ≤ 8; omega) hd hk
  exact b_ret hS hAA hrun K
/-- a builder's own method, on a builder -/
theorem b_callB (hx : p.tables.exec = Jvm.exec) (hb : c.code = cc) (hml : c.maxLocals = nL) (hown : s.vm.findClass own = some m.cls) (hts : ∀ w ∈ bWg, w.before args s = true) (hP : va_P D bCl (bWs cA sb v n f) H) (hK : bKn D cA (bA sb v) tx s H) (hS : va_S A0 H0 H locs) (hAA : ∀ q, bA sb v q → A0 q)
    (hcon : bCon l y b nl rt d (.ref sb :: vs) r D cA sb v n f n1 f1 tx) (hc : y.cls = RSB) (hy : bMs y b nl rt np) (hl : Cond.methodLink own idx y ∈ bWg) (hi : Cond.instanceMethod y ∈ bWg) (hs : Cond.selects y.cls y y ∈ bWg) (hR : d + 2 ≤ R.frames ∧ 8 + (nl + 11) + (30 * d + 40) ≤ R.locals) (hn : vs.length = np) (hsz : L.size = nL) (hr : (rest.map fun v => v.category).sum ≤ 8) (hk : k1 ≤ R.cells ∧ k2 ≤ R.slots) (hd : decode cc pc = .ok (.invokevirtual idx, 3))
    (K : ∀ (H1 : Heap) (locs1 : List Loc), va_P D bCl (bWs cA sb v n1 f1) H1 → (H.size ≤ H1.size ∧ ∀ q : Nat, q < H.size → ¬ bA sb v q → H1[q]? = H[q]?) → va_S A0 H0 H1 locs1 → W p l e R s m args below meth c H1 locs1 k1 k2 Q (F0 m (pc + 3) L (r.toList ++ rest))) : W p l e R s m args below meth c H locs k1 k2 Q (F0 m pc L (vs.reverse ++ .ref sb :: rest)) := by
  have hcw : CallW R s args own y.cls idx y b nl rt (Cond.code y b nl rt :: bWg) (bRm d) 0 0 np := cwV np hts (bWg_good (fun w hw => by
    simp only [wsV, List.cons_append, List.nil_append, List.mem_cons] at hw
    rcases hw with rfl | rfl | rfl | rfl | rfl | hw
    · exact hl
    · exact hi
    · exact hs
    · exact hy.2.1
    · exact hy.1
    · exact hw)) rfl rfl rfl ⟨rfl, hy.2.2.1, hy.2.2.2.1, hy.2.2.2.2⟩ hR
  have hrun := va_runV (As := vs) (b := sb) (rest := rest) (g := F0 m pc L (vs.reverse ++ .ref sb :: rest)) (locs := locs) (cells := k1) (slots := k2) (below := below) (meth := meth) (e := e) ⟨hx, hb, hml, hown, hts⟩ hcon hcw ⟨bPc.blind, by rw [hc]; exact b_recv hP hK, (b_pre hP hK (vs := .ref sb :: vs)).2⟩ rfl hn hsz rfl (by show 2 * 0 + _ ≤ 8; omega) hd hk
  exact b_ret hS hAA hrun K
end SBO
section SLN
variable {l : Launch} {n sb v : Nat} {D : va_G} {cA : ClassId} {f : Nat → Int32} {tx : Option (List Int32 × Nat × Nat)}
theorem b_ln0 : bCon l syLn0 prog_12_method_6_code 1 (some .int) 0 [.ref sb] (some (.int (Int32.ofNat n))) D cA sb v n f n f tx := by
  refine b_of (by decide) (fun p e s m below meth c hx hb hml hown hts hlk hret hP hK => ?_)
  have hS : va_S (bA sb v) s.heap s.heap [] := va_S.rf
  refine lv_aload_n hx hb (k := 0) (i := 0) (x := sb) (by decide +kernel) rfl rfl ?_
  refine b_getn hx hb hts hown hK hP (by decide +kernel) ?_
  exact b_zret hx hb hret rfl hlk hP hS (by decide +kernel)
theorem b_len : bCon l syLen prog_28_method_93_code 1 (some .int) 1 [.ref sb] (some (.int (Int32.ofNat n))) D cA sb v n f n f tx := by
  refine b_of (by decide) (fun p e s m below meth c hx hb hml hown hts hlk hret hP hK => ?_)
  have hS : va_S (bA sb v) s.heap s.heap [] := va_S.rf
  refine lv_aload_n hx hb (k := 0) (i := 0) (x := sb) (by decide +kernel) rfl rfl ?_
  refine b_callSU (vs := []) (rest := []) (A0 := bA sb v) (H0 := s.heap) hx hb hml hown hts hP hK hS (fun _ z => z) b_ln0 bSU_Ln0 ⟨by decide, by decide⟩ rfl rfl (by decide) ⟨by decide, by decide⟩ (by decide +kernel) (fun H1 locs1 hP1 hq1 hS1 => ?_)
  exact b_zret hx hb hret rfl hlk hP1 hS1 (by decide +kernel)
end SLN
/-! String.<init>: their contracts -/
def bA4 (sb v q z : Nat) : Nat → Prop := fun x => x = sb ∨ x = v ∨ x = q ∨ z ≤ x
def sO (q : Nat) (w : Value) : Nat × va_E := (q, .inr (1, [w, .int 0, .int 0, .int 0]))
def sB (cA : ClassId) (w n : Nat) (f : Nat → Int32) : Nat × va_E := (w, .inl (cA, n, .inl (va_cpy f (fun _ => 0) 0 0 n)))
def sPc (D : va_G) (cA : ClassId) (sb v n : Nat) (f : Nat → Int32) (q z : Nat) (vs : List Value) : Array Value → State → Prop := fun av U => av = vs.toArray ∧ va_P D bCl (bWs cA sb v n f) U.heap ∧ va_P D sCl [sO q .null] U.heap ∧ U.heap.size = z ∧ bKn D cA (bA4 sb v q z) none U U.heap ∧ va_K D sCl [(cA, .byte)] U ∧ U.vm.findClass "[B" = some cA
def sQc (D : va_G) (cA : ClassId) (sb v n : Nat) (f : Nat → Int32) (q z : Nat) : Array Value → State → Outcome → State → Prop := fun _ st o t => o = .returned none ∧ (∃ w, z ≤ w ∧ va_P D sCl [sO q (.ref w), sB cA w n f] t.heap) ∧ va_F (bA4 sb v q z) st t
def sCon (l : Launch) (y : MethodName) (b : ByteArray) (nL d : Nat) (vs : List Value) (D : va_G) (cA : ClassId) (sb v n : Nat) (f : Nat → Int32) (q z : Nat) : Prop :=
  Met l y (Cond.code y b nL none :: bWg) (qRm d n) (sPc D cA sb v n f q z vs) (sQc D cA sb v n f q z) 1 n (bA4 sb v q z)
theorem sPc.blind {D : va_G} {cA : ClassId} {sb v n q z : Nat} {f : Nat → Int32} {vs : List Value} : FrameBlind (sPc D cA sb v n f q z vs) := by
  intro x U g mk h
  exact ⟨h.1, h.2.1, h.2.2.1, h.2.2.2.1, bKn.moved (U := U.calling g mk x) (Vm.Alike.refl U.vm) h.2.2.2.2.1, va_K.moved (U := U.calling g mk x) (Vm.Alike.refl U.vm) h.2.2.2.2.2.1, h.2.2.2.2.2.2⟩
theorem s_lo {D : va_G} {cA : ClassId} {sb v n : Nat} {f : Nat → Int32} {X : va_W} {H : Heap} (h : va_P D sCl (bWs cA sb v n f ++ X) H) : va_P D bCl (bWs cA sb v n f) H := fun k x hx => by
  match k, hx with
  | 0, hx =>
    cases hx
    obtain ⟨r, h1, h2⟩ := h 0 _ rfl
    exact ⟨r, h1, h2⟩
  | 1, hx =>
    cases hx
    exact h 1 _ rfl
  | k + 2, hx => cases hx
theorem s_up {D : va_G} {cA : ClassId} {sb v n : Nat} {f : Nat → Int32} {H : Heap} (h : va_P D bCl (bWs cA sb v n f) H) : va_P D sCl (bWs cA sb v n f) H := fun k x hx => by
  match k, hx with
  | 0, hx =>
    cases hx
    obtain ⟨r, h1, h2⟩ := h 0 _ rfl
    exact ⟨r, h1, h2⟩
  | 1, hx =>
    cases hx
    exact h 1 _ rfl
  | k + 2, hx => cases hx
theorem D_of {A : Nat → Prop} {ws : va_W} (hn : (ws.map fun x => x.1).Nodup) (hA : ∀ x ∈ ws, A x.1) : va_D A ws := by
  refine ⟨fun i j p q hp hq e => ?_, fun k q hq => hA q (List.mem_of_getElem? hq)⟩
  have hi : i < ws.length := (List.getElem?_eq_some_iff.mp hp).1
  have h2 : (ws.map fun x => x.1)[i]? = (ws.map fun x => x.1)[j]? := by
    rw [List.getElem?_map, List.getElem?_map, hp, hq]
    exact congrArg some e
  have h3 : i < (ws.map fun x => x.1).length := by
    rw [List.length_map]
    exact hi
  first
  | exact List.getElem?_inj h3 hn h2
  | exact (List.getElem?_inj h3 hn).mp h2
section SST
variable {p : Program} {l : Launch} {e : Env} {R : Room} {s : State} {m : MethodId} {args : Array Value} {below : List Frame} {meth : Method} {c : Code} {H : Heap} {locs : List Loc} {Q : State → Prop} {A0 : Nat → Prop} {H0 : Heap} {own : String} {cc : ByteArray}
variable {pc k1 k2 k3 k4 d idx nl nL np sb v n q z w : Nat} {L : Array Slot} {rest st0 vs : List Value} {y : MethodName} {b : ByteArray} {D : va_G} {cA : ClassId} {f : Nat → Int32}
theorem s_of (hy : plainName y.cls = true) (body : ∀ (p : Program) (e : Env) (s : State) (m : MethodId) (below : List Frame) (meth : Method) (c : Code), p.tables.exec = Jvm.exec → c.code = b → c.maxLocals = nl → s.vm.findClass y.cls = some m.cls → (∀ w ∈ bWg, w.before vs.toArray s = true) → meth.locks = false → meth.sig.returnType = none → meth.name = y.name → va_P D bCl (bWs cA sb v n f) s.heap → va_P D sCl [sO q .null] s.heap → s.heap.size = z → bKn D cA (bA4 sb v q z) none s s.heap → va_K D sCl [(cA, .byte)] s → s.vm.findClass "[B" = some cA →
      W p l e (qRm d n) s m vs.toArray below meth c s.heap [] 0 0 (vx_MQ below (sQc D cA sb v n f q z) (fun _ _ _ => False) vs.toArray s 1 n (bA4 sb v q z)) (F0 m 0 ((lg_sl vs ++ List.replicate (nl - (lg_sl vs).length) Slot.unset).toArray) [])) : sCon l y b nl d vs D cA sb v n f q z := by
  refine vx_toMet (XC := fun _ _ _ => False) (vx_ofW (ws' := bWg) hy rfl (fun p e s m args below meth c s₁ B hml ht hP => ?_)) (fun _ _ _ h => h)
  obtain ⟨rfl, hP, hO, hz, hK, hKs, hf⟩ := hP
  have hts := atoms_spec (ws := Cond.code y b nl none :: bWg) B.pre
  have hw := body p e s m below meth c B.exec B.bytes hml (findClass_of_methodNamed B.named) (fun w hw => hts w (List.mem_cons_of_mem _ hw)) B.notSynchronized B.returns (name_of_methodNamed B.named B.method).1 hP hO hz hK hKs hf
  rw [← lg_entry_eq] at hw
  exact hw
theorem s_vret {st : Array Value} (hx : p.tables.exec = Jvm.exec) (hb : c.code = b) (hr : meth.sig.returnType = none) (hlocks : meth.locks = false) (hzw : z ≤ w) (hO : va_P D sCl [sO q (.ref w), sB cA w n f] H) (hS : va_S (bA4 sb v q z) s.heap H locs) (hdg : decode b pc = .ok (.return_, 1)) : W p l e R s m st below meth c H locs 1 n (vx_MQ below (sQc D cA sb v n f q z) (fun _ _ _ => False) st s 1 n (bA4 sb v q z)) (F0 m pc L []) :=
  vx_ret (W.vret hx hb hr (fun t ht _ => ⟨rfl, ⟨w, hzw, by rw [ht]; exact hO⟩, hS.F ht⟩) hS.2.2 hdg hlocks)
theorem s_pre (hP : va_P D bCl (bWs cA sb v n f) H) (hO : va_P D sCl [sO q .null] H) (hz : H.size = z) (hK : bKn D cA (bA4 sb v q z) none s H) (hKs : va_K D sCl [(cA, .byte)] s) (hf : s.vm.findClass "[B" = some cA) : PreS s H (sPc D cA sb v n f q z vs) vs :=
  ⟨sPc.blind, fun U hU hW => ⟨rfl, by rw [hU]; exact hP, by rw [hU]; exact hO, by rw [hU]; exact hz, by rw [hU]; exact hK.moved hW.alike, hKs.moved hW.alike, by rw [hW.alike.findClass]; exact hf⟩⟩
theorem s_ret {x : Array Value} (hS : va_S A0 H0 H locs) (hAA : ∀ x, bA4 sb v q z x → A0 x) (hk3 : k1 + 1 = k3) (hk4 : k2 + n = k4) (hr : va_Run p l e R s m args below meth c H locs k1 k2 1 n (F0 m pc L st0) rest (sQc D cA sb v n f q z x) (bA4 sb v q z)) (K : ∀ (H1 : Heap) (locs1 : List Loc) (w : Nat), z ≤ w → va_P D sCl [sO q (.ref w), sB cA w n f] H1 → (H.size ≤ H1.size ∧ ∀ x : Nat, x < H.size → ¬ bA4 sb v q z x → H1[x]? = H[x]?) → va_S A0 H0 H1 locs1 → W p l e R s m args below meth c H1 locs1 k3 k4 Q (F0 m (pc + 3) L rest)) : W p l e R s m args below meth c H locs k1 k2 Q (F0 m pc L st0) := by
  subst hk3
  subst hk4
  intro T hT X
  obtain ⟨v9, st₀, t, T', Ls, h0, X', hL, e1, e2, ⟨eo, ⟨w, hw, hO⟩, hF⟩, stp⟩ := hr T hT X
  cases eo
  unfold va_F at hF
  rw [h0] at hF
  obtain ⟨t2, a1, b1⟩ := K t.heap (locs ++ Ls) w hw hO hF ⟨Nat.le_trans hS.1 hF.1, fun q g1 g2 => by
    rw [hF.2 q (Nat.lt_of_lt_of_le g1 hS.1) (fun z => g2 (hAA q z))]
    exact hS.2.1 q g1 g2, fun q hq => by
    rcases List.mem_append.mp hq with h | h
    · exact hS.2.2 q h
    · exact hAA _ (hL q h)⟩ T' e1 X'
  exact ⟨t2, stp t2 a1, b1⟩
theorem s_call (hx : p.tables.exec = Jvm.exec) (hb : c.code = cc) (hml : c.maxLocals = nL) (hown : s.vm.findClass own = some m.cls) (hts : ∀ w ∈ bWg, w.before args s = true) (hP : va_P D bCl (bWs cA sb v n f) H) (hO : va_P D sCl [sO q .null] H) (hz : H.size = z) (hK : bKn D cA (bA4 sb v q z) none s H) (hKs : va_K D sCl [(cA, .byte)] s) (hf : s.vm.findClass "[B" = some cA) (hS : va_S A0 H0 H locs) (hAA : ∀ x, bA4 sb v q z x → A0 x)
    (hcon : sCon l y b nl d (.ref q :: vs) D cA sb v n f q z) (hw : Cond.code y b nl none ∈ bWg ∧ Cond.instanceMethod y ∈ bWg ∧ Cond.initialized y.cls ∈ bWg ∧ Cond.methodLink own idx y ∈ bWg) (hy : y.name = "<init>" ∧ y.cls ≠ "java/lang/invoke/MethodHandle" ∧ y.cls ≠ "java/lang/invoke/VarHandle" ∧ (parseMethodDescriptor y.desc).map (fun d => d.parameters.length) = some np)
    (hR : d + 2 ≤ R.frames ∧ 8 + (nl + 11) + (30 * d + 40) ≤ R.locals) (hn : vs.length = np) (hsz : L.size = nL) (hr : (rest.map fun v => v.category).sum ≤ 8) (hk : k1 + 1 ≤ R.cells ∧ k2 + n ≤ R.slots) (hk3 : k1 + 1 = k3) (hk4 : k2 + n = k4) (hd : decode cc pc = .ok (.invokespecial idx, 3))
    (K : ∀ (H1 : Heap) (locs1 : List Loc) (w : Nat), z ≤ w → va_P D sCl [sO q (.ref w), sB cA w n f] H1 → (H.size ≤ H1.size ∧ ∀ x : Nat, x < H.size → ¬ bA4 sb v q z x → H1[x]? = H[x]?) → va_S A0 H0 H1 locs1 → W p l e R s m args below meth c H1 locs1 k3 k4 Q (F0 m (pc + 3) L rest)) : W p l e R s m args below meth c H locs k1 k2 Q (F0 m pc L (vs.reverse ++ .ref q :: rest)) := by
  have hcw : CallB R s args own idx y b nl none (Cond.code y b nl none :: bWg) (qRm d n) 1 n np ∧ y.name = "<init>" ∧ (Cond.instanceMethod y).before args s = true := cwI np hts (bWg_good (fun w hm => by
    rcases List.mem_cons.mp hm with rfl | hm
    · exact hw.1
    · exact hm)) rfl rfl rfl (hts _ hw.2.2.1) (hts _ hw.2.2.2) (hts _ hw.2.1) hy.1 hy.2 hR
  have hrun := va_runI (As := vs) (b := q) (rest := rest) (g := F0 m pc L (vs.reverse ++ .ref q :: rest)) (locs := locs) (cells := k1) (slots := k2) (below := below) (meth := meth) (e := e) ⟨hx, hb, hml, hown, hts⟩ hcon hcw (s_pre hP hO hz hK hKs hf (vs := .ref q :: vs)) rfl hn hsz rfl (by show 2 * 0 + _ ≤ 8; omega) hd hk
  exact s_ret hS hAA hk3 hk4 hrun K
end SST
