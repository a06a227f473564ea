/-! A NEW BUILDER: AbstractStringBuilder.<init>(int), StringBuilder.<init>() -/
def byI1 : MethodName := ⟨RAB, "<init>", "(I)V"⟩
def byI0 : MethodName := ⟨RSB, "<init>", "()V"⟩
def bW5 : List Cond := [.code byI1 prog_12_method_2_code 2 none, .instanceMethod byI1, .initialized RAB, .methodLink RSB 1 byI1, .methodLink RAB 3 Lib.objectInit, .instanceMethod Lib.objectInit, .code Lib.objectInit ⟨#[0xb1]⟩ 1 none, .arrayClass .byte]
set_option maxRecDepth 100000 in
theorem bW5_ok : (bW5.all fun w => decide (w ∈ aWg)) = true := by decide +kernel
theorem bw5 {w : Cond} (h : w ∈ bW5) : w ∈ bWg := bWg_a (of_decide_eq_true (List.all_eq_true.mp bW5_ok w h))
theorem bl_O3 : Cond.methodLink RAB 3 Lib.objectInit ∈ bWg ∧ Cond.instanceMethod Lib.objectInit ∈ bWg ∧ Cond.code Lib.objectInit ⟨#[0xb1]⟩ 1 none ∈ bWg ∧ Cond.arrayClass .byte ∈ bWg := ⟨bw5 (by decide +kernel), bw5 (by decide +kernel), bw5 (by decide +kernel), bw5 (by decide +kernel)⟩
theorem bl_15 : Cond.fieldLink RAB 15 RAB "value" "[B" ∈ bWg ∧ Cond.fieldLink RAB 22 RAB "coder" "B" ∈ bWg := ⟨bw (by decide +kernel), bw (by decide +kernel)⟩
theorem bmI1 : Cond.code byI1 prog_12_method_2_code 2 none ∈ bWg ∧ Cond.instanceMethod byI1 ∈ bWg ∧ Cond.initialized byI1.cls ∈ bWg ∧ Cond.methodLink RSB 1 byI1 ∈ bWg := ⟨bw5 (by decide +kernel), bw5 (by decide +kernel), bw5 (by decide +kernel), bw5 (by decide +kernel)⟩
/-- the builder at sb as 'new' leaves it -/
def iW0 (sb : Nat) : va_W := [(sb, .inr (0, [.null, .int 0, .int 0, .int 0]))]
def iPc (D : va_G) (cA : ClassId) (sb z : Nat) (vs : List Value) : Array Value → State → Prop := fun av U => av = vs.toArray ∧ va_P D bCl (iW0 sb) U.heap ∧ U.heap.size = z ∧ bKn D cA (bA sb z) none U U.heap ∧ U.vm.findClass "[B" = some cA
def iQc (D : va_G) (cA : ClassId) (sb z : Nat) : Array Value → State → Outcome → State → Prop := fun _ st o t => o = .returned none ∧ va_P D bCl (bWs cA sb z 0 (fun _ => 0)) t.heap ∧ va_F (bA sb z) st t
def iRm (d : Nat) : Room := { frames := d + 1, cells := 1, slots := 16, locals := 30 * d + 40 }
def iCon (l : Launch) (y : MethodName) (b : ByteArray) (nL d : Nat) (vs : List Value) (D : va_G) (cA : ClassId) (sb z : Nat) : Prop :=
  Met l y (Cond.code y b nL none :: bWg) (iRm d) (iPc D cA sb z vs) (iQc D cA sb z) 1 16 (bA sb z)
theorem iPc.blind {D : va_G} {cA : ClassId} {sb z : Nat} {vs : List Value} : FrameBlind (iPc D cA sb z vs) := by
  intro x U g mk q
  exact ⟨q.1, q.2.1, q.2.2.1, bKn.moved (U := U.calling g mk x) (Vm.Alike.refl U.vm) q.2.2.2.1, q.2.2.2.2⟩
section SBI
variable {p : Program} {l : Launch} {e : Env} {R : Room} {s : State} {m : MethodId} {args : Array Value} {below : List Frame} {meth : Method} {c : Code} {H : Heap} {locs : List Loc} {Q : State → Prop}
variable {pc k1 k2 d idx nl np sb z : Nat} {L : Array Slot} {rest st0 vs : List Value} {y : MethodName} {b : ByteArray} {D : va_G} {cA : ClassId}
theorem i_of (hy : plainName y.cls = true) (body : ∀ (p : Program) (e : Env) (s : State) (m : MethodId) (below : List Frame) (meth : Method) (c : Code), p.tables.exec = Jvm.exec → c.code = b → c.maxLocals = nl → s.vm.findClass y.cls = some m.cls → (∀ w ∈ bWg, w.before vs.toArray s = true) → meth.locks = false → meth.sig.returnType = none → va_P D bCl (iW0 sb) s.heap → s.heap.size = z → bKn D cA (bA sb z) none s s.heap → s.vm.findClass "[B" = some cA →
      W p l e (iRm d) s m vs.toArray below meth c s.heap [] 0 0 (vx_MQ below (iQc D cA sb z) (fun _ _ _ => False) vs.toArray s 1 16 (bA sb z)) (F0 m 0 ((lg_sl vs ++ List.replicate (nl - (lg_sl vs).length) Slot.unset).toArray) [])) : iCon l y b nl d vs D cA sb z := by
  refine vx_toMet (XC := fun _ _ _ => False) (vx_ofW (ws' := bWg) hy rfl (fun p e s m args below meth c s₁ B hml ht hP => ?_)) (fun _ _ _ h => h)
  obtain ⟨rfl, hP, hz, hK, hf⟩ := hP
  have hts := atoms_spec (ws := Cond.code y b nl none :: bWg) B.pre
  have hw := body p e s m below meth c B.exec B.bytes hml (findClass_of_methodNamed B.named) (fun w hw => hts w (List.mem_cons_of_mem _ hw)) B.notSynchronized B.returns hP hz hK hf
  rw [← lg_entry_eq] at hw
  exact hw
theorem i_vret {st : Array Value} (hx : p.tables.exec = Jvm.exec) (hb : c.code = b) (hr : meth.sig.returnType = none) (hlocks : meth.locks = false) (hP : va_P D bCl (bWs cA sb z 0 (fun _ => 0)) H) (hS : va_S (bA sb z) s.heap H locs) (hdg : decode b pc = .ok (.return_, 1)) : W p l e R s m st below meth c H locs 1 16 (vx_MQ below (iQc D cA sb z) (fun _ _ _ => False) st s 1 16 (bA sb z)) (F0 m pc L []) :=
  vx_ret (W.vret hx hb hr (fun t ht _ => ⟨rfl, by rw [ht]; exact hP, hS.F ht⟩) hS.2.2 hdg hlocks)
theorem b_objI {q : Nat} {own : String} {cc : ByteArray} (hx : p.tables.exec = Jvm.exec) (hb : c.code = cc) (hown : s.vm.findClass own = some m.cls) (hl : (Cond.methodLink own idx Lib.objectInit).before args s = true) (hi : (Cond.instanceMethod Lib.objectInit).before args s = true) (hc : (Cond.code Lib.objectInit ⟨#[0xb1]⟩ 1 none).before args s = true) (hsz : L.size = c.maxLocals) (hd : decode cc pc = .ok (.invokespecial idx, 3)) (hf : 1 ≤ R.frames) (hlo : (rest.map fun v => v.category).sum + 12 ≤ R.locals)
    (K : W p l e R s m args below meth c H locs k1 k2 Q (F0 m (pc + 3) L rest)) : W p l e R s m args below meth c H locs k1 k2 Q (F0 m pc L (.ref q :: rest)) :=
  W.objInit hx hb hown hl hi hc rfl hsz rfl hd hf (by show 2 * 0 + _ + _ ≤ _; omega) K
theorem b_newb {x : Int32} {N : Nat} {cc : ByteArray} (hx : p.tables.exec = Jvm.exec) (hb : c.code = cc) (harr : (Cond.arrayClass .byte).before args s = true) (hd : decode cc pc = .ok (.newarray .byte, 2)) (hn : ¬ x < 0) (hN : x.toNatClampNeg = N) (hby : N ≤ 536870912) (hc : k1 + 1 ≤ R.cells) (hs : k2 + N ≤ R.slots) (hz : H.size = z)
    (K : ∀ (H1 : Heap) (cB : ClassId), H1[z]? = some (arrV cB N (fun _ => .int 0)) → H1.size = z + 1 → (∀ q, q < z → H1[q]? = H[q]?) → s.vm.findClass "[B" = some cB → W p l e R s m args below meth c H1 locs (k1 + 1) (k2 + N) Q (F0 m (pc + 2) L (.ref z :: rest))) : W p l e R s m args below meth c H locs k1 k2 Q (F0 m pc L (.int x :: rest)) :=
  va_newaK (atype := .byte) hx hb harr rfl hd rfl hn hN (by show N * 1 ≤ _; omega) hc hs hz (fun H1 cB e1 z1 o1 _ hNm => K H1 cB e1 z1 o1 hNm)
theorem i_asb : iCon l byI1 prog_12_method_2_code 2 0 [.ref sb, .int 16] D cA sb z := by
  refine i_of (by decide) (fun p e s m below meth c hx hb hml hown hts hlk hret hP hz hK hf => ?_)
  have hS : va_S (bA sb z) s.heap s.heap [] := va_S.rf
  have hlt : sb < z := by
    have h : sb < s.heap.size := (hP 0 _ rfl).lt
    omega
  refine lv_aload_n hx hb (k := 0) (i := 0) (x := sb) (by decide +kernel) rfl rfl ?_
  refine b_objI (own := RAB) (idx := 3) hx hb hown (hts _ bl_O3.1) (hts _ bl_O3.2.1) (hts _ bl_O3.2.2.1) (by rw [hml]; rfl) (by decide +kernel) (by decide) (by decide) ?_
  refine va_gets hx hb hK.2.1 hS hown (hts _ bl_18) (fun _ z => z) (by decide +kernel) ?_
  refine lv_if_eq hx hb (off := 18) (tgt := 25) (by decide +kernel) (by decide) (fun h => absurd h (by decide)) (fun _ => ?_)
  refine lv_aload_n hx hb (k := 0) (i := 0) (x := sb) (by decide +kernel) rfl rfl ?_
  refine lv_iload_n hx hb (k := 1) (i := 1) (x := 16) (by decide +kernel) rfl rfl ?_
  refine b_newb (x := 16) (N := 16) hx hb (hts _ bl_O3.2.2.2) (by decide +kernel) (by decide) rfl (by decide) (by decide) (by decide) hz (fun H1 cB e1 z1 o1 hNm => ?_)
  obtain rfl : cB = cA := Option.some.inj (hNm.symm.trans hf)
  have hP1 : va_P D bCl (iW0 sb ++ [(z, .inl (cB, 16, .inl (fun _ => 0)))]) H1 := (hP.kept (fun k q hk => by
    match k, hk with
    | 0, hk => cases hk; exact o1 sb hlt
    | k + 1, hk => cases hk)).app (fun k q hk => by
    match k, hk with
    | 0, hk => cases hk; exact e1
    | k + 1, hk => cases hk)
  have hD1 : va_D (bA sb z) (iW0 sb ++ [(z, .inl (cB, 16, .inl (fun _ => 0)))]) := by
    refine ⟨fun i j p q hp hq e => ?_, fun k q hq => ?_⟩
    · match i, j, hp, hq with
      | 0, 0, _, _ => rfl
      | 1, 1, _, _ => rfl
      | 0, 1, hp, hq => cases hp; cases hq; exact absurd e (Nat.ne_of_lt hlt)
      | 1, 0, hp, hq => cases hp; cases hq; exact absurd e.symm (Nat.ne_of_lt hlt)
      | i + 2, _, hp, _ => cases hp
      | 0, j + 2, _, hq => cases hq
      | 1, j + 2, _, hq => cases hq
    · match k, hq with
      | 0, hq => cases hq; exact Or.inl rfl
      | 1, hq => cases hq; exact Or.inr rfl
      | k + 2, hq => cases hq
  have hS1 : va_S (bA sb z) s.heap H1 [] := ⟨by omega, fun q g1 _ => o1 q (by omega), fun _ h => nomatch h⟩
  refine va_put (v := .ref z) (ty := .array .byte) hx hb hts bLay tySB tSB_ok nSB hown hK.1 hP1 hD1 hS1 0 rfl rfl 0 (by decide) (hts _ bl_15.1) (fun _ z => z) rfl rfl rfl rfl (by decide) (by decide +kernel) (fun H2 locs2 hP2 hD2 hS2 => ?_)
  refine lv_aload_n hx hb (k := 0) (i := 0) (x := sb) (by decide +kernel) rfl rfl ?_
  refine lv_iconst hx hb (n := 0) (v := 0) (by decide +kernel) rfl ?_
  refine va_put (v := .int 0) (ty := .byte) hx hb hts bLay tySB tSB_ok nSB hown hK.1 hP2 hD2 hS2 0 rfl rfl 1 (by decide) (hts _ bl_15.2) (fun _ z => z) rfl rfl rfl rfl (Nat.lt_of_lt_of_le (by decide : 1 < 4) (Nat.le_refl 4)) (by decide +kernel) (fun H3 locs3 hP3 hD3 hS3 => ?_)
  refine lv_goto hx hb (off := 16) (tgt := 38) (by decide +kernel) (by decide) ?_
  exact i_vret hx hb hret hlk hP3 hS3 (by decide +kernel)
end SBI
section SBJ
variable {p : Program} {l : Launch} {e : Env} {R : Room} {s : State} {m : MethodId} {args : Array Value} {below : List Frame} {meth : Method} {c : Code} {H : Heap} {locs : List Loc} {Q : State → Prop} {A0 : Nat → Prop} {H0 : Heap} {own : String} {cc : ByteArray}
variable {pc k1 k2 d idx nl nL np sb z : Nat} {L : Array Slot} {rest st0 vs : List Value} {y : MethodName} {b : ByteArray} {D : va_G} {cA : ClassId}
theorem i_pre (hP : va_P D bCl (iW0 sb) H) (hz : H.size = z) (hK : bKn D cA (bA sb z) none s H) (hf : s.vm.findClass "[B" = some cA) : PreS s H (iPc D cA sb z vs) vs :=
  ⟨iPc.blind, fun U hU hW => ⟨rfl, by rw [hU]; exact hP, by rw [hU]; exact hz, by rw [hU]; exact hK.moved hW.alike, by rw [hW.alike.findClass]; exact hf⟩⟩
theorem i_ret {x : Array Value} (hS : va_S A0 H0 H locs) (hAA : ∀ q, bA sb z q → A0 q) (hr : va_Run p l e R s m args below meth c H locs k1 k2 1 16 (F0 m pc L st0) rest (iQc D cA sb z x) (bA sb z)) (K : ∀ (H1 : Heap) (locs1 : List Loc), va_P D bCl (bWs cA sb z 0 (fun _ => 0)) H1 → (H.size ≤ H1.size ∧ ∀ q : Nat, q < H.size → ¬ bA sb z q → H1[q]? = H[q]?) → va_S A0 H0 H1 locs1 → W p l e R s m args below meth c H1 locs1 (k1 + 1) (k2 + 16) Q (F0 m (pc + 3) L rest)) : W p l e R s m args below meth c H locs k1 k2 Q (F0 m pc L st0) := by
  intro T hT X
  obtain ⟨v9, st₀, t, T', Ls, h0, X', hL, e1, e2, ⟨eo, hp, hF⟩, stp⟩ := hr T hT X
  cases eo
  unfold va_F at hF
  rw [h0] at hF
  obtain ⟨t2, a1, b1⟩ := K t.heap (locs ++ Ls) hp hF ⟨Nat.le_trans hS.1 hF.1, fun q g1 g2 => by
    rw [hF.2 q (Nat.lt_of_lt_of_le g1 hS.1) (fun z => g2 (hAA q z))]
    exact hS.2.1 q g1 g2, fun q hq => by
    rcases List.mem_append.mp hq with h | h
    · exact hS.2.2 q h
    · exact hAA _ (hL q h)⟩ T' e1 X'
  exact ⟨t2, stp t2 a1, b1⟩
theorem i_call (hx : p.tables.exec = Jvm.exec) (hb : c.code = cc) (hml : c.maxLocals = nL) (hown : s.vm.findClass own = some m.cls) (hts : ∀ w ∈ bWg, w.before args s = true) (hP : va_P D bCl (iW0 sb) H) (hz : H.size = z) (hK : bKn D cA (bA sb z) none s H) (hf : s.vm.findClass "[B" = some cA) (hS : va_S A0 H0 H locs) (hAA : ∀ q, bA sb z q → A0 q)
    (hcon : iCon l y b nl d (.ref sb :: vs) D cA sb z) (hw : Cond.code y b nl none ∈ bWg ∧ Cond.instanceMethod y ∈ bWg ∧ Cond.initialized y.cls ∈ bWg ∧ Cond.methodLink own idx y ∈ bWg) (hy : y.name = "<init>" ∧ y.cls ≠ "java/lang/invoke/MethodHandle" ∧ y.cls ≠ "java/lang/invoke/VarHandle" ∧ (parseMethodDescriptor y.desc).map (fun d => d.parameters.length) = some np)
    (hR : d + 2 ≤ R.frames ∧ 8 + (nl + 11) + (30 * d + 40) ≤ R.locals) (hn : vs.length = np) (hsz : L.size = nL) (hr : (rest.map fun v => v.category).sum ≤ 8) (hk : k1 + 1 ≤ R.cells ∧ k2 + 16 ≤ R.slots) (hd : decode cc pc = .ok (.invokespecial idx, 3))
    (K : ∀ (H1 : Heap) (locs1 : List Loc), va_P D bCl (bWs cA sb z 0 (fun _ => 0)) H1 → (H.size ≤ H1.size ∧ ∀ q : Nat, q < H.size → ¬ bA sb z q → H1[q]? = H[q]?) → va_S A0 H0 H1 locs1 → W p l e R s m args below meth c H1 locs1 (k1 + 1) (k2 + 16) Q (F0 m (pc + 3) L rest)) : W p l e R s m args below meth c H locs k1 k2 Q (F0 m pc L (vs.reverse ++ .ref sb :: rest)) := by
  have hcw : CallB R s args own idx y b nl none (Cond.code y b nl none :: bWg) (iRm d) 1 16 np ∧ y.name = "<init>" ∧ (Cond.instanceMethod y).before args s = true := cwI np hts (bWg_good (fun w hm => by
    rcases List.mem_cons.mp hm with rfl | hm
    · exact hw.1
    · exact hm)) rfl rfl rfl (hts _ hw.2.2.1) (hts _ hw.2.2.2) (hts _ hw.2.1) hy.1 hy.2 hR
  have hrun := va_runI (As := vs) (b := sb) (rest := rest) (g := F0 m pc L (vs.reverse ++ .ref sb :: rest)) (locs := locs) (cells := k1) (slots := k2) (below := below) (meth := meth) (e := e) ⟨hx, hb, hml, hown, hts⟩ hcon hcw (i_pre hP hz hK hf (vs := .ref sb :: vs)) rfl hn hsz rfl (by show 2 * 0 + _ ≤ 8; omega) hd hk
  exact i_ret hS hAA hrun K
theorem i_sb : iCon l byI0 prog_28_method_1_code 1 1 [.ref sb] D cA sb z := by
  refine i_of (by decide) (fun p e s m below meth c hx hb hml hown hts hlk hret hP hz hK hf => ?_)
  have hS : va_S (bA sb z) s.heap s.heap [] := va_S.rf
  refine lv_aload_n hx hb (k := 0) (i := 0) (x := sb) (by decide +kernel) rfl rfl ?_
  refine lv_bipush hx hb (n := 16) (v := 16) (by decide +kernel) (by decide) ?_
  refine i_call (vs := [.int 16]) (rest := []) (own := RSB) (A0 := bA sb z) (H0 := s.heap) hx hb hml hown hts hP hz hK hf hS (fun _ z => z) i_asb bmI1 ⟨by decide, by decide, by decide, by decide +kernel⟩ ⟨by decide, by decide⟩ rfl rfl (by decide) ⟨by decide, by decide⟩ (by decide +kernel) (fun H1 locs1 hP1 hq1 hS1 => ?_)
  exact i_vret hx hb hret hlk hP1 hS1 (by decide +kernel)
end SBJ
