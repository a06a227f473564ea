/-! SOUNDNESS: throws, catches, ends -/
def aSup : List String := ["java/lang/RuntimeException", "java/lang/Exception"]
/-- the number of an exception's constructor in the class's table -/
def aIc (x : Nat) : Nat := match x with
  | 0 => 208
  | 1 => 300
  | 2 => 287
  | 3 => 159
  | 4 => 190
  | _ => 251
set_option maxRecDepth 100000 in
theorem aAt_all : ∀ x : Fin 6, x.val ≠ 3 → ∀ w ∈ vx_atS RX7 (aIc x.val) (aExc x.val) aSup, (w ∈ aWg ∨ w = .castable (aExc x.val) (aExc x.val) ∨ w ∈ aDecl.map Cond.declares) ∧ vx_ot w = true := by decide +kernel
theorem aRel.grow {D : va_G} {ka : FieldType → ClassId} {s : Nat → Nat} {A : Nat → Prop} {U : State} {h : aH} {H H1 : Heap} (hr : aRel D ka s A U h H) (ho : ∀ x : Nat, x < H.size → H1[x]? = H[x]?) : aRel D ka s A U h H1 := by
  refine ⟨fun q c hq => ?_, hr.2⟩
  have h2 := hr.1 q c hq
  obtain ⟨w, x⟩ := c
  cases w <;> cases x
  · obtain ⟨f, g0, cell, g1, g2⟩ := h2
    exact ⟨f, g0, cell, by rw [ho _ (Array.getElem?_eq_some_iff.mp g1).1]; exact g1, g2⟩
  · exact fun hc => (h2 hc).elim fun v hv => ⟨v, hv.kept (fun x hx _ => ho x hx)⟩
  · exact ⟨h2.1, by rw [ho _ (Array.getElem?_eq_some_iff.mp h2.2).1]; exact h2.2⟩
  · obtain ⟨g0, r, g1, cell, g2, g3⟩ := h2
    exact ⟨g0, r, g1, cell, by rw [ho _ (Array.getElem?_eq_some_iff.mp g2).1]; exact g2, g3⟩
/-- what a method's body owes at its end: that answer -/
def aEq (below : List Frame) (D : va_G) (ka : FieldType → ClassId) (sg : Nat → Nat) (A : Nat → Prop) (al : Bool) (args : Array Value) (s : State) (r : aR) : State → Prop :=
  vx_MQ below (aQc D ka sg A al r) (aXC D ka sg A al r) args s r.2.2.1 r.2.2.2 A
def aHm (own : String) : List (Nat × Nat × Nat × Nat) → aD → Bool
  | [], [] => true
  | (f, t, w, ci) :: a, (f1, t1, w1, e) :: b => f == f1 && (t == t1 && (w == w1 && (ci != 0 && (decide (e < 5) && (decide (Cond.classLink own ci (aExc e) ∈ aWg) && aHm own a b)))))
  | _, _ => false
theorem aHd_split {own : String} {pc x9 t : Nat} : ∀ (hh : List (Nat × Nat × Nat × Nat)) (hd : aD), aHm own hh hd = true → aHd hd pc x9 = some t → ∃ (pre : List ExceptionTableEntry) (z : ExceptionTableEntry) (suf : List ExceptionTableEntry), tableOf hh = pre ++ z :: suf ∧ (∀ y ∈ pre, covers y pc = false ∨ (y.catchType ≠ 0 ∧ ∃ e, e < 5 ∧ e ≠ x9 ∧ Cond.classLink own y.catchType (aExc e) ∈ aWg)) ∧ covers z pc = true ∧ z.handlerPc = t ∧ z.catchType ≠ 0 ∧ Cond.classLink own z.catchType (aExc x9) ∈ aWg
  | [], [], _, h => by cases h
  | [], _ :: _, h, _ => by cases h
  | (_, _, _, _) :: _, [], h, _ => by cases h
  | (f, t0, w, ci) :: a, (f1, t1, w1, e) :: b, h, hp => by
    simp only [aHm, Bool.and_eq_true, beq_iff_eq, bne_iff_ne, ne_eq, decide_eq_true_eq] at h
    obtain ⟨rfl, rfl, rfl, h4, h5, h6, h7⟩ := h
    unfold aHd at hp
    by_cases hc : f ≤ pc ∧ pc < t0 ∧ e = x9
    · rw [if_pos hc] at hp
      cases hp
      obtain ⟨c1, c2, c3⟩ := hc
      refine ⟨[], ⟨f, t0, t, ci⟩, tableOf a, rfl, (fun y hy => by cases hy), ?_, rfl, h4, by rw [← c3]; exact h6⟩
      show (decide (f ≤ pc) && decide (pc < t0)) = true
      rw [decide_eq_true c1, decide_eq_true c2]
      rfl
    · rw [if_neg hc] at hp
      obtain ⟨pre, z, suf, g1, g2, g3⟩ := aHd_split a b h7 hp
      refine ⟨⟨f, t0, w, ci⟩ :: pre, z, suf, by show _ :: tableOf a = _; rw [g1]; rfl, fun y hy => ?_, g3⟩
      rcases List.mem_cons.mp hy with rfl | hy
      · by_cases hv : f ≤ pc ∧ pc < t0
        · exact Or.inr ⟨h4, e, h5, fun q => hc ⟨hv.1, hv.2, q⟩, h6⟩
        · refine Or.inl ?_
          simp only [covers, Bool.and_eq_false_iff, decide_eq_false_iff_not]
          by_cases h1 : f ≤ pc
          · exact Or.inr (fun q => hv ⟨h1, q⟩)
          · exact Or.inl h1
      · exact g2 y hy
section SNT
variable {p : Program} {l : Launch} {e : Env} {R : Room} {s : State} {m : MethodId} {args : Array Value} {below : List Frame} {meth : Method} {c : Code} {Q : State → Prop} {D : va_G} {ka : FieldType → ClassId} {sg : Nat → Nat} {A : Nat → Prop} {nL : Nat} {own : String} {cc : ByteArray} {al : Bool}
variable {pc : Nat} {ls : List (Option Value)} {st r : List Value} {h : aH} {k : aK} {x y : Int32} {x9 t n : Nat} {hd : aD} {hh : List (Nat × Nat × Nat × Nat)}
theorem a_at (C : aCx p l s m args c D ka sg A nL own cc) (hx : x9 < 6) (hx3 : x9 ≠ 3) : ∀ w ∈ vx_atS RX7 (aIc x9) (aExc x9) aSup, w.before args s = true := by
  intro w hw
  rcases (aAt_all ⟨x9, hx⟩ hx3 w hw).1 with h1 | h1 | h1
  · exact C.2.2.2.2.1 _ h1
  · rw [h1]
    exact va_Nw.use rfl (C.2.2.2.2.2.1.1.2.2.2.2.2.2.2.2.2.2.1 x9 hx)
  · obtain ⟨y, hy, rfl⟩ := List.mem_map.mp h1
    exact va_Nw.use rfl (C.2.2.2.2.2.1.1.2.2.2.2.2.2.2.2.2.2.2 y hy)
theorem e_throwS (C : aCx p l s m args c D ka sg A nL RX7 cc) {ik is : Nat} {tx : String} (hx : x9 < 6) (hx3 : x9 ≠ 3) (hal : al = false) (hk : Cond.classLink RX7 ik (aExc x9) ∈ aWg) (hini : Cond.initialized (aExc x9) ∈ aWg) (htx : (is, tx) ∈ aStrs) (hf : 6 ≤ R.frames) (hlo : 100 ≤ R.locals) (hc : k.1 + 1 ≤ R.cells) (hs : k.2 + 6 ≤ R.slots) (hr : aSum st ≤ 8) (hlocks : meth.locks = false) (hout : ∀ z ∈ c.exceptionTable.toList, False)
    (d0 : decode cc pc = .ok (.new ik, 3)) (d3 : decode cc (pc + 3) = .ok (.dup, 1)) (d4 : decode cc (pc + 4) = .ok (.ldc is, 2)) (d6 : decode cc (pc + 6) = .ok (.invokespecial (aIc x9), 3)) (d9 : decode cc (pc + 9) = .ok (.athrow, 1)) :
    aSim p l e R s m args below meth c (aEq below D ka sg A al args s (.inr x9, h, (k.1 + 1, k.2 + 6))) D ka sg A nL al (pc, ls, st, h, k) := by
  intro H locs L h1 h2 h3 h4
  obtain ⟨sa, hsa⟩ := C.2.2.2.2.2.1.1.2.2.2.2.1 _ htx
  refine vx_throwS C.1 C.2.1 C.2.2.2.2.2.2.2 (own := RX7) (cls := aExc x9) (text := tx) (names := aSup) (sa := sa) C.2.2.2.1 ?_ (by decide) (C.2.2.2.2.1 _ hk) (C.2.2.2.2.1 _ hini) hsa (a_at C hx hx3) ?_ C.2.2.2.2.2.1.2.2.1 C.2.2.2.2.2.1.2.2.2.1 h2 (by rw [C.2.2.1]; exact h3.1) d0 d3 d4 d6 d9 (fun z hz => (hout z hz).elim) (by show 2 + 3 < R.frames; omega) (by rw [a_sum]; show aSum st + (13 * (2 + 1) + 43) ≤ R.locals; omega) hc hs hlocks (fun t ht hz ho => ⟨x9, rfl, hx, rfl, (h1.grow ho).moved ht, ⟨Nat.le_trans h2.1 hz, fun q g1 g2 => (ho q (Nat.lt_of_lt_of_le g1 h2.1)).trans (h2.2.1 q g1 g2)⟩, fun q => by rw [hal] at q; cases q⟩) h2.2.2 (Nat.le_refl _) (Nat.le_refl _)
  · have key : ∀ z : Fin 6, Bundle.fit (aExc z.val) = true := by decide
    exact key ⟨x9, hx⟩
  · intro w hw
    rcases List.mem_cons.mp hw with rfl | hw
    · rfl
    rcases List.mem_cons.mp hw with rfl | hw
    · rfl
    exact (aAt_all ⟨x9, hx⟩ hx3 w hw).2
theorem e_throwSW (C : aCx p l s m args c D ka sg A nL RX7 cc) {ik is : Nat} {tx : String} (hx : x9 < 6) (hx3 : x9 ≠ 3) (hal : al = false) (hk : Cond.classLink RX7 ik (aExc x9) ∈ aWg) (hini : Cond.initialized (aExc x9) ∈ aWg) (htx : (is, tx) ∈ aStrs) (hf : 6 ≤ R.frames) (hlo : 100 ≤ R.locals) (hc : k.1 + 1 ≤ R.cells) (hs : k.2 + 6 ≤ R.slots) (hr : aSum st ≤ 8) (hlocks : meth.locks = false) (hout : ∀ z ∈ c.exceptionTable.toList, False)
    (d0 : decode cc pc = .ok (.new ik, 3)) (d3 : decode cc (pc + 3) = .ok (.dup, 1)) (d4 : decode cc (pc + 4) = .ok (.ldc_w is, 3)) (d7 : decode cc (pc + 7) = .ok (.invokespecial (aIc x9), 3)) (d10 : decode cc (pc + 10) = .ok (.athrow, 1)) :
    aSim p l e R s m args below meth c (aEq below D ka sg A al args s (.inr x9, h, (k.1 + 1, k.2 + 6))) D ka sg A nL al (pc, ls, st, h, k) := by
  intro H locs L h1 h2 h3 h4
  obtain ⟨sa, hsa⟩ := C.2.2.2.2.2.1.1.2.2.2.2.1 _ htx
  refine vx_throwSW C.1 C.2.1 C.2.2.2.2.2.2.2 (own := RX7) (cls := aExc x9) (text := tx) (names := aSup) (sa := sa) C.2.2.2.1 ?_ (by decide) (C.2.2.2.2.1 _ hk) (C.2.2.2.2.1 _ hini) hsa (a_at C hx hx3) ?_ C.2.2.2.2.2.1.2.2.1 C.2.2.2.2.2.1.2.2.2.1 h2 (by rw [C.2.2.1]; exact h3.1) d0 d3 d4 d7 d10 (fun z hz => (hout z hz).elim) (by show 2 + 3 < R.frames; omega) (by rw [a_sum]; show aSum st + (13 * (2 + 1) + 43) ≤ R.locals; omega) hc hs hlocks (fun t ht hz ho => ⟨x9, rfl, hx, rfl, (h1.grow ho).moved ht, ⟨Nat.le_trans h2.1 hz, fun q g1 g2 => (ho q (Nat.lt_of_lt_of_le g1 h2.1)).trans (h2.2.1 q g1 g2)⟩, fun q => by rw [hal] at q; cases q⟩) h2.2.2 (Nat.le_refl _) (Nat.le_refl _)
  · have key : ∀ z : Fin 6, Bundle.fit (aExc z.val) = true := by decide
    exact key ⟨x9, hx⟩
  · intro w hw
    rcases List.mem_cons.mp hw with rfl | hw
    · rfl
    rcases List.mem_cons.mp hw with rfl | hw
    · rfl
    exact (aAt_all ⟨x9, hx⟩ hx3 w hw).2
/-- not caught here -/
theorem e_out (hout : ∀ z ∈ c.exceptionTable.toList, False) (hlocks : meth.locks = false) : aThr p l e R s m args below meth c (aEq below D ka sg A al args s (.inr x9, h, k)) D ka sg A nL al pc ls r h k x9 := by
  intro H1 locs1 L ce q9 hx h1 h2 h3 h4 hce hcv hcl
  refine vx_out (fun z hz => (hout z hz).elim) hlocks hce hcv hcl (fun t ht hvm => ⟨x9, rfl, hx, rfl, ?_, h2.F ht, fun ha j => by rw [ht]; exact h4 ha j⟩) h2.2.2 (Nat.le_refl _) (Nat.le_refl _)
  rw [ht]
  exact h1.moved hvm
theorem s_catch_n (C : aCx p l s m args c D ka sg A nL own cc) {n : Fin 4} (htb : c.exceptionTable.toList = tableOf hh) (hm : aHm own hh hd = true) (hp : aHd hd pc x9 = some t) (hmay : aMay ls n.val = true) (hdg : decode cc t = .ok (.astore_n n, 1)) (K : aSim p l e R s m args below meth c Q D ka sg A nL al (t + 1, ls.set n.val none, [], h, k)) : aThr p l e R s m args below meth c Q D ka sg A nL al pc ls r h k x9 := by
  intro H1 locs1 L ce q9 hx h1 h2 h3 h4 hce hcv hcl
  obtain ⟨pre, z, suf, g1, g2, g3, g4, g5, g6⟩ := aHd_split hh hd hm hp
  refine vx_catch C.2.2.2.1 pre z suf (by rw [htb, g1]) (fun y hy => ?_) g3 g5 (C.2.2.2.2.1 _ g6) (va_Nw.use rfl (C.2.2.2.2.2.1.1.2.2.2.2.2.2.2.2.2.2.1 x9 hx)) hce hcv hcl ?_
  · rcases g2 y hy with q | ⟨q0, e, q1, q2, q3⟩
    · exact Or.inl q
    · exact Or.inr ⟨q0, _, C.2.2.2.2.1 _ q3, C.2.2.2.2.2.1.1.2.2.2.2.2.2.2.1 x9 e hx q1 (Ne.symm q2)⟩
  · rw [g4]
    exact lv_astore_n C.1 C.2.1 hdg rfl h3.has (by rw [← h3.2.2.1]; exact aMay_lt hmay) rfl (fun L1 g => K H1 locs1 L1 h1 h2 (h3.back hmay (fun v hv => by cases hv) g) h4)
theorem s_catch (C : aCx p l s m args c D ka sg A nL own cc) (htb : c.exceptionTable.toList = tableOf hh) (hm : aHm own hh hd = true) (hp : aHd hd pc x9 = some t) (hmay : aMay ls n = true) (hdg : decode cc t = .ok (.astore n, 2)) (K : aSim p l e R s m args below meth c Q D ka sg A nL al (t + 2, ls.set n none, [], h, k)) : aThr p l e R s m args below meth c Q D ka sg A nL al pc ls r h k x9 := by
  intro H1 locs1 L ce q9 hx h1 h2 h3 h4 hce hcv hcl
  obtain ⟨pre, z, suf, g1, g2, g3, g4, g5, g6⟩ := aHd_split hh hd hm hp
  refine vx_catch C.2.2.2.1 pre z suf (by rw [htb, g1]) (fun y hy => ?_) g3 g5 (C.2.2.2.2.1 _ g6) (va_Nw.use rfl (C.2.2.2.2.2.1.1.2.2.2.2.2.2.2.2.2.2.1 x9 hx)) hce hcv hcl ?_
  · rcases g2 y hy with q | ⟨q0, e, q1, q2, q3⟩
    · exact Or.inl q
    · exact Or.inr ⟨q0, _, C.2.2.2.2.1 _ q3, C.2.2.2.2.2.1.1.2.2.2.2.2.2.2.1 x9 e hx q1 (Ne.symm q2)⟩
  · rw [g4]
    exact lv_astore C.1 C.2.1 hdg h3.has (by rw [← h3.2.2.1]; exact aMay_lt hmay) rfl (fun L1 g => K H1 locs1 L1 h1 h2 (h3.back hmay (fun v hv => by cases hv) g) h4)
theorem a_end {v : Option Value} {H : Heap} {locs : List Loc} (h1 : aRel D ka sg A s h H) (h2 : va_S A s.heap H locs) (h4 : al = true → ∀ j : Nat, sg (h.length + j) = H.size + j) : ∀ t : State, t.heap = H → s.WarmedH t.vm → aQc D ka sg A al (.inl v, h, k) args s (.returned (v.map (aCv sg))) t := fun t ht hW =>
  ⟨v, rfl, rfl, by rw [ht]; exact h1.moved hW.alike, h2.F ht, fun ha j => by rw [ht]; exact h4 ha j⟩
theorem e_ireturn (C : aCx p l s m args c D ka sg A nL own cc) {ty : FieldType} (hr : meth.sig.returnType = some ty) (hf : aFit ty (.int x) = true) (hlocks : meth.locks = false) (hd : decode cc pc = .ok (.ireturn, 1)) : aSim p l e R s m args below meth c (aEq below D ka sg A al args s (.inl (some (.int x)), h, k)) D ka sg A nL al (pc, ls, [.int x], h, k) := fun H locs L h1 h2 h3 h4 =>
  vx_ret (W.zret C.1 C.2.1 hr (aFit_ok (sg := sg) hf).1 (a_end h1 h2 h4) h2.2.2 hd hlocks)
theorem e_freturn (C : aCx p l s m args c D ka sg A nL own cc) {z : UInt32} (hr : meth.sig.returnType = some .float) (hlocks : meth.locks = false) (hd : decode cc pc = .ok (.freturn, 1)) : aSim p l e R s m args below meth c (aEq below D ka sg A al args s (.inl (some (.float z)), h, k)) D ka sg A nL al (pc, ls, [.float z], h, k) := fun H locs L h1 h2 h3 h4 =>
  vx_ret (W.fret C.1 C.2.1 hr (a_end h1 h2 h4) h2.2.2 hd hlocks)
theorem e_dreturn (C : aCx p l s m args c D ka sg A nL own cc) {z : UInt64} (hr : meth.sig.returnType = some .double) (hlocks : meth.locks = false) (hd : decode cc pc = .ok (.dreturn, 1)) : aSim p l e R s m args below meth c (aEq below D ka sg A al args s (.inl (some (.double z)), h, k)) D ka sg A nL al (pc, ls, [.double z], h, k) := fun H locs L h1 h2 h3 h4 =>
  vx_ret (W.dret C.1 C.2.1 hr (a_end h1 h2 h4) h2.2.2 hd hlocks)
theorem e_lreturn (C : aCx p l s m args c D ka sg A nL own cc) {z : Int64} (hr : meth.sig.returnType = some .long) (hlocks : meth.locks = false) (hd : decode cc pc = .ok (.lreturn, 1)) : aSim p l e R s m args below meth c (aEq below D ka sg A al args s (.inl (some (.long z)), h, k)) D ka sg A nL al (pc, ls, [.long z], h, k) := fun H locs L h1 h2 h3 h4 =>
  vx_ret (W.lret C.1 C.2.1 hr (a_end h1 h2 h4) h2.2.2 hd hlocks)
theorem e_areturn (C : aCx p l s m args c D ka sg A nL own cc) {q : Nat} {nm : String} (hr : meth.sig.returnType = some (.object nm)) (hlocks : meth.locks = false) (hd : decode cc pc = .ok (.areturn, 1)) : aSim p l e R s m args below meth c (aEq below D ka sg A al args s (.inl (some (.ref q)), h, k)) D ka sg A nL al (pc, ls, [.ref q], h, k) := fun H locs L h1 h2 h3 h4 =>
  vx_ret (W.aret C.1 C.2.1 hr (Or.inl ⟨_, rfl⟩) (Or.inr ⟨_, rfl⟩) (a_end h1 h2 h4) h2.2.2 hd hlocks)
theorem e_return (C : aCx p l s m args c D ka sg A nL own cc) (hr : meth.sig.returnType = none) (hlocks : meth.locks = false) (hd : decode cc pc = .ok (.return_, 1)) : aSim p l e R s m args below meth c (aEq below D ka sg A al args s (.inl none, h, k)) D ka sg A nL al (pc, ls, [], h, k) := fun H locs L h1 h2 h3 h4 =>
  vx_ret (W.vret C.1 C.2.1 hr (a_end h1 h2 h4) h2.2.2 hd hlocks)
end SNT
