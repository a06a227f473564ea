/-! SOUNDNESS: statics, strings, new things, copies -/
theorem aDef_cv (sg : Nat → Nat) (ty : FieldType) : aCv sg (defaultValue ty) = defaultValue ty := by cases ty <;> rfl
section SNN
variable {p : Program} {l : Launch} {e : Env} {R : Room} {s : State} {m : MethodId} {args : Array Value} {below : List Frame} {meth : Method} {c : Code} {Q : State → Prop} {D : va_G} {ka : FieldType → ClassId} {sg : Nat → Nat} {A : Nat → Prop} {nL : Nat} {own : String} {cc : ByteArray} {al : Bool}
variable {pc : Nat} {ls : List (Option Value)} {st r : List Value} {h : aH} {k : aK} {x y i : Int32} {q n j : Nat} {w : Bool}
theorem s_getstatic (C : aCx p l s m args c D ka sg A nL own cc) {idx a : Nat} (ha : a < 5) (hl : Cond.fieldLink own idx RX7 (aGs a).1 (aGs a).2 ∈ aWg) (hd : decode cc pc = .ok (.getstatic idx, 3)) (K : aSim p l e R s m args below meth c Q D ka sg A nL al (pc + 3, ls, .ref a :: st, h, k)) : aSim p l e R s m args below meth c Q D ka sg A nL al (pc, ls, st, h, k) := by
  intro H locs L h1 h2 h3 h4
  obtain ⟨hx, hbc, -, hown, hts, hK, -, -⟩ := C
  exact va_gets hx hbc (hK.2.1 a ha) h2 hown (hts _ hl) (fun _ z => z) hd (K H locs L h1 h2 h3 h4)
theorem s_getstaticN (C : aCx p l s m args c D ka sg A nL own cc) {idx a : Nat} (ha : a < 5) (hl : (own, idx, (aGs a).1, (aGs a).2) ∈ aNestF) (hd : decode cc pc = .ok (.getstatic idx, 3)) (K : aSim p l e R s m args below meth c Q D ka sg A nL al (pc + 3, ls, .ref a :: st, h, k)) : aSim p l e R s m args below meth c Q D ka sg A nL al (pc, ls, st, h, k) := by
  intro H locs L h1 h2 h3 h4
  obtain ⟨hx, hbc, -, hown, hts, hK, -, -⟩ := C
  exact va_getsN hx hbc (hK.2.1 a ha) h2 hown (va_Nw.use rfl (hK.1.2.2.1 _ hl)) (fun _ z => z) hd (K H locs L h1 h2 h3 h4)
theorem s_ldc (C : aCx p l s m args c D ka sg A nL own cc) {idx a : Nat} {tx : String} (hv : vk_R own idx tx (sg a) s) (hd : decode cc pc = .ok (.ldc idx, 2)) (K : aSim p l e R s m args below meth c Q D ka sg A nL al (pc + 2, ls, .ref a :: st, h, k)) : aSim p l e R s m args below meth c Q D ka sg A nL al (pc, ls, st, h, k) := by
  intro H locs L h1 h2 h3 h4
  obtain ⟨hx, hbc, -, hown, hts, hK, -, -⟩ := C
  exact va_ldcS hx hbc hown hv hd (K H locs L h1 h2 h3 h4)
theorem s_new (C : aCx p l s m args c D ka sg A nL own cc) {idx ci : Nat} {rc : vw_C} (hal : al = true) (hc : aCl[ci]? = some rc) (hl : Cond.classLink own idx rc.1 ∈ aWg) (hi : Cond.instantiable rc.1 rc.2.2 ∈ aWg) (hini : Cond.initialized rc.1 ∈ aWg) (hkc : k.1 + 1 ≤ R.cells) (hks : k.2 + aNf ci ≤ R.slots) (hd : decode cc pc = .ok (.new idx, 3))
    (K : aSim p l e R s m args below meth c Q D ka sg A nL al (pc + 3, ls, .ref h.length :: st, h ++ [(true, .inr (ci, (List.range (aNf ci)).map fun j => defaultValue (aTy ci j)))], (k.1 + 1, k.2 + aNf ci))) : aSim p l e R s m args below meth c Q D ka sg A nL al (pc, ls, st, h, k) := by
  intro H locs L h1 h2 h3 h4
  obtain ⟨hx, hbc, -, hown, hts, hK, hA, -⟩ := C
  have hKn := hK.1.1 ci _ hc
  obtain ⟨hty, -, hN, -⟩ := aCl_ok ci rc hc
  have hs : sg h.length = H.size := by have := h4 hal 0; simpa using this
  rw [← hN] at hks
  refine W.newcK hx hbc hown (hts _ hl) (hts _ hi) (hts _ hini) rfl hd hkc hks hKn.2.1 rfl fun H1 kC hkC e1 z1 o1 => ?_
  have hAq : A H.size := hA _ h2.1
  have G := K H1 locs L (h1.push hs ⟨by rw [hs]; exact hAq, _, hc, ?_⟩ o1) ⟨Nat.le_trans h2.1 (by omega), fun x g1 g2 => (o1 x (Nat.lt_of_lt_of_le g1 h2.1)).trans (h2.2.1 x g1 g2), h2.2.2⟩ h3 (fun ha j => ?_)
  · rw [← hN] at G
    rw [← hs]
    exact G
  · rw [hs]
    refine (u_born (aTy ci) hts (aCl_in ci _ hc) hKn hkC e1 hty).to (fun j hj => ?_)
    rw [← hN]
    simp [vp_V, hj, aDef_cv]
  · show sg ((h ++ [_]).length + j) = _
    rw [List.length_append, z1]
    have := h4 ha (1 + j)
    simp only [List.length_singleton]
    rw [Nat.add_assoc, this]
    omega
/-- a new array at the heap's end -/
theorem aSim_arr {H H1 : Heap} {locs : List Loc} {L : Array Slot} {ty : FieldType} {z : vp_A} {cA : ClassId} {k1 : aK} (K : aSim p l e R s m args below meth c Q D ka sg A nL al (pc, ls, .ref h.length :: r, h ++ [(true, .inl (ty, z))], k1)) (hal : al = true) (hA : ∀ q : Nat, s.heap.size ≤ q → A q) (h1 : aRel D ka sg A s h H) (h2 : va_S A s.heap H locs) (h3 : aLoc sg L nL ls) (h4 : al = true → ∀ j : Nat, sg (h.length + j) = H.size + j) (e1 : H1[H.size]? = some (vp_cell cA (aCa sg z))) (hc : cA = ka ty) (z1 : H1.size = H.size + 1) (o1 : ∀ q : Nat, q < H.size → H1[q]? = H[q]?) : W p l e R s m args below meth c H1 locs k1.1 k1.2 Q (F0 m pc L (.ref H.size :: r.map (aCv sg))) := by
  have hs : sg h.length = H.size := by have := h4 hal 0; simpa using this
  have G := K H1 locs L (h1.push hs ⟨by rw [hs]; exact hA _ h2.1, by rw [hs, e1, hc]⟩ o1) ⟨Nat.le_trans h2.1 (by omega), fun x g1 g2 => (o1 x (Nat.lt_of_lt_of_le g1 h2.1)).trans (h2.2.1 x g1 g2), h2.2.2⟩ h3 (fun ha j => ?_)
  · rw [← hs]
    exact G
  · show sg ((h ++ [_]).length + j) = _
    rw [List.length_append, z1]
    have := h4 ha (1 + j)
    simp only [List.length_singleton]
    rw [Nat.add_assoc, this]
    omega
theorem a_nneg {n : Int32} (h : 0 ≤ n) : ¬ n < 0 := Int32.not_lt.mpr h
theorem s_newInt (C : aCx p l s m args c D ka sg A nL own cc) (hal : al = true) (hl : Cond.arrayClass .int ∈ aWg) (hn : 0 ≤ x) (hb : x.toNatClampNeg ≤ 100000) (hkc : k.1 + 1 ≤ R.cells) (hks : k.2 + x.toNatClampNeg ≤ R.slots) (hd : decode cc pc = .ok (.newarray .int, 2))
    (K : aSim p l e R s m args below meth c Q D ka sg A nL al (pc + 2, ls, .ref h.length :: r, h ++ [(true, .inl (.int, x.toNatClampNeg, .inl fun _ => 0))], (k.1 + 1, k.2 + x.toNatClampNeg))) : aSim p l e R s m args below meth c Q D ka sg A nL al (pc, ls, .int x :: r, h, k) := by
  intro H locs L h1 h2 h3 h4
  refine va_newaK (atype := .int) C.1 C.2.1 (C.2.2.2.2.1 _ hl) rfl hd rfl (a_nneg hn) rfl (by show _ * 4 ≤ _; omega) hkc hks rfl fun H1 cA e1 z1 o1 hAr hNm => ?_
  exact aSim_arr K hal C.2.2.2.2.2.2.1 h1 h2 h3 h4 e1 (Option.some.inj (hNm.symm.trans (C.2.2.2.2.2.1.1.2.1 .int (by simp)).2)) z1 o1
theorem s_newChar (C : aCx p l s m args c D ka sg A nL own cc) (hal : al = true) (hl : Cond.arrayClass .char ∈ aWg) (hn : 0 ≤ x) (hb : x.toNatClampNeg ≤ 100000) (hkc : k.1 + 1 ≤ R.cells) (hks : k.2 + x.toNatClampNeg ≤ R.slots) (hd : decode cc pc = .ok (.newarray .char, 2))
    (K : aSim p l e R s m args below meth c Q D ka sg A nL al (pc + 2, ls, .ref h.length :: r, h ++ [(true, .inl (.char, x.toNatClampNeg, .inl fun _ => 0))], (k.1 + 1, k.2 + x.toNatClampNeg))) : aSim p l e R s m args below meth c Q D ka sg A nL al (pc, ls, .int x :: r, h, k) := by
  intro H locs L h1 h2 h3 h4
  refine va_newaK (atype := .char) C.1 C.2.1 (C.2.2.2.2.1 _ hl) rfl hd rfl (a_nneg hn) rfl (by show _ * 2 ≤ _; omega) hkc hks rfl fun H1 cA e1 z1 o1 hAr hNm => ?_
  exact aSim_arr K hal C.2.2.2.2.2.2.1 h1 h2 h3 h4 e1 (Option.some.inj (hNm.symm.trans (C.2.2.2.2.2.1.1.2.1 .char (by simp)).2)) z1 o1
theorem s_newLong (C : aCx p l s m args c D ka sg A nL own cc) (hal : al = true) (hl : Cond.arrayClass .long ∈ aWg) (hn : 0 ≤ x) (hb : x.toNatClampNeg ≤ 100000) (hkc : k.1 + 1 ≤ R.cells) (hks : k.2 + x.toNatClampNeg ≤ R.slots) (hd : decode cc pc = .ok (.newarray .long, 2))
    (K : aSim p l e R s m args below meth c Q D ka sg A nL al (pc + 2, ls, .ref h.length :: r, h ++ [(true, .inl (.long, x.toNatClampNeg, .inr (.inl fun _ => 0)))], (k.1 + 1, k.2 + x.toNatClampNeg))) : aSim p l e R s m args below meth c Q D ka sg A nL al (pc, ls, .int x :: r, h, k) := by
  intro H locs L h1 h2 h3 h4
  refine va_newaK (atype := .long) C.1 C.2.1 (C.2.2.2.2.1 _ hl) rfl hd rfl (a_nneg hn) rfl (by show _ * 8 ≤ _; omega) hkc hks rfl fun H1 cA e1 z1 o1 hAr hNm => ?_
  exact aSim_arr K hal C.2.2.2.2.2.2.1 h1 h2 h3 h4 e1 (Option.some.inj (hNm.symm.trans (C.2.2.2.2.2.1.1.2.1 .long (by simp)).2)) z1 o1
theorem s_anewarray (C : aCx p l s m args c D ka sg A nL own cc) {idx : Nat} (hal : al = true) (hl : Cond.classLink own idx RX6 ∈ aWg) (hn : 0 ≤ x) (hb : x.toNatClampNeg ≤ 100000) (hkc : k.1 + 1 ≤ R.cells) (hks : k.2 + x.toNatClampNeg ≤ R.slots) (hd : decode cc pc = .ok (.anewarray idx, 3))
    (K : aSim p l e R s m args below meth c Q D ka sg A nL al (pc + 3, ls, .ref h.length :: r, h ++ [(true, .inl (.object RX6, x.toNatClampNeg, .inr (.inr (.inr (.inr fun _ => none)))))], (k.1 + 1, k.2 + x.toNatClampNeg))) : aSim p l e R s m args below meth c Q D ka sg A nL al (pc, ls, .int x :: r, h, k) := by
  intro H locs L h1 h2 h3 h4
  refine W.anew C.1 C.2.1 C.2.2.2.1 (C.2.2.2.2.1 _ hl) (va_AO.use C.2.2.2.2.2.1.1.2.2.2.2.2.2.2.2.1) rfl hd rfl (a_nneg hn) (by omega) hkc hks fun cA kA comp f1 f2 f3 f4 => ?_
  generalize hH1 : H.push ({ cls := cA, slots := Array.replicate x.toNatClampNeg .null, vm := .none } : Cell) = H1
  have z1 : H1.size = H.size + 1 := by rw [← hH1, Array.size_push]
  have e1 : H1[H.size]? = some (arrV cA x.toNatClampNeg (fun _ => .null)) := by rw [← hH1, Array.getElem?_push_size, ← arrV_new]
  have o1 : ∀ q : Nat, q < H.size → H1[q]? = H[q]? := fun q hq => by rw [← hH1, Array.getElem?_push, if_neg (Nat.ne_of_lt hq)]
  obtain ⟨kA2, comp2, g1, g2, g3, g4⟩ := (C.2.2.2.2.2.1.1.2.1 (.object RX6) (by simp)).2
  exact aSim_arr K hal C.2.2.2.2.2.2.1 h1 h2 h3 h4 e1 (Option.some.inj (f1.symm.trans g4)) z1 o1
theorem s_objInit (C : aCx p l s m args c D ka sg A nL own cc) {idx : Nat} (hl : Cond.methodLink own idx Lib.objectInit ∈ aWg) (hi : Cond.instanceMethod Lib.objectInit ∈ aWg) (hcd : Cond.code Lib.objectInit ⟨#[0xb1]⟩ 1 none ∈ aWg) (hf : 1 ≤ R.frames) (hlo : 20 ≤ R.locals) (hr : aSum r ≤ 8) (hd : decode cc pc = .ok (.invokespecial idx, 3)) (K : aSim p l e R s m args below meth c Q D ka sg A nL al (pc + 3, ls, r, h, k)) : aSim p l e R s m args below meth c Q D ka sg A nL al (pc, ls, .ref q :: r, h, k) := by
  intro H locs L h1 h2 h3 h4
  refine W.objInit C.1 C.2.1 C.2.2.2.1 (C.2.2.2.2.1 _ hl) (C.2.2.2.2.1 _ hi) (C.2.2.2.2.1 _ hcd) rfl (by rw [C.2.2.1]; exact h3.1) rfl hd hf ?_ (K H locs L h1 h2 h3 h4)
  have e : ((r.map (aCv sg)).map fun v => v.category).sum = aSum r := by
    unfold aSum
    rw [List.map_map]
    congr 1
    exact List.map_congr_left fun v _ => aCv_cat sg v
  show 2 * 0 + ((r.map (aCv sg)).map fun v => v.category).sum + 12 ≤ R.locals
  omega
end SNN
