/-! SOUNDNESS: Math, copies, an array of arrays -/
theorem aRel.pushL {D : va_G} {ka : FieldType → ClassId} {s : Nat → Nat} {A : Nat → Prop} {U : State} {h : aH} {H H1 : Heap} (hr : aRel D ka s A U h H) {es : List aE} (hs : ∀ j : Nat, j < es.length → s (h.length + j) = H.size + j) (hn : ∀ (j : Nat) (e : aE), es[j]? = some e → aOn D ka s A U H1 (h.length + j) (true, e)) (ho : ∀ x : Nat, x < H.size → H1[x]? = H[x]?) : aRel D ka s A U (h ++ es.map fun e => (true, e)) H1 := by
  have hg := hr.grow ho
  have lt : ∀ (q : Nat) (x : aE), h[q]? = some (true, x) → s q < H.size := by
    intro q x hq
    have h1 := hr.1 q _ hq
    cases x with
    | inl y => exact (Array.getElem?_eq_some_iff.mp h1.2).1
    | inr y =>
      obtain ⟨-, r, -, cell, h2, -⟩ := h1
      exact (Array.getElem?_eq_some_iff.mp h2).1
  have key : ∀ (q : Nat) (c : aC), (h ++ es.map fun e => (true, e))[q]? = some c → h[q]? = some c ∨ ∃ j e, q = h.length + j ∧ es[j]? = some e ∧ c = (true, e) := by
    intro q c hq
    by_cases hl : q < h.length
    · rw [List.getElem?_append_left hl] at hq
      exact Or.inl hq
    · rw [List.getElem?_append_right (by omega), List.getElem?_map] at hq
      cases he : es[q - h.length]? with
      | none => rw [he] at hq; cases hq
      | some e =>
        rw [he] at hq
        cases hq
        exact Or.inr ⟨q - h.length, e, by omega, he, rfl⟩
  refine ⟨fun q c hq => ?_, fun q q1 c c1 hq hq1 hs1 => ?_⟩
  · rcases key q c hq with h1 | ⟨j, e, rfl, he, rfl⟩
    · exact hg.1 q c h1
    · exact hn j e he
  · rcases key q _ hq with h1 | ⟨j, e, rfl, he, h1⟩ <;> rcases key q1 _ hq1 with h2 | ⟨j1, e1, rfl, he1, h2⟩
    · exact hr.2 q q1 c c1 h1 h2 hs1
    · have := lt q c h1
      have := hs j1 (List.getElem?_eq_some_iff.mp he1).1
      omega
    · have := lt q1 c1 h2
      have := hs j (List.getElem?_eq_some_iff.mp he).1
      omega
    · have := hs j (List.getElem?_eq_some_iff.mp he).1
      have := hs j1 (List.getElem?_eq_some_iff.mp he1).1
      omega
section SNM
variable {p : Program} {l : Launch} {e : Env} {R : Room} {s : State} {m : MethodId} {args : Array Value} {below : List Frame} {meth : Method} {c : Code} {Q : State → Prop} {D : va_G} {ka : FieldType → ClassId} {sg : Nat → Nat} {A : Nat → Prop} {nL : Nat} {own : String} {cc : ByteArray} {al : Bool}
variable {pc : Nat} {ls : List (Option Value)} {st r : List Value} {h : aH} {k : aK} {x y : Int32} {idx : Nat}
theorem s_max (C : aCx p l s m args c D ka sg A nL own cc) (hl : Cond.methodLink own idx Lib.Math.max.name ∈ aWg) (hs : Cond.static Lib.Math.max.name ∈ aWg) (hi : Cond.initialized "java/lang/Math" ∈ aWg) (hc : Cond.code Lib.Math.max.name Lib.Math.max.code 2 (some .int) ∈ aWg) (hf : 1 ≤ R.frames) (hlo : 100 ≤ R.locals) (hr : aSum r ≤ 8) (hkc : k.1 ≤ R.cells) (hks : k.2 ≤ R.slots) (hd : decode cc pc = .ok (.invokestatic idx, 3)) (K : aSim p l e R s m args below meth c Q D ka sg A nL al (pc + 3, ls, .int (if x < y then y else x) :: r, h, k)) : aSim p l e R s m args below meth c Q D ka sg A nL al (pc, ls, .int y :: .int x :: r, h, k) :=
  fun H locs L h1 h2 h3 h4 => va_mmax C.1 C.2.1 (by rw [C.2.2.1]; exact h3.1.symm) C.2.2.2.1 (C.2.2.2.2.1 _ hl) (C.2.2.2.2.1 _ hs) (C.2.2.2.2.1 _ hi) (C.2.2.2.2.1 _ hc) hf (by rw [a_sum]; omega) hkc hks hd (K H locs L h1 h2 h3 h4)
theorem s_min (C : aCx p l s m args c D ka sg A nL own cc) (hl : Cond.methodLink own idx Lib.Math.min.name ∈ aWg) (hs : Cond.static Lib.Math.min.name ∈ aWg) (hi : Cond.initialized "java/lang/Math" ∈ aWg) (hc : Cond.code Lib.Math.min.name Lib.Math.min.code 2 (some .int) ∈ aWg) (hf : 1 ≤ R.frames) (hlo : 100 ≤ R.locals) (hr : aSum r ≤ 8) (hkc : k.1 ≤ R.cells) (hks : k.2 ≤ R.slots) (hd : decode cc pc = .ok (.invokestatic idx, 3)) (K : aSim p l e R s m args below meth c Q D ka sg A nL al (pc + 3, ls, .int (if y < x then y else x) :: r, h, k)) : aSim p l e R s m args below meth c Q D ka sg A nL al (pc, ls, .int y :: .int x :: r, h, k) :=
  fun H locs L h1 h2 h3 h4 => va_mmin C.1 C.2.1 (by rw [C.2.2.1]; exact h3.1.symm) C.2.2.2.1 (C.2.2.2.2.1 _ hl) (C.2.2.2.2.1 _ hs) (C.2.2.2.2.1 _ hi) (C.2.2.2.2.1 _ hc) hf (by rw [a_sum]; omega) hkc hks hd (K H locs L h1 h2 h3 h4)
theorem a_nnz {z : Int32} (hz : ¬ z < 0) : z.toInt = (z.toNatClampNeg : Int) := by
  have hz0 : (0 : Int) ≤ z.toInt := by
    have := Int32.not_lt.mp hz
    simpa using Int32.le_iff_toInt_le.mp this
  show z.toInt = ((z.toInt.toNat : Nat) : Int)
  omega
theorem s_copy (C : aCx p l s m args c D ka sg A nL own cc) {q d n0 n1 : Nat} {f g : Nat → Int32} {n sp dp : Int32} (hl : Cond.methodLink own idx arraycopyName ∈ aWg) (hna : Cond.native arraycopyName ∈ aWg) (hst : Cond.static arraycopyName ∈ aWg) (hi : Cond.initialized "java/lang/System" ∈ aWg) (hf : 1 ≤ R.frames) (hlo : 100 ≤ R.locals) (hr : aSum r ≤ 8)
    (hq : h[q]? = some (true, .inl (.int, n0, .inl f))) (hdq : h[d]? = some (true, .inl (.int, n1, .inl g))) (h1 : ¬ sp < 0) (h2 : ¬ dp < 0) (h3 : ¬ n < 0) (h4 : sp.toNatClampNeg + n.toNatClampNeg ≤ n0) (h5 : dp.toNatClampNeg + n.toNatClampNeg ≤ n1) (hd : decode cc pc = .ok (.invokestatic idx, 3))
    (K : aSim p l e R s m args below meth c Q D ka sg A nL al (pc + 3, ls, r, h.set d (true, .inl (.int, n1, .inl (va_cpy f g sp.toNatClampNeg dp.toNatClampNeg n.toNatClampNeg))), k)) : aSim p l e R s m args below meth c Q D ka sg A nL al (pc, ls, .int n :: .int dp :: .ref d :: .int sp :: .ref q :: r, h, k) := by
  intro H locs L g1 g2 g3 g4 T hT X
  have hc0 : H[sg q]? = some (vp_cell (ka .int) (n0, .inl f)) := (g1.1 q _ hq).2
  obtain ⟨hA, hc1⟩ := g1.1 d _ hdq
  have hK := (C.2.2.2.2.2.1.1.2.1 .int (by simp)).1
  obtain ⟨-, k0, hk0, cm0, hkk0⟩ := hK n0 (fun j => .int (f j))
  obtain ⟨-, k1, hk1, cm1, hkk1⟩ := hK n1 (fun j => .int (g j))
  obtain ⟨vm', X', stp⟩ := X.arraycopy C.1 C.2.2.2.1 (C.2.2.2.2.1 _ hl) (C.2.2.2.2.1 _ hna) (C.2.2.2.2.1 _ hst) (C.2.2.2.2.1 _ hi) (src := sg q) (dst := sg d) (cs := vp_cell (ka .int) (n0, .inl f)) (cd := vp_cell (ka .int) (n1, .inl g)) (srcPos := sp) (destPos := dp) (n := n) (by rw [hT]; exact hc0) (by rw [hT]; exact hc1)
    (fun _ h => by cases h) (fun _ h => by cases h) (fun h => by cases h) (fun h => by cases h) hk0 hk1 hkk0 hkk1 (by simp [refKind]) h1 h2 h3
    (by rw [a_nnz h1, a_nnz h3]; show ¬ _ > ((arrV (ka .int) n0 (fun j => .int (f j))).slots.size : Int); rw [arrV_size]; omega)
    (by rw [a_nnz h2, a_nnz h3]; show ¬ _ > ((arrV (ka .int) n1 (fun j => .int (g j))).slots.size : Int); rw [arrV_size]; omega)
    (fun vm₁ _ i hi => by
      have e : (vp_cell (ka .int) (n0, .inl f)).slots.getD (sp.toNatClampNeg + i) .null = .int (f (sp.toNatClampNeg + i)) := by
        show (arrV (ka .int) n0 (fun j => .int (f j))).slots.getD _ _ = _
        rw [Array.getD_eq_getD_getElem?, arrV_read _ _ (by omega)]
        rfl
      refine ⟨?_, ?_⟩
      · rw [e]
        rfl
      · rw [e]
        exact trivial)
    (g := F0 m pc L (.int n :: .int dp :: .ref (sg d) :: .int sp :: .ref (sg q) :: r.map (aCv sg))) rfl (by rw [C.2.2.1]; exact g3.1) (rest := r.map (aCv sg)) rfl (by rw [C.2.1]; exact hd) hf (by
      have e9 : nativeFrameWords "java/lang/System" "arraycopy" 5 ≤ 60 := by decide +kernel
      rw [a_sum]
      show 2 * 0 + aSum r + _ ≤ R.locals
      omega)
  have e1 : copied (vp_cell (ka .int) (n0, .inl f)) (vp_cell (ka .int) (n1, .inl g)) sp dp n = vp_cell (ka .int) (n1, .inl (va_cpy f g sp.toNatClampNeg dp.toNatClampNeg n.toNatClampNeg)) := va_copied (fun z => .int z) (ka .int) (ka .int) f g h4
  rw [e1] at X' stp
  have hlt : sg d < H.size := (Array.getElem?_eq_some_iff.mp hc1).1
  have hheap : ((T.setVm vm').setCell (sg d) (vp_cell (ka .int) (n1, .inl (va_cpy f g sp.toNatClampNeg dp.toNatClampNeg n.toNatClampNeg)))).heap = H.setIfInBounds (sg d) (vp_cell (ka .int) (n1, .inl (va_cpy f g sp.toNatClampNeg dp.toNatClampNeg n.toNatClampNeg))) := by rw [← hT]; rfl
  have oq : ∀ q : Nat, q ≠ sg d → (H.setIfInBounds (sg d) (vp_cell (ka .int) (n1, .inl (va_cpy f g sp.toNatClampNeg dp.toNatClampNeg n.toNatClampNeg))))[q]? = H[q]? := fun q hq => by simp [Array.getElem?_setIfInBounds, Ne.symm hq]
  obtain ⟨t, a1, b1⟩ := K _ _ L (g1.set (e := .inl (.int, n1, .inl (va_cpy f g sp.toNatClampNeg dp.toNatClampNeg n.toNatClampNeg))) hdq hA ⟨hA, show (H.setIfInBounds (sg d) _)[sg d]? = some _ by simp [Array.getElem?_setIfInBounds, hlt]; rfl⟩ oq) (⟨by simp; exact g2.1, fun q z1 z2 => by
      rw [oq q (fun e => z2 (by rw [e]; exact hA))]
      exact g2.2.1 q z1 z2, fun q hq => by
      rcases List.mem_append.mp hq with h | h
      · exact g2.2.2 q h
      · obtain ⟨z, -, hz⟩ := List.mem_map.mp h
        rw [← hz]
        exact hA⟩) g3 (fun ha j => by
      show sg ((h.set d _).length + j) = _
      rw [List.length_set, Array.size_setIfInBounds]
      exact g4 ha j) _ hheap X'
  exact ⟨t, stp t a1, b1⟩
theorem s_multi (C : aCx p l s m args c D ka sg A nL own cc) (hal : al = true) (hl : Cond.classLink own idx "[[I" ∈ aWg) (hi : Cond.arrayClass .int ∈ aWg) (hkc : k.1 + 4 ≤ R.cells) (hks : k.2 + 63 ≤ R.slots) (hd : decode cc pc = .ok (.multianewarray idx 2, 4))
    (K : aSim p l e R s m args below meth c Q D ka sg A nL al (pc + 4, ls, .ref h.length :: r, h ++ [(true, .inl (.array .int, 3, .inr (.inr (.inr (.inr fun i => if i < 3 then some (h.length + 1 + i) else none))))), (true, .inl (.int, 20, .inl fun _ => 0)), (true, .inl (.int, 20, .inl fun _ => 0)), (true, .inl (.int, 20, .inl fun _ => 0))], (k.1 + 4, k.2 + 63))) : aSim p l e R s m args below meth c Q D ka sg A nL al (pc, ls, .int 20 :: .int 3 :: r, h, k) := by
  intro H locs L h1 h2 h3 h4 T hT X
  have e3 : (3 : Int32).toNatClampNeg = 3 := by decide
  have e20 : (20 : Int32).toNatClampNeg = 20 := by decide
  obtain ⟨vm₁, cA, comp, -, fA, fC, hO, hI, X', stp⟩ := X.multianewarray2F (ty := .int) C.1 C.2.2.2.1 (C.2.2.2.2.1 _ hl) (va_AOA.use C.2.2.2.2.2.1.1.2.2.2.2.2.2.2.2.2.1) (C.2.2.2.2.1 _ hi) (g := F0 m pc L (.int 20 :: .int 3 :: r.map (aCv sg))) rfl (by rw [C.2.1]; exact hd) (n := 3) (k := 20) (rest := r.map (aCv sg)) rfl (by decide) (by decide) (by decide) (by decide) (by decide) rfl rfl (by rw [e3]; exact hkc) (by rw [e3, e20]; exact hks)
  rw [e3, e20] at X' stp
  have hs : ∀ j : Nat, sg (h.length + j) = H.size + j := h4 hal
  have hTh : (T.setVm vm₁).heap = H := hT
  have kA : cA = ka (.array .int) := Option.some.inj (fA.symm.trans (C.2.2.2.2.2.1.1.2.1 (.array .int) (by simp)).2)
  have kI : comp = ka .int := Option.some.inj (fC.symm.trans (C.2.2.2.2.2.1.1.2.1 .int (by simp)).2)
  subst kA
  subst kI
  generalize hF : Jvm.Free.Multi.fill (T.setVm vm₁) (ka (.array .int)) (ka .int) 3 20 (defaultValue .int) 3 = F at X' stp
  obtain ⟨f1, f2, -, -⟩ := Jvm.Free.Multi.fill_facts (T.setVm vm₁) (ka (.array .int)) (ka .int) 3 20 (defaultValue .int) 3
  rw [hF, hTh] at f1 f2
  have hold : ∀ x : Nat, x < H.size → F.heap[x]? = H[x]? := fun x hx => by
    have := Jvm.Free.Multi.fill_old (T.setVm vm₁) (ka (.array .int)) (ka .int) 3 20 (defaultValue .int) (a := x) (by rw [hTh]; exact hx) 3
    rw [hF, hTh] at this
    exact this
  have hrow : ∀ j : Nat, j < 3 → F.heap[H.size + 1 + j]? = some (vp_cell (ka .int) (20, .inl fun _ => 0)) := fun j hj => by
    have := Jvm.Free.Multi.fill_inner (T.setVm vm₁) (ka (.array .int)) (ka .int) 3 20 (defaultValue .int) 3 j hj
    rw [hF, hTh] at this
    rw [this]
    refine congrArg some ?_
    show ({ cls := ka .int, slots := Array.replicate 20 (.int 0), vm := .none } : Cell) = arrV (ka .int) 20 (fun _ => .int 0)
    rw [arrV_new]
  have hAll : ∀ j : Nat, A (sg (h.length + j)) := fun j => by
    rw [hs]
    exact C.2.2.2.2.2.2.1 _ (Nat.le_trans h2.1 (Nat.le_add_right _ _))
  obtain ⟨t, a1, b1⟩ := K F.heap locs L (h1.pushL (es := [.inl (.array .int, 3, .inr (.inr (.inr (.inr fun i => if i < 3 then some (h.length + 1 + i) else none)))), .inl (.int, 20, .inl fun _ => 0), .inl (.int, 20, .inl fun _ => 0), .inl (.int, 20, .inl fun _ => 0)]) (fun j _ => hs j) (fun j e he => by
    match j, he with
    | 0, he =>
      cases he
      refine ⟨hAll 0, ?_⟩
      rw [hs, Nat.add_zero, f2, vr_outer]
      show some (arrV (ka (.array .int)) 3 (fun j => va_rf (if j < 3 then some (H.size + 1 + j) else none))) = some (arrV (ka (.array .int)) 3 (fun j => va_rf ((if j < 3 then some (h.length + 1 + j) else none).map sg)))
      congr 2
      funext j
      by_cases hj : j < 3
      · simp only [hj, if_true, Option.map_some]
        rw [Nat.add_assoc h.length, hs, Nat.add_assoc]
      · simp [hj]
    | 1, he => cases he; exact ⟨hAll 1, by rw [hs]; exact hrow 0 (by omega)⟩
    | 2, he => cases he; exact ⟨hAll 2, by rw [hs]; exact hrow 1 (by omega)⟩
    | 3, he => cases he; exact ⟨hAll 3, by rw [hs]; exact hrow 2 (by omega)⟩
    | j + 4, he => simp at he) hold) ⟨Nat.le_trans h2.1 (by omega), fun x g1 g2 => (hold x (Nat.lt_of_lt_of_le g1 h2.1)).trans (h2.2.1 x g1 g2), h2.2.2⟩ h3 (fun ha j => by
      show sg ((h ++ _).length + j) = _
      rw [List.length_append, f1]
      have := hs (4 + j)
      simp only [List.length_cons, List.length_nil]
      rw [show h.length + (0 + 1 + 1 + 1 + 1) + j = h.length + (4 + j) by omega, this]
      omega) F rfl X'
  refine ⟨t, stp t ?_, b1⟩
  have e : T.heap.size = sg h.length := by rw [hT]; exact (hs 0).symm
  rw [e]
  exact a1
end SNM
