/-! WHAT THE ABSTRACT MACHINE SAYS OF THE MACHINE: s: where each place of the abstract heap lies -/
def aCv (s : Nat → Nat) (x : Value) : Value := match x with
  | .ref q => .ref (s q)
  | y => y
theorem aCv_cat (s : Nat → Nat) (x : Value) : (aCv s x).category = x.category := by cases x <;> rfl
def aCa (s : Nat → Nat) (x : vp_A) : vp_A := (x.1, match x.2 with
  | .inr (.inr (.inr (.inr f))) => .inr (.inr (.inr (.inr fun j => (f j).map s)))
  | y => y)
/-- the listed locals -/
def aLv (s : Nat → Nat) (ls : List (Option Value)) : List (Nat × Value) := ls.zipIdx.filterMap fun q => q.1.map fun v => (q.2, aCv s v)
theorem aLv_mem {s : Nat → Nat} {ls : List (Option Value)} {i : Nat} {w : Value} : (i, w) ∈ aLv s ls ↔ ∃ v, ls[i]? = some (some v) ∧ w = aCv s v := by
  unfold aLv
  rw [List.mem_filterMap]
  constructor
  · rintro ⟨⟨o, j⟩, hm, he⟩
    have h1 := List.mem_zipIdx_iff_getElem?.mp hm
    cases o with
    | none => cases he
    | some v =>
      cases he
      exact ⟨v, h1, rfl⟩
  · rintro ⟨v, h1, rfl⟩
    exact ⟨(some v, i), List.mem_zipIdx_iff_getElem?.mpr h1, rfl⟩
def aLoc (s : Nat → Nat) (L : Array Slot) (nL : Nat) (ls : List (Option Value)) : Prop := L.size = nL ∧ lv_wf L ∧ ls.length = nL ∧ ∀ (i : Nat) (v : Value), ls[i]? = some (some v) → L[i]? = some (.val (aCv s v))
theorem aLoc.has {s : Nat → Nat} {L : Array Slot} {nL : Nat} {ls : List (Option Value)} (h : aLoc s L nL ls) : lv_has L nL (aLv s ls) := by
  refine ⟨h.1, h.2.1, fun q hq => ?_⟩
  obtain ⟨i, w⟩ := q
  obtain ⟨v, h1, rfl⟩ := aLv_mem.mp hq
  exact h.2.2.2 i v h1
theorem aMay_lt {ls : List (Option Value)} {i : Nat} (h : aMay ls i = true) : i < ls.length := by
  unfold aMay at h
  rw [Bool.and_eq_true] at h
  exact of_decide_eq_true h.1
theorem aMay_cat {ls : List (Option Value)} {j : Nat} {v : Value} (h : aMay ls (j + 1) = true) (hv : ls[j]? = some (some v)) : v.category = 1 := by
  unfold aMay at h
  rw [Bool.and_eq_true] at h
  have h2 := h.2
  dsimp only at h2
  rw [hv] at h2
  exact eq_of_beq h2
theorem aLoc.back {s : Nat → Nat} {L L1 : Array Slot} {nL i : Nat} {ls : List (Option Value)} (h : aLoc s L nL ls) (hm : aMay ls i = true) {o : Option Value} {w : Value} (ho : ∀ v, o = some v → w = aCv s v) (h1 : lv_has L1 nL ((i, w) :: (aLv s ls).filter (fun q => !(q.1 == i) && !(q.1 + 1 == i && q.2.category == 2)))) : aLoc s L1 nL (ls.set i o) := by
  refine ⟨h1.1, h1.2.1, by rw [List.length_set]; exact h.2.2.1, fun j v hj => ?_⟩
  by_cases e : j = i
  · subst e
    rw [List.getElem?_set_self (aMay_lt hm)] at hj
    cases hj
    rw [← ho v rfl]
    exact h1.2.2 (j, w) List.mem_cons_self
  · rw [List.getElem?_set_ne (Ne.symm e)] at hj
    refine h1.2.2 (j, aCv s v) (List.mem_cons_of_mem _ (List.mem_filter.mpr ⟨aLv_mem.mpr ⟨v, hj, rfl⟩, ?_⟩))
    simp only [Bool.and_eq_true, Bool.not_eq_true', beq_eq_false_iff_ne, ne_eq, Bool.and_eq_false_iff]
    refine ⟨e, ?_⟩
    by_cases e2 : j + 1 = i
    · subst e2
      refine Or.inr ?_
      rw [aCv_cat, aMay_cat hm hj]
      decide
    · exact Or.inl e2
theorem aLoc.back2 {s : Nat → Nat} {L L1 : Array Slot} {nL i : Nat} {ls : List (Option Value)} (h : aLoc s L nL ls) (hm : aMay ls i = true) {x : Value} (hl : i + 1 < ls.length) (h1 : lv_has L1 nL ((i, aCv s x) :: (aLv s ls).filter (fun q => !(q.1 == i) && (!(q.1 == i + 1) && !(q.1 + 1 == i && q.2.category == 2))))) : aLoc s L1 nL ((ls.set i (some x)).set (i + 1) none) := by
  refine ⟨h1.1, h1.2.1, by rw [List.length_set, List.length_set]; exact h.2.2.1, fun j v hj => ?_⟩
  by_cases e : j = i + 1
  · subst e
    rw [List.getElem?_set_self (by rw [List.length_set]; exact hl)] at hj
    cases hj
  · rw [List.getElem?_set_ne (Ne.symm e)] at hj
    by_cases e1 : j = i
    · subst e1
      rw [List.getElem?_set_self (aMay_lt hm)] at hj
      cases hj
      exact h1.2.2 (j, aCv s x) List.mem_cons_self
    · rw [List.getElem?_set_ne (Ne.symm e1)] at hj
      refine h1.2.2 (j, aCv s v) (List.mem_cons_of_mem _ (List.mem_filter.mpr ⟨aLv_mem.mpr ⟨v, hj, rfl⟩, ?_⟩))
      simp only [Bool.and_eq_true, Bool.not_eq_true', beq_eq_false_iff_ne, ne_eq, Bool.and_eq_false_iff]
      refine ⟨e1, e, ?_⟩
      by_cases e2 : j + 1 = i
      · subst e2
        refine Or.inr ?_
        rw [aCv_cat, aMay_cat hm hj]
        decide
      · exact Or.inl e2
/-- a constant string (its number, its place, its bytes' place), and the statics that its methods read -/
def jStr (ci a v : Nat) (A : Nat → Prop) (U : State) (H : Heap) : Prop :=
  va_Z "java/lang/String" "COMPACT_STRINGS" "Z" (.int 1) A U H ∧ va_Zq "jdk/internal/util/Preconditions" "SIOOBE_FORMATTER" "Ljava/util/function/BiFunction;" A U H ∧ vk_S 1 [(aStr ci).length] [aStr ci] (fun _ => a) (fun _ => v) A U H
theorem jStr.moved {ci a v : Nat} {A : Nat → Prop} {u U : State} {H : Heap} (hvm : u.vm.Alike U.vm) (h : jStr ci a v A u H) : jStr ci a v A U H := ⟨h.1.moved hvm, h.2.1.moved hvm, h.2.2.moved hvm⟩
theorem jStr.kept {ci a v : Nat} {A : Nat → Prop} {U : State} {H H1 : Heap} (h : jStr ci a v A U H) (hq : ∀ a : Nat, a < H.size → ¬ A a → H1[a]? = H[a]?) : jStr ci a v A U H1 := ⟨h.1.kept hq, h.2.1.kept hq, h.2.2.kept hq⟩
theorem jStr.narrow {ci a v : Nat} {A B : Nat → Prop} {U : State} {H : Heap} (h : jStr ci a v A U H) (hAB : ∀ q, B q → A q) : jStr ci a v B U H := ⟨h.1.narrow hAB, h.2.1.narrow hAB, h.2.2.narrow hAB⟩
/-- what a cell of the abstract heap says of the heap H (D, ka: the classes' and arrays' numbers; A: what may be written) -/
def aOn (D : va_G) (ka : FieldType → ClassId) (s : Nat → Nat) (A : Nat → Prop) (U : State) (H : Heap) (q : Nat) (c : aC) : Prop := match c with
  | (true, .inl (ty, x)) => A (s q) ∧ H[s q]? = some (vp_cell (ka ty) (aCa s x))
  | (false, .inl (ty, x)) => ∃ f, x.2 = .inl f ∧ va_T ty (s q) x.1 (fun j => .int (f j)) A U H
  | (true, .inr (ci, fs)) => A (s q) ∧ ∃ r : vw_C, aCl[ci]? = some r ∧ t_OB (s q) (D.1 ci) r.2.2 (D.2 ci) H (vp_V (fs.map (aCv s)))
  | (false, .inr o) => 90 ≤ o.1 → ∃ v, jStr o.1 (s q) v A U H
def aRel (D : va_G) (ka : FieldType → ClassId) (s : Nat → Nat) (A : Nat → Prop) (U : State) (h : aH) (H : Heap) : Prop :=
  (∀ (q : Nat) (c : aC), h[q]? = some c → aOn D ka s A U H q c) ∧ ∀ (q q1 : Nat) (c c1 : aE), h[q]? = some (true, c) → h[q1]? = some (true, c1) → s q = s q1 → q = q1
theorem aOn.moved {D : va_G} {ka : FieldType → ClassId} {s : Nat → Nat} {A : Nat → Prop} {u U : State} {H : Heap} {q : Nat} {c : aC} (hvm : u.vm.Alike U.vm) (h : aOn D ka s A u H q c) : aOn D ka s A U H q c := by
  obtain ⟨w, e⟩ := c
  cases w <;> cases e
  · obtain ⟨f, h1, h2⟩ := h
    exact ⟨f, h1, va_T.moved hvm h2⟩
  · exact fun hc => (h hc).elim fun v hv => ⟨v, hv.moved hvm⟩
  · exact h
  · exact h
theorem aRel.moved {D : va_G} {ka : FieldType → ClassId} {s : Nat → Nat} {A : Nat → Prop} {u U : State} {h : aH} {H : Heap} (hvm : u.vm.Alike U.vm) (hr : aRel D ka s A u h H) : aRel D ka s A U h H := ⟨fun q c hq => (hr.1 q c hq).moved hvm, hr.2⟩
/-- a cell that was not written, where the written one is another that may be -/
theorem aOn.kept {D : va_G} {ka : FieldType → ClassId} {s : Nat → Nat} {A : Nat → Prop} {U : State} {H H1 : Heap} {q : Nat} {c : aC} (h : aOn D ka s A U H q c) {a : Nat} (ha : A a) (hq : ∀ e, c = (true, e) → s q ≠ a) (ho : ∀ x : Nat, x ≠ a → H1[x]? = H[x]?) : aOn D ka s A U H1 q c := by
  obtain ⟨w, e⟩ := c
  cases w <;> cases e
  · obtain ⟨f, h1, cell, g1, g2⟩ := h
    obtain ⟨g3, g4, g5, g6, g7, g8⟩ := g2
    refine ⟨f, h1, cell, ?_, g3, g4, g5, g6, g7, g8⟩
    rw [ho _ (fun e => g8 (by rw [e]; exact ha))]
    exact g1
  · exact fun hc => (h hc).elim fun v hv => ⟨v, hv.kept (fun x _ hx => ho x (fun e => hx (by rw [e]; exact ha)))⟩
  · exact ⟨h.1, by rw [ho _ (hq _ rfl)]; exact h.2⟩
  · obtain ⟨h1, r, h2, h3⟩ := h
    exact ⟨h1, r, h2, h3.kept (ho _ (hq _ rfl))⟩
theorem aRel.set {D : va_G} {ka : FieldType → ClassId} {s : Nat → Nat} {A : Nat → Prop} {U : State} {h : aH} {H H1 : Heap} (hr : aRel D ka s A U h H) {q : Nat} {e0 e : aE} (hq : h[q]? = some (true, e0)) (hA : A (s q)) (hn : aOn D ka s A U H1 q (true, e)) (ho : ∀ x : Nat, x ≠ s q → H1[x]? = H[x]?) : aRel D ka s A U (h.set q (true, e)) H1 := by
  have hl : q < h.length := (List.getElem?_eq_some_iff.mp hq).1
  refine ⟨fun j c hj => ?_, fun j j1 c c1 hj hj1 hs => ?_⟩
  · by_cases e1 : j = q
    · subst e1
      rw [List.getElem?_set_self hl] at hj
      cases hj
      exact hn
    · rw [List.getElem?_set_ne (Ne.symm e1)] at hj
      refine (hr.1 j c hj).kept hA (fun e2 hc hs => ?_) ho
      subst hc
      exact e1 (hr.2 j q e2 e0 hj hq hs)
  · have key : ∀ (i : Nat) (x : aE), (h.set q (true, e))[i]? = some (true, x) → ∃ y, h[i]? = some (true, y) := by
      intro i x hi
      by_cases e1 : i = q
      · subst e1
        exact ⟨e0, hq⟩
      · rw [List.getElem?_set_ne (Ne.symm e1)] at hi
        exact ⟨x, hi⟩
    obtain ⟨y, hy⟩ := key j c hj
    obtain ⟨y1, hy1⟩ := key j1 c1 hj1
    exact hr.2 j j1 y y1 hy hy1 hs
/-- a new cell at the heap's end -/
theorem aRel.push {D : va_G} {ka : FieldType → ClassId} {s : Nat → Nat} {A : Nat → Prop} {U : State} {h : aH} {H H1 : Heap} (hr : aRel D ka s A U h H) {e : aE} (hs : s h.length = H.size) (hn : aOn D ka s A U H1 h.length (true, e)) (ho : ∀ x : Nat, x < H.size → H1[x]? = H[x]?) : aRel D ka s A U (h ++ [(true, e)]) H1 := by
  have lt : ∀ (q : Nat) (x : aE), h[q]? = some (true, x) → s q < H.size := by
    intro q x hq
    have h1 := hr.1 q _ hq
    cases x with
    | inl y => exact (Array.getElem?_eq_some_iff.mp h1.2).1
    | inr y =>
      obtain ⟨-, r, -, cell, h2, -⟩ := h1
      exact (Array.getElem?_eq_some_iff.mp h2).1
  have key : ∀ (q : Nat) (c : aC), (h ++ [(true, e)])[q]? = some c → h[q]? = some c ∨ (q = h.length ∧ c = (true, e)) := by
    intro q c hq
    by_cases hl : q < h.length
    · rw [List.getElem?_append_left hl] at hq
      exact Or.inl hq
    · rw [List.getElem?_append_right (by omega)] at hq
      have hz : q - h.length < 1 := (List.getElem?_eq_some_iff.mp hq).1
      have h0 : q = h.length := by omega
      subst h0
      rw [Nat.sub_self] at hq
      cases hq
      exact Or.inr ⟨rfl, rfl⟩
  refine ⟨fun q c hq => ?_, fun q q1 c c1 hq hq1 hs1 => ?_⟩
  · rcases key q c hq with h1 | ⟨rfl, rfl⟩
    · have h2 := hr.1 q c h1
      obtain ⟨w, x⟩ := c
      cases w <;> cases x
      · obtain ⟨f, g0, cell, g1, g2⟩ := h2
        exact ⟨f, g0, cell, by rw [ho _ (Array.getElem?_eq_some_iff.mp g1).1]; exact g1, g2⟩
      · exact fun hc => (h2 hc).elim fun v hv => ⟨v, hv.kept (fun x hx _ => ho x hx)⟩
      · exact ⟨h2.1, by rw [ho _ (lt q _ h1)]; exact h2.2⟩
      · obtain ⟨g0, r, g1, g2⟩ := h2
        exact ⟨g0, r, g1, g2.kept (ho _ (lt q _ h1))⟩
    · exact hn
  · rcases key q _ hq with h1 | ⟨rfl, h1⟩ <;> rcases key q1 _ hq1 with h2 | ⟨rfl, h2⟩
    · exact hr.2 q q1 c c1 h1 h2 hs1
    · have := lt q c h1
      omega
    · have := lt q1 c1 h2
      omega
    · rfl
