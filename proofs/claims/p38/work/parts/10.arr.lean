/-! SOUNDNESS: arrays -/
theorem aRel.arr {D : va_G} {ka : FieldType → ClassId} {sg : Nat → Nat} {A : Nat → Prop} {U : State} {h : aH} {H : Heap} (h1 : aRel D ka sg A U h H) {ty : FieldType} (hK : ArrOfT U (ka ty) ty) {q : Nat} {w : Bool} {n : Nat} {f : Nat → Int32} (hq : h[q]? = some (w, .inl (ty, n, .inl f))) : ∃ cell : Cell, H[sg q]? = some cell ∧ U.isArrayOf cell ty ∧ cell.vm ≠ .unknown ∧ n ≤ cell.slots.size ∧ cell.slots.size.toInt32 = Int32.ofNat n ∧ ∀ j : Nat, j < n → cell.slots[j]? = some (.int (f j)) := by
  cases w with
  | true =>
    have h2 := (h1.1 q _ hq).2
    refine ⟨_, h2, hK n (fun j => .int (f j)), (fun q => by cases q), Nat.le_of_eq (arrV_size (ka ty) n (fun j => .int (f j))).symm, ?_, fun j hj => arrV_read _ _ hj⟩
    show (arrV (ka ty) n (fun j => .int (f j))).slots.size.toInt32 = _
    rw [arrV_size]
  | false =>
    obtain ⟨g, e, cell, g1, g2, g3, g4, g5, g6, -⟩ := h1.1 q _ hq
    cases e
    exact ⟨cell, g1, g2, g3, g4, g5, g6⟩
theorem aIn_size {i : Int32} {n N : Nat} (h : vp_in i n) (hn : n ≤ N) : ¬ (i < 0 ∨ N ≤ i.toNatClampNeg) := by
  intro q
  rcases q with q | q
  · exact h (Or.inl q)
  · exact h (Or.inr (Nat.le_trans hn q))
section SNA
variable {p : Program} {l : Launch} {e : Env} {R : Room} {s : State} {m : MethodId} {args : Array Value} {below : List Frame} {meth : Method} {c : Code} {Q : State → Prop} {D : va_G} {ka : FieldType → ClassId} {sg : Nat → Nat} {A : Nat → Prop} {nL : Nat} {own : String} {cc : ByteArray} {al : Bool}
variable {pc : Nat} {ls : List (Option Value)} {st r : List Value} {h : aH} {k : aK} {x y i : Int32} {q n j : Nat} {w : Bool}
theorem s_iaload (C : aCx p l s m args c D ka sg A nL own cc) {f : Nat → Int32} (hq : h[q]? = some (w, .inl (.int, n, .inl f))) (hi : aIx i n = some j) (hd : decode cc pc = .ok (.iaload, 1)) (K : aSim p l e R s m args below meth c Q D ka sg A nL al (pc + 1, ls, .int (f j) :: r, h, k)) : aSim p l e R s m args below meth c Q D ka sg A nL al (pc, ls, .int i :: .ref q :: r, h, k) := by
  intro H locs L h1 h2 h3 h4
  obtain ⟨hx, hbc, -, hown, hts, hK, -, -⟩ := C
  obtain ⟨cell, g1, g2, g3, g4, g5, g6⟩ := h1.arr (hK.1.2.1 .int (by simp)).1 hq
  obtain ⟨hin, rfl⟩ := aIx_in hi
  exact W.iald hx hbc g1 g2 g3 (aIn_size hin g4) (g6 _ (Nat.not_le.mp fun z => hin (Or.inr z))) rfl rfl hd (K H locs L h1 h2 h3 h4)
theorem s_caload (C : aCx p l s m args c D ka sg A nL own cc) {f : Nat → Int32} (hq : h[q]? = some (w, .inl (.char, n, .inl f))) (hi : aIx i n = some j) (hd : decode cc pc = .ok (.caload, 1)) (K : aSim p l e R s m args below meth c Q D ka sg A nL al (pc + 1, ls, .int (f j) :: r, h, k)) : aSim p l e R s m args below meth c Q D ka sg A nL al (pc, ls, .int i :: .ref q :: r, h, k) := by
  intro H locs L h1 h2 h3 h4
  obtain ⟨hx, hbc, -, hown, hts, hK, -, -⟩ := C
  obtain ⟨cell, g1, g2, g3, g4, g5, g6⟩ := h1.arr (hK.1.2.1 .char (by simp)).1 hq
  obtain ⟨hin, rfl⟩ := aIx_in hi
  exact W.cald hx hbc g1 g2 g3 (aIn_size hin g4) (g6 _ (Nat.not_le.mp fun z => hin (Or.inr z))) rfl rfl hd (K H locs L h1 h2 h3 h4)
theorem s_laload (C : aCx p l s m args c D ka sg A nL own cc) {f : Nat → Int64} (hq : h[q]? = some (w, .inl (.long, n, .inr (.inl f)))) (hi : aIx i n = some j) (hd : decode cc pc = .ok (.laload, 1)) (K : aSim p l e R s m args below meth c Q D ka sg A nL al (pc + 1, ls, .long (f j) :: r, h, k)) : aSim p l e R s m args below meth c Q D ka sg A nL al (pc, ls, .int i :: .ref q :: r, h, k) := by
  intro H locs L h1 h2 h3 h4
  obtain ⟨hx, hbc, -, hown, hts, hK, -, -⟩ := C
  have g := h1.1 q _ hq
  cases w with
  | false =>
    obtain ⟨f1, e1, -⟩ := g
    cases e1
  | true =>
    obtain ⟨hin, rfl⟩ := aIx_in hi
    exact W.lald hx hbc g.2 ((hK.1.2.1 .long (by simp)).1 n (fun j => .long (f j))) (fun z => by cases z) (by show ¬ (i < 0 ∨ (arrV _ _ _).slots.size ≤ _); rw [arrV_size]; exact hin) (arrV_read _ _ (Nat.not_le.mp fun z => hin (Or.inr z))) rfl rfl hd (K H locs L h1 h2 h3 h4)
theorem s_aaload (C : aCx p l s m args c D ka sg A nL own cc) {f : Nat → Option Nat} {ty : FieldType} {y : Nat} (hq : h[q]? = some (true, .inl (ty, n, .inr (.inr (.inr (.inr f)))))) (hty : ty ∈ aTys ∧ ty.isReference = true) (hi : aIx i n = some j) (hy : f j = some y) (hd : decode cc pc = .ok (.aaload, 1)) (K : aSim p l e R s m args below meth c Q D ka sg A nL al (pc + 1, ls, .ref y :: r, h, k)) : aSim p l e R s m args below meth c Q D ka sg A nL al (pc, ls, .int i :: .ref q :: r, h, k) := by
  intro H locs L h1 h2 h3 h4
  obtain ⟨hx, hbc, -, hown, hts, hK, -, -⟩ := C
  have g := h1.1 q _ hq
  obtain ⟨hin, rfl⟩ := aIx_in hi
  refine W.aald hx hbc g.2 ((hK.1.2.1 ty hty.1).1 n (fun j => va_rf ((f j).map sg))) hty.2 (fun z => by cases z) (by show ¬ (i < 0 ∨ (arrV _ _ _).slots.size ≤ _); rw [arrV_size]; exact hin) (v := .ref (sg y)) ?_ rfl rfl hd (K H locs L h1 h2 h3 h4)
  refine (arrV_read _ _ (Nat.not_le.mp fun z => hin (Or.inr z))).trans ?_
  show some (va_rf ((f i.toNatClampNeg).map sg)) = _
  rw [hy]
  rfl
theorem s_arraylength (C : aCx p l s m args c D ka sg A nL own cc) {ty : FieldType} {z : vp_A} (hq : h[q]? = some (w, .inl (ty, z))) (hty : ty ∈ aTys) (hd : decode cc pc = .ok (.arraylength, 1)) (K : aSim p l e R s m args below meth c Q D ka sg A nL al (pc + 1, ls, .int (Int32.ofNat z.1) :: r, h, k)) : aSim p l e R s m args below meth c Q D ka sg A nL al (pc, ls, .ref q :: r, h, k) := by
  intro H locs L h1 h2 h3 h4
  obtain ⟨hx, hbc, -, hown, hts, hK, -, -⟩ := C
  have g := h1.1 q _ hq
  cases w with
  | false =>
    obtain ⟨f1, e1, cell, g1, g2, g3, g4, g5, g6⟩ := g
    exact W.alen hx hbc g1 g2 g5 rfl rfl hd (K H locs L h1 h2 h3 h4)
  | true =>
    have hS : ∀ f : Nat → Value, (arrV (ka ty) z.1 f).slots.size.toInt32 = Int32.ofNat z.1 := fun f => by rw [arrV_size]
    have hO := (hK.1.2.1 ty hty).1 z.1
    have g2 := g.2
    obtain ⟨n, f | f | f | f | f⟩ := z
    · exact W.alen hx hbc g2 (hO (fun j => .int (f j))) (hS _) rfl rfl hd (K H locs L h1 h2 h3 h4)
    · exact W.alen hx hbc g2 (hO (fun j => .long (f j))) (hS _) rfl rfl hd (K H locs L h1 h2 h3 h4)
    · exact W.alen hx hbc g2 (hO (fun j => .float (f j))) (hS _) rfl rfl hd (K H locs L h1 h2 h3 h4)
    · exact W.alen hx hbc g2 (hO (fun j => .double (f j))) (hS _) rfl rfl hd (K H locs L h1 h2 h3 h4)
    · exact W.alen hx hbc g2 (hO (fun j => va_rf ((f j).map sg))) (hS _) rfl rfl hd (K H locs L h1 h2 h3 h4)
/-- behind a store into an array -/
theorem aSim_put {H H1 : Heap} {locs : List Loc} {L : Array Slot} {e0 e1 : aE} {t : Nat} (K : aSim p l e R s m args below meth c Q D ka sg A nL al (pc, ls, r, h.set q (true, e1), k)) (h1 : aRel D ka sg A s h H) (h2 : va_S A s.heap H locs) (h3 : aLoc sg L nL ls) (h4 : al = true → ∀ j : Nat, sg (h.length + j) = H.size + j) (hq : h[q]? = some (true, e0)) (hn : aOn D ka sg A s H1 q (true, e1)) (z : H1.size = H.size) (ho : ∀ a : Nat, a ≠ sg q → H1[a]? = H[a]?) (hA : A (sg q)) : W p l e R s m args below meth c H1 (locs ++ [⟨sg q, t⟩]) k.1 k.2 Q (F0 m pc L (r.map (aCv sg))) :=
  K H1 _ L (h1.set hq hA hn ho) (h2.put z ho hA) h3 (fun ha j => by show sg ((h.set q (true, e1)).length + j) = _; rw [List.length_set, z]; exact h4 ha j)
theorem s_iastore (C : aCx p l s m args c D ka sg A nL own cc) {f : Nat → Int32} (hq : h[q]? = some (true, .inl (.int, n, .inl f))) (hi : aIx i n = some j) (hd : decode cc pc = .ok (.iastore, 1)) (K : aSim p l e R s m args below meth c Q D ka sg A nL al (pc + 1, ls, r, h.set q (true, .inl (.int, n, .inl (upd f j x))), k)) : aSim p l e R s m args below meth c Q D ka sg A nL al (pc, ls, .int x :: .int i :: .ref q :: r, h, k) := by
  intro H locs L h1 h2 h3 h4
  have hx := C.1
  have hbc := C.2.1
  have hK := C.2.2.2.2.2.1
  have g := h1.1 q _ hq
  obtain ⟨hin, rfl⟩ := aIx_in hi
  refine W.iast hx hbc g.2 ((hK.1.2.1 .int (by simp)).1 n (fun j => .int (f j))) (fun z => by cases z) (by show ¬ (i < 0 ∨ (arrV _ _ _).slots.size ≤ _); rw [arrV_size]; exact hin) rfl rfl hd fun H1 e z oq => ?_
  refine aSim_put K h1 h2 h3 h4 hq ⟨g.1, ?_⟩ z oq g.1
  rw [e]
  show some ((arrV (ka .int) n (fun j => .int (f j))).setSlot i.toNatClampNeg (.int x)) = some (arrV (ka .int) n (fun j => .int (upd f i.toNatClampNeg x j)))
  rw [arrV_store]
  congr 2
  funext a
  by_cases ha : a = i.toNatClampNeg
  · subst ha
    simp [updV, upd]
  · simp [updV, upd, ha]
theorem s_castore (C : aCx p l s m args c D ka sg A nL own cc) {f : Nat → Int32} (hq : h[q]? = some (true, .inl (.char, n, .inl f))) (hc : (x.toUInt32 % 65536).toInt32 = x) (hi : aIx i n = some j) (hd : decode cc pc = .ok (.castore, 1)) (K : aSim p l e R s m args below meth c Q D ka sg A nL al (pc + 1, ls, r, h.set q (true, .inl (.char, n, .inl (upd f j x))), k)) : aSim p l e R s m args below meth c Q D ka sg A nL al (pc, ls, .int x :: .int i :: .ref q :: r, h, k) := by
  intro H locs L h1 h2 h3 h4
  have hx := C.1
  have hbc := C.2.1
  have hK := C.2.2.2.2.2.1
  have g := h1.1 q _ hq
  obtain ⟨hin, rfl⟩ := aIx_in hi
  refine W.cast hx hbc g.2 ((hK.1.2.1 .char (by simp)).1 n (fun j => .int (f j))) (fun z => by cases z) (by show ¬ (i < 0 ∨ (arrV _ _ _).slots.size ≤ _); rw [arrV_size]; exact hin) rfl rfl hd fun H1 e z oq => ?_
  refine aSim_put K h1 h2 h3 h4 hq ⟨g.1, ?_⟩ z oq g.1
  have hn : narrow .char (.int x) = .int x := by
    have h0 := pk_nc x
    rw [hc] at h0
    exact h0
  rw [e, hn]
  show some ((arrV (ka .char) n (fun j => .int (f j))).setSlot i.toNatClampNeg (.int x)) = some (arrV (ka .char) n (fun j => .int (upd f i.toNatClampNeg x j)))
  rw [arrV_store]
  congr 2
  funext a
  by_cases ha : a = i.toNatClampNeg
  · subst ha
    simp [updV, upd]
  · simp [updV, upd, ha]
theorem s_lastore (C : aCx p l s m args c D ka sg A nL own cc) {f : Nat → Int64} {v : Int64} (hq : h[q]? = some (true, .inl (.long, n, .inr (.inl f)))) (hi : aIx i n = some j) (hd : decode cc pc = .ok (.lastore, 1)) (K : aSim p l e R s m args below meth c Q D ka sg A nL al (pc + 1, ls, r, h.set q (true, .inl (.long, n, .inr (.inl (vp_updL f j v)))), k)) : aSim p l e R s m args below meth c Q D ka sg A nL al (pc, ls, .long v :: .int i :: .ref q :: r, h, k) := by
  intro H locs L h1 h2 h3 h4
  have hx := C.1
  have hbc := C.2.1
  have hK := C.2.2.2.2.2.1
  have g := h1.1 q _ hq
  obtain ⟨hin, rfl⟩ := aIx_in hi
  refine W.last hx hbc g.2 ((hK.1.2.1 .long (by simp)).1 n (fun j => .long (f j))) (fun z => by cases z) (by show ¬ (i < 0 ∨ (arrV _ _ _).slots.size ≤ _); rw [arrV_size]; exact hin) rfl rfl hd fun H1 e z oq => ?_
  refine aSim_put K h1 h2 h3 h4 hq ⟨g.1, ?_⟩ z oq g.1
  rw [e]
  show some ((arrV (ka .long) n (fun j => .long (f j))).setSlot i.toNatClampNeg (.long v)) = some (arrV (ka .long) n (fun j => .long (vp_updL f i.toNatClampNeg v j)))
  rw [arrV_store]
  congr 2
  funext a
  by_cases ha : a = i.toNatClampNeg
  · subst ha
    simp [updV, vp_updL]
  · simp [updV, vp_updL, ha]
theorem s_aastore (C : aCx p l s m args c D ka sg A nL own cc) {f : Nat → Option Nat} {v : Nat} {fs : List Value} (hq : h[q]? = some (true, .inl (.object RX6, n, .inr (.inr (.inr (.inr f)))))) (hv : h[v]? = some (true, .inr (6, fs))) (hi : aIx i n = some j) (hd : decode cc pc = .ok (.aastore, 1)) (K : aSim p l e R s m args below meth c Q D ka sg A nL al (pc + 1, ls, r, h.set q (true, .inl (.object RX6, n, .inr (.inr (.inr (.inr (va_up f j (some v))))))), k)) : aSim p l e R s m args below meth c Q D ka sg A nL al (pc, ls, .ref v :: .int i :: .ref q :: r, h, k) := by
  intro H locs L h1 h2 h3 h4
  have hx := C.1
  have hbc := C.2.1
  have hK := C.2.2.2.2.2.1
  have g := h1.1 q _ hq
  obtain ⟨hin, rfl⟩ := aIx_in hi
  have hlt : i.toNatClampNeg < n := Nat.not_le.mp fun q => hin (Or.inr q)
  have h0 : ¬ i < 0 := fun q => hin (Or.inl q)
  obtain ⟨-, r', hr', cellV, g1, g2, g3, -⟩ := h1.1 v _ hv
  have hcls := (hK.1.1 6 _ hr').2
  have hr6 : r' = (RX6, TX6, 8) := Option.some.inj (hr'.symm.trans rfl)
  subst hr6
  obtain ⟨kA, comp, k1, k2, k3, -⟩ := (hK.1.2.1 (.object RX6) (by simp)).2
  have hcomp : comp = D.1 6 := Option.some.inj (k3.symm.trans hcls.1)
  subst hcomp
  obtain ⟨kC, hkC, -⟩ := hcls.2
  refine W.aast hx hbc g.2 (fun q h => by cases h) (fun h => by cases h) k1 k2 rfl hkC ⟨h0, by show _ < (arrV _ _ _).slots.size; rw [arrV_size]; exact hlt⟩ g1 (fun q h => by rw [g3] at h; cases h) (by rw [g2]; exact hkC) (by rw [g2]; exact va_assign hcls) rfl rfl hd fun H1 e z oq => ?_
  refine aSim_put K h1 h2 h3 h4 hq ⟨g.1, ?_⟩ z oq g.1
  rw [e]
  show some ((arrV (ka (.object RX6)) n (fun j => va_rf ((f j).map sg))).setSlot i.toNatClampNeg (.ref (sg v))) = some (arrV (ka (.object RX6)) n (fun j => va_rf ((va_up f i.toNatClampNeg (some v) j).map sg)))
  rw [arrV_store]
  congr 2
  funext a
  by_cases ha : a = i.toNatClampNeg
  · subst ha
    simp [updV, va_up, va_rf]
  · simp [updV, va_up, ha]
end SNA
