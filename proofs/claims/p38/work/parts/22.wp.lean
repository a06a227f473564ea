/-! WHAT MUST HOLD FOR A RUN TO COME TO AN END: branches, indices and calls as obligations -/
def aVs (z : Option (aS ⊕ aR)) (K : aS ⊕ aR → Prop) : Prop := match z with
  | some z => K z
  | none => False
def aVt (K : aS ⊕ aR → Prop) (o : Int) (ls : List (Option Value)) (st : List Value) (h : aH) (k : aK) : Prop := match decide (0 ≤ o) with
  | true => K (.inl (o.toNat, ls, st, h, k))
  | false => False
def aSw (K : aS ⊕ aR → Prop) (x : Int32) (pc : Nat) (ls : List (Option Value)) (st : List Value) (h : aH) (k : aK) : List Int → Int → Prop
  | [], _ => True
  | o :: os, l => (x.toInt = l → aVt K (pc + o) ls st h k) ∧ aSw K x pc ls st h k os (l + 1)
def aLw (K : aS ⊕ aR → Prop) (x : Int32) (pc : Nat) (ls : List (Option Value)) (st : List Value) (h : aH) (k : aK) : List (Int × Int) → Prop
  | [] => True
  | p :: ps => (x.toInt = p.1 → aVt K (pc + p.2) ls st h k) ∧ aLw K x pc ls st h k ps
def aVc (nt : Bool) (call : aF) (hd : aD) (cd : List aI) (a b : Nat) (pc : Nat) (ls : List (Option Value)) (st : List Value) (h : aH) (k : aK) (K : aS ⊕ aR → Prop) : Prop :=
  match decide (b ≤ st.length) && (decide (aSum (st.drop b) ≤ 8) && ((st.take b).all fun x => x.category == 1)) with
  | true => ∃ r, call a (st.take b).reverse h = some r ∧ aVs (aBack nt hd cd pc ls (st.drop b) k (some r)) K
  | false => False
def aV (call : aF) (cls : Nat → Nat) (hd : aD) (cd : List aI) (rt : Option FieldType) (i : Instr) (a b : Nat) (v : Int32) (pc : Nat) (ls : List (Option Value)) (st : List Value) (h : aH) (k : aK) (K : aS ⊕ aR → Prop) : Prop := match i with
  | .ifCond c _ => match st with
    | .int x :: r => (aCond c x 0 = true → K (.inl (a, ls, r, h, k))) ∧ (aCond c x 0 = false → K (.inl (pc + 3, ls, r, h, k)))
    | _ => False
  | .if_icmp c _ => match st with
    | .int y :: .int x :: r => (aCond c x y = true → K (.inl (a, ls, r, h, k))) ∧ (aCond c x y = false → K (.inl (pc + 3, ls, r, h, k)))
    | _ => False
  | .idiv => match st with
    | .int y :: .int x :: r => ¬ y = 0 ∧ K (.inl (pc + 1, ls, .int (x / y) :: r, h, k))
    | _ => False
  | .irem => match st with
    | .int y :: .int x :: r => ¬ y = 0 ∧ K (.inl (pc + 1, ls, .int (x - x / y * y) :: r, h, k))
    | _ => False
  | .f2d => match st with
    | .float x :: r => FP.f2d x &&& 0x7fffffffffffffff ≤ 0x7ff0000000000000 ∧ K (.inl (pc + 1, ls, .double (FP.f2d x) :: r, h, k))
    | _ => False
  | .fdiv => match st with
    | .float y :: .float x :: r => FP.fdiv x y &&& 0x7fffffff ≤ 0x7f800000 ∧ K (.inl (pc + 1, ls, .float (FP.fdiv x y) :: r, h, k))
    | _ => False
  | .ddiv => match st with
    | .double y :: .double x :: r => FP.ddiv x y &&& 0x7fffffffffffffff ≤ 0x7ff0000000000000 ∧ K (.inl (pc + 1, ls, .double (FP.ddiv x y) :: r, h, k))
    | _ => False
  | .iaload => match st with
    | .int i :: .ref q :: r => match h[q]? with
      | some (_, .inl (.int, n, .inl f)) => ∃ j, aIx i n = some j ∧ K (.inl (pc + 1, ls, .int (f j) :: r, h, k))
      | _ => False
    | _ => False
  | .laload => match st with
    | .int i :: .ref q :: r => match h[q]? with
      | some (_, .inl (.long, n, .inr (.inl f))) => ∃ j, aIx i n = some j ∧ K (.inl (pc + 1, ls, .long (f j) :: r, h, k))
      | _ => False
    | _ => False
  | .lastore => match st with
    | .long x :: .int i :: .ref q :: r => match h[q]? with
      | some (true, .inl (.long, n, .inr (.inl f))) => ∃ j, aIx i n = some j ∧ K (.inl (pc + 1, ls, r, h.set q (true, .inl (.long, n, .inr (.inl (vp_updL f j x)))), k))
      | _ => False
    | _ => False
  | .caload => match st with
    | .int i :: .ref q :: r => match h[q]? with
      | some (_, .inl (.char, n, .inl f)) => ∃ j, aIx i n = some j ∧ K (.inl (pc + 1, ls, .int (f j) :: r, h, k))
      | _ => False
    | _ => False
  | .aaload => match st with
    | .int i :: .ref q :: r => match h[q]? with
      | some (true, .inl (ty, n, .inr (.inr (.inr (.inr f))))) => match ty.isReference && aTk ty with
        | true => ∃ j y, aIx i n = some j ∧ f j = some y ∧ K (.inl (pc + 1, ls, .ref y :: r, h, k))
        | false => False
      | _ => False
    | _ => False
  | .iastore => match st with
    | .int x :: .int i :: .ref q :: r => match h[q]? with
      | some (true, .inl (.int, n, .inl f)) => ∃ j, aIx i n = some j ∧ K (.inl (pc + 1, ls, r, h.set q (true, .inl (.int, n, .inl (upd f j x))), k))
      | _ => False
    | _ => False
  | .castore => match st with
    | .int x :: .int i :: .ref q :: r => match h[q]? with
      | some (true, .inl (.char, n, .inl f)) => (x.toUInt32 % 65536).toInt32 = x ∧ ∃ j, aIx i n = some j ∧ K (.inl (pc + 1, ls, r, h.set q (true, .inl (.char, n, .inl (upd f j x))), k))
      | _ => False
    | _ => False
  | .aastore => match st with
    | .ref y :: .int i :: .ref q :: r => match h[q]? with
      | some (true, .inl (.object nm, n, .inr (.inr (.inr (.inr f))))) => match h[y]? with
        | some (true, .inr (6, _)) => nm = RX6 ∧ ∃ j, aIx i n = some j ∧ K (.inl (pc + 1, ls, r, h.set q (true, .inl (.object RX6, n, .inr (.inr (.inr (.inr (va_up f j (some y))))))), k))
        | _ => False
      | _ => False
    | _ => False
  | .ireturn => match st with
    | [.int x] => match rt with
      | some .int => K (.inr (.inl (some (.int x)), h, k))
      | some ty => aFit ty (.int x) = true ∧ K (.inr (.inl (some (.int x)), h, k))
      | none => False
    | _ => False
  | .tableswitch _ lo hi offs => match st with
    | .int x :: r => match decide (offs.toList.length = (hi - lo + 1).toNat ∧ 0 ≤ hi - lo + 1) with
      | true => (x.toInt < lo ∨ hi < x.toInt → K (.inl (a, ls, r, h, k))) ∧ aSw K x pc ls r h k offs.toList lo
      | false => False
    | _ => False
  | .lookupswitch dflt ps => match st with
    | .int x :: r => ((∀ p ∈ ps.toList, x.toInt ≠ p.1) → aVt K (pc + dflt) ls r h k) ∧ aLw K x pc ls r h k ps.toList
    | _ => False
  | .invokevirtual _ => match decide (500 ≤ a) with
    | true => ∃ z, aText a pc ls st h k = some z ∧ K z
    | false => match aRecv cls a b st h with
      | true => aVc (v == 1) call hd cd a b pc ls st h k K
      | false => False
  | .invokestatic _ => match decide (500 ≤ a) with
    | true => ∃ z, aNat a pc ls st h k = some z ∧ K z
    | false => aVc (v == 1) call hd cd a b pc ls st h k K
  | .invokespecial _ => match decide (a = 600) with
    | true => aVs (aEx call cls hd cd rt false i a b v pc ls st h k) K
    | false => match aRecv cls a b st h with
      | true => aVc (v == 1) call hd cd a b pc ls st h k K
      | false => False
  | _ => aVs (aEx call cls hd cd rt false i a b v pc ls st h k) K
section WPS
variable {call : aF} {cls : Nat → Nat} {hd : aD} {cd : List aI} {rt : Option FieldType} {a b : Nat} {v : Int32} {nt : Bool} {pc : Nat} {ls : List (Option Value)} {st r : List Value} {h : aH} {k : aK} {K : aS ⊕ aR → Prop}
theorem aVs_ok {z : Option (aS ⊕ aR)} (w : aVs z K) : ∃ y, z = some y ∧ K y := by
  cases z with
  | none => cases w
  | some y => exact ⟨y, rfl, w⟩
theorem aVt_ok {o : Int} (w : aVt K o ls st h k) : 0 ≤ o ∧ K (.inl (o.toNat, ls, st, h, k)) := by
  unfold aVt at w
  split at w
  · rename_i g
    exact ⟨of_decide_eq_true g, w⟩
  · cases w
theorem aVc_ok (w : aVc nt call hd cd a b pc ls st h k K) : ∃ y, aCall nt call hd cd a b pc ls st h k = some y ∧ K y := by
  unfold aVc at w
  split at w
  · rename_i g
    rw [Bool.and_eq_true, Bool.and_eq_true] at g
    obtain ⟨r0, e, w⟩ := w
    obtain ⟨y, e1, e2⟩ := aVs_ok w
    refine ⟨y, ?_, e2⟩
    unfold aCall
    rw [if_pos ⟨of_decide_eq_true g.1, of_decide_eq_true g.2.1, g.2.2⟩, e]
    exact e1
  · cases w
theorem aSw_ok {x : Int32} : ∀ (os : List Int) (l : Int), aSw K x pc ls r h k os l → ∀ (j : Nat) (o : Int), os[j]? = some o → x.toInt = l + j → 0 ≤ (pc : Int) + o ∧ K (.inl (((pc : Int) + o).toNat, ls, r, h, k))
  | [], l, w, j, o, h1, h2 => by simp at h1
  | q :: os, l, w, 0, o, h1, h2 => by
    cases h1
    exact aVt_ok (w.1 (by rw [h2]; simp))
  | q :: os, l, w, j + 1, o, h1, h2 => aSw_ok os (l + 1) w.2 j o h1 (by rw [h2]; push_cast; omega)
theorem aLw_ok {x : Int32} : ∀ (ps : List (Int × Int)), aLw K x pc ls r h k ps → ∀ p ∈ ps, x.toInt = p.1 → 0 ≤ (pc : Int) + p.2 ∧ K (.inl (((pc : Int) + p.2).toNat, ls, r, h, k))
  | [], _, p, hp, _ => by cases hp
  | q :: ps, w, p, hp, hx => by
    rcases List.mem_cons.mp hp with rfl | hp
    · exact aVt_ok (w.1 hx)
    · exact aLw_ok ps w.2 p hp hx
theorem aLw_off {x : Int} {dflt : Int} : ∀ (ps : List (Int × Int)), (∃ p ∈ ps, x = p.1 ∧ Op.lookupswitch.offset ps dflt x = p.2) ∨ ((∀ p ∈ ps, x ≠ p.1) ∧ Op.lookupswitch.offset ps dflt x = dflt)
  | [] => Or.inr ⟨fun _ h => (by cases h), rfl⟩
  | (a, o) :: r => by
    rw [Op.lookupswitch.offset_cons]
    by_cases g : a = x
    · rw [if_pos g]
      exact Or.inl ⟨(a, o), List.mem_cons_self, g.symm, rfl⟩
    · rw [if_neg g]
      rcases aLw_off (x := x) (dflt := dflt) r with ⟨p, h1, h2, h3⟩ | ⟨h1, h2⟩
      · exact Or.inl ⟨p, List.mem_cons_of_mem _ h1, h2, h3⟩
      · refine Or.inr ⟨fun p hp => ?_, h2⟩
        rcases List.mem_cons.mp hp with rfl | hp
        · exact fun e => g e.symm
        · exact h1 p hp
theorem aV_ok {i : Instr} (w : aV call cls hd cd rt i a b v pc ls st h k K) : ∃ z, aEx call cls hd cd rt false i a b v pc ls st h k = some z ∧ K z := by
  cases i with
  | ifCond c o =>
    unfold aV at w
    dsimp only at w
    split at w
    · rename_i x r
      by_cases g : aCond c x 0 = true
      · exact ⟨_, by show aGo (if aCond c x 0 = true then a else pc + 3) ls r h k = _; rw [if_pos g]; rfl, w.1 g⟩
      · exact ⟨_, by show aGo (if aCond c x 0 = true then a else pc + 3) ls r h k = _; rw [if_neg g]; rfl, w.2 (by simpa using g)⟩
    · cases w
  | if_icmp c o =>
    unfold aV at w
    dsimp only at w
    split at w
    · rename_i y x r
      by_cases g : aCond c x y = true
      · exact ⟨_, by show aGo (if aCond c x y = true then a else pc + 3) ls r h k = _; rw [if_pos g]; rfl, w.1 g⟩
      · exact ⟨_, by show aGo (if aCond c x y = true then a else pc + 3) ls r h k = _; rw [if_neg g]; rfl, w.2 (by simpa using g)⟩
    · cases w
  | idiv =>
    unfold aV at w
    dsimp only at w
    split at w
    · rename_i y x r
      exact ⟨_, by show (if y = 0 then none else aGo (pc + 1) ls (.int (x / y) :: r) h k) = _; rw [if_neg w.1]; rfl, w.2⟩
    · cases w
  | irem =>
    unfold aV at w
    dsimp only at w
    split at w
    · rename_i y x r
      exact ⟨_, by show (if y = 0 then none else aGo (pc + 1) ls (.int (x - x / y * y) :: r) h k) = _; rw [if_neg w.1]; rfl, w.2⟩
    · cases w
  | f2d =>
    unfold aV at w
    dsimp only at w
    split at w
    · rename_i x r
      exact ⟨_, by show (if _ then aGo (pc + 1) ls (.double (FP.f2d x) :: r) h k else none) = _; rw [if_pos w.1]; rfl, w.2⟩
    · cases w
  | fdiv =>
    unfold aV at w
    dsimp only at w
    split at w
    · rename_i y x r
      exact ⟨_, by show (if _ then aGo (pc + 1) ls (.float (FP.fdiv x y) :: r) h k else none) = _; rw [if_pos w.1]; rfl, w.2⟩
    · cases w
  | ddiv =>
    unfold aV at w
    dsimp only at w
    split at w
    · rename_i y x r
      exact ⟨_, by show (if _ then aGo (pc + 1) ls (.double (FP.ddiv x y) :: r) h k else none) = _; rw [if_pos w.1]; rfl, w.2⟩
    · cases w
  | iaload =>
    unfold aV at w
    dsimp only at w
    split at w
    · rename_i i q r
      split at w
      · rename_i wr n f hq
        obtain ⟨j, hj, w⟩ := w
        exact ⟨_, by show aAr h q _ = _; unfold aAr aAt; rw [hq]; dsimp only; rw [hj]; rfl, w⟩
      · cases w
    · cases w
  | laload =>
    unfold aV at w
    dsimp only at w
    split at w
    · rename_i i q r
      split at w
      · rename_i wr n f hq
        obtain ⟨j, hj, w⟩ := w
        exact ⟨_, by show aAr h q _ = _; unfold aAr aAt; rw [hq]; dsimp only; rw [hj]; rfl, w⟩
      · cases w
    · cases w
  | lastore =>
    unfold aV at w
    dsimp only at w
    split at w
    · rename_i x i q r
      split at w
      · rename_i n f hq
        obtain ⟨j, hj, w⟩ := w
        exact ⟨_, by show aAr h q _ = _; unfold aAr aAt; rw [hq]; dsimp only; rw [if_pos rfl, hj]; rfl, w⟩
      · cases w
    · cases w
  | caload =>
    unfold aV at w
    dsimp only at w
    split at w
    · rename_i i q r
      split at w
      · rename_i wr n f hq
        obtain ⟨j, hj, w⟩ := w
        exact ⟨_, by show aAr h q _ = _; unfold aAr aAt; rw [hq]; dsimp only; rw [hj]; rfl, w⟩
      · cases w
    · cases w
  | aaload =>
    unfold aV at w
    dsimp only at w
    split at w
    · rename_i i q r
      split at w
      · rename_i ty n f hq
        split at w
        · rename_i g
          rw [Bool.and_eq_true] at g
          obtain ⟨j, y, hj, hy, w⟩ := w
          exact ⟨_, by show aAr h q _ = _; unfold aAr aAt; rw [hq]; dsimp only; rw [if_pos ⟨rfl, g.1, g.2⟩, hj]; dsimp only; rw [hy]; rfl, w⟩
        · cases w
      · cases w
    · cases w
  | iastore =>
    unfold aV at w
    dsimp only at w
    split at w
    · rename_i x i q r
      split at w
      · rename_i n f hq
        obtain ⟨j, hj, w⟩ := w
        exact ⟨_, by show aAr h q _ = _; unfold aAr aAt; rw [hq]; dsimp only; rw [if_pos rfl, hj]; rfl, w⟩
      · cases w
    · cases w
  | castore =>
    unfold aV at w
    dsimp only at w
    split at w
    · rename_i x i q r
      split at w
      · rename_i n f hq
        obtain ⟨hx, j, hj, w⟩ := w
        exact ⟨_, by show aAr h q _ = _; unfold aAr aAt; rw [hq]; dsimp only; rw [if_pos ⟨rfl, hx⟩, hj]; rfl, w⟩
      · cases w
    · cases w
  | aastore =>
    unfold aV at w
    dsimp only at w
    split at w
    · rename_i y i q r
      split at w
      · rename_i nm n f hq
        split at w
        · rename_i fs hy
          obtain ⟨rfl, j, hj, w⟩ := w
          exact ⟨_, by show aAr h q _ = _; unfold aAr aOb aAt; rw [hq]; dsimp only; rw [hy]; dsimp only; rw [if_pos ⟨rfl, rfl, rfl, rfl⟩, hj]; rfl, w⟩
        · cases w
      · cases w
    · cases w
  | ireturn =>
    unfold aV at w
    dsimp only at w
    split at w
    · rename_i x
      split at w
      · exact ⟨_, rfl, w⟩
      · rename_i ty hty
        exact ⟨_, by show (if aFit ty (.int x) = true then some _ else none) = _; rw [if_pos w.1], w.2⟩
      · cases w
    · cases w
  | tableswitch dflt lo hi offs =>
    unfold aV at w
    dsimp only at w
    split at w
    · rename_i x r
      split at w
      · rename_i g
        obtain ⟨g1, g2⟩ := of_decide_eq_true g
        by_cases c : x.toInt < lo ∨ hi < x.toInt
        · exact ⟨_, by show (if x.toInt < lo ∨ hi < x.toInt then aGo a ls r h k else _) = _; rw [if_pos c]; rfl, w.1 c⟩
        · have hj : (x.toInt - lo).toNat < offs.toList.length := by omega
          have ho : offs[(x.toInt - lo).toNat]? = some (offs.toList[(x.toInt - lo).toNat]) := by
            rw [← Array.getElem?_toList]
            exact List.getElem?_eq_getElem hj
          obtain ⟨q1, q2⟩ := aSw_ok _ _ w.2 (x.toInt - lo).toNat _ (List.getElem?_eq_getElem hj) (by omega)
          refine ⟨_, ?_, q2⟩
          show (if x.toInt < lo ∨ hi < x.toInt then aGo a ls r h k else match offs[(x.toInt - lo).toNat]? with
            | some o => if 0 ≤ (pc : Int) + o then aGo ((pc : Int) + o).toNat ls r h k else none
            | none => none) = _
          rw [if_neg c, ho]
          dsimp only
          rw [if_pos q1]
          rfl
      · cases w
    · cases w
  | lookupswitch dflt ps =>
    unfold aV at w
    dsimp only at w
    split at w
    · rename_i x r
      rcases aLw_off (x := x.toInt) (dflt := dflt) ps.toList with ⟨p, hp, h1, h2⟩ | ⟨h1, h2⟩
      · obtain ⟨q1, q2⟩ := aLw_ok _ w.2 p hp h1
        refine ⟨_, ?_, q2⟩
        show (if 0 ≤ (pc : Int) + Op.lookupswitch.offset ps.toList dflt x.toInt then aGo ((pc : Int) + Op.lookupswitch.offset ps.toList dflt x.toInt).toNat ls r h k else none) = _
        rw [h2, if_pos q1]
        rfl
      · obtain ⟨q1, q2⟩ := aVt_ok (w.1 h1)
        refine ⟨_, ?_, q2⟩
        show (if 0 ≤ (pc : Int) + Op.lookupswitch.offset ps.toList dflt x.toInt then aGo ((pc : Int) + Op.lookupswitch.offset ps.toList dflt x.toInt).toNat ls r h k else none) = _
        rw [h2, if_pos q1]
        rfl
    · cases w
  | invokevirtual n =>
    unfold aV at w
    dsimp only at w
    split at w
    · rename_i g
      obtain ⟨z, e, w⟩ := w
      exact ⟨z, by show (if 500 ≤ a then _ else _) = _; rw [if_pos (of_decide_eq_true g)]; exact e, w⟩
    · rename_i g
      split at w
      · rename_i g2
        obtain ⟨z, e, w⟩ := aVc_ok w
        exact ⟨z, by show (if 500 ≤ a then _ else (if _ then _ else _)) = _; rw [if_neg (of_decide_eq_false g), if_pos g2]; exact e, w⟩
      · cases w
  | invokestatic n =>
    unfold aV at w
    dsimp only at w
    split at w
    · rename_i g
      obtain ⟨z, e, w⟩ := w
      exact ⟨z, by show (if 500 ≤ a then _ else _) = _; rw [if_pos (of_decide_eq_true g)]; exact e, w⟩
    · rename_i g
      obtain ⟨z, e, w⟩ := aVc_ok w
      exact ⟨z, by show (if 500 ≤ a then _ else _) = _; rw [if_neg (of_decide_eq_false g)]; exact e, w⟩
  | invokespecial n =>
    unfold aV at w
    dsimp only at w
    split at w
    · exact aVs_ok w
    · rename_i g
      split at w
      · rename_i g2
        obtain ⟨z, e, w⟩ := aVc_ok w
        exact ⟨z, by show (if a = 600 then _ else (if _ then _ else _)) = _; rw [if_neg (of_decide_eq_false g), if_pos g2]; exact e, w⟩
      · cases w
  | _ => exact aVs_ok w
/-- n steps at most, and no further than to the places where stop holds -/
def aVn (call : aF) (hd : aD) (cd : List aI) (rt : Option FieldType) (stop : Nat → Bool) : Nat → aS → (aS ⊕ aR → Prop) → Prop
  | 0, s, K => K (.inl s)
  | n + 1, s, K => match cd[s.1]? with
    | none => False
    | some (i, a, b, v) => aV call aCls hd cd rt i a b v s.1 s.2.1 s.2.2.1 s.2.2.2.1 s.2.2.2.2 (fun z => match z with
      | .inl t => match stop t.1 with
        | true => K (.inl t)
        | false => aVn call hd cd rt stop n t K
      | .inr r => K (.inr r))
theorem aVn_ok {stop : Nat → Bool} : ∀ (n : Nat) (s : aS), aVn call hd cd rt stop n s K → ∃ z, (match z with | .inl t => aTo (aStep call aCls hd cd rt false) s t | .inr r => aEnd (aStep call aCls hd cd rt false) s r) ∧ K z
  | 0, s, w => ⟨.inl s, aTo.rf, w⟩
  | n + 1, s, w => by
    unfold aVn at w
    split at w
    · cases w
    · rename_i i a b v hc
      obtain ⟨z, e, w⟩ := aV_ok w
      have e1 : aStep call aCls hd cd rt false s = some z := by
        unfold aStep
        rw [hc]
        exact e
      cases z with
      | inl t =>
        dsimp only at w
        split at w
        · exact ⟨.inl t, aTo.one e1, w⟩
        · obtain ⟨z2, q1, q2⟩ := aVn_ok n t w
          refine ⟨z2, ?_, q2⟩
          cases z2 with
          | inl t2 => exact (aTo.one e1).trans q1
          | inr r2 => exact (aTo.one e1).fin q1
      | inr r => exact ⟨.inr r, aEnd.one e1, w⟩
/-- the end that is wanted -/
def aKe (F : aS → Option (aS ⊕ aR)) (r : aR) : aS ⊕ aR → Prop := fun z => match z with
  | .inl t => aEnd F t r
  | .inr q => q = r
theorem aVn_end {stop : Nat → Bool} {s : aS} {r : aR} (n : Nat) (w : aVn call hd cd rt stop n s (aKe (aStep call aCls hd cd rt false) r)) : aEnd (aStep call aCls hd cd rt false) s r := by
  obtain ⟨z, h1, h2⟩ := aVn_ok n s w
  cases z with
  | inl t => exact aTo.fin h1 h2
  | inr q =>
    have h3 : q = r := h2
    subst h3
    exact h1
end WPS
