/-! THE LAW'S MACHINE: it makes things after throws, and calls the law's own methods -/
def mV1 (n : Nat) : Value → Bool
  | .ref q => decide (q < n)
  | _ => true
def mLo (n : Nat) : Option Value → Bool
  | some v => mV1 n v
  | none => true
/-- all that locals and stack refer to lies below n -/
def mLs (n : Nat) (ls : List (Option Value)) (st : List Value) : Bool := ls.all (mLo n) && st.all (mV1 n)
def mCell (n : Nat) (e : aE) : Prop := match e with
  | .inr (_, fs) => ∀ v, v ∈ fs → mV1 n v = true
  | .inl (_, m, x) => match x with
    | .inr (.inr (.inr (.inr f))) => ∀ j p : Nat, j < m → f j = some p → p < n
    | _ => True
/-- all that the heap's own cells refer to lies in it -/
def mCl (h : aH) : Prop := ∀ (q : Nat) (e : aE), h[q]? = some (true, e) → mCell h.length e
def mKind (i : Instr) (a : Nat) : Nat := match i with
  | .newarray _ => 1
  | .new _ => if a = 999 then 3 else 1
  | .invokespecial _ => 1
  | .invokestatic _ => if a < 133 ∨ 500 ≤ a then 0 else 2
  | _ => 0
/-- the number of a text -/
def mTx (c : Int32) : Nat := 100 + ((c.toNatClampNeg / 16 % 4) * 5 + c.toNatClampNeg / 64 % 5) * 11 + (if c.toNatClampNeg % 3 = 0 then 1 + c.toNatClampNeg / 512 % 10 else 0)
/-- a text is made and read, from place 375 to 466 -/
noncomputable def mMac (mr : aF) (n0 : Nat) (ls : List (Option Value)) (st : List Value) (h : aH) (k : aK) : Option (aS ⊕ aR) := match (ls[5]? : Option (Option Value)), st with
  | some (some (.int c)), [.ref o] => @ite _ (mCl h ∧ 0 ≤ c ∧ 8 ≤ h.length ∧ n0 ≤ h.length ∧ mLs h.length ls st = true) (Classical.propDecidable _) (match mr 153 [.ref o, .ref h.length] (h ++ [(false, .inr (mTx c, []))]) with
    | some (.inl (some (.int x)), h1, kk) => if h1.length = h.length + 1 then aGo 466 ls [.int x] (h1.take h.length) (k.1 + (8 + kk.1), k.2 + (100 + kk.2)) else none
    | _ => none) none
  | _, _ => none
def mCall (mr : aF) (a b : Nat) (pc : Nat) (ls : List (Option Value)) (st : List Value) (h : aH) (k : aK) : Option (aS ⊕ aR) :=
  if b ≤ st.length ∧ aSum (st.drop b) ≤ 8 ∧ ((st.take b).all fun x => x.category == 1) = true then match mr a (st.take b).reverse h with
    | some (.inl w, h1, kd) => aGo (pc + 3) ls (w.toList ++ st.drop b) h1 (k.1 + kd.1, k.2 + kd.2)
    | _ => none
  else none
noncomputable def mStep (n0 d : Nat) (mr : aF) (hd : aD) (cd : List aI) (rt : Option FieldType) (t : aS) : Option (aS ⊕ aR) := match cd[t.1]? with
  | none => none
  | some (i, a, b, v) => match mKind i a with
    | 0 => aEx (aRun false d) aCls hd cd rt false i a b v t.1 t.2.1 t.2.2.1 t.2.2.2.1 t.2.2.2.2
    | 1 => @ite _ (mCl t.2.2.2.1 ∧ 8 ≤ t.2.2.2.1.length ∧ n0 ≤ t.2.2.2.1.length ∧ mLs t.2.2.2.1.length t.2.1 t.2.2.1 = true) (Classical.propDecidable _) (aEx (aRun true d) aCls hd cd rt true i a b v t.1 t.2.1 t.2.2.1 t.2.2.2.1 t.2.2.2.2) none
    | 2 => if 8 ≤ t.2.2.2.1.length ∧ n0 ≤ t.2.2.2.1.length ∧ mLs t.2.2.2.1.length t.2.1 t.2.2.1 = true then mCall mr a b t.1 t.2.1 t.2.2.1 t.2.2.2.1 t.2.2.2.2 else none
    | _ => mMac mr n0 t.2.1 t.2.2.1 t.2.2.2.1 t.2.2.2.2
/-- what a method of the law answers, with calls at most d deep -/
noncomputable def mRun : Nat → aF
  | 0 => fun _ _ _ => none
  | d + 1 => fun m args h => match aProg[m]? with
    | none => none
    | some (_, cd, hd, rt, n) => aFin (mStep h.length d (mRun d) hd cd rt) (0, aIn n args, [], h, (0, 0))
theorem mRun_of {d m : Nat} {args : List Value} {h : aH} {r : aR} {o n : Nat} {cd : List aI} {hd : aD} {rt : Option FieldType} (hm : aProg[m]? = some (o, cd, hd, rt, n)) (he : aEnd (mStep h.length d (mRun d) hd cd rt) (0, aIn n args, [], h, (0, 0)) r) : mRun (d + 1) m args h = some r := by
  obtain ⟨k, he⟩ := he
  show (match aProg[m]? with | none => none | some (_, cd, hd, rt, n) => aFin (mStep h.length d (mRun d) hd cd rt) (0, aIn n args, [], h, (0, 0))) = some r
  rw [hm]
  exact aFin_of he
theorem mRun_ex {d m : Nat} {args : List Value} {h : aH} {r : aR} (hr : mRun (d + 1) m args h = some r) : ∃ o cd hd rt n, aProg[m]? = some (o, cd, hd, rt, n) ∧ aEnd (mStep h.length d (mRun d) hd cd rt) (0, aIn n args, [], h, (0, 0)) r := by
  have h1 : (match aProg[m]? with | none => none | some (_, cd, hd, rt, n) => aFin (mStep h.length d (mRun d) hd cd rt) (0, aIn n args, [], h, (0, 0))) = some r := hr
  cases hm : aProg[m]? with
  | none => rw [hm] at h1; cases h1
  | some x =>
    obtain ⟨o, cd, hd, rt, n⟩ := x
    rw [hm] at h1
    exact ⟨o, cd, hd, rt, n, rfl, aFin_ex h1⟩
/-- another placing that places the first n alike -/
def mAg (n : Nat) (s s2 : Nat → Nat) : Prop := ∀ q : Nat, q < n ∨ q < 8 → s2 q = s q
theorem mAg.rf {n : Nat} {s : Nat → Nat} : mAg n s s := fun _ _ => rfl
theorem mAg.trans {n m : Nat} {s s2 s3 : Nat → Nat} (h1 : mAg n s s2) (h2 : mAg m s2 s3) (hnm : n ≤ m) : mAg n s s3 := fun q hq => (h2 q (by omega)).trans (h1 q hq)
section MAG
variable {D : va_G} {ka : FieldType → ClassId} {sg s2 : Nat → Nat} {A : Nat → Prop} {U : State} {h : aH} {H : Heap} {n : Nat}
theorem mAg.v1 (g : mAg n sg s2) {x : Value} (hx : mV1 n x = true) : aCv s2 x = aCv sg x := by
  cases x with
  | ref q => exact congrArg Value.ref (g q (Or.inl (of_decide_eq_true hx)))
  | _ => rfl
theorem mAg.map (g : mAg n sg s2) {st : List Value} (hs : st.all (mV1 n) = true) : st.map (aCv s2) = st.map (aCv sg) :=
  List.map_congr_left fun v hv => g.v1 (List.all_eq_true.mp hs v hv)
theorem mAg.loc (g : mAg n sg s2) {L : Array Slot} {nL : Nat} {ls : List (Option Value)} (hl : ls.all (mLo n) = true) (h : aLoc sg L nL ls) : aLoc s2 L nL ls := by
  refine ⟨h.1, h.2.1, h.2.2.1, fun i v hi => ?_⟩
  rw [g.v1 (show mV1 n v = true from List.all_eq_true.mp hl _ (List.mem_of_getElem? hi))]
  exact h.2.2.2 i v hi
theorem mAg.kn (g : mAg n sg s2) (h : aKn D ka sg A U) : aKn D ka s2 A U := by
  obtain ⟨⟨h1, h2, h3, h4, h5, h6, h7⟩, h8, h9⟩ := h
  refine ⟨⟨h1, h2, h3, h4, h5, ?_, h7⟩, fun i hi => ?_, h9⟩
  · rw [g 6 (Or.inr (by omega))]
    exact h6
  · rw [g i (Or.inr (by omega))]
    exact h8 i hi
theorem mAg.rel (g : mAg h.length sg s2) (hc : mCl h) (hr : aRel D ka sg A U h H) : aRel D ka s2 A U h H := by
  have hlt : ∀ (q : Nat) (c : aC), h[q]? = some c → s2 q = sg q := fun q c hq => g q (Or.inl (List.getElem?_eq_some_iff.mp hq).1)
  refine ⟨fun q c hq => ?_, fun q q1 c c1 hq hq1 hs => ?_⟩
  · have h1 := hr.1 q c hq
    have e := hlt q c hq
    obtain ⟨w, x⟩ := c
    cases w <;> cases x
    · unfold aOn at h1 ⊢
      rw [e]
      exact h1
    · unfold aOn at h1 ⊢
      rw [e]
      exact h1
    · rename_i x
      obtain ⟨ty, m, x⟩ := x
      have hcl := hc q _ hq
      have key : vp_cell (ka ty) (aCa s2 (m, x)) = vp_cell (ka ty) (aCa sg (m, x)) := by
        rcases x with f | f | f | f | f
        · rfl
        · rfl
        · rfl
        · rfl
        · have hcl : ∀ j p : Nat, j < m → f j = some p → p < h.length := hcl
          show arrV (ka ty) m (fun j => va_rf ((f j).map s2)) = arrV (ka ty) m (fun j => va_rf ((f j).map sg))
          unfold arrV
          congr 1
          apply Array.ext
          · simp
          · intro j hj hj2
            have hjm : j < m := by simpa using hj
            simp only [Array.getElem_ofFn]
            cases hf : f j with
            | none => rfl
            | some p => exact congrArg (fun z => va_rf (some z)) (g p (Or.inl (hcl j p hjm hf)))
      unfold aOn at h1 ⊢
      dsimp only at h1 ⊢
      rw [e, key]
      exact h1
    · rename_i x
      obtain ⟨ci, fs⟩ := x
      have hcl : ∀ v, v ∈ fs → mV1 h.length v = true := hc q _ hq
      unfold aOn at h1 ⊢
      dsimp only at h1 ⊢
      rw [e, List.map_congr_left fun v hv => g.v1 (hcl v hv)]
      exact h1
  · rw [hlt q _ hq, hlt q1 _ hq1] at hs
    exact hr.2 q q1 c c1 hq hq1 hs
/-- a placing by which the next thing made is the next cell -/
def mNx (sg : Nat → Nat) (n N : Nat) : Nat → Nat := fun q => if q < n ∨ q < 8 then sg q else N + (q - n)
theorem mNx_ag {N : Nat} : mAg n sg (mNx sg n N) := fun q hq => if_pos hq
theorem mNx_al {N : Nat} (h8 : 8 ≤ n) (j : Nat) : mNx sg n N (n + j) = N + j := by
  unfold mNx
  rw [if_neg (by omega)]
  omega
end MAG
