/-! THE LAW'S MACHINE: WHAT MUST HOLD FOR A RUN TO COME TO AN END -/
noncomputable def mEx (n0 d : Nat) (mr : aF) (hd : aD) (cd : List aI) (rt : Option FieldType) (i : Instr) (a b : Nat) (v : Int32) (pc : Nat) (ls : List (Option Value)) (st : List Value) (h : aH) (k : aK) : Option (aS ⊕ aR) := match mKind i a with
  | 0 => aEx (aRun false d) aCls hd cd rt false i a b v pc ls st h k
  | 1 => @ite _ (mCl h ∧ 8 ≤ h.length ∧ n0 ≤ h.length ∧ mLs h.length ls st = true) (Classical.propDecidable _) (aEx (aRun true d) aCls hd cd rt true i a b v pc ls st h k) none
  | 2 => if 8 ≤ h.length ∧ n0 ≤ h.length ∧ mLs h.length ls st = true then mCall mr a b pc ls st h k else none
  | _ => mMac mr n0 ls st h k
def mVc (mr : aF) (a b : Nat) (pc : Nat) (ls : List (Option Value)) (st : List Value) (h : aH) (k : aK) (K : aS ⊕ aR → Prop) : Prop :=
  match decide (b ≤ st.length) && (decide (aSum (st.drop b) ≤ 8) && ((st.take b).all fun x => x.category == 1)) with
  | true => ∃ w h1 kd, mr a (st.take b).reverse h = some (.inl w, h1, kd) ∧ K (.inl (pc + 3, ls, w.toList ++ st.drop b, h1, (k.1 + kd.1, k.2 + kd.2)))
  | false => False
def mG (n0 : Nat) (ls : List (Option Value)) (st : List Value) (h : aH) : Prop := 8 ≤ h.length ∧ n0 ≤ h.length ∧ mLs h.length ls st = true
def mV (n0 d : Nat) (mr : aF) (hd : aD) (cd : List aI) (rt : Option FieldType) (i : Instr) (a b : Nat) (v : Int32) (pc : Nat) (ls : List (Option Value)) (st : List Value) (h : aH) (k : aK) (K : aS ⊕ aR → Prop) : Prop := match i with
  | .iaload => match st with
    | .int i :: .ref q :: r => ∃ w n f j, h[q]? = some (w, .inl (.int, n, .inl f)) ∧ aIx i n = some j ∧ K (.inl (pc + 1, ls, .int (f j) :: r, h, k))
    | _ => False
  | .laload => match st with
    | .int i :: .ref q :: r => ∃ w n f j, h[q]? = some (w, .inl (.long, n, .inr (.inl f))) ∧ aIx i n = some j ∧ K (.inl (pc + 1, ls, .long (f j) :: r, h, k))
    | _ => False
  | .iastore => match st with
    | .int x :: .int i :: .ref q :: r => ∃ n f j h1, h[q]? = some (true, .inl (.int, n, .inl f)) ∧ aIx i n = some j ∧ h.set q (true, .inl (.int, n, .inl (upd f j x))) = h1 ∧ K (.inl (pc + 1, ls, r, h1, k))
    | _ => False
  | .lastore => match st with
    | .long x :: .int i :: .ref q :: r => ∃ n f j h1, h[q]? = some (true, .inl (.long, n, .inr (.inl f))) ∧ aIx i n = some j ∧ h.set q (true, .inl (.long, n, .inr (.inl (vp_updL f j x)))) = h1 ∧ K (.inl (pc + 1, ls, r, h1, k))
    | _ => False
  | .arraylength => match st with
    | .ref q :: r => ∃ w n f, h[q]? = some (w, .inl (.int, n, f)) ∧ K (.inl (pc + 1, ls, .int (Int32.ofNat n) :: r, h, k))
    | _ => False
  | .ldc _ => match decide (b = 1) with
    | true => K (.inl (pc + 2, ls, .int v :: st, h, k))
    | false => ∃ w fs, h[a]? = some (w, .inr (b, fs)) ∧ K (.inl (pc + 2, ls, .ref a :: st, h, k))
  | .newarray t => (mCl h ∧ mG n0 ls st h) ∧ match t with
    | .int => match st with
      | .int n :: r => (0 ≤ n ∧ n.toNatClampNeg ≤ 100000) ∧ K (.inl (pc + 2, ls, .ref h.length :: r, h ++ [(true, .inl (.int, n.toNatClampNeg, .inl fun _ => 0))], (k.1 + 1, k.2 + n.toNatClampNeg)))
      | _ => False
    | .long => match st with
      | .int n :: r => (0 ≤ n ∧ n.toNatClampNeg ≤ 100000) ∧ K (.inl (pc + 2, ls, .ref h.length :: r, h ++ [(true, .inl (.long, n.toNatClampNeg, .inr (.inl fun _ => 0)))], (k.1 + 1, k.2 + n.toNatClampNeg)))
      | _ => False
    | _ => False
  | .new _ => match decide (a = 999) with
    | true => ∃ z, mMac mr n0 ls st h k = some z ∧ K z
    | false => (mCl h ∧ mG n0 ls st h) ∧ aVs (aEx (aRun true d) aCls hd cd rt true i a b v pc ls st h k) K
  | .invokespecial _ => (mCl h ∧ mG n0 ls st h) ∧ match decide (a = 600) with
    | true => False
    | false => (aRecv aCls a b st h = true) ∧ aVc (v == 1) (aRun true d) hd cd a b pc ls st h k K
  | .invokevirtual _ => match decide (a = 503) with
    | true => match st with
      | .int i :: .ref q :: r => aSum r ≤ 8 ∧ ∃ w ci fs j, h[q]? = some (w, .inr (ci, fs)) ∧ (90 ≤ ci ∧ ci < 400) ∧ aIx i (aStr ci).length = some j ∧ K (.inl (pc + 3, ls, .int ((aStr ci).getD j 0) :: r, h, k))
      | _ => False
    | false => match decide (a = 505) with
      | true => match st with
        | .ref q :: r => aSum r ≤ 8 ∧ ∃ w ci fs, h[q]? = some (w, .inr (ci, fs)) ∧ (90 ≤ ci ∧ ci < 400) ∧ K (.inl (pc + 3, ls, .int (Int32.ofNat (aStr ci).length) :: r, h, k))
        | _ => False
      | false => match decide (500 ≤ a) with
        | true => False
        | false => match st[b - 1]? with
          | some (.ref q) => (1 ≤ b ∧ ∃ fs, h[q]? = some (true, .inr (aCls a, fs))) ∧ aVc (v == 1) (aRun false d) hd cd a b pc ls st h k K
          | _ => False
  | .invokestatic _ => match decide (a < 133 ∨ 500 ≤ a) with
    | true => aV (aRun false d) aCls hd cd rt i a b v pc ls st h k K
    | false => mG n0 ls st h ∧ mVc mr a b pc ls st h k K
  | _ => aV (aRun false d) aCls hd cd rt i a b v pc ls st h k K
section MWP
variable {n0 d : Nat} {mr : aF} {hd : aD} {cd : List aI} {rt : Option FieldType} {a b : Nat} {v : Int32} {pc : Nat} {ls : List (Option Value)} {st r : List Value} {h : aH} {k : aK} {K : aS ⊕ aR → Prop}
theorem aRecv_of {q : Nat} {fs : List Value} {cls : Nat → Nat} (h1 : st[b - 1]? = some (.ref q)) (h2 : h[q]? = some (true, .inr (cls a, fs))) (h3 : 1 ≤ b) : aRecv cls a b st h = true := by
  unfold aRecv
  rw [h1]
  dsimp only
  rw [h2]
  dsimp only
  rw [beq_self_eq_true, decide_eq_true h3]
  rfl
theorem mV_ok {i : Instr} (w : mV n0 d mr hd cd rt i a b v pc ls st h k K) : ∃ z, mEx n0 d mr hd cd rt i a b v pc ls st h k = some z ∧ K z := by
  cases i with
  | iaload =>
    unfold mV at w
    dsimp only at w
    split at w
    · obtain ⟨w0, n, f, j, hq, hj, w⟩ := w
      exact ⟨_, by show aAr h _ _ = _; unfold aAr aAt; rw [hq]; dsimp only; rw [hj]; rfl, w⟩
    · cases w
  | laload =>
    unfold mV at w
    dsimp only at w
    split at w
    · obtain ⟨w0, n, f, j, hq, hj, w⟩ := w
      exact ⟨_, by show aAr h _ _ = _; unfold aAr aAt; rw [hq]; dsimp only; rw [hj]; rfl, w⟩
    · cases w
  | iastore =>
    unfold mV at w
    dsimp only at w
    split at w
    · obtain ⟨n, f, j, h1, hq, hj, rfl, w⟩ := w
      exact ⟨_, by show aAr h _ _ = _; unfold aAr aAt; rw [hq]; dsimp only; rw [if_pos rfl, hj]; rfl, w⟩
    · cases w
  | lastore =>
    unfold mV at w
    dsimp only at w
    split at w
    · obtain ⟨n, f, j, h1, hq, hj, rfl, w⟩ := w
      exact ⟨_, by show aAr h _ _ = _; unfold aAr aAt; rw [hq]; dsimp only; rw [if_pos rfl, hj]; rfl, w⟩
    · cases w
  | arraylength =>
    unfold mV at w
    dsimp only at w
    split at w
    · obtain ⟨w0, n, f, hq, w⟩ := w
      exact ⟨_, by show aAr h _ _ = _; unfold aAr; rw [hq]; dsimp only; rw [if_pos (show aTk .int = true from rfl)]; rfl, w⟩
    · cases w
  | ldc n =>
    unfold mV at w
    dsimp only at w
    split at w
    · rename_i g
      exact ⟨_, by show (if b = 1 then _ else _) = _; rw [if_pos (of_decide_eq_true g)]; rfl, w⟩
    · rename_i g
      obtain ⟨w0, fs, hq, w⟩ := w
      exact ⟨_, by show (if b = 1 then _ else match h[a]? with | some (_, .inr (ci, _)) => if ci = b then aGo (pc + 2) ls (.ref a :: st) h k else none | _ => none) = _; rw [if_neg (of_decide_eq_false g), hq]; dsimp only; rw [if_pos rfl]; rfl, w⟩
  | newarray t =>
    unfold mV at w
    dsimp only at w
    obtain ⟨⟨g1, g2, g3, g4⟩, w⟩ := w
    split at w
    · split at w
      · obtain ⟨g, w⟩ := w
        refine ⟨_, ?_, w⟩
        unfold mEx
        show @ite _ _ (Classical.propDecidable _) _ _ = _
        rw [if_pos ⟨g1, g2, g3, g4⟩]
        show (if true = true ∧ _ ∧ _ then _ else _) = _
        rw [if_pos ⟨rfl, g⟩]
        rfl
      · cases w
    · split at w
      · obtain ⟨g, w⟩ := w
        refine ⟨_, ?_, w⟩
        unfold mEx
        show @ite _ _ (Classical.propDecidable _) _ _ = _
        rw [if_pos ⟨g1, g2, g3, g4⟩]
        show (if true = true ∧ _ ∧ _ then _ else _) = _
        rw [if_pos ⟨rfl, g⟩]
        rfl
      · cases w
    · cases w
  | new n =>
    unfold mV at w
    dsimp only at w
    split at w
    · rename_i g
      obtain ⟨z, e, w⟩ := w
      have g := of_decide_eq_true g
      subst g
      exact ⟨z, e, w⟩
    · rename_i g
      obtain ⟨⟨g1, g2, g3, g4⟩, w⟩ := w
      obtain ⟨z, e, w⟩ := aVs_ok w
      refine ⟨z, ?_, w⟩
      unfold mEx mKind
      dsimp only
      rw [if_neg (of_decide_eq_false g)]
      show @ite _ _ (Classical.propDecidable _) _ _ = _
      rw [if_pos ⟨g1, g2, g3, g4⟩]
      exact e
  | invokespecial n =>
    unfold mV at w
    dsimp only at w
    obtain ⟨⟨g1, g2, g3, g4⟩, w⟩ := w
    split at w
    · cases w
    · rename_i g
      obtain ⟨w1, w⟩ := w
      obtain ⟨z, e, w⟩ := aVc_ok w
      refine ⟨z, ?_, w⟩
      unfold mEx
      show @ite _ _ (Classical.propDecidable _) _ _ = _
      rw [if_pos ⟨g1, g2, g3, g4⟩]
      show (if a = 600 then _ else (if _ then _ else _)) = _
      rw [if_neg (of_decide_eq_false g), if_pos w1]
      exact e
  | invokevirtual n =>
    unfold mV at w
    dsimp only at w
    split at w
    · rename_i g
      have g := of_decide_eq_true g
      subst g
      split at w
      · obtain ⟨w0, w1, ci, fs, j, hq, hc, hj, w⟩ := w
        exact ⟨_, by show (if aSum _ ≤ 8 then aOb h _ _ else none) = _; rw [if_pos w0]; unfold aOb aAt; rw [hq]; dsimp only; rw [if_pos hc, hj]; rfl, w⟩
      · cases w
    · split at w
      · rename_i g9 g
        have g := of_decide_eq_true g
        subst g
        split at w
        · obtain ⟨w0, w1, ci, fs, hq, hc, w⟩ := w
          exact ⟨_, by show (if aSum _ ≤ 8 then aOb h _ _ else none) = _; rw [if_pos w0]; unfold aOb; rw [hq]; dsimp only; rw [if_pos hc]; rfl, w⟩
        · cases w
      · split at w
        · cases w
        · rename_i g
          split at w
          · rename_i q hq
            obtain ⟨⟨h1, fs, hf⟩, w⟩ := w
            obtain ⟨z, e, w⟩ := aVc_ok w
            exact ⟨z, by show (if 500 ≤ a then _ else (if _ then _ else _)) = _; rw [if_neg (of_decide_eq_false g), if_pos (aRecv_of hq hf h1)]; exact e, w⟩
          · cases w
  | invokestatic n =>
    unfold mV at w
    dsimp only at w
    split at w
    · rename_i g
      obtain ⟨z, e, w⟩ := aV_ok w
      refine ⟨z, ?_, w⟩
      unfold mEx mKind
      dsimp only
      rw [if_pos (of_decide_eq_true g)]
      exact e
    · rename_i g
      obtain ⟨g9, w⟩ := w
      unfold mVc at w
      split at w
      · rename_i gg
        rw [Bool.and_eq_true, Bool.and_eq_true] at gg
        obtain ⟨w0, h1, kd, e, w⟩ := w
        refine ⟨_, ?_, w⟩
        unfold mEx mKind
        dsimp only
        rw [if_neg (of_decide_eq_false g)]
        show (if _ then mCall mr a b pc ls st h k else none) = _
        rw [if_pos (show 8 ≤ h.length ∧ n0 ≤ h.length ∧ mLs h.length ls st = true from g9)]
        unfold mCall
        rw [if_pos ⟨of_decide_eq_true gg.1, of_decide_eq_true gg.2.1, gg.2.2⟩, e]
        rfl
      · cases w
  | _ =>
    unfold mV at w
    dsimp only at w
    exact aV_ok w
/-- n steps at most, and no further than to the places where stop holds -/
def mVn (n0 d : Nat) (mr : aF) (hd : aD) (cd : List aI) (rt : Option FieldType) (stop : Nat → Bool) : Nat → aS → (aS ⊕ aR → Prop) → Prop
  | 0, s, K => K (.inl s)
  | n + 1, s, K => match cd[s.1]? with
    | none => False
    | some (i, a, b, v) => mV n0 d mr hd cd rt i a b v s.1 s.2.1 s.2.2.1 s.2.2.2.1 s.2.2.2.2 (fun z => match z with
      | .inl t => match stop t.1 with
        | true => K (.inl t)
        | false => mVn n0 d mr hd cd rt stop n t K
      | .inr r => K (.inr r))
theorem mVn_ok {stop : Nat → Bool} : ∀ (n : Nat) (s : aS), mVn n0 d mr hd cd rt stop n s K → ∃ z, (match z with | .inl t => aTo (mStep n0 d mr hd cd rt) s t | .inr r => aEnd (mStep n0 d mr hd cd rt) s r) ∧ K z
  | 0, s, w => ⟨.inl s, aTo.rf, w⟩
  | n + 1, s, w => by
    unfold mVn at w
    split at w
    · cases w
    · rename_i i a b v hc
      obtain ⟨z, e, w⟩ := mV_ok w
      have e1 : mStep n0 d mr hd cd rt s = some z := by
        unfold mStep
        rw [hc]
        exact e
      cases z with
      | inl t =>
        dsimp only at w
        split at w
        · exact ⟨.inl t, aTo.one e1, w⟩
        · obtain ⟨z2, q1, q2⟩ := mVn_ok n t w
          refine ⟨z2, ?_, q2⟩
          cases z2 with
          | inl t2 => exact (aTo.one e1).trans q1
          | inr r2 => exact (aTo.one e1).fin q1
      | inr r => exact ⟨.inr r, aEnd.one e1, w⟩
theorem mVn_end {stop : Nat → Bool} {s : aS} {r : aR} (n : Nat) (w : mVn n0 d mr hd cd rt stop n s (aKe (mStep n0 d mr hd cd rt) r)) : aEnd (mStep n0 d mr hd cd rt) s r := by
  obtain ⟨z, h1, h2⟩ := mVn_ok n s w
  cases z with
  | inl t => exact aTo.fin h1 h2
  | inr q =>
    have h3 : q = r := h2
    subst h3
    exact h1
end MWP
