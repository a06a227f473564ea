/-! RUNS -/
def aCls (m : Nat) : Nat := match aProg[m]? with
  | some (o, _) => o
  | none => 99
/-- the locals with which a method begins -/
def aIn (n : Nat) (args : List Value) : List (Option Value) := args.map some ++ List.replicate (n - args.length) none
/-- where the steps of f end, if they do -/
noncomputable def aFin (f : aS → Option (aS ⊕ aR)) (s : aS) : Option aR :=
  @dite _ (∃ n r, aIt f n s = some (.inr r)) (Classical.propDecidable _) (fun hx => some (Classical.choose (Classical.choose_spec hx))) (fun _ => none)
/-- what method m answers, with calls at most d deep; al: may it make cells -/
noncomputable def aRun (al : Bool) : Nat → aF
  | 0 => fun _ _ _ => none
  | d + 1 => fun m args h => match aProg[m]? with
    | none => none
    | some (_, cd, hd, rt, n) => aFin (aStep (aRun al d) aCls hd cd rt al) (0, aIn n args, [], h, (0, 0))
theorem aIt_inl {f : aS → Option (aS ⊕ aR)} {s u : aS} (h : f s = some (.inl u)) (n : Nat) : aIt f (n + 1) s = aIt f n u := by
  show (match f s with | some (.inl t) => aIt f n t | x => x) = _
  rw [h]
theorem aIt_inr {f : aS → Option (aS ⊕ aR)} {s : aS} {r : aR} (h : f s = some (.inr r)) (n : Nat) : aIt f (n + 1) s = some (.inr r) := by
  show (match f s with | some (.inl t) => aIt f n t | x => x) = _
  rw [h]
theorem aIt_non {f : aS → Option (aS ⊕ aR)} {s : aS} (h : f s = none) (n : Nat) : aIt f (n + 1) s = none := by
  show (match f s with | some (.inl t) => aIt f n t | x => x) = _
  rw [h]
theorem aIt_add (f : aS → Option (aS ⊕ aR)) : ∀ (n m : Nat) (s t : aS), aIt f n s = some (.inl t) → aIt f (n + m) s = aIt f m t
  | 0, m, s, t, h => by
    cases h
    rw [Nat.zero_add]
  | n + 1, m, s, t, h => by
    rw [Nat.succ_add]
    cases hf : f s with
    | none => rw [aIt_non hf] at h; cases h
    | some x =>
      cases x with
      | inl u => rw [aIt_inl hf] at h ⊢; exact aIt_add f n m u t h
      | inr r => rw [aIt_inr hf] at h; cases h
theorem aIt_end (f : aS → Option (aS ⊕ aR)) : ∀ (n m : Nat) (s : aS) (r : aR), aIt f n s = some (.inr r) → aIt f (n + m) s = some (.inr r)
  | 0, m, s, r, h => by cases h
  | n + 1, m, s, r, h => by
    rw [Nat.succ_add]
    cases hf : f s with
    | none => rw [aIt_non hf] at h; cases h
    | some x =>
      cases x with
      | inl u => rw [aIt_inl hf] at h ⊢; exact aIt_end f n m u r h
      | inr q => rw [aIt_inr hf] at h ⊢; exact h
theorem aIt_one (f : aS → Option (aS ⊕ aR)) {n m : Nat} {s : aS} {r q : aR} (h1 : aIt f n s = some (.inr r)) (h2 : aIt f m s = some (.inr q)) : r = q := by
  have a := aIt_end f n m s r h1
  have b := aIt_end f m n s q h2
  rw [Nat.add_comm] at b
  rw [a] at b
  cases b
  rfl
theorem aFin_of {f : aS → Option (aS ⊕ aR)} {s : aS} {n : Nat} {r : aR} (h : aIt f n s = some (.inr r)) : aFin f s = some r := by
  have hx : ∃ n r, aIt f n s = some (.inr r) := ⟨n, r, h⟩
  unfold aFin
  rw [dif_pos hx]
  exact congrArg some (aIt_one f (Classical.choose_spec (Classical.choose_spec hx)) h)
theorem aFin_ex {f : aS → Option (aS ⊕ aR)} {s : aS} {r : aR} (h : aFin f s = some r) : ∃ n, aIt f n s = some (.inr r) := by
  unfold aFin at h
  split at h
  · rename_i hx
    cases h
    exact ⟨_, Classical.choose_spec (Classical.choose_spec hx)⟩
  · cases h
/-- from s the steps come to t -/
def aTo (f : aS → Option (aS ⊕ aR)) (s t : aS) : Prop := ∃ n, aIt f n s = some (.inl t)
def aEnd (f : aS → Option (aS ⊕ aR)) (s : aS) (r : aR) : Prop := ∃ n, aIt f n s = some (.inr r)
theorem aTo.rf {f : aS → Option (aS ⊕ aR)} {s : aS} : aTo f s s := ⟨0, rfl⟩
theorem aTo.trans {f : aS → Option (aS ⊕ aR)} {s t u : aS} (h1 : aTo f s t) (h2 : aTo f t u) : aTo f s u := by
  obtain ⟨n, h1⟩ := h1
  obtain ⟨m, h2⟩ := h2
  exact ⟨n + m, (aIt_add f n m s t h1).trans h2⟩
theorem aTo.fin {f : aS → Option (aS ⊕ aR)} {s t : aS} {r : aR} (h1 : aTo f s t) (h2 : aEnd f t r) : aEnd f s r := by
  obtain ⟨n, h1⟩ := h1
  obtain ⟨m, h2⟩ := h2
  exact ⟨n + m, (aIt_add f n m s t h1).trans h2⟩
theorem aEnd.one {f : aS → Option (aS ⊕ aR)} {s : aS} {r : aR} (h : f s = some (.inr r)) : aEnd f s r := ⟨1, aIt_inr h 0⟩
theorem aTo.one {f : aS → Option (aS ⊕ aR)} {s t : aS} (h : f s = some (.inl t)) : aTo f s t := ⟨1, aIt_inl h 0⟩
theorem aRun_of {al : Bool} {d m : Nat} {args : List Value} {h : aH} {r : aR} {o n : Nat} {cd : List aI} {hd : aD} {rt : Option FieldType} (hm : aProg[m]? = some (o, cd, hd, rt, n)) (he : aEnd (aStep (aRun al d) aCls hd cd rt al) (0, aIn n args, [], h, (0, 0)) r) : aRun al (d + 1) m args h = some r := by
  obtain ⟨k, he⟩ := he
  show (match aProg[m]? with | none => none | some (_, cd, hd, rt, n) => aFin (aStep (aRun al d) aCls hd cd rt al) (0, aIn n args, [], h, (0, 0))) = some r
  rw [hm]
  exact aFin_of he
theorem aRun_ex {al : Bool} {d m : Nat} {args : List Value} {h : aH} {r : aR} (hr : aRun al (d + 1) m args h = some r) : ∃ o cd hd rt n, aProg[m]? = some (o, cd, hd, rt, n) ∧ aEnd (aStep (aRun al d) aCls hd cd rt al) (0, aIn n args, [], h, (0, 0)) r := by
  have h1 : (match aProg[m]? with | none => none | some (_, cd, hd, rt, n) => aFin (aStep (aRun al d) aCls hd cd rt al) (0, aIn n args, [], h, (0, 0))) = some r := hr
  cases hm : aProg[m]? with
  | none => rw [hm] at h1; cases h1
  | some x =>
    obtain ⟨o, cd, hd, rt, n⟩ := x
    rw [hm] at h1
    exact ⟨o, cd, hd, rt, n, rfl, aFin_ex h1⟩
