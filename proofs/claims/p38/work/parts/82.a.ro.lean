/-! WHAT MAY NOT BE WRITTEN STAYS AS IT WAS, in every run -/
def aKp (h h1 : aH) : Prop := h.length ≤ h1.length ∧ ∀ (q : Nat) (e : aE), q < h.length → h1[q]? = some (false, e) → h[q]? = some (false, e)
def aHo : aS ⊕ aR → aH
  | .inl u => u.2.2.2.1
  | .inr r => r.2.1
def aPk (h : aH) (o : Option (aS ⊕ aR)) : Prop := ∀ z, o = some z → aKp h (aHo z)
section AKP
variable {h h1 h2 : aH} {q : Nat} {e : aE} {E : aH} {st : List Value} {pc : Nat} {ls : List (Option Value)} {k : aK}
theorem aKp.rf : aKp h h := ⟨Nat.le_refl _, fun _ _ _ g => g⟩
theorem aKp.trans (g1 : aKp h h1) (g2 : aKp h1 h2) : aKp h h2 := ⟨Nat.le_trans g1.1 g2.1, fun q e hq hb => g1.2 q e hq (g2.2 q e (Nat.lt_of_lt_of_le hq g1.1) hb)⟩
theorem aKp.set : aKp h (h.set q (true, e)) := ⟨by rw [List.length_set]; exact Nat.le_refl _, fun j e1 hj hs => by
  by_cases hq : j = q
  · subst hq
    rw [List.getElem?_set_self hj] at hs
    cases hs
  · rw [List.getElem?_set_ne (Ne.symm hq)] at hs
    exact hs⟩
theorem aKp.app : aKp h (h ++ E) := ⟨by rw [List.length_append]; omega, fun j e1 hj hs => by
  rw [List.getElem?_append_left hj] at hs
  exact hs⟩
theorem aPk.no : aPk h none := fun _ g => by cases g
theorem aPk.go (g : aKp h h1) : aPk h (aGo pc ls st h1 k) := fun z hz => by
  cases hz
  exact g
theorem aPk.en {r : aR} (g : aKp h r.2.1) : aPk h (some (.inr r)) := fun z hz => by
  cases hz
  exact g
theorem aPk.p1 {f : Int32 → List Value → Option (aS ⊕ aR)} (hf : ∀ x r, aPk h (f x r)) : aPk h (aP1 st f) := by
  unfold aP1
  split
  · exact hf _ _
  · exact aPk.no
theorem aPk.p2 {f : Int32 → Int32 → List Value → Option (aS ⊕ aR)} (hf : ∀ x y r, aPk h (f x y r)) : aPk h (aP2 st f) := by
  unfold aP2
  split
  · exact hf _ _ _
  · exact aPk.no
theorem aPk.pr {f : Nat → List Value → Option (aS ⊕ aR)} (hf : ∀ x r, aPk h (f x r)) : aPk h (aPr st f) := by
  unfold aPr
  split
  · exact hf _ _
  · exact aPk.no
theorem aPk.pir {f : Int32 → Nat → List Value → Option (aS ⊕ aR)} (hf : ∀ x y r, aPk h (f x y r)) : aPk h (aPir st f) := by
  unfold aPir
  split
  · exact hf _ _ _
  · exact aPk.no
theorem aPk.pvir {f : Value → Int32 → Nat → List Value → Option (aS ⊕ aR)} (hf : ∀ v x y r, aPk h (f v x y r)) : aPk h (aPvir st f) := by
  unfold aPvir
  split
  · exact hf _ _ _ _
  · exact aPk.no
theorem aPk.ob {f : Bool → Nat → List Value → Option (aS ⊕ aR)} (hf : ∀ w ci fs, aPk h (f w ci fs)) : aPk h (aOb h2 q f) := by
  unfold aOb
  split
  · exact hf _ _ _
  · exact aPk.no
theorem aPk.ar {f : Bool → FieldType → vp_A → Option (aS ⊕ aR)} (hf : ∀ w ty x, aPk h (f w ty x)) : aPk h (aAr h2 q f) := by
  unfold aAr
  split
  · exact hf _ _ _
  · exact aPk.no
theorem aPk.at {i : Int32} {n : Nat} {f : Nat → Option (aS ⊕ aR)} (hf : ∀ j, aPk h (f j)) : aPk h (aAt i n f) := by
  unfold aAt
  split
  · exact hf _
  · exact aPk.no
theorem aPk.back {nt : Bool} {hd : aD} {cd : List aI} {r : Option aR} (hr : ∀ r1, r = some r1 → aKp h r1.2.1) : aPk h (aBack nt hd cd pc ls st k r) := by
  unfold aBack
  repeat' (first | exact aPk.no | exact aPk.go (hr _ rfl) | (refine aPk.en ?_; have g := hr _ rfl; exact g) | split)
theorem aPk.call {nt : Bool} {hd : aD} {cd : List aI} {call : aF} {a b : Nat} (hc : ∀ a as h r, call a as h = some r → aKp h r.2.1) : aPk h (aCall nt call hd cd a b pc ls st h k) := by
  unfold aCall
  split
  · exact aPk.back (fun r1 e => hc _ _ _ _ e)
  · exact aPk.no
theorem aPk.nat {a : Nat} : aPk h (aNat a pc ls st h k) := by
  unfold aNat
  repeat' (first | exact aPk.no | exact aPk.go aKp.rf | exact aPk.go aKp.set | refine aPk.p2 fun _ _ _ => ?_ | refine aPk.ar fun _ _ _ => ?_ | split)
theorem aPk.text {a : Nat} : aPk h (aText a pc ls st h k) := by
  unfold aText
  repeat' (first | exact aPk.no | exact aPk.go aKp.rf | refine aPk.pir fun _ _ _ => ?_ | refine aPk.pr fun _ _ => ?_ | refine aPk.ob fun _ _ _ => ?_ | refine aPk.at fun _ => ?_ | split)
set_option maxHeartbeats 4000000 in
theorem aPk.ex {call : aF} {cls : Nat → Nat} {hd : aD} {cd : List aI} {rt : Option FieldType} {al : Bool} {i : Instr} {a b : Nat} {v : Int32} (hc : ∀ a as h r, call a as h = some r → aKp h r.2.1) : aPk h (aEx call cls hd cd rt al i a b v pc ls st h k) := by
  unfold aEx
  split <;> repeat' (first | exact aPk.no | exact aPk.go aKp.rf | exact aPk.go aKp.set | exact aPk.go aKp.app | exact aPk.en aKp.rf | exact aPk.call hc | exact aPk.nat | exact aPk.text | refine aPk.p1 fun _ _ => ?_ | refine aPk.p2 fun _ _ _ => ?_ | refine aPk.pr fun _ _ => ?_ | refine aPk.pir fun _ _ _ => ?_ | refine aPk.pvir fun _ _ _ _ => ?_ | refine aPk.ob fun _ _ _ => ?_ | refine aPk.ar fun _ _ _ => ?_ | refine aPk.at fun _ => ?_ | split)
end AKP
theorem aIt_kp {f : aS → Option (aS ⊕ aR)} (hf : ∀ s z, f s = some z → aKp s.2.2.2.1 (aHo z)) : ∀ (n : Nat) (s : aS) (z : aS ⊕ aR), aIt f n s = some z → aKp s.2.2.2.1 (aHo z)
  | 0, s, z, h => by
    cases h
    exact aKp.rf
  | n + 1, s, z, h => by
    cases hs : f s with
    | none => rw [aIt_non hs] at h; cases h
    | some x =>
      cases x with
      | inl u =>
        rw [aIt_inl hs] at h
        exact (hf s _ hs).trans (aIt_kp hf n u z h)
      | inr r =>
        rw [aIt_inr hs] at h
        cases h
        exact hf s _ hs
theorem aRun_kp (al : Bool) : ∀ (d a : Nat) (as : List Value) (h : aH) (r : aR), aRun al d a as h = some r → aKp h r.2.1
  | 0, _, _, _, _, h => by cases h
  | d + 1, a, as, h, r, hr => by
    obtain ⟨o, cd, hd, rt, n, -, N, hit⟩ := aRun_ex hr
    refine aIt_kp (fun s z hz => ?_) N _ _ hit
    unfold aStep at hz
    split at hz
    · cases hz
    · exact aPk.ex (aRun_kp al d) z hz
theorem mRun_kp : ∀ (d a : Nat) (as : List Value) (h : aH) (r : aR), mRun d a as h = some r → aKp h r.2.1
  | 0, _, _, _, _, h => by cases h
  | d + 1, a, as, h, r, hr => by
    have IH := mRun_kp d
    obtain ⟨o, cd, hd, rt, n, -, N, hit⟩ := mRun_ex hr
    refine aIt_kp (fun s z hz => ?_) N _ _ hit
    unfold mStep at hz
    split at hz
    · cases hz
    · split at hz
      · exact aPk.ex (aRun_kp false d) z hz
      · split at hz
        · exact aPk.ex (aRun_kp true d) z hz
        · cases hz
      · split at hz
        · unfold mCall at hz
          split at hz
          · split at hz
            · rename_i e
              cases hz
              exact IH _ _ _ _ e
            · cases hz
          · cases hz
        · cases hz
      · unfold mMac at hz
        split at hz
        · split at hz
          · split at hz
            · rename_i e
              split at hz
              · rename_i e9
                cases hz
                have g := IH _ _ _ _ e
                refine ⟨by show _ ≤ (List.take _ _).length; rw [List.length_take, e9]; omega, fun q e1 hq hs => ?_⟩
                have hs : (List.take (s.2.2.2.1).length _)[q]? = some (false, e1) := hs
                rw [List.getElem?_take_of_lt hq] at hs
                have g2 := g.2 q e1 (by rw [List.length_append]; omega) hs
                rw [List.getElem?_append_left hq] at g2
                exact g2
              · cases hz
            · cases hz
          · cases hz
        · cases hz
