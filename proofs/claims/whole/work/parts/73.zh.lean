/-! THE MODEL READS: one step, against the class's -/
def hOk (b : Bool) : Int32 := if b = true then 0 else 1
def hKd (c : Int32) : Int32 := aFind (aStr 91) c 0
/-- row s of the model's steps holds the step that begins at p -/
def hRow (t : Nat → Int32) (L : Nat) (m1 : aW) (s p : Nat) : Prop := (pS t L p).1 = true ∧ m1 8 (4 * s) = hKd (t p) ∧ m1 8 (4 * s + 1) = (pS t L p).2.2 0 ∧ (t p = 116 ∨ t p = 103 ∨ t p = 112 → m1 8 (4 * s + 2) = (pS t L p).2.2 1) ∧ (t p = 103 → m1 8 (4 * s + 3) = (pS t L p).2.2 2)
def mStep (m m1 : aW) (s p L : Nat) : Prop := m1 9 5 = Int32.ofNat (pS (m 7) L p).2.1 ∧ m1 9 6 = hOk (pS (m 7) L p).1 ∧ (∀ a j, ¬ (a = 9 ∧ (j = 5 ∨ j = 6 ∨ j = 8)) → ¬ (a = 8 ∧ 4 * s ≤ j) → m1 a j = m a j) ∧ ((pS (m 7) L p).1 = true → m1 9 8 = m 9 8 + 1 ∧ hRow (m 7) L m1 s p)
section ZH
variable {sn : Nat} {sf : Nat → Int32} {m W : aW} {L p s : Nat} {t : Nat → Int32} {q : Nat × Int32} {x y z c : Int32}
theorem hS_w : hS t L x y (p, 1) = (0, p, 1) := if_neg (fun h => absurd h.1 (show ¬ (1 : Int32) = 0 by decide))
theorem hD_w : hD t L (p, 1) = (0, p, 1) := hS_w
theorem hB_w : hB t L x (p, 1) = (0, p, 1) := by
  unfold hB
  rw [hS_w]
  exact hD_w
theorem hN_w : hN t L (p, 1) = (0, p, 1) := by
  unfold hN
  rw [hD_w, if_neg (fun h => absurd h.1 (show ¬ (1 : Int32) = 0 by decide))]
theorem hD_r : hD t L (p, 0) = (if 1 ≤ (nRun t L 1 p 0).2.2 then (nRun t L 1 p 0).2.1 else 0, (nRun t L 1 p 0).1, if 1 ≤ (nRun t L 1 p 0).2.2 then 0 else 1) := by
  by_cases c : p < L ∧ 48 ≤ t p ∧ t p ≤ 57
  · rw [nRun_s c]
    have e : hD t L (p, 0) = (t p - 48, p + 1, 0) := if_pos ⟨rfl, c⟩
    rw [e]
    simp [nRun]
  · rw [nRun_n c]
    have e : hD t L (p, 0) = (0, p, 1) := if_neg (fun h => c h.2)
    rw [e]
    simp
theorem hS_r : hS t L c c (p, 0) = (if p < L ∧ t p = c then (0, p + 1, 0) else (0, p, 1)) := by
  by_cases h : p < L ∧ t p = c
  · rw [if_pos h]
    have e : hS t L c c (p, 0) = (t p - c, p + 1, 0) := if_pos ⟨rfl, h.1, by rw [h.2]; exact Int32.le_refl _, by rw [h.2]; exact Int32.le_refl _⟩
    rw [e, h.2, Int32.sub_self]
  · rw [if_neg h]
    exact if_neg (fun k => h ⟨k.2.1, Int32.le_antisymm k.2.2.2 k.2.2.1⟩)
theorem hN_r : hN t L (p, 0) = (if 1 ≤ (nRun t L 2 p 0).2.2 then (nRun t L 2 p 0).2.1 else 0, (nRun t L 2 p 0).1, if 1 ≤ (nRun t L 2 p 0).2.2 then 0 else 1) := by
  by_cases c : p < L ∧ 48 ≤ t p ∧ t p ≤ 57
  · have e : hD t L (p, 0) = (t p - 48, p + 1, 0) := if_pos ⟨rfl, c⟩
    unfold hN
    rw [nRun_s c, e]
    by_cases c1 : p + 1 < L ∧ 48 ≤ t (p + 1) ∧ t (p + 1) ≤ 57
    · have e1 : hD t L (p + 1, 0) = (t (p + 1) - 48, p + 1 + 1, 0) := if_pos ⟨rfl, c1⟩
      rw [if_pos ⟨rfl, c1⟩, nRun_s c1, e1]
      simp [nRun]
    · rw [if_neg (fun h => c1 h.2), nRun_n c1]
      simp
  · have e : hD t L (p, 0) = (0, p, 1) := if_neg (fun h => c h.2)
    unfold hN
    rw [nRun_n c, e, if_neg (fun h => absurd h.1 (show ¬ (1 : Int32) = 0 by decide))]
    simp
theorem n1_le : (nRun t L 1 p 0).2.2 ≤ 1 := by
  by_cases c : p < L ∧ 48 ≤ t p ∧ t p ≤ 57
  · rw [nRun_s c]; exact Nat.le_refl _
  · rw [nRun_n c]; exact Nat.zero_le _
/-- four digits -/
theorem h4_r {d1 d2 d3 d4 : Int32 × Nat × Int32} (h1 : hD t L (p, 0) = d1) (h2 : hD t L d1.2 = d2) (h3 : hD t L d2.2 = d3) (h4 : hD t L d3.2 = d4) : d4.2 = ((nRun t L 4 p 0).1, if 4 ≤ (nRun t L 4 p 0).2.2 then 0 else 1) ∧ (4 ≤ (nRun t L 4 p 0).2.2 → 10 * (10 * (10 * d1.1 + d2.1) + d3.1) + d4.1 = (nRun t L 4 p 0).2.1) := by
  subst h4 h3 h2 h1
  by_cases c : p < L ∧ 48 ≤ t p ∧ t p ≤ 57
  · have e1 : hD t L (p, 0) = (t p - 48, p + 1, 0) := if_pos ⟨rfl, c⟩
    rw [e1, nRun_s c]
    by_cases c1 : p + 1 < L ∧ 48 ≤ t (p + 1) ∧ t (p + 1) ≤ 57
    · have e2 : hD t L (p + 1, 0) = (t (p + 1) - 48, p + 1 + 1, 0) := if_pos ⟨rfl, c1⟩
      dsimp only
      rw [e2, nRun_s c1]
      by_cases c2 : p + 1 + 1 < L ∧ 48 ≤ t (p + 1 + 1) ∧ t (p + 1 + 1) ≤ 57
      · have e3 : hD t L (p + 1 + 1, 0) = (t (p + 1 + 1) - 48, p + 1 + 1 + 1, 0) := if_pos ⟨rfl, c2⟩
        dsimp only
        rw [e3, nRun_s c2]
        by_cases c3 : p + 1 + 1 + 1 < L ∧ 48 ≤ t (p + 1 + 1 + 1) ∧ t (p + 1 + 1 + 1) ≤ 57
        · have e4 : hD t L (p + 1 + 1 + 1, 0) = (t (p + 1 + 1 + 1) - 48, p + 1 + 1 + 1 + 1, 0) := if_pos ⟨rfl, c3⟩
          dsimp only
          rw [e4, nRun_s c3]
          simp [nRun]
        · have e4 : hD t L (p + 1 + 1 + 1, 0) = (0, p + 1 + 1 + 1, 1) := if_neg (fun h => c3 h.2)
          dsimp only
          rw [e4, nRun_n c3]
          simp
      · have e3 : hD t L (p + 1 + 1, 0) = (0, p + 1 + 1, 1) := if_neg (fun h => c2 h.2)
        dsimp only
        rw [e3, nRun_n c2, hD_w]
        simp
    · have e2 : hD t L (p + 1, 0) = (0, p + 1, 1) := if_neg (fun h => c1 h.2)
      dsimp only
      rw [e2, nRun_n c1, hD_w, hD_w]
      simp
  · have e1 : hD t L (p, 0) = (0, p, 1) := if_neg (fun h => c h.2)
    rw [e1, nRun_n c, hD_w, hD_w, hD_w]
    simp
theorem mStep_of (hW : ∀ a j, ¬ (a = 8 ∧ 4 * s ≤ j) → W a j = m a j) (hq : q = ((pS (m 7) L p).2.1, hOk (pS (m 7) L p).1)) (hr : (pS (m 7) L p).1 = true → hRow (m 7) L W s p) : mStep m (upw (hM W q) 9 8 (m 9 8 + 1)) s p L := by
  subst hq
  refine ⟨rfl, rfl, fun a j h1 h2 => ?_, fun h => ⟨rfl, hr h⟩⟩
  have e1 : upw (hM W ((pS (m 7) L p).2.1, hOk (pS (m 7) L p).1)) 9 8 (m 9 8 + 1) a j = hM W ((pS (m 7) L p).2.1, hOk (pS (m 7) L p).1) a j := upw_ne (fun k => h1 ⟨k.1, Or.inr (Or.inr k.2)⟩)
  have e2 : hM W ((pS (m 7) L p).2.1, hOk (pS (m 7) L p).1) a j = upw W 9 5 (Int32.ofNat (pS (m 7) L p).2.1) a j := upw_ne (fun k => h1 ⟨k.1, Or.inr (Or.inl k.2)⟩)
  exact e1.trans (e2.trans ((upw_ne (fun k => h1 ⟨k.1, Or.inl k.2⟩)).trans (hW a j h2)))
theorem up8 {i : Nat} (hi : 4 * s ≤ i) (hW : ∀ a j, ¬ (a = 8 ∧ 4 * s ≤ j) → W a j = m a j) : ∀ a j, ¬ (a = 8 ∧ 4 * s ≤ j) → upw W 8 i x a j = m a j := fun a j h => (upw_ne (fun k => h ⟨k.1, by omega⟩)).trans (hW a j h)
end ZH
