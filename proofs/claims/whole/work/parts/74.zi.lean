/-! THE MODEL READS: each verb's step is the class's -/
section ZI
variable {sn : Nat} {sf : Nat → Int32} {m W : aW} {L p s : Nat} {t : Nat → Int32} {q : Nat × Int32} {x y z c : Int32}
theorem hv_t (h : p < L) (hv : t p = 116) {q1 q2 q3 : Int32 × Nat × Int32} (e1 : hD t L (p + 1, 0) = q1) (e2 : hS t L 42 42 q1.2 = q2) (e3 : hN t L q2.2 = q3) : q3.2 = ((pS t L p).2.1, hOk (pS t L p).1) ∧ ((pS t L p).1 = true → q1.1 = (pS t L p).2.2 0 ∧ q3.1 = (pS t L p).2.2 1) := by
  have e0 := pS_of (t := t) h (show pOf (t p) = some [.inr (0, 1, 1), .inl 42, .inr (1, 1, 2)] by rw [hv]; rfl)
  subst e3 e2 e1
  rw [e0, hD_r]
  by_cases c0 : 1 ≤ (nRun t L 1 (p + 1) 0).2.2
  rotate_left
  · rw [pI_no c0]
    simp only [if_neg c0, hS_w, hN_w]
    exact ⟨rfl, fun k => absurd k (by decide)⟩
  rw [pI_n c0]
  simp only [if_pos c0]
  rw [hS_r]
  by_cases c1 : (nRun t L 1 (p + 1) 0).1 < L ∧ t (nRun t L 1 (p + 1) 0).1 = 42
  rotate_left
  · rw [pI_so c1, if_neg c1]
    simp only [hN_w]
    exact ⟨rfl, fun k => absurd k (by decide)⟩
  rw [pI_s c1, if_pos c1]
  simp only
  rw [hN_r]
  by_cases c2 : 1 ≤ (nRun t L 2 ((nRun t L 1 (p + 1) 0).1 + 1) 0).2.2
  rotate_left
  · rw [pI_no c2]
    simp only [if_neg c2]
    exact ⟨rfl, fun k => absurd k (by decide)⟩
  rw [pI_n c2]
  simp only [if_pos c2]
  exact ⟨rfl, fun _ => ⟨rfl, rfl⟩⟩
theorem hv_g (h : p < L) (hv : t p = 103) {q1 q2 q3 : Int32 × Nat × Int32} (e1 : hN t L (p + 1, 0) = q1) (e2 : hB t L 61 q1.2 = q2) (e3 : hD t L q2.2 = q3) : q3.2 = ((pS t L p).2.1, hOk (pS t L p).1) ∧ ((pS t L p).1 = true → q1.1 = (pS t L p).2.2 0 ∧ q2.1 = (pS t L p).2.2 1 ∧ q3.1 = (pS t L p).2.2 2) := by
  have e0 := pS_of (t := t) h (show pOf (t p) = some [.inr (0, 1, 2), .inl 61, .inr (1, 1, 1), .inr (2, 1, 1)] by rw [hv]; rfl)
  subst e3 e2 e1
  rw [e0, hN_r]
  by_cases c0 : 1 ≤ (nRun t L 2 (p + 1) 0).2.2
  rotate_left
  · rw [pI_no c0]
    simp only [if_neg c0, hB_w, hD_w]
    exact ⟨rfl, fun k => absurd k (by decide)⟩
  rw [pI_n c0]
  simp only [if_pos c0, hB]
  rw [hS_r]
  by_cases c1 : (nRun t L 2 (p + 1) 0).1 < L ∧ t (nRun t L 2 (p + 1) 0).1 = 61
  rotate_left
  · rw [pI_so c1, if_neg c1]
    simp only [hD_w]
    exact ⟨rfl, fun k => absurd k (by decide)⟩
  rw [pI_s c1, if_pos c1]
  simp only
  rw [hD_r]
  by_cases c2 : 1 ≤ (nRun t L 1 ((nRun t L 2 (p + 1) 0).1 + 1) 0).2.2
  rotate_left
  · rw [pI_no c2]
    simp only [if_neg c2, hD_w]
    exact ⟨rfl, fun k => absurd k (by decide)⟩
  rw [pI_n c2]
  simp only [if_pos c2]
  rw [hD_r]
  by_cases c3 : 1 ≤ (nRun t L 1 (nRun t L 1 ((nRun t L 2 (p + 1) 0).1 + 1) 0).1 0).2.2
  rotate_left
  · rw [pI_no c3]
    simp only [if_neg c3]
    exact ⟨rfl, fun k => absurd k (by decide)⟩
  rw [pI_n c3]
  simp only [if_pos c3]
  exact ⟨rfl, fun _ => ⟨rfl, rfl, rfl⟩⟩
theorem hv_p (h : p < L) (hv : t p = 112) {q1 q2 : Int32 × Nat × Int32} (e1 : hN t L (p + 1, 0) = q1) (e2 : hB t L 64 q1.2 = q2) : q2.2 = ((pS t L p).2.1, hOk (pS t L p).1) ∧ ((pS t L p).1 = true → q1.1 = (pS t L p).2.2 0 ∧ q2.1 = (pS t L p).2.2 1) := by
  have e0 := pS_of (t := t) h (show pOf (t p) = some [.inr (0, 1, 2), .inl 64, .inr (1, 1, 1)] by rw [hv]; rfl)
  subst e2 e1
  rw [e0, hN_r]
  by_cases c0 : 1 ≤ (nRun t L 2 (p + 1) 0).2.2
  rotate_left
  · rw [pI_no c0]
    simp only [if_neg c0, hB_w]
    exact ⟨rfl, fun k => absurd k (by decide)⟩
  rw [pI_n c0]
  simp only [if_pos c0, hB]
  rw [hS_r]
  by_cases c1 : (nRun t L 2 (p + 1) 0).1 < L ∧ t (nRun t L 2 (p + 1) 0).1 = 64
  rotate_left
  · rw [pI_so c1, if_neg c1]
    simp only [hD_w]
    exact ⟨rfl, fun k => absurd k (by decide)⟩
  rw [pI_s c1, if_pos c1]
  simp only
  rw [hD_r]
  by_cases c2 : 1 ≤ (nRun t L 1 ((nRun t L 2 (p + 1) 0).1 + 1) 0).2.2
  rotate_left
  · rw [pI_no c2]
    simp only [if_neg c2]
    exact ⟨rfl, fun k => absurd k (by decide)⟩
  rw [pI_n c2]
  simp only [if_pos c2]
  exact ⟨rfl, fun _ => ⟨rfl, rfl⟩⟩
theorem hv_f (h : p < L) (hv : t p = 102) {d1 d2 d3 d4 : Int32 × Nat × Int32} (h1 : hD t L (p + 1, 0) = d1) (h2 : hD t L d1.2 = d2) (h3 : hD t L d2.2 = d3) (h4 : hD t L d3.2 = d4) : d4.2 = ((pS t L p).2.1, hOk (pS t L p).1) ∧ ((pS t L p).1 = true → 10 * (10 * (10 * d1.1 + d2.1) + d3.1) + d4.1 = (pS t L p).2.2 0) := by
  have e0 := pS_of (t := t) h (show pOf (t p) = some [.inr (0, 4, 4)] by rw [hv]; rfl)
  obtain ⟨r1, r2⟩ := h4_r h1 h2 h3 h4
  rw [e0, r1]
  by_cases c0 : 4 ≤ (nRun t L 4 (p + 1) 0).2.2
  rotate_left
  · rw [pI_no c0]
    simp only [if_neg c0]
    exact ⟨rfl, fun k => absurd k (by decide)⟩
  rw [pI_n c0]
  simp only [if_pos c0]
  exact ⟨rfl, fun _ => r2 c0⟩
theorem hv_e (h : p < L) (hv : t p = 101 ∨ t p = 115) {q1 : Int32 × Nat × Int32} (e1 : hD t L (p + 1, 0) = q1) : q1.2 = ((pS t L p).2.1, hOk (pS t L p).1) ∧ ((pS t L p).1 = true → q1.1 = (pS t L p).2.2 0) := by
  have e0 := pS_of (t := t) h (show pOf (t p) = some [.inr (0, 1, 1)] by rcases hv with hv | hv <;> (rw [hv]; rfl))
  subst e1
  rw [e0, hD_r]
  by_cases c0 : 1 ≤ (nRun t L 1 (p + 1) 0).2.2
  rotate_left
  · rw [pI_no c0]
    simp only [if_neg c0]
    exact ⟨rfl, fun k => absurd k (by decide)⟩
  rw [pI_n c0]
  simp only [if_pos c0]
  exact ⟨rfl, fun _ => rfl⟩
theorem hK_none (h : pOf c = none) : hKd c = -1 := by
  have c1 : ¬ c = 116 := fun e => by rw [e] at h; cases h
  have c2 : ¬ c = 103 := fun e => by rw [e] at h; cases h
  have c3 : ¬ c = 112 := fun e => by rw [e] at h; cases h
  have c4 : ¬ c = 102 := fun e => by rw [e] at h; cases h
  have c5 : ¬ c = 101 := fun e => by rw [e] at h; cases h
  have c6 : ¬ c = 115 := fun e => by rw [e] at h; cases h
  show (if (116 : Int32) = c then _ else if (103 : Int32) = c then _ else if (112 : Int32) = c then _ else if (102 : Int32) = c then _ else if (101 : Int32) = c then _ else if (115 : Int32) = c then _ else (-1 : Int32)) = -1
  rw [if_neg (fun e => c1 e.symm), if_neg (fun e => c2 e.symm), if_neg (fun e => c3 e.symm), if_neg (fun e => c4 e.symm), if_neg (fun e => c5 e.symm), if_neg (fun e => c6 e.symm)]
end ZI
