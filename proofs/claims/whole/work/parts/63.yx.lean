/-! THE MODEL'S ANSWERS: how many sets -/
def mAside (m : aW) : aW := fun a => match a with
  | 2 => va_cpy (m 0) (m 2) 0 0 495
  | 9 => fun i => match i with
    | 2 => 0
    | j => m 9 j
  | a => m a
def mBack (m : aW) : aW := fun a => match a with
  | 0 => va_cpy (m 2) (m 0) 0 0 495
  | a => m a
section YX
variable {sn : Nat} {sf : Nat → Int32} {m m1 m2 w v : aW} {n g o i j k f b L : Nat} {x y z u t c : Int32}
theorem wLack_nn (h : ¬ wLack w n j = -1) : 0 ≤ wLack w n j := by
  rcases aFd_cases (fun k => decide (wFor w n j (Int32.ofNat k) < w 13 (j * 4 + k))) (fun k => Int32.ofNat k) (-1) 4 0 with ⟨q, -⟩ | ⟨l, -, hl, -, q, -⟩
  · exact absurd q h
  · unfold wLack
    rw [q]
    exact Int32.not_lt.mp (ofN_lt0 (by omega))
theorem l_sets (d : Nat) (hy : y = Int32.ofNat j) (hj : j < o) : ∀ (q i : Nat) (x : Int32) (w m : aW), x = Int32.ofNat i → Rl w (m 0) n g o → wOkA w n g o → ¬ wLack (wAllS n j q w).2 n j = -1 → ∃ m2, (∀ a, ¬ a = 0 → m2 a = m a) ∧ ∀ r : aR, ((aEnd (aStep (aRun false (d + 7)) aCls [] aB_X8_sets (some .int) false) (58, [some (.ref 8), some (.int y), some (.int (Int32.ofNat (i + (wAllS n j q w).1)))], [], aHn sn sf m2, (0, 0)) r) → aEnd (aStep (aRun false (d + 7)) aCls [] aB_X8_sets (some .int) false) (44, [some (.ref 8), some (.int y), some (.int x)], [], aHn sn sf m, (0, 0)) r)
  | 0, i, x, w, m, hx, R, ok, hs => by
    have hs : ¬ wLack w n j = -1 := hs
    have hg := y_goSellX (sn := sn) (sf := sf) (m := m) d R ok hy hj hs
    have hnn := wLack_nn hs
    refine ⟨m, fun _ _ => rfl, fun r h => ?_⟩
    have e0 : Int32.ofNat (i + (wAllS n j 0 w).1) = x := hx.symm
    rw [e0] at h
    refine aVn_end (stop := fun p => p == 58) 60 ?_
    refine Exists.intro _ (And.intro hg ?_)
    refine And.intro (fun _ => ?_) (fun c => absurd hnn (cF c))
    exact h
  | q + 1, i, x, w, m, hx, R, ok, hs => by
    by_cases c : wLack w n j = -1
    · have e : wAllS n j (q + 1) w = ((wAllS n j q (wTake n j w)).1 + 1, (wAllS n j q (wTake n j w)).2) := if_pos c
      rw [e] at hs
      obtain ⟨m1, h1, h2, h3, h4⟩ := y_goSell (sn := sn) (sf := sf) (m := m) d R ok hy hj c
      obtain ⟨m2, g1, g2⟩ := l_sets d hy hj q (i + 1) (x + 1) (wTake n j w) m1 (zI_s hx) h3 h4 hs
      refine ⟨m2, fun a ha => (g1 a ha).trans (h2 a ha), fun r h => ?_⟩
      rw [e, show i + ((wAllS n j q (wTake n j w)).1 + 1) = i + 1 + (wAllS n j q (wTake n j w)).1 by omega] at h
      have g3 := g2 r h
      refine aVn_end (stop := fun p => p == 44) 60 ?_
      refine Exists.intro _ (And.intro h1 ?_)
      refine And.intro (fun c => absurd (show (0 : Int32) ≤ -1 from cT c) (by decide)) (fun _ => ?_)
      exact g3
    · have e : wAllS n j (q + 1) w = (0, w) := if_neg c
      have hg := y_goSellX (sn := sn) (sf := sf) (m := m) d R ok hy hj c
      have hnn := wLack_nn c
      refine ⟨m, fun _ _ => rfl, fun r h => ?_⟩
      have e0 : Int32.ofNat (i + (wAllS n j (q + 1) w).1) = x := by rw [e]; exact hx.symm
      rw [e0] at h
      refine aVn_end (stop := fun p => p == 58) 60 ?_
      refine Exists.intro _ (And.intro hg ?_)
      refine And.intro (fun _ => ?_) (fun c => absurd hnn (cF c))
      exact h
theorem y_setsX (d : Nat) (R : Rl w (m 0) n g o) (ok : wOkA w n g o) (c0 : ¬ (0 ≤ y ∧ y < w 16 5)) : aRun false (d + 8) m_X8_sets [.ref 8, .int y] (aHn sn sf m) = some (.inl (some (.int 0)), aHn sn sf (upw m 9 2 1), (0, 0)) := by
  refine aRun_of rfl (aVn_end (stop := fun p => false) 60 ?_)
  refine Exists.intro _ (And.intro (y_isOrder (d + 5) R ok (if_neg c0).symm) ?_)
  refine And.intro (fun _ => ?_) (fun c => absurd (show true = false from c) (by decide))
  refine And.intro (fun c => absurd (show false = true from c) (by decide)) (fun _ => ?_)
  exact rfl
theorem y_sets (d : Nat) (R : Rl w (m 0) n g o) (ok : wOkA w n g o) (c0 : 0 ≤ y ∧ y < w 16 5) (hs : ¬ wLack (wAllS n (zn y) 60 w).2 n (zn y) = -1) : ∃ m3, aRun false (d + 8) m_X8_sets [.ref 8, .int y] (aHn sn sf m) = some (.inl (some (.int (Int32.ofNat (wAllS n (zn y) 60 w).1))), aHn sn sf m3, (0, 0)) ∧ (∀ a, ¬ (a = 0 ∨ a = 2 ∨ a = 9) → m3 a = m a) ∧ (∀ i, i < 495 → m3 0 i = m 0 i) ∧ m3 9 2 = 0 ∧ ∀ i, ¬ i = 2 → m3 9 i = m 9 i := by
  have hyy := aIx_lt c0 ok.1.2.2.2.2.1 ok.1.2.2.2.2.2 (by omega)
  have Ra : Rl w ((mAside m) 0) n g o := R
  have fin : ∀ m2 : aW, aEnd (aStep (aRun false (d + 7)) aCls [] aB_X8_sets (some .int) false) (58, [some (.ref 8), some (.int y), some (.int (Int32.ofNat (0 + (wAllS n (zn y) 60 w).1)))], [], aHn sn sf m2, (0, 0)) (.inl (some (.int (Int32.ofNat (wAllS n (zn y) 60 w).1))), aHn sn sf (mBack m2), (0, 0)) := fun m2 => by
    refine aVn_end (stop := fun p => false) 60 ?_
    refine Exists.intro _ (And.intro (aNat_cq (n := 495) (a1 := 0) (a2 := 0) rfl rfl rfl rfl rfl (by omega) (by omega) (by omega) (by omega) aS_nil) ?_)
    exact aRi (by rw [Nat.zero_add])
  obtain ⟨m2, g1, g2⟩ := l_sets (sn := sn) (sf := sf) d hyy.2.2 hyy.2.1 60 0 0 w (mAside m) rfl Ra ok hs
  have g3 := g2 _ (fin m2)
  refine ⟨mBack m2, ?_, fun a ha => ?_, fun i hi => ?_, ?_, fun i hi => ?_⟩
  · refine aRun_of rfl (aVn_end (stop := fun p => p == 44) 60 ?_)
    refine Exists.intro _ (And.intro (y_isOrder (d + 5) R ok (if_pos c0).symm) ?_)
    refine And.intro (fun c => absurd (show false = true from c) (by decide)) (fun _ => ?_)
    refine And.intro (fun _ => ?_) (fun c => absurd (show true = false from c) (by decide))
    refine Exists.intro _ (And.intro (aNat_cq (n := 495) (a1 := 0) (a2 := 0) rfl rfl rfl rfl rfl (by omega) (by omega) (by omega) (by omega) aS_nil) ?_)
    exact g3
  · have e1 : mBack m2 a = m2 a := by
      match a, ha with
      | 0, h => exact absurd (Or.inl rfl) h
      | a + 1, _ => rfl
    rw [e1, g1 a (by omega)]
    match a, ha with
    | 0, h => exact absurd (Or.inl rfl) h
    | 1, _ => rfl
    | 2, h => exact absurd (Or.inr (Or.inl rfl)) h
    | 3, _ => rfl
    | 4, _ => rfl
    | 5, _ => rfl
    | 6, _ => rfl
    | 7, _ => rfl
    | 8, _ => rfl
    | 9, h => exact absurd (Or.inr (Or.inr rfl)) h
    | a + 10, _ => rfl
  · show va_cpy (m2 2) (m2 0) 0 0 495 i = _
    rw [cpy_at hi, g1 2 (by omega)]
    show va_cpy (m 0) (m 2) 0 0 495 i = _
    exact cpy_at hi
  · show m2 9 2 = 0
    rw [g1 9 (by omega)]
    rfl
  · show m2 9 i = _
    rw [g1 9 (by omega)]
    match i, hi with
    | 0, _ => rfl
    | 1, _ => rfl
    | 2, h => exact absurd rfl h
    | i + 3, _ => rfl
end YX
