/-! THE MODEL'S CHANGES ARE KEPT, OR NOT -/
def mPush (m m3 : aW) : Prop := ∃ c, m 9 1 = Int32.ofNat c ∧ ((c < 8 ∧ m3 9 1 = Int32.ofNat (c + 1) ∧ (∀ e, e < c → ∀ i, i < 495 → m3 4 (495 * e + i) = m 4 (495 * e + i)) ∧ ∀ i, i < 495 → m3 4 (495 * c + i) = m 0 i) ∨
  (c = 8 ∧ m3 9 1 = Int32.ofNat 8 ∧ (∀ e, e < 7 → ∀ i, i < 495 → m3 4 (495 * e + i) = m 4 (495 * (e + 1) + i)) ∧ ∀ i, i < 495 → m3 4 (495 * 7 + i) = m 0 i))
def mWhy0 (m m3 : aW) : Prop := m3 9 3 = m 9 3 ∧ m3 5 = m 5 ∧ m3 6 = m 6
def mOp (p : aZ) (f : Int32 → Int32) (m m3 : aW) (v : Int32) : Prop := ((∀ a, (a = 3 ∨ a = 7 ∨ a = 8) → m3 a = m a) ∧ ∀ i, (i = 0 ∨ 4 ≤ i) → m3 9 i = m 9 i) ∧
  (0 ≤ p.1 → v = p.1 ∧ m3 9 2 = 0 ∧ (∃ n g o, Rl p.2 (m3 0) n g o ∧ okN p.2 n g o) ∧ mWhy0 m m3 ∧ mPush m m3) ∧
  (p.1 < 0 → m3 9 2 = f p.1 ∧ 0 < f p.1 ∧ (∀ i, i < 495 → m3 0 i = m 0 i) ∧ m3 4 = m 4 ∧ m3 9 1 = m 9 1 ∧ (¬ p.1 = -3 → mWhy0 m m3) ∧ (p.1 = -3 → mWhy p.2 m3))
section YL
variable {sn : Nat} {sf : Nat → Int32} {m m1 m2 w : aW} {n g o i j k f b L : Nat} {x y z v u s t c : Int32}
theorem mKeep_1 (hi : i < 495) : mKeep m 1 i = m 0 i := cpy_at hi
theorem cpy_in {f e : Nat → Int32} {a b c j : Nat} (h : j < c) : va_cpy f e a b c (b + j) = f (a + j) := by
  unfold va_cpy
  rw [if_pos ⟨by omega, by omega⟩]
  congr 1
  omega
theorem cpy_out {f e : Nat → Int32} {a b c j : Nat} (h : j < b ∨ b + c ≤ j) : va_cpy f e a b c j = e j := by
  unfold va_cpy
  rw [if_neg (by omega)]
theorem mKeep9 (h : ¬ i = 2) : mKeep m 9 i = m 9 i := by
  match i, h with
  | 0, _ => rfl
  | 1, _ => rfl
  | 2, h => exact absurd rfl h
  | k + 3, _ => rfl
theorem mEnd9 {c0 : Nat} (h : ¬ i = 1) : mEnd m c0 9 i = m 9 i := by
  match i, h with
  | 0, _ => rfl
  | 1, h => exact absurd rfl h
  | k + 2, _ => rfl
theorem mEnd89 (h : ¬ i = 1) : mEnd8 m 9 i = m 9 i := by
  match i, h with
  | 0, _ => rfl
  | 1, h => exact absurd rfl h
  | k + 2, _ => rfl
/-- what ends makes of a change that has been done -/
theorem y_endD (d : Nat) {c : Nat} {p : aZ} {f : Int32 → Int32} (hc : m 9 1 = Int32.ofNat c) (h8 : c ≤ 8) (hp : 0 ≤ p.1 ∨ p.1 < 0) (h : mDo p f (mKeep m) m2 v) : ∃ m3 u, aRun false (d + 1) m_X8_ends [.ref 8, .int v] (aHn sn sf m2) = some (.inl (some (.int u)), aHn sn sf m3, (0, 0)) ∧ mOp p f m m3 u := by
  obtain ⟨⟨F1, F2⟩, G, B⟩ := h
  have k1 : m2 1 = mKeep m 1 := F1 1 (by omega) (by omega) (by omega) (by omega)
  have k4 : m2 4 = m 4 := F1 4 (by omega) (by omega) (by omega) (by omega)
  have k91 : m2 9 1 = m 9 1 := F2 1 (by omega) (by omega)
  have fr3 : ∀ a, (a = 3 ∨ a = 7 ∨ a = 8) → m2 a = m a := fun a h => by
    rcases h with rfl | rfl | rfl
    · exact F1 3 (by omega) (by omega) (by omega) (by omega)
    · exact F1 7 (by omega) (by omega) (by omega) (by omega)
    · exact F1 8 (by omega) (by omega) (by omega) (by omega)
  have fr9 : ∀ i, (i = 0 ∨ 4 ≤ i) → m2 9 i = m 9 i := fun i h => (F2 i (by omega) (by omega)).trans (mKeep9 (by omega))
  have k93 : mKeep m 9 3 = m 9 3 := rfl
  rcases hp with hp | hp
  · obtain ⟨g1, g2, g3, g4, g5, g6⟩ := G hp
    by_cases c8 : c < 8
    · refine ⟨mEnd m2 c, v, y_ends d g2 (k91.trans hc) c8, ⟨fun a ha => ?_, fun i hi => ?_⟩, fun _ => ⟨g1, g2, g3, ⟨g4, g5, g6⟩, c, hc, Or.inl ⟨c8, ?_, fun e he i hi => ?_, fun i hi => ?_⟩⟩, fun q => absurd q (Int32.not_lt.mpr hp)⟩
      · rw [← fr3 a ha]
        rcases ha with rfl | rfl | rfl <;> rfl
      · rw [← fr9 i hi]
        exact mEnd9 (by omega)
      · show m2 9 1 + 1 = _
        rw [k91]
        exact zI_s hc
      · show va_cpy (m2 1) (m2 4) 0 (495 * c) 495 _ = _
        rw [cpy_out (Or.inl (by have : 495 * e + 495 ≤ 495 * c := by (have : e + 1 ≤ c := he; omega)
                                omega)), k4]
      · show va_cpy (m2 1) (m2 4) 0 (495 * c) 495 _ = _
        rw [cpy_in hi, k1, Nat.zero_add]
        exact mKeep_1 hi
    · have c88 : c = 8 := by omega
      subst c88
      refine ⟨mEnd8 m2, v, y_ends8 d g2 (k91.trans hc), ⟨fun a ha => ?_, fun i hi => ?_⟩, fun _ => ⟨g1, g2, g3, ⟨g4, g5, g6⟩, 8, hc, Or.inr ⟨rfl, ?_, fun e he i hi => ?_, fun i hi => ?_⟩⟩, fun q => absurd q (Int32.not_lt.mpr hp)⟩
      · rw [← fr3 a ha]
        rcases ha with rfl | rfl | rfl <;> rfl
      · rw [← fr9 i hi]
        exact mEnd89 (by omega)
      · show m2 9 1 - 1 + 1 = _
        rw [k91, hc]
        decide
      · show va_cpy (m2 1) (va_cpy (m2 4) (m2 4) 495 0 3465) 0 (495 * 7) 495 _ = _
        rw [cpy_out (Or.inl (by omega)), k4]
        have q := cpy_in (f := m 4) (e := m 4) (a := 495) (b := 0) (c := 3465) (j := 495 * e + i) (by omega)
        rw [Nat.zero_add] at q
        rw [q]
        congr 1
        omega
      · show va_cpy (m2 1) (va_cpy (m2 4) (m2 4) 495 0 3465) 0 (495 * 7) 495 _ = _
        rw [cpy_in hi, k1, Nat.zero_add]
        exact mKeep_1 hi
  · obtain ⟨g1, g2, g3, g4, g5⟩ := B hp
    refine ⟨mEndX m2, 0, y_endsX d (by rw [g2]; exact g3), ⟨fun a ha => ?_, fun i hi => fr9 i hi⟩, fun q => absurd hp (Int32.not_lt.mpr q), fun _ => ⟨g2, g3, fun i hi => ?_, k4, k91, g4, g5⟩⟩
    · rw [← fr3 a ha]
      rcases ha with rfl | rfl | rfl <;> rfl
    · show va_cpy (m2 1) (m2 0) 0 0 495 i = _
      rw [cpy_at hi, k1]
      exact mKeep_1 hi
theorem RKeep (R : Rl w (m 0) n g o) : Rl w (mKeep m 0) n g o := R
theorem lt_or (x : Int32) : 0 ≤ x ∨ x < 0 := by
  by_cases h : x < 0
  · exact Or.inr h
  · exact Or.inl (Int32.not_lt.mp h)
theorem o_cast (d : Nat) {c : Nat} (R : Rl w (m 0) n g o) (ok : wOkA w n g o) (hc : m 9 1 = Int32.ofNat c) (h8 : c ≤ 8) : ∃ m1 v, aRun false (d + 9) m_X8_cast [.ref 8, .int x, .int y, .int z] (aHn sn sf m) = some (.inl (some (.int v)), aHn sn sf m1, (0, 0)) ∧ mOp (fCast w n x y z) cd2 m m1 v := by
  obtain ⟨m2, v, h1, h2⟩ := y_doCast (sn := sn) (sf := sf) (m := mKeep m) d (RKeep R) ok
  obtain ⟨m3, u, g1, g2⟩ := y_endD (sn := sn) (sf := sf) (d + 7) hc h8 (lt_or _) h2
  refine ⟨m3, u, ?_, g2⟩
  refine aRun_of rfl (aVn_end (stop := fun p => false) 60 ?_)
  refine Exists.intro _ (And.intro (y_keep (d + 7)) ?_)
  refine Exists.intro _ (And.intro h1 ?_)
  refine Exists.intro _ (And.intro g1 ?_)
  exact rfl
theorem o_glaze (d : Nat) {c : Nat} (R : Rl w (m 0) n g o) (ok : wOkA w n g o) (hc : m 9 1 = Int32.ofNat c) (h8 : c ≤ 8) : ∃ m1 v, aRun false (d + 9) m_X8_glaze [.ref 8, .int x, .int y, .int z] (aHn sn sf m) = some (.inl (some (.int v)), aHn sn sf m1, (0, 0)) ∧ mOp (fCoat w x y z) cd3 m m1 v := by
  obtain ⟨m2, v, h1, h2⟩ := y_doGlaze (sn := sn) (sf := sf) (m := mKeep m) d (RKeep R) ok
  obtain ⟨m3, u, g1, g2⟩ := y_endD (sn := sn) (sf := sf) (d + 7) hc h8 (lt_or _) h2
  refine ⟨m3, u, ?_, g2⟩
  refine aRun_of rfl (aVn_end (stop := fun p => false) 60 ?_)
  refine Exists.intro _ (And.intro (y_keep (d + 7)) ?_)
  refine Exists.intro _ (And.intro h1 ?_)
  refine Exists.intro _ (And.intro g1 ?_)
  exact rfl
theorem o_put (d : Nat) {c : Nat} (R : Rl w (m 0) n g o) (ok : wOkA w n g o) (hc : m 9 1 = Int32.ofNat c) (h8 : c ≤ 8) (h0 : fSz (w 6 (zn x)) ≤ 6 - wHeld w n y → 0 ≤ 6 - wHeld w n y - fSz (w 6 (zn x))) : ∃ m1 v, aRun false (d + 9) m_X8_put [.ref 8, .int x, .int y] (aHn sn sf m) = some (.inl (some (.int v)), aHn sn sf m1, (0, 0)) ∧ mOp (fPut w n g x y) cd2 m m1 v := by
  obtain ⟨m2, v, h1, h2⟩ := y_doPut (sn := sn) (sf := sf) (m := mKeep m) d (RKeep R) ok h0
  obtain ⟨m3, u, g1, g2⟩ := y_endD (sn := sn) (sf := sf) (d + 7) hc h8 (lt_or _) h2
  refine ⟨m3, u, ?_, g2⟩
  refine aRun_of rfl (aVn_end (stop := fun p => false) 60 ?_)
  refine Exists.intro _ (And.intro (y_keep (d + 7)) ?_)
  refine Exists.intro _ (And.intro h1 ?_)
  refine Exists.intro _ (And.intro g1 ?_)
  exact rfl
theorem o_fire (d : Nat) {c : Nat} (R : Rl w (m 0) n g o) (ok : wOkA w n g o) (hc : m 9 1 = Int32.ofNat c) (h8 : c ≤ 8) : ∃ m1 v, aRun false (d + 9) m_X8_fire [.ref 8, .int y] (aHn sn sf m) = some (.inl (some (.int v)), aHn sn sf m1, (0, 0)) ∧ mOp (fFire w n y) cd2 m m1 v := by
  obtain ⟨m2, v, h1, h2⟩ := y_doFire (sn := sn) (sf := sf) (m := mKeep m) d (RKeep R) ok
  obtain ⟨m3, u, g1, g2⟩ := y_endD (sn := sn) (sf := sf) (d + 7) hc h8 (lt_or _) h2
  refine ⟨m3, u, ?_, g2⟩
  refine aRun_of rfl (aVn_end (stop := fun p => false) 60 ?_)
  refine Exists.intro _ (And.intro (y_keep (d + 7)) ?_)
  refine Exists.intro _ (And.intro h1 ?_)
  refine Exists.intro _ (And.intro g1 ?_)
  exact rfl
theorem o_empty (d : Nat) {c : Nat} (R : Rl w (m 0) n g o) (ok : wOkA w n g o) (hc : m 9 1 = Int32.ofNat c) (h8 : c ≤ 8) : ∃ m1 v, aRun false (d + 9) m_X8_empty [.ref 8, .int y] (aHn sn sf m) = some (.inl (some (.int v)), aHn sn sf m1, (0, 0)) ∧ mOp (fEmpty w n y) cd2 m m1 v := by
  obtain ⟨m2, v, h1, h2⟩ := y_doEmpty (sn := sn) (sf := sf) (m := mKeep m) d (RKeep R) ok
  obtain ⟨m3, u, g1, g2⟩ := y_endD (sn := sn) (sf := sf) (d + 7) hc h8 (lt_or _) h2
  refine ⟨m3, u, ?_, g2⟩
  refine aRun_of rfl (aVn_end (stop := fun p => false) 60 ?_)
  refine Exists.intro _ (And.intro (y_keep (d + 7)) ?_)
  refine Exists.intro _ (And.intro h1 ?_)
  refine Exists.intro _ (And.intro g1 ?_)
  exact rfl
theorem o_sell (d : Nat) {c : Nat} (R : Rl w (m 0) n g o) (ok : wOkA w n g o) (hc : m 9 1 = Int32.ofNat c) (h8 : c ≤ 8) (h0 : 0 ≤ y ∧ y < w 16 5 → wLack w n (zn y) = -1 → 0 ≤ wTake n (zn y) w 12 (zn y)) : ∃ m1 v, aRun false (d + 9) m_X8_sell [.ref 8, .int y] (aHn sn sf m) = some (.inl (some (.int v)), aHn sn sf m1, (0, 0)) ∧ mOp (fSell w n y) cd2 m m1 v := by
  obtain ⟨m2, v, h1, h2⟩ := y_doSell (sn := sn) (sf := sf) (m := mKeep m) d (RKeep R) ok h0
  obtain ⟨m3, u, g1, g2⟩ := y_endD (sn := sn) (sf := sf) (d + 7) hc h8 (lt_or _) h2
  refine ⟨m3, u, ?_, g2⟩
  refine aRun_of rfl (aVn_end (stop := fun p => false) 60 ?_)
  refine Exists.intro _ (And.intro (y_keep (d + 7)) ?_)
  refine Exists.intro _ (And.intro h1 ?_)
  refine Exists.intro _ (And.intro g1 ?_)
  exact rfl
end YL
