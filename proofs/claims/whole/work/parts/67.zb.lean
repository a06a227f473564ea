/-! THE MODEL READS: digits and numbers. Each gives the value, the place behind, wrong or not -/
def hS (t : Nat → Int32) (L : Nat) (x y : Int32) (q : Nat × Int32) : Int32 × Nat × Int32 := if q.2 = 0 ∧ q.1 < L ∧ x ≤ t q.1 ∧ t q.1 ≤ y then (t q.1 - x, q.1 + 1, 0) else (0, q.1, 1)
def hD (t : Nat → Int32) (L : Nat) (q : Nat × Int32) : Int32 × Nat × Int32 := hS t L 48 57 q
def hB (t : Nat → Int32) (L : Nat) (x : Int32) (q : Nat × Int32) : Int32 × Nat × Int32 := hD t L (hS t L x x q).2
def hN (t : Nat → Int32) (L : Nat) (q : Nat × Int32) : Int32 × Nat × Int32 := if (hD t L q).2.2 = 0 ∧ (hD t L q).2.1 < L ∧ 48 ≤ t (hD t L q).2.1 ∧ t (hD t L q).2.1 ≤ 57 then (10 * (hD t L q).1 + (hD t L (hD t L q).2).1, (hD t L (hD t L q).2).2) else hD t L q
section ZB
variable {sn : Nat} {sf : Nat → Int32} {m m1 m2 w : aW} {n g o i j k f L p : Nat} {x y z u v t c b : Int32} {q : Nat × Int32}
abbrev hM (m : aW) (q : Nat × Int32) : aW := mPl m q.1 q.2
theorem hS_le {t : Nat → Int32} (h : q.1 ≤ L) : (hS t L x y q).2.1 ≤ L := by
  unfold hS
  split
  · rename_i c
    exact c.2.1
  · exact h
theorem y_sign_ (d : Nat) (hl : m 9 4 = Int32.ofNat L) (hL : L ≤ 60) (hq : q.1 ≤ L) : aRun false (d + 3) m_X8_sign_ [.ref 8, .int x, .int y] (aHn sn sf (hM m q)) = some (.inl (some (.int (hS (m 7) L x y q).1)), aHn sn sf (hM m (hS (m 7) L x y q).2), (0, 0)) := by
  obtain ⟨p, b⟩ := q
  by_cases h : b = 0 ∧ p < L ∧ x ≤ m 7 p ∧ m 7 p ≤ y
  · have e : hS (m 7) L x y (p, b) = (m 7 p - x, p + 1, 0) := if_pos h
    rw [e]
    obtain ⟨rfl, h⟩ := h
    exact y_signY d h hl hL
  · have e : hS (m 7) L x y (p, b) = (0, p, 1) := if_neg h
    rw [e]
    exact y_signN d h hl hL hq
theorem y_digit (d : Nat) (hl : m 9 4 = Int32.ofNat L) (hL : L ≤ 60) (hq : q.1 ≤ L) : aRun false (d + 4) m_X8_digit [.ref 8] (aHn sn sf (hM m q)) = some (.inl (some (.int (hD (m 7) L q).1)), aHn sn sf (hM m (hD (m 7) L q).2), (0, 0)) := by
  have h := y_sign_ (sn := sn) (sf := sf) (m := m) (q := q) (x := 48) (y := 57) d hl hL hq
  refine aRun_of rfl (aVn_end (stop := fun p => false) 60 ?_)
  refine Exists.intro _ (And.intro h ?_)
  exact rfl
theorem y_digitBehind (d : Nat) (hl : m 9 4 = Int32.ofNat L) (hL : L ≤ 60) (hq : q.1 ≤ L) : aRun false (d + 5) m_X8_digitBehind [.ref 8, .int x] (aHn sn sf (hM m q)) = some (.inl (some (.int (hB (m 7) L x q).1)), aHn sn sf (hM m (hB (m 7) L x q).2), (0, 0)) := by
  have h := y_sign_ (sn := sn) (sf := sf) (m := m) (q := q) (x := x) (y := x) (d + 1) hl hL hq
  have h2 := y_digit (sn := sn) (sf := sf) (m := m) (q := (hS (m 7) L x x q).2) d hl hL (hS_le hq)
  refine aRun_of rfl (aVn_end (stop := fun p => false) 60 ?_)
  refine Exists.intro _ (And.intro h ?_)
  refine Exists.intro _ (And.intro h2 ?_)
  exact rfl
theorem y_number (d : Nat) (hl : m 9 4 = Int32.ofNat L) (hL : L ≤ 60) (hq : q.1 ≤ L) : aRun false (d + 5) m_X8_number [.ref 8] (aHn sn sf (hM m q)) = some (.inl (some (.int (hN (m 7) L q).1)), aHn sn sf (hM m (hN (m 7) L q).2), (0, 0)) := by
  have h := y_digit (sn := sn) (sf := sf) (m := m) (q := q) d hl hL hq
  have hle : (hD (m 7) L q).2.1 ≤ L := hS_le hq
  have h2 := y_digit (sn := sn) (sf := sf) (m := m) (q := (hD (m 7) L q).2) d hl hL hle
  by_cases c0 : (hD (m 7) L q).2.2 = 0 ∧ (hD (m 7) L q).2.1 < L ∧ 48 ≤ m 7 (hD (m 7) L q).2.1 ∧ m 7 (hD (m 7) L q).2.1 ≤ 57
  · have e : hN (m 7) L q = (10 * (hD (m 7) L q).1 + (hD (m 7) L (hD (m 7) L q).2).1, (hD (m 7) L (hD (m 7) L q).2).2) := if_pos c0
    have hh : rM sn sf (hM m (hD (m 7) L q).2) (d + 4) m_X8_isHere [.ref 8, .int 48, .int 57] 1 := y_isHere (m := hM m (hD (m 7) L q).2) (d + 2) c0.1 (p := (hD (m 7) L q).2.1) (L := L) rfl hl hL hle (if_pos c0.2).symm
    rw [e]
    refine aRun_of rfl (aVn_end (stop := fun p => false) 60 ?_)
    refine Exists.intro _ (And.intro h ?_)
    refine Exists.intro _ (And.intro hh ?_)
    refine And.intro (fun c => absurd (show false = true from c) (by decide)) (fun _ => ?_)
    refine Exists.intro _ (And.intro h2 ?_)
    exact rfl
  · have e : hN (m 7) L q = hD (m 7) L q := if_neg c0
    have hh : rM sn sf (hM m (hD (m 7) L q).2) (d + 4) m_X8_isHere [.ref 8, .int 48, .int 57] 0 := by
      by_cases hb : (hD (m 7) L q).2.2 = 0
      · exact y_isHere (m := hM m (hD (m 7) L q).2) (d + 2) hb (p := (hD (m 7) L q).2.1) (L := L) rfl hl hL hle (if_neg (fun r => c0 ⟨hb, r⟩)).symm
      · exact y_isHereW (m := hM m (hD (m 7) L q).2) (d + 2) hb
    rw [e]
    refine aRun_of rfl (aVn_end (stop := fun p => false) 60 ?_)
    refine Exists.intro _ (And.intro h ?_)
    refine Exists.intro _ (And.intro hh ?_)
    refine And.intro (fun _ => ?_) (fun c => absurd (show true = false from c) (by decide))
    exact rfl
end ZB
