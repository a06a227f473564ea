/-- what holds of a Works also in the midst of a change -/
def wOkA (w : aW) (n g o : Nat) : Prop := okN w n g o ∧ (∀ j, j < n → okW w g j) ∧ okS w g ∧ ∀ i, i < o → okO w i
theorem wOk.A {w : aW} {n g o : Nat} (h : wOk w n g o) : wOkA w n g o := ⟨h.1, h.2.1, h.2.2.1, h.2.2.2.1⟩
theorem wOkA.kinds {w : aW} {n g o : Nat} (k : wOkA w n g o) : ∀ j, j < n → ∃ i, aIx (w 6 j) 4 = some i := fun j hj => (k.2.1 j hj).1
/-! THE MODEL. Its contents: 0 the row, 1 before, 2 aside, 3 saved, 4 past, 5 reasons, 6 details, 7 text, 8 steps; 9: saved?, changes, thrown, reasons, characters, place, wrong?, fault, steps -/
def aMd (m : aW) : aH := [aOj 8 [.ref 9, .ref 10, .ref 11, .ref 12, .int (m 9 0), .ref 13, .int (m 9 1), .int (m 9 2), .ref 14, .ref 15, .int (m 9 3), .ref 16, .int (m 9 4), .int (m 9 5), .int (m 9 6), .int (m 9 7), .ref 17, .int (m 9 8)],
  aAi 495 (m 0), aAi 495 (m 1), aAi 495 (m 2), aAi 495 (m 3), aAi 3960 (m 4), aAi 3 (m 5), aAi 3 (m 6), (true, .inl (.char, 60, .inl (m 7))), aAi 240 (m 8)]
def aHn (sn : Nat) (sf : Nat → Int32) (m : aW) : aH := aS0 sn sf ++ aMd m
/-- the arrays of a ware's numbers, in the row's order -/
def wfA (x : Nat) : Nat := match x with
  | 0 => 6
  | 1 => 7
  | 2 => 1
  | 3 => 2
  | 4 => 3
  | 5 => 4
  | _ => 5
/-- the row holds what the Works holds -/
def RlN (w : aW) (s : Nat → Int32) : Prop := s 0 = w 0 0 ∧ s 1 = w 0 1 ∧ s 2 = w 0 2 ∧ s 3 = w 16 0 ∧ s 4 = w 16 1 ∧ s 5 = w 16 2 ∧ s 6 = w 16 3 ∧ s 7 = w 16 4 ∧ s 8 = w 16 5
def RlS (w : aW) (s : Nat → Int32) (g j : Nat) : Prop := s (429 + 3 * j) = w 8 j ∧ s (429 + 3 * j + 1) = wDn w g (Int32.ofNat j) ∧ s (429 + 3 * j + 2) = wUp w g (Int32.ofNat j)
def RlO (w : aW) (s : Nat → Int32) (i : Nat) : Prop := (∀ x, x < 4 → s (453 + 7 * i + x) = w 13 (i * 4 + x)) ∧ s (453 + 7 * i + 4) = w 10 i ∧ s (453 + 7 * i + 5) = w 11 i ∧ s (453 + 7 * i + 6) = w 12 i
def Rl (w : aW) (s : Nat → Int32) (n g o : Nat) : Prop := RlN w s ∧ (∀ j, j < n → ∀ x, x < 7 → s (9 + 7 * j + x) = w (wfA x) j) ∧ (∀ j, j < g → RlS w s g j) ∧ ∀ i, i < o → RlO w s i
section YA
variable {sn : Nat} {sf : Nat → Int32} {m w : aW} {n g o i j f : Nat} {x y z v u s t : Int32}
abbrev rM (sn : Nat) (sf : Nat → Int32) (m : aW) (d mm : Nat) (as : List Value) (v : Int32) : Prop := aRun false d mm as (aHn sn sf m) = some (.inl (some (.int v)), aHn sn sf m, (0, 0))
theorem y_in {h : aH} (d : Nat) (hv : v = if y ≤ x ∧ x ≤ z then 1 else 0) : aRun false (d + 1) m_X8_in [.int x, .int y, .int z] h = some (.inl (some (.int v)), h, (0, 0)) := by
  refine aRun_of rfl (aVn_end (stop := fun p => false) 60 ?_)
  refine And.intro (fun c => ?_) (fun c => ?_)
  · have c1 : x < y := cT c
    exact And.intro rfl (aRi (by rw [hv, if_neg (fun q => absurd q.1 (Int32.not_le.mpr c1))]))
  have c1 : ¬ x < y := cF c
  refine And.intro (fun c => ?_) (fun c => ?_)
  · have c2 : z < x := cT c
    exact And.intro rfl (aRi (by rw [hv, if_neg (fun q => absurd q.2 (Int32.not_le.mpr c2))]))
  · have c2 : ¬ z < x := cF c
    exact And.intro rfl (aRi (by rw [hv, if_pos ⟨Int32.not_lt.mp c1, Int32.not_lt.mp c2⟩]))
theorem y_at {h : aH} (d : Nat) : aRun false (d + 1) m_X8_at [.int x] h = some (.inl (some (.int (9 + 7 * x))), h, (0, 0)) := aRun_of rfl (aVn_end (stop := fun p => false) 60 rfl)
theorem y_saggarAt {h : aH} (d : Nat) : aRun false (d + 1) m_X8_saggarAt [.int x] h = some (.inl (some (.int (429 + 3 * x))), h, (0, 0)) := aRun_of rfl (aVn_end (stop := fun p => false) 60 rfl)
theorem y_orderAt {h : aH} (d : Nat) : aRun false (d + 1) m_X8_orderAt [.int x] h = some (.inl (some (.int (453 + 7 * x))), h, (0, 0)) := aRun_of rfl (aVn_end (stop := fun p => false) 60 rfl)
theorem ixA {a b : Nat} (hx : x = Int32.ofNat i) (hi : i < 60) (hy : y = Int32.ofNat f) (hf : f < 8) (ha : a < 500) (hb : b < 8) (hl : a + b * i + f < 495) : aIx (Int32.ofNat a + Int32.ofNat b * x + y) 495 = some (a + b * i + f) :=
  aIx_of (by rw [hx, hy, Int32.ofNat_add, Int32.ofNat_add, Int32.ofNat_mul]) hl (by omega)
theorem ixW (hx : x = Int32.ofNat i) (hi : i < 60) (hy : y = Int32.ofNat f) (hf : f < 7) : aIx (9 + 7 * x + y) 495 = some (9 + 7 * i + f) := ixA (a := 9) (b := 7) hx hi hy (by omega) (by omega) (by omega) (by omega)
theorem ixS (hx : x = Int32.ofNat i) (hi : i < 8) (hy : y = Int32.ofNat f) (hf : f < 3) : aIx (429 + 3 * x + y) 495 = some (429 + 3 * i + f) := ixA (a := 429) (b := 3) hx (by omega) hy (by omega) (by omega) (by omega) (by omega)
theorem ixO (hx : x = Int32.ofNat i) (hi : i < 6) (hy : y = Int32.ofNat f) (hf : f < 7) : aIx (453 + 7 * x + y) 495 = some (453 + 7 * i + f) := ixA (a := 453) (b := 7) hx (by omega) hy (by omega) (by omega) (by omega) (by omega)
theorem ixN (hy : y = Int32.ofNat f) (hf : f < 495) : aIx y 495 = some f := aIx_of hy hf (by omega)
theorem y_get0 (d : Nat) (hx : x = Int32.ofNat i) (hi : i < 60) (hy : y = Int32.ofNat f) (hf : f < 7) : rM sn sf m (d + 2) m_X8_get [.ref 8, .int x, .int y] (m 0 (9 + 7 * i + f)) := by
  refine aRun_of rfl (aVn_end (stop := fun p => false) 60 ?_)
  refine Exists.intro _ (And.intro (y_at d) ?_)
  refine Exists.intro (9 + 7 * i + f) (And.intro (ixW hx hi hy hf) ?_)
  exact rfl
theorem y_getS0 (d : Nat) (hx : x = Int32.ofNat i) (hi : i < 8) (hy : y = Int32.ofNat f) (hf : f < 3) : rM sn sf m (d + 2) m_X8_getSaggar [.ref 8, .int x, .int y] (m 0 (429 + 3 * i + f)) := by
  refine aRun_of rfl (aVn_end (stop := fun p => false) 60 ?_)
  refine Exists.intro _ (And.intro (y_saggarAt d) ?_)
  refine Exists.intro (429 + 3 * i + f) (And.intro (ixS hx hi hy hf) ?_)
  exact rfl
theorem y_kind (d : Nat) (R : Rl w (m 0) n g o) (ok : wOkA w n g o) (hx : x = Int32.ofNat i) (hi : i < n) : rM sn sf m (d + 2) m_X8_get [.ref 8, .int x, .int 0] (w 6 i) := by
  have q := y_get0 (sn := sn) (sf := sf) (m := m) (y := 0) (f := 0) d hx (by have := ok.1.2.1; omega) rfl (by omega)
  rw [R.2.1 i hi 0 (by omega)] at q
  exact q
theorem y_bone (d : Nat) (R : Rl w (m 0) n g o) (ok : wOkA w n g o) (hx : x = Int32.ofNat i) (hi : i < n) : rM sn sf m (d + 2) m_X8_get [.ref 8, .int x, .int 1] (w 7 i) := by
  have q := y_get0 (sn := sn) (sf := sf) (m := m) (y := 1) (f := 1) d hx (by have := ok.1.2.1; omega) rfl (by omega)
  rw [R.2.1 i hi 1 (by omega)] at q
  exact q
theorem y_state (d : Nat) (R : Rl w (m 0) n g o) (ok : wOkA w n g o) (hx : x = Int32.ofNat i) (hi : i < n) : rM sn sf m (d + 2) m_X8_get [.ref 8, .int x, .int 2] (w 1 i) := by
  have q := y_get0 (sn := sn) (sf := sf) (m := m) (y := 2) (f := 2) d hx (by have := ok.1.2.1; omega) rfl (by omega)
  rw [R.2.1 i hi 2 (by omega)] at q
  exact q
theorem y_glaze (d : Nat) (R : Rl w (m 0) n g o) (ok : wOkA w n g o) (hx : x = Int32.ofNat i) (hi : i < n) : rM sn sf m (d + 2) m_X8_get [.ref 8, .int x, .int 3] (w 2 i) := by
  have q := y_get0 (sn := sn) (sf := sf) (m := m) (y := 3) (f := 3) d hx (by have := ok.1.2.1; omega) rfl (by omega)
  rw [R.2.1 i hi 3 (by omega)] at q
  exact q
theorem y_thick (d : Nat) (R : Rl w (m 0) n g o) (ok : wOkA w n g o) (hx : x = Int32.ofNat i) (hi : i < n) : rM sn sf m (d + 2) m_X8_get [.ref 8, .int x, .int 4] (w 3 i) := by
  have q := y_get0 (sn := sn) (sf := sf) (m := m) (y := 4) (f := 4) d hx (by have := ok.1.2.1; omega) rfl (by omega)
  rw [R.2.1 i hi 4 (by omega)] at q
  exact q
theorem y_where (d : Nat) (R : Rl w (m 0) n g o) (ok : wOkA w n g o) (hx : x = Int32.ofNat i) (hi : i < n) : rM sn sf m (d + 2) m_X8_get [.ref 8, .int x, .int 5] (w 4 i) := by
  have q := y_get0 (sn := sn) (sf := sf) (m := m) (y := 5) (f := 5) d hx (by have := ok.1.2.1; omega) rfl (by omega)
  rw [R.2.1 i hi 5 (by omega)] at q
  exact q
theorem y_class (d : Nat) (R : Rl w (m 0) n g o) (ok : wOkA w n g o) (hx : x = Int32.ofNat i) (hi : i < n) : rM sn sf m (d + 2) m_X8_get [.ref 8, .int x, .int 6] (w 5 i) := by
  have q := y_get0 (sn := sn) (sf := sf) (m := m) (y := 6) (f := 6) d hx (by have := ok.1.2.1; omega) rfl (by omega)
  rw [R.2.1 i hi 6 (by omega)] at q
  exact q
theorem y_bung (d : Nat) (R : Rl w (m 0) n g o) (ok : wOkA w n g o) (hx : x = Int32.ofNat i) (hi : i < g) : rM sn sf m (d + 2) m_X8_getSaggar [.ref 8, .int x, .int 0] (w 8 i) := by
  have q := y_getS0 (sn := sn) (sf := sf) (m := m) (y := 0) (f := 0) d hx (by have := ok.1.2.2.2.1; omega) rfl (by omega)
  have e : m 0 (429 + 3 * i + 0) = w 8 i := by exact (R.2.2.1 i hi).1
  rw [e] at q
  exact q
theorem y_below (d : Nat) (R : Rl w (m 0) n g o) (ok : wOkA w n g o) (hx : x = Int32.ofNat i) (hi : i < g) : rM sn sf m (d + 2) m_X8_getSaggar [.ref 8, .int x, .int 1] (wDn w g x) := by
  have q := y_getS0 (sn := sn) (sf := sf) (m := m) (y := 1) (f := 1) d hx (by have := ok.1.2.2.2.1; omega) rfl (by omega)
  have e : m 0 (429 + 3 * i + 1) = wDn w g x := by rw [hx]; exact (R.2.2.1 i hi).2.1
  rw [e] at q
  exact q
theorem y_above (d : Nat) (R : Rl w (m 0) n g o) (ok : wOkA w n g o) (hx : x = Int32.ofNat i) (hi : i < g) : rM sn sf m (d + 2) m_X8_getSaggar [.ref 8, .int x, .int 2] (wUp w g x) := by
  have q := y_getS0 (sn := sn) (sf := sf) (m := m) (y := 2) (f := 2) d hx (by have := ok.1.2.2.2.1; omega) rfl (by omega)
  have e : m 0 (429 + 3 * i + 2) = wUp w g x := by rw [hx]; exact (R.2.2.1 i hi).2.2
  rw [e] at q
  exact q
theorem fSz_eq {k : Nat} (h : aIx x 4 = some k) : fSz x = if x = 0 then 2 else if x = 1 then 1 else if x = 2 then 3 else 4 := by
  have h2 := h
  unfold aIx at h2
  split at h2
  · cases h2
  · rename_i c
    have e : x.toNatClampNeg = k := Option.some.inj h2
    have h0 : ¬ x < 0 := fun q => c (Or.inl q)
    have h4 : ¬ 4 ≤ x.toNatClampNeg := fun q => c (Or.inr q)
    have hx := zn_nn (Int32.not_lt.mp h0)
    rw [fSz_of h, hx]
    have e2 : zn x = k := e
    rw [e2]
    have hk : k < 4 := by omega
    match k, hk with
    | 0, _ => decide
    | 1, _ => decide
    | 2, _ => decide
    | 3, _ => decide
theorem fMt_eq {k : Nat} (h : aIx x 4 = some k) : fMt x = 1180 + 20 * x := by
  have h2 := h
  unfold aIx at h2
  split at h2
  · cases h2
  · rename_i c
    have e : x.toNatClampNeg = k := Option.some.inj h2
    have h0 : ¬ x < 0 := fun q => c (Or.inl q)
    have h4 : ¬ 4 ≤ x.toNatClampNeg := fun q => c (Or.inr q)
    have hx := zn_nn (Int32.not_lt.mp h0)
    rw [fMt_of h, hx]
    have e2 : zn x = k := e
    rw [e2]
    have hk : k < 4 := by omega
    match k, hk with
    | 0, _ => decide
    | 1, _ => decide
    | 2, _ => decide
    | 3, _ => decide
theorem y_sizeOf {h : aH} {k : Nat} (d : Nat) (hk : aIx x 4 = some k) : aRun false (d + 1) m_X8_sizeOf [.int x] h = some (.inl (some (.int (fSz x))), h, (0, 0)) := by
  have e := fSz_eq hk
  refine aRun_of rfl (aVn_end (stop := fun p => false) 60 ?_)
  refine And.intro (fun c => ?_) (fun c => ?_)
  rotate_left
  · have c1 : x = 0 := Decidable.not_not.mp (cF c)
    exact aRi (by rw [e, if_pos c1])
  have c1 : ¬ x = 0 := cT c
  refine And.intro (fun c => ?_) (fun c => ?_)
  rotate_left
  · have c2 : x = 1 := Decidable.not_not.mp (cF c)
    exact aRi (by rw [e, if_neg c1, if_pos c2])
  have c2 : ¬ x = 1 := cT c
  refine And.intro (fun c => ?_) (fun c => ?_)
  rotate_left
  · have c3 : x = 2 := Decidable.not_not.mp (cF c)
    exact aRi (by rw [e, if_neg c1, if_neg c2, if_pos c3])
  · have c3 : ¬ x = 2 := cT c
    exact aRi (by rw [e, if_neg c1, if_neg c2, if_neg c3])
theorem y_size (d : Nat) (R : Rl w (m 0) n g o) (ok : wOkA w n g o) (hx : x = Int32.ofNat i) (hi : i < n) : rM sn sf m (d + 3) m_X8_size [.ref 8, .int x] (fSz (w 6 i)) := by
  have hk := fSz_ex ok.kinds hi
  refine aRun_of rfl (aVn_end (stop := fun p => false) 60 ?_)
  refine Exists.intro _ (And.intro (y_kind d R ok hx hi) ?_)
  refine Exists.intro _ (And.intro (y_sizeOf (d + 1) hk) ?_)
  exact rfl
theorem y_meltsAt {h : aH} (d : Nat) : aRun false (d + 1) m_X8_meltsAt [.int x, .int y] h = some (.inl (some (.int (1180 + 20 * x - 4 * y))), h, (0, 0)) := aRun_of rfl (aVn_end (stop := fun p => false) 60 rfl)
theorem zlt1 {a : Nat} (hy : y = Int32.ofNat a) (ha : a ≤ 99) : (0 ≤ x ∧ x ≤ y - 1) ↔ (0 ≤ x ∧ x < y) := by
  have e1 : (y - 1).toInt = (a : Int) - 1 := by
    have e2 : (1 : Int32).toInt = 1 := rfl
    rw [Int32.toInt_sub, hy, Int32.toInt_ofNat_of_lt (by omega), e2, Int.bmod_eq_of_le (by omega) (by omega)]
  have e3 : y.toInt = a := by rw [hy, Int32.toInt_ofNat_of_lt (by omega)]
  rw [Int32.le_iff_toInt_le, Int32.le_iff_toInt_le, Int32.lt_iff_toInt_lt, e1, e3]
  omega
theorem y_isWare (d : Nat) (R : Rl w (m 0) n g o) (ok : wOkA w n g o) (hv : v = if 0 ≤ x ∧ x < w 16 3 then 1 else 0) : rM sn sf m (d + 2) m_X8_isWare [.ref 8, .int x] v := by
  have e : m 0 6 = w 16 3 := R.1.2.2.2.2.2.2.1
  have q := zlt1 (x := x) ok.1.1 (by have := ok.1.2.1; omega)
  have hw : v = if 0 ≤ x ∧ x ≤ m 0 6 - 1 then 1 else 0 := by
    rw [hv, e]
    by_cases c : 0 ≤ x ∧ x < w 16 3
    · rw [if_pos c, if_pos (q.mpr c)]
    · rw [if_neg c, if_neg (fun h => c (q.mp h))]
  refine aRun_of rfl (aVn_end (stop := fun p => false) 60 ?_)
  refine Exists.intro 6 (And.intro (ixN (f := 6) rfl (by omega)) ?_)
  refine Exists.intro _ (And.intro (y_in d hw) ?_)
  exact And.intro (by rw [hv]; split <;> rfl) rfl
theorem y_isSaggar (d : Nat) (R : Rl w (m 0) n g o) (ok : wOkA w n g o) (hv : v = if 0 ≤ x ∧ x < w 16 4 then 1 else 0) : rM sn sf m (d + 2) m_X8_isSaggar [.ref 8, .int x] v := by
  have e : m 0 7 = w 16 4 := R.1.2.2.2.2.2.2.2.1
  have q := zlt1 (x := x) ok.1.2.2.1 (by have := ok.1.2.2.2.1; omega)
  have hw : v = if 0 ≤ x ∧ x ≤ m 0 7 - 1 then 1 else 0 := by
    rw [hv, e]
    by_cases c : 0 ≤ x ∧ x < w 16 4
    · rw [if_pos c, if_pos (q.mpr c)]
    · rw [if_neg c, if_neg (fun h => c (q.mp h))]
  refine aRun_of rfl (aVn_end (stop := fun p => false) 60 ?_)
  refine Exists.intro 7 (And.intro (ixN (f := 7) rfl (by omega)) ?_)
  refine Exists.intro _ (And.intro (y_in d hw) ?_)
  exact And.intro (by rw [hv]; split <;> rfl) rfl
theorem y_isOrder (d : Nat) (R : Rl w (m 0) n g o) (ok : wOkA w n g o) (hv : v = if 0 ≤ x ∧ x < w 16 5 then 1 else 0) : rM sn sf m (d + 2) m_X8_isOrder [.ref 8, .int x] v := by
  have e : m 0 8 = w 16 5 := R.1.2.2.2.2.2.2.2.2
  have q := zlt1 (x := x) ok.1.2.2.2.2.1 (by have := ok.1.2.2.2.2.2; omega)
  have hw : v = if 0 ≤ x ∧ x ≤ m 0 8 - 1 then 1 else 0 := by
    rw [hv, e]
    by_cases c : 0 ≤ x ∧ x < w 16 5
    · rw [if_pos c, if_pos (q.mpr c)]
    · rw [if_neg c, if_neg (fun h => c (q.mp h))]
  refine aRun_of rfl (aVn_end (stop := fun p => false) 60 ?_)
  refine Exists.intro 8 (And.intro (ixN (f := 8) rfl (by omega)) ?_)
  refine Exists.intro _ (And.intro (y_in d hw) ?_)
  exact And.intro (by rw [hv]; split <;> rfl) rfl
theorem y_isOnFloor (d : Nat) (R : Rl w (m 0) n g o) (ok : wOkA w n g o) (hx : x = Int32.ofNat i) (hi : i < g) (hv : v = if w 8 i = -1 then 1 else 0) : rM sn sf m (d + 3) m_X8_isOnFloor [.ref 8, .int x] v := by
  have key : w 8 i < 0 ↔ w 8 i = -1 := by
    rcases ok.2.2.1.1 i hi with ⟨q, -⟩ | ⟨b, L, hb, -, ⟨q, -⟩, -⟩
    · rw [q]; decide
    · rw [q]
      match b, hb with
      | 0, _ => decide
      | 1, _ => decide
      | 2, _ => decide
      | 3, _ => decide
  refine aRun_of rfl (aVn_end (stop := fun p => false) 60 ?_)
  refine Exists.intro _ (And.intro (y_bung d R ok hx hi) ?_)
  refine And.intro (fun c => ?_) (fun c => ?_)
  · have c1 : 0 ≤ w 8 i := cT c
    exact And.intro rfl (aRi (by rw [hv, if_neg (fun q => absurd (key.mpr q) (Int32.not_lt.mpr c1))]))
  · have c1 : ¬ 0 ≤ w 8 i := cF c
    exact And.intro rfl (aRi (by rw [hv, if_pos (key.mp (Int32.not_le.mp c1))]))
theorem y_needOf (d : Nat) (R : Rl w (m 0) n g o) (ok : wOkA w n g o) (hx : x = Int32.ofNat i) (hi : i < n) : rM sn sf m (d + 3) m_X8_needOf [.ref 8, .int x] (1310 - 3 * (w 7 i / 2)) := by
  refine aRun_of rfl (aVn_end (stop := fun p => false) 60 ?_)
  refine Exists.intro _ (And.intro (y_bone d R ok hx hi) ?_)
  exact And.intro (by decide) rfl
end YA
