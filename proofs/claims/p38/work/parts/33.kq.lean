/-! THE CLASS'S ANSWERS -/
def kRes (h : aH) (e : Nat ⊕ Int32) : aR := match e with
  | .inl c => (.inr c, h, (1, 6))
  | .inr v => (.inl (some (.int v)), h, (0, 0))
theorem kR_l {h : aH} {c : Nat} {e : Nat ⊕ Int32} (q : e = .inl c) : ((.inr c, h, (1, 6)) : aR) = kRes h e := by rw [q]; rfl
theorem kR_r {h : aH} {v u : Int32} {e : Nat ⊕ Int32} (q : e = .inr v) (p : u = v) : ((.inl (some (.int u)), h, (0, 0)) : aR) = kRes h e := by rw [q, p]; rfl
section KQ
variable {sn : Nat} {sf : Nat → Int32} {pn pd : Nat} {rg : Nat → Option Nat} {k wn wd ws : aW} {n g o i j : Nat} {x y z v u s t : Int32}
theorem r_needRange {h : aH} (d : Nat) (c : y ≤ x ∧ x ≤ z) : aRun false (d + 2) m_X7_needRange [.int x, .int y, .int z] h = some (.inl none, h, (0, 0)) := by
  refine aRun_of rfl (aVn_end (stop := fun p => false) 60 ?_)
  refine Exists.intro _ (And.intro (r_isFrom d rfl) ?_)
  exact And.intro (fun _ => rfl) (fun q => absurd c (bNeF q))
theorem r_needRangeX {h : aH} (d : Nat) (c : ¬ (y ≤ x ∧ x ≤ z)) : aRun false (d + 2) m_X7_needRange [.int x, .int y, .int z] h = some (.inr 0, h, (1, 6)) := by
  refine aRun_of rfl (aVn_end (stop := fun p => false) 60 ?_)
  refine Exists.intro _ (And.intro (r_isFrom d rfl) ?_)
  exact And.intro (fun q => absurd (bNeT q) c) (fun q => rfl)
theorem r_needWare (d : Nat) (c : 0 ≤ x ∧ x < wn 16 3) : aRun false (d + 2) m_X7_needWare [.ref 8, .int x] (aHk sn sf 21 42 rg k wn wd ws) = some (.inl none, aHk sn sf 21 42 rg k wn wd ws, (0, 0)) := by
  refine aRun_of rfl (aVn_end (stop := fun p => false) 60 ?_)
  refine Exists.intro _ (And.intro (liftN (r_has5 d rfl)) ?_)
  exact And.intro (fun _ => rfl) (fun q => absurd c (bNeF q))
theorem r_needWareX (d : Nat) (c : ¬ (0 ≤ x ∧ x < wn 16 3)) : aRun false (d + 2) m_X7_needWare [.ref 8, .int x] (aHk sn sf 21 42 rg k wn wd ws) = some (.inr 2, aHk sn sf 21 42 rg k wn wd ws, (1, 6)) := by
  refine aRun_of rfl (aVn_end (stop := fun p => false) 60 ?_)
  refine Exists.intro _ (And.intro (liftN (r_has5 d rfl)) ?_)
  exact And.intro (fun q => absurd (bNeT q) c) (fun q => rfl)
theorem r_needSaggar (d : Nat) (c : 0 ≤ x ∧ x < wn 16 4) : aRun false (d + 2) m_X7_needSaggar [.ref 8, .int x] (aHk sn sf 21 42 rg k wn wd ws) = some (.inl none, aHk sn sf 21 42 rg k wn wd ws, (0, 0)) := by
  refine aRun_of rfl (aVn_end (stop := fun p => false) 60 ?_)
  refine Exists.intro _ (And.intro (liftN (r_has3 d rfl)) ?_)
  exact And.intro (fun _ => rfl) (fun q => absurd c (bNeF q))
theorem r_needSaggarX (d : Nat) (c : ¬ (0 ≤ x ∧ x < wn 16 4)) : aRun false (d + 2) m_X7_needSaggar [.ref 8, .int x] (aHk sn sf 21 42 rg k wn wd ws) = some (.inr 2, aHk sn sf 21 42 rg k wn wd ws, (1, 6)) := by
  refine aRun_of rfl (aVn_end (stop := fun p => false) 60 ?_)
  refine Exists.intro _ (And.intro (liftN (r_has3 d rfl)) ?_)
  exact And.intro (fun q => absurd (bNeT q) c) (fun q => rfl)
theorem r_needOrder (d : Nat) (c : 0 ≤ x ∧ x < wn 16 5) : aRun false (d + 2) m_X7_needOrder [.ref 8, .int x] (aHk sn sf 21 42 rg k wn wd ws) = some (.inl none, aHk sn sf 21 42 rg k wn wd ws, (0, 0)) := by
  refine aRun_of rfl (aVn_end (stop := fun p => false) 60 ?_)
  refine Exists.intro _ (And.intro (liftN (r_has1 d rfl)) ?_)
  exact And.intro (fun _ => rfl) (fun q => absurd c (bNeF q))
theorem r_needOrderX (d : Nat) (c : ¬ (0 ≤ x ∧ x < wn 16 5)) : aRun false (d + 2) m_X7_needOrder [.ref 8, .int x] (aHk sn sf 21 42 rg k wn wd ws) = some (.inr 2, aHk sn sf 21 42 rg k wn wd ws, (1, 6)) := by
  refine aRun_of rfl (aVn_end (stop := fun p => false) 60 ?_)
  refine Exists.intro _ (And.intro (liftN (r_has1 d rfl)) ?_)
  exact And.intro (fun q => absurd (bNeT q) c) (fun q => rfl)
def q_ware (w : aW) (x y : Int32) : Nat ⊕ Int32 := if 0 ≤ x ∧ x < w 16 3 then if 0 ≤ y ∧ y ≤ 7 then .inr (wNum w (zn x) y) else .inl 0 else .inl 2
def q_saggarOf (w : aW) (n g : Nat) (x y : Int32) : Nat ⊕ Int32 := if 0 ≤ x ∧ x < w 16 4 then if 0 ≤ y ∧ y ≤ 6 then .inr (wSag w n g x y) else .inl 0 else .inl 2
def q_load (w : aW) (n g : Nat) (x : Int32) : Nat ⊕ Int32 := if 0 ≤ x ∧ x < w 16 4 then .inr (wLoad w n g x) else .inl 2
def q_loadAgain (w : aW) (n g : Nat) (x : Int32) : Nat ⊕ Int32 := if 0 ≤ x ∧ x < w 16 4 then .inr (wRest w n g x) else .inl 2
def wOf (w : aW) (i : Nat) (y : Int32) : Int32 := if y = 4 then w 10 i else if y = 5 then w 11 i else if y = 6 then w 12 i else w 13 (i * 4 + zn y)
def q_orderOf (w : aW) (x y : Int32) : Nat ⊕ Int32 := if 0 ≤ x ∧ x < w 16 5 then if 0 ≤ y ∧ y ≤ 6 then .inr (wOf w (zn x) y) else .inl 0 else .inl 2
def q_sign (w : aW) (x : Int32) : Nat ⊕ Int32 := if 0 ≤ x ∧ x < w 16 3 then .inr (aSg5 (zn (w 1 (zn x)))) else .inl 2
def q_store (w : aW) (n : Nat) (x y z : Int32) : Nat ⊕ Int32 := if 0 ≤ x ∧ x ≤ 3 then if -1 ≤ y ∧ y ≤ 3 then .inr (wInSt w n x y (if z = 0 then 1 else 2)) else .inl 0 else .inl 0
def q_heatAt (w : aW) (x y : Int32) : Nat ⊕ Int32 := if 0 ≤ x ∧ x < w 16 4 then if 1000 ≤ y ∧ y ≤ 1400 then if ¬ w 8 (zn x) = -1 then .inr (y - 10 * w 9 (zn x) - 5 * w 8 (zn x)) else .inl 3 else .inl 0 else .inl 2
def q_wouldBe (w : aW) (x y : Int32) : Nat ⊕ Int32 := if 0 ≤ x ∧ x < w 16 3 then if 0 ≤ y ∧ y ≤ 2000 then .inr (wGrade w (zn x) y) else .inl 0 else .inl 2
def wBst (w : aW) (n : Nat) : Nat → Int32 × Int32
  | 0 => (0, 1000)
  | m + 1 => if (wBst w n m).1 < wFirsts w n (Int32.ofNat (1000 + 10 * m)) then (wFirsts w n (Int32.ofNat (1000 + 10 * m)), Int32.ofNat (1000 + 10 * m)) else wBst w n m
def q_bestHeat (w : aW) (n : Nat) (x : Int32) : Nat ⊕ Int32 := if ¬ wAny w n = 0 then .inr (if x = 0 then (wBst w n 41).2 else (wBst w n 41).1) else .inl 3
def q_setsAgain (w : aW) (n : Nat) (x : Int32) : Nat ⊕ Int32 := if 0 ≤ x ∧ x < w 16 5 then .inr (wDv w n (zn x) 4) else .inl 2
def q_refusal (k : aW) (x y : Int32) : Nat ⊕ Int32 := if 0 ≤ x ∧ x ≤ 2 then if x < k 7 2 then .inr (if y = 0 then k 0 (zn x) else k 1 (zn x)) else .inl 3 else .inl 0
def q_account (w k : aW) (n g o : Nat) (x : Int32) : Nat ⊕ Int32 := if 0 ≤ x ∧ x ≤ 18 then .inr (if x = 17 then k 7 5 else if x = 18 then k 7 3 else wAcc w n g o x) else .inl 0
theorem k_ware (d : Nat) (ok : wOk wn n g o) : aRun false (d + 6) m_X7_ware [.ref 8, .int x, .int y] (aHk sn sf 21 42 aRg k wn wd ws) = some (kRes (aHk sn sf 21 42 aRg k wn wd ws) (q_ware wn x y)) := by
  by_cases c0 : 0 ≤ x ∧ x < wn 16 3
  rotate_left
  · have e : q_ware wn x y = .inl 2 := by rw [q_ware, if_neg c0]
    refine aRun_of rfl (aVn_end (stop := fun p => false) 60 ?_)
    refine Exists.intro _ (And.intro (r_needWareX (d + 3) c0) ?_)
    exact kR_l e
  by_cases c1 : 0 ≤ y ∧ y ≤ 7
  rotate_left
  · have e : q_ware wn x y = .inl 0 := by rw [q_ware, if_pos c0, if_neg c1]
    refine aRun_of rfl (aVn_end (stop := fun p => false) 60 ?_)
    refine Exists.intro _ (And.intro (r_needWare (d + 3) c0) ?_)
    refine Exists.intro _ (And.intro (r_needRangeX (d + 3) c1) ?_)
    exact kR_l e
  have hxx := aIx_lt c0 ok.1.1 ok.1.2.1 (by omega)
  have e : q_ware wn x y = .inr (wNum wn (zn x) y) := by rw [q_ware, if_pos c0, if_pos c1]
  have hl0f : rW sn sf wn (d + 5) m_X5_numberOf [.ref 10, .int x, .int y] (wNum wn (zn x) y) := r_numberOf5 (d + 3) hxx.1 rfl
  have hl0 : aRun false (d + 5) m_X5_numberOf [.ref 23, .int x, .int y] (aHk sn sf 21 42 aRg k wn wd ws) = some (.inl (some (.int (wNum wn (zn x) y))), (aHk sn sf 21 42 aRg k wn wd ws), (0, 0)) := liftN hl0f
  refine aRun_of rfl (aVn_end (stop := fun p => false) 60 ?_)
  refine Exists.intro _ (And.intro (r_needWare (d + 3) c0) ?_)
  refine Exists.intro _ (And.intro (r_needRange (d + 3) c1) ?_)
  refine Exists.intro _ (And.intro hl0 ?_)
  exact kR_r e rfl
theorem k_saggarOf (d : Nat) (ok : wOk wn n g o) : aRun false (d + 6) m_X7_saggarOf [.ref 8, .int x, .int y] (aHk sn sf 21 42 aRg k wn wd ws) = some (kRes (aHk sn sf 21 42 aRg k wn wd ws) (q_saggarOf wn n g x y)) := by
  by_cases c0 : 0 ≤ x ∧ x < wn 16 4
  rotate_left
  · have e : q_saggarOf wn n g x y = .inl 2 := by rw [q_saggarOf, if_neg c0]
    refine aRun_of rfl (aVn_end (stop := fun p => false) 60 ?_)
    refine Exists.intro _ (And.intro (r_needSaggarX (d + 3) c0) ?_)
    exact kR_l e
  by_cases c1 : 0 ≤ y ∧ y ≤ 6
  rotate_left
  · have e : q_saggarOf wn n g x y = .inl 0 := by rw [q_saggarOf, if_pos c0, if_neg c1]
    refine aRun_of rfl (aVn_end (stop := fun p => false) 60 ?_)
    refine Exists.intro _ (And.intro (r_needSaggar (d + 3) c0) ?_)
    refine Exists.intro _ (And.intro (r_needRangeX (d + 3) c1) ?_)
    exact kR_l e
  have hxx := aIx_lt c0 ok.1.2.2.1 ok.1.2.2.2.1 (by omega)
  have e : q_saggarOf wn n g x y = .inr (wSag wn n g x y) := by rw [q_saggarOf, if_pos c0, if_pos c1]
  have hl1f : rW sn sf wn (d + 5) m_X6_numberOfSaggar [.ref 8, .int x, .int y] (wSag wn n g x y) := r_numberOfSaggar (d + 2) ok.1.1 ok.1.2.1 ok.1.2.2.1 ok.1.2.2.2.1 ok.kinds hxx.2.2 hxx.2.1 c1.1 c1.2 rfl
  have hl1 : aRun false (d + 5) m_X6_numberOfSaggar [.ref 21, .int x, .int y] (aHk sn sf 21 42 aRg k wn wd ws) = some (.inl (some (.int (wSag wn n g x y))), (aHk sn sf 21 42 aRg k wn wd ws), (0, 0)) := liftN hl1f
  refine aRun_of rfl (aVn_end (stop := fun p => false) 60 ?_)
  refine Exists.intro _ (And.intro (r_needSaggar (d + 3) c0) ?_)
  refine Exists.intro _ (And.intro (r_needRange (d + 3) c1) ?_)
  refine Exists.intro _ (And.intro hl1 ?_)
  exact kR_r e rfl
theorem k_load (d : Nat) (ok : wOk wn n g o) : aRun false (d + 6) m_X7_load [.ref 8, .int x] (aHk sn sf 21 42 aRg k wn wd ws) = some (kRes (aHk sn sf 21 42 aRg k wn wd ws) (q_load wn n g x)) := by
  by_cases c0 : 0 ≤ x ∧ x < wn 16 4
  rotate_left
  · have e : q_load wn n g x = .inl 2 := by rw [q_load, if_neg c0]
    refine aRun_of rfl (aVn_end (stop := fun p => false) 60 ?_)
    refine Exists.intro _ (And.intro (r_needSaggarX (d + 3) c0) ?_)
    exact kR_l e
  have hxx := aIx_lt c0 ok.1.2.2.1 ok.1.2.2.2.1 (by omega)
  have e : q_load wn n g x = .inr (wLoad wn n g x) := by rw [q_load, if_pos c0]
  have hl2f : rW sn sf wn (d + 5) m_X6_weightAbove [.ref 8, .int x] (wLoad wn n g x) := r_weightAbove (d + 2) ok.1.1 ok.1.2.1 ok.1.2.2.1 ok.1.2.2.2.1 ok.kinds hxx.2.2 hxx.2.1
  have hl2 : aRun false (d + 5) m_X6_weightAbove [.ref 21, .int x] (aHk sn sf 21 42 aRg k wn wd ws) = some (.inl (some (.int (wLoad wn n g x))), (aHk sn sf 21 42 aRg k wn wd ws), (0, 0)) := liftN hl2f
  refine aRun_of rfl (aVn_end (stop := fun p => false) 60 ?_)
  refine Exists.intro _ (And.intro (r_needSaggar (d + 3) c0) ?_)
  refine Exists.intro _ (And.intro hl2 ?_)
  exact kR_r e rfl
theorem k_loadAgain (d : Nat) (ok : wOk wn n g o) : aRun false (d + 6) m_X7_loadAgain [.ref 8, .int x] (aHk sn sf 21 42 aRg k wn wd ws) = some (kRes (aHk sn sf 21 42 aRg k wn wd ws) (q_loadAgain wn n g x)) := by
  by_cases c0 : 0 ≤ x ∧ x < wn 16 4
  rotate_left
  · have e : q_loadAgain wn n g x = .inl 2 := by rw [q_loadAgain, if_neg c0]
    refine aRun_of rfl (aVn_end (stop := fun p => false) 60 ?_)
    refine Exists.intro _ (And.intro (r_needSaggarX (d + 3) c0) ?_)
    exact kR_l e
  have hxx := aIx_lt c0 ok.1.2.2.1 ok.1.2.2.2.1 (by omega)
  have e : q_loadAgain wn n g x = .inr (wRest wn n g x) := by rw [q_loadAgain, if_pos c0]
  have hl3f : rW sn sf wn (d + 5) m_X6_weightOfRestOfBung [.ref 8, .int x] (wRest wn n g x) := r_weightOfRest (d + 2) ok.1.1 ok.1.2.1 ok.1.2.2.1 ok.1.2.2.2.1 ok.kinds hxx.2.2 hxx.2.1
  have hl3 : aRun false (d + 5) m_X6_weightOfRestOfBung [.ref 21, .int x] (aHk sn sf 21 42 aRg k wn wd ws) = some (.inl (some (.int (wRest wn n g x))), (aHk sn sf 21 42 aRg k wn wd ws), (0, 0)) := liftN hl3f
  refine aRun_of rfl (aVn_end (stop := fun p => false) 60 ?_)
  refine Exists.intro _ (And.intro (r_needSaggar (d + 3) c0) ?_)
  refine Exists.intro _ (And.intro hl3 ?_)
  exact kR_r e rfl
theorem k_orderOf (d : Nat) (ok : wOk wn n g o) : aRun false (d + 6) m_X7_orderOf [.ref 8, .int x, .int y] (aHk sn sf 21 42 aRg k wn wd ws) = some (kRes (aHk sn sf 21 42 aRg k wn wd ws) (q_orderOf wn x y)) := by
  by_cases c0 : 0 ≤ x ∧ x < wn 16 5
  rotate_left
  · have e : q_orderOf wn x y = .inl 2 := by rw [q_orderOf, if_neg c0]
    refine aRun_of rfl (aVn_end (stop := fun p => false) 60 ?_)
    refine Exists.intro _ (And.intro (r_needOrderX (d + 3) c0) ?_)
    exact kR_l e
  by_cases c1 : 0 ≤ y ∧ y ≤ 6
  rotate_left
  · have e : q_orderOf wn x y = .inl 0 := by rw [q_orderOf, if_pos c0, if_neg c1]
    refine aRun_of rfl (aVn_end (stop := fun p => false) 60 ?_)
    refine Exists.intro _ (And.intro (r_needOrder (d + 3) c0) ?_)
    refine Exists.intro _ (And.intro (r_needRangeX (d + 3) c1) ?_)
    exact kR_l e
  have hxx := aIx_lt c0 ok.1.2.2.2.2.1 ok.1.2.2.2.2.2 (by omega)
  have e : q_orderOf wn x y = .inr (wOf wn (zn x) y) := by rw [q_orderOf, if_pos c0, if_pos c1]
  have h4 : 0 ≤ y → y < 4 → aIx (x * 4 + y) 24 = some (zn x * 4 + zn y) := fun h0 h1 => aIx_as hxx.2.2 (aIx_lt (c := 4) (m := 4) (k := 4) ⟨h0, h1⟩ rfl (by omega) (by omega)).2.2 (by have := hxx.2.1; have := ok.1.2.2.2.2.2; omega) (aIx_lt (c := 4) (m := 4) (k := 4) ⟨h0, h1⟩ rfl (by omega) (by omega)).2.1
  have hl4f : rW sn sf wn (d + 5) m_X1_numberOf [.ref 21, .int x, .int y] (wOf wn (zn x) y) := r_numberOf1 (d + 3) hxx.1 h4 c1.1 c1.2 rfl
  have hl4 : aRun false (d + 5) m_X1_numberOf [.ref 34, .int x, .int y] (aHk sn sf 21 42 aRg k wn wd ws) = some (.inl (some (.int (wOf wn (zn x) y))), (aHk sn sf 21 42 aRg k wn wd ws), (0, 0)) := liftN hl4f
  refine aRun_of rfl (aVn_end (stop := fun p => false) 60 ?_)
  refine Exists.intro _ (And.intro (r_needOrder (d + 3) c0) ?_)
  refine Exists.intro _ (And.intro (r_needRange (d + 3) c1) ?_)
  refine Exists.intro _ (And.intro hl4 ?_)
  exact kR_r e rfl
theorem k_sign (d : Nat) (ok : wOk wn n g o) : aRun false (d + 6) m_X7_sign [.ref 8, .int x] (aHk sn sf 21 42 aRg k wn wd ws) = some (kRes (aHk sn sf 21 42 aRg k wn wd ws) (q_sign wn x)) := by
  by_cases c0 : 0 ≤ x ∧ x < wn 16 3
  rotate_left
  · have e : q_sign wn x = .inl 2 := by rw [q_sign, if_neg c0]
    refine aRun_of rfl (aVn_end (stop := fun p => false) 60 ?_)
    refine Exists.intro _ (And.intro (r_needWareX (d + 3) c0) ?_)
    exact kR_l e
  have hxx := aIx_lt c0 ok.1.1 ok.1.2.1 (by omega)
  have e : q_sign wn x = .inr (aSg5 (zn (wn 1 (zn x)))) := by rw [q_sign, if_pos c0]
  have h6 : aIx (wn 1 (zn x)) 6 = some (zn (wn 1 (zn x))) ∧ aFit .char (.int (aSg5 (zn (wn 1 (zn x))))) = true := by
    rcases (ok.2.1 _ hxx.2.1).2.2 with q | q | q | q | q | q <;> (rw [q.1]; decide)
  refine aRun_of rfl (aVn_end (stop := fun p => false) 60 ?_)
  refine Exists.intro _ (And.intro (r_needWare (d + 3) c0) ?_)
  refine Exists.intro (zn x) (And.intro hxx.1 ?_)
  refine Exists.intro (zn (wn 1 (zn x))) (And.intro h6.1 ?_)
  refine And.intro h6.2 ?_
  exact kR_r e rfl
theorem k_store (d : Nat) (ok : wOk wn n g o) : aRun false (d + 6) m_X7_store [.ref 8, .int x, .int y, .int z] (aHk sn sf 21 42 aRg k wn wd ws) = some (kRes (aHk sn sf 21 42 aRg k wn wd ws) (q_store wn n x y z)) := by
  by_cases c0 : 0 ≤ x ∧ x ≤ 3
  rotate_left
  · have e : q_store wn n x y z = .inl 0 := by rw [q_store, if_neg c0]
    refine aRun_of rfl (aVn_end (stop := fun p => false) 60 ?_)
    refine Exists.intro _ (And.intro (r_needRangeX (d + 3) c0) ?_)
    exact kR_l e
  by_cases c1 : -1 ≤ y ∧ y ≤ 3
  rotate_left
  · have e : q_store wn n x y z = .inl 0 := by rw [q_store, if_pos c0, if_neg c1]
    refine aRun_of rfl (aVn_end (stop := fun p => false) 60 ?_)
    refine Exists.intro _ (And.intro (r_needRange (d + 3) c0) ?_)
    refine Exists.intro _ (And.intro (r_needRangeX (d + 3) c1) ?_)
    exact kR_l e
  have e : q_store wn n x y z = .inr (wInSt wn n x y (if z = 0 then 1 else 2)) := by rw [q_store, if_pos c0, if_pos c1]
  have hl1f : ∀ u, rW sn sf wn (d + 5) m_X5_countInStore [.ref 10, .int x, .int y, .int u] (wInSt wn n x y u) := fun u => r_countInStore (d + 3) ok.1.1 ok.1.2.1
  have hl1 : ∀ u, aRun false (d + 5) m_X5_countInStore [.ref 23, .int x, .int y, .int u] (aHk sn sf 21 42 aRg k wn wd ws) = some (.inl (some (.int (wInSt wn n x y u))), aHk sn sf 21 42 aRg k wn wd ws, (0, 0)) := fun u => liftN (hl1f u)
  refine aRun_of rfl (aVn_end (stop := fun p => false) 60 ?_)
  refine Exists.intro _ (And.intro (r_needRange (d + 3) c0) ?_)
  refine Exists.intro _ (And.intro (r_needRange (d + 3) c1) ?_)
  refine And.intro (fun c => ?_) (fun c => ?_)
  · have h0 : z = 0 := cT c
    refine Exists.intro _ (And.intro (hl1 1) ?_)
    exact kR_r e (by rw [if_pos h0])
  · have h0 : ¬ z = 0 := cF c
    refine Exists.intro _ (And.intro (hl1 2) ?_)
    exact kR_r e (by rw [if_neg h0])
theorem k_heatAt (d : Nat) (ok : wOk wn n g o) : aRun false (d + 6) m_X7_heatAt [.ref 8, .int x, .int y] (aHk sn sf 21 42 aRg k wn wd ws) = some (kRes (aHk sn sf 21 42 aRg k wn wd ws) (q_heatAt wn x y)) := by
  by_cases c0 : 0 ≤ x ∧ x < wn 16 4
  rotate_left
  · have e : q_heatAt wn x y = .inl 2 := by rw [q_heatAt, if_neg c0]
    refine aRun_of rfl (aVn_end (stop := fun p => false) 60 ?_)
    refine Exists.intro _ (And.intro (r_needSaggarX (d + 3) c0) ?_)
    exact kR_l e
  by_cases c1 : 1000 ≤ y ∧ y ≤ 1400
  rotate_left
  · have e : q_heatAt wn x y = .inl 0 := by rw [q_heatAt, if_pos c0, if_neg c1]
    refine aRun_of rfl (aVn_end (stop := fun p => false) 60 ?_)
    refine Exists.intro _ (And.intro (r_needSaggar (d + 3) c0) ?_)
    refine Exists.intro _ (And.intro (r_needRangeX (d + 3) c1) ?_)
    exact kR_l e
  have hxx := aIx_lt c0 ok.1.2.2.1 ok.1.2.2.2.1 (by omega)
  have hl5f : rW sn sf wn (d + 5) m_X3_isInKiln [.ref 18, .int x] (if 0 ≤ x ∧ x < wn 16 4 ∧ ¬ wn 8 (zn x) = -1 then 1 else 0) := r_isInKiln (d + 4) (fun _ _ => hxx.1) rfl
  have hl5 : aRun false (d + 5) m_X3_isInKiln [.ref 31, .int x] (aHk sn sf 21 42 aRg k wn wd ws) = some (.inl (some (.int (if 0 ≤ x ∧ x < wn 16 4 ∧ ¬ wn 8 (zn x) = -1 then 1 else 0))), (aHk sn sf 21 42 aRg k wn wd ws), (0, 0)) := liftN hl5f
  have hl6f : rW sn sf wn (d + 5) m_X3_heatThere [.ref 18, .int x, .int y] (y - 10 * wn 9 (zn x) - 5 * wn 8 (zn x)) := r_heatThere (d + 4) hxx.1
  have hl6 : aRun false (d + 5) m_X3_heatThere [.ref 31, .int x, .int y] (aHk sn sf 21 42 aRg k wn wd ws) = some (.inl (some (.int (y - 10 * wn 9 (zn x) - 5 * wn 8 (zn x)))), (aHk sn sf 21 42 aRg k wn wd ws), (0, 0)) := liftN hl6f
  refine aRun_of rfl (aVn_end (stop := fun p => false) 60 ?_)
  refine Exists.intro _ (And.intro (r_needSaggar (d + 3) c0) ?_)
  refine Exists.intro _ (And.intro (r_needRange (d + 3) c1) ?_)
  refine Exists.intro _ (And.intro hl5 ?_)
  refine And.intro (fun c => ?_) (fun c => ?_)
  · have h0 := (bNeT c).2.2
    have e : q_heatAt wn x y = .inr (y - 10 * wn 9 (zn x) - 5 * wn 8 (zn x)) := by rw [q_heatAt, if_pos c0, if_pos c1, if_pos h0]
    refine Exists.intro _ (And.intro hl6 ?_)
    exact kR_r e rfl
  · have h1 := bNeF c
    have h0 : ¬ ¬ wn 8 (zn x) = -1 := fun q => h1 ⟨c0.1, c0.2, q⟩
    have e : q_heatAt wn x y = .inl 3 := by rw [q_heatAt, if_pos c0, if_pos c1, if_neg h0]
    exact kR_l e
theorem k_wouldBe (d : Nat) (ok : wOk wn n g o) : aRun false (d + 6) m_X7_wouldBe [.ref 8, .int x, .int y] (aHk sn sf 21 42 aRg k wn wd ws) = some (kRes (aHk sn sf 21 42 aRg k wn wd ws) (q_wouldBe wn x y)) := by
  by_cases c0 : 0 ≤ x ∧ x < wn 16 3
  rotate_left
  · have e : q_wouldBe wn x y = .inl 2 := by rw [q_wouldBe, if_neg c0]
    refine aRun_of rfl (aVn_end (stop := fun p => false) 60 ?_)
    refine Exists.intro _ (And.intro (r_needWareX (d + 3) c0) ?_)
    exact kR_l e
  by_cases c1 : 0 ≤ y ∧ y ≤ 2000
  rotate_left
  · have e : q_wouldBe wn x y = .inl 0 := by rw [q_wouldBe, if_pos c0, if_neg c1]
    refine aRun_of rfl (aVn_end (stop := fun p => false) 60 ?_)
    refine Exists.intro _ (And.intro (r_needWare (d + 3) c0) ?_)
    refine Exists.intro _ (And.intro (r_needRangeX (d + 3) c1) ?_)
    exact kR_l e
  have hxx := aIx_lt c0 ok.1.1 ok.1.2.1 (by omega)
  have e : q_wouldBe wn x y = .inr (wGrade wn (zn x) y) := by rw [q_wouldBe, if_pos c0, if_pos c1]
  have hl7f : rW sn sf wn (d + 5) m_X6_gradeAt [.ref 8, .int x, .int y] (wGrade wn (zn x) y) := r_gradeAt (d + 2) hxx.1 (ok.glazes _ hxx.2.1) rfl
  have hl7 : aRun false (d + 5) m_X6_gradeAt [.ref 21, .int x, .int y] (aHk sn sf 21 42 aRg k wn wd ws) = some (.inl (some (.int (wGrade wn (zn x) y))), (aHk sn sf 21 42 aRg k wn wd ws), (0, 0)) := liftN hl7f
  refine aRun_of rfl (aVn_end (stop := fun p => false) 60 ?_)
  refine Exists.intro _ (And.intro (r_needWare (d + 3) c0) ?_)
  refine Exists.intro _ (And.intro (r_needRange (d + 3) c1) ?_)
  refine Exists.intro _ (And.intro hl7 ?_)
  exact kR_r e rfl
theorem k_setsAgain (d : Nat) (ok : wOk wn n g o) : aRun false (d + 6) m_X7_setsAgain [.ref 8, .int x] (aHk sn sf 21 42 aRg k wn wd ws) = some (kRes (aHk sn sf 21 42 aRg k wn wd ws) (q_setsAgain wn n x)) := by
  by_cases c0 : 0 ≤ x ∧ x < wn 16 5
  rotate_left
  · have e : q_setsAgain wn n x = .inl 2 := by rw [q_setsAgain, if_neg c0]
    refine aRun_of rfl (aVn_end (stop := fun p => false) 60 ?_)
    refine Exists.intro _ (And.intro (r_needOrderX (d + 3) c0) ?_)
    exact kR_l e
  have hxx := aIx_lt c0 ok.1.2.2.2.2.1 ok.1.2.2.2.2.2 (by omega)
  have e : q_setsAgain wn n x = .inr (wDv wn n (zn x) 4) := by rw [q_setsAgain, if_pos c0]
  have hl8f : rW sn sf wn (d + 5) m_X6_setsByDivision [.ref 8, .int x] (wDv wn n (zn x) 4) := r_setsByDivision (d + 1) ok.1.1 ok.1.2.1 hxx.2.2 (by have := hxx.2.1; have := ok.1.2.2.2.2.2; omega)
  have hl8 : aRun false (d + 5) m_X6_setsByDivision [.ref 21, .int x] (aHk sn sf 21 42 aRg k wn wd ws) = some (.inl (some (.int (wDv wn n (zn x) 4))), (aHk sn sf 21 42 aRg k wn wd ws), (0, 0)) := liftN hl8f
  refine aRun_of rfl (aVn_end (stop := fun p => false) 60 ?_)
  refine Exists.intro _ (And.intro (r_needOrder (d + 3) c0) ?_)
  refine Exists.intro _ (And.intro hl8 ?_)
  exact kR_r e rfl
theorem k_refusal (d : Nat)  : aRun false (d + 6) m_X7_refusal [.ref 8, .int x, .int y] (aHk sn sf 21 42 aRg k wn wd ws) = some (kRes (aHk sn sf 21 42 aRg k wn wd ws) (q_refusal k x y)) := by
  by_cases c0 : 0 ≤ x ∧ x ≤ 2
  rotate_left
  · have e : q_refusal k x y = .inl 0 := by rw [q_refusal, if_neg c0]
    refine aRun_of rfl (aVn_end (stop := fun p => false) 60 ?_)
    refine Exists.intro _ (And.intro (r_needRangeX (d + 3) c0) ?_)
    exact kR_l e
  have hx : aIx x 3 = some (zn x) := aIx_le (m := 2) c0.1 c0.2 (by omega)
  refine aRun_of rfl (aVn_end (stop := fun p => false) 60 ?_)
  refine Exists.intro _ (And.intro (r_needRange (d + 3) c0) ?_)
  refine And.intro (fun c => ?_) (fun c => ?_)
  · have h0 : x < k 7 2 := cT c
    refine And.intro (fun c => ?_) (fun c => ?_)
    · have h1 : y = 0 := cT c
      have e : q_refusal k x y = .inr (k 0 (zn x)) := by rw [q_refusal, if_pos c0, if_pos h0, if_pos h1]
      refine Exists.intro (zn x) (And.intro hx ?_)
      exact kR_r e rfl
    · have h1 : ¬ y = 0 := cF c
      have e : q_refusal k x y = .inr (k 1 (zn x)) := by rw [q_refusal, if_pos c0, if_pos h0, if_neg h1]
      refine Exists.intro (zn x) (And.intro hx ?_)
      exact kR_r e rfl
  · have h0 : ¬ x < k 7 2 := cF c
    have e : q_refusal k x y = .inl 3 := by rw [q_refusal, if_pos c0, if_neg h0]
    exact kR_l e
set_option maxRecDepth 20000 in
theorem k_account (d : Nat) (ok : wOk wn n g o) : aRun false (d + 6) m_X7_account [.ref 8, .int x] (aHk sn sf 21 42 aRg k wn wd ws) = some (kRes (aHk sn sf 21 42 aRg k wn wd ws) (q_account wn k n g o x)) := by
  by_cases c0 : 0 ≤ x ∧ x ≤ 18
  rotate_left
  · have e : q_account wn k n g o x = .inl 0 := by rw [q_account, if_neg c0]
    refine aRun_of rfl (aVn_end (stop := fun p => false) 60 ?_)
    refine Exists.intro _ (And.intro (r_needRangeX (d + 3) c0) ?_)
    exact kR_l e
  have e17 : x = 17 ↔ x.toInt = 17 := Int32.toInt_inj.symm
  have e18 : x = 18 ↔ x.toInt = 18 := Int32.toInt_inj.symm
  have hl9f : rW sn sf wn (d + 5) m_X6_accountOf [.ref 8, .int x] (wAcc wn n g o x) := r_accountOf (d + 2) ok.1.1 ok.1.2.1 ok.1.2.2.1 ok.1.2.2.2.1 ok.1.2.2.2.2.1 ok.1.2.2.2.2.2
  have hl9 : aRun false (d + 5) m_X6_accountOf [.ref 21, .int x] (aHk sn sf 21 42 aRg k wn wd ws) = some (.inl (some (.int (wAcc wn n g o x))), (aHk sn sf 21 42 aRg k wn wd ws), (0, 0)) := liftN hl9f
  refine aRun_of rfl (aVn_end (stop := fun p => false) 60 ?_)
  refine Exists.intro _ (And.intro (r_needRange (d + 3) c0) ?_)
  refine And.intro (fun c => ?_) ?_
  · have h1 : ¬ x = 17 := fun h => c (17, 28) (by decide) (e17.mp h)
    have h2 : ¬ x = 18 := fun h => c (18, 36) (by decide) (e18.mp h)
    have e : q_account wn k n g o x = .inr (wAcc wn n g o x) := by rw [q_account, if_pos c0, if_neg h1, if_neg h2]
    refine Exists.intro _ (And.intro hl9 ?_)
    exact kR_r e rfl
  refine And.intro (fun c => ?_) ?_
  · have h1 : x = 17 := e17.mpr c
    have e : q_account wn k n g o x = .inr (k 7 5) := by rw [q_account, if_pos c0, if_pos h1]
    exact kR_r e rfl
  refine And.intro (fun c => ?_) trivial
  have h1 : x = 18 := e18.mpr c
  have h2 : ¬ x = 17 := by rw [h1]; decide
  have e : q_account wn k n g o x = .inr (k 7 3) := by rw [q_account, if_pos c0, if_neg h2, if_pos h1]
  exact kR_r e rfl
end KQ
