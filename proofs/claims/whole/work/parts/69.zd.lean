/-! THE MODEL READS: one step that is none; one of e and s -/
section ZD
variable {sn : Nat} {sf : Nat → Int32} {m m1 m2 w : aW} {n g o i j k f L p s : Nat} {x y z u v t c b : Int32} {q : Nat × Int32}
theorem mPl_8 {a : Nat} (ha : ¬ a = 9) : upw (mPl m p b) a i x = mPl (upw m a i x) p b := by
  unfold mPl
  rw [upw_com (a := 9) (b := a) (i := 6) (j := i) (by omega), upw_com (a := 9) (b := a) (i := 5) (j := i) (by omega)]
theorem l_rsF (d : Nat) (hx : x < 0) : aEnd (aStep (aRun false (d + 5)) aCls [] aB_X8_readStep none false) (43, [some (.ref 8), some (.int y), none, none, none, none], [.int x], aHn sn sf (mPl m p b), (0, 0)) (.inl none, aHn sn sf (mPl m p 1), (0, 0)) := by
  rw [← mPl_1 (m := m) (p := p) (b := b) (c := 1)]
  refine aVn_end (stop := fun p => false) 60 ?_
  refine And.intro (fun c => absurd hx (Int32.not_lt.mpr (cT c))) (fun _ => ?_)
  refine And.intro (fun c => absurd (show (1 : Int32) = 0 from cT c) (by decide)) (fun _ => ?_)
  exact rfl
/-- the rows of a step: its kind and first number -/
def mS1 (m : aW) (s : Nat) (x v : Int32) : aW := upw (upw m 8 (4 * s) x) 8 (4 * s + 1) v
theorem l_rsE (d : Nat) (hx : x = 4 ∨ x = 5) (hs : m 9 8 = Int32.ofNat s) (hs8 : s < 59) (hl : m 9 4 = Int32.ofNat L) (hL : L ≤ 60) (hp : p < L) : aEnd (aStep (aRun false (d + 5)) aCls [] aB_X8_readStep none false) (43, [some (.ref 8), some (.int (4 * m 9 8)), none, none, none, none], [.int x], aHn sn sf (mPl m p 0), (0, 0)) (.inl none, aHn sn sf (upw (hM (mS1 m s x (hD (m 7) L (p + 1, 0)).1) (hD (m 7) L (p + 1, 0)).2) 9 8 (m 9 8 + 1)), (0, 0)) := by
  have h0 : 0 ≤ x := by rcases hx with rfl | rfl <;> decide
  have h3 : 3 < x.toInt := by rcases hx with rfl | rfl <;> decide
  have e4 : 4 * m 9 8 = Int32.ofNat (4 * s) := by rw [hs, Int32.ofNat_mul]; rfl
  have i0 : aIx (4 * m 9 8) 240 = some (4 * s) := aIx_of e4 (by omega) (by omega)
  have i1 : aIx (4 * m 9 8 + 1) 240 = some (4 * s + 1) := aIx_of (zI_s e4) (by omega) (by omega)
  have ea : upw (upw (upw (mPl m p 0) 9 6 0) 9 5 (Int32.ofNat p + 1)) 8 (4 * s) x = hM (upw m 8 (4 * s) x) (p + 1, 0) := by
    rw [mPl_1, zI_s rfl, mPl_2, mPl_8 (by omega)]
  have hd := y_digit (sn := sn) (sf := sf) (m := upw m 8 (4 * s) x) (q := (p + 1, 0)) (L := L) (d + 1) hl hL hp
  rw [← ea] at hd
  have hd2 : aRun false (d + 5) m_X8_digit [.ref 8] (aHn sn sf (upw (upw (upw (mPl m p 0) 9 6 0) 9 5 (Int32.ofNat p + 1)) 8 (4 * s) x)) = some (.inl (some (.int (hD (m 7) L (p + 1, 0)).1)), aHn sn sf (hM (upw m 8 (4 * s) x) (hD (m 7) L (p + 1, 0)).2), (0, 0)) := hd
  have eb : upw (hM (mS1 m s x (hD (m 7) L (p + 1, 0)).1) (hD (m 7) L (p + 1, 0)).2) 9 8 (m 9 8 + 1) = upw (upw (hM (upw m 8 (4 * s) x) (hD (m 7) L (p + 1, 0)).2) 8 (4 * s + 1) (hD (m 7) L (p + 1, 0)).1) 9 8 (m 9 8 + 1) := by
    exact congrArg (fun f : aW => upw f 9 8 (m 9 8 + 1)) (mPl_8 (m := upw m 8 (4 * s) x) (a := 8) (i := 4 * s + 1) (by omega)).symm
  rw [eb]
  refine aVn_end (stop := fun p => false) 90 ?_
  refine And.intro (fun _ => ?_) (fun c => absurd h0 (cF c))
  refine And.intro (fun _ => ?_) (fun c => absurd rfl (cF c))
  refine Exists.intro (4 * s) (And.intro i0 ?_)
  refine And.intro (fun _ => ?_) ?_
  rotate_left
  · exact And.intro (fun c => absurd c (by omega)) (And.intro (fun c => absurd c (by omega)) (And.intro (fun c => absurd c (by omega)) (And.intro (fun c => absurd c (by omega)) trivial)))
  refine Exists.intro _ (And.intro hd2 ?_)
  refine Exists.intro (4 * s + 1) (And.intro i1 ?_)
  exact rfl
end ZD
