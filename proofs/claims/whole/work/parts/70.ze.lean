/-! THE MODEL READS: a step of t and of p -/
def mS2 (m : aW) (s : Nat) (x v y : Int32) : aW := upw (mS1 m s x v) 8 (4 * s + 2) y
section ZE
variable {sn : Nat} {sf : Nat → Int32} {m m1 m2 w : aW} {n g o i j k f L p s : Nat} {x y z u v t c b : Int32} {q : Nat × Int32}
theorem l_rsT (d : Nat) (hs : m 9 8 = Int32.ofNat s) (hs8 : s < 59) (hl : m 9 4 = Int32.ofNat L) (hL : L ≤ 60) (hp : p < L) : aEnd (aStep (aRun false (d + 5)) aCls [] aB_X8_readStep none false) (43, [some (.ref 8), some (.int (4 * m 9 8)), none, none, none, none], [.int 0], aHn sn sf (mPl m p 0), (0, 0)) (.inl none, aHn sn sf (upw (upw (hM (upw (upw m 8 (4 * s) 0) 8 (4 * s + 1) (hD (m 7) L (p + 1, 0)).1) (hN (m 7) L (hS (m 7) L 42 42 (hD (m 7) L (p + 1, 0)).2).2).2) 8 (4 * s + 2) (hN (m 7) L (hS (m 7) L 42 42 (hD (m 7) L (p + 1, 0)).2).2).1) 9 8 (m 9 8 + 1)), (0, 0)) := by
  have e4 : 4 * m 9 8 = Int32.ofNat (4 * s) := by rw [hs, Int32.ofNat_mul]; rfl
  have i0 : aIx (4 * m 9 8) 240 = some (4 * s) := aIx_of e4 (by omega) (by omega)
  have i1 : aIx (4 * m 9 8 + 1) 240 = some (4 * s + 1) := aIx_of (zI_s e4) (by omega) (by omega)
  have i2 : aIx (4 * m 9 8 + 2) 240 = some (4 * s + 2) := aIx_of (by rw [e4, Int32.ofNat_add]; rfl) (by omega) (by omega)
  have ea : upw (upw (upw (mPl m p 0) 9 6 0) 9 5 (Int32.ofNat p + 1)) 8 (4 * s) 0 = hM (upw m 8 (4 * s) 0) (p + 1, 0) := by
    rw [mPl_1, zI_s rfl, mPl_2, mPl_8 (by omega)]
  have le1 : (hD (m 7) L (p + 1, 0)).2.1 ≤ L := hS_le hp
  have le2 : (hS (m 7) L 42 42 (hD (m 7) L (p + 1, 0)).2).2.1 ≤ L := hS_le le1
  have hd : aRun false (d + 5) m_X8_digit [.ref 8] (aHn sn sf (upw (upw (upw (mPl m p 0) 9 6 0) 9 5 (Int32.ofNat p + 1)) 8 (4 * s) 0)) = some (.inl (some (.int (hD (m 7) L (p + 1, 0)).1)), aHn sn sf (hM (upw m 8 (4 * s) 0) (hD (m 7) L (p + 1, 0)).2), (0, 0)) := by
    rw [ea]
    exact y_digit (sn := sn) (sf := sf) (m := upw m 8 (4 * s) 0) (q := (p + 1, 0)) (L := L) (d + 1) hl hL hp
  have e1 : upw (hM (upw m 8 (4 * s) 0) (hD (m 7) L (p + 1, 0)).2) 8 (4 * s + 1) (hD (m 7) L (p + 1, 0)).1 = hM (upw (upw m 8 (4 * s) 0) 8 (4 * s + 1) (hD (m 7) L (p + 1, 0)).1) (hD (m 7) L (p + 1, 0)).2 := mPl_8 (by omega)
  have hg : aRun false (d + 5) m_X8_sign_ [.ref 8, .int 42, .int 42] (aHn sn sf (upw (hM (upw m 8 (4 * s) 0) (hD (m 7) L (p + 1, 0)).2) 8 (4 * s + 1) (hD (m 7) L (p + 1, 0)).1)) = some (.inl (some (.int (hS (m 7) L 42 42 (hD (m 7) L (p + 1, 0)).2).1)), aHn sn sf (hM (upw (upw m 8 (4 * s) 0) 8 (4 * s + 1) (hD (m 7) L (p + 1, 0)).1) (hS (m 7) L 42 42 (hD (m 7) L (p + 1, 0)).2).2), (0, 0)) := by
    rw [e1]
    exact y_sign_ (sn := sn) (sf := sf) (m := upw (upw m 8 (4 * s) 0) 8 (4 * s + 1) (hD (m 7) L (p + 1, 0)).1) (q := (hD (m 7) L (p + 1, 0)).2) (L := L) (d + 2) hl hL le1
  have hn : aRun false (d + 5) m_X8_number [.ref 8] (aHn sn sf (hM (upw (upw m 8 (4 * s) 0) 8 (4 * s + 1) (hD (m 7) L (p + 1, 0)).1) (hS (m 7) L 42 42 (hD (m 7) L (p + 1, 0)).2).2)) = some (.inl (some (.int (hN (m 7) L (hS (m 7) L 42 42 (hD (m 7) L (p + 1, 0)).2).2).1)), aHn sn sf (hM (upw (upw m 8 (4 * s) 0) 8 (4 * s + 1) (hD (m 7) L (p + 1, 0)).1) (hN (m 7) L (hS (m 7) L 42 42 (hD (m 7) L (p + 1, 0)).2).2).2), (0, 0)) :=
    y_number (sn := sn) (sf := sf) (m := upw (upw m 8 (4 * s) 0) 8 (4 * s + 1) (hD (m 7) L (p + 1, 0)).1) (q := (hS (m 7) L 42 42 (hD (m 7) L (p + 1, 0)).2).2) (L := L) d hl hL le2
  refine aVn_end (stop := fun p => false) 120 ?_
  refine And.intro (fun _ => ?_) (fun c => absurd (show (0 : Int32) ≤ 0 by decide) (cF c))
  refine And.intro (fun _ => ?_) (fun c => absurd rfl (cF c))
  refine Exists.intro (4 * s) (And.intro i0 ?_)
  refine And.intro (fun c => absurd c (show ¬ ((0 : Int32).toInt < 0 ∨ 3 < (0 : Int32).toInt) by decide)) ?_
  refine And.intro (fun _ => ?_) ?_
  rotate_left
  · exact And.intro (fun c => absurd c (show ¬ (0 : Int32).toInt = 1 by decide)) (And.intro (fun c => absurd c (show ¬ (0 : Int32).toInt = 2 by decide)) (And.intro (fun c => absurd c (show ¬ (0 : Int32).toInt = 3 by decide)) trivial))
  refine Exists.intro _ (And.intro hd ?_)
  refine Exists.intro (4 * s + 1) (And.intro i1 ?_)
  refine Exists.intro _ (And.intro hg ?_)
  refine Exists.intro _ (And.intro hn ?_)
  refine Exists.intro (4 * s + 2) (And.intro i2 ?_)
  exact rfl
end ZE
