/-! THE MODEL READS: a step of f -/
section ZG
variable {sn : Nat} {sf : Nat → Int32} {m : aW} {L p s : Nat}
theorem l_rsH (d : Nat) (hs : m 9 8 = Int32.ofNat s) (hs8 : s < 59) (hl : m 9 4 = Int32.ofNat L) (hL : L ≤ 60) (hp : p < L) : aEnd (aStep (aRun false (d + 5)) aCls [] aB_X8_readStep none false) (43, [some (.ref 8), some (.int (4 * m 9 8)), none, none, none, none], [.int 3], aHn sn sf (mPl m p 0), (0, 0)) (.inl none, aHn sn sf (upw (upw (hM (upw m 8 (4 * s) 3) (hD (m 7) L (hD (m 7) L (hD (m 7) L (hD (m 7) L (p + 1, 0)).2).2).2).2) 8 (4 * s + 1) (10 * (10 * (10 * (hD (m 7) L (p + 1, 0)).1 + (hD (m 7) L (hD (m 7) L (p + 1, 0)).2).1) + (hD (m 7) L (hD (m 7) L (hD (m 7) L (p + 1, 0)).2).2).1) + (hD (m 7) L (hD (m 7) L (hD (m 7) L (hD (m 7) L (p + 1, 0)).2).2).2).1)) 9 8 (m 9 8 + 1)), (0, 0)) := by
  have e4 : 4 * m 9 8 = Int32.ofNat (4 * s) := by rw [hs, Int32.ofNat_mul]; rfl
  have i0 : aIx (4 * m 9 8) 240 = some (4 * s) := aIx_of e4 (by omega) (by omega)
  have i1 : aIx (4 * m 9 8 + 1) 240 = some (4 * s + 1) := aIx_of (zI_s e4) (by omega) (by omega)
  have ea : upw (upw (upw (mPl m p 0) 9 6 0) 9 5 (Int32.ofNat p + 1)) 8 (4 * s) 3 = hM (upw m 8 (4 * s) 3) (p + 1, 0) := by
    rw [mPl_1, zI_s rfl, mPl_2, mPl_8 (by omega)]
  have le1 : (hD (m 7) L (p + 1, 0)).2.1 ≤ L := hS_le hp
  have le2 : (hD (m 7) L (hD (m 7) L (p + 1, 0)).2).2.1 ≤ L := hS_le le1
  have le3 : (hD (m 7) L (hD (m 7) L (hD (m 7) L (p + 1, 0)).2).2).2.1 ≤ L := hS_le le2
  have h1 : aRun false (d + 5) m_X8_digit [.ref 8] (aHn sn sf (upw (upw (upw (mPl m p 0) 9 6 0) 9 5 (Int32.ofNat p + 1)) 8 (4 * s) 3)) = some (.inl (some (.int (hD (m 7) L (p + 1, 0)).1)), aHn sn sf (hM (upw m 8 (4 * s) 3) (hD (m 7) L (p + 1, 0)).2), (0, 0)) := by
    rw [ea]
    exact y_digit (sn := sn) (sf := sf) (m := (upw m 8 (4 * s) 3)) (q := (p + 1, 0)) (L := L) (d + 1) hl hL hp
  have h2 : aRun false (d + 5) m_X8_digit [.ref 8] (aHn sn sf (hM (upw m 8 (4 * s) 3) (hD (m 7) L (p + 1, 0)).2)) = some (.inl (some (.int (hD (m 7) L (hD (m 7) L (p + 1, 0)).2).1)), aHn sn sf (hM (upw m 8 (4 * s) 3) (hD (m 7) L (hD (m 7) L (p + 1, 0)).2).2), (0, 0)) := y_digit (sn := sn) (sf := sf) (m := (upw m 8 (4 * s) 3)) (q := (hD (m 7) L (p + 1, 0)).2) (L := L) (d + 1) hl hL le1
  have h3 : aRun false (d + 5) m_X8_digit [.ref 8] (aHn sn sf (hM (upw m 8 (4 * s) 3) (hD (m 7) L (hD (m 7) L (p + 1, 0)).2).2)) = some (.inl (some (.int (hD (m 7) L (hD (m 7) L (hD (m 7) L (p + 1, 0)).2).2).1)), aHn sn sf (hM (upw m 8 (4 * s) 3) (hD (m 7) L (hD (m 7) L (hD (m 7) L (p + 1, 0)).2).2).2), (0, 0)) := y_digit (sn := sn) (sf := sf) (m := (upw m 8 (4 * s) 3)) (q := (hD (m 7) L (hD (m 7) L (p + 1, 0)).2).2) (L := L) (d + 1) hl hL le2
  have h4 : aRun false (d + 5) m_X8_digit [.ref 8] (aHn sn sf (hM (upw m 8 (4 * s) 3) (hD (m 7) L (hD (m 7) L (hD (m 7) L (p + 1, 0)).2).2).2)) = some (.inl (some (.int (hD (m 7) L (hD (m 7) L (hD (m 7) L (hD (m 7) L (p + 1, 0)).2).2).2).1)), aHn sn sf (hM (upw m 8 (4 * s) 3) (hD (m 7) L (hD (m 7) L (hD (m 7) L (hD (m 7) L (p + 1, 0)).2).2).2).2), (0, 0)) := y_digit (sn := sn) (sf := sf) (m := (upw m 8 (4 * s) 3)) (q := (hD (m 7) L (hD (m 7) L (hD (m 7) L (p + 1, 0)).2).2).2) (L := L) (d + 1) hl hL le3
  refine aVn_end (stop := fun p => false) 160 ?_
  refine And.intro (fun _ => ?_) (fun c => absurd (show (0 : Int32) ≤ 3 by decide) (cF c))
  refine And.intro (fun _ => ?_) (fun c => absurd rfl (cF c))
  refine Exists.intro (4 * s) (And.intro i0 ?_)
  refine And.intro (fun c => absurd c (show ¬ ((3 : Int32).toInt < 0 ∨ 3 < (3 : Int32).toInt) by decide)) ?_
  refine And.intro (fun c => absurd c (show ¬ (3 : Int32).toInt = 0 by decide)) ?_
  refine And.intro (fun c => absurd c (show ¬ (3 : Int32).toInt = 1 by decide)) ?_
  refine And.intro (fun c => absurd c (show ¬ (3 : Int32).toInt = 2 by decide)) ?_
  refine And.intro (fun _ => ?_) trivial
  refine Exists.intro _ (And.intro h1 ?_)
  refine And.intro (fun c => absurd (show (3 : Int32) ≤ 0 from cT c) (by decide)) (fun _ => ?_)
  refine Exists.intro _ (And.intro h2 ?_)
  refine And.intro (fun c => absurd (show (3 : Int32) ≤ 0 + 1 from cT c) (by decide)) (fun _ => ?_)
  refine Exists.intro _ (And.intro h3 ?_)
  refine And.intro (fun c => absurd (show (3 : Int32) ≤ 0 + 1 + 1 from cT c) (by decide)) (fun _ => ?_)
  refine Exists.intro _ (And.intro h4 ?_)
  refine And.intro (fun _ => ?_) (fun c => absurd (show (3 : Int32) ≤ 0 + 1 + 1 + 1 by decide) (cF c))
  refine Exists.intro (4 * s + 1) (And.intro i1 ?_)
  exact rfl
end ZG
