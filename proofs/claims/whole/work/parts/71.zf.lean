/-! THE MODEL READS: a step of g and of p -/
section ZF
variable {sn : Nat} {sf : Nat → Int32} {m m1 m2 w : aW} {n g o i j k f L p s : Nat} {x y z u v t c b : Int32} {q : Nat × Int32}
theorem hN_le {t : Nat → Int32} (h : q.1 ≤ L) : (hN t L q).2.1 ≤ L := by
  unfold hN
  split
  · exact hS_le (hS_le h)
  · exact hS_le h
theorem hB_le {t : Nat → Int32} (h : q.1 ≤ L) : (hB t L x q).2.1 ≤ L := hS_le (hS_le h)
theorem l_rsG (d : Nat) (hs : m 9 8 = Int32.ofNat s) (hs8 : s < 59) (hl : m 9 4 = Int32.ofNat L) (hL : L ≤ 60) (hp : p < L) : aEnd (aStep (aRun false (d + 5)) aCls [] aB_X8_readStep none false) (43, [some (.ref 8), some (.int (4 * m 9 8)), none, none, none, none], [.int 1], aHn sn sf (mPl m p 0), (0, 0)) (.inl none, aHn sn sf (upw (upw (hM (upw (upw (upw m 8 (4 * s) 1) 8 (4 * s + 1) (hN (m 7) L (p + 1, 0)).1) 8 (4 * s + 2) (hB (m 7) L 61 (hN (m 7) L (p + 1, 0)).2).1) (hD (m 7) L (hB (m 7) L 61 (hN (m 7) L (p + 1, 0)).2).2).2) 8 (4 * s + 3) (hD (m 7) L (hB (m 7) L 61 (hN (m 7) L (p + 1, 0)).2).2).1) 9 8 (m 9 8 + 1)), (0, 0)) := by
  have e4 : 4 * m 9 8 = Int32.ofNat (4 * s) := by rw [hs, Int32.ofNat_mul]; rfl
  have i0 : aIx (4 * m 9 8) 240 = some (4 * s) := aIx_of e4 (by omega) (by omega)
  have i1 : aIx (4 * m 9 8 + 1) 240 = some (4 * s + 1) := aIx_of (zI_s e4) (by omega) (by omega)
  have i2 : aIx (4 * m 9 8 + 2) 240 = some (4 * s + 2) := aIx_of (by rw [e4, Int32.ofNat_add]; rfl) (by omega) (by omega)
  have i3 : aIx (4 * m 9 8 + 3) 240 = some (4 * s + 3) := aIx_of (by rw [e4, Int32.ofNat_add]; rfl) (by omega) (by omega)
  have ea : upw (upw (upw (mPl m p 0) 9 6 0) 9 5 (Int32.ofNat p + 1)) 8 (4 * s) 1 = hM (upw m 8 (4 * s) 1) (p + 1, 0) := by
    rw [mPl_1, zI_s rfl, mPl_2, mPl_8 (by omega)]
  have le1 : (hN (m 7) L (p + 1, 0)).2.1 ≤ L := hN_le hp
  have le2 : (hB (m 7) L 61 (hN (m 7) L (p + 1, 0)).2).2.1 ≤ L := hB_le le1
  have h1 : aRun false (d + 5) m_X8_number [.ref 8] (aHn sn sf (upw (upw (upw (mPl m p 0) 9 6 0) 9 5 (Int32.ofNat p + 1)) 8 (4 * s) 1)) = some (.inl (some (.int (hN (m 7) L (p + 1, 0)).1)), aHn sn sf (hM (upw m 8 (4 * s) 1) (hN (m 7) L (p + 1, 0)).2), (0, 0)) := by
    rw [ea]
    exact y_number (sn := sn) (sf := sf) (m := (upw m 8 (4 * s) 1)) (q := (p + 1, 0)) (L := L) d hl hL hp
  have e1 : upw (hM (upw m 8 (4 * s) 1) (hN (m 7) L (p + 1, 0)).2) 8 (4 * s + 1) (hN (m 7) L (p + 1, 0)).1 = hM (upw (upw m 8 (4 * s) 1) 8 (4 * s + 1) (hN (m 7) L (p + 1, 0)).1) (hN (m 7) L (p + 1, 0)).2 := mPl_8 (by omega)
  have h2 : aRun false (d + 5) m_X8_digitBehind [.ref 8, .int 61] (aHn sn sf (upw (hM (upw m 8 (4 * s) 1) (hN (m 7) L (p + 1, 0)).2) 8 (4 * s + 1) (hN (m 7) L (p + 1, 0)).1)) = some (.inl (some (.int (hB (m 7) L 61 (hN (m 7) L (p + 1, 0)).2).1)), aHn sn sf (hM (upw (upw m 8 (4 * s) 1) 8 (4 * s + 1) (hN (m 7) L (p + 1, 0)).1) (hB (m 7) L 61 (hN (m 7) L (p + 1, 0)).2).2), (0, 0)) := by
    rw [e1]
    exact y_digitBehind (sn := sn) (sf := sf) (m := (upw (upw m 8 (4 * s) 1) 8 (4 * s + 1) (hN (m 7) L (p + 1, 0)).1)) (q := (hN (m 7) L (p + 1, 0)).2) (L := L) d hl hL le1
  have e2 : upw (hM (upw (upw m 8 (4 * s) 1) 8 (4 * s + 1) (hN (m 7) L (p + 1, 0)).1) (hB (m 7) L 61 (hN (m 7) L (p + 1, 0)).2).2) 8 (4 * s + 2) (hB (m 7) L 61 (hN (m 7) L (p + 1, 0)).2).1 = hM (upw (upw (upw m 8 (4 * s) 1) 8 (4 * s + 1) (hN (m 7) L (p + 1, 0)).1) 8 (4 * s + 2) (hB (m 7) L 61 (hN (m 7) L (p + 1, 0)).2).1) (hB (m 7) L 61 (hN (m 7) L (p + 1, 0)).2).2 := mPl_8 (by omega)
  have h3 : aRun false (d + 5) m_X8_digit [.ref 8] (aHn sn sf (upw (hM (upw (upw m 8 (4 * s) 1) 8 (4 * s + 1) (hN (m 7) L (p + 1, 0)).1) (hB (m 7) L 61 (hN (m 7) L (p + 1, 0)).2).2) 8 (4 * s + 2) (hB (m 7) L 61 (hN (m 7) L (p + 1, 0)).2).1)) = some (.inl (some (.int (hD (m 7) L (hB (m 7) L 61 (hN (m 7) L (p + 1, 0)).2).2).1)), aHn sn sf (hM (upw (upw (upw m 8 (4 * s) 1) 8 (4 * s + 1) (hN (m 7) L (p + 1, 0)).1) 8 (4 * s + 2) (hB (m 7) L 61 (hN (m 7) L (p + 1, 0)).2).1) (hD (m 7) L (hB (m 7) L 61 (hN (m 7) L (p + 1, 0)).2).2).2), (0, 0)) := by
    rw [e2]
    exact y_digit (sn := sn) (sf := sf) (m := (upw (upw (upw m 8 (4 * s) 1) 8 (4 * s + 1) (hN (m 7) L (p + 1, 0)).1) 8 (4 * s + 2) (hB (m 7) L 61 (hN (m 7) L (p + 1, 0)).2).1)) (q := (hB (m 7) L 61 (hN (m 7) L (p + 1, 0)).2).2) (L := L) (d + 1) hl hL le2
  refine aVn_end (stop := fun p => false) 120 ?_
  refine And.intro (fun _ => ?_) (fun c => absurd (show (0 : Int32) ≤ 1 by decide) (cF c))
  refine And.intro (fun _ => ?_) (fun c => absurd rfl (cF c))
  refine Exists.intro (4 * s) (And.intro i0 ?_)
  refine And.intro (fun c => absurd c (show ¬ ((1 : Int32).toInt < 0 ∨ 3 < (1 : Int32).toInt) by decide)) ?_
  refine And.intro (fun c => absurd c (show ¬ (1 : Int32).toInt = 0 by decide)) ?_
  refine And.intro (fun _ => ?_) (And.intro (fun c => absurd c (show ¬ (1 : Int32).toInt = 2 by decide)) (And.intro (fun c => absurd c (show ¬ (1 : Int32).toInt = 3 by decide)) trivial))
  refine Exists.intro _ (And.intro h1 ?_)
  refine Exists.intro (4 * s + 1) (And.intro i1 ?_)
  refine Exists.intro _ (And.intro h2 ?_)
  refine Exists.intro (4 * s + 2) (And.intro i2 ?_)
  refine Exists.intro _ (And.intro h3 ?_)
  refine Exists.intro (4 * s + 3) (And.intro i3 ?_)
  exact rfl
theorem l_rsP (d : Nat) (hs : m 9 8 = Int32.ofNat s) (hs8 : s < 59) (hl : m 9 4 = Int32.ofNat L) (hL : L ≤ 60) (hp : p < L) : aEnd (aStep (aRun false (d + 5)) aCls [] aB_X8_readStep none false) (43, [some (.ref 8), some (.int (4 * m 9 8)), none, none, none, none], [.int 2], aHn sn sf (mPl m p 0), (0, 0)) (.inl none, aHn sn sf (upw (upw (hM (upw (upw m 8 (4 * s) 2) 8 (4 * s + 1) (hN (m 7) L (p + 1, 0)).1) (hB (m 7) L 64 (hN (m 7) L (p + 1, 0)).2).2) 8 (4 * s + 2) (hB (m 7) L 64 (hN (m 7) L (p + 1, 0)).2).1) 9 8 (m 9 8 + 1)), (0, 0)) := by
  have e4 : 4 * m 9 8 = Int32.ofNat (4 * s) := by rw [hs, Int32.ofNat_mul]; rfl
  have i0 : aIx (4 * m 9 8) 240 = some (4 * s) := aIx_of e4 (by omega) (by omega)
  have i1 : aIx (4 * m 9 8 + 1) 240 = some (4 * s + 1) := aIx_of (zI_s e4) (by omega) (by omega)
  have i2 : aIx (4 * m 9 8 + 2) 240 = some (4 * s + 2) := aIx_of (by rw [e4, Int32.ofNat_add]; rfl) (by omega) (by omega)
  have i3 : aIx (4 * m 9 8 + 3) 240 = some (4 * s + 3) := aIx_of (by rw [e4, Int32.ofNat_add]; rfl) (by omega) (by omega)
  have ea : upw (upw (upw (mPl m p 0) 9 6 0) 9 5 (Int32.ofNat p + 1)) 8 (4 * s) 2 = hM (upw m 8 (4 * s) 2) (p + 1, 0) := by
    rw [mPl_1, zI_s rfl, mPl_2, mPl_8 (by omega)]
  have le1 : (hN (m 7) L (p + 1, 0)).2.1 ≤ L := hN_le hp
  have le2 : (hB (m 7) L 64 (hN (m 7) L (p + 1, 0)).2).2.1 ≤ L := hB_le le1
  have h1 : aRun false (d + 5) m_X8_number [.ref 8] (aHn sn sf (upw (upw (upw (mPl m p 0) 9 6 0) 9 5 (Int32.ofNat p + 1)) 8 (4 * s) 2)) = some (.inl (some (.int (hN (m 7) L (p + 1, 0)).1)), aHn sn sf (hM (upw m 8 (4 * s) 2) (hN (m 7) L (p + 1, 0)).2), (0, 0)) := by
    rw [ea]
    exact y_number (sn := sn) (sf := sf) (m := (upw m 8 (4 * s) 2)) (q := (p + 1, 0)) (L := L) d hl hL hp
  have e1 : upw (hM (upw m 8 (4 * s) 2) (hN (m 7) L (p + 1, 0)).2) 8 (4 * s + 1) (hN (m 7) L (p + 1, 0)).1 = hM (upw (upw m 8 (4 * s) 2) 8 (4 * s + 1) (hN (m 7) L (p + 1, 0)).1) (hN (m 7) L (p + 1, 0)).2 := mPl_8 (by omega)
  have h2 : aRun false (d + 5) m_X8_digitBehind [.ref 8, .int 64] (aHn sn sf (upw (hM (upw m 8 (4 * s) 2) (hN (m 7) L (p + 1, 0)).2) 8 (4 * s + 1) (hN (m 7) L (p + 1, 0)).1)) = some (.inl (some (.int (hB (m 7) L 64 (hN (m 7) L (p + 1, 0)).2).1)), aHn sn sf (hM (upw (upw m 8 (4 * s) 2) 8 (4 * s + 1) (hN (m 7) L (p + 1, 0)).1) (hB (m 7) L 64 (hN (m 7) L (p + 1, 0)).2).2), (0, 0)) := by
    rw [e1]
    exact y_digitBehind (sn := sn) (sf := sf) (m := (upw (upw m 8 (4 * s) 2) 8 (4 * s + 1) (hN (m 7) L (p + 1, 0)).1)) (q := (hN (m 7) L (p + 1, 0)).2) (L := L) d hl hL le1
  refine aVn_end (stop := fun p => false) 120 ?_
  refine And.intro (fun _ => ?_) (fun c => absurd (show (0 : Int32) ≤ 2 by decide) (cF c))
  refine And.intro (fun _ => ?_) (fun c => absurd rfl (cF c))
  refine Exists.intro (4 * s) (And.intro i0 ?_)
  refine And.intro (fun c => absurd c (show ¬ ((2 : Int32).toInt < 0 ∨ 3 < (2 : Int32).toInt) by decide)) ?_
  refine And.intro (fun c => absurd c (show ¬ (2 : Int32).toInt = 0 by decide)) ?_
  refine And.intro (fun c => absurd c (show ¬ (2 : Int32).toInt = 1 by decide)) ?_
  refine And.intro (fun _ => ?_) (And.intro (fun c => absurd c (show ¬ (2 : Int32).toInt = 3 by decide)) trivial)
  refine Exists.intro _ (And.intro h1 ?_)
  refine Exists.intro (4 * s + 1) (And.intro i1 ?_)
  refine Exists.intro _ (And.intro h2 ?_)
  refine Exists.intro (4 * s + 2) (And.intro i2 ?_)
  exact rfl
end ZF
