/-! THE MODEL'S OWN CHANGES: a saggar set on another -/
section YT
variable {sn : Nat} {sf : Nat → Int32} {m m1 m2 w v : aW} {s s1 : Nat → Int32} {n g o i j k f b L : Nat} {x y z u t c : Int32}
theorem o_stackY (d : Nat) {c : Nat} (R : Rl w (m 0) n g o) (ok : wOkA w n g o) (hy : ¬ y = -1) (hc : m 9 1 = Int32.ofNat c) (h8 : c ≤ 8) : ∃ m1 v, aRun false (d + 8) m_X8_stack [.ref 8, .int x, .int y, .int z] (aHn sn sf m) = some (.inl (some (.int v)), aHn sn sf m1, (0, 0)) ∧ mOp (fStand w n g x y z) cd3 m m1 v := by
  have R0 : Rl w ((upw m 9 2 0) 0) n g o := R
  have Rk : Rl w ((mKeep (upw m 9 2 0)) 0) n g o := R
  have eB : wB w y z = w 8 (zn y) := if_neg hy
  have eL : wL w y = w 9 (zn y) + 1 := if_neg hy
  by_cases hq : ((0 ≤ x ∧ x < w 16 4) ∧ (if y = -1 then 0 ≤ z ∧ z ≤ 3 else 0 ≤ y ∧ y < w 16 4))
  rotate_left
  · have ef : fStand w n g x y z = (-1, w) := by rw [fStand, if_neg hq]
    refine ⟨upw m 9 2 1, 0, ?_, by rw [ef]; exact mOp_d (mDo_x (Or.inl rfl) rfl (by decide)) (show (-1 : Int32) < 0 by decide)⟩
    refine aRun_of rfl (l_stF (sn := sn) (sf := sf) (m := m) d R ok hq ?_)
    refine aVn_end (stop := fun p => false) 60 ?_
    refine And.intro (fun c => absurd (show false = true from c) (by decide)) (fun _ => ?_)
    refine And.intro (fun c => absurd (show false = true from c) (by decide)) (fun _ => ?_)
    exact rfl
  by_cases hxy : x = y
  · have ef : fStand w n g x y z = (-2, w) := by rw [fStand, if_pos hq, if_pos hxy]
    refine ⟨upw m 9 2 2, 0, ?_, by rw [ef]; exact mOp_d (mDo_x (Or.inr rfl) rfl (by decide)) (show (-2 : Int32) < 0 by decide)⟩
    refine aRun_of rfl (l_stT (sn := sn) (sf := sf) (m := m) d R ok hq ?_)
    refine aVn_end (stop := fun p => false) 60 ?_
    refine And.intro (fun _ => ?_) (fun c => absurd (show true = false from c) (by decide))
    refine And.intro (fun c => absurd hxy (cT c)) (fun _ => ?_)
    refine And.intro (fun c => absurd (show false = true from c) (by decide)) (fun _ => ?_)
    exact rfl
  have hg8 := ok.1.2.2.2.1
  have hxx := aIx_lt hq.1 ok.1.2.2.1 hg8 (by omega)
  have hi := hxx.2.1
  have hx := hxx.2.2
  have hS := ok.2.2.1
  have hy1 : 0 ≤ y ∧ y < w 16 4 := by have q := hq.2; rw [if_neg hy] at q; exact q
  have hyy := aIx_lt hy1 ok.1.2.2.1 hg8 (by omega)
  have hk := hyy.2.1
  have hyk := hyy.2.2
  have hy0 : ¬ y < 0 := Int32.not_lt.mpr hy1.1
  by_cases c1 : w 8 (zn x) = -1
  rotate_left
  · have ef : fStand w n g x y z = (-3, wNote w 5 x) := by rw [fStand, if_pos hq, if_neg hxy, if_pos c1]
    refine ⟨mRef (upw m 9 2 0) 3 5 x, 0, ?_, by rw [ef]; exact mOp_d (mDo_r rfl rfl (by decide)) (show (-3 : Int32) < 0 by decide)⟩
    refine aRun_of rfl (l_stT (sn := sn) (sf := sf) (m := m) d R ok hq ?_)
    refine aVn_end (stop := fun p => false) 60 ?_
    refine And.intro (fun _ => ?_) (fun c => absurd (show true = false from c) (by decide))
    refine And.intro (fun _ => ?_) (fun c => absurd (cF c) (fun q => q hxy))
    refine And.intro (fun _ => ?_) (fun c => absurd (show true = false from c) (by decide))
    refine Exists.intro _ (And.intro (y_isOnFloor (m := upw m 9 2 0) (d + 4) R0 ok hx hi (if_neg c1).symm) ?_)
    refine And.intro (fun c => absurd (show false = true from c) (by decide)) (fun _ => ?_)
    refine Exists.intro _ (And.intro (y_refuse (m := upw m 9 2 0) (d + 6)) ?_)
    exact rfl
  by_cases cy : w 8 (zn y) = -1
  · have ef : fStand w n g x y z = (-3, wNote w 5 y) := by rw [fStand, if_pos hq, if_neg hxy, if_neg (fun q => q c1), if_pos ⟨hy, cy⟩]
    refine ⟨mRef (upw m 9 2 0) 3 5 y, 0, ?_, by rw [ef]; exact mOp_d (mDo_r rfl rfl (by decide)) (show (-3 : Int32) < 0 by decide)⟩
    refine aRun_of rfl (l_stT (sn := sn) (sf := sf) (m := m) d R ok hq ?_)
    refine aVn_end (stop := fun p => false) 60 ?_
    refine And.intro (fun _ => ?_) (fun c => absurd (show true = false from c) (by decide))
    refine And.intro (fun _ => ?_) (fun c => absurd (cF c) (fun q => q hxy))
    refine And.intro (fun _ => ?_) (fun c => absurd (show true = false from c) (by decide))
    refine Exists.intro _ (And.intro (y_isOnFloor (m := upw m 9 2 0) (d + 4) R0 ok hx hi (if_pos c1).symm) ?_)
    refine And.intro (fun _ => ?_) (fun c => absurd (show true = false from c) (by decide))
    refine And.intro (fun c => absurd (cT c) hy0) (fun _ => ?_)
    refine Exists.intro _ (And.intro (y_isOnFloor (m := upw m 9 2 0) (d + 4) R0 ok hyk hk (if_pos cy).symm) ?_)
    refine And.intro (fun c => absurd (show false = true from c) (by decide)) (fun _ => ?_)
    refine Exists.intro _ (And.intro (y_refuse (m := upw m 9 2 0) (d + 6)) ?_)
    exact rfl
  have hnf : ¬ (¬ y = -1 ∧ w 8 (zn y) = -1) := fun q => cy q.2
  have eu : wUp w g y = wAt w g (w 8 (zn y)) (w 9 (zn y) + 1) := if_neg cy
  have hft := y_above (sn := sn) (sf := sf) (m := upw m 9 2 0) (d + 5) R0 ok hyk hk
  by_cases c2 : wUp w g y = -1
  rotate_left
  · have ef : fStand w n g x y z = (-3, wNote w 6 (wUp w g y)) := by rw [fStand, if_pos hq, if_neg hxy, if_neg (fun q => q c1), if_neg hnf, eB, eL, ← eu, if_pos c2]
    refine ⟨mRef (upw m 9 2 0) 3 6 (wUp w g y), 0, ?_, by rw [ef]; exact mOp_d (mDo_r rfl rfl (by decide)) (show (-3 : Int32) < 0 by decide)⟩
    refine aRun_of rfl (l_stT (sn := sn) (sf := sf) (m := m) d R ok hq ?_)
    refine aVn_end (stop := fun p => false) 90 ?_
    refine And.intro (fun _ => ?_) (fun c => absurd (show true = false from c) (by decide))
    refine And.intro (fun _ => ?_) (fun c => absurd (cF c) (fun q => q hxy))
    refine And.intro (fun _ => ?_) (fun c => absurd (show true = false from c) (by decide))
    refine Exists.intro _ (And.intro (y_isOnFloor (m := upw m 9 2 0) (d + 4) R0 ok hx hi (if_pos c1).symm) ?_)
    refine And.intro (fun _ => ?_) (fun c => absurd (show true = false from c) (by decide))
    refine And.intro (fun c => absurd (cT c) hy0) (fun _ => ?_)
    refine Exists.intro _ (And.intro (y_isOnFloor (m := upw m 9 2 0) (d + 4) R0 ok hyk hk (if_neg cy).symm) ?_)
    refine And.intro (fun _ => ?_) (fun c => absurd (show true = false from c) (by decide))
    refine And.intro (fun _ => ?_) (fun c => absurd hy1.1 (cF c))
    refine Exists.intro _ (And.intro hft ?_)
    refine And.intro (fun c => absurd ((wUp_lt0 hg8).mp (cT c)) c2) (fun _ => ?_)
    refine Exists.intro _ (And.intro (y_refuse (m := upw m 9 2 0) (d + 6)) ?_)
    exact rfl
  have hw := y_weightOf (sn := sn) (sf := sf) (m := upw m 9 2 0) (y := x) (d + 2) R0 ok
  obtain ⟨b, L, hb, hL, p⟩ := okS_in hS hk cy
  have hL1 := lv_up8 hS hg8 hb hL hk p hi c1
  have e9k : w 9 (zn y) + 1 = Int32.ofNat (L + 1) := zI_s p.2
  have hov := y_overloaded (sn := sn) (sf := sf) (m := upw m 9 2 0) (x := y) (v := 3 + wHeld w n x) d R0 ok hyk hk hb hL p
  by_cases c3 : wOver w n g (Int32.ofNat b) (Int32.ofNat (L + 1)) (3 + wHeld w n x) = -1
  rotate_left
  · have ef : fStand w n g x y z = (-3, wNote w 7 (wOver w n g (Int32.ofNat b) (Int32.ofNat (L + 1)) (3 + wHeld w n x))) := by
      rw [fStand, if_pos hq, if_neg hxy, if_neg (fun q => q c1), if_neg hnf, eB, eL, ← eu, if_neg (fun q => q c2), p.1, e9k, if_pos c3]
    refine ⟨mRef (upw m 9 2 0) 3 7 (wOver w n g (Int32.ofNat b) (Int32.ofNat (L + 1)) (3 + wHeld w n x)), 0, ?_, by rw [ef]; exact mOp_d (mDo_r rfl rfl (by decide)) (show (-3 : Int32) < 0 by decide)⟩
    refine aRun_of rfl (l_stT (sn := sn) (sf := sf) (m := m) d R ok hq ?_)
    refine aVn_end (stop := fun p => false) 90 ?_
    refine And.intro (fun _ => ?_) (fun c => absurd (show true = false from c) (by decide))
    refine And.intro (fun _ => ?_) (fun c => absurd (cF c) (fun q => q hxy))
    refine And.intro (fun _ => ?_) (fun c => absurd (show true = false from c) (by decide))
    refine Exists.intro _ (And.intro (y_isOnFloor (m := upw m 9 2 0) (d + 4) R0 ok hx hi (if_pos c1).symm) ?_)
    refine And.intro (fun _ => ?_) (fun c => absurd (show true = false from c) (by decide))
    refine And.intro (fun c => absurd (cT c) hy0) (fun _ => ?_)
    refine Exists.intro _ (And.intro (y_isOnFloor (m := upw m 9 2 0) (d + 4) R0 ok hyk hk (if_neg cy).symm) ?_)
    refine And.intro (fun _ => ?_) (fun c => absurd (show true = false from c) (by decide))
    refine And.intro (fun _ => ?_) (fun c => absurd hy1.1 (cF c))
    refine Exists.intro _ (And.intro hft ?_)
    refine And.intro (fun _ => ?_) (fun c => absurd ((wUp_lt0 hg8).mpr c2) (cF c))
    refine Exists.intro _ (And.intro hw ?_)
    refine Exists.intro _ (And.intro hov ?_)
    refine And.intro (fun c => absurd ((wOver_lt0 hg8).mp (cT c)) c3) (fun _ => ?_)
    refine Exists.intro _ (And.intro (y_refuse (m := upw m 9 2 0) (d + 6)) ?_)
    exact rfl
  have ef : fStand w n g x y z = (Int32.ofNat (L + 1), wSt w (zn x) (Int32.ofNat b) (Int32.ofNat (L + 1))) := by
    rw [fStand, if_pos hq, if_neg hxy, if_neg (fun q => q c1), if_neg hnf, eB, eL, ← eu, if_neg (fun q => q c2), p.1, e9k, if_neg (fun q => q c3)]
    rfl
  have free : ∀ j, j < g → ¬ okP w j b (L + 1) := fun j hj q => by
    have e := c2
    rw [eu, p.1, e9k] at e
    have e2 : wAt w g (Int32.ofNat b) (Int32.ofNat (L + 1)) = Int32.ofNat j := wAt_eq hS hj q.1 q.2 (b_ne hb)
    exact ofN_m1 (by omega) (e2.symm.trans e)
  have R1 := Rl_sts Rk ok.1.2.1 hS hg8 hi c1 hb hL1 free hk p
  have okv := wOkA_st ok (okS_stand hS hg8 hi c1 hb hL1 free (fun L' h => ⟨zn y, hk, by rw [show L' = L by omega]; exact p⟩))
  have R2 : Rl (wSt w (zn x) (Int32.ofNat b) (Int32.ofNat (L + 1))) ((upw (upw (upw (mKeep (upw m 9 2 0)) 0 (429 + 3 * zn x + 0) (w 8 (zn y))) 0 (429 + 3 * zn x + 1) y) 0 (429 + 3 * zn y + 2) x) 0) n g o := by
    rw [p.1]
    rw [← hx, ← hyk] at R1
    exact R1
  have hlv := y_levelOf (sn := sn) (sf := sf) (m := (upw (upw (upw (mKeep (upw m 9 2 0)) 0 (429 + 3 * zn x + 0) (w 8 (zn y))) 0 (429 + 3 * zn x + 1) y) 0 (429 + 3 * zn y + 2) x)) (w := wSt w (zn x) (Int32.ofNat b) (Int32.ofNat (L + 1))) (d + 4) R2 okv hx hi
  have e9 : wLv (wSt w (zn x) (Int32.ofNat b) (Int32.ofNat (L + 1))) (zn x) = Int32.ofNat (L + 1) := by
    unfold wLv
    rw [wSt_9, wSt_8, if_neg (b_ne hb)]
  have hix : ∀ (f : Nat) (y : Int32), y = Int32.ofNat f → f < 3 → aIx (429 + 3 * x + y) 495 = some (429 + 3 * zn x + f) := fun f y h1 h2 => ixS hx (by omega) h1 h2
  have hiy : aIx (429 + 3 * y + 2) 495 = some (429 + 3 * zn y + 2) := ixS hyk (by omega) (f := 2) rfl (by omega)
  have hbg := y_bung (sn := sn) (sf := sf) (m := mKeep (upw m 9 2 0)) (d + 5) Rk ok hyk hk
  obtain ⟨m3, u, g1, g2⟩ := y_endR (sn := sn) (sf := sf) (m := upw m 9 2 0) (m2 := upw (upw (upw (mKeep (upw m 9 2 0)) 0 (429 + 3 * zn x + 0) (w 8 (zn y))) 0 (429 + 3 * zn x + 1) y) 0 (429 + 3 * zn y + 2) x) (v := wLv (wSt w (zn x) (Int32.ofNat b) (Int32.ofNat (L + 1))) (zn x)) (p := (Int32.ofNat (L + 1), wSt w (zn x) (Int32.ofNat b) (Int32.ofNat (L + 1)))) (f := cd3) (n := n) (g := g) (o := o) (d + 6) ((upw_ne (by omega)).trans hc) h8 (Int32.not_lt.mp (ofN_lt0 (by omega))) e9 (fun a ha => funext fun i => by rw [upw_ne (by omega), upw_ne (by omega), upw_ne (by omega)]) R2 okv.1
  refine ⟨m3, u, ?_, by rw [ef]; exact mOp_m g2⟩
  refine aRun_of rfl (l_stT (sn := sn) (sf := sf) (m := m) d R ok hq ?_)
  refine aVn_end (stop := fun p => false) 120 ?_
  refine And.intro (fun _ => ?_) (fun c => absurd (show true = false from c) (by decide))
  refine And.intro (fun _ => ?_) (fun c => absurd (cF c) (fun q => q hxy))
  refine And.intro (fun _ => ?_) (fun c => absurd (show true = false from c) (by decide))
  refine Exists.intro _ (And.intro (y_isOnFloor (m := upw m 9 2 0) (d + 4) R0 ok hx hi (if_pos c1).symm) ?_)
  refine And.intro (fun _ => ?_) (fun c => absurd (show true = false from c) (by decide))
  refine And.intro (fun c => absurd (cT c) hy0) (fun _ => ?_)
  refine Exists.intro _ (And.intro (y_isOnFloor (m := upw m 9 2 0) (d + 4) R0 ok hyk hk (if_neg cy).symm) ?_)
  refine And.intro (fun _ => ?_) (fun c => absurd (show true = false from c) (by decide))
  refine And.intro (fun _ => ?_) (fun c => absurd hy1.1 (cF c))
  refine Exists.intro _ (And.intro hft ?_)
  refine And.intro (fun _ => ?_) (fun c => absurd ((wUp_lt0 hg8).mpr c2) (cF c))
  refine Exists.intro _ (And.intro hw ?_)
  refine Exists.intro _ (And.intro hov ?_)
  refine And.intro (fun _ => ?_) (fun c => absurd ((wOver_lt0 hg8).mpr c3) (cF c))
  refine Exists.intro _ (And.intro (y_keep (m := upw m 9 2 0) (d + 6)) ?_)
  refine Exists.intro _ (And.intro (y_saggarAt (d + 6)) ?_)
  refine And.intro (fun _ => ?_) (fun c => absurd hy1.1 (cF c))
  refine Exists.intro _ (And.intro hbg ?_)
  refine Exists.intro (429 + 3 * zn x + 0) (And.intro (hix 0 _ rfl (by omega)) ?_)
  refine Exists.intro _ (And.intro (y_saggarAt (d + 6)) ?_)
  refine Exists.intro (429 + 3 * zn x + 1) (And.intro (hix 1 _ rfl (by omega)) ?_)
  refine And.intro (fun c => absurd (cT c) hy0) (fun _ => ?_)
  refine Exists.intro _ (And.intro (y_saggarAt (d + 6)) ?_)
  refine Exists.intro (429 + 3 * zn y + 2) (And.intro hiy ?_)
  refine Exists.intro _ (And.intro hlv ?_)
  refine Exists.intro _ (And.intro g1 ?_)
  exact rfl
theorem o_stack (d : Nat) {c : Nat} (R : Rl w (m 0) n g o) (ok : wOkA w n g o) (hc : m 9 1 = Int32.ofNat c) (h8 : c ≤ 8) : ∃ m1 v, aRun false (d + 8) m_X8_stack [.ref 8, .int x, .int y, .int z] (aHn sn sf m) = some (.inl (some (.int v)), aHn sn sf m1, (0, 0)) ∧ mOp (fStand w n g x y z) cd3 m m1 v := by
  by_cases hy : y = -1
  · exact o_stack0 d R ok hy hc h8
  · exact o_stackY d R ok hy hc h8
end YT
