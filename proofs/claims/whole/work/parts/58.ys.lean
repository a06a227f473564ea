/-! THE MODEL'S OWN CHANGES: a saggar set in the kiln -/
section YS
variable {sn : Nat} {sf : Nat → Int32} {m m1 m2 w v : aW} {s s1 : Nat → Int32} {n g o i j k f b L : Nat} {x y z u t c : Int32}
theorem l_stT (d : Nat) (R : Rl w (m 0) n g o) (ok : wOkA w n g o) (hq : ((0 ≤ x ∧ x < w 16 4) ∧ (if y = -1 then 0 ≤ z ∧ z ≤ 3 else 0 ≤ y ∧ y < w 16 4))) {r : aR} (h : aEnd (aStep (aRun false (d + 7)) aCls [] aB_X8_stack (some .int) false) (40, [some (.ref 8), some (.int x), some (.int y), some (.int z), some (.int 1), none, none], [], aHn sn sf m, (0, 0)) r) : aEnd (aStep (aRun false (d + 7)) aCls [] aB_X8_stack (some .int) false) (0, [some (.ref 8), some (.int x), some (.int y), some (.int z), none, none, none], [], aHn sn sf m, (0, 0)) r := by
  obtain ⟨c0, c1⟩ := hq
  by_cases hy : y = -1
  · rw [if_pos hy] at c1
    refine aVn_end (stop := fun p => p == 40) 60 ?_
    refine Exists.intro _ (And.intro (y_isSaggar (d + 5) R ok (if_pos c0).symm) ?_)
    refine And.intro (fun c => absurd (show false = true from c) (by decide)) (fun _ => ?_)
    refine And.intro (fun c => absurd hy (cT c)) (fun _ => ?_)
    refine Exists.intro _ (And.intro (y_in (d + 6) (if_pos c1).symm) ?_)
    refine And.intro (fun c => absurd (show false = true from c) (by decide)) (fun _ => ?_)
    exact h
  · rw [if_neg hy] at c1
    refine aVn_end (stop := fun p => p == 40) 60 ?_
    refine Exists.intro _ (And.intro (y_isSaggar (d + 5) R ok (if_pos c0).symm) ?_)
    refine And.intro (fun c => absurd (show false = true from c) (by decide)) (fun _ => ?_)
    refine And.intro (fun _ => ?_) (fun c => absurd (cF c) (fun q => q hy))
    refine Exists.intro _ (And.intro (y_isSaggar (d + 5) R ok (if_pos c1).symm) ?_)
    refine And.intro (fun c => absurd (show false = true from c) (by decide)) (fun _ => ?_)
    exact h
theorem l_stF (d : Nat) (R : Rl w (m 0) n g o) (ok : wOkA w n g o) (hq : ¬ ((0 ≤ x ∧ x < w 16 4) ∧ (if y = -1 then 0 ≤ z ∧ z ≤ 3 else 0 ≤ y ∧ y < w 16 4))) {r : aR} (h : aEnd (aStep (aRun false (d + 7)) aCls [] aB_X8_stack (some .int) false) (40, [some (.ref 8), some (.int x), some (.int y), some (.int z), some (.int 0), none, none], [], aHn sn sf m, (0, 0)) r) : aEnd (aStep (aRun false (d + 7)) aCls [] aB_X8_stack (some .int) false) (0, [some (.ref 8), some (.int x), some (.int y), some (.int z), none, none, none], [], aHn sn sf m, (0, 0)) r := by
  by_cases c0 : 0 ≤ x ∧ x < w 16 4
  rotate_left
  · refine aVn_end (stop := fun p => p == 40) 60 ?_
    refine Exists.intro _ (And.intro (y_isSaggar (d + 5) R ok (if_neg c0).symm) ?_)
    refine And.intro (fun _ => ?_) (fun c => absurd (show true = false from c) (by decide))
    exact h
  by_cases hy : y = -1
  · have c1 : ¬ (0 ≤ z ∧ z ≤ 3) := fun q => hq ⟨c0, by rw [if_pos hy]; exact q⟩
    refine aVn_end (stop := fun p => p == 40) 60 ?_
    refine Exists.intro _ (And.intro (y_isSaggar (d + 5) R ok (if_pos c0).symm) ?_)
    refine And.intro (fun c => absurd (show false = true from c) (by decide)) (fun _ => ?_)
    refine And.intro (fun c => absurd hy (cT c)) (fun _ => ?_)
    refine Exists.intro _ (And.intro (y_in (d + 6) (if_neg c1).symm) ?_)
    refine And.intro (fun _ => ?_) (fun c => absurd (show true = false from c) (by decide))
    exact h
  · have c1 : ¬ (0 ≤ y ∧ y < w 16 4) := fun q => hq ⟨c0, by rw [if_neg hy]; exact q⟩
    refine aVn_end (stop := fun p => p == 40) 60 ?_
    refine Exists.intro _ (And.intro (y_isSaggar (d + 5) R ok (if_pos c0).symm) ?_)
    refine And.intro (fun c => absurd (show false = true from c) (by decide)) (fun _ => ?_)
    refine And.intro (fun _ => ?_) (fun c => absurd (cF c) (fun q => q hy))
    refine Exists.intro _ (And.intro (y_isSaggar (d + 5) R ok (if_neg c1).symm) ?_)
    refine And.intro (fun _ => ?_) (fun c => absurd (show true = false from c) (by decide))
    exact h
theorem wOkA_st (ok : wOkA w n g o) (h : okS (wSt w i x y) g) : wOkA (wSt w i x y) n g o := by
  obtain ⟨h1, h2, h3, h4⟩ := ok
  refine ⟨okN_h (okN_h h1 (by omega)) (by omega), fun j hj => ?_, h, fun k hk => okO_eq (v := wSt w i x y) (w := w) ?_ ?_ ?_ (h4 k hk)⟩
  · have q := h2 j hj
    unfold okW at q ⊢
    rw [wSt_out (by omega), wSt_out (by omega), wSt_out (by omega), wSt_out (by omega), wSt_out (by omega)]
    exact q
  · exact funext fun j => wSt_out (by omega)
  · exact funext fun j => wSt_out (by omega)
  · exact funext fun j => wSt_out (by omega)
theorem wAt_lt0 (hg : g ≤ 8) : wAt w g y z < 0 ↔ wAt w g y z = -1 := by
  rcases wAt_rng w g y z with q | ⟨k, hk, q, -⟩
  · rw [q]
    decide
  · rw [q]
    constructor
    · intro r
      exact absurd r (ofN_lt0 (by omega))
    · intro r
      rw [r]
      decide
theorem wOver_lt0 (hg : g ≤ 8) {q : Int32} : wOver w n g y z q < 0 ↔ wOver w n g y z q = -1 := by
  unfold wOver
  rcases aFd_cases (fun j => decide (¬ wAt w g y (Int32.ofNat j) = -1 ∧ w 0 2 < wLoad w n g (wAt w g y (Int32.ofNat j)) + q)) (fun j => wAt w g y (Int32.ofNat j)) (-1) (zn z) 0 with ⟨e, -⟩ | ⟨j, -, -, h, e, -⟩
  · rw [e]
    decide
  · rw [e]
    exact wAt_lt0 hg
theorem o_stack0 (d : Nat) {c : Nat} (R : Rl w (m 0) n g o) (ok : wOkA w n g o) (hy : y = -1) (hc : m 9 1 = Int32.ofNat c) (h8 : c ≤ 8) : ∃ m1 v, aRun false (d + 8) m_X8_stack [.ref 8, .int x, .int y, .int z] (aHn sn sf m) = some (.inl (some (.int v)), aHn sn sf m1, (0, 0)) ∧ mOp (fStand w n g x y z) cd3 m m1 v := by
  have R0 : Rl w ((upw m 9 2 0) 0) n g o := R
  have Rk : Rl w ((mKeep (upw m 9 2 0)) 0) n g o := R
  have eB : wB w y z = z := if_pos hy
  have eL : wL w y = 0 := if_pos hy
  have hy0 : y < 0 := by rw [hy]; decide
  by_cases hq : ((0 ≤ x ∧ x < w 16 4) ∧ (if y = -1 then 0 ≤ z ∧ z ≤ 3 else 0 ≤ y ∧ y < w 16 4))
  rotate_left
  · have ef : fStand w n g x y z = (-1, w) := by rw [fStand, if_neg hq]
    refine ⟨upw m 9 2 1, 0, ?_, by rw [ef]; exact mOp_d (mDo_x (Or.inl rfl) rfl (by decide)) (show (-1 : Int32) < 0 by decide)⟩
    refine aRun_of rfl (l_stF (sn := sn) (sf := sf) (m := m) d R ok hq ?_)
    refine aVn_end (stop := fun p => false) 60 ?_
    refine And.intro (fun c => absurd (show false = true from c) (by decide)) (fun _ => ?_)
    refine And.intro (fun c => absurd (show false = true from c) (by decide)) (fun _ => ?_)
    exact rfl
  have hg8 := ok.1.2.2.2.1
  have hxx := aIx_lt hq.1 ok.1.2.2.1 hg8 (by omega)
  have hi := hxx.2.1
  have hx := hxx.2.2
  have hS := ok.2.2.1
  have hz : 0 ≤ z ∧ z ≤ 3 := by have q := hq.2; rw [if_pos hy] at q; exact q
  have hzz := zn_nn hz.1
  have hb : zn z < 4 := by have := (zlv (x := 3) (i := 3) rfl (by omega)).mp hz.2; omega
  have hxy : ¬ x = y := fun e => by
    have h0 := hq.1.1
    rw [e] at h0
    exact absurd hy0 (Int32.not_lt.mpr h0)
  by_cases c1 : w 8 (zn x) = -1
  rotate_left
  · have ef : fStand w n g x y z = (-3, wNote w 5 x) := by rw [fStand, if_pos hq, if_neg hxy, if_pos c1]
    refine ⟨mRef (upw m 9 2 0) 3 5 x, 0, ?_, by rw [ef]; exact mOp_d (mDo_r rfl rfl (by decide)) (show (-3 : Int32) < 0 by decide)⟩
    refine aRun_of rfl (l_stT (sn := sn) (sf := sf) (m := m) d R ok hq ?_)
    refine aVn_end (stop := fun p => false) 60 ?_
    refine And.intro (fun _ => ?_) (fun c => absurd (show true = false from c) (by decide))
    refine And.intro (fun _ => ?_) (fun c => absurd (cF c) (fun q => q hxy))
    refine And.intro (fun _ => ?_) (fun c => absurd (show true = false from c) (by decide))
    refine Exists.intro _ (And.intro (y_isOnFloor (m := upw m 9 2 0) (d + 4) R0 ok hx hi (if_neg c1).symm) ?_)
    refine And.intro (fun c => absurd (show false = true from c) (by decide)) (fun _ => ?_)
    refine Exists.intro _ (And.intro (y_refuse (m := upw m 9 2 0) (d + 6)) ?_)
    exact rfl
  have hft := y_footOf (sn := sn) (sf := sf) (m := upw m 9 2 0) (d + 4) R0 ok hzz hb
  have hnf : ¬ (¬ y = -1 ∧ w 8 (zn y) = -1) := fun q => q.1 hy
  by_cases c2 : wAt w g z 0 = -1
  rotate_left
  · have ef : fStand w n g x y z = (-3, wNote w 6 (wAt w g z 0)) := by rw [fStand, if_pos hq, if_neg hxy, if_neg (fun q => q c1), if_neg hnf, eB, eL, if_pos c2]
    refine ⟨mRef (upw m 9 2 0) 3 6 (wAt w g z 0), 0, ?_, by rw [ef]; exact mOp_d (mDo_r rfl rfl (by decide)) (show (-3 : Int32) < 0 by decide)⟩
    refine aRun_of rfl (l_stT (sn := sn) (sf := sf) (m := m) d R ok hq ?_)
    refine aVn_end (stop := fun p => false) 90 ?_
    refine And.intro (fun _ => ?_) (fun c => absurd (show true = false from c) (by decide))
    refine And.intro (fun _ => ?_) (fun c => absurd (cF c) (fun q => q hxy))
    refine And.intro (fun _ => ?_) (fun c => absurd (show true = false from c) (by decide))
    refine Exists.intro _ (And.intro (y_isOnFloor (m := upw m 9 2 0) (d + 4) R0 ok hx hi (if_pos c1).symm) ?_)
    refine And.intro (fun _ => ?_) (fun c => absurd (show true = false from c) (by decide))
    refine And.intro (fun _ => ?_) (fun c => absurd hy0 (cF c))
    refine And.intro (fun c => absurd hy0 (Int32.not_lt.mpr (cT c))) (fun _ => ?_)
    refine Exists.intro _ (And.intro hft ?_)
    refine And.intro (fun c => absurd ((wAt_lt0 hg8).mp (cT c)) c2) (fun _ => ?_)
    refine Exists.intro _ (And.intro (y_refuse (m := upw m 9 2 0) (d + 6)) ?_)
    exact rfl
  have c3 : wOver w n g z 0 (3 + wHeld w n x) = -1 := rfl
  have ef : fStand w n g x y z = (0, wSt w (zn x) z 0) := by
    rw [fStand, if_pos hq, if_neg hxy, if_neg (fun q => q c1), if_neg hnf, eB, eL, if_neg (fun q => q c2), if_neg (fun q => q c3)]
    rfl
  have free : ∀ j, j < g → ¬ okP w j (zn z) 0 := fun j hj q => by
    have e := c2
    have e2 : wAt w g z 0 = Int32.ofNat j := wAt_eq hS hj (q.1.trans hzz.symm) q.2 (by rw [hzz]; exact b_ne hb)
    exact ofN_m1 (by omega) (e2.symm.trans e)
  have R1 := Rl_st0 Rk ok.1.2.1 hS hg8 hi c1 hb free
  have okv := wOkA_st ok (okS_stand hS hg8 hi c1 hb (show 0 < 8 by omega) free (fun L' h => by omega))
  rw [← hzz] at R1 okv
  have R2 : Rl (wSt w (zn x) z 0) ((upw (upw (mKeep (upw m 9 2 0)) 0 (429 + 3 * zn x + 0) z) 0 (429 + 3 * zn x + 1) y) 0) n g o := by
    rw [hy]
    exact R1
  have hlv := y_levelOf (sn := sn) (sf := sf) (m := (upw (upw (mKeep (upw m 9 2 0)) 0 (429 + 3 * zn x + 0) z) 0 (429 + 3 * zn x + 1) y)) (w := wSt w (zn x) z 0) (d + 4) R2 okv hx hi
  have e9 : wLv (wSt w (zn x) z 0) (zn x) = 0 := by
    unfold wLv
    rw [wSt_9]
    split <;> rfl
  have hix : ∀ (f : Nat) (y : Int32), y = Int32.ofNat f → f < 3 → aIx (429 + 3 * x + y) 495 = some (429 + 3 * zn x + f) := fun f y h1 h2 => ixS hx (by omega) h1 h2
  obtain ⟨m3, u, g1, g2⟩ := y_endR (sn := sn) (sf := sf) (m := upw m 9 2 0) (m2 := upw (upw (mKeep (upw m 9 2 0)) 0 (429 + 3 * zn x + 0) z) 0 (429 + 3 * zn x + 1) y) (v := wLv (wSt w (zn x) z 0) (zn x)) (p := (0, wSt w (zn x) z 0)) (f := cd3) (n := n) (g := g) (o := o) (d + 6) ((upw_ne (by omega)).trans hc) h8 (show (0 : Int32) ≤ 0 by decide) e9 (fun a ha => funext fun i => by rw [upw_ne (by omega), upw_ne (by omega)]) R2 okv.1
  have hw := y_weightOf (sn := sn) (sf := sf) (m := upw m 9 2 0) (y := x) (d + 2) R0 ok
  have hov := y_overloaded0 (sn := sn) (sf := sf) (m := upw m 9 2 0) (x := y) (v := 3 + wHeld w n x) d hy0
  refine ⟨m3, u, ?_, by rw [ef]; exact mOp_m g2⟩
  refine aRun_of rfl (l_stT (sn := sn) (sf := sf) (m := m) d R ok hq ?_)
  refine aVn_end (stop := fun p => false) 120 ?_
  refine And.intro (fun _ => ?_) (fun c => absurd (show true = false from c) (by decide))
  refine And.intro (fun _ => ?_) (fun c => absurd (cF c) (fun q => q hxy))
  refine And.intro (fun _ => ?_) (fun c => absurd (show true = false from c) (by decide))
  refine Exists.intro _ (And.intro (y_isOnFloor (m := upw m 9 2 0) (d + 4) R0 ok hx hi (if_pos c1).symm) ?_)
  refine And.intro (fun _ => ?_) (fun c => absurd (show true = false from c) (by decide))
  refine And.intro (fun _ => ?_) (fun c => absurd hy0 (cF c))
  refine And.intro (fun c => absurd hy0 (Int32.not_lt.mpr (cT c))) (fun _ => ?_)
  refine Exists.intro _ (And.intro hft ?_)
  refine And.intro (fun _ => ?_) (fun c => absurd ((wAt_lt0 hg8).mpr c2) (cF c))
  refine Exists.intro _ (And.intro hw ?_)
  refine Exists.intro _ (And.intro hov ?_)
  refine And.intro (fun _ => ?_) (fun c => absurd (show false = true from c.symm) (by decide))
  refine Exists.intro _ (And.intro (y_keep (m := upw m 9 2 0) (d + 6)) ?_)
  refine Exists.intro _ (And.intro (y_saggarAt (d + 6)) ?_)
  refine And.intro (fun c => absurd hy0 (Int32.not_lt.mpr (cT c))) (fun _ => ?_)
  refine Exists.intro (429 + 3 * zn x + 0) (And.intro (hix 0 _ rfl (by omega)) ?_)
  refine Exists.intro _ (And.intro (y_saggarAt (d + 6)) ?_)
  refine Exists.intro (429 + 3 * zn x + 1) (And.intro (hix 1 _ rfl (by omega)) ?_)
  refine And.intro (fun _ => ?_) (fun c => absurd hy0 (cF c))
  refine Exists.intro _ (And.intro hlv ?_)
  refine Exists.intro _ (And.intro g1 ?_)
  exact rfl
end YS
