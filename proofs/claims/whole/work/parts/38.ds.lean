/-! THE CLASS: a text is done -/
abbrev okk (w : aW) : Prop := wOk w (zn (w 16 3)) (zn (w 16 4)) (zn (w 16 5))
theorem okk_of {w : aW} {n g o : Nat} (h : wOk w n g o) : okk w := by
  have e1 : zn (w 16 3) = n := zn_of h.1.1 (by have := h.1.2.1; omega)
  have e2 : zn (w 16 4) = g := zn_of h.1.2.2.1 (by have := h.1.2.2.2.1; omega)
  have e3 : zn (w 16 5) = o := zn_of h.1.2.2.2.2.1 (by have := h.1.2.2.2.2.2; omega)
  unfold okk
  rw [e1, e2, e3]
  exact h
/-- a step done -/
def cDo (t : Nat → Int32) (L : Nat) (w : aW) (p : Nat) : aZ := if t p = 116 then fCast w (zn (w 16 3)) ((pS t L p).2.2 0) ((pS t L p).2.2 1) 50 else if t p = 103 then fCoat w ((pS t L p).2.2 0) ((pS t L p).2.2 1) ((pS t L p).2.2 2) else
  if t p = 112 then fPut w (zn (w 16 3)) (zn (w 16 4)) ((pS t L p).2.2 0) ((pS t L p).2.2 1) else if t p = 102 then fFire w (zn (w 16 3)) ((pS t L p).2.2 0) else if t p = 101 then fEmpty w (zn (w 16 3)) ((pS t L p).2.2 0) else fSell w (zn (w 16 3)) ((pS t L p).2.2 0)
def wFail (q : aZ) (i : Nat) : aW := if q.1 = -3 then (if q.2 16 6 = 1 then wAhead1 q.2 11 (Int32.ofNat i) else wAhead2 q.2 11 (Int32.ofNat i)) else wAhead1 (wNote q.2 13 0) 11 (Int32.ofNat i)
def cDos (t : Nat → Int32) (L : Nat) : List Nat → Nat → aW → aZ
  | [], _, w => (0, w)
  | p :: r, i, w => if (cDo t L w p).1 < 0 then (-3, wFail (cDo t L w p) i) else cDos t L r (i + 1) (cDo t L w p).2
section DS
variable {sn : Nat} {sf : Nat → Int32} {k wn wd ws : aW} {n g o i j L p s : Nat} {x y z v u c st : Int32} {t : Nat → Int32}
theorem r_doStep_t (d : Nat) (hs : aIx st 20 = some s) (r : pRow t L k s p) (ok : okk wd) (hv : t p = 116) : aRun false (d + 6) m_X7_doStep [.ref 8, .ref 42, .int st] (aHk sn sf 21 42 aRg k wn wd ws) = some (.inl (some (.int (cDo t L wd p).1)), (aHk sn sf 21 42 aRg k wn (cDo t L wd p).2 ws), (0, 0)) := by
  have hvi : (k 2 s).toInt = 116 := by rw [r.2.1, hv]; rfl
  have eD : cDo t L wd p = fCast wd (zn (wd 16 3)) ((pS t L p).2.2 0) ((pS t L p).2.2 1) 50 := by
    unfold cDo
    rw [if_pos hv]
  have hf : rZ sn sf wd (d + 5) m_X6_throwWares [.ref 8, .int ((pS t L p).2.2 0), .int ((pS t L p).2.2 1), .int 50] (fCast wd (zn (wd 16 3)) ((pS t L p).2.2 0) ((pS t L p).2.2 1) 50) := r_throwWares (d + 2) ok.1.1 ok.1.2.1
  rw [← eD, ← r.2.2.1, ← (r.2.2.2.1 (Or.inl hv))] at hf
  have hl : aRun false (d + 5) m_X6_throwWares [.ref 42, .int (k 3 s), .int (k 4 s), .int 50] (aHk sn sf 21 42 aRg k wn wd ws) = some (.inl (some (.int (cDo t L wd p).1)), (aHk sn sf 21 42 aRg k wn (cDo t L wd p).2 ws), (0, 0)) := liftD hf
  refine aRun_of rfl (aVn_end (stop := fun p => false) 60 ?_)
  refine Exists.intro 0 ?_
  refine Exists.intro 17 ?_
  refine And.intro rfl ?_
  refine And.intro rfl ?_
  refine Exists.intro s (And.intro hs ?_)
  refine Exists.intro 1 ?_
  refine Exists.intro 18 ?_
  refine And.intro rfl ?_
  refine And.intro rfl ?_
  refine Exists.intro s (And.intro hs ?_)
  refine Exists.intro 2 ?_
  refine Exists.intro 19 ?_
  refine And.intro rfl ?_
  refine And.intro rfl ?_
  refine Exists.intro s (And.intro hs ?_)
  refine Exists.intro s (And.intro hs ?_)
  refine And.intro (fun q => absurd hvi (q (116, 49) (by decide))) ?_
  refine And.intro (fun q => absurd (hvi.symm.trans q) (by decide)) ?_
  refine And.intro (fun q => absurd (hvi.symm.trans q) (by decide)) ?_
  refine And.intro (fun q => absurd (hvi.symm.trans q) (by decide)) ?_
  refine And.intro (fun q => absurd (hvi.symm.trans q) (by decide)) ?_
  refine And.intro (fun _ => ?_) trivial
  refine Exists.intro _ (And.intro hl ?_)
  exact rfl
theorem r_doStep_g (d : Nat) (hs : aIx st 20 = some s) (r : pRow t L k s p) (ok : okk wd) (hv : t p = 103) : aRun false (d + 6) m_X7_doStep [.ref 8, .ref 42, .int st] (aHk sn sf 21 42 aRg k wn wd ws) = some (.inl (some (.int (cDo t L wd p).1)), (aHk sn sf 21 42 aRg k wn (cDo t L wd p).2 ws), (0, 0)) := by
  have hvi : (k 2 s).toInt = 103 := by rw [r.2.1, hv]; rfl
  have eD : cDo t L wd p = fCoat wd ((pS t L p).2.2 0) ((pS t L p).2.2 1) ((pS t L p).2.2 2) := by
    unfold cDo
    rw [if_neg (by rw [hv]; decide), if_pos hv]
  have hf : rZ sn sf wd (d + 5) m_X6_coatWare [.ref 8, .int ((pS t L p).2.2 0), .int ((pS t L p).2.2 1), .int ((pS t L p).2.2 2)] (fCoat wd ((pS t L p).2.2 0) ((pS t L p).2.2 1) ((pS t L p).2.2 2)) := r_coatWare (d + 2) ok.1.1 ok.1.2.1
  rw [← eD, ← r.2.2.1, ← (r.2.2.2.1 (Or.inr (Or.inl hv))), ← (r.2.2.2.2 hv)] at hf
  have hl : aRun false (d + 5) m_X6_coatWare [.ref 42, .int (k 3 s), .int (k 4 s), .int (k 5 s)] (aHk sn sf 21 42 aRg k wn wd ws) = some (.inl (some (.int (cDo t L wd p).1)), (aHk sn sf 21 42 aRg k wn (cDo t L wd p).2 ws), (0, 0)) := liftD hf
  refine aRun_of rfl (aVn_end (stop := fun p => false) 60 ?_)
  refine Exists.intro 0 ?_
  refine Exists.intro 17 ?_
  refine And.intro rfl ?_
  refine And.intro rfl ?_
  refine Exists.intro s (And.intro hs ?_)
  refine Exists.intro 1 ?_
  refine Exists.intro 18 ?_
  refine And.intro rfl ?_
  refine And.intro rfl ?_
  refine Exists.intro s (And.intro hs ?_)
  refine Exists.intro 2 ?_
  refine Exists.intro 19 ?_
  refine And.intro rfl ?_
  refine And.intro rfl ?_
  refine Exists.intro s (And.intro hs ?_)
  refine Exists.intro s (And.intro hs ?_)
  refine And.intro (fun q => absurd hvi (q (103, 59) (by decide))) ?_
  refine And.intro (fun q => absurd (hvi.symm.trans q) (by decide)) ?_
  refine And.intro (fun q => absurd (hvi.symm.trans q) (by decide)) ?_
  refine And.intro (fun _ => ?_) (And.intro (fun q => absurd (hvi.symm.trans q) (by decide)) (And.intro (fun q => absurd (hvi.symm.trans q) (by decide)) trivial))
  refine Exists.intro _ (And.intro hl ?_)
  exact rfl
theorem r_doStep_p (d : Nat) (hs : aIx st 20 = some s) (r : pRow t L k s p) (ok : okk wd) (hv : t p = 112) : aRun false (d + 6) m_X7_doStep [.ref 8, .ref 42, .int st] (aHk sn sf 21 42 aRg k wn wd ws) = some (.inl (some (.int (cDo t L wd p).1)), (aHk sn sf 21 42 aRg k wn (cDo t L wd p).2 ws), (0, 0)) := by
  have hvi : (k 2 s).toInt = 112 := by rw [r.2.1, hv]; rfl
  have eD : cDo t L wd p = fPut wd (zn (wd 16 3)) (zn (wd 16 4)) ((pS t L p).2.2 0) ((pS t L p).2.2 1) := by
    unfold cDo
    rw [if_neg (by rw [hv]; decide), if_neg (by rw [hv]; decide), if_pos hv]
  have hf : rZ sn sf wd (d + 5) m_X6_putWare [.ref 8, .int ((pS t L p).2.2 0), .int ((pS t L p).2.2 1)] (fPut wd (zn (wd 16 3)) (zn (wd 16 4)) ((pS t L p).2.2 0) ((pS t L p).2.2 1)) := r_putWare d ok.1.1 ok.1.2.1 ok.1.2.2.1 ok.1.2.2.2.1 ok.kinds ok.levels
  rw [← eD, ← r.2.2.1, ← (r.2.2.2.1 (Or.inr (Or.inr hv)))] at hf
  have hl : aRun false (d + 5) m_X6_putWare [.ref 42, .int (k 3 s), .int (k 4 s)] (aHk sn sf 21 42 aRg k wn wd ws) = some (.inl (some (.int (cDo t L wd p).1)), (aHk sn sf 21 42 aRg k wn (cDo t L wd p).2 ws), (0, 0)) := liftD hf
  refine aRun_of rfl (aVn_end (stop := fun p => false) 60 ?_)
  refine Exists.intro 0 ?_
  refine Exists.intro 17 ?_
  refine And.intro rfl ?_
  refine And.intro rfl ?_
  refine Exists.intro s (And.intro hs ?_)
  refine Exists.intro 1 ?_
  refine Exists.intro 18 ?_
  refine And.intro rfl ?_
  refine And.intro rfl ?_
  refine Exists.intro s (And.intro hs ?_)
  refine Exists.intro 2 ?_
  refine Exists.intro 19 ?_
  refine And.intro rfl ?_
  refine And.intro rfl ?_
  refine Exists.intro s (And.intro hs ?_)
  refine Exists.intro s (And.intro hs ?_)
  refine And.intro (fun q => absurd hvi (q (112, 69) (by decide))) ?_
  refine And.intro (fun q => absurd (hvi.symm.trans q) (by decide)) ?_
  refine And.intro (fun q => absurd (hvi.symm.trans q) (by decide)) ?_
  refine And.intro (fun q => absurd (hvi.symm.trans q) (by decide)) ?_
  refine And.intro (fun _ => ?_) (And.intro (fun q => absurd (hvi.symm.trans q) (by decide)) trivial)
  refine Exists.intro _ (And.intro hl ?_)
  exact rfl
theorem r_doStep_f (d : Nat) (hs : aIx st 20 = some s) (r : pRow t L k s p) (ok : okk wd) (hv : t p = 102) : aRun false (d + 6) m_X7_doStep [.ref 8, .ref 42, .int st] (aHk sn sf 21 42 aRg k wn wd ws) = some (.inl (some (.int (cDo t L wd p).1)), (aHk sn sf 21 42 aRg k wn (cDo t L wd p).2 ws), (0, 0)) := by
  have hvi : (k 2 s).toInt = 102 := by rw [r.2.1, hv]; rfl
  have eD : cDo t L wd p = fFire wd (zn (wd 16 3)) ((pS t L p).2.2 0) := by
    unfold cDo
    rw [if_neg (by rw [hv]; decide), if_neg (by rw [hv]; decide), if_neg (by rw [hv]; decide), if_pos hv]
  have hf : rZ sn sf wd (d + 5) m_X6_fireWares [.ref 8, .int ((pS t L p).2.2 0)] (fFire wd (zn (wd 16 3)) ((pS t L p).2.2 0)) := r_fireWares d ok.1.1 ok.1.2.1 ok.1.2.2.1 ok.1.2.2.2.1 ok.glazes
  rw [← eD, ← r.2.2.1] at hf
  have hl : aRun false (d + 5) m_X6_fireWares [.ref 42, .int (k 3 s)] (aHk sn sf 21 42 aRg k wn wd ws) = some (.inl (some (.int (cDo t L wd p).1)), (aHk sn sf 21 42 aRg k wn (cDo t L wd p).2 ws), (0, 0)) := liftD hf
  refine aRun_of rfl (aVn_end (stop := fun p => false) 60 ?_)
  refine Exists.intro 0 ?_
  refine Exists.intro 17 ?_
  refine And.intro rfl ?_
  refine And.intro rfl ?_
  refine Exists.intro s (And.intro hs ?_)
  refine Exists.intro 1 ?_
  refine Exists.intro 18 ?_
  refine And.intro rfl ?_
  refine And.intro rfl ?_
  refine Exists.intro s (And.intro hs ?_)
  refine Exists.intro 2 ?_
  refine Exists.intro 19 ?_
  refine And.intro rfl ?_
  refine And.intro rfl ?_
  refine Exists.intro s (And.intro hs ?_)
  refine Exists.intro s (And.intro hs ?_)
  refine And.intro (fun q => absurd hvi (q (102, 77) (by decide))) ?_
  refine And.intro (fun q => absurd (hvi.symm.trans q) (by decide)) ?_
  refine And.intro (fun _ => ?_) (And.intro (fun q => absurd (hvi.symm.trans q) (by decide)) (And.intro (fun q => absurd (hvi.symm.trans q) (by decide)) (And.intro (fun q => absurd (hvi.symm.trans q) (by decide)) trivial)))
  refine Exists.intro _ (And.intro hl ?_)
  exact rfl
theorem r_doStep_e (d : Nat) (hs : aIx st 20 = some s) (r : pRow t L k s p) (ok : okk wd) (hv : t p = 101) : aRun false (d + 6) m_X7_doStep [.ref 8, .ref 42, .int st] (aHk sn sf 21 42 aRg k wn wd ws) = some (.inl (some (.int (cDo t L wd p).1)), (aHk sn sf 21 42 aRg k wn (cDo t L wd p).2 ws), (0, 0)) := by
  have hvi : (k 2 s).toInt = 101 := by rw [r.2.1, hv]; rfl
  have eD : cDo t L wd p = fEmpty wd (zn (wd 16 3)) ((pS t L p).2.2 0) := by
    unfold cDo
    rw [if_neg (by rw [hv]; decide), if_neg (by rw [hv]; decide), if_neg (by rw [hv]; decide), if_neg (by rw [hv]; decide), if_pos hv]
  have hf : rZ sn sf wd (d + 5) m_X6_emptySaggar [.ref 8, .int ((pS t L p).2.2 0)] (fEmpty wd (zn (wd 16 3)) ((pS t L p).2.2 0)) := r_emptySaggar (d + 2) ok.1.1 ok.1.2.1
  rw [← eD, ← r.2.2.1] at hf
  have hl : aRun false (d + 5) m_X6_emptySaggar [.ref 42, .int (k 3 s)] (aHk sn sf 21 42 aRg k wn wd ws) = some (.inl (some (.int (cDo t L wd p).1)), (aHk sn sf 21 42 aRg k wn (cDo t L wd p).2 ws), (0, 0)) := liftD hf
  refine aRun_of rfl (aVn_end (stop := fun p => false) 60 ?_)
  refine Exists.intro 0 ?_
  refine Exists.intro 17 ?_
  refine And.intro rfl ?_
  refine And.intro rfl ?_
  refine Exists.intro s (And.intro hs ?_)
  refine Exists.intro 1 ?_
  refine Exists.intro 18 ?_
  refine And.intro rfl ?_
  refine And.intro rfl ?_
  refine Exists.intro s (And.intro hs ?_)
  refine Exists.intro 2 ?_
  refine Exists.intro 19 ?_
  refine And.intro rfl ?_
  refine And.intro rfl ?_
  refine Exists.intro s (And.intro hs ?_)
  refine Exists.intro s (And.intro hs ?_)
  refine And.intro (fun q => absurd hvi (q (101, 83) (by decide))) ?_
  refine And.intro (fun _ => ?_) (And.intro (fun q => absurd (hvi.symm.trans q) (by decide)) (And.intro (fun q => absurd (hvi.symm.trans q) (by decide)) (And.intro (fun q => absurd (hvi.symm.trans q) (by decide)) (And.intro (fun q => absurd (hvi.symm.trans q) (by decide)) trivial))))
  refine Exists.intro _ (And.intro hl ?_)
  exact rfl
theorem r_doStep_s (d : Nat) (hs : aIx st 20 = some s) (r : pRow t L k s p) (ok : okk wd) (hv : t p = 115) : aRun false (d + 6) m_X7_doStep [.ref 8, .ref 42, .int st] (aHk sn sf 21 42 aRg k wn wd ws) = some (.inl (some (.int (cDo t L wd p).1)), (aHk sn sf 21 42 aRg k wn (cDo t L wd p).2 ws), (0, 0)) := by
  have hvi : (k 2 s).toInt = 115 := by rw [r.2.1, hv]; rfl
  have eD : cDo t L wd p = fSell wd (zn (wd 16 3)) ((pS t L p).2.2 0) := by
    unfold cDo
    rw [if_neg (by rw [hv]; decide), if_neg (by rw [hv]; decide), if_neg (by rw [hv]; decide), if_neg (by rw [hv]; decide), if_neg (by rw [hv]; decide)]
  have hf : rZ sn sf wd (d + 5) m_X6_sellSet [.ref 8, .int ((pS t L p).2.2 0)] (fSell wd (zn (wd 16 3)) ((pS t L p).2.2 0)) := r_sellSet d ok.1.1 ok.1.2.1 ok.1.2.2.2.2.1 ok.1.2.2.2.2.2
  rw [← eD, ← r.2.2.1] at hf
  have hl : aRun false (d + 5) m_X6_sellSet [.ref 42, .int (k 3 s)] (aHk sn sf 21 42 aRg k wn wd ws) = some (.inl (some (.int (cDo t L wd p).1)), (aHk sn sf 21 42 aRg k wn (cDo t L wd p).2 ws), (0, 0)) := liftD hf
  refine aRun_of rfl (aVn_end (stop := fun p => false) 60 ?_)
  refine Exists.intro 0 ?_
  refine Exists.intro 17 ?_
  refine And.intro rfl ?_
  refine And.intro rfl ?_
  refine Exists.intro s (And.intro hs ?_)
  refine Exists.intro 1 ?_
  refine Exists.intro 18 ?_
  refine And.intro rfl ?_
  refine And.intro rfl ?_
  refine Exists.intro s (And.intro hs ?_)
  refine Exists.intro 2 ?_
  refine Exists.intro 19 ?_
  refine And.intro rfl ?_
  refine And.intro rfl ?_
  refine Exists.intro s (And.intro hs ?_)
  refine Exists.intro s (And.intro hs ?_)
  refine And.intro (fun _ => ?_) (And.intro (fun q => absurd (hvi.symm.trans q) (by decide)) (And.intro (fun q => absurd (hvi.symm.trans q) (by decide)) (And.intro (fun q => absurd (hvi.symm.trans q) (by decide)) (And.intro (fun q => absurd (hvi.symm.trans q) (by decide)) (And.intro (fun q => absurd (hvi.symm.trans q) (by decide)) trivial)))))
  refine Exists.intro _ (And.intro hl ?_)
  exact rfl
end DS
