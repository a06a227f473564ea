/-! THE CLASS: a text is done -/
abbrev okk (w : aW) : Prop := wOk w (zn (w 16 3)) (zn (w 16 4)) (zn (w 16 5))
theorem okk_of {w : aW} {n g o : Nat} (h : wOk w n g o) : okk w := by
  have e1 : zn (w 16 3) = n := zn_of h.1.1 (by have := h.1.2.1; omega)
  have e2 : zn (w 16 4) = g := zn_of h.1.2.2.1 (by have := h.1.2.2.2.1; omega)
  have e3 : zn (w 16 5) = o := zn_of h.1.2.2.2.2.1 (by have := h.1.2.2.2.2.2; omega)
  unfold okk
  rw [e1, e2, e3]
  exact h
/-- a step done -/
def cDo (t : Nat → Int32) (L : Nat) (w : aW) (p : Nat) : aZ := if t p = 116 then fCast w (zn (w 16 3)) ((pS t L p).2.2 0) ((pS t L p).2.2 1) 50 else if t p = 103 then fCoat w ((pS t L p).2.2 0) ((pS t L p).2.2 1) ((pS t L p).2.2 2) else
  if t p = 112 then fPut w (zn (w 16 3)) (zn (w 16 4)) ((pS t L p).2.2 0) ((pS t L p).2.2 1) else if t p = 102 then fFire w (zn (w 16 3)) ((pS t L p).2.2 0) else if t p = 101 then fEmpty w (zn (w 16 3)) ((pS t L p).2.2 0) else fSell w (zn (w 16 3)) ((pS t L p).2.2 0)
def wFail (q : aZ) (i : Nat) : aW := if q.1 = -3 then (if q.2 16 6 = 1 then wAhead1 q.2 11 (Int32.ofNat i) else wAhead2 q.2 11 (Int32.ofNat i)) else wAhead1 (wNote q.2 13 0) 11 (Int32.ofNat i)
def cDos (t : Nat → Int32) (L : Nat) : List Nat → Nat → aW → aZ
  | [], _, w => (0, w)
  | p :: r, i, w => if (cDo t L w p).1 < 0 then (-3, wFail (cDo t L w p) i) else cDos t L r (i + 1) (cDo t L w p).2
section DS
variable {sn : Nat} {sf : Nat → Int32} {k wn wd ws : aW} {n g o i j L p s : Nat} {x y z v u c st : Int32} {t : Nat → Int32}
theorem r_doStep_t (d : Nat) (hs : aIx st 20 = some s) (r : pRow t L k s p) (ok : okk wd) (hv : t p = 116) : aRun false (d + 6) m_X7_doStep [.ref 8, .ref 42, .int st] (aHk sn sf 21 42 aRg k wn wd ws) = some (.inl (some (.int (cDo t L wd p).1)), (aHk sn sf 21 42 aRg k wn (cDo t L wd p).2 ws), (0, 0)) := by
  have hvi : (k 2 s).toInt = 116 := by rw [r.2.1, hv]; rfl
  have eD : cDo t L wd p = fCast wd (zn (wd 16 3)) ((pS t L p).2.2 0) ((pS t L p).2.2 1) 50 := by
    unfold cDo
    rw [if_pos hv]
  have hf : rZ sn sf wd (d + 5) m_X6_throwWares [.ref 8, .int ((pS t L p).2.2 0), .int ((pS t L p).2.2 1), .int 50] (fCast wd (zn (wd 16 3)) ((pS t L p).2.2 0) ((pS t L p).2.2 1) 50) := r_throwWares (d + 2) ok.1.1 ok.1.2.1
  rw [← eD, ← r.2.2.1, ← (r.2.2.2.1 (Or.inl hv))] at hf
  have hl : aRun false (d + 5) m_X6_throwWares [.ref 42, .int (k 3 s), .int (k 4 s), .int 50] (aHk sn sf 21 42 aRg k wn wd ws) = some (.inl (some (.int (cDo t L wd p).1)), (aHk sn sf 21 42 aRg k wn (cDo t L wd p).2 ws), (0, 0)) := liftD hf
  refine aRun_of rfl (aVn_end (stop := fun p => false) 60 ?_)
  refine Exists.intro 0 ?_
  refine Exists.intro 17 ?_
  refine And.intro rfl ?_
  refine And.intro rfl ?_
  refine Exists.intro s (And.intro hs ?_)
  refine Exists.intro 1 ?_
  refine Exists.intro 18 ?_
  refine And.intro rfl ?_
  refine And.intro rfl ?_
  refine Exists.intro s (And.intro hs ?_)
  refine Exists.intro 2 ?_
  refine Exists.intro 19 ?_
  refine And.intro rfl ?_
  refine And.intro rfl ?_
  refine Exists.intro s (And.intro hs ?_)
  refine Exists.intro s (And.intro hs ?_)
  refine And.intro (fun q => absurd hvi (q (116, 49) (by decide))) ?_
  refine And.intro (fun q => absurd (hvi.symm.trans q) (by decide)) ?_
  refine And.intro (fun q => absurd (hvi.symm.trans q) (by decide)) ?_
  refine And.intro (fun q => absurd (hvi.symm.trans q) (by decide)) ?_
  refine And.intro (fun q => absurd (hvi.symm.trans q) (by decide)) ?_
  refine And.intro (fun _ => ?_) trivial
  refine Exists.intro _ (And.intro hl ?_)
  exact rfl
theorem r_doStep_g (d : Nat) (hs : aIx st 20 = some s) (r : pRow t L k s p) (ok : okk wd) (hv : t p = 103) : aRun false (d + 6) m_X7_doStep [.ref 8, .ref 42, .int st] (aHk sn sf 21 42 aRg k wn wd ws) = some (.inl (some (.int (cDo t L wd p).1)), (aHk sn sf 21 42 aRg k wn (cDo t L wd p).2 ws), (0, 0)) := by
  have hvi : (k 2 s).toInt = 103 := by rw [r.2.1, hv]; rfl
  have eD : cDo t L wd p = fCoat wd ((pS t L p).2.2 0) ((pS t L p).2.2 1) ((pS t L p).2.2 2) := by
    unfold cDo
    rw [if_neg (by rw [hv]; decide), if_pos hv]
  have hf : rZ sn sf wd (d + 5) m_X6_coatWare [.ref 8, .int ((pS t L p).2.2 0), .int ((pS t L p).2.2 1), .int ((pS t L p).2.2 2)] (fCoat wd ((pS t L p).2.2 0) ((pS t L p).2.2 1) ((pS t L p).2.2 2)) := r_coatWare (d + 2) ok.1.1 ok.1.2.1
  rw [← eD, ← r.2.2.1, ← (r.2.2.2.1 (Or.inr (Or.inl hv))), ← (r.2.2.2.2 hv)] at hf
  have hl : aRun false (d + 5) m_X6_coatWare [.ref 42, .int (k 3 s), .int (k 4 s), .int (k 5 s)] (aHk sn sf 21 42 aRg k wn wd ws) = some (.inl (some (.int (cDo t L wd p).1)), (aHk sn sf 21 42 aRg k wn (cDo t L wd p).2 ws), (0, 0)) := liftD hf
  refine aRun_of rfl (aVn_end (stop := fun p => false) 60 ?_)
  refine Exists.intro 0 ?_
  refine Exists.intro 17 ?_
  refine And.intro rfl ?_
  refine And.intro rfl ?_
  refine Exists.intro s (And.intro hs ?_)
  refine Exists.intro 1 ?_
  refine Exists.intro 18 ?_
  refine And.intro rfl ?_
  refine And.intro rfl ?_
  refine Exists.intro s (And.intro hs ?_)
  refine Exists.intro 2 ?_
  refine Exists.intro 19 ?_
  refine And.intro rfl ?_
  refine And.intro rfl ?_
  refine Exists.intro s (And.intro hs ?_)
  refine Exists.intro s (And.intro hs ?_)
  refine And.intro (fun q => absurd hvi (q (103, 59) (by decide))) ?_
  refine And.intro (fun q => absurd (hvi.symm.trans q) (by decide)) ?_
  refine And.intro (fun q => absurd (hvi.symm.trans q) (by decide)) ?_
  refine And.intro (fun _ => ?_) (And.intro (fun q => absurd (hvi.symm.trans q) (by decide)) (And.intro (fun q => absurd (hvi.symm.trans q) (by decide)) trivial))
  refine Exists.intro _ (And.intro hl ?_)
  exact rfl
theorem r_doStep_p (d : Nat) (hs : aIx st 20 = some s) (r : pRow t L k s p) (ok : okk wd) (hv : t p = 112) : aRun false (d + 6) m_X7_doStep [.ref 8, .ref 42, .int st] (aHk sn sf 21 42 aRg k wn wd ws) = some (.inl (some (.int (cDo t L wd p).1)), (aHk sn sf 21 42 aRg k wn (cDo t L wd p).2 ws), (0, 0)) := by
  have hvi : (k 2 s).toInt = 112 := by rw [r.2.1, hv]; rfl
  have eD : cDo t L wd p = fPut wd (zn (wd 16 3)) (zn (wd 16 4)) ((pS t L p).2.2 0) ((pS t L p).2.2 1) := by
    unfold cDo
    rw [if_neg (by rw [hv]; decide), if_neg (by rw [hv]; decide), if_pos hv]
  have hf : rZ sn sf wd (d + 5) m_X6_putWare [.ref 8, .int ((pS t L p).2.2 0), .int ((pS t L p).2.2 1)] (fPut wd (zn (wd 16 3)) (zn (wd 16 4)) ((pS t L p).2.2 0) ((pS t L p).2.2 1)) := r_putWare d ok.1.1 ok.1.2.1 ok.1.2.2.1 ok.1.2.2.2.1 ok.kinds ok.levels
  rw [← eD, ← r.2.2.1, ← (r.2.2.2.1 (Or.inr (Or.inr hv)))] at hf
  have hl : aRun false (d + 5) m_X6_putWare [.ref 42, .int (k 3 s), .int (k 4 s)] (aHk sn sf 21 42 aRg k wn wd ws) = some (.inl (some (.int (cDo t L wd p).1)), (aHk sn sf 21 42 aRg k wn (cDo t L wd p).2 ws), (0, 0)) := liftD hf
  refine aRun_of rfl (aVn_end (stop := fun p => false) 60 ?_)
  refine Exists.intro 0 ?_
  refine Exists.intro 17 ?_
  refine And.intro rfl ?_
  refine And.intro rfl ?_
  refine Exists.intro s (And.intro hs ?_)
  refine Exists.intro 1 ?_
  refine Exists.intro 18 ?_
  refine And.intro rfl ?_
  refine And.intro rfl ?_
  refine Exists.intro s (And.intro hs ?_)
  refine Exists.intro 2 ?_
  refine Exists.intro 19 ?_
  refine And.intro rfl ?_
  refine And.intro rfl ?_
  refine Exists.intro s (And.intro hs ?_)
  refine Exists.intro s (And.intro hs ?_)
  refine And.intro (fun q => absurd hvi (q (112, 69) (by decide))) ?_
  refine And.intro (fun q => absurd (hvi.symm.trans q) (by decide)) ?_
  refine And.intro (fun q => absurd (hvi.symm.trans q) (by decide)) ?_
  refine And.intro (fun q => absurd (hvi.symm.trans q) (by decide)) ?_
  refine And.intro (fun _ => ?_) (And.intro (fun q => absurd (hvi.symm.trans q) (by decide)) trivial)
  refine Exists.intro _ (And.intro hl ?_)
  exact rfl
theorem r_doStep_f (d : Nat) (hs : aIx st 20 = some s) (r : pRow t L k s p) (ok : okk wd) (hv : t p = 102) : aRun false (d + 6) m_X7_doStep [.ref 8, .ref 42, .int st] (aHk sn sf 21 42 aRg k wn wd ws) = some (.inl (some (.int (cDo t L wd p).1)), (aHk sn sf 21 42 aRg k wn (cDo t L wd p).2 ws), (0, 0)) := by
  have hvi : (k 2 s).toInt = 102 := by rw [r.2.1, hv]; rfl
  have eD : cDo t L wd p = fFire wd (zn (wd 16 3)) ((pS t L p).2.2 0) := by
    unfold cDo
    rw [if_neg (by rw [hv]; decide), if_neg (by rw [hv]; decide), if_neg (by rw [hv]; decide), if_pos hv]
  have hf : rZ sn sf wd (d + 5) m_X6_fireWares [.ref 8, .int ((pS t L p).2.2 0)] (fFire wd (zn (wd 16 3)) ((pS t L p).2.2 0)) := r_fireWares d ok.1.1 ok.1.2.1 ok.1.2.2.1 ok.1.2.2.2.1 ok.glazes
  rw [← eD, ← r.2.2.1] at hf
  have hl : aRun false (d + 5) m_X6_fireWares [.ref 42, .int (k 3 s)] (aHk sn sf 21 42 aRg k wn wd ws) = some (.inl (some (.int (cDo t L wd p).1)), (aHk sn sf 21 42 aRg k wn (cDo t L wd p).2 ws), (0, 0)) := liftD hf
  refine aRun_of rfl (aVn_end (stop := fun p => false) 60 ?_)
  refine Exists.intro 0 ?_
  refine Exists.intro 17 ?_
  refine And.intro rfl ?_
  refine And.intro rfl ?_
  refine Exists.intro s (And.intro hs ?_)
  refine Exists.intro 1 ?_
  refine Exists.intro 18 ?_
  refine And.intro rfl ?_
  refine And.intro rfl ?_
  refine Exists.intro s (And.intro hs ?_)
  refine Exists.intro 2 ?_
  refine Exists.intro 19 ?_
  refine And.intro rfl ?_
  refine And.intro rfl ?_
  refine Exists.intro s (And.intro hs ?_)
  refine Exists.intro s (And.intro hs ?_)
  refine And.intro (fun q => absurd hvi (q (102, 77) (by decide))) ?_
  refine And.intro (fun q => absurd (hvi.symm.trans q) (by decide)) ?_
  refine And.intro (fun _ => ?_) (And.intro (fun q => absurd (hvi.symm.trans q) (by decide)) (And.intro (fun q => absurd (hvi.symm.trans q) (by decide)) (And.intro (fun q => absurd (hvi.symm.trans q) (by decide)) trivial)))
  refine Exists.intro _ (And.intro hl ?_)
  exact rfl
theorem r_doStep_e (d : Nat) (hs : aIx st 20 = some s) (r : pRow t L k s p) (ok : okk wd) (hv : t p = 101) : aRun false (d + 6) m_X7_doStep [.ref 8, .ref 42, .int st] (aHk sn sf 21 42 aRg k wn wd ws) = some (.inl (some (.int (cDo t L wd p).1)), (aHk sn sf 21 42 aRg k wn (cDo t L wd p).2 ws), (0, 0)) := by
  have hvi : (k 2 s).toInt = 101 := by rw [r.2.1, hv]; rfl
  have eD : cDo t L wd p = fEmpty wd (zn (wd 16 3)) ((pS t L p).2.2 0) := by
    unfold cDo
    rw [if_neg (by rw [hv]; decide), if_neg (by rw [hv]; decide), if_neg (by rw [hv]; decide), if_neg (by rw [hv]; decide), if_pos hv]
  have hf : rZ sn sf wd (d + 5) m_X6_emptySaggar [.ref 8, .int ((pS t L p).2.2 0)] (fEmpty wd (zn (wd 16 3)) ((pS t L p).2.2 0)) := r_emptySaggar (d + 2) ok.1.1 ok.1.2.1
  rw [← eD, ← r.2.2.1] at hf
  have hl : aRun false (d + 5) m_X6_emptySaggar [.ref 42, .int (k 3 s)] (aHk sn sf 21 42 aRg k wn wd ws) = some (.inl (some (.int (cDo t L wd p).1)), (aHk sn sf 21 42 aRg k wn (cDo t L wd p).2 ws), (0, 0)) := liftD hf
  refine aRun_of rfl (aVn_end (stop := fun p => false) 60 ?_)
  refine Exists.intro 0 ?_
  refine Exists.intro 17 ?_
  refine And.intro rfl ?_
  refine And.intro rfl ?_
  refine Exists.intro s (And.intro hs ?_)
  refine Exists.intro 1 ?_
  refine Exists.intro 18 ?_
  refine And.intro rfl ?_
  refine And.intro rfl ?_
  refine Exists.intro s (And.intro hs ?_)
  refine Exists.intro 2 ?_
  refine Exists.intro 19 ?_
  refine And.intro rfl ?_
  refine And.intro rfl ?_
  refine Exists.intro s (And.intro hs ?_)
  refine Exists.intro s (And.intro hs ?_)
  refine And.intro (fun q => absurd hvi (q (101, 83) (by decide))) ?_
  refine And.intro (fun _ => ?_) (And.intro (fun q => absurd (hvi.symm.trans q) (by decide)) (And.intro (fun q => absurd (hvi.symm.trans q) (by decide)) (And.intro (fun q => absurd (hvi.symm.trans q) (by decide)) (And.intro (fun q => absurd (hvi.symm.trans q) (by decide)) trivial))))
  refine Exists.intro _ (And.intro hl ?_)
  exact rfl
theorem r_doStep_s (d : Nat) (hs : aIx st 20 = some s) (r : pRow t L k s p) (ok : okk wd) (hv : t p = 115) : aRun false (d + 6) m_X7_doStep [.ref 8, .ref 42, .int st] (aHk sn sf 21 42 aRg k wn wd ws) = some (.inl (some (.int (cDo t L wd p).1)), (aHk sn sf 21 42 aRg k wn (cDo t L wd p).2 ws), (0, 0)) := by
  have hvi : (k 2 s).toInt = 115 := by rw [r.2.1, hv]; rfl
  have eD : cDo t L wd p = fSell wd (zn (wd 16 3)) ((pS t L p).2.2 0) := by
    unfold cDo
    rw [if_neg (by rw [hv]; decide), if_neg (by rw [hv]; decide), if_neg (by rw [hv]; decide), if_neg (by rw [hv]; decide), if_neg (by rw [hv]; decide)]
  have hf : rZ sn sf wd (d + 5) m_X6_sellSet [.ref 8, .int ((pS t L p).2.2 0)] (fSell wd (zn (wd 16 3)) ((pS t L p).2.2 0)) := r_sellSet d ok.1.1 ok.1.2.1 ok.1.2.2.2.2.1 ok.1.2.2.2.2.2
  rw [← eD, ← r.2.2.1] at hf
  have hl : aRun false (d + 5) m_X6_sellSet [.ref 42, .int (k 3 s)] (aHk sn sf 21 42 aRg k wn wd ws) = some (.inl (some (.int (cDo t L wd p).1)), (aHk sn sf 21 42 aRg k wn (cDo t L wd p).2 ws), (0, 0)) := liftD hf
  refine aRun_of rfl (aVn_end (stop := fun p => false) 60 ?_)
  refine Exists.intro 0 ?_
  refine Exists.intro 17 ?_
  refine And.intro rfl ?_
  refine And.intro rfl ?_
  refine Exists.intro s (And.intro hs ?_)
  refine Exists.intro 1 ?_
  refine Exists.intro 18 ?_
  refine And.intro rfl ?_
  refine And.intro rfl ?_
  refine Exists.intro s (And.intro hs ?_)
  refine Exists.intro 2 ?_
  refine Exists.intro 19 ?_
  refine And.intro rfl ?_
  refine And.intro rfl ?_
  refine Exists.intro s (And.intro hs ?_)
  refine Exists.intro s (And.intro hs ?_)
  refine And.intro (fun _ => ?_) (And.intro (fun q => absurd (hvi.symm.trans q) (by decide)) (And.intro (fun q => absurd (hvi.symm.trans q) (by decide)) (And.intro (fun q => absurd (hvi.symm.trans q) (by decide)) (And.intro (fun q => absurd (hvi.symm.trans q) (by decide)) (And.intro (fun q => absurd (hvi.symm.trans q) (by decide)) trivial)))))
  refine Exists.intro _ (And.intro hl ?_)
  exact rfl
theorem pOf_some {c : Int32} (h : ¬ pOf c = none) : c = 116 ∨ c = 103 ∨ c = 112 ∨ c = 102 ∨ c = 101 ∨ c = 115 := by
  by_cases h1 : c = 116
  · exact Or.inl h1
  by_cases h2 : c = 103
  · exact Or.inr (Or.inl h2)
  by_cases h3 : c = 112
  · exact Or.inr (Or.inr (Or.inl h3))
  by_cases h4 : c = 102
  · exact Or.inr (Or.inr (Or.inr (Or.inl h4)))
  by_cases h5 : c = 101
  · exact Or.inr (Or.inr (Or.inr (Or.inr (Or.inl h5))))
  by_cases h6 : c = 115
  · exact Or.inr (Or.inr (Or.inr (Or.inr (Or.inr h6))))
  exact absurd (by rw [pOf, if_neg h1, if_neg h2, if_neg h3, if_neg h4, if_neg h5, if_neg h6]) h
theorem pRow_verb {s : Nat} (r : pRow t L k s p) : t p = 116 ∨ t p = 103 ∨ t p = 112 ∨ t p = 102 ∨ t p = 101 ∨ t p = 115 := by
  refine pOf_some fun q => ?_
  have h1 := r.1
  by_cases c : p < L
  · rw [pS_no c q] at h1
    exact absurd (show false = true from h1) (by decide)
  · rw [pS_end c] at h1
    exact absurd (show false = true from h1) (by decide)
theorem r_doStep (d : Nat) (hs : aIx st 20 = some s) (r : pRow t L k s p) (ok : okk wd) : aRun false (d + 6) m_X7_doStep [.ref 8, .ref 42, .int st] (aHk sn sf 21 42 aRg k wn wd ws) = some (.inl (some (.int (cDo t L wd p).1)), (aHk sn sf 21 42 aRg k wn (cDo t L wd p).2 ws), (0, 0)) := by
  rcases pRow_verb r with h | h | h | h | h | h
  · exact r_doStep_t d hs r ok h
  · exact r_doStep_g d hs r ok h
  · exact r_doStep_p d hs r ok h
  · exact r_doStep_f d hs r ok h
  · exact r_doStep_e d hs r ok h
  · exact r_doStep_s d hs r ok h
/-- a step that is done leaves a Works as it must be; one that is refused, one reason or two -/
def cKeeps : Prop := ∀ (t : Nat → Int32) (L : Nat) (w : aW) (p : Nat), okk w → (0 ≤ (cDo t L w p).1 → okk (cDo t L w p).2) ∧ ((cDo t L w p).1 = -3 → (cDo t L w p).2 16 6 = 1 ∨ (cDo t L w p).2 16 6 = 2)
theorem l_steps (hK : cKeeps) (d : Nat) {N : Nat} (hN : N ≤ 20) (hk : k 7 6 = Int32.ofNat N) {q : aZ} {r0 : aR} (he : ∀ (res st : Int32), (res < 0 ↔ q.1 < 0) → aEnd (aStep (aRun false (d + 6)) aCls [] aB_X7_read (some .int) false) (83, [some (.ref 8), some (.ref 42), some (.int res), some (.int st)], [], (aHk sn sf 21 42 aRg k wn q.2 ws), (0, 0)) r0) :
    ∀ (ps : List Nat) (i : Nat) (w : aW) (res st : Int32), i + ps.length = N → st = Int32.ofNat i → 0 ≤ res → okk w → (∀ m p', ps[m]? = some p' → pRow t L k (i + m) p') → q = cDos t L ps i w →
    aEnd (aStep (aRun false (d + 6)) aCls [] aB_X7_read (some .int) false) (45, [some (.ref 8), some (.ref 42), some (.int res), some (.int st)], [], (aHk sn sf 21 42 aRg k wn w ws), (0, 0)) r0
  | [], i, w, res, st, hi, hst, hres, ok, hp, hq => by
    have hi : i = N := by have : i + 0 = N := hi; omega
    subst hi
    have hq : q = (0, w) := hq
    subst hq
    refine aVn_end (stop := fun p => p == 45 || p == 83) 60 ?_
    refine And.intro (fun _ => ?_) (fun e => absurd (zgeF e hst hk (by omega) (by omega)) (by omega))
    exact he res st ⟨fun e => absurd hres (Int32.not_le.mpr e), fun e => absurd (show (0 : Int32) < 0 from e) (by decide)⟩
  | p :: ps, i, w, res, st, hi, hst, hres, ok, hp, hq => by
    have hi : i + (ps.length + 1) = N := hi
    have hs20 : aIx st 20 = some i := aIx_of hst (by omega) (by omega)
    have hrun := r_doStep (sn := sn) (sf := sf) (k := k) (wn := wn) (ws := ws) (wd := w) (t := t) (L := L) (p := p) (s := i) d hs20 (hp 0 p rfl) ok
    have hkp := hK t L w p ok
    by_cases c : (cDo t L w p).1 < 0
    · have hq : q = (-3, wFail (cDo t L w p) i) := hq.trans (if_pos c)
      have hnf : rV sn sf (cDo t L w p).2 (wFail (cDo t L w p) i) (d + 6) m_X6_noteFailedStep [.ref 8, .int st, .int (cDo t L w p).1] := by
        unfold wFail
        rw [← hst]
        by_cases c3 : (cDo t L w p).1 = -3
        · rw [if_pos c3]
          by_cases c4 : (cDo t L w p).2 16 6 = 1
          · rw [if_pos c4]
            exact r_noteFailed2 (d + 4) c3 c4
          · rw [if_neg c4]
            exact r_noteFailed3 (d + 4) c3 ((hkp.2 c3).resolve_left c4)
        · rw [if_neg c3]
          exact r_noteFailed1 (d + 4) c3
      have hnl : aRun false (d + 6) m_X6_noteFailedStep [.ref 42, .int st, .int (cDo t L w p).1] (aHk sn sf 21 42 aRg k wn (cDo t L w p).2 ws) = some (.inl none, (aHk sn sf 21 42 aRg k wn (wFail (cDo t L w p) i) ws), (0, 0)) := liftD hnf
      subst hq
      refine aVn_end (stop := fun p => p == 45 || p == 83) 60 ?_
      refine And.intro (fun e => absurd (zgeT e hst hk (by omega) (by omega)) (by omega)) (fun _ => ?_)
      refine And.intro (fun e => absurd hres (Int32.not_le.mpr (cT e))) (fun _ => ?_)
      refine Exists.intro _ (And.intro hrun ?_)
      refine And.intro (fun e => absurd (cT e) (Int32.not_le.mpr c)) (fun _ => ?_)
      refine Exists.intro _ (And.intro hnl ?_)
      refine aVn_end (stop := fun p => p == 83) 60 ?_
      refine And.intro (fun _ => ?_) (fun _ => ?_)
      · exact he _ _ ⟨fun _ => (by decide : (-3 : Int32) < 0), fun _ => c⟩
      refine And.intro (fun _ => ?_) (fun e => absurd c (cF e))
      exact he _ _ ⟨fun _ => (by decide : (-3 : Int32) < 0), fun _ => c⟩
    · have hq : q = cDos t L ps (i + 1) (cDo t L w p).2 := hq.trans (if_neg c)
      have ih := l_steps hK d hN hk he ps (i + 1) (cDo t L w p).2 (cDo t L w p).1 (st + 1) (by omega) (zI_s hst) (Int32.not_lt.mp c) (hkp.1 (Int32.not_lt.mp c)) (fun m p' h => by rw [show i + 1 + m = i + (m + 1) by omega]; exact hp (m + 1) p' h) hq
      refine aVn_end (stop := fun p => p == 45 || p == 83) 60 ?_
      refine And.intro (fun e => absurd (zgeT e hst hk (by omega) (by omega)) (by omega)) (fun _ => ?_)
      refine And.intro (fun e => absurd hres (Int32.not_le.mpr (cT e))) (fun _ => ?_)
      refine Exists.intro _ (And.intro hrun ?_)
      refine And.intro (fun _ => ?_) (fun e => absurd (Int32.not_lt.mp c) (cF e))
      exact ih
theorem r_clear (d : Nat) : aRun false (d + 1) m_X4_clear [.ref 14] (aHk sn sf 21 42 aRg k wn wd ws) = some (.inl none, (aHk sn sf 21 42 aRg (upw k 7 5 0) wn wd ws), (0, 0)) := by
  refine aRun_of rfl (aVn_end (stop := fun p => false) 60 ?_)
  exact rfl
theorem pGo_len (t : Nat → Int32) (L : Nat) : ∀ (f p : Nat), (pGo t L f p).1.length ≤ f
  | 0, p => Nat.le_refl _
  | f + 1, p => by
    have := pGo_len t L f ((pS t L p).2.1 + 1)
    unfold pGo
    split
    · split
      · split
        · show _ + 1 ≤ f + 1
          omega
        · show 0 + 1 ≤ f + 1
          omega
      · show 0 + 1 ≤ f + 1
        omega
    · exact Nat.zero_le _
/-- what read answers for a text without a fault -/
def cRead (t : Nat → Int32) (L : Nat) (w : aW) : aZ := (if (cDos t L (pGo t L 20 0).1 0 w).1 < 0 then -3 else Int32.ofNat (pGo t L 20 0).1.length, (cDos t L (pGo t L 20 0).1 0 w).2)
/-- the kiln's own numbers behind a read -/
def kRead (k k1 : aW) (f : Int32) : Prop := k1 7 1 = f ∧ k1 7 5 = 0 ∧ ∀ a j, ¬ (a = 7 ∧ (j = 1 ∨ j = 5 ∨ j = 6 ∨ j = 7)) → ¬ (a = 2 ∨ a = 3 ∨ a = 4 ∨ a = 5) → k1 a j = k a j
theorem k_readX (d : Nat) (hl : k 7 5 = Int32.ofNat L) (hL : L ≤ 60) (hch : ∀ j, j < L → ((k 6 j).toUInt32 % 65536).toInt32 = k 6 j) (hf : ¬ (pGo (k 6) L 20 0).2 = -1) : ∃ k1, aRun false (d + 7) m_X7_read [.ref 8] (aHk sn sf 21 42 aRg k wn wd ws) = some (.inr 0, (aHk sn sf 21 42 aRg k1 wn wd ws), (1, 6)) ∧ kRead k k1 (pGo (k 6) L 20 0).2 := by
  obtain ⟨k1, h1, h2, h3, h4⟩ := r_parse (sn := sn) (sf := sf) (wn := wn) (wd := wd) (ws := ws) (d + 3) hl hL hch
  refine ⟨upw (upw k1 7 1 (pGo (k 6) L 20 0).2) 7 5 0, ?_, (upw_ne (by omega)).trans upw_eq, upw_eq, fun a j q1 q2 => ?_⟩
  · refine aRun_of rfl (aVn_end (stop := fun p => false) 60 ?_)
    refine Exists.intro _ (And.intro h1 ?_)
    refine Exists.intro _ (And.intro (r_clear (k := upw k1 7 1 (pGo (k 6) L 20 0).2) (d + 5)) ?_)
    refine And.intro (fun q => absurd (cT q) hf) (fun _ => ?_)
    exact rfl
  · exact (upw_ne (by omega)).trans ((upw_ne (by omega)).trans (h2 a j (by omega) q2))
theorem k_read (hK : cKeeps) (d : Nat) (hj : k 7 4 = Int32.ofNat j) (hj8 : j < 8) (ok0 : wOk wn n g o) (hl : k 7 5 = Int32.ofNat L) (hL : L ≤ 60) (hch : ∀ j, j < L → ((k 6 j).toUInt32 % 65536).toInt32 = k 6 j) (hf : (pGo (k 6) L 20 0).2 = -1) : ∃ k1, aRun false (d + 7) m_X7_read [.ref 8] (aHk sn sf 21 42 aRg k wn wd ws) = some (kSet sn sf k1 wn ws j (cRead (k 6) L (cpW wn wd))) ∧ kRead k k1 (-1) := by
  obtain ⟨k1, h1, h2, h3, h4⟩ := r_parse (sn := sn) (sf := sf) (wn := wn) (wd := wd) (ws := ws) (d + 3) hl hL hch
  have ok : okk (cpW wn wd) := okk_of (wOk_same (cpW_same wn wd) ok0)
  rw [hf] at h1
  have h7 : (upw (upw k1 7 1 (-1)) 7 5 0) 7 6 = Int32.ofNat (pGo (k 6) L 20 0).1.length := h3
  have hj1 : (upw (upw k1 7 1 (-1)) 7 5 0) 7 4 = Int32.ofNat j := ((upw_ne (by omega)).trans ((upw_ne (by omega)).trans (h2 7 4 (by omega) (by omega)))).trans hj
  refine ⟨upw (upw k1 7 1 (-1)) 7 5 0, ?_, (upw_ne (by omega)).trans upw_eq, upw_eq, fun a j q1 q2 => (upw_ne (by omega)).trans ((upw_ne (by omega)).trans (h2 a j (by omega) q2))⟩
  have es := r_settle (sn := sn) (sf := sf) (wn := wn) (ws := ws) (d + 4) hj1 hj8 (p := cRead (k 6) L (cpW wn wd))
  have tail : ∀ (res st : Int32), (res < 0 ↔ (cDos (k 6) L (pGo (k 6) L 20 0).1 0 (cpW wn wd)).1 < 0) → aEnd (aStep (aRun false (d + 6)) aCls [] aB_X7_read (some .int) false) (83, [some (.ref 8), some (.ref 42), some (.int res), some (.int st)], [], (aHk sn sf 21 42 aRg (upw (upw k1 7 1 (-1)) 7 5 0) wn (cDos (k 6) L (pGo (k 6) L 20 0).1 0 (cpW wn wd)).2 ws), (0, 0)) (kSet sn sf (upw (upw k1 7 1 (-1)) 7 5 0) wn ws j (cRead (k 6) L (cpW wn wd))) := by
    intro res st hr
    have e1 : (cRead (k 6) L (cpW wn wd)).1 = if res < 0 then -3 else Int32.ofNat (pGo (k 6) L 20 0).1.length := by
      show (if _ then _ else _) = _
      by_cases c : res < 0
      · rw [if_pos c, if_pos (hr.mp c)]
      · rw [if_neg c, if_neg (fun q => c (hr.mpr q))]
    have e2 : (cRead (k 6) L (cpW wn wd)).2 = (cDos (k 6) L (pGo (k 6) L 20 0).1 0 (cpW wn wd)).2 := rfl
    generalize cRead (k 6) L (cpW wn wd) = P at es e1 e2 ⊢
    obtain ⟨p1, p2⟩ := P
    dsimp only at es e1 e2
    subst e2
    have fin : aEnd (aStep (aRun false (d + 6)) aCls [] aB_X7_read (some .int) false) (100, [some (.ref 8), some (.ref 42), some (.int res), some (.int st)], [.int p1, .ref 8], (aHk sn sf 21 42 aRg (upw (upw k1 7 1 (-1)) 7 5 0) wn (cDos (k 6) L (pGo (k 6) L 20 0).1 0 (cpW wn wd)).2 ws), (0, 0)) (kSet sn sf (upw (upw k1 7 1 (-1)) 7 5 0) wn ws j (p1, (cDos (k 6) L (pGo (k 6) L 20 0).1 0 (cpW wn wd)).2)) := by
      unfold kSet at es ⊢
      dsimp only at es ⊢
      by_cases g1 : p1 = -1
      · rw [if_pos g1] at es ⊢
        refine aVn_end (stop := fun p => false) 60 ?_
        refine Exists.intro _ (And.intro es ?_)
        exact rfl
      rw [if_neg g1] at es ⊢
      by_cases g2 : p1 = -2
      · rw [if_pos g2] at es ⊢
        refine aVn_end (stop := fun p => false) 60 ?_
        refine Exists.intro _ (And.intro es ?_)
        exact rfl
      rw [if_neg g2] at es ⊢
      by_cases g3 : p1 = -3
      · rw [if_pos g3] at es ⊢
        refine aVn_end (stop := fun p => false) 60 ?_
        refine Exists.intro _ (And.intro es ?_)
        exact rfl
      rw [if_neg g3] at es ⊢
      refine aVn_end (stop := fun p => false) 60 ?_
      refine Exists.intro _ (And.intro es ?_)
      exact rfl
    by_cases c : res < 0
    · rw [if_pos c] at e1
      subst e1
      refine aVn_end (stop := fun p => p == 100) 60 ?_
      refine And.intro (fun q => absurd (cT q) (Int32.not_le.mpr c)) (fun _ => ?_)
      exact fin
    · rw [if_neg c, ← h7] at e1
      subst e1
      refine aVn_end (stop := fun p => p == 100) 60 ?_
      refine And.intro (fun _ => ?_) (fun q => absurd (Int32.not_lt.mp c) (cF q))
      exact fin
  have main := l_steps (sn := sn) (sf := sf) (k := upw (upw k1 7 1 (-1)) 7 5 0) (wn := wn) (ws := ws) (t := k 6) (L := L) hK d (pGo_len (k 6) L 20 0) h7 tail (pGo (k 6) L 20 0).1 0 (cpW wn wd) 0 0 (by omega) rfl (by decide) ok (fun m p' h => by rw [Nat.zero_add]; exact h4 m p' h) rfl
  refine aRun_of rfl (aVn_end (stop := fun p => p == 45) 60 ?_)
  refine Exists.intro _ (And.intro h1 ?_)
  refine Exists.intro _ (And.intro (r_clear (k := upw k1 7 1 (-1)) (d + 5)) ?_)
  refine And.intro (fun _ => ?_) (fun q => absurd (show true = false from q) (by decide))
  refine Exists.intro _ (And.intro (r_freshDraft (d + 3)) ?_)
  exact main
end DS
