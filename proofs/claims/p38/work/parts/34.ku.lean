/-! THE CLASS: best heat, sets, balance, shares, undo, snapshot -/
section KU
variable {sn : Nat} {sf : Nat → Int32} {pn pd : Nat} {rg : Nat → Option Nat} {k wn wd ws : aW} {n g o i j : Nat} {x y z v u s t : Int32}
theorem k_bestHeat (d : Nat) (ok : wOk wn n g o) : aRun false (d + 6) m_X7_bestHeat [.ref 8, .int x] (aHk sn sf 21 42 aRg k wn wd ws) = some (kRes (aHk sn sf 21 42 aRg k wn wd ws) (q_bestHeat wn n x)) := by
  have hf : rW sn sf wn (d + 5) m_X6_isThereToFire [.ref 8] (wAny wn n) := r_isThereToFire (d + 2) ok.1.1 ok.1.2.1 ok.1.2.2.1 ok.1.2.2.2.1
  have hl : aRun false (d + 5) m_X6_isThereToFire [.ref 21] (aHk sn sf 21 42 aRg k wn wd ws) = some (.inl (some (.int (wAny wn n))), (aHk sn sf 21 42 aRg k wn wd ws), (0, 0)) := liftN hf
  have hg : ∀ y, rW sn sf wn (d + 5) m_X6_firstsBy [.ref 8, .int y] (wFirsts wn n y) := fun y => r_firstsBy d ok.1.1 ok.1.2.1 ok.1.2.2.1 ok.1.2.2.2.1 ok.glazes
  have hm : ∀ y, aRun false (d + 5) m_X6_firstsBy [.ref 21, .int y] (aHk sn sf 21 42 aRg k wn wd ws) = some (.inl (some (.int (wFirsts wn n y))), (aHk sn sf 21 42 aRg k wn wd ws), (0, 0)) := fun y => liftN (hg y)
  have main : ∀ (h : ¬ wAny wn n = 0), aEnd (aStep (aRun false (d + 5)) aCls [] aB_X7_bestHeat (some .int) false) (31, [some (.ref 8), some (.int x), some (.int 1000), some (.int 0), some (.int 1000), none], [], (aHk sn sf 21 42 aRg k wn wd ws), (0, 0)) (kRes (aHk sn sf 21 42 aRg k wn wd ws) (q_bestHeat wn n x)) := by
    intro h
    have step : ∀ (m i : Nat) (x1 : Int32) (u : Option Value), i + m = 41 → x1 = Int32.ofNat (1000 + 10 * i) → aEnd (aStep (aRun false (d + 5)) aCls [] aB_X7_bestHeat (some .int) false) (31, [some (.ref 8), some (.int x), some (.int (wBst wn n i).2), some (.int (wBst wn n i).1), some (.int x1), u], [], (aHk sn sf 21 42 aRg k wn wd ws), (0, 0)) (kRes (aHk sn sf 21 42 aRg k wn wd ws) (q_bestHeat wn n x)) := by
      intro m
      induction m with
      | zero =>
        intro i x1 u hi hx1
        have hi : i = 41 := by omega
        subst hi
        refine aVn_end (stop := fun p => p == 31) 60 ?_
        refine And.intro (fun c => ?_) (fun c => ?_)
        · refine And.intro (fun c => ?_) (fun c => ?_)
          · have h0 : x = 0 := cT c
            have e : q_bestHeat wn n x = .inr (wBst wn n 41).2 := by rw [q_bestHeat, if_pos h, if_pos h0]
            exact kR_r e rfl
          · have h0 : ¬ x = 0 := cF c
            have e : q_bestHeat wn n x = .inr (wBst wn n 41).1 := by rw [q_bestHeat, if_pos h, if_neg h0]
            exact kR_r e rfl
        · exfalso
          have h1 : ¬ (1400 : Int32) < x1 := cF c
          rw [hx1] at h1
          exact h1 (by decide)
      | succ m ih =>
        intro i x1 u hi hx1
        have hb : x1 + 10 = Int32.ofNat (1000 + 10 * (i + 1)) := by
          rw [hx1, show 1000 + 10 * (i + 1) = (1000 + 10 * i) + 10 by omega, Int32.ofNat_add (1000 + 10 * i) 10]
          rfl
        have key : ∀ b f, wBst wn n (i + 1) = (f, b) → aEnd (aStep (aRun false (d + 5)) aCls [] aB_X7_bestHeat (some .int) false) (31, [some (.ref 8), some (.int x), some (.int b), some (.int f), some (.int (x1 + 10)), some (.int (wFirsts wn n x1))], [], (aHk sn sf 21 42 aRg k wn wd ws), (0, 0)) (kRes (aHk sn sf 21 42 aRg k wn wd ws) (q_bestHeat wn n x)) := by
          intro b f e
          have q := ih (i + 1) (x1 + 10) (some (.int (wFirsts wn n x1))) (by omega) hb
          rw [e] at q
          exact q
        have eb : wBst wn n (i + 1) = if (wBst wn n i).1 < wFirsts wn n x1 then (wFirsts wn n x1, x1) else wBst wn n i := by rw [hx1]; rfl
        refine aVn_end (stop := fun p => p == 31) 60 ?_
        refine And.intro (fun c => ?_) (fun c => ?_)
        · exfalso
          have h1 : (1400 : Int32) < x1 := cT c
          rw [hx1] at h1
          have := (zI_lt (x := 1400) (i := 1400) (y := Int32.ofNat (1000 + 10 * i)) (n := 1000 + 10 * i) rfl rfl (by omega) (by omega)).mp h1
          omega
        refine Exists.intro _ (And.intro (hm x1) ?_)
        refine And.intro (fun c => ?_) (fun c => ?_)
        · have h1 : wFirsts wn n x1 ≤ (wBst wn n i).1 := cT c
          exact key _ _ (by rw [eb, if_neg (Int32.not_lt.mpr h1)])
        · have h1 : ¬ wFirsts wn n x1 ≤ (wBst wn n i).1 := cF c
          exact key _ _ (by rw [eb, if_pos (Int32.not_le.mp h1)])
    exact step 41 0 1000 none (by omega) rfl
  refine aRun_of rfl (aVn_end (stop := fun p => p == 31) 60 ?_)
  refine Exists.intro _ (And.intro hl ?_)
  refine And.intro (fun c => ?_) (fun c => ?_)
  · have h : ¬ wAny wn n = 0 := cT c
    exact main h
  · have h : ¬ ¬ wAny wn n = 0 := cF c
    have e : q_bestHeat wn n x = .inl 3 := by rw [q_bestHeat, if_neg h]
    exact kR_l e
theorem k_setsX (d : Nat) (c0 : ¬ (0 ≤ x ∧ x < wn 16 5)) : aRun false (d + 6) m_X7_sets [.ref 8, .int x] (aHk sn sf 21 42 aRg k wn wd ws) = some (.inr 2, (aHk sn sf 21 42 aRg k wn wd ws), (1, 6)) := by
  refine aRun_of rfl (aVn_end (stop := fun p => false) 60 ?_)
  refine Exists.intro _ (And.intro (r_needOrderX (d + 3) c0) ?_)
  exact rfl
theorem k_sets (d : Nat) (ok0 : wOk wn n g o) (c0 : 0 ≤ x ∧ x < wn 16 5) : aRun false (d + 6) m_X7_sets [.ref 8, .int x] (aHk sn sf 21 42 aRg k wn wd ws) = some (.inl (some (.int (Int32.ofNat (wAllS n (zn x) 60 (cpW wn wd)).1))), aHk sn sf 21 42 aRg k wn (wAllS n (zn x) 60 (cpW wn wd)).2 ws, (0, 0)) := by
  have ok : wOk (cpW wn wd) n g o := wOk_same (cpW_same wn wd) ok0
  have hxx := aIx_lt c0 ok0.1.2.2.2.2.1 ok0.1.2.2.2.2.2 (by omega)
  have hf : aRun false (d + 5) m_X6_sellAllSets [.ref 8, .int x] (aHw sn sf (cpW wn wd)) = some (.inl (some (.int (Int32.ofNat (wAllS n (zn x) 60 (cpW wn wd)).1))), aHw sn sf (wAllS n (zn x) 60 (cpW wn wd)).2, (0, 0)) := r_sellAllSets d ok.1.1 ok.1.2.1 hxx.2.2 (by have := hxx.2.1; have := ok0.1.2.2.2.2.2; omega)
  have hl : aRun false (d + 5) m_X6_sellAllSets [.ref 42, .int x] (aHk sn sf 21 42 aRg k wn (cpW wn wd) ws) = some (.inl (some (.int (Int32.ofNat (wAllS n (zn x) 60 (cpW wn wd)).1))), aHk sn sf 21 42 aRg k wn (wAllS n (zn x) 60 (cpW wn wd)).2 ws, (0, 0)) := liftD hf
  refine aRun_of rfl (aVn_end (stop := fun p => false) 60 ?_)
  refine Exists.intro _ (And.intro (r_needOrder (d + 3) c0) ?_)
  refine Exists.intro _ (And.intro (r_freshDraft (d + 2)) ?_)
  refine Exists.intro _ (And.intro hl ?_)
  exact rfl
theorem aFd_none (p : Nat → Bool) (q : Nat → Int32) (z : Int32) (m i : Nat) (h : ∀ j, i ≤ j → j < i + m → p j = false) : aFd p q z m i = z := by
  rcases aFd_cases p q z m i with ⟨h1, -⟩ | ⟨j, h1, h2, h3, -⟩
  · exact h1
  · rw [h j h1 h2] at h3
    exact absurd h3 (by decide)
theorem k_isBalanced (d : Nat) (ok : wOk wn n g o) (hl : ∀ j, j < g → wLoad wn n g (Int32.ofNat j) = wRest wn n g (Int32.ofNat j)) : aRun false (d + 6) m_X7_isBalanced [.ref 8] (aHk sn sf 21 42 aRg k wn wd ws) = some (.inl (some (.int 1)), (aHk sn sf 21 42 aRg k wn wd ws), (0, 0)) := by
  have f1 : rW sn sf wn (d + 5) m_X6_isClayBalanced [.ref 8] 1 := r_isClayBalanced (d + 2) ok.1.1 ok.1.2.1 ok.kinds (by rw [if_pos ok.2.2.2.2.1.1])
  have l1 : aRun false (d + 5) m_X6_isClayBalanced [.ref 21] (aHk sn sf 21 42 aRg k wn wd ws) = some (.inl (some (.int 1)), (aHk sn sf 21 42 aRg k wn wd ws), (0, 0)) := liftN f1
  have f2 : rW sn sf wn (d + 5) m_X6_areSalesBalanced [.ref 8] 1 := by
    have q := r_areSalesBalanced (sn := sn) (sf := sf) (d + 2) ok.1.1 ok.1.2.1 ok.1.2.2.2.2.1 ok.1.2.2.2.2.2
    rw [aFd_none _ _ _ _ _ (fun j _ h => by
      show (!decide (wSold wn n (Int32.ofNat j) = wSoldOf wn o j)) = false
      rw [decide_eq_true (ok.sales j (by omega))]
      rfl)] at q
    exact q
  have l2 : aRun false (d + 5) m_X6_areSalesBalanced [.ref 21] (aHk sn sf 21 42 aRg k wn wd ws) = some (.inl (some (.int 1)), (aHk sn sf 21 42 aRg k wn wd ws), (0, 0)) := liftN f2
  have f3 : rW sn sf wn (d + 5) m_X6_areLoadsBalanced [.ref 8] 1 := by
    have q := r_areLoadsBalanced (sn := sn) (sf := sf) (d + 1) ok.1.1 ok.1.2.1 ok.1.2.2.1 ok.1.2.2.2.1 ok.kinds
    rw [aFd_none _ _ _ _ _ (fun j _ h => by
      show (!decide (wLoad wn n g (Int32.ofNat j) = wRest wn n g (Int32.ofNat j))) = false
      rw [decide_eq_true (hl j (by omega))]
      rfl)] at q
    exact q
  have l3 : aRun false (d + 5) m_X6_areLoadsBalanced [.ref 21] (aHk sn sf 21 42 aRg k wn wd ws) = some (.inl (some (.int 1)), (aHk sn sf 21 42 aRg k wn wd ws), (0, 0)) := liftN f3
  refine aRun_of rfl (aVn_end (stop := fun p => false) 60 ?_)
  refine Exists.intro _ (And.intro l1 ?_)
  refine And.intro (fun c => absurd (show false = true from c) (by decide)) (fun _ => ?_)
  refine Exists.intro _ (And.intro l2 ?_)
  refine And.intro (fun c => absurd (show false = true from c) (by decide)) (fun _ => ?_)
  refine Exists.intro _ (And.intro l3 ?_)
  refine And.intro (fun c => absurd (show false = true from c) (by decide)) (fun _ => ?_)
  exact And.intro rfl rfl
def wFired (w : aW) (n : Nat) : Int32 := w 16 3 - aSm (fun j => if w 5 j = 0 then 1 else 0) n 0
def wOfGr (w : aW) (n : Nat) (y : Int32) : Int32 := aSm (fun j => if w 5 j = y then 1 else 0) n 0
theorem k_firstShareX (d : Nat) (ok : wOk wn n g o) (h : wFired wn n = 0) : aRun false (d + 6) m_X7_firstShare [.ref 8] (aHk sn sf 21 42 aRg k wn wd ws) = some (.inr 5, (aHk sn sf 21 42 aRg k wn wd ws), (1, 6)) := by
  have f1 : rW sn sf wn (d + 5) m_X5_countFired [.ref 10] (wFired wn n) := r_countFired (d + 3) ok.1.1 ok.1.2.1
  have l1 : aRun false (d + 5) m_X5_countFired [.ref 23] (aHk sn sf 21 42 aRg k wn wd ws) = some (.inl (some (.int (wFired wn n))), (aHk sn sf 21 42 aRg k wn wd ws), (0, 0)) := liftN f1
  refine aRun_of rfl (aVn_end (stop := fun p => false) 60 ?_)
  refine Exists.intro _ (And.intro l1 ?_)
  exact And.intro (fun c => absurd h (cT c)) (fun _ => rfl)
theorem k_firstShare (d : Nat) (ok : wOk wn n g o) (h : ¬ wFired wn n = 0) (hq : FP.ddiv (FP.i2d (wOfGr wn n 1)) (FP.i2d (wFired wn n)) &&& 0x7fffffffffffffff ≤ 0x7ff0000000000000) : aRun false (d + 6) m_X7_firstShare [.ref 8] (aHk sn sf 21 42 aRg k wn wd ws) = some (.inl (some (.double (FP.ddiv (FP.i2d (wOfGr wn n 1)) (FP.i2d (wFired wn n))))), (aHk sn sf 21 42 aRg k wn wd ws), (0, 0)) := by
  have f1 : rW sn sf wn (d + 5) m_X5_countFired [.ref 10] (wFired wn n) := r_countFired (d + 3) ok.1.1 ok.1.2.1
  have l1 : aRun false (d + 5) m_X5_countFired [.ref 23] (aHk sn sf 21 42 aRg k wn wd ws) = some (.inl (some (.int (wFired wn n))), (aHk sn sf 21 42 aRg k wn wd ws), (0, 0)) := liftN f1
  have f2 : rW sn sf wn (d + 5) m_X5_countOfGrade [.ref 10, .int 1] (wOfGr wn n 1) := r_countOfGrade (d + 4) ok.1.1 ok.1.2.1
  have l2 : aRun false (d + 5) m_X5_countOfGrade [.ref 23, .int 1] (aHk sn sf 21 42 aRg k wn wd ws) = some (.inl (some (.int (wOfGr wn n 1))), (aHk sn sf 21 42 aRg k wn wd ws), (0, 0)) := liftN f2
  refine aRun_of rfl (aVn_end (stop := fun p => false) 60 ?_)
  refine Exists.intro _ (And.intro l1 ?_)
  refine And.intro (fun _ => ?_) (fun c => absurd (cF c) (fun q => q h))
  refine Exists.intro _ (And.intro l2 ?_)
  exact And.intro hq rfl
def wInK (w : aW) (g : Nat) : Int32 := aSm (fun j => if w 8 j = -1 then 0 else 1) g 0
def wLoads (w : aW) (n g : Nat) : Int32 := aSm (fun j => wLoad w n g (Int32.ofNat j)) g 0
theorem k_meanLoadX (d : Nat) (ok : wOk wn n g o) (h : wInK wn g = 0) : aRun false (d + 6) m_X7_meanLoad [.ref 8] (aHk sn sf 21 42 aRg k wn wd ws) = some (.inr 5, (aHk sn sf 21 42 aRg k wn wd ws), (1, 6)) := by
  have f1 : rW sn sf wn (d + 5) m_X3_countInKiln [.ref 18] (wInK wn g) := r_countInKiln (d + 3) ok.1.2.2.1 ok.1.2.2.2.1
  have l1 : aRun false (d + 5) m_X3_countInKiln [.ref 31] (aHk sn sf 21 42 aRg k wn wd ws) = some (.inl (some (.int (wInK wn g))), (aHk sn sf 21 42 aRg k wn wd ws), (0, 0)) := liftN f1
  refine aRun_of rfl (aVn_end (stop := fun p => false) 60 ?_)
  refine Exists.intro _ (And.intro l1 ?_)
  exact And.intro (fun c => absurd h (cT c)) (fun _ => rfl)
theorem k_meanLoad (d : Nat) (ok : wOk wn n g o) (h : ¬ wInK wn g = 0) (hq : FP.fdiv (FP.i2f (wLoads wn n g)) (FP.i2f (wInK wn g)) &&& 0x7fffffff ≤ 0x7f800000) : aRun false (d + 6) m_X7_meanLoad [.ref 8] (aHk sn sf 21 42 aRg k wn wd ws) = some (.inl (some (.float (FP.fdiv (FP.i2f (wLoads wn n g)) (FP.i2f (wInK wn g))))), (aHk sn sf 21 42 aRg k wn wd ws), (0, 0)) := by
  have f1 : rW sn sf wn (d + 5) m_X3_countInKiln [.ref 18] (wInK wn g) := r_countInKiln (d + 3) ok.1.2.2.1 ok.1.2.2.2.1
  have l1 : aRun false (d + 5) m_X3_countInKiln [.ref 31] (aHk sn sf 21 42 aRg k wn wd ws) = some (.inl (some (.int (wInK wn g))), (aHk sn sf 21 42 aRg k wn wd ws), (0, 0)) := liftN f1
  have f2 : rW sn sf wn (d + 5) m_X6_sumOfLoads [.ref 8] (wLoads wn n g) := r_sumOfLoads (d + 1) ok.1.1 ok.1.2.1 ok.1.2.2.1 ok.1.2.2.2.1 ok.kinds
  have l2 : aRun false (d + 5) m_X6_sumOfLoads [.ref 21] (aHk sn sf 21 42 aRg k wn wd ws) = some (.inl (some (.int (wLoads wn n g))), (aHk sn sf 21 42 aRg k wn wd ws), (0, 0)) := liftN f2
  refine aRun_of rfl (aVn_end (stop := fun p => false) 60 ?_)
  refine Exists.intro _ (And.intro l1 ?_)
  refine And.intro (fun _ => ?_) (fun c => absurd (cF c) (fun q => q h))
  refine Exists.intro _ (And.intro l2 ?_)
  exact And.intro hq rfl
/-- the text grows -/
def kApp (k : aW) (j : Nat) (x : Int32) : aW := upw (upw k 6 j x) 7 5 (k 7 5 + 1)
theorem r_isFull (d : Nat) (hv : v = if k 7 5 < 60 then 0 else 1) : aRun false (d + 1) m_X4_isFull [.ref 14] (aHk sn sf 21 42 aRg k wn wd ws) = some (.inl (some (.int v)), (aHk sn sf 21 42 aRg k wn wd ws), (0, 0)) := by
  refine aRun_of rfl (aVn_end (stop := fun p => false) 60 ?_)
  refine And.intro (fun c => ?_) (fun c => ?_)
  · have h : k 7 5 < 60 := cT c
    exact And.intro rfl (aRi (by rw [hv, if_pos h]))
  · have h : ¬ k 7 5 < 60 := cF c
    exact And.intro rfl (aRi (by rw [hv, if_neg h]))
theorem k_appendX (d : Nat) (h : ¬ k 7 5 < 60) : aRun false (d + 6) m_X7_append [.ref 8, .int x] (aHk sn sf 21 42 aRg k wn wd ws) = some (.inr 4, (aHk sn sf 21 42 aRg k wn wd ws), (1, 6)) := by
  refine aRun_of rfl (aVn_end (stop := fun p => false) 60 ?_)
  refine Exists.intro _ (And.intro (r_isFull (v := 1) (d + 4) (by rw [if_neg h])) ?_)
  exact And.intro (fun c => absurd (show false = true from c) (by decide)) (fun _ => rfl)
theorem k_append (d : Nat) (hj : k 7 5 = Int32.ofNat j) (hj60 : j < 60) (hx : (x.toUInt32 % 65536).toInt32 = x) : aRun false (d + 6) m_X7_append [.ref 8, .int x] (aHk sn sf 21 42 aRg k wn wd ws) = some (.inl (some (.int (k 7 5 + 1))), aHk sn sf 21 42 aRg (kApp k j x) wn wd ws, (0, 0)) := by
  have h : k 7 5 < 60 := (zI_lt (n := 60) hj rfl (by omega) (by omega)).mpr hj60
  have hi : aIx (k 7 5) 60 = some j := aIx_of hj hj60 (by omega)
  have ha : aRun false (d + 5) m_X4_add [.ref 14, .int x] (aHk sn sf 21 42 aRg k wn wd ws) = some (.inl none, aHk sn sf 21 42 aRg (kApp k j x) wn wd ws, (0, 0)) := by
    refine aRun_of rfl (aVn_end (stop := fun p => false) 60 ?_)
    refine Exists.intro _ (And.intro (r_isFull (v := 0) (d + 3) (by rw [if_pos h])) ?_)
    refine And.intro (fun c => absurd (show false = true from c) (by decide)) (fun _ => ?_)
    refine And.intro hx ?_
    refine Exists.intro j (And.intro hi ?_)
    exact rfl
  refine aRun_of rfl (aVn_end (stop := fun p => false) 60 ?_)
  refine Exists.intro _ (And.intro (r_isFull (v := 0) (d + 4) (by rw [if_pos h])) ?_)
  refine And.intro (fun _ => ?_) (fun c => absurd (show true = false from c) (by decide))
  refine Exists.intro _ (And.intro ha ?_)
  exact rfl
def kUndo (k : aW) (j : Nat) : aW := upw (upw k 7 4 (Int32.ofNat ((j + 7) % 8))) 7 3 (if k 7 3 - 1 < 0 then 0 else k 7 3 - 1)
theorem rem8u (hx : x = Int32.ofNat j) (hj : j < 8) : x + 8 - 1 - (x + 8 - 1) / 8 * 8 = Int32.ofNat ((j + 7) % 8) := by
  subst hx
  match j, hj with
  | 0, _ => decide
  | 1, _ => decide
  | 2, _ => decide
  | 3, _ => decide
  | 4, _ => decide
  | 5, _ => decide
  | 6, _ => decide
  | 7, _ => decide
theorem k_undoX (d : Nat) (h : k 7 3 = 0) : aRun false (d + 6) m_X7_undo [.ref 8] (aHk sn sf 21 42 aRg k wn wd ws) = some (.inr 4, (aHk sn sf 21 42 aRg k wn wd ws), (1, 6)) := by
  refine aRun_of rfl (aVn_end (stop := fun p => false) 60 ?_)
  exact And.intro (fun c => absurd h (cT c)) (fun _ => rfl)
theorem r_exchange (d : Nat) (hj : k 7 4 = Int32.ofNat j) (hj8 : j < 8) : aRun false (d + 1) m_X0_exchangeLatest [.ref 12, .ref 21] (aHk sn sf 21 42 aRg k wn wd ws) = some (.inl (some (.ref (84 + 21 * ((j + 7) % 8)))), aHk sn sf 21 42 (va_up aRg ((j + 7) % 8) (some 21)) (kUndo k j) wn wd ws, (0, 0)) := by
  have e := rem8u hj hj8
  have hi : aIx (k 7 4 + 8 - 1 - (k 7 4 + 8 - 1) / 8 * 8) 8 = some ((j + 7) % 8) := aIx_of e (by omega) (by omega)
  have key : ∀ z, z = Int32.ofNat ((j + 7) % 8) → ((.inl (some (.ref (84 + 21 * ((j + 7) % 8)))), aHk sn sf 21 42 (va_up aRg ((j + 7) % 8) (some 21)) (upw (upw k 7 4 z) 7 3 (if k 7 3 - 1 < 0 then 0 else k 7 3 - 1)) wn wd ws, (0, 0)) : aR) = (.inl (some (.ref (84 + 21 * ((j + 7) % 8)))), aHk sn sf 21 42 (va_up aRg ((j + 7) % 8) (some 21)) (kUndo k j) wn wd ws, (0, 0)) := fun z e => by rw [e]; rfl
  refine aRun_of rfl (aVn_end (stop := fun p => false) 60 ?_)
  refine And.intro (by decide) ?_
  refine Exists.intro ((j + 7) % 8) ?_
  refine Exists.intro (84 + 21 * ((j + 7) % 8)) ?_
  refine And.intro hi ?_
  refine And.intro (if_pos (show (j + 7) % 8 < 8 by omega)) ?_
  refine And.intro rfl ?_
  refine Exists.intro ((j + 7) % 8) (And.intro hi ?_)
  refine Exists.intro _ (And.intro rfl ?_)
  exact key _ e
theorem k_undo (d : Nat) (hj : k 7 4 = Int32.ofNat j) (hj8 : j < 8) (h : ¬ k 7 3 = 0) : aRun false (d + 6) m_X7_undo [.ref 8] (aHk sn sf 21 42 aRg k wn wd ws) = some (.inl (some (.int (if k 7 3 - 1 < 0 then 0 else k 7 3 - 1))), aHk sn sf (84 + 21 * ((j + 7) % 8)) 42 (va_up aRg ((j + 7) % 8) (some 21)) (kUndo k j) wn wd ws, (0, 0)) := by
  refine aRun_of rfl (aVn_end (stop := fun p => false) 60 ?_)
  refine And.intro (fun _ => ?_) (fun c => absurd (cF c) (fun q => q h))
  refine Exists.intro _ (And.intro (r_exchange (d + 4) hj hj8) ?_)
  exact rfl
end KU
