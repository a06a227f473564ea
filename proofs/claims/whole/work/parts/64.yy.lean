/-! THE MODEL'S ANSWERS: the balance -/
def wClay (w : aW) (n : Nat) : Int32 := w 16 0 + aSm (fun j => fSz (w 6 j)) n 0
def wSets (w : aW) (o : Nat) : Int32 := aSm (fun i => aSm (fun k => w 13 (i * 4 + k) * w 12 i) 4 0) o 0
section YY
variable {sn : Nat} {sf : Nat → Int32} {m m1 m2 w : aW} {n g o i j k f b L : Nat} {x y z u v t c : Int32}
theorem y_setsAgain (d : Nat) (q : aRun false (d + 8) m_X8_sets [.ref 8, .int y] (aHn sn sf m) = some (.inl (some (.int v)), aHn sn sf m1, (0, 0))) : aRun false (d + 9) m_X8_setsAgain [.ref 8, .int y] (aHn sn sf m) = some (.inl (some (.int v)), aHn sn sf m1, (0, 0)) := by
  refine aRun_of rfl (aVn_end (stop := fun p => false) 60 ?_)
  refine Exists.intro _ (And.intro q ?_)
  exact rfl
theorem l_balK (d : Nat) (R : Rl w (m 0) n g o) (ok : wOkA w n g o) (hi : i < o) {a : Int32} (ha : a = Int32.ofNat i) {r : aR} (q0 : Int32) (h : ∀ x, x = Int32.ofNat 4 → aEnd (aStep (aRun false (d + 6)) aCls [] aB_X8_isBalanced (some .boolean) false) (97, [some (.ref 8), some (.int z), some (.int (q0 + aSm (fun k => w 13 (i * 4 + k) * w 12 i) 4 0)), some (.int a), some (.int x)], [], aHn sn sf m, (0, 0)) r) : aEnd (aStep (aRun false (d + 6)) aCls [] aB_X8_isBalanced (some .boolean) false) (57, [some (.ref 8), some (.int z), some (.int q0), some (.int a), some (.int 0)], [], aHn sn sf m, (0, 0)) r := by
  have ho6 := ok.1.2.2.2.2.2
  refine k_sum1 (S := fun f x => (57, [some (.ref 8), some (.int z), some (.int f), some (.int a), some (.int x)], [], aHn sn sf m, (0, 0))) (g1 := fun k => w 13 (i * 4 + k) * w 12 i) (n := 4) (fun k x f hk hx ih => ?_) 4 0 0 q0 (by omega) rfl (fun x hx => ?_)
  · have e1 : m 0 (453 + 7 * i + k) = w 13 (i * 4 + k) := (R.2.2.2 i hi).1 k hk
    have e2 : m 0 (453 + 7 * i + 6) = w 12 i := (R.2.2.2 i hi).2.2.2
    have key : ∀ u, u = f + w 13 (i * 4 + k) * w 12 i → aEnd (aStep (aRun false (d + 6)) aCls [] aB_X8_isBalanced (some .boolean) false) (57, [some (.ref 8), some (.int z), some (.int u), some (.int a), some (.int (x + 1))], [], aHn sn sf m, (0, 0)) r := fun u hu => hu ▸ ih
    refine aVn_end (stop := fun p => p == 57) 60 ?_
    refine And.intro (fun c => absurd (zgeT (y := 4) (n := 4) c hx rfl (by omega) (by omega)) (by omega)) (fun _ => ?_)
    refine Exists.intro _ (And.intro (y_orderAt (d + 5)) ?_)
    refine Exists.intro (453 + 7 * i + k) (And.intro (ixO ha (by omega) hx (by omega)) ?_)
    refine Exists.intro _ (And.intro (y_orderAt (d + 5)) ?_)
    refine Exists.intro (453 + 7 * i + 6) (And.intro (ixO ha (by omega) (f := 6) rfl (by omega)) ?_)
    exact key _ (by rw [e1, e2])
  · have q := h x hx
    refine aVn_end (stop := fun p => p == 97) 60 ?_
    refine And.intro (fun _ => ?_) (fun c => absurd (zgeF (y := 4) (n := 4) c hx rfl (by omega) (by omega)) (by omega))
    exact q
theorem l_balO (d : Nat) (R : Rl w (m 0) n g o) (ok : wOkA w n g o) {r : aR} (h : ∀ x u4, aEnd (aStep (aRun false (d + 6)) aCls [] aB_X8_isBalanced (some .boolean) false) (103, [some (.ref 8), some (.int z), some (.int (wSets w o)), some (.int x), u4], [], aHn sn sf m, (0, 0)) r) : ∀ (q i : Nat) (x f : Int32) (u4 : Option Value), i + q = o → x = Int32.ofNat i → f + aSm (fun i => aSm (fun k => w 13 (i * 4 + k) * w 12 i) 4 0) q i = wSets w o → aEnd (aStep (aRun false (d + 6)) aCls [] aB_X8_isBalanced (some .boolean) false) (43, [some (.ref 8), some (.int z), some (.int f), some (.int x), u4], [], aHn sn sf m, (0, 0)) r
  | 0, i, x, f, u4, hi, hx, hf => by
    have ho : m 0 8 = Int32.ofNat o := R.1.2.2.2.2.2.2.2.2.trans ok.1.2.2.2.2.1
    have ho6 := ok.1.2.2.2.2.2
    have ef : f = wSets w o := (Int32.add_zero f).symm.trans hf
    have q := h x u4
    rw [← ef] at q
    refine aVn_end (stop := fun p => p == 103) 60 ?_
    refine Exists.intro 8 (And.intro (ixN (f := 8) rfl (by omega)) ?_)
    refine And.intro (fun _ => ?_) (fun c => absurd (zgeF c (show x = Int32.ofNat o by rw [hx]; congr 1) ho (by omega) (by omega)) (by omega))
    exact q
  | q + 1, i, x, f, u4, hi, hx, hf => by
    have ho : m 0 8 = Int32.ofNat o := R.1.2.2.2.2.2.2.2.2.trans ok.1.2.2.2.2.1
    have ho6 := ok.1.2.2.2.2.2
    have ih := fun y => l_balO d R ok (r := r) h q (i + 1) (x + 1) (f + aSm (fun k => w 13 (i * 4 + k) * w 12 i) 4 0) (some (.int y)) (by omega) (zI_s hx) (by rw [Int32.add_assoc]; exact hf)
    have inner := l_balK (sn := sn) (sf := sf) (m := m) (z := z) d R ok (i := i) (by omega) hx (r := r) f (fun y _ => by
      refine aVn_end (stop := fun p => p == 43) 60 ?_
      exact ih y)
    refine aVn_end (stop := fun p => p == 57) 60 ?_
    refine Exists.intro 8 (And.intro (ixN (f := 8) rfl (by omega)) ?_)
    refine And.intro (fun c => absurd (zgeT c hx ho (by omega) (by omega)) (by omega)) (fun _ => ?_)
    exact inner
theorem y_isBalanced (d : Nat) (R : Rl w (m 0) n g o) (ok : wOkA w n g o) (h1 : wClay w n = w 16 1) (h2 : wSets w o = aSm (fun j => if w 1 j = 4 then 1 else 0) n 0) : aRun false (d + 7) m_X8_isBalanced [.ref 8] (aHn sn sf m) = some (.inl (some (.int 1)), aHn sn sf (upw m 9 2 0), (0, 0)) := by
  have R0 : Rl w ((upw m 9 2 0) 0) n g o := R
  have hn : m 0 6 = Int32.ofNat n := R.1.2.2.2.2.2.2.1.trans ok.1.1
  have hle := ok.1.2.1
  have e3 : m 0 3 = w 16 0 := R.1.2.2.2.1
  have e4 : m 0 4 = w 16 1 := R.1.2.2.2.2.1
  have his := y_inState (sn := sn) (sf := sf) (m := upw m 9 2 0) (y := 4) (d + 3) R0 ok
  have fin : ∀ (x : Int32) (u4 : Option Value), aEnd (aStep (aRun false (d + 6)) aCls [] aB_X8_isBalanced (some .boolean) false) (103, [some (.ref 8), some (.int (wClay w n)), some (.int (wSets w o)), some (.int x), u4], [], aHn sn sf (upw m 9 2 0), (0, 0)) (.inl (some (.int 1)), aHn sn sf (upw m 9 2 0), (0, 0)) := fun x u4 => by
    refine aVn_end (stop := fun p => false) 60 ?_
    refine Exists.intro 4 (And.intro (ixN (f := 4) rfl (by omega)) ?_)
    refine And.intro (fun c => absurd (h1.trans e4.symm) (cT c)) (fun _ => ?_)
    refine Exists.intro _ (And.intro his ?_)
    refine And.intro (fun c => absurd h2 (cT c)) (fun _ => ?_)
    exact And.intro rfl rfl
  have outer := fun u4 => l_balO (sn := sn) (sf := sf) (m := upw m 9 2 0) (z := wClay w n) d R0 ok fin o 0 0 0 u4 (by omega) rfl (Int32.zero_add _)
  have main : aEnd (aStep (aRun false (d + 6)) aCls [] aB_X8_isBalanced (some .boolean) false) (14, [some (.ref 8), some (.int (w 16 0)), some (.int 0), none, none], [], aHn sn sf (upw m 9 2 0), (0, 0)) (.inl (some (.int 1)), aHn sn sf (upw m 9 2 0), (0, 0)) := by
    refine k_sum1 (S := fun f x => (14, [some (.ref 8), some (.int f), some (.int x), none, none], [], aHn sn sf (upw m 9 2 0), (0, 0))) (g1 := fun j => fSz (w 6 j)) (n := n) (fun i x f hi hx ih => ?_) n 0 0 (w 16 0) (by omega) rfl (fun x hx => ?_)
    · refine aVn_end (stop := fun p => p == 14) 60 ?_
      refine Exists.intro 6 (And.intro (ixN (f := 6) rfl (by omega)) ?_)
      refine And.intro (fun c => absurd (zgeT c hx hn (by omega) (by omega)) (by omega)) (fun _ => ?_)
      refine Exists.intro _ (And.intro (y_size (m := upw m 9 2 0) (d + 3) R0 ok hx hi) ?_)
      exact ih
    · refine aVn_end (stop := fun p => p == 43) 60 ?_
      refine Exists.intro 6 (And.intro (ixN (f := 6) rfl (by omega)) ?_)
      refine And.intro (fun _ => ?_) (fun c => absurd (zgeF c hx hn (by omega) (by omega)) (by omega))
      exact outer none
  have main2 : aEnd (aStep (aRun false (d + 6)) aCls [] aB_X8_isBalanced (some .boolean) false) (14, [some (.ref 8), some (.int (m 0 3)), some (.int 0), none, none], [], aHn sn sf (upw m 9 2 0), (0, 0)) (.inl (some (.int 1)), aHn sn sf (upw m 9 2 0), (0, 0)) := e3.symm ▸ main
  refine aRun_of rfl (aVn_end (stop := fun p => p == 14) 60 ?_)
  refine Exists.intro 3 (And.intro (ixN (f := 3) rfl (by omega)) ?_)
  exact main2
end YY
