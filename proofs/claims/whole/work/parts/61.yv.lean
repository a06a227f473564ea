/-! THE MODEL'S ANSWERS: the mean load -/
section YV
variable {sn : Nat} {sf : Nat → Int32} {m m1 m2 w v : aW} {n g o i j k f b L : Nat} {x y z u t c : Int32}
theorem k_sum1 {F : aS → Option (aS ⊕ aR)} {S : Int32 → Int32 → aS} {g1 : Nat → Int32} {n : Nat} {r : aR} (hb : ∀ (i : Nat) (x f : Int32), i < n → x = Int32.ofNat i → aEnd F (S (f + g1 i) (x + 1)) r → aEnd F (S f x) r) : ∀ (m i : Nat) (x f : Int32), i + m = n → x = Int32.ofNat i → (∀ x, x = Int32.ofNat n → aEnd F (S (f + aSm g1 m i) x) r) → aEnd F (S f x) r
  | 0, i, x, f, h, hx, hr => by
    have q := hr x (by rw [hx]; congr 1)
    rw [show f + aSm g1 0 i = f from Int32.add_zero f] at q
    exact q
  | m + 1, i, x, f, h, hx, hr => by
    refine hb i x f (by omega) hx (k_sum1 hb m (i + 1) (x + 1) _ (by omega) (zI_s hx) fun y hy => ?_)
    have q := hr y hy
    rw [show aSm g1 (m + 1) i = g1 i + aSm g1 m (i + 1) from rfl, ← Int32.add_assoc] at q
    exact q
theorem l_meanLoad (d : Nat) (R : Rl w (m 0) n g o) (ok : wOkA w n g o) {r : aR} (h : ∀ x, x = Int32.ofNat g → aEnd (aStep (aRun false (d + 6)) aCls [] aB_X8_meanLoad (some .float) false) (29, [some (.ref 8), some (.int (wLoads w n g)), some (.int x)], [], aHn sn sf m, (0, 0)) r) : aEnd (aStep (aRun false (d + 6)) aCls [] aB_X8_meanLoad (some .float) false) (4, [some (.ref 8), some (.int 0), some (.int 0)], [], aHn sn sf m, (0, 0)) r := by
  have hn : m 0 7 = Int32.ofNat g := R.1.2.2.2.2.2.2.2.1.trans ok.1.2.2.1
  have hle := ok.1.2.2.2.1
  refine k_sum1 (S := fun f x => (4, [some (.ref 8), some (.int f), some (.int x)], [], aHn sn sf m, (0, 0))) (g1 := fun j => wLoad w n g (Int32.ofNat j)) (n := g) (fun i x f hi hx ih => ?_) g 0 0 0 (by omega) rfl (fun x hx => ?_)
  · have key : ∀ u, u = f + wLoad w n g (Int32.ofNat i) → aEnd (aStep (aRun false (d + 6)) aCls [] aB_X8_meanLoad (some .float) false) (4, [some (.ref 8), some (.int u), some (.int (x + 1))], [], aHn sn sf m, (0, 0)) r := fun u hu => hu ▸ ih
    have hld := y_loadOf (sn := sn) (sf := sf) (m := m) d R ok hx hi
    refine aVn_end (stop := fun p => p == 4) 60 ?_
    refine Exists.intro 7 (And.intro (ixN (f := 7) rfl (by omega)) ?_)
    refine And.intro (fun c => absurd (zgeT c hx hn (by omega) (by omega)) (by omega)) (fun _ => ?_)
    refine Exists.intro _ (And.intro hld ?_)
    exact key _ (by rw [hx])
  · have q := h x hx
    unfold wLoads at q
    show aEnd _ (4, [some (.ref 8), some (.int (0 + _)), some (.int x)], [], aHn sn sf m, (0, 0)) r
    rw [Int32.zero_add]
    refine aVn_end (stop := fun p => p == 29) 60 ?_
    refine Exists.intro 7 (And.intro (ixN (f := 7) rfl (by omega)) ?_)
    refine And.intro (fun _ => ?_) (fun c => absurd (zgeF c hx hn (by omega) (by omega)) (by omega))
    exact q
theorem y_meanLoadX (d : Nat) (R : Rl w (m 0) n g o) (ok : wOkA w n g o) (h : wInK w g = 0) : aRun false (d + 7) m_X8_meanLoad [.ref 8] (aHn sn sf m) = some (.inl (some (.float 0)), aHn sn sf (upw m 9 2 1), (0, 0)) := by
  have hk := y_inKiln (sn := sn) (sf := sf) (m := m) (d + 2) R ok
  have fin : ∀ x, x = Int32.ofNat g → aEnd (aStep (aRun false (d + 6)) aCls [] aB_X8_meanLoad (some .float) false) (29, [some (.ref 8), some (.int (wLoads w n g)), some (.int x)], [], aHn sn sf m, (0, 0)) (.inl (some (.float 0)), aHn sn sf (upw m 9 2 1), (0, 0)) := fun x _ => by
    refine aVn_end (stop := fun p => false) 60 ?_
    refine Exists.intro _ (And.intro hk ?_)
    refine And.intro (fun c => absurd h (cT c)) (fun _ => ?_)
    refine And.intro (fun c => absurd (show false = true from c) (by decide)) (fun _ => ?_)
    first
      | exact rfl
      | exact And.intro rfl rfl
      | (refine And.intro ?_ rfl; decide)
  have main := l_meanLoad (sn := sn) (sf := sf) (m := m) d R ok fin
  refine aRun_of rfl (aVn_end (stop := fun p => p == 4) 60 ?_)
  exact main
theorem y_meanLoad (d : Nat) (R : Rl w (m 0) n g o) (ok : wOkA w n g o) (h : ¬ wInK w g = 0) (hq : FP.fdiv (FP.i2f (wLoads w n g)) (FP.i2f (wInK w g)) &&& 0x7fffffff ≤ 0x7f800000) : aRun false (d + 7) m_X8_meanLoad [.ref 8] (aHn sn sf m) = some (.inl (some (.float (FP.fdiv (FP.i2f (wLoads w n g)) (FP.i2f (wInK w g))))), aHn sn sf (upw m 9 2 0), (0, 0)) := by
  have R0 : Rl w ((upw m 9 2 0) 0) n g o := R
  have hk := y_inKiln (sn := sn) (sf := sf) (m := m) (d + 2) R ok
  have hk2 := y_inKiln (sn := sn) (sf := sf) (m := upw m 9 2 0) (d + 2) R0 ok
  have fin : ∀ x, x = Int32.ofNat g → aEnd (aStep (aRun false (d + 6)) aCls [] aB_X8_meanLoad (some .float) false) (29, [some (.ref 8), some (.int (wLoads w n g)), some (.int x)], [], aHn sn sf m, (0, 0)) (.inl (some (.float (FP.fdiv (FP.i2f (wLoads w n g)) (FP.i2f (wInK w g))))), aHn sn sf (upw m 9 2 0), (0, 0)) := fun x _ => by
    refine aVn_end (stop := fun p => false) 60 ?_
    refine Exists.intro _ (And.intro hk ?_)
    refine And.intro (fun _ => ?_) (fun c => absurd (cF c) (fun q => q h))
    refine And.intro (fun _ => ?_) (fun c => absurd (show true = false from c) (by decide))
    refine Exists.intro _ (And.intro hk2 ?_)
    exact And.intro hq rfl
  have main := l_meanLoad (sn := sn) (sf := sf) (m := m) d R ok fin
  refine aRun_of rfl (aVn_end (stop := fun p => p == 4) 60 ?_)
  exact main
end YV
