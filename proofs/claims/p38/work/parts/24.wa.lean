/-! THE CLASS: wares -/
theorem aRi {x y : Int32} {h : aH} {k : aK} (e : x = y) : ((.inl (some (.int x)), h, k) : aR) = (.inl (some (.int y)), h, k) := by rw [e]
abbrev zn (x : Int32) : Nat := x.toNatClampNeg
theorem aIx_x {x : Int32} {n : Nat} (h0 : 0 ≤ x) (h1 : x < Int32.ofNat n) (hn : n < 100000) : aIx x n = some (zn x) := by
  have e0 : (0 : Int32).toInt = 0 := rfl
  have g0 : (0 : Int) ≤ x.toInt := by rw [← e0]; exact Int32.le_iff_toInt_le.mp h0
  have g1 : x.toInt < n := by
    have := Int32.lt_iff_toInt_lt.mp h1
    rw [Int32.toInt_ofNat_of_lt (by omega)] at this
    exact this
  have g2 : ((zn x : Nat) : Int) = x.toInt := by
    show ((x.toInt.toNat : Nat) : Int) = _
    omega
  unfold aIx
  rw [if_neg]
  rintro (q | q)
  · exact absurd h0 (Int32.not_le.mpr q)
  · have : n ≤ zn x := q
    omega
section WA
variable {sn : Nat} {sf : Nat → Int32} {w : aW} {n i : Nat} {x y z v : Int32}
/-- a method of a Works that changes nothing -/
abbrev rW (sn : Nat) (sf : Nat → Int32) (w : aW) (d m : Nat) (as : List Value) (v : Int32) : Prop := aRun false d m as (aHw sn sf w) = some (.inl (some (.int v)), aHw sn sf w, (0, 0))
theorem r_has5 (d : Nat) (hv : v = if 0 ≤ x ∧ x < w 16 3 then 1 else 0) : rW sn sf w (d + 1) m_X5_has [.ref 10, .int x] v := by
  refine aRun_of rfl (aVn_end (stop := fun p => false) 60 ?_)
  repeat' first
    | exact rfl
    | refine And.intro ?_ ?_
    | refine fun _ => ?_
    | refine aRi ?_
  all_goals first
    | assumption
    | grind [aCond]
theorem r_sizeOf (d : Nat) (hi : aIx x 60 = some i) {k : Nat} (hk : aIx (w 6 i) 4 = some k) : rW sn sf w (d + 1) m_X5_sizeOf [.ref 10, .int x] (aI4 2 1 3 4 k) := by
  refine aRun_of rfl (aVn_end (stop := fun p => false) 60 ?_)
  repeat' first
    | refine Exists.intro i (And.intro hi ?_)
    | refine Exists.intro k (And.intro hk ?_)
    | exact rfl
    | refine And.intro ?_ ?_
    | refine fun _ => ?_
    | refine aRi ?_
  all_goals first
    | assumption
    | grind [aCond]
theorem r_needOf (d : Nat) (hi : aIx x 60 = some i) : rW sn sf w (d + 1) m_X5_needOf [.ref 10, .int x] (1310 - 3 * (w 7 i / 2)) := by
  refine aRun_of rfl (aVn_end (stop := fun p => false) 60 ?_)
  repeat' first
    | refine Exists.intro i (And.intro hi ?_)
    | exact (by decide : ¬ (2 : Int32) = 0)
    | exact rfl
    | refine And.intro ?_ ?_
    | refine fun _ => ?_
    | refine aRi ?_
  all_goals first
    | assumption
    | grind [aCond]
theorem r_isGlazed (d : Nat) (hi : aIx x 60 = some i) (hv : v = if w 2 i = -1 then 0 else 1) : rW sn sf w (d + 1) m_X5_isGlazed [.ref 10, .int x] v := by
  refine aRun_of rfl (aVn_end (stop := fun p => false) 60 ?_)
  repeat' first
    | refine Exists.intro i (And.intro hi ?_)
    | exact rfl
    | refine And.intro ?_ ?_
    | refine fun _ => ?_
    | refine aRi ?_
  all_goals first
    | assumption
    | grind [aCond]
theorem r_meltingHeatOf (d : Nat) (hi : aIx x 60 = some i) {k : Nat} (hk : aIx (w 2 i) 4 = some k) : rW sn sf w (d + 1) m_X5_meltingHeatOf [.ref 10, .int x] (aI4 1180 1200 1220 1240 k - 4 * w 3 i) := by
  refine aRun_of rfl (aVn_end (stop := fun p => false) 60 ?_)
  repeat' first
    | refine Exists.intro i (And.intro hi ?_)
    | refine Exists.intro k (And.intro hk ?_)
    | exact rfl
    | refine And.intro ?_ ?_
    | refine fun _ => ?_
    | refine aRi ?_
  all_goals first
    | assumption
    | grind [aCond]
theorem r_isInStore (d : Nat) (hi : aIx x 60 = some i) (hv : v = if w 1 i = 3 ∧ w 6 i = y ∧ w 2 i = z then 1 else 0) : rW sn sf w (d + 1) m_X5_isInStore [.ref 10, .int x, .int y, .int z] v := by
  refine aRun_of rfl (aVn_end (stop := fun p => false) 60 ?_)
  repeat' first
    | refine Exists.intro i (And.intro hi ?_)
    | exact rfl
    | refine And.intro ?_ ?_
    | refine fun _ => ?_
    | refine aRi ?_
  all_goals first
    | assumption
    | grind [aCond]
/-- what a kind weighs -/
def fSz (x : Int32) : Int32 := match aIx x 4 with
  | some k => aI4 2 1 3 4 k
  | none => 0
theorem fSz_of {x : Int32} {k : Nat} (h : aIx x 4 = some k) : fSz x = aI4 2 1 3 4 k := by
  unfold fSz
  rw [h]
theorem r_countInStore (d : Nat) (hn : w 16 3 = Int32.ofNat n) (hle : n ≤ 60) : rW sn sf w (d + 2) m_X5_countInStore [.ref 10, .int y, .int z, .int v] (aSm (fun j => if (w 1 j = 3 ∧ w 6 j = y ∧ w 2 j = z) ∧ w 5 j = v then 1 else 0) n 0) := by
  refine aRun_of rfl (aVn_end (stop := fun p => p == 6) 20 (k_sum0 (S := fun f x => (6, [some (.ref 10), some (.int y), some (.int z), some (.int v), some (.int f), some (.int x)], [], aHw sn sf w, (0, 0))) (R := fun f => (.inl (some (.int f)), aHw sn sf w, (0, 0))) (g := fun j => if (w 1 j = 3 ∧ w 6 j = y ∧ w 2 j = z) ∧ w 5 j = v then 1 else 0) (n := n) (fun i x f hi hx r ih => ?_) (fun x f hx => ?_)))
  · have key : ∀ u, u = (if (w 1 i = 3 ∧ w 6 i = y ∧ w 2 i = z) ∧ w 5 i = v then 1 else 0) → aEnd _ ((fun f x => (6, [some (.ref 10), some (.int y), some (.int z), some (.int v), some (.int f), some (.int x)], [], aHw sn sf w, (0, 0))) (f + u) (x + 1)) r := fun u hu => hu ▸ ih
    have hi1 : aIx x 60 = some i := aIx_of hx (by omega) (by omega)
    refine aVn_end (stop := fun p => p == 6) 60 (And.intro (fun c => absurd (zgeT c hx hn (by omega) (by omega)) (by omega)) (fun _ => ?_))
    repeat' first
      | refine key _ ?_
      | refine Exists.intro _ (And.intro (r_isInStore d hi1 rfl) ?_)
      | refine Exists.intro i (And.intro hi1 ?_)
      | exact rfl
      | refine And.intro ?_ ?_
      | refine fun _ => ?_
      | refine aRi ?_
    all_goals first
      | assumption
      | grind [aCond]
  · exact aVn_end (stop := fun p => p == 6) 60 (And.intro (fun c => rfl) (fun c => absurd (zgeF c hx hn (by omega) (by omega)) (by omega)))
theorem r_countInState (d : Nat) (hn : w 16 3 = Int32.ofNat n) (hle : n ≤ 60) : rW sn sf w (d + 1) m_X5_countInState [.ref 10, .int y] (aSm (fun j => if w 1 j = y then 1 else 0) n 0) := by
  refine aRun_of rfl (aVn_end (stop := fun p => p == 4) 20 (k_sum0 (S := fun f x => (4, [some (.ref 10), some (.int y), some (.int f), some (.int x)], [], aHw sn sf w, (0, 0))) (R := fun f => (.inl (some (.int f)), aHw sn sf w, (0, 0))) (g := fun j => if w 1 j = y then 1 else 0) (n := n) (fun i x f hi hx r ih => ?_) (fun x f hx => ?_)))
  · have key : ∀ u, u = (if w 1 i = y then 1 else 0) → aEnd _ ((fun f x => (4, [some (.ref 10), some (.int y), some (.int f), some (.int x)], [], aHw sn sf w, (0, 0))) (f + u) (x + 1)) r := fun u hu => hu ▸ ih
    have hi1 : aIx x 60 = some i := aIx_of hx (by omega) (by omega)
    refine aVn_end (stop := fun p => p == 4) 60 (And.intro (fun c => absurd (zgeT c hx hn (by omega) (by omega)) (by omega)) (fun _ => ?_))
    repeat' first
      | refine key _ ?_
      | refine Exists.intro i (And.intro hi1 ?_)
      | exact rfl
      | refine And.intro ?_ ?_
      | refine fun _ => ?_
      | refine aRi ?_
    all_goals first
      | assumption
      | grind [aCond]
  · exact aVn_end (stop := fun p => p == 4) 60 (And.intro (fun c => rfl) (fun c => absurd (zgeF c hx hn (by omega) (by omega)) (by omega)))
theorem r_countSold (d : Nat) (hn : w 16 3 = Int32.ofNat n) (hle : n ≤ 60) : rW sn sf w (d + 1) m_X5_countSold [.ref 10, .int y] (aSm (fun j => if w 1 j = 4 ∧ w 6 j = y then 1 else 0) n 0) := by
  refine aRun_of rfl (aVn_end (stop := fun p => p == 4) 20 (k_sum0 (S := fun f x => (4, [some (.ref 10), some (.int y), some (.int f), some (.int x)], [], aHw sn sf w, (0, 0))) (R := fun f => (.inl (some (.int f)), aHw sn sf w, (0, 0))) (g := fun j => if w 1 j = 4 ∧ w 6 j = y then 1 else 0) (n := n) (fun i x f hi hx r ih => ?_) (fun x f hx => ?_)))
  · have key : ∀ u, u = (if w 1 i = 4 ∧ w 6 i = y then 1 else 0) → aEnd _ ((fun f x => (4, [some (.ref 10), some (.int y), some (.int f), some (.int x)], [], aHw sn sf w, (0, 0))) (f + u) (x + 1)) r := fun u hu => hu ▸ ih
    have hi1 : aIx x 60 = some i := aIx_of hx (by omega) (by omega)
    refine aVn_end (stop := fun p => p == 4) 60 (And.intro (fun c => absurd (zgeT c hx hn (by omega) (by omega)) (by omega)) (fun _ => ?_))
    repeat' first
      | refine key _ ?_
      | refine Exists.intro i (And.intro hi1 ?_)
      | exact rfl
      | refine And.intro ?_ ?_
      | refine fun _ => ?_
      | refine aRi ?_
    all_goals first
      | assumption
      | grind [aCond]
  · exact aVn_end (stop := fun p => p == 4) 60 (And.intro (fun c => rfl) (fun c => absurd (zgeF c hx hn (by omega) (by omega)) (by omega)))
theorem r_countOfGrade (d : Nat) (hn : w 16 3 = Int32.ofNat n) (hle : n ≤ 60) : rW sn sf w (d + 1) m_X5_countOfGrade [.ref 10, .int y] (aSm (fun j => if w 5 j = y then 1 else 0) n 0) := by
  refine aRun_of rfl (aVn_end (stop := fun p => p == 4) 20 (k_sum0 (S := fun f x => (4, [some (.ref 10), some (.int y), some (.int f), some (.int x)], [], aHw sn sf w, (0, 0))) (R := fun f => (.inl (some (.int f)), aHw sn sf w, (0, 0))) (g := fun j => if w 5 j = y then 1 else 0) (n := n) (fun i x f hi hx r ih => ?_) (fun x f hx => ?_)))
  · have key : ∀ u, u = (if w 5 i = y then 1 else 0) → aEnd _ ((fun f x => (4, [some (.ref 10), some (.int y), some (.int f), some (.int x)], [], aHw sn sf w, (0, 0))) (f + u) (x + 1)) r := fun u hu => hu ▸ ih
    have hi1 : aIx x 60 = some i := aIx_of hx (by omega) (by omega)
    refine aVn_end (stop := fun p => p == 4) 60 (And.intro (fun c => absurd (zgeT c hx hn (by omega) (by omega)) (by omega)) (fun _ => ?_))
    repeat' first
      | refine key _ ?_
      | refine Exists.intro i (And.intro hi1 ?_)
      | exact rfl
      | refine And.intro ?_ ?_
      | refine fun _ => ?_
      | refine aRi ?_
    all_goals first
      | assumption
      | grind [aCond]
  · exact aVn_end (stop := fun p => p == 4) 60 (And.intro (fun c => rfl) (fun c => absurd (zgeF c hx hn (by omega) (by omega)) (by omega)))
theorem r_countIn (d : Nat) (hn : w 16 3 = Int32.ofNat n) (hle : n ≤ 60) : rW sn sf w (d + 1) m_X5_countIn [.ref 10, .int y] (aSm (fun j => if w 4 j = y then 1 else 0) n 0) := by
  refine aRun_of rfl (aVn_end (stop := fun p => p == 4) 20 (k_sum0 (S := fun f x => (4, [some (.ref 10), some (.int y), some (.int f), some (.int x)], [], aHw sn sf w, (0, 0))) (R := fun f => (.inl (some (.int f)), aHw sn sf w, (0, 0))) (g := fun j => if w 4 j = y then 1 else 0) (n := n) (fun i x f hi hx r ih => ?_) (fun x f hx => ?_)))
  · have key : ∀ u, u = (if w 4 i = y then 1 else 0) → aEnd _ ((fun f x => (4, [some (.ref 10), some (.int y), some (.int f), some (.int x)], [], aHw sn sf w, (0, 0))) (f + u) (x + 1)) r := fun u hu => hu ▸ ih
    have hi1 : aIx x 60 = some i := aIx_of hx (by omega) (by omega)
    refine aVn_end (stop := fun p => p == 4) 60 (And.intro (fun c => absurd (zgeT c hx hn (by omega) (by omega)) (by omega)) (fun _ => ?_))
    repeat' first
      | refine key _ ?_
      | refine Exists.intro i (And.intro hi1 ?_)
      | exact rfl
      | refine And.intro ?_ ?_
      | refine fun _ => ?_
      | refine aRi ?_
    all_goals first
      | assumption
      | grind [aCond]
  · exact aVn_end (stop := fun p => p == 4) 60 (And.intro (fun c => rfl) (fun c => absurd (zgeF c hx hn (by omega) (by omega)) (by omega)))
theorem r_sizeIn (d : Nat) (hn : w 16 3 = Int32.ofNat n) (hle : n ≤ 60) (hk : ∀ j, j < n → ∃ k, aIx (w 6 j) 4 = some k) : rW sn sf w (d + 1) m_X5_sizeIn [.ref 10, .int y] (aSm (fun j => if w 4 j = y then fSz (w 6 j) else 0) n 0) := by
  refine aRun_of rfl (aVn_end (stop := fun p => p == 4) 20 (k_sum0 (S := fun f x => (4, [some (.ref 10), some (.int y), some (.int f), some (.int x)], [], aHw sn sf w, (0, 0))) (R := fun f => (.inl (some (.int f)), aHw sn sf w, (0, 0))) (g := fun j => if w 4 j = y then fSz (w 6 j) else 0) (n := n) (fun i x f hi hx r ih => ?_) (fun x f hx => ?_)))
  · have key : ∀ u, u = (if w 4 i = y then fSz (w 6 i) else 0) → aEnd _ ((fun f x => (4, [some (.ref 10), some (.int y), some (.int f), some (.int x)], [], aHw sn sf w, (0, 0))) (f + u) (x + 1)) r := fun u hu => hu ▸ ih
    have hi1 : aIx x 60 = some i := aIx_of hx (by omega) (by omega)
    obtain ⟨k, hk1⟩ := hk i hi
    have hf := fSz_of hk1
    refine aVn_end (stop := fun p => p == 4) 60 (And.intro (fun c => absurd (zgeT c hx hn (by omega) (by omega)) (by omega)) (fun _ => ?_))
    repeat' first
      | refine key _ ?_
      | refine Exists.intro k (And.intro hk1 ?_)
      | refine Exists.intro i (And.intro hi1 ?_)
      | exact rfl
      | refine And.intro ?_ ?_
      | refine fun _ => ?_
      | refine aRi ?_
    all_goals first
      | assumption
      | grind [aCond]
  · exact aVn_end (stop := fun p => p == 4) 60 (And.intro (fun c => rfl) (fun c => absurd (zgeF c hx hn (by omega) (by omega)) (by omega)))
theorem r_sizeOfAll (d : Nat) (hn : w 16 3 = Int32.ofNat n) (hle : n ≤ 60) (hk : ∀ j, j < n → ∃ k, aIx (w 6 j) 4 = some k) : rW sn sf w (d + 2) m_X5_sizeOfAll [.ref 10] (aSm (fun j => fSz (w 6 j)) n 0) := by
  refine aRun_of rfl (aVn_end (stop := fun p => p == 4) 20 (k_sum0 (S := fun f x => (4, [some (.ref 10), some (.int f), some (.int x)], [], aHw sn sf w, (0, 0))) (R := fun f => (.inl (some (.int f)), aHw sn sf w, (0, 0))) (g := fun j => fSz (w 6 j)) (n := n) (fun i x f hi hx r ih => ?_) (fun x f hx => ?_)))
  · have key : ∀ u, u = (fSz (w 6 i)) → aEnd _ ((fun f x => (4, [some (.ref 10), some (.int f), some (.int x)], [], aHw sn sf w, (0, 0))) (f + u) (x + 1)) r := fun u hu => hu ▸ ih
    have hi1 : aIx x 60 = some i := aIx_of hx (by omega) (by omega)
    obtain ⟨k, hk1⟩ := hk i hi
    have hf := fSz_of hk1
    refine aVn_end (stop := fun p => p == 4) 60 (And.intro (fun c => absurd (zgeT c hx hn (by omega) (by omega)) (by omega)) (fun _ => ?_))
    repeat' first
      | refine key _ ?_
      | refine Exists.intro _ (And.intro (r_sizeOf d hi1 hk1) ?_)
      | refine Exists.intro i (And.intro hi1 ?_)
      | exact rfl
      | refine And.intro ?_ ?_
      | refine fun _ => ?_
      | refine aRi ?_
    all_goals first
      | assumption
      | grind [aCond]
  · exact aVn_end (stop := fun p => p == 4) 60 (And.intro (fun c => rfl) (fun c => absurd (zgeF c hx hn (by omega) (by omega)) (by omega)))
theorem r_countFired (d : Nat) (hn : w 16 3 = Int32.ofNat n) (hle : n ≤ 60) : rW sn sf w (d + 2) m_X5_countFired [.ref 10] (w 16 3 - aSm (fun j => if w 5 j = 0 then 1 else 0) n 0) := by
  refine aRun_of rfl (aVn_end (stop := fun p => false) 60 ?_)
  exact Exists.intro _ (And.intro (r_countOfGrade d hn hle) rfl)
theorem r_flowAt (d : Nat) (hi : aIx x 60 = some i) {k : Nat} (hk : ¬ w 2 i = -1 → aIx (w 2 i) 4 = some k) (hv : v = if w 2 i = -1 then 0 else (if y - (aI4 1180 1200 1220 1240 k - 4 * w 3 i) < 0 then 0 else y - (aI4 1180 1200 1220 1240 k - 4 * w 3 i)) / 10) : rW sn sf w (d + 2) m_X5_flowAt [.ref 10, .int x, .int y] v := by
  refine aRun_of rfl (aVn_end (stop := fun p => false) 60 ?_)
  refine Exists.intro _ (And.intro (r_isGlazed d hi rfl) (And.intro (fun c => ?_) (fun c => ?_)))
  · have hk1 : aIx (w 2 i) 4 = some k := hk (by grind [aCond])
    exact Exists.intro _ (And.intro (r_meltingHeatOf d hi hk1) (Exists.intro _ (And.intro rfl (And.intro (by decide) (aRi (by grind [aCond]))))))
  · exact aRi (by grind [aCond])
/-- a method that answers nothing -/
abbrev rV (sn : Nat) (sf : Nat → Int32) (w w1 : aW) (d m : Nat) (as : List Value) : Prop := aRun false d m as (aHw sn sf w) = some (.inl none, aHw sn sf w1, (0, 0))
theorem r_takeOut (d : Nat) (hi : aIx x 60 = some i) (hv : v = if w 1 i = 2 then (if w 5 i = 3 then 5 else 3) else 0) : rV sn sf w (upw (upw w 4 i (-1)) 1 i v) (d + 1) m_X5_takeOut [.ref 10, .int x] := by
  refine aRun_of rfl (aVn_end (stop := fun p => false) 60 ?_)
  refine Exists.intro i (And.intro hi ?_)
  refine Exists.intro i (And.intro hi ?_)
  refine And.intro (fun c => ?_) (fun c => ?_)
  · have c : w 1 i = 2 := cT c
    refine Exists.intro i (And.intro hi ?_)
    refine And.intro (fun c2 => ?_) (fun c2 => ?_)
    · have c2 : ¬ w 5 i = 3 := cT c2
      refine Exists.intro i (And.intro hi ?_)
      exact congrArg (fun v => ((.inl none, aHw sn sf (upw (upw w 4 i (-1)) 1 i v), (0, 0)) : aR)) (show 3 = v by grind)
    · have c2 : w 5 i = 3 := Decidable.not_not.mp (cF c2)
      refine Exists.intro i (And.intro hi ?_)
      exact congrArg (fun v => ((.inl none, aHw sn sf (upw (upw w 4 i (-1)) 1 i v), (0, 0)) : aR)) (show 5 = v by grind)
  · have c : ¬ w 1 i = 2 := cF c
    refine Exists.intro i (And.intro hi ?_)
    exact congrArg (fun v => ((.inl none, aHw sn sf (upw (upw w 4 i (-1)) 1 i v), (0, 0)) : aR)) (show 0 = v by grind)
def wAdd (w : aW) (n : Nat) (x y : Int32) : aW := upw (upw (upw (upw (upw (upw (upw (upw w 6 n x) 7 n y) 1 n 0) 2 n (-1)) 3 n 0) 4 n (-1)) 5 n 0) 16 3 (w 16 3 + 1)
theorem r_add5 (d : Nat) (hn : w 16 3 = Int32.ofNat n) (hlt : n < 60) : rV sn sf w (wAdd w n x y) (d + 1) m_X5_add [.ref 10, .int x, .int y] := by
  have hi : aIx (w 16 3) 60 = some n := aIx_of hn hlt (by omega)
  refine aRun_of rfl (aVn_end (stop := fun p => false) 80 ?_)
  refine And.intro (fun c => ?_) (fun c => absurd (zgeF (i := 60) (n := n) (x := 60) (y := w 16 3) ?_ rfl hn (by omega) (by omega)) ?_)
  · iterate 7 refine Exists.intro n (And.intro hi ?_)
    exact rfl
  · have c1 : ¬ w 16 3 < 60 := cF c
    exact decide_eq_false (fun q => c1 (by have := (zI_lt (x := w 16 3) (y := 60) (n := 60) hn rfl (by omega) (by omega)).mpr hlt; exact this))
  · omega
def wNum (w : aW) (i : Nat) (y : Int32) : Int32 := if y = 0 then w 6 i else if y = 1 then w 7 i else if y = 2 then w 1 i else if y = 3 then w 2 i else if y = 4 then w 3 i else if y = 5 then w 4 i else if y = 6 then w 5 i else 1310 - 3 * (w 7 i / 2)
set_option maxRecDepth 20000 in
theorem r_numberOf5 (d : Nat) (hi : aIx x 60 = some i) (hv : v = wNum w i y) : rW sn sf w (d + 2) m_X5_numberOf [.ref 10, .int x, .int y] v := by
  have e0 : y = 0 ↔ y.toInt = 0 := Int32.toInt_inj.symm
  have e1 : y = 1 ↔ y.toInt = 1 := Int32.toInt_inj.symm
  have e2 : y = 2 ↔ y.toInt = 2 := Int32.toInt_inj.symm
  have e3 : y = 3 ↔ y.toInt = 3 := Int32.toInt_inj.symm
  have e4 : y = 4 ↔ y.toInt = 4 := Int32.toInt_inj.symm
  have e5 : y = 5 ↔ y.toInt = 5 := Int32.toInt_inj.symm
  have e6 : y = 6 ↔ y.toInt = 6 := Int32.toInt_inj.symm
  refine aRun_of rfl (aVn_end (stop := fun p => false) 60 ?_)
  repeat' first
    | exact True.intro
    | refine Exists.intro i (And.intro hi ?_)
    | refine Exists.intro _ (And.intro (r_needOf d hi) ?_)
    | exact rfl
    | refine And.intro ?_ ?_
    | refine fun _ => ?_
    | refine aRi ?_
  all_goals first
    | assumption
    | grind [aCond, wNum]
end WA
