/-! THE CLASS: what a Works tells -/
section WK
variable {sn : Nat} {sf : Nat → Int32} {w w1 : aW} {n g i : Nat} {x y z v : Int32}
theorem r_noteAhead1 (d : Nat) (hc : w 16 6 = 1) : rV sn sf w (wAhead1 w x y) (d + 1) m_X2_noteAhead [.ref 26, .int x, .int y] := by
  refine aRun_of rfl (aVn_end (stop := fun p => p == 12) 60 ?_)
  refine Exists.intro _ (And.intro rfl ?_)
  have e : (if (2 : Int32) < w 16 6 then (2 : Int32) else w 16 6) = 1 := by grind
  show aEnd _ (12, [some (.ref 26), some (.int x), some (.int y), some (.int (if (2 : Int32) < w 16 6 then (2 : Int32) else w 16 6)), some (.int (if (2 : Int32) < w 16 6 then (2 : Int32) else w 16 6))], [], aHw sn sf w, (0, 0)) _
  rw [e]
  refine aVn_end (stop := fun p => false) 120 ?_
  refine And.intro (fun c => absurd (show false = true from c) (by decide)) (fun _ => ?_)
  refine Exists.intro 0 (And.intro ix0 ?_)
  refine Exists.intro 1 (And.intro ix1 ?_)
  refine Exists.intro 0 (And.intro ix0 ?_)
  refine Exists.intro 1 (And.intro ix1 ?_)
  refine And.intro (fun _ => ?_) (fun c => absurd (show true = false from c) (by decide))
  refine Exists.intro 0 (And.intro ix0 ?_)
  refine Exists.intro 0 (And.intro ix0 ?_)
  exact rfl
theorem r_noteAhead2 (d : Nat) (hc : w 16 6 = 2) : rV sn sf w (wAhead2 w x y) (d + 1) m_X2_noteAhead [.ref 26, .int x, .int y] := by
  refine aRun_of rfl (aVn_end (stop := fun p => p == 12) 60 ?_)
  refine Exists.intro _ (And.intro rfl ?_)
  have e : (if (2 : Int32) < w 16 6 then (2 : Int32) else w 16 6) = 2 := by grind
  show aEnd _ (12, [some (.ref 26), some (.int x), some (.int y), some (.int (if (2 : Int32) < w 16 6 then (2 : Int32) else w 16 6)), some (.int (if (2 : Int32) < w 16 6 then (2 : Int32) else w 16 6))], [], aHw sn sf w, (0, 0)) _
  rw [e]
  refine aVn_end (stop := fun p => false) 120 ?_
  refine And.intro (fun c => absurd (show false = true from c) (by decide)) (fun _ => ?_)
  refine Exists.intro 1 (And.intro ix1 ?_)
  refine Exists.intro 2 (And.intro ix2 ?_)
  refine Exists.intro 1 (And.intro ix1 ?_)
  refine Exists.intro 2 (And.intro ix2 ?_)
  refine And.intro (fun c => absurd (show false = true from c) (by decide)) (fun _ => ?_)
  refine Exists.intro 0 (And.intro ix0 ?_)
  refine Exists.intro 1 (And.intro ix1 ?_)
  refine Exists.intro 0 (And.intro ix0 ?_)
  refine Exists.intro 1 (And.intro ix1 ?_)
  refine And.intro (fun _ => ?_) (fun c => absurd (show true = false from c) (by decide))
  refine Exists.intro 0 (And.intro ix0 ?_)
  refine Exists.intro 0 (And.intro ix0 ?_)
  exact rfl
theorem r_isFrom {h : aH} (d : Nat) (hv : v = if y ≤ x ∧ x ≤ z then 1 else 0) : aRun false (d + 1) m_X7_isFrom [.int x, .int y, .int z] h = some (.inl (some (.int v)), h, (0, 0)) := by
  refine aRun_of rfl (aVn_end (stop := fun p => false) 60 ?_)
  refine And.intro (fun c => ?_) (fun c => ?_)
  · exact And.intro rfl (aRi (by grind [aCond]))
  · refine And.intro (fun c2 => ?_) (fun c2 => ?_)
    · exact And.intro rfl (aRi (by grind [aCond]))
    · exact And.intro rfl (aRi (by grind [aCond]))
def fMt (x : Int32) : Int32 := match aIx x 4 with
  | some k => aI4 1180 1200 1220 1240 k
  | none => 0
theorem fMt_of {x : Int32} {k : Nat} (h : aIx x 4 = some k) : fMt x = aI4 1180 1200 1220 1240 k := by
  unfold fMt
  rw [h]
/-- how far a glaze runs -/
def wFlow (w : aW) (i : Nat) (y : Int32) : Int32 := if w 2 i = -1 then 0 else (if y - (fMt (w 2 i) - 4 * w 3 i) < 0 then 0 else y - (fMt (w 2 i) - 4 * w 3 i)) / 10
/-- what a ware is by a heat at it -/
def wGrade (w : aW) (i : Nat) (y : Int32) : Int32 :=
  if y < 1310 - 3 * (w 7 i / 2) ∨ 1310 - 3 * (w 7 i / 2) + 2 * w 0 1 < y ∨ 2 * w 0 0 < wFlow w i y then 3
  else if 1310 - 3 * (w 7 i / 2) + w 0 1 < y ∨ w 0 0 < wFlow w i y ∨ w 2 i = -1 then 2 else 1
theorem r_flow (d : Nat) (hi : aIx x 60 = some i) (hk : ¬ w 2 i = -1 → ∃ k, aIx (w 2 i) 4 = some k) : rW sn sf w (d + 2) m_X5_flowAt [.ref 10, .int x, .int y] (wFlow w i y) := by
  by_cases c : w 2 i = -1
  · exact r_flowAt (k := 0) d hi (fun h => absurd c h) (by unfold wFlow; rw [if_pos c, if_pos c])
  · obtain ⟨k, h⟩ := hk c
    exact r_flowAt d hi (fun _ => h) (by unfold wFlow; rw [if_neg c, if_neg c, fMt_of h])
theorem r_gradeAt0 {need fl : Int32} (d : Nat) (hi : aIx x 60 = some i) (h1 : rW sn sf w (d + 2) m_X5_needOf [.ref 10, .int x] need) (h2 : rW sn sf w (d + 2) m_X5_flowAt [.ref 10, .int x, .int y] fl) (hv : v = if y < need ∨ need + 2 * w 0 1 < y ∨ 2 * w 0 0 < fl then 3 else if need + w 0 1 < y ∨ w 0 0 < fl ∨ w 2 i = -1 then 2 else 1) : rW sn sf w (d + 3) m_X6_gradeAt [.ref 8, .int x, .int y] v := by
  refine aRun_of rfl (aVn_end (stop := fun p => false) 90 ?_)
  refine Exists.intro _ (And.intro h1 ?_)
  refine Exists.intro _ (And.intro h2 ?_)
  refine Exists.intro 1 (And.intro ix1 ?_)
  refine Exists.intro 0 (And.intro ix0 ?_)
  refine And.intro (fun c => ?_) (fun c => ?_)
  · exact aRi (by grind [aCond])
  refine And.intro (fun c2 => ?_) (fun c2 => ?_)
  · exact aRi (by grind [aCond])
  refine And.intro (fun c3 => ?_) (fun c3 => ?_)
  · refine And.intro (fun c4 => ?_) (fun c4 => ?_)
    · exact aRi (by grind [aCond])
    refine And.intro (fun c5 => ?_) (fun c5 => ?_)
    · exact aRi (by grind [aCond])
    refine Exists.intro _ (And.intro (r_isGlazed (d + 1) hi rfl) ?_)
    refine And.intro (fun c6 => ?_) (fun c6 => ?_)
    · exact aRi (by grind [aCond])
    · exact aRi (by grind [aCond])
  · exact aRi (by grind [aCond])
theorem r_gradeAt (d : Nat) (hi : aIx x 60 = some i) (hk : ¬ w 2 i = -1 → ∃ k, aIx (w 2 i) 4 = some k) (hv : v = wGrade w i y) : rW sn sf w (d + 3) m_X6_gradeAt [.ref 8, .int x, .int y] v :=
  r_gradeAt0 d hi (r_needOf (d + 1) hi) (r_flow d hi hk) hv
/-- does it stand in the kiln, in a saggar -/
def wFires (w : aW) (i : Nat) : Bool := decide (w 1 i = 1 ∧ 0 ≤ w 4 i ∧ w 4 i < w 16 4 ∧ ¬ w 8 (zn (w 4 i)) = -1)
theorem r_isToFire (d : Nat) (hi : aIx x 60 = some i) (hg : w 16 4 = Int32.ofNat g) (hg8 : g ≤ 8) (hv : v = if wFires w i = true then 1 else 0) : rW sn sf w (d + 2) m_X6_isToFire [.ref 8, .int x] v := by
  have hv : v = if w 1 i = 1 ∧ 0 ≤ w 4 i ∧ w 4 i < w 16 4 ∧ ¬ w 8 (zn (w 4 i)) = -1 then 1 else 0 := by
    rw [hv]
    unfold wFires
    simp only [decide_eq_true_eq]
  refine aRun_of rfl (aVn_end (stop := fun p => false) 60 ?_)
  refine Exists.intro i (And.intro hi ?_)
  refine And.intro (fun c => ?_) (fun c => ?_)
  · have c : ¬ w 1 i = 1 := cT c
    exact And.intro rfl (aRi (by grind))
  have c : w 1 i = 1 := Decidable.not_not.mp (cF c)
  refine Exists.intro i (And.intro hi ?_)
  refine Exists.intro _ (And.intro (r_isInKiln d (fun h0 h1 => aIx_x h0 (Int32.lt_of_lt_of_le h1 (by rw [hg]; exact (zI_le rfl rfl (by omega) (by omega)).mpr hg8)) (by omega)) rfl) ?_)
  refine And.intro (fun c2 => ?_) (fun c2 => ?_)
  · exact And.intro rfl (aRi (by grind [aCond]))
  · exact And.intro rfl (aRi (by grind [aCond]))
theorem wFires_ok (h : wFires w i = true) (hg : w 16 4 = Int32.ofNat g) (hg8 : g ≤ 8) : w 1 i = 1 ∧ aIx (w 4 i) 8 = some (zn (w 4 i)) ∧ ¬ w 8 (zn (w 4 i)) = -1 := by
  obtain ⟨h1, h2, h3, h4⟩ := of_decide_eq_true h
  exact ⟨h1, aIx_x h2 (Int32.lt_of_lt_of_le h3 (by rw [hg]; exact (zI_le rfl rfl (by omega) (by omega)).mpr hg8)) (by omega), h4⟩
/-- the heat at a ware's place -/
def wHeat (w : aW) (i : Nat) (y : Int32) : Int32 := y - 10 * w 9 (zn (w 4 i)) - 5 * w 8 (zn (w 4 i))
theorem r_gradeByFiring (d : Nat) (hi : aIx x 60 = some i) (hk : ¬ w 2 i = -1 → ∃ k, aIx (w 2 i) 4 = some k) (hs : aIx (w 4 i) 8 = some (zn (w 4 i))) : rW sn sf w (d + 4) m_X6_gradeByFiring [.ref 8, .int x, .int y] (wGrade w i (wHeat w i y)) := by
  refine aRun_of rfl (aVn_end (stop := fun p => false) 60 ?_)
  refine Exists.intro i (And.intro hi ?_)
  refine Exists.intro _ (And.intro (r_heatThere (d + 2) hs) ?_)
  refine Exists.intro _ (And.intro (r_gradeAt d hi hk rfl) ?_)
  exact rfl
theorem r_isThereToFire (d : Nat) (hn : w 16 3 = Int32.ofNat n) (hle : n ≤ 60) (hg : w 16 4 = Int32.ofNat g) (hg8 : g ≤ 8) : rW sn sf w (d + 3) m_X6_isThereToFire [.ref 8] (aFd (fun j => wFires w j) (fun _ => 1) 0 n 0) := by
  refine aRun_of rfl (aVn_end (stop := fun p => p == 2) 20 (k_find (S := fun x => (2, [some (.ref 8), some (.int x)], [], aHw sn sf w, (0, 0))) (R := fun f => (.inl (some (.int f)), aHw sn sf w, (0, 0))) (p := fun j => wFires w j) (q := fun j => 1) (z := 0) (n := n) (fun i x hi hx r h1 h2 => ?_) (fun x hx => ?_) n 0 0 (by omega) rfl))
  · have key1 : ∀ u, (wFires w i) = true → u = (1) → ((.inl (some (.int u)), aHw sn sf w, (0, 0)) : aR) = r := fun u g e => e ▸ (h1 g).symm
    have key2 : (wFires w i) = false → aEnd _ (2, [some (.ref 8), some (.int (x + 1))], [], aHw sn sf w, (0, 0)) r := h2
    have hi1 : aIx x 60 = some i := aIx_of hx (by omega) (by omega)
    refine aVn_end (stop := fun p => p == 2) 60 (And.intro (fun c => absurd (zgeT c hx hn (by omega) (by omega)) (by omega)) (fun _ => ?_))
    repeat' first
      | refine key1 _ ?_ ?_
      | refine key2 ?_
      | exact And.intro rfl (key1 _ (by grind [aCond]) rfl)
      | refine Exists.intro _ (And.intro (r_isToFire d hi1 hg hg8 rfl) ?_)
      | refine Exists.intro i (And.intro hi1 ?_)
      | exact rfl
      | refine And.intro ?_ ?_
      | refine fun _ => ?_
      | refine aRi ?_
    all_goals first
      | assumption
      | grind [aCond]
  · exact aVn_end (stop := fun p => p == 2) 60 (And.intro (fun c => And.intro rfl rfl) (fun c => absurd (zgeF c hx hn (by omega) (by omega)) (by omega)))
/-- how many firsts a heat makes -/
def wFirsts (w : aW) (n : Nat) (y : Int32) : Int32 := aSm (fun j => if wFires w j = true ∧ wGrade w j (wHeat w j y) = 1 then 1 else 0) n 0
theorem r_firstsBy (d : Nat) (hn : w 16 3 = Int32.ofNat n) (hle : n ≤ 60) (hg : w 16 4 = Int32.ofNat g) (hg8 : g ≤ 8) (hgl : ∀ j, j < n → ¬ w 2 j = -1 → ∃ k, aIx (w 2 j) 4 = some k) : rW sn sf w (d + 5) m_X6_firstsBy [.ref 8, .int y] (wFirsts w n y) := by
  refine aRun_of rfl (aVn_end (stop := fun p => p == 4) 20 (k_sum0 (S := fun f x => (4, [some (.ref 8), some (.int y), some (.int f), some (.int x)], [], aHw sn sf w, (0, 0))) (R := fun f => (.inl (some (.int f)), aHw sn sf w, (0, 0))) (g := fun j => if wFires w j = true ∧ wGrade w j (wHeat w j y) = 1 then 1 else 0) (n := n) (fun i x f hi hx r ih => ?_) (fun x f hx => ?_)))
  · have key : ∀ u, u = f + (if wFires w i = true ∧ wGrade w i (wHeat w i y) = 1 then 1 else 0) → aEnd _ ((fun f x => (4, [some (.ref 8), some (.int y), some (.int f), some (.int x)], [], aHw sn sf w, (0, 0))) u (x + 1)) r := fun u hu => hu ▸ ih
    have hi1 : aIx x 60 = some i := aIx_of hx (by omega) (by omega)
    refine aVn_end (stop := fun p => p == 4) 60 (And.intro (fun c => absurd (zgeT c hx hn (by omega) (by omega)) (by omega)) (fun _ => ?_))
    refine Exists.intro _ (And.intro (r_isToFire (d + 2) hi1 hg hg8 rfl) ?_)
    refine And.intro (fun c => ?_) (fun c => ?_)
    · exact key _ (by grind [aCond])
    have hf : wFires w i = true := by grind [aCond]
    refine Exists.intro _ (And.intro (r_gradeByFiring d hi1 (hgl i hi) (wFires_ok hf hg hg8).2.1) ?_)
    refine And.intro (fun c2 => ?_) (fun c2 => ?_)
    · exact key _ (by grind [aCond])
    · exact key _ (by grind [aCond])
  · exact aVn_end (stop := fun p => p == 4) 60 (And.intro (fun c => rfl) (fun c => absurd (zgeF c hx hn (by omega) (by omega)) (by omega)))
def wHeld (w : aW) (n : Nat) (y : Int32) : Int32 := aSm (fun j => if w 4 j = y then fSz (w 6 j) else 0) n 0
theorem r_weightOf (d : Nat) (hn : w 16 3 = Int32.ofNat n) (hle : n ≤ 60) (hk : ∀ j, j < n → ∃ k, aIx (w 6 j) 4 = some k) : rW sn sf w (d + 2) m_X6_weightOf [.ref 8, .int x] (3 + wHeld w n x) := by
  refine aRun_of rfl (aVn_end (stop := fun p => false) 60 ?_)
  refine Exists.intro _ (And.intro (r_sizeIn d hn hle hk) ?_)
  exact rfl
theorem r_roomIn (d : Nat) (hn : w 16 3 = Int32.ofNat n) (hle : n ≤ 60) (hk : ∀ j, j < n → ∃ k, aIx (w 6 j) 4 = some k) : rW sn sf w (d + 2) m_X6_roomIn [.ref 8, .int x] (6 - wHeld w n x) := by
  refine aRun_of rfl (aVn_end (stop := fun p => false) 60 ?_)
  refine Exists.intro _ (And.intro (r_sizeIn d hn hle hk) ?_)
  exact rfl
end WK
