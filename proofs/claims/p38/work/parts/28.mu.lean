/-! THE CLASS: what changes a Works -/
theorem bEqT {P : Prop} [Decidable P] (c : aCond .eq (if P then 1 else 0) 0 = true) : ¬ P := by
  intro h
  rw [if_pos h] at c
  exact absurd c (by decide)
theorem bEqF {P : Prop} [Decidable P] (c : aCond .eq (if P then 1 else 0) 0 = false) : P := by
  by_cases h : P
  · exact h
  · rw [if_neg h] at c
    exact absurd c (by decide)
theorem bNeT {P : Prop} [Decidable P] (c : aCond .ne (if P then 1 else 0) 0 = true) : P := by
  by_cases h : P
  · exact h
  · rw [if_neg h] at c
    exact absurd c (by decide)
theorem bNeF {P : Prop} [Decidable P] (c : aCond .ne (if P then 1 else 0) 0 = false) : ¬ P := by
  intro h
  rw [if_pos h] at c
  exact absurd c (by decide)
section MU
variable {sn : Nat} {sf : Nat → Int32} {w w1 : aW} {n g i : Nat} {x y z v u : Int32}
/-- an answer and the Works behind it -/
abbrev aZ : Type := Int32 × aW
abbrev rZ (sn : Nat) (sf : Nat → Int32) (w : aW) (d m : Nat) (as : List Value) (p : aZ) : Prop := aRun false d m as (aHw sn sf w) = some (.inl (some (.int p.1)), aHw sn sf p.2, (0, 0))
theorem aRz {p q : aZ} (e : p = q) : ((.inl (some (.int p.1)), aHw sn sf p.2, (0, 0)) : aR) = (.inl (some (.int q.1)), aHw sn sf q.2, (0, 0)) := by rw [e]
theorem aIx_le {m : Nat} (h0 : 0 ≤ x) (h1 : x ≤ Int32.ofNat m) (hm : m < 99999) : aIx x (m + 1) = some (zn x) := by
  have e0 : (0 : Int32).toInt = 0 := rfl
  refine aIx_x h0 (Int32.lt_iff_toInt_lt.mpr ?_) (by omega)
  have := Int32.le_iff_toInt_le.mp h1
  rw [Int32.toInt_ofNat_of_lt (by omega)] at this ⊢
  omega
theorem aIx_lt {c : Int32} {m k : Nat} (h : 0 ≤ x ∧ x < c) (hc : c = Int32.ofNat m) (hm : m ≤ k) (hk : k < 99999) : aIx x k = some (zn x) ∧ zn x < m ∧ x = Int32.ofNat (zn x) := by
  obtain ⟨h0, h1⟩ := h
  have e0 : (0 : Int32).toInt = 0 := rfl
  have g0 : (0 : Int) ≤ x.toInt := by rw [← e0]; exact Int32.le_iff_toInt_le.mp h0
  have g1 : x.toInt < m := by
    have := Int32.lt_iff_toInt_lt.mp h1
    rw [hc, Int32.toInt_ofNat_of_lt (by omega)] at this
    exact this
  have g2 : ((zn x : Nat) : Int) = x.toInt := by
    show ((x.toInt.toNat : Nat) : Int) = _
    omega
  have g3 : x = Int32.ofNat (zn x) := by
    refine Int32.toInt_inj.mp ?_
    rw [Int32.toInt_ofNat_of_lt (by omega)]
    exact g2.symm
  exact ⟨aIx_of g3 (by omega) (by omega), by omega, g3⟩
theorem fSz_ex {n j : Nat} (hk : ∀ j, j < n → ∃ k, aIx (w 6 j) 4 = some k) (h : j < n) : aIx (w 6 j) 4 = some (zn (w 6 j)) := by
  obtain ⟨k, e⟩ := hk j h
  have e2 := e
  unfold aIx at e2
  split at e2
  · cases e2
  · exact e.trans e2.symm
def fSet (w : aW) (x y : Int32) : aZ := if 0 ≤ x ∧ x ≤ 2 then if aI4 0 10 5 5 (zn x) ≤ y ∧ y ≤ aI4 9 99 40 40 (zn x) then (w 0 (zn x), upw w 0 (zn x) y) else (-2, w) else (-2, w)
theorem r_changeSetting (d : Nat) : rZ sn sf w (d + 2) m_X6_changeSetting [.ref 8, .int x, .int y] (fSet w x y) := by
  refine aRun_of rfl (aVn_end (stop := fun p => false) 60 ?_)
  refine Exists.intro _ (And.intro (r_isFrom d rfl) ?_)
  refine And.intro (fun c => ?_) (fun c => ?_)
  · exact aRz (p := (-2, w)) (by rw [fSet, if_neg (bEqT c)])
  have h1 := bEqF c
  have hi : aIx x 3 = some (zn x) := aIx_le (m := 2) h1.1 h1.2 (by omega)
  refine Exists.intro (zn x) (And.intro hi ?_)
  refine Exists.intro (zn x) (And.intro hi ?_)
  refine Exists.intro _ (And.intro (r_isFrom d rfl) ?_)
  refine And.intro (fun c => ?_) (fun c => ?_)
  · refine Exists.intro (zn x) (And.intro hi ?_)
    refine Exists.intro (zn x) (And.intro hi ?_)
    exact aRz (p := (w 0 (zn x), upw w 0 (zn x) y)) (by rw [fSet, if_pos h1, if_pos (bNeT c)])
  · exact aRz (p := (-2, w)) (by rw [fSet, if_pos h1, if_neg (bNeF c)])
def fClay (w : aW) (x : Int32) : aZ := if 1 ≤ x ∧ x ≤ 99 then if w 16 0 + x ≤ 999 then (w 16 0 + x, upw (upw w 16 0 (w 16 0 + x)) 16 1 (w 16 1 + x)) else (-3, wNote w 1 999) else (-2, w)
theorem r_buyClay (d : Nat) : rZ sn sf w (d + 3) m_X6_buyClay [.ref 8, .int x] (fClay w x) := by
  refine aRun_of rfl (aVn_end (stop := fun p => false) 60 ?_)
  refine Exists.intro _ (And.intro (r_isFrom (d + 1) rfl) ?_)
  refine And.intro (fun c => ?_) (fun c => ?_)
  · have h1 := bNeT c
    refine And.intro (fun c => ?_) (fun c => ?_)
    · have h2 : w 16 0 + x ≤ 999 := cT c
      exact aRz (p := (w 16 0 + x, upw (upw w 16 0 (w 16 0 + x)) 16 1 (w 16 1 + x))) (by rw [fClay, if_pos h1, if_pos h2])
    · have h2 : ¬ w 16 0 + x ≤ 999 := cF c
      refine Exists.intro _ (And.intro (r_refuse d) ?_)
      exact aRz (p := (-3, wNote w 1 999)) (by rw [fClay, if_pos h1, if_neg h2])
  · exact aRz (p := (-2, w)) (by rw [fClay, if_neg (bNeF c)])
/-- wares of one kind, one after the other -/
def wAdds (w : aW) (n : Nat) (x y : Int32) : Nat → aW
  | 0 => w
  | k + 1 => wAdd (wAdds w n x y k) (n + k) x y
theorem wAdds_n (hn : w 16 3 = Int32.ofNat n) : ∀ k, wAdds w n x y k 16 3 = Int32.ofNat (n + k)
  | 0 => hn
  | k + 1 => by
    show wAdds w n x y k 16 3 + 1 = _
    rw [wAdds_n hn k]
    exact zI_s rfl
def fCast (w : aW) (n : Nat) (x y z : Int32) : aZ := if (0 ≤ x ∧ x ≤ 3) ∧ (1 ≤ y ∧ y ≤ 20) ∧ (30 ≤ z ∧ z ≤ 60) then
    if w 16 3 + y ≤ 60 then if y * fSz x ≤ w 16 0 then (w 16 3 + y, wAdds (upw w 16 0 (w 16 0 - y * fSz x)) n x z (zn y)) else (-3, wNote w 2 (w 16 0)) else (-3, wNote w 1 60) else (-2, w)
theorem l_throw {F : aF} {s4 : Int32} {w0 : aW} (hn : w0 16 3 = Int32.ofNat n) (h6 : n + zn y ≤ 60) (hy3 : y = Int32.ofNat (zn y)) (hF : ∀ k, n + k < 60 → F m_X5_add [.ref 10, .int x, .int z] (aHw sn sf (wAdds w0 n x z k)) = some (.inl none, aHw sn sf (wAdds w0 n x z (k + 1)), (0, 0))) :
    aEnd (aStep F aCls [] aB_X6_throwWares (some .int) false) (103, [some (.ref 8), some (.int x), some (.int y), some (.int z), some (.int s4), some (.int 0)], [], aHw sn sf w0, (0, 0)) (.inl (some (.int (wAdds w0 n x z (zn y) 16 3))), aHw sn sf (wAdds w0 n x z (zn y)), (0, 0)) := by
  refine k_ind (τ := Unit) (n := zn y) (T := fun _ i x1 => (103, [some (.ref 8), some (.int x), some (.int y), some (.int z), some (.int s4), some (.int x1)], [], aHw sn sf (wAdds w0 n x z i), (0, 0))) (fun i x1 u hi2 hx1 r ih => ?_) (fun x1 u hx1 => ?_) (zn y) 0 0 () (by omega) rfl
  · refine aVn_end (stop := fun p => p == 103) 60 ?_
    refine And.intro (fun c => absurd (zgeT c hx1 hy3 (by omega) (by omega)) (by omega)) (fun _ => ?_)
    refine Exists.intro _ (And.intro (hF i (by omega)) ?_)
    exact ih ()
  · refine aVn_end (stop := fun p => p == 103) 60 ?_
    exact And.intro (fun c => rfl) (fun c => absurd (zgeF c hx1 hy3 (by omega) (by omega)) (by omega))
theorem r_throwWares (d : Nat) (hn : w 16 3 = Int32.ofNat n) (hle : n ≤ 60) : rZ sn sf w (d + 3) m_X6_throwWares [.ref 8, .int x, .int y, .int z] (fCast w n x y z) := by
  refine aRun_of rfl (aVn_end (stop := fun p => p == 103) 90 ?_)
  refine Exists.intro _ (And.intro (r_isFrom (d + 1) rfl) ?_)
  refine And.intro (fun c => ?_) (fun c => ?_)
  · have h0 := bEqT c
    exact aRz (p := (-2, w)) (by rw [fCast, if_neg (fun h => h0 h.1)])
  have h1 := bEqF c
  refine Exists.intro _ (And.intro (r_isFrom (d + 1) rfl) ?_)
  refine And.intro (fun c => ?_) (fun c => ?_)
  · have h0 := bEqT c
    exact aRz (p := (-2, w)) (by rw [fCast, if_neg (fun h => h0 h.2.1)])
  have h2 := bEqF c
  refine Exists.intro _ (And.intro (r_isFrom (d + 1) rfl) ?_)
  refine And.intro (fun c => ?_) (fun c => ?_)
  · have h3 := bNeT c
    have h : (0 ≤ x ∧ x ≤ 3) ∧ (1 ≤ y ∧ y ≤ 20) ∧ (30 ≤ z ∧ z ≤ 60) := ⟨h1, h2, h3⟩
    have hi : aIx x 4 = some (zn x) := aIx_le (m := 3) h1.1 h1.2 (by omega)
    have hz := fSz_of hi
    refine And.intro (fun c => ?_) (fun c => ?_)
    · have h4 : w 16 3 + y ≤ 60 := cT c
      refine Exists.intro (zn x) (And.intro hi ?_)
      refine And.intro (fun c => ?_) (fun c => ?_)
      · have h5 : y * aI4 2 1 3 4 (zn x) ≤ w 16 0 := cT c
        have hy := aIx_lt (x := y) (c := 21) (m := 21) (k := 21) ⟨Int32.le_trans (by decide) h2.1, Int32.lt_of_le_of_lt h2.2 (by decide)⟩ rfl (by omega) (by omega)
        have hy3 := hy.2.2
        have hy2 := hy.2.1
        have h6 : n + zn y ≤ 60 := by
          refine (zI_le (x := Int32.ofNat (n + zn y)) (y := 60) (n := 60) rfl rfl (by omega) (by omega)).mp ?_
          rw [Int32.ofNat_add, ← hn, ← hy3]
          exact h4
        have hn0 : (upw w 16 0 (w 16 0 - y * aI4 2 1 3 4 (zn x))) 16 3 = Int32.ofNat n := hn
        have e : ((wAdds (upw w 16 0 (w 16 0 - y * aI4 2 1 3 4 (zn x))) n x z (zn y) 16 3, wAdds (upw w 16 0 (w 16 0 - y * aI4 2 1 3 4 (zn x))) n x z (zn y)) : aZ) = fCast w n x y z := by
          rw [fCast, if_pos h, if_pos h4, hz, if_pos h5, wAdds_n hn0, Int32.ofNat_add, ← hn, ← hy3]
        have main := aEnd_eq (l_throw (sn := sn) (sf := sf) (F := aRun false (d + 2)) (s4 := y * aI4 2 1 3 4 (zn x)) hn0 h6 hy3 (fun k hk => r_add5 (d + 1) (wAdds_n hn0 k) hk)) (aRz e)
        exact main
      · have h5 : ¬ y * aI4 2 1 3 4 (zn x) ≤ w 16 0 := cF c
        refine Exists.intro _ (And.intro (r_refuse d) ?_)
        exact aRz (p := (-3, wNote w 2 (w 16 0))) (by rw [fCast, if_pos h, if_pos h4, hz, if_neg h5])
    · have h4 : ¬ w 16 3 + y ≤ 60 := cF c
      refine Exists.intro _ (And.intro (r_refuse d) ?_)
      exact aRz (p := (-3, wNote w 1 60)) (by rw [fCast, if_pos h, if_neg h4])
  · have h0 := bNeF c
    exact aRz (p := (-2, w)) (by rw [fCast, if_neg (fun h => h0 h.2.2)])
def fCoat (w : aW) (x y z : Int32) : aZ := if 0 ≤ x ∧ x < w 16 3 then if (0 ≤ y ∧ y ≤ 3) ∧ (1 ≤ z ∧ z ≤ 9) then
    if w 1 (zn x) = 0 then (fMt y - 4 * z, upw (upw w 2 (zn x) y) 3 (zn x) z) else (-3, wNote w 3 (w 1 (zn x))) else (-2, w) else (-1, w)
theorem r_coatWare (d : Nat) (hn : w 16 3 = Int32.ofNat n) (hle : n ≤ 60) : rZ sn sf w (d + 3) m_X6_coatWare [.ref 8, .int x, .int y, .int z] (fCoat w x y z) := by
  refine aRun_of rfl (aVn_end (stop := fun p => false) 90 ?_)
  refine Exists.intro _ (And.intro (r_has5 (d + 1) rfl) ?_)
  refine And.intro (fun c => ?_) (fun c => ?_)
  · have h1 := bNeT c
    have hx := (aIx_lt h1 hn hle (by omega)).1
    refine Exists.intro _ (And.intro (r_isFrom (d + 1) rfl) ?_)
    refine And.intro (fun c => ?_) (fun c => ?_)
    · have h0 := bEqT c
      exact aRz (p := (-2, w)) (by rw [fCoat, if_pos h1, if_neg (fun h => h0 h.1)])
    have h2 := bEqF c
    refine Exists.intro _ (And.intro (r_isFrom (d + 1) rfl) ?_)
    refine And.intro (fun c => ?_) (fun c => ?_)
    · have h3 := bNeT c
      have h : (0 ≤ y ∧ y ≤ 3) ∧ (1 ≤ z ∧ z ≤ 9) := ⟨h2, h3⟩
      refine Exists.intro (zn x) (And.intro hx ?_)
      refine And.intro (fun c => ?_) (fun c => ?_)
      · have h4 : w 1 (zn x) = 0 := cT c
        have hy : aIx y 4 = some (zn y) := aIx_le (m := 3) h2.1 h2.2 (by omega)
        refine Exists.intro (zn x) (And.intro hx ?_)
        refine Exists.intro (zn x) (And.intro hx ?_)
        have e2 : (upw (upw w 2 (zn x) y) 3 (zn x) z) 2 (zn x) = y := by
          show upd (w 2) (zn x) y (zn x) = y
          exact if_pos rfl
        have e3 : (upw (upw w 2 (zn x) y) 3 (zn x) z) 3 (zn x) = z := by
          show upd _ (zn x) z (zn x) = z
          exact if_pos rfl
        refine Exists.intro _ (And.intro (r_meltingHeatOf (w := upw (upw w 2 (zn x) y) 3 (zn x) z) (d + 1) hx (k := zn y) (by rw [e2]; exact hy)) ?_)
        exact aRz (p := (aI4 1180 1200 1220 1240 (zn y) - 4 * (upw (upw w 2 (zn x) y) 3 (zn x) z) 3 (zn x), upw (upw w 2 (zn x) y) 3 (zn x) z)) (by rw [fCoat, if_pos h1, if_pos h, if_pos h4, fMt_of hy, e3])
      · have h4 : ¬ w 1 (zn x) = 0 := cF c
        refine Exists.intro (zn x) (And.intro hx ?_)
        refine Exists.intro _ (And.intro (r_refuse d) ?_)
        exact aRz (p := (-3, wNote w 3 (w 1 (zn x)))) (by rw [fCoat, if_pos h1, if_pos h, if_neg h4])
    · have h0 := bNeF c
      exact aRz (p := (-2, w)) (by rw [fCoat, if_pos h1, if_neg (fun h => h0 h.2)])
  · have h0 := bNeF c
    exact aRz (p := (-1, w)) (by rw [fCoat, if_neg h0])
def fSag (w : aW) (g : Nat) : aZ := if w 16 4 < 8 then (w 16 4 + 1 - 1, wAdd3 w g) else (-3, wNote w 1 8)
theorem r_addSaggar (d : Nat) (hg : w 16 4 = Int32.ofNat g) (hg8 : g ≤ 8) : rZ sn sf w (d + 3) m_X6_addSaggar [.ref 8] (fSag w g) := by
  refine aRun_of rfl (aVn_end (stop := fun p => false) 60 ?_)
  refine And.intro (fun c => ?_) (fun c => ?_)
  · have h1 : w 16 4 < 8 := cT c
    have h2 : g < 8 := (zI_lt (n := 8) hg rfl (by omega) (by omega)).mp h1
    refine Exists.intro _ (And.intro (r_add3 d hg h2) ?_)
    exact aRz (p := (w 16 4 + 1 - 1, wAdd3 w g)) (by rw [fSag, if_pos h1])
  · have h1 : ¬ w 16 4 < 8 := cF c
    refine Exists.intro _ (And.intro (r_refuse d) ?_)
    exact aRz (p := (-3, wNote w 1 8)) (by rw [fSag, if_neg h1])
/-- the lowest saggar below a place whose load would be too great -/
def wOver (w : aW) (n g : Nat) (y z v : Int32) : Int32 := aFd (fun j => decide (¬ wAt w g y (Int32.ofNat j) = -1 ∧ w 0 2 < wLoad w n g (wAt w g y (Int32.ofNat j)) + v)) (fun j => wAt w g y (Int32.ofNat j)) (-1) (zn z) 0
theorem zlv (hx : x = Int32.ofNat i) (hi : i < 100000) : y ≤ x ↔ zn y ≤ i := by
  rw [hx, Int32.le_iff_toInt_le, Int32.toInt_ofNat_of_lt (by omega)]
  show _ ↔ y.toInt.toNat ≤ i
  omega
theorem r_overloadedBelow (d : Nat) (hn : w 16 3 = Int32.ofNat n) (hle : n ≤ 60) (hg : w 16 4 = Int32.ofNat g) (hg8 : g ≤ 8) (hk : ∀ j, j < n → ∃ k, aIx (w 6 j) 4 = some k) (hz : zn z ≤ 8) : rW sn sf w (d + 4) m_X6_overloadedBelow [.ref 8, .int y, .int z, .int v] (wOver w n g y z v) := by
  refine aRun_of rfl (aVn_end (stop := fun p => p == 3) 60 ?_)
  refine k_findJ (τ := Option Value) (S := fun u x1 => (3, [some (.ref 8), some (.int y), some (.int z), some (.int v), some (.int x1), u], [], aHw sn sf w, (0, 0))) (R := fun f => (.inl (some (.int f)), aHw sn sf w, (0, 0))) (p := fun j => decide (¬ wAt w g y (Int32.ofNat j) = -1 ∧ w 0 2 < wLoad w n g (wAt w g y (Int32.ofNat j)) + v)) (q := fun j => wAt w g y (Int32.ofNat j)) (z := -1) (n := zn z) (fun i x1 u hi hx1 r h1 h2 => ?_) (fun x1 u hx1 => ?_) (zn z) 0 0 none (by omega) rfl
  · have e1 : wAt w g y x1 = wAt w g y (Int32.ofNat i) := by rw [hx1]
    rcases wAt_rng w g y x1 with q | ⟨k, hk1, hk2, -⟩
    · refine aVn_end (stop := fun p => p == 3) 60 ?_
      refine And.intro (fun c => absurd ((zlv hx1 (by omega)).mp (cT c)) (by omega)) (fun _ => ?_)
      refine Exists.intro _ (And.intro (r_at (d + 2) hg hg8) ?_)
      refine And.intro (fun c => ?_) (fun c => absurd q (cF c))
      exact h2 (decide_eq_false (fun h => h.1 (e1 ▸ q))) _
    · refine aVn_end (stop := fun p => p == 3) 60 ?_
      refine And.intro (fun c => absurd ((zlv hx1 (by omega)).mp (cT c)) (by omega)) (fun _ => ?_)
      refine Exists.intro _ (And.intro (r_at (d + 2) hg hg8) ?_)
      refine And.intro (fun c => ?_) (fun c => ?_)
      · have h3 : wAt w g y x1 = -1 := cT c
        exact h2 (decide_eq_false (fun h => h.1 (e1 ▸ h3))) _
      have h3 : ¬ wAt w g y x1 = -1 := cF c
      refine Exists.intro _ (And.intro (r_weightAbove d hn hle hg hg8 hk hk2 hk1) ?_)
      refine Exists.intro 2 (And.intro ix2 ?_)
      refine And.intro (fun c => ?_) (fun c => ?_)
      · have h4 : wLoad w n g (wAt w g y x1) + v ≤ w 0 2 := cT c
        exact h2 (decide_eq_false (fun h => Int32.not_lt.mpr h4 (e1 ▸ h.2))) _
      · have h4 : ¬ wLoad w n g (wAt w g y x1) + v ≤ w 0 2 := cF c
        have e2 := h1 (decide_eq_true ⟨by rw [← e1]; exact h3, by rw [← e1]; exact Int32.not_le.mp h4⟩)
        exact (congrArg (fun u => ((.inl (some (.int u)), aHw sn sf w, (0, 0)) : aR)) e1).trans e2.symm
  · refine aVn_end (stop := fun p => p == 3) 60 ?_
    exact And.intro (fun c => rfl) (fun c => absurd ((zlv (y := z) hx1 (by omega)).mpr (Nat.le_refl _)) (cF c))
end MU
