/-! THE CLASS: what changes saggars -/
section MV
variable {sn : Nat} {sf : Nat → Int32} {w w1 : aW} {n g i : Nat} {x y z v u : Int32}
def wB (w : aW) (y z : Int32) : Int32 := if y = -1 then z else w 8 (zn y)
def wL (w : aW) (y : Int32) : Int32 := if y = -1 then 0 else w 9 (zn y) + 1
def fStand (w : aW) (n g : Nat) (x y z : Int32) : aZ :=
  if (0 ≤ x ∧ x < w 16 4) ∧ (if y = -1 then 0 ≤ z ∧ z ≤ 3 else 0 ≤ y ∧ y < w 16 4) then
    if x = y then (-2, w) else if ¬ w 8 (zn x) = -1 then (-3, wNote w 5 x) else if ¬ y = -1 ∧ w 8 (zn y) = -1 then (-3, wNote w 5 y) else
    if ¬ wAt w g (wB w y z) (wL w y) = -1 then (-3, wNote w 6 (wAt w g (wB w y z) (wL w y))) else
    if ¬ wOver w n g (wB w y z) (wL w y) (3 + wHeld w n x) = -1 then (-3, wNote w 7 (wOver w n g (wB w y z) (wL w y) (3 + wHeld w n x))) else
    (wL w y, upw (upw w 8 (zn x) (wB w y z)) 9 (zn x) (wL w y))
  else (-1, w)
theorem r_standFoot (d : Nat) (hy : y = -1) (hn : w 16 3 = Int32.ofNat n) (hle : n ≤ 60) (hg : w 16 4 = Int32.ofNat g) (hg8 : g ≤ 8) (hk : ∀ j, j < n → ∃ k, aIx (w 6 j) 4 = some k) (hlv : ∀ j, j < g → zn (w 9 j + 1) ≤ 8 ∧ zn (w 9 j) ≤ 8) : rZ sn sf w (d + 5) m_X6_standInKiln [.ref 8, .int x, .int y, .int z] (fStand w n g x y z) := by
  have eB : wB w y z = z := if_pos hy
  have eL : wL w y = 0 := if_pos hy
  refine aRun_of rfl (aVn_end (stop := fun p => false) 120 ?_)
  refine And.intro (fun c => absurd hy (cT c)) (fun _ => ?_)
  refine Exists.intro _ (And.intro (r_has3 (d + 3) rfl) (And.intro (fun c => ?_) (fun c => ?_)))
  · have h0 := bEqT c
    exact aRz (p := (-1, w)) (by rw [fStand, if_neg (fun h => h0 h.1)])
  have h1 := bEqF c
  have hxx := aIx_lt h1 hg hg8 (by omega)
  have hx := hxx.1
  have hx1 := hxx.2.1
  have hx2 := hxx.2.2
  refine And.intro (fun c => absurd (show false = true from c) (by decide)) (fun _ => ?_)
  refine Exists.intro _ (And.intro (r_isFrom (d + 3) rfl) ?_)
  refine And.intro (fun c => ?_) (fun c => ?_)
  rotate_left
  · have h0 := bNeF c
    exact aRz (p := (-1, w)) (by rw [fStand, if_neg (fun h => h0 (by have h2 := h.2; rw [if_pos hy] at h2; exact h2))])
  have h2 : (0 ≤ x ∧ x < w 16 4) ∧ (if y = -1 then 0 ≤ z ∧ z ≤ 3 else 0 ≤ y ∧ y < w 16 4) := ⟨h1, by rw [if_pos hy]; exact bNeT c⟩
  refine And.intro (fun c => ?_) (fun c => ?_)
  rotate_left
  · have h0 : x = y := Decidable.not_not.mp (cF c)
    exact aRz (p := (-2, w)) (by rw [fStand, if_pos h2, if_pos h0])
  have h4 : ¬ x = y := cT c
  refine Exists.intro _ (And.intro (r_isInKiln (d + 3) (fun _ _ => hx) rfl) ?_)
  refine And.intro (fun c => ?_) (fun c => ?_)
  rotate_left
  · refine Exists.intro _ (And.intro (r_refuse (d + 2)) ?_)
    have h0 := (bEqF c).2.2
    exact aRz (p := (-3, wNote w 5 x)) (by rw [fStand, if_pos h2, if_neg h4, if_pos h0])
  have h5 : ¬ ¬ w 8 (zn x) = -1 := fun h => bEqT c ⟨h1.1, h1.2, h⟩
  refine And.intro (fun _ => ?_) (fun c => absurd (show true = false from c) (by decide))
  have h6 : ¬ (¬ y = -1 ∧ w 8 (zn y) = -1) := fun h => h.1 hy
  refine And.intro (fun c => absurd (show false = true from c) (by decide)) (fun _ => ?_)
  refine And.intro (fun c => absurd (show false = true from c) (by decide)) (fun _ => ?_)
  refine Exists.intro _ (And.intro (r_at (d + 3) hg hg8) (And.intro (fun c => ?_) (fun c => ?_)))
  rotate_left
  · have h8 : ¬ wAt w g (z) 0 = -1 := cF c
    refine Exists.intro _ (And.intro (r_refuse (d + 2)) ?_)
    exact aRz (p := (-3, wNote w 6 (wAt w g (z) 0))) (by rw [fStand, if_pos h2, if_neg h4, if_neg h5, if_neg h6, eB, eL, if_pos h8])
  have h8 : ¬ ¬ wAt w g (z) 0 = -1 := fun h => h (cT c)
  refine Exists.intro _ (And.intro (r_weightOf (d + 2) hn hle hk) ?_)
  refine Exists.intro _ (And.intro (r_overloadedBelow d hn hle hg hg8 hk (by decide)) ?_)
  refine And.intro (fun c => ?_) (fun c => ?_)
  rotate_left
  · have h9 : ¬ wOver w n g (z) 0 (3 + wHeld w n x) = -1 := cF c
    refine Exists.intro _ (And.intro (r_refuse (d + 2)) ?_)
    exact aRz (p := (-3, wNote w 7 (wOver w n g (z) 0 (3 + wHeld w n x)))) (by rw [fStand, if_pos h2, if_neg h4, if_neg h5, if_neg h6, eB, eL, if_neg h8, if_pos h9])
  have h9 : ¬ ¬ wOver w n g (z) 0 (3 + wHeld w n x) = -1 := fun h => h (cT c)
  refine Exists.intro _ (And.intro (r_place (d + 3) hx) ?_)
  exact aRz (p := (0, upw (upw w 8 (zn x) (z)) 9 (zn x) 0)) (by rw [fStand, if_pos h2, if_neg h4, if_neg h5, if_neg h6, eB, eL, if_neg h8, if_neg h9])
theorem r_standOn (d : Nat) (hy : ¬ y = -1) (hn : w 16 3 = Int32.ofNat n) (hle : n ≤ 60) (hg : w 16 4 = Int32.ofNat g) (hg8 : g ≤ 8) (hk : ∀ j, j < n → ∃ k, aIx (w 6 j) 4 = some k) (hlv : ∀ j, j < g → zn (w 9 j + 1) ≤ 8 ∧ zn (w 9 j) ≤ 8) : rZ sn sf w (d + 5) m_X6_standInKiln [.ref 8, .int x, .int y, .int z] (fStand w n g x y z) := by
  have eB : wB w y z = w 8 (zn y) := if_neg hy
  have eL : wL w y = (w 9 (zn y) + 1) := if_neg hy
  refine aRun_of rfl (aVn_end (stop := fun p => false) 120 ?_)
  refine And.intro (fun _ => ?_) (fun c => absurd (cF c) (fun h => h hy))
  refine Exists.intro _ (And.intro (r_has3 (d + 3) rfl) (And.intro (fun c => ?_) (fun c => ?_)))
  · have h0 := bEqT c
    exact aRz (p := (-1, w)) (by rw [fStand, if_neg (fun h => h0 h.1)])
  have h1 := bEqF c
  have hxx := aIx_lt h1 hg hg8 (by omega)
  have hx := hxx.1
  have hx1 := hxx.2.1
  have hx2 := hxx.2.2
  refine And.intro (fun _ => ?_) (fun c => absurd (show true = false from c) (by decide))
  refine Exists.intro _ (And.intro (r_has3 (d + 3) rfl) ?_)
  refine And.intro (fun c => ?_) (fun c => ?_)
  rotate_left
  · have h0 := bNeF c
    exact aRz (p := (-1, w)) (by rw [fStand, if_neg (fun h => h0 (by have h2 := h.2; rw [if_neg hy] at h2; exact h2))])
  have h3 := bNeT c
  have h2 : (0 ≤ x ∧ x < w 16 4) ∧ (if y = -1 then 0 ≤ z ∧ z ≤ 3 else 0 ≤ y ∧ y < w 16 4) := ⟨h1, by rw [if_neg hy]; exact h3⟩
  have hyy := aIx_lt h3 hg hg8 (by omega)
  have hyi := hyy.1
  have hy1 := hyy.2.1
  have hy2 := hyy.2.2
  refine And.intro (fun c => ?_) (fun c => ?_)
  rotate_left
  · have h0 : x = y := Decidable.not_not.mp (cF c)
    exact aRz (p := (-2, w)) (by rw [fStand, if_pos h2, if_pos h0])
  have h4 : ¬ x = y := cT c
  refine Exists.intro _ (And.intro (r_isInKiln (d + 3) (fun _ _ => hx) rfl) ?_)
  refine And.intro (fun c => ?_) (fun c => ?_)
  rotate_left
  · refine Exists.intro _ (And.intro (r_refuse (d + 2)) ?_)
    have h0 := (bEqF c).2.2
    exact aRz (p := (-3, wNote w 5 x)) (by rw [fStand, if_pos h2, if_neg h4, if_pos h0])
  have h5 : ¬ ¬ w 8 (zn x) = -1 := fun h => bEqT c ⟨h1.1, h1.2, h⟩
  refine And.intro (fun c => absurd (show false = true from c) (by decide)) (fun _ => ?_)
  refine Exists.intro _ (And.intro (r_isInKiln (d + 3) (fun _ _ => hyi) rfl) ?_)
  refine And.intro (fun c => ?_) (fun c => ?_)
  rotate_left
  · refine Exists.intro _ (And.intro (r_refuse (d + 2)) ?_)
    have h7 := bNeF c
    exact aRz (p := (-3, wNote w 5 y)) (by rw [fStand, if_pos h2, if_neg h4, if_neg h5, if_pos ⟨hy, Decidable.not_not.mp (fun q => h7 ⟨h3.1, h3.2, q⟩)⟩])
  have h6 : ¬ (¬ y = -1 ∧ w 8 (zn y) = -1) := fun h => (bNeT c).2.2 h.2
  refine And.intro (fun _ => ?_) (fun c => absurd (show true = false from c) (by decide))
  refine Exists.intro (zn y) (And.intro hyi ?_)
  refine And.intro (fun _ => ?_) (fun c => absurd (show true = false from c) (by decide))
  refine Exists.intro (zn y) (And.intro hyi ?_)
  refine Exists.intro _ (And.intro (r_at (d + 3) hg hg8) (And.intro (fun c => ?_) (fun c => ?_)))
  rotate_left
  · have h8 : ¬ wAt w g (w 8 (zn y)) (w 9 (zn y) + 1) = -1 := cF c
    refine Exists.intro _ (And.intro (r_refuse (d + 2)) ?_)
    exact aRz (p := (-3, wNote w 6 (wAt w g (w 8 (zn y)) (w 9 (zn y) + 1)))) (by rw [fStand, if_pos h2, if_neg h4, if_neg h5, if_neg h6, eB, eL, if_pos h8])
  have h8 : ¬ ¬ wAt w g (w 8 (zn y)) (w 9 (zn y) + 1) = -1 := fun h => h (cT c)
  refine Exists.intro _ (And.intro (r_weightOf (d + 2) hn hle hk) ?_)
  refine Exists.intro _ (And.intro (r_overloadedBelow d hn hle hg hg8 hk (hlv _ hy1).1) ?_)
  refine And.intro (fun c => ?_) (fun c => ?_)
  rotate_left
  · have h9 : ¬ wOver w n g (w 8 (zn y)) (w 9 (zn y) + 1) (3 + wHeld w n x) = -1 := cF c
    refine Exists.intro _ (And.intro (r_refuse (d + 2)) ?_)
    exact aRz (p := (-3, wNote w 7 (wOver w n g (w 8 (zn y)) (w 9 (zn y) + 1) (3 + wHeld w n x)))) (by rw [fStand, if_pos h2, if_neg h4, if_neg h5, if_neg h6, eB, eL, if_neg h8, if_pos h9])
  have h9 : ¬ ¬ wOver w n g (w 8 (zn y)) (w 9 (zn y) + 1) (3 + wHeld w n x) = -1 := fun h => h (cT c)
  refine Exists.intro _ (And.intro (r_place (d + 3) hx) ?_)
  exact aRz (p := ((w 9 (zn y) + 1), upw (upw w 8 (zn x) (w 8 (zn y))) 9 (zn x) (w 9 (zn y) + 1))) (by rw [fStand, if_pos h2, if_neg h4, if_neg h5, if_neg h6, eB, eL, if_neg h8, if_neg h9])
theorem r_standInKiln (d : Nat) (hn : w 16 3 = Int32.ofNat n) (hle : n ≤ 60) (hg : w 16 4 = Int32.ofNat g) (hg8 : g ≤ 8) (hk : ∀ j, j < n → ∃ k, aIx (w 6 j) 4 = some k) (hlv : ∀ j, j < g → zn (w 9 j + 1) ≤ 8 ∧ zn (w 9 j) ≤ 8) : rZ sn sf w (d + 5) m_X6_standInKiln [.ref 8, .int x, .int y, .int z] (fStand w n g x y z) := by
  by_cases hy : y = -1
  · exact r_standFoot d hy hn hle hg hg8 hk hlv
  · exact r_standOn d hy hn hle hg hg8 hk hlv
def fDown (w : aW) (g : Nat) (x : Int32) : aZ := if 0 ≤ x ∧ x < w 16 4 then if w 8 (zn x) = -1 then (-3, wNote w 5 x) else
    if ¬ wUp w g x = -1 then (-3, wNote w 8 (wUp w g x)) else (w 9 (zn x), upw (upw w 8 (zn x) (-1)) 9 (zn x) (-1)) else (-1, w)
theorem r_standOnFloor (d : Nat) (hg : w 16 4 = Int32.ofNat g) (hg8 : g ≤ 8) : rZ sn sf w (d + 3) m_X6_standOnFloor [.ref 8, .int x] (fDown w g x) := by
  refine aRun_of rfl (aVn_end (stop := fun p => false) 60 ?_)
  refine Exists.intro _ (And.intro (r_has3 (d + 1) rfl) ?_)
  refine And.intro (fun c => ?_) (fun c => ?_)
  rotate_left
  · have h0 := bNeF c
    exact aRz (p := (-1, w)) (by rw [fDown, if_neg h0])
  have h1 := bNeT c
  have hxx := aIx_lt h1 hg hg8 (by omega)
  have hx := hxx.1
  have hx1 := hxx.2.1
  have hx2 := hxx.2.2
  refine Exists.intro _ (And.intro (r_isInKiln (d + 1) (fun _ _ => hx) rfl) ?_)
  refine And.intro (fun c => ?_) (fun c => ?_)
  rotate_left
  · have h2 := bNeF c
    refine Exists.intro _ (And.intro (r_refuse d) ?_)
    exact aRz (p := (-3, wNote w 5 x)) (by rw [fDown, if_pos h1, if_pos (Decidable.not_not.mp (fun q => h2 ⟨h1.1, h1.2, q⟩))])
  have h2 : ¬ w 8 (zn x) = -1 := (bNeT c).2.2
  refine Exists.intro _ (And.intro (r_up d hg hg8 hx2 hx1) ?_)
  refine And.intro (fun c => ?_) (fun c => ?_)
  rotate_left
  · have h3 : ¬ wUp w g x = -1 := cF c
    refine Exists.intro _ (And.intro (r_refuse d) ?_)
    exact aRz (p := (-3, wNote w 8 (wUp w g x))) (by rw [fDown, if_pos h1, if_neg h2, if_pos h3])
  have h3 : ¬ ¬ wUp w g x = -1 := fun h => h (cT c)
  refine Exists.intro (zn x) (And.intro hx ?_)
  refine Exists.intro _ (And.intro (r_place (d + 1) hx) ?_)
  exact aRz (p := (w 9 (zn x), upw (upw w 8 (zn x) (-1)) 9 (zn x) (-1))) (by rw [fDown, if_pos h1, if_neg h2, if_neg h3])
def fPut (w : aW) (n g : Nat) (x y : Int32) : aZ := if (0 ≤ x ∧ x < w 16 3) ∧ (0 ≤ y ∧ y < w 16 4) then
    if ¬ w 1 (zn x) = 0 then (-3, wNote w 3 (w 1 (zn x))) else if ¬ fSz (w 6 (zn x)) ≤ 6 - wHeld w n y then (-3, wNote w 4 (6 - wHeld w n y)) else
    if ¬ wOver w n g (w 8 (zn y)) (w 9 (zn y)) (fSz (w 6 (zn x))) = -1 then (-3, wNote w 7 (wOver w n g (w 8 (zn y)) (w 9 (zn y)) (fSz (w 6 (zn x))))) else
    (6 - wHeld w n y - fSz (w 6 (zn x)), upw (upw w 1 (zn x) 1) 4 (zn x) y) else (-1, w)
theorem r_putWare (d : Nat) (hn : w 16 3 = Int32.ofNat n) (hle : n ≤ 60) (hg : w 16 4 = Int32.ofNat g) (hg8 : g ≤ 8) (hk : ∀ j, j < n → ∃ k, aIx (w 6 j) 4 = some k) (hlv : ∀ j, j < g → zn (w 9 j + 1) ≤ 8 ∧ zn (w 9 j) ≤ 8) : rZ sn sf w (d + 5) m_X6_putWare [.ref 8, .int x, .int y] (fPut w n g x y) := by
  refine aRun_of rfl (aVn_end (stop := fun p => false) 90 ?_)
  refine Exists.intro _ (And.intro (r_has5 (d + 3) rfl) ?_)
  refine And.intro (fun c => ?_) (fun c => ?_)
  · have h0 := bEqT c
    exact aRz (p := (-1, w)) (by rw [fPut, if_neg (fun h => h0 h.1)])
  have h1 := bEqF c
  have hxx := aIx_lt h1 hn hle (by omega)
  have hx := hxx.1
  have hx1 := hxx.2.1
  have hx2 := hxx.2.2
  refine Exists.intro _ (And.intro (r_has3 (d + 3) rfl) ?_)
  refine And.intro (fun c => ?_) (fun c => ?_)
  rotate_left
  · have h0 := bNeF c
    exact aRz (p := (-1, w)) (by rw [fPut, if_neg (fun h => h0 h.2)])
  have h2 := bNeT c
  have h : (0 ≤ x ∧ x < w 16 3) ∧ (0 ≤ y ∧ y < w 16 4) := ⟨h1, h2⟩
  have hyy := aIx_lt h2 hg hg8 (by omega)
  have hy := hyy.1
  have hy1 := hyy.2.1
  have hy2 := hyy.2.2
  refine Exists.intro (zn x) (And.intro hx ?_)
  refine And.intro (fun c => ?_) (fun c => ?_)
  rotate_left
  · have h3 : ¬ w 1 (zn x) = 0 := cF c
    refine Exists.intro (zn x) (And.intro hx ?_)
    refine Exists.intro _ (And.intro (r_refuse (d + 2)) ?_)
    exact aRz (p := (-3, wNote w 3 (w 1 (zn x)))) (by rw [fPut, if_pos h, if_pos h3])
  have h3 : ¬ ¬ w 1 (zn x) = 0 := fun h => h (cT c)
  have hk1 := fSz_ex hk hx1
  have hz := fSz_of hk1
  refine Exists.intro _ (And.intro (by rw [hz]; exact r_sizeOf (d + 3) hx hk1 : rW sn sf w (d + 4) m_X5_sizeOf [.ref 10, .int x] (fSz (w 6 (zn x)))) ?_)
  refine Exists.intro _ (And.intro (r_roomIn (d + 2) hn hle hk) ?_)
  refine And.intro (fun c => ?_) (fun c => ?_)
  rotate_left
  · have h4 : ¬ fSz (w 6 (zn x)) ≤ 6 - wHeld w n y := cF c
    refine Exists.intro _ (And.intro (r_refuse (d + 2)) ?_)
    exact aRz (p := (-3, wNote w 4 (6 - wHeld w n y))) (by rw [fPut, if_pos h, if_neg h3, if_pos h4])
  have h4 : ¬ ¬ fSz (w 6 (zn x)) ≤ 6 - wHeld w n y := fun h => h (cT c)
  refine Exists.intro (zn y) (And.intro hy ?_)
  refine Exists.intro (zn y) (And.intro hy ?_)
  refine Exists.intro _ (And.intro (r_overloadedBelow d hn hle hg hg8 hk (hlv _ hy1).2) ?_)
  refine And.intro (fun c => ?_) (fun c => ?_)
  rotate_left
  · have h5 : ¬ wOver w n g (w 8 (zn y)) (w 9 (zn y)) (fSz (w 6 (zn x))) = -1 := cF c
    refine Exists.intro _ (And.intro (r_refuse (d + 2)) ?_)
    exact aRz (p := (-3, wNote w 7 (wOver w n g (w 8 (zn y)) (w 9 (zn y)) (fSz (w 6 (zn x)))))) (by rw [fPut, if_pos h, if_neg h3, if_neg h4, if_pos h5])
  have h5 : ¬ ¬ wOver w n g (w 8 (zn y)) (w 9 (zn y)) (fSz (w 6 (zn x))) = -1 := fun h => h (cT c)
  refine Exists.intro (zn x) (And.intro hx ?_)
  refine Exists.intro (zn x) (And.intro hx ?_)
  exact aRz (p := (6 - wHeld w n y - fSz (w 6 (zn x)), upw (upw w 1 (zn x) 1) 4 (zn x) y)) (by rw [fPut, if_pos h, if_neg h3, if_neg h4, if_neg h5])
/-- some wares fired -/
def wFireK (w : aW) (y : Int32) (k : Nat) : aW := fun a j => if (a = 1 ∨ a = 5) ∧ j < k ∧ wFires w j = true then (if a = 1 then 2 else wGrade w j (wHeat w j y)) else w a j
theorem wFireK_out {a j k : Nat} (h : ¬ j < k ∨ ¬ (a = 1 ∨ a = 5)) : wFireK w y k a j = w a j := by
  unfold wFireK
  rw [if_neg (fun q => by rcases h with h | h; exact h q.2.1; exact h q.1)]
theorem wFireK_1 {k : Nat} (h : wFires w k = true) : upw (upw (wFireK w y k) 1 k 2) 5 k (wGrade w k (wHeat w k y)) = wFireK w y (k + 1) := by
  funext a j
  by_cases e : j = k
  · subst e
    by_cases e5 : a = 5
    · subst e5
      show upd _ j _ j = _
      unfold wFireK
      rw [if_pos ⟨Or.inr rfl, Nat.lt_succ_self _, h⟩, if_neg (by decide)]
      exact if_pos rfl
    · by_cases e1 : a = 1
      · subst e1
        show upd _ j _ j = _
        unfold wFireK
        rw [if_pos ⟨Or.inl rfl, Nat.lt_succ_self _, h⟩, if_pos rfl]
        exact if_pos rfl
      · have e2 : ¬ (a = 1 ∨ a = 5) := by omega
        rw [wFireK_out (Or.inr e2)]
        show (if a = 5 then _ else (if a = 1 then _ else wFireK w y j a)) j = _
        rw [if_neg e5, if_neg e1, wFireK_out (Or.inr e2)]
  · have e3 : wFireK w y (k + 1) a j = wFireK w y k a j := by
      unfold wFireK
      by_cases q : j < k
      · have q2 : j < k + 1 := by omega
        simp only [q, q2]
      · have q2 : ¬ j < k + 1 := by omega
        simp only [q, q2, false_and, and_false, if_false]
    rw [e3]
    show (if a = 5 then upd _ k _ else (if a = 1 then upd _ k _ else wFireK w y k a)) j = _
    by_cases e5 : a = 5
    · rw [if_pos e5]
      show (if j = k then _ else _) = _
      rw [if_neg e]
      show (if (5 : Nat) = 1 then _ else wFireK w y k 5) j = _
      rw [if_neg (by decide), e5]
    · rw [if_neg e5]
      by_cases e1 : a = 1
      · rw [if_pos e1]
        show (if j = k then _ else _) = _
        rw [if_neg e, e1]
      · rw [if_neg e1]
theorem wFireK_0 {k : Nat} (h : wFires w k = false) : wFireK w y (k + 1) = wFireK w y k := by
  funext a j
  unfold wFireK
  by_cases e : j = k
  · subst e
    rw [if_neg (fun q => by rw [h] at q; exact absurd q.2.2 (by decide)), if_neg (fun q => absurd q.2.1 (Nat.lt_irrefl _))]
  · by_cases q : j < k
    · have q2 : j < k + 1 := by omega
      simp only [q, q2]
    · have q2 : ¬ j < k + 1 := by omega
      simp only [q, q2, false_and, and_false, if_false]
theorem wFireK_z : wFireK w y 0 = w := by
  funext a j
  exact wFireK_out (Or.inl (Nat.not_lt_zero _))
def wAny (w : aW) (n : Nat) : Int32 := aFd (fun j => wFires w j) (fun _ => 1) 0 n 0
def fFire (w : aW) (n : Nat) (x : Int32) : aZ := if 1000 ≤ x ∧ x ≤ 1400 then if wAny w n = 0 then (-3, wNote w 9 0) else
    (wFirsts w n x, upw (wFireK w x n) 16 2 (w 16 2 + 1)) else (-2, w)
theorem r_fireWares (d : Nat) (hn : w 16 3 = Int32.ofNat n) (hle : n ≤ 60) (hg : w 16 4 = Int32.ofNat g) (hg8 : g ≤ 8) (hgl : ∀ j, j < n → ¬ w 2 j = -1 → ∃ k, aIx (w 2 j) 4 = some k) : rZ sn sf w (d + 5) m_X6_fireWares [.ref 8, .int x] (fFire w n x) := by
  have main : aEnd (aStep (aRun false (d + 4)) aCls [] aB_X6_fireWares (some .int) false) (38, [some (.ref 8), some (.int x), some (.int 0), some (.int 0), none], [], aHw sn sf (wFireK w x 0), (0, 0)) (.inl (some (.int (wFirsts w n x))), aHw sn sf (upw (wFireK w x n) 16 2 (w 16 2 + 1)), (0, 0)) := by
    refine k_ind (τ := Option Value) (n := n) (T := fun u i x1 => (38, [some (.ref 8), some (.int x), some (.int (aSm (fun j => if wFires w j = true ∧ wGrade w j (wHeat w j x) = 1 then 1 else 0) i 0)), some (.int x1), u], [], aHw sn sf (wFireK w x i), (0, 0))) (fun i x1 u hi hx1 r ih => ?_) (fun x1 u hx1 => ?_) n 0 0 none (by omega) rfl
    · have key : ∀ u f w1, f = aSm (fun j => if wFires w j = true ∧ wGrade w j (wHeat w j x) = 1 then 1 else 0) i 0 + (if wFires w i = true ∧ wGrade w i (wHeat w i x) = 1 then 1 else 0) → w1 = wFireK w x (i + 1) → aEnd (aStep (aRun false (d + 4)) aCls [] aB_X6_fireWares (some .int) false) (38, [some (.ref 8), some (.int x), some (.int f), some (.int (x1 + 1)), u], [], aHw sn sf w1, (0, 0)) r := by
        intro u f w1 e1 e2
        have ih := ih u
        rw [aSm_succ, Nat.zero_add] at ih
        rw [e1, e2]
        exact ih
      have hi1 : aIx x1 60 = some i := aIx_of hx1 (by omega) (by omega)
      have f1 : ∀ a, wFireK w x i a i = w a i := fun a => wFireK_out (Or.inl (Nat.lt_irrefl _))
      have fo : ∀ a j, ¬ (a = 1 ∨ a = 5) → wFireK w x i a j = w a j := fun a j h => wFireK_out (Or.inr h)
      have hF : wFires (wFireK w x i) i = wFires w i := by
        unfold wFires
        rw [f1, f1, fo 16 4 (by decide), fo 8 _ (by decide)]
      have hG : wGrade (wFireK w x i) i (wHeat (wFireK w x i) i x) = wGrade w i (wHeat w i x) := by
        unfold wGrade wHeat wFlow
        simp only [f1, fo 0 0 (by decide), fo 0 1 (by decide), fo 8 _ (by decide), fo 9 _ (by decide)]
      have hn' : wFireK w x i 16 3 = Int32.ofNat n := (fo 16 3 (by decide)).trans hn
      have hg' : wFireK w x i 16 4 = Int32.ofNat g := (fo 16 4 (by decide)).trans hg
      have hgl' : ¬ wFireK w x i 2 i = -1 → ∃ k, aIx (wFireK w x i 2 i) 4 = some k := by rw [f1]; exact hgl i hi
      refine aVn_end (stop := fun p => p == 38) 60 ?_
      refine And.intro (fun c => absurd (zgeT c hx1 hn' (by omega) (by omega)) (by omega)) (fun _ => ?_)
      refine Exists.intro _ (And.intro (r_isToFire (w := wFireK w x i) (d + 2) hi1 hg' hg8 rfl) ?_)
      refine And.intro (fun c => ?_) (fun c => ?_)
      · have h3 : ¬ wFires w i = true := fun q => bEqT c (hF.trans q)
        have h3f : wFires w i = false := by simpa using h3
        exact key _ _ _ (by rw [if_neg (fun q => h3 q.1), Int32.add_zero]) (wFireK_0 h3f).symm
      have h3' : wFires (wFireK w x i) i = true := bEqF c
      have h3 : wFires w i = true := hF.symm.trans h3'
      refine Exists.intro _ (And.intro (r_gradeByFiring (w := wFireK w x i) d hi1 hgl' (wFires_ok h3' hg' hg8).2.1) ?_)
      have hW : upw (upw (wFireK w x i) 1 i 2) 5 i (wGrade (wFireK w x i) i (wHeat (wFireK w x i) i x)) = wFireK w x (i + 1) := by
        rw [hG]
        exact wFireK_1 h3
      refine Exists.intro i (And.intro hi1 ?_)
      refine Exists.intro i (And.intro hi1 ?_)
      refine And.intro (fun c => ?_) (fun c => ?_)
      · have h4' : ¬ wGrade (wFireK w x i) i (wHeat (wFireK w x i) i x) = 1 := cT c
        have h4 : ¬ wGrade w i (wHeat w i x) = 1 := fun q => h4' (hG.trans q)
        exact key _ _ _ (by rw [if_neg (fun q => h4 q.2)]) hW
      · have h4' : wGrade (wFireK w x i) i (wHeat (wFireK w x i) i x) = 1 := Decidable.not_not.mp (cF c)
        have h4 : wGrade w i (wHeat w i x) = 1 := hG.symm.trans h4'
        exact key _ _ _ (by rw [if_pos ⟨h3, h4⟩]) hW
    · have hn' : wFireK w x n 16 3 = Int32.ofNat n := (wFireK_out (Or.inr (by decide))).trans hn
      have h2' : wFireK w x n 16 2 = w 16 2 := wFireK_out (Or.inr (by decide))
      refine aVn_end (stop := fun p => p == 38) 60 ?_
      refine And.intro (fun c => ?_) (fun c => absurd (zgeF c hx1 hn' (by omega) (by omega)) (by omega))
      exact congrArg (fun u => ((.inl (some (.int (wFirsts w n x))), aHw sn sf (upw (wFireK w x n) 16 2 (u + 1)), (0, 0)) : aR)) h2'
  rw [wFireK_z] at main
  refine aRun_of rfl (aVn_end (stop := fun p => p == 38) 60 ?_)
  refine Exists.intro _ (And.intro (r_isFrom (d + 3) rfl) ?_)
  refine And.intro (fun c => ?_) (fun c => ?_)
  rotate_left
  · have h0 := bNeF c
    exact aRz (p := (-2, w)) (by rw [fFire, if_neg h0])
  have h1 := bNeT c
  refine Exists.intro _ (And.intro (r_isThereToFire (d + 1) hn hle hg hg8) ?_)
  refine And.intro (fun c => ?_) (fun c => ?_)
  rotate_left
  · have h2 : wAny w n = 0 := Decidable.not_not.mp (cF c)
    refine Exists.intro _ (And.intro (r_refuse (d + 2)) ?_)
    exact aRz (p := (-3, wNote w 9 0)) (by rw [fFire, if_pos h1, if_pos h2])
  have h2 : ¬ wAny w n = 0 := cT c
  have e : ((wFirsts w n x, upw (wFireK w x n) 16 2 (w 16 2 + 1)) : aZ) = fFire w n x := by rw [fFire, if_pos h1, if_neg h2]
  exact aEnd_eq main (aRz e)
end MV
