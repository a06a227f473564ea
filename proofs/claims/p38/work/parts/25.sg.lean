/-! THE CLASS: saggars, orders, reasons -/
/-- the first place from i on, of m, where p holds: what q says of it; else z -/
def aFd (p : Nat → Bool) (q : Nat → Int32) (z : Int32) : Nat → Nat → Int32
  | 0, _ => z
  | m + 1, i => if p i = true then q i else aFd p q z m (i + 1)
theorem k_find {F : aS → Option (aS ⊕ aR)} {S : Int32 → aS} {R : Int32 → aR} {p : Nat → Bool} {q : Nat → Int32} {z : Int32} {n : Nat} (hb : ∀ (i : Nat) (x : Int32), i < n → x = Int32.ofNat i → ∀ r, (p i = true → r = R (q i)) → (p i = false → aEnd F (S (x + 1)) r) → aEnd F (S x) r) (he : ∀ x : Int32, x = Int32.ofNat n → aEnd F (S x) (R z)) : ∀ (m i : Nat) (x : Int32), i + m = n → x = Int32.ofNat i → aEnd F (S x) (R (aFd p q z m i))
  | 0, i, x, h, hx => he x (by rw [hx]; congr 1)
  | m + 1, i, x, h, hx => by
    refine hb i x (by omega) hx _ (fun g => ?_) (fun g => ?_)
    · show R (if p i = true then q i else _) = _
      rw [if_pos g]
    · show aEnd F _ (R (if p i = true then q i else _))
      rw [if_neg (by rw [g]; decide)]
      exact k_find hb he m (i + 1) (x + 1) (by omega) (zI_s hx)
theorem zn_of {x : Int32} {i : Nat} (h : x = Int32.ofNat i) (hi : i < 100000) : zn x = i := by
  subst h
  show (Int32.ofNat i).toInt.toNat = i
  rw [Int32.toInt_ofNat_of_lt (by omega)]
  rfl
section SG
variable {sn : Nat} {sf : Nat → Int32} {w w1 : aW} {n i : Nat} {x y z v : Int32}
/-- a method of a Works that answers an int -/
abbrev rX (sn : Nat) (sf : Nat → Int32) (w w1 : aW) (d m : Nat) (as : List Value) (v : Int32) : Prop := aRun false d m as (aHw sn sf w) = some (.inl (some (.int v)), aHw sn sf w1, (0, 0))
theorem r_has3 (d : Nat) (hv : v = if 0 ≤ x ∧ x < w 16 4 then 1 else 0) : rW sn sf w (d + 1) m_X3_has [.ref 18, .int x] v := by
  refine aRun_of rfl (aVn_end (stop := fun p => false) 60 ?_)
  repeat' first
    | exact rfl
    | refine And.intro ?_ ?_
    | refine fun _ => ?_
    | refine aRi ?_
  all_goals first
    | assumption
    | grind [aCond]
theorem r_has1 (d : Nat) (hv : v = if 0 ≤ x ∧ x < w 16 5 then 1 else 0) : rW sn sf w (d + 1) m_X1_has [.ref 21, .int x] v := by
  refine aRun_of rfl (aVn_end (stop := fun p => false) 60 ?_)
  repeat' first
    | exact rfl
    | refine And.intro ?_ ?_
    | refine fun _ => ?_
    | refine aRi ?_
  all_goals first
    | assumption
    | grind [aCond]
theorem r_isInKiln (d : Nat) (hx : 0 ≤ x → x < w 16 4 → aIx x 8 = some (zn x)) (hv : v = if 0 ≤ x ∧ x < w 16 4 ∧ ¬ w 8 (zn x) = -1 then 1 else 0) : rW sn sf w (d + 1) m_X3_isInKiln [.ref 18, .int x] v := by
  refine aRun_of rfl (aVn_end (stop := fun p => false) 60 ?_)
  refine And.intro (fun c => ?_) (fun c => ?_)
  · exact And.intro rfl (aRi (by grind [aCond]))
  · refine And.intro (fun c2 => ?_) (fun c2 => ?_)
    · exact And.intro rfl (aRi (by grind [aCond]))
    · have h1 := hx (Int32.not_lt.mp (cF c)) (Int32.not_le.mp (cF c2))
      refine Exists.intro (zn x) (And.intro h1 ?_)
      refine And.intro (fun c3 => ?_) (fun c3 => ?_)
      · have c3 : w 8 (zn x) = -1 := cT c3
        exact And.intro rfl (aRi (by grind))
      · have c3 : ¬ w 8 (zn x) = -1 := cF c3
        exact And.intro rfl (aRi (by grind [aCond]))
def wAt (w : aW) (n : Nat) (y z : Int32) : Int32 := aFd (fun j => decide (w 8 j = y ∧ w 9 j = z)) (fun j => Int32.ofNat j) (-1) n 0
theorem r_at (d : Nat) (hn : w 16 4 = Int32.ofNat n) (hle : n ≤ 8) : rW sn sf w (d + 1) m_X3_at [.ref 18, .int y, .int z] (wAt w n y z) := by
  refine aRun_of rfl (aVn_end (stop := fun p => p == 2) 20 (k_find (S := fun x => (2, [some (.ref 18), some (.int y), some (.int z), some (.int x)], [], aHw sn sf w, (0, 0))) (R := fun f => (.inl (some (.int f)), aHw sn sf w, (0, 0))) (p := fun j => decide (w 8 j = y ∧ w 9 j = z)) (q := fun j => Int32.ofNat j) (z := (-1)) (n := n) (fun i x hi hx r h1 h2 => ?_) (fun x hx => ?_) n 0 0 (by omega) rfl))
  · have key1 : ∀ u, (decide (w 8 i = y ∧ w 9 i = z)) = true → u = (Int32.ofNat i) → ((.inl (some (.int u)), aHw sn sf w, (0, 0)) : aR) = r := fun u g e => e ▸ (h1 g).symm
    have key2 : (decide (w 8 i = y ∧ w 9 i = z)) = false → aEnd _ (2, [some (.ref 18), some (.int y), some (.int z), some (.int (x + 1))], [], aHw sn sf w, (0, 0)) r := h2
    have hi1 : aIx x 8 = some i := aIx_of hx (by omega) (by omega)
    refine aVn_end (stop := fun p => p == 2) 60 (And.intro (fun c => absurd (zgeT c hx hn (by omega) (by omega)) (by omega)) (fun _ => ?_))
    repeat' first
      | refine key1 _ ?_ ?_
      | refine key2 ?_
      | refine Exists.intro i (And.intro hi1 ?_)
      | exact rfl
      | refine And.intro ?_ ?_
      | refine fun _ => ?_
      | refine aRi ?_
    all_goals first
      | assumption
      | grind [aCond]
  · exact aVn_end (stop := fun p => p == 2) 60 (And.intro (fun c => rfl) (fun c => absurd (zgeF c hx hn (by omega) (by omega)) (by omega)))
theorem r_above (d : Nat) (hn : w 16 4 = Int32.ofNat n) (hle : n ≤ 8) (h0 : 0 ≤ x) (h1 : x < w 16 4) (hi : aIx x 8 = some (zn x)) (hv : v = if w 8 (zn x) = -1 then -1 else wAt w n (w 8 (zn x)) (w 9 (zn x) + 1)) : rW sn sf w (d + 2) m_X3_above [.ref 18, .int x] v := by
  refine aRun_of rfl (aVn_end (stop := fun p => false) 60 ?_)
  refine Exists.intro _ (And.intro (r_isInKiln d (fun _ _ => hi) rfl) ?_)
  refine And.intro (fun c => ?_) (fun c => ?_)
  · exact aRi (by grind [aCond])
  · refine Exists.intro (zn x) (And.intro hi ?_)
    refine Exists.intro (zn x) (And.intro hi ?_)
    refine Exists.intro _ (And.intro (r_at d hn hle) ?_)
    exact aRi (by grind [aCond])
theorem r_below (d : Nat) (hn : w 16 4 = Int32.ofNat n) (hle : n ≤ 8) (h0 : 0 ≤ x) (h1 : x < w 16 4) (hi : aIx x 8 = some (zn x)) (hv : v = if w 8 (zn x) = -1 then -1 else wAt w n (w 8 (zn x)) (w 9 (zn x) - 1)) : rW sn sf w (d + 2) m_X3_below [.ref 18, .int x] v := by
  refine aRun_of rfl (aVn_end (stop := fun p => false) 60 ?_)
  refine Exists.intro _ (And.intro (r_isInKiln d (fun _ _ => hi) rfl) ?_)
  refine And.intro (fun c => ?_) (fun c => ?_)
  · exact aRi (by grind [aCond])
  · refine Exists.intro (zn x) (And.intro hi ?_)
    refine Exists.intro (zn x) (And.intro hi ?_)
    refine Exists.intro _ (And.intro (r_at d hn hle) ?_)
    exact aRi (by grind [aCond])
theorem r_heatThere (d : Nat) (hi : aIx x 8 = some i) : rW sn sf w (d + 1) m_X3_heatThere [.ref 18, .int x, .int y] (y - 10 * w 9 i - 5 * w 8 i) := by
  refine aRun_of rfl (aVn_end (stop := fun p => false) 60 ?_)
  repeat' first
    | refine Exists.intro i (And.intro hi ?_)
    | exact rfl
    | refine And.intro ?_ ?_
    | refine fun _ => ?_
    | refine aRi ?_
  all_goals first
    | assumption
    | grind [aCond]
theorem r_countInKiln (d : Nat) (hn : w 16 4 = Int32.ofNat n) (hle : n ≤ 8) : rW sn sf w (d + 2) m_X3_countInKiln [.ref 18] (aSm (fun j => if w 8 j = -1 then 0 else 1) n 0) := by
  refine aRun_of rfl (aVn_end (stop := fun p => p == 4) 20 (k_sum0 (S := fun f x => (4, [some (.ref 18), some (.int f), some (.int x)], [], aHw sn sf w, (0, 0))) (R := fun f => (.inl (some (.int f)), aHw sn sf w, (0, 0))) (g := fun j => if w 8 j = -1 then 0 else 1) (n := n) (fun i x f hi hx r ih => ?_) (fun x f hx => ?_)))
  · have key : ∀ u, u = (if w 8 i = -1 then 0 else 1) → aEnd _ ((fun f x => (4, [some (.ref 18), some (.int f), some (.int x)], [], aHw sn sf w, (0, 0))) (f + u) (x + 1)) r := fun u hu => hu ▸ ih
    have hi1 : aIx x 8 = some i := aIx_of hx (by omega) (by omega)
    have hz : zn x = i := zn_of hx (by omega)
    have g0 : 0 ≤ x := (zI_le (x := 0) (i := 0) rfl hx (by omega) (by omega)).mpr (by omega)
    have g1 : x < w 16 4 := (zI_lt hx hn (by omega) (by omega)).mpr hi
    have hc := r_isInKiln (sn := sn) (sf := sf) (w := w) (x := x) d (fun _ _ => by rw [hz]; exact hi1) rfl
    rw [hz] at hc
    refine aVn_end (stop := fun p => p == 4) 60 (And.intro (fun c => absurd (zgeT c hx hn (by omega) (by omega)) (by omega)) (fun _ => ?_))
    repeat' first
      | refine key _ ?_
      | refine Exists.intro _ (And.intro hc ?_)
      | refine Exists.intro i (And.intro hi1 ?_)
      | exact rfl
      | refine And.intro ?_ ?_
      | refine fun _ => ?_
      | refine aRi ?_
    all_goals first
      | assumption
      | grind [aCond]
  · exact aVn_end (stop := fun p => p == 4) 60 (And.intro (fun c => rfl) (fun c => absurd (zgeF c hx hn (by omega) (by omega)) (by omega)))
theorem r_place (d : Nat) (hi : aIx x 8 = some i) : rV sn sf w (upw (upw w 8 i y) 9 i z) (d + 1) m_X3_place [.ref 18, .int x, .int y, .int z] := by
  refine aRun_of rfl (aVn_end (stop := fun p => false) 60 ?_)
  refine Exists.intro i (And.intro hi ?_)
  refine Exists.intro i (And.intro hi ?_)
  exact rfl
def wAdd3 (w : aW) (n : Nat) : aW := upw (upw (upw w 8 n (-1)) 9 n (-1)) 16 4 (w 16 4 + 1)
theorem zltF {x : Int32} {n m : Nat} (hx : x = Int32.ofNat n) (h : n < m) (hm : m < 100000) (c : aCond .lt x (Int32.ofNat m) = false) : False := cF c ((zI_lt hx rfl (by omega) (by omega)).mpr h)
theorem r_add3 (d : Nat) (hn : w 16 4 = Int32.ofNat n) (hlt : n < 8) : rX sn sf w (wAdd3 w n) (d + 2) m_X3_add [.ref 18] (w 16 4 + 1 - 1) := by
  have hi : aIx (w 16 4) 8 = some n := aIx_of hn hlt (by omega)
  refine aRun_of rfl (aVn_end (stop := fun p => false) 60 ?_)
  refine And.intro (fun c => ?_) (fun c => (zltF hn hlt (by omega) c).elim)
  refine Exists.intro _ (And.intro (r_place d hi) ?_)
  exact rfl
theorem r_countSold1 (d : Nat) (hn : w 16 5 = Int32.ofNat n) (hle : n ≤ 6) : rW sn sf w (d + 1) m_X1_countSold [.ref 21] (aSm (fun j => w 12 j) n 0) := by
  refine aRun_of rfl (aVn_end (stop := fun p => p == 4) 20 (k_sum0 (S := fun f x => (4, [some (.ref 21), some (.int f), some (.int x)], [], aHw sn sf w, (0, 0))) (R := fun f => (.inl (some (.int f)), aHw sn sf w, (0, 0))) (g := fun j => w 12 j) (n := n) (fun i x f hi hx r ih => ?_) (fun x f hx => ?_)))
  · have key : ∀ u, u = (w 12 i) → aEnd _ ((fun f x => (4, [some (.ref 21), some (.int f), some (.int x)], [], aHw sn sf w, (0, 0))) (f + u) (x + 1)) r := fun u hu => hu ▸ ih
    have hi1 : aIx x 6 = some i := aIx_of hx (by omega) (by omega)
    refine aVn_end (stop := fun p => p == 4) 60 (And.intro (fun c => absurd (zgeT c hx hn (by omega) (by omega)) (by omega)) (fun _ => ?_))
    repeat' first
      | refine key _ ?_
      | refine Exists.intro i (And.intro hi1 ?_)
      | exact rfl
      | refine And.intro ?_ ?_
      | refine fun _ => ?_
      | refine aRi ?_
    all_goals first
      | assumption
      | grind [aCond]
  · exact aVn_end (stop := fun p => p == 4) 60 (And.intro (fun c => rfl) (fun c => absurd (zgeF c hx hn (by omega) (by omega)) (by omega)))
theorem r_askedOf (d : Nat) (hi : aIx (x * 4 + y) 24 = some i) : rW sn sf w (d + 1) m_X1_askedOf [.ref 21, .int x, .int y] (w 13 i) := by
  refine aRun_of rfl (aVn_end (stop := fun p => false) 60 ?_)
  repeat' first
    | refine Exists.intro i (And.intro hi ?_)
    | exact rfl
    | refine And.intro ?_ ?_
    | refine fun _ => ?_
    | refine aRi ?_
  all_goals first
    | assumption
    | grind [aCond]
theorem r_countSoldOf (d : Nat) (hn : w 16 5 = Int32.ofNat n) (hle : n ≤ 6) {k : Nat} (hy : y = Int32.ofNat k) (hk : k < 4) : rW sn sf w (d + 2) m_X1_countSoldOf [.ref 21, .int y] (aSm (fun j => w 12 j * w 13 (j * 4 + k)) n 0) := by
  refine aRun_of rfl (aVn_end (stop := fun p => p == 4) 20 (k_sum0 (S := fun f x => (4, [some (.ref 21), some (.int y), some (.int f), some (.int x)], [], aHw sn sf w, (0, 0))) (R := fun f => (.inl (some (.int f)), aHw sn sf w, (0, 0))) (g := fun j => w 12 j * w 13 (j * 4 + k)) (n := n) (fun i x f hi hx r ih => ?_) (fun x f hx => ?_)))
  · have key : ∀ u, u = (w 12 i * w 13 (i * 4 + k)) → aEnd _ ((fun f x => (4, [some (.ref 21), some (.int y), some (.int f), some (.int x)], [], aHw sn sf w, (0, 0))) (f + u) (x + 1)) r := fun u hu => hu ▸ ih
    have hi1 : aIx x 6 = some i := aIx_of hx (by omega) (by omega)
    have hq : aIx (x * 4 + y) 24 = some (i * 4 + k) := aIx_of (by rw [hx, hy, Int32.ofNat_add, Int32.ofNat_mul]; rfl) (by omega) (by omega)
    refine aVn_end (stop := fun p => p == 4) 60 (And.intro (fun c => absurd (zgeT c hx hn (by omega) (by omega)) (by omega)) (fun _ => ?_))
    repeat' first
      | refine key _ ?_
      | refine Exists.intro _ (And.intro (r_askedOf d hq) ?_)
      | refine Exists.intro i (And.intro hi1 ?_)
      | exact rfl
      | refine And.intro ?_ ?_
      | refine fun _ => ?_
      | refine aRi ?_
    all_goals first
      | assumption
      | grind [aCond]
  · exact aVn_end (stop := fun p => p == 4) 60 (And.intro (fun c => rfl) (fun c => absurd (zgeF c hx hn (by omega) (by omega)) (by omega)))
set_option maxRecDepth 20000 in
theorem r_numberOf1 (d : Nat) (hi : aIx x 6 = some i) (hj : 0 ≤ y → y < 4 → aIx (x * 4 + y) 24 = some n) (h0 : 0 ≤ y) (h6 : y ≤ 6) (hv : v = if y = 4 then w 10 i else if y = 5 then w 11 i else if y = 6 then w 12 i else w 13 n) : rW sn sf w (d + 2) m_X1_numberOf [.ref 21, .int x, .int y] v := by
  have e4 : y = 4 ↔ y.toInt = 4 := Int32.toInt_inj.symm
  have e5 : y = 5 ↔ y.toInt = 5 := Int32.toInt_inj.symm
  have e6 : y = 6 ↔ y.toInt = 6 := Int32.toInt_inj.symm
  have hl : y.toInt < 4 → y < 4 := fun h => Int32.lt_iff_toInt_lt.mpr h
  have hg : ¬ 6 < y.toInt := fun h => absurd h6 (Int32.not_le.mpr (Int32.lt_iff_toInt_lt.mpr h))
  refine aRun_of rfl (aVn_end (stop := fun p => false) 60 ?_)
  repeat' first
    | exact True.intro
    | refine Exists.intro _ (And.intro (r_askedOf d (hj h0 (hl (by omega)))) ?_)
    | refine Exists.intro i (And.intro hi ?_)
    | exact rfl
    | refine And.intro ?_ ?_
    | refine fun _ => ?_
    | refine aRi ?_
  all_goals first
    | assumption
    | grind [aCond]
theorem r_ask (d : Nat) (hh : 0 ≤ x ∧ x < w 16 5) (hi : aIx (x * 4 + y) 24 = some i) : rV sn sf w (upw w 13 i z) (d + 2) m_X1_ask [.ref 21, .int x, .int y, .int z] := by
  refine aRun_of rfl (aVn_end (stop := fun p => false) 60 ?_)
  refine Exists.intro _ (And.intro (r_has1 d rfl) ?_)
  refine And.intro (fun c => ?_) (fun c => ?_)
  · exfalso
    grind [aCond]
  · refine Exists.intro i (And.intro hi ?_)
    exact rfl
def wAdd1 (w : aW) (n : Nat) (x y : Int32) : aW := upw (upw (upw (upw w 10 n x) 11 n y) 12 n 0) 16 5 (w 16 5 + 1)
theorem r_add1 (d : Nat) (hn : w 16 5 = Int32.ofNat n) (hlt : n < 6) (hv : v = if y = 0 then 0 else 1) : rX sn sf w (wAdd1 w n x v) (d + 1) m_X1_add [.ref 21, .int x, .int y] (w 16 5 + 1 - 1) := by
  have hi : aIx (w 16 5) 6 = some n := aIx_of hn hlt (by omega)
  refine aRun_of rfl (aVn_end (stop := fun p => false) 60 ?_)
  refine And.intro (fun c => ?_) (fun c => (zltF hn hlt (by omega) c).elim)
  refine Exists.intro n (And.intro hi ?_)
  refine And.intro (fun c => ?_) (fun c => ?_)
  · have c : y = 0 := cT c
    refine Exists.intro n (And.intro hi ?_)
    refine Exists.intro n (And.intro hi ?_)
    exact congrArg (fun v => ((.inl (some (.int (w 16 5 + 1 - 1))), aHw sn sf (wAdd1 w n x v), (0, 0)) : aR)) (show 0 = v by grind)
  · have c : ¬ y = 0 := cF c
    refine Exists.intro n (And.intro hi ?_)
    refine Exists.intro n (And.intro hi ?_)
    exact congrArg (fun v => ((.inl (some (.int (w 16 5 + 1 - 1))), aHw sn sf (wAdd1 w n x v), (0, 0)) : aR)) (show 1 = v by grind)
def wNote (w : aW) (x y : Int32) : aW := upw (upw (upw w 14 0 x) 15 0 y) 16 6 1
theorem ix0 : aIx 0 3 = some 0 := by decide
theorem ix1 : aIx 1 3 = some 1 := by decide
theorem ix2 : aIx 2 3 = some 2 := by decide
theorem r_note (d : Nat) : rV sn sf w (wNote w x y) (d + 1) m_X2_note [.ref 26, .int x, .int y] := by
  refine aRun_of rfl (aVn_end (stop := fun p => false) 60 ?_)
  refine Exists.intro 0 (And.intro ix0 ?_)
  refine Exists.intro 0 (And.intro ix0 ?_)
  exact rfl
theorem r_refuse (d : Nat) : rX sn sf w (wNote w x y) (d + 2) m_X2_refuse [.ref 26, .int x, .int y] (-3) := by
  refine aRun_of rfl (aVn_end (stop := fun p => false) 60 ?_)
  refine Exists.intro _ (And.intro (r_note d) ?_)
  exact rfl
/-- a reason ahead of the one or the two that are kept -/
def wAhead1 (w : aW) (x y : Int32) : aW := upw (upw (upw (upw (upw w 14 1 (w 14 0)) 15 1 (w 15 0)) 14 0 x) 15 0 y) 16 6 2
def wAhead2 (w : aW) (x y : Int32) : aW := upw (upw (upw (upw (upw (upw (upw w 14 2 (w 14 1)) 15 2 (w 15 1)) 14 1 (w 14 0)) 15 1 (w 15 0)) 14 0 x) 15 0 y) 16 6 3
end SG
