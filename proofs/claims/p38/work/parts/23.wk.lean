/-! CONTENTS: a Works and its arrays as one function of number and place -/
abbrev aW : Type := Nat → Nat → Int32
def aI4 (a b c d : Int32) : Nat → Int32 := fun j => match j with
  | 0 => a
  | 1 => b
  | 2 => c
  | _ => d
/-- a read-only array, an array, an object -/
def aRo (ty : FieldType) (n : Nat) (f : Nat → Int32) : aC := (false, .inl (ty, n, .inl f))
def aAi (n : Nat) (f : Nat → Int32) : aC := (true, .inl (.int, n, .inl f))
def aOj (ci : Nat) (fs : List Value) : aC := (true, .inr (ci, fs))
def aSg5 : Nat → Int32 := fun j => (aStr 90).getD j 0
/-- statics, the script, the strings -/
def aS0 (sn : Nat) (sf : Nat → Int32) : aH := [aRo .int 4 (aI4 2 1 3 4), aRo .int 4 (aI4 1180 1200 1220 1240), aRo .int 3 (aI4 0 10 5 5), aRo .int 3 (aI4 9 99 40 40), aRo .char 6 aSg5, aRo .int sn sf, (false, .inr (90, [])), (false, .inr (0, []))]
/-- a Works from place b on: 0 settings; wares: 1 state, 2 glaze, 3 thickness, 4 saggar, 5 grade, 6 kind, 7 bone; saggars: 8 bung, 9 level; orders: 10 glaze, 11 seconds, 12 sold, 13 asked; reasons: 14, 15 details; 16: stock, bought, firings, how many wares, saggars, orders, reasons -/
def aWk (b : Nat) (w : aW) : aH := [
  aOj 6 [.ref (b + 2), .ref (b + 10), .ref (b + 13), .ref (b + 18), .ref (b + 1), .int (w 16 0), .int (w 16 1), .int (w 16 2)], aAi 3 (w 0),
  aOj 5 [.int (w 16 3), .ref (b + 3), .ref (b + 4), .ref (b + 5), .ref (b + 6), .ref (b + 7), .ref (b + 8), .ref (b + 9)],
  aAi 60 (w 1), aAi 60 (w 2), aAi 60 (w 3), aAi 60 (w 4), aAi 60 (w 5), aAi 60 (w 6), aAi 60 (w 7),
  aOj 3 [.int (w 16 4), .ref (b + 11), .ref (b + 12)], aAi 8 (w 8), aAi 8 (w 9),
  aOj 1 [.int (w 16 5), .ref (b + 14), .ref (b + 15), .ref (b + 16), .ref (b + 17)], aAi 6 (w 10), aAi 6 (w 11), aAi 6 (w 12), aAi 24 (w 13),
  aOj 2 [.int (w 16 6), .ref (b + 19), .ref (b + 20)], aAi 3 (w 14), aAi 3 (w 15)]
/-- the heap of a method of one Works -/
def aHw (sn : Nat) (sf : Nat → Int32) (w : aW) : aH := aS0 sn sf ++ aWk 8 w
def upw (w : aW) (a i : Nat) (x : Int32) : aW := fun a1 => if a1 = a then upd (w a) i x else w a1
/-- sums from place i on over m places -/
def aSm (g : Nat → Int32) : Nat → Nat → Int32
  | 0, _ => 0
  | m + 1, i => g i + aSm g m (i + 1)
theorem aIx_of {x : Int32} {i n : Nat} (hx : x = Int32.ofNat i) (hi : i < n) (hn : n < 2147483648) : aIx x n = some i := by
  subst hx
  have h1 : (Int32.ofNat i).toInt = (i : Int) := Int32.toInt_ofNat_of_lt (by omega)
  have h2 : (Int32.ofNat i).toNatClampNeg = i := by
    show (Int32.ofNat i).toInt.toNat = i
    rw [h1]
    rfl
  unfold aIx
  rw [if_neg, h2]
  rw [h2]
  rintro (q | q)
  · rw [Int32.lt_iff_toInt_lt, h1] at q
    have h0 : (0 : Int32).toInt = 0 := rfl
    omega
  · omega
theorem zI_s {x : Int32} {i : Nat} (h : x = Int32.ofNat i) : x + 1 = Int32.ofNat (i + 1) := by
  rw [h, Int32.ofNat_add]
  rfl
theorem zI_lt {x y : Int32} {i n : Nat} (hx : x = Int32.ofNat i) (hy : y = Int32.ofNat n) (hi : i < 2147483648) (hn : n < 2147483648) : x < y ↔ i < n := by
  subst hx
  subst hy
  rw [Int32.lt_iff_toInt_lt, Int32.toInt_ofNat_of_lt hi, Int32.toInt_ofNat_of_lt hn]
  omega
theorem zI_le {x y : Int32} {i n : Nat} (hx : x = Int32.ofNat i) (hy : y = Int32.ofNat n) (hi : i < 2147483648) (hn : n < 2147483648) : x ≤ y ↔ i ≤ n := by
  subst hx
  subst hy
  rw [Int32.le_iff_toInt_le, Int32.toInt_ofNat_of_lt hi, Int32.toInt_ofNat_of_lt hn]
  omega
/-- what a condition says -/
def aCp (c : ClassFile.Cond) (x y : Int32) : Prop := match c with
  | .eq => x = y
  | .ne => x ≠ y
  | .lt => x < y
  | .ge => y ≤ x
  | .gt => y < x
  | .le => x ≤ y
theorem cT {c : ClassFile.Cond} {x y : Int32} (h : aCond c x y = true) : aCp c x y := by
  cases c with
  | eq => exact of_decide_eq_true (p := x = y) h
  | ne => exact of_decide_eq_true (p := x ≠ y) h
  | lt => exact of_decide_eq_true (p := x < y) h
  | ge => exact of_decide_eq_true (p := y ≤ x) h
  | gt => exact of_decide_eq_true (p := y < x) h
  | le => exact of_decide_eq_true (p := x ≤ y) h
theorem cF {c : ClassFile.Cond} {x y : Int32} (h : aCond c x y = false) : ¬ aCp c x y := by
  cases c with
  | eq => exact of_decide_eq_false (p := x = y) h
  | ne => exact of_decide_eq_false (p := x ≠ y) h
  | lt => exact of_decide_eq_false (p := x < y) h
  | ge => exact of_decide_eq_false (p := y ≤ x) h
  | gt => exact of_decide_eq_false (p := y < x) h
  | le => exact of_decide_eq_false (p := x ≤ y) h
theorem zgeT {x y : Int32} {i n : Nat} (h : aCond .ge x y = true) (hx : x = Int32.ofNat i) (hy : y = Int32.ofNat n) (hi : i < 100000) (hn : n < 100000) : n ≤ i := (zI_le hy hx (by omega) (by omega)).mp (cT h)
theorem zgeF {x y : Int32} {i n : Nat} (h : aCond .ge x y = false) (hx : x = Int32.ofNat i) (hy : y = Int32.ofNat n) (hi : i < 100000) (hn : n < 100000) : i < n := by
  have h1 : ¬ y ≤ x := cF h
  have := mt (zI_le hy hx (by omega) (by omega)).mpr h1
  omega
theorem aEnd_eq {F : aS → Option (aS ⊕ aR)} {s : aS} {r r1 : aR} (h : aEnd F s r) (e : r = r1) : aEnd F s r1 := e ▸ h
/-- a loop that sums -/
theorem k_sum {F : aS → Option (aS ⊕ aR)} {S : Int32 → Int32 → aS} {R : Int32 → aR} {g : Nat → Int32} {n : Nat} (hb : ∀ (i : Nat) (x f : Int32), i < n → x = Int32.ofNat i → ∀ r, aEnd F (S (f + g i) (x + 1)) r → aEnd F (S f x) r) (he : ∀ x f : Int32, x = Int32.ofNat n → aEnd F (S f x) (R f)) : ∀ (m i : Nat) (x f : Int32), i + m = n → x = Int32.ofNat i → aEnd F (S f x) (R (f + aSm g m i))
  | 0, i, x, f, h, hx => by
    rw [show f + aSm g 0 i = f from Int32.add_zero f]
    exact he x f (by rw [hx]; congr 1)
  | m + 1, i, x, f, h, hx => by
    refine hb i x f (by omega) hx _ ?_
    rw [show f + aSm g (m + 1) i = f + g i + aSm g m (i + 1) from (Int32.add_assoc _ _ _).symm]
    exact k_sum hb he m (i + 1) (x + 1) (f + g i) (by omega) (zI_s hx)
theorem k_sum0 {F : aS → Option (aS ⊕ aR)} {S : Int32 → Int32 → aS} {R : Int32 → aR} {g : Nat → Int32} {n : Nat} (hb : ∀ (i : Nat) (x f : Int32), i < n → x = Int32.ofNat i → ∀ r, aEnd F (S (f + g i) (x + 1)) r → aEnd F (S f x) r) (he : ∀ x f : Int32, x = Int32.ofNat n → aEnd F (S f x) (R f)) : aEnd F (S 0 0) (R (aSm g n 0)) :=
  aEnd_eq (k_sum hb he n 0 0 0 (by omega) rfl) (congrArg R (Int32.zero_add _))
theorem aSm_congr {f g : Nat → Int32} : ∀ (m i : Nat), (∀ j, i ≤ j → j < i + m → f j = g j) → aSm f m i = aSm g m i
  | 0, _, _ => rfl
  | m + 1, i, h => by
    show f i + aSm f m (i + 1) = g i + aSm g m (i + 1)
    rw [h i (Nat.le_refl _) (by omega), aSm_congr m (i + 1) fun j h1 h2 => h j (by omega) (by omega)]
