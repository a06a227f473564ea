/-! CONTENTS: a Works and its arrays as one function of number and place -/
abbrev aW : Type := Nat → Nat → Int32
def aI4 (a b c d : Int32) : Nat → Int32 := fun j => match j with
  | 0 => a
  | 1 => b
  | 2 => c
  | _ => d
/-- a read-only array, an array, an object -/
def aRo (ty : FieldType) (n : Nat) (f : Nat → Int32) : aC := (false, .inl (ty, n, .inl f))
def aAi (n : Nat) (f : Nat → Int32) : aC := (true, .inl (.int, n, .inl f))
def aOj (ci : Nat) (fs : List Value) : aC := (true, .inr (ci, fs))
def aSg5 : Nat → Int32 := fun j => (aStr 90).getD j 0
/-- statics, the script, the strings -/
def aS0 (sn : Nat) (sf : Nat → Int32) : aH := [aRo .int 4 (aI4 2 1 3 4), aRo .int 4 (aI4 1180 1200 1220 1240), aRo .int 3 (aI4 0 10 5 5), aRo .int 3 (aI4 9 99 40 40), aRo .char 6 aSg5, aRo .int sn sf, (false, .inr (90, [])), (false, .inr (91, []))]
/-- a Works from place b on: 0 settings; wares: 1 state, 2 glaze, 3 thickness, 4 saggar, 5 grade, 6 kind, 7 bone; saggars: 8 bung, 9 level; orders: 10 glaze, 11 seconds, 12 sold, 13 asked; reasons: 14, 15 details; 16: stock, bought, firings, how many wares, saggars, orders, reasons -/
def aWk (b : Nat) (w : aW) : aH := [
  aOj 6 [.ref (b + 2), .ref (b + 10), .ref (b + 13), .ref (b + 18), .ref (b + 1), .int (w 16 0), .int (w 16 1), .int (w 16 2)], aAi 3 (w 0),
  aOj 5 [.int (w 16 3), .ref (b + 3), .ref (b + 4), .ref (b + 5), .ref (b + 6), .ref (b + 7), .ref (b + 8), .ref (b + 9)],
  aAi 60 (w 1), aAi 60 (w 2), aAi 60 (w 3), aAi 60 (w 4), aAi 60 (w 5), aAi 60 (w 6), aAi 60 (w 7),
  aOj 3 [.int (w 16 4), .ref (b + 11), .ref (b + 12)], aAi 8 (w 8), aAi 8 (w 9),
  aOj 1 [.int (w 16 5), .ref (b + 14), .ref (b + 15), .ref (b + 16), .ref (b + 17)], aAi 6 (w 10), aAi 6 (w 11), aAi 6 (w 12), aAi 24 (w 13),
  aOj 2 [.int (w 16 6), .ref (b + 19), .ref (b + 20)], aAi 3 (w 14), aAi 3 (w 15)]
/-- the heap of a method of one Works -/
def aHw (sn : Nat) (sf : Nat → Int32) (w : aW) : aH := aS0 sn sf ++ aWk 8 w
def upw (w : aW) (a i : Nat) (x : Int32) : aW := fun a1 => if a1 = a then upd (w a) i x else w a1
/-- sums from place i on over m places -/
def aSm (g : Nat → Int32) : Nat → Nat → Int32
  | 0, _ => 0
  | m + 1, i => g i + aSm g m (i + 1)
theorem aIx_of {x : Int32} {i n : Nat} (hx : x = Int32.ofNat i) (hi : i < n) (hn : n < 2147483648) : aIx x n = some i := by
  subst hx
  have h1 : (Int32.ofNat i).toInt = (i : Int) := Int32.toInt_ofNat_of_lt (by omega)
  have h2 : (Int32.ofNat i).toNatClampNeg = i := by
    show (Int32.ofNat i).toInt.toNat = i
    rw [h1]
    rfl
  unfold aIx
  rw [if_neg, h2]
  rw [h2]
  rintro (q | q)
  · rw [Int32.lt_iff_toInt_lt, h1] at q
    have h0 : (0 : Int32).toInt = 0 := rfl
    omega
  · omega
theorem zI_s {x : Int32} {i : Nat} (h : x = Int32.ofNat i) : x + 1 = Int32.ofNat (i + 1) := by
  rw [h, Int32.ofNat_add]
  rfl
theorem zI_lt {x y : Int32} {i n : Nat} (hx : x = Int32.ofNat i) (hy : y = Int32.ofNat n) (hi : i < 2147483648) (hn : n < 2147483648) : x < y ↔ i < n := by
  subst hx
  subst hy
  rw [Int32.lt_iff_toInt_lt, Int32.toInt_ofNat_of_lt hi, Int32.toInt_ofNat_of_lt hn]
  omega
theorem zI_le {x y : Int32} {i n : Nat} (hx : x = Int32.ofNat i) (hy : y = Int32.ofNat n) (hi : i < 2147483648) (hn : n < 2147483648) : x ≤ y ↔ i ≤ n := by
  subst hx
  subst hy
  rw [Int32.le_iff_toInt_le, Int32.toInt_ofNat_of_lt hi, Int32.toInt_ofNat_of_lt hn]
  omega
section TRY1
variable {sn : Nat} {sf : Nat → Int32} {w : aW}
theorem l_countIn {F : aF} {n : Nat} {x2 : Int32} (hn : w 16 3 = Int32.ofNat n) (hle : n ≤ 60) (res : Int32) : ∀ (m i : Nat) (x f : Int32), i + m = n → x = Int32.ofNat i → f + aSm (fun j => if w 4 j = x2 then 1 else 0) m i = res →
    aEnd (aStep F aCls [] aB_X5_countIn (some .int) false) (4, [some (.ref 10), some (.int x2), some (.int f), some (.int x)], [], aHw sn sf w, (0, 0)) (.inl (some (.int res)), aHw sn sf w, (0, 0))
  | 0, i, x, f, he, hx, hr => by
    refine aVn_end (stop := fun p => p == 4) 20 ?_
    refine And.intro (fun c => ?_) (fun c => ?_)
    · have hr : f = res := (Int32.add_zero f).symm.trans hr
      rw [← hr]
      exact rfl
    · have c : decide (w 16 3 ≤ x) = false := c
      have := (zI_le hn hx (by omega) (by omega)).mpr (by omega)
      rw [decide_eq_true this] at c
      cases c
  | m + 1, i, x, f, he, hx, hr => by
    refine aVn_end (stop := fun p => p == 4) 30 ?_
    refine And.intro (fun c => ?_) (fun _ => Exists.intro i (And.intro (aIx_of hx (by omega) (by omega)) ?_))
    · have c : decide (w 16 3 ≤ x) = true := c
      have := (zI_le hn hx (by omega) (by omega)).mp (of_decide_eq_true c)
      omega
    · have hr : f + ((if w 4 i = x2 then 1 else 0) + aSm (fun j => if w 4 j = x2 then 1 else 0) m (i + 1)) = res := hr
      rw [← Int32.add_assoc] at hr
      refine And.intro (fun c => ?_) (fun c => ?_)
      · have c : decide (w 4 i ≠ x2) = true := c
        rw [if_neg (of_decide_eq_true c)] at hr
        exact l_countIn hn hle res m (i + 1) (x + 1) (f + 0) (by omega) (zI_s hx) hr
      · have c : decide (w 4 i ≠ x2) = false := c
        rw [if_pos (by simpa using c)] at hr
        exact l_countIn hn hle res m (i + 1) (x + 1) (f + 1) (by omega) (zI_s hx) hr
theorem r_countIn {n : Nat} {x2 : Int32} (hn : w 16 3 = Int32.ofNat n) (hle : n ≤ 60) (d : Nat) : aRun false (d + 1) m_X5_countIn [.ref 10, .int x2] (aHw sn sf w) = some (.inl (some (.int (aSm (fun j => if w 4 j = x2 then 1 else 0) n 0))), aHw sn sf w, (0, 0)) := by
  refine aRun_of rfl (aVn_end (stop := fun p => p == 4) 20 ?_)
  exact l_countIn hn hle _ n 0 0 0 (by omega) rfl (Int32.zero_add _)
end TRY1
