/-! NUMBERS: remainders, shifts -/
theorem div_n {a m : Nat} (ha : a < 2147483648) (hm : m < 2147483648) : Int32.ofNat a / Int32.ofNat m = Int32.ofNat (a / m) := by
  have e1 : (Int32.ofNat a).toInt = a := Int32.toInt_ofNat_of_lt (by omega)
  have e2 : (Int32.ofNat m).toInt = m := Int32.toInt_ofNat_of_lt (by omega)
  have hle : a / m ≤ a := Nat.div_le_self a m
  refine Int32.toInt_inj.mp ?_
  rw [Int32.toInt_div, e1, e2, Int32.toInt_ofNat_of_lt (show a / m < 2^31 by omega)]
  have e3 : (a : Int).tdiv (m : Int) = ((a / m : Nat) : Int) := rfl
  rw [e3]
  generalize a / m = c at hle
  exact Int.bmod_eq_of_le (by omega) (by omega)
theorem rem_n {x y : Int32} {a m : Nat} (hx : x = Int32.ofNat a) (hy : y = Int32.ofNat m) (ha : a < 2147483648) (hm : m < 2147483648) : x - x / y * y = Int32.ofNat (a % m) := by
  rw [hx, hy, div_n ha hm]
  have e : Int32.ofNat a = Int32.ofNat (a % m) + Int32.ofNat (a / m) * Int32.ofNat m := by
    rw [← Int32.ofNat_mul, ← Int32.ofNat_add, Nat.mul_comm, Nat.mod_add_div]
  rw [e, Int32.add_sub_cancel]
theorem shr_n (v s : Int32) {t : Nat} (hs : (s.toUInt32 &&& Int32.toUInt32 31).toNat = t) (h1 : 1 ≤ t) (h2 : t < 32) : ∃ a, a < 2147483648 ∧ (v.toUInt32 >>> (s.toUInt32 &&& Int32.toUInt32 31)).toInt32 = Int32.ofNat a := by
  have hv := v.toUInt32.toNat_lt
  have e : (v.toUInt32 >>> (s.toUInt32 &&& Int32.toUInt32 31)).toNat = v.toUInt32.toNat >>> t := by
    rw [UInt32.toNat_shiftRight, hs, Nat.mod_eq_of_lt h2]
  have hb : v.toUInt32.toNat >>> t < 2147483648 := by
    rw [Nat.shiftRight_eq_div_pow]
    have : 2 ^ 1 ≤ 2 ^ t := Nat.pow_le_pow_right (by omega) h1
    have h3 : v.toUInt32.toNat / 2 ^ t ≤ v.toUInt32.toNat / 2 ^ 1 := Nat.div_le_div_left this (by decide)
    omega
  refine ⟨v.toUInt32.toNat >>> t, hb, ?_⟩
  have e2 : v.toUInt32 >>> (s.toUInt32 &&& Int32.toUInt32 31) = UInt32.ofNat (v.toUInt32.toNat >>> t) := by
    rw [← e, UInt32.ofNat_toNat]
  rw [e2]
  rfl
theorem mx_of {x : Int32} {a : Nat} (hx : x = Int32.ofNat a) (h1 : 1000 ≤ a) (h2 : a < 2147483648) : (if 1000 < x then x else 1000) = x := by
  by_cases c : 1000 < x
  · rw [if_pos c]
  · rw [if_neg c]
    have e : x.toInt = a := by rw [hx]; exact Int32.toInt_ofNat_of_lt (by omega)
    have h3 : ¬ (1000 : Int32).toInt < x.toInt := fun q => c (Int32.lt_iff_toInt_lt.mpr q)
    have e4 : (1000 : Int32).toInt = 1000 := by decide
    refine Int32.toInt_inj.mp ?_
    omega
/-- Math.max -/
theorem aNat_mx {x y Y : Int32} {pc : Nat} {ls : List (Option Value)} {r : List Value} {h : aH} {k : aK} (hr : aSum r ≤ 8) (e : (if x < y then y else x) = Y) : aNat 500 pc ls (.int y :: .int x :: r) h k = some (.inl (pc + 3, ls, .int Y :: r, h, k)) := by
  show (if aSum r ≤ 8 then aGo (pc + 3) ls (.int (if x < y then y else x) :: r) h k else none) = _
  rw [if_pos hr, e]
  rfl
/-! FIRINGS -/
section FIR
variable {w v u : aW} {n g o i j k m : Nat} {x y : Int32}
theorem z4_lt (ok : wOkA w n g o) (hj : j < n) : zn (w 4 j) < 8 := by
  have hg := ok.1.2.2.2.1
  rcases (ok.2.1 j hj).2.2 with ⟨-, -, e⟩ | ⟨-, -, k, hk, e⟩ | ⟨-, -, k, hk, e⟩ | ⟨-, -, e⟩ | ⟨-, -, e⟩ | ⟨-, -, e⟩
  · rw [e]; decide
  · rw [zn_of e (by omega)]; omega
  · rw [zn_of e (by omega)]; omega
  · rw [e]; decide
  · rw [e]; decide
  · rw [e]; decide
theorem fires_same (h : wSame u w) (ok : wOkA w n g o) (hj : j < n) : wFires u j = wFires w j := by
  have hn := ok.1.2.1
  unfold wFires
  rw [h 1 j (rg1 (by omega) (by omega) (by omega)), h 4 j (rg1 (by omega) (by omega) (by omega)), h 16 4 (rg16 (by omega)), h 8 _ (rg8 (z4_lt ok hj)).1]
theorem heat_same (h : wSame u w) (ok : wOkA w n g o) (hj : j < n) : wHeat u j y = wHeat w j y := by
  have hn := ok.1.2.1
  unfold wHeat
  rw [h 4 j (rg1 (by omega) (by omega) (by omega)), h 8 _ (rg8 (z4_lt ok hj)).1, h 9 _ (rg8 (z4_lt ok hj)).2]
theorem grade_same (h : wSame u w) (hj : j < 60) : wGrade u j y = wGrade w j y := by
  unfold wGrade wFlow
  rw [h 7 j (rg1 (by omega) (by omega) (by omega)), h 2 j (rg1 (by omega) (by omega) (by omega)), h 3 j (rg1 (by omega) (by omega) (by omega)), h 0 0 (rg0 (by omega)), h 0 1 (rg0 (by omega))]
theorem firsts_same (h : wSame u w) (ok : wOkA w n g o) : wFirsts u n y = wFirsts w n y := aSm_congr n 0 fun j _ hj => by
  have hn := ok.1.2.1
  rw [fires_same h ok (by omega), heat_same h ok (by omega), grade_same h (by omega)]
theorem any_iff : wAny w n = 0 ↔ ∀ j, j < n → wFires w j = false := by
  rcases aFd_cases (fun j => wFires w j) (fun _ => (1 : Int32)) 0 n 0 with ⟨e, h⟩ | ⟨j, h1, h2, h3, e, h4⟩
  · exact ⟨fun _ j hj => h j (by omega) (by omega), fun _ => e⟩
  · exact ⟨fun q => absurd (e.symm.trans q) (by decide), fun q => absurd (q j (by omega)) (by rw [show wFires w j = true from h3]; decide)⟩
theorem any_same (h : wSame u w) (ok : wOkA w n g o) : wAny u n = 0 ↔ wAny w n = 0 := by
  rw [any_iff, any_iff]
  exact ⟨fun q j hj => (fires_same h ok hj).symm.trans (q j hj), fun q j hj => (fires_same h ok hj).trans (q j hj)⟩
theorem wFirsts_0 (w : aW) (n : Nat) (y : Int32) (hn : n < 100000) : 0 ≤ wFirsts w n y := by
  obtain ⟨k, hk, ek⟩ := wFirsts_nn w n y
  rw [ek]
  exact Int32.not_lt.mp (ofN_lt0 (by omega))
theorem bst_max (w : aW) (n : Nat) : ∀ m t, t < m → wFirsts w n (Int32.ofNat (1000 + 10 * t)) ≤ (wBst w n m).1
  | m + 1, t, ht => by
    have e : wBst w n (m + 1) = if (wBst w n m).1 < wFirsts w n (Int32.ofNat (1000 + 10 * m)) then (wFirsts w n (Int32.ofNat (1000 + 10 * m)), Int32.ofNat (1000 + 10 * m)) else wBst w n m := rfl
    rw [e]
    by_cases c : (wBst w n m).1 < wFirsts w n (Int32.ofNat (1000 + 10 * m))
    · rw [if_pos c]
      by_cases q : t = m
      · rw [q]
        exact Int32.le_refl _
      · exact Int32.le_trans (bst_max w n m t (by omega)) (Int32.le_of_lt c)
    · rw [if_neg c]
      by_cases q : t = m
      · rw [q]
        exact Int32.not_lt.mp c
      · exact bst_max w n m t (by omega)
theorem bst_at (w : aW) (n : Nat) (hn : n < 100000) : ∀ m, wFirsts w n (wBst w n (m + 1)).2 = (wBst w n (m + 1)).1 ∧ ∃ t, t < m + 1 ∧ (wBst w n (m + 1)).2 = Int32.ofNat (1000 + 10 * t)
  | 0 => by
    have e : wBst w n (0 + 1) = if (0 : Int32) < wFirsts w n (Int32.ofNat (1000 + 10 * 0)) then (wFirsts w n (Int32.ofNat (1000 + 10 * 0)), Int32.ofNat (1000 + 10 * 0)) else (0, 1000) := rfl
    rw [e]
    by_cases c : (0 : Int32) < wFirsts w n (Int32.ofNat (1000 + 10 * 0))
    · rw [if_pos c]
      exact ⟨rfl, 0, by omega, rfl⟩
    · rw [if_neg c]
      refine ⟨?_, 0, by omega, rfl⟩
      show wFirsts w n (Int32.ofNat (1000 + 10 * 0)) = 0
      have hw := wFirsts_0 w n (Int32.ofNat (1000 + 10 * 0)) hn
      exact Int32.le_antisymm (Int32.not_lt.mp c) hw
  | m + 1 => by
    obtain ⟨h1, t, ht, h2⟩ := bst_at w n hn m
    have e : wBst w n (m + 1 + 1) = if (wBst w n (m + 1)).1 < wFirsts w n (Int32.ofNat (1000 + 10 * (m + 1))) then (wFirsts w n (Int32.ofNat (1000 + 10 * (m + 1))), Int32.ofNat (1000 + 10 * (m + 1))) else wBst w n (m + 1) := rfl
    rw [e]
    by_cases c : (wBst w n (m + 1)).1 < wFirsts w n (Int32.ofNat (1000 + 10 * (m + 1)))
    · rw [if_pos c]
      exact ⟨rfl, m + 1, by omega, rfl⟩
    · rw [if_neg c]
      exact ⟨h1, t, by omega, h2⟩
/-- what a ware is after the firing -/
def wThen (w : aW) (Y : Int32) (j : Nat) : Int32 := if wFires w j = true then wGrade w j (wHeat w j Y) else w 5 j
theorem fire_5 {Y : Int32} (h : wSame u w) (ok : wOkA w n g o) (hj : j < n) : upw (wFireK u Y n) 16 2 (u 16 2 + 1) 5 j = wThen w Y j := by
  have hn := ok.1.2.1
  rw [upw_ne (by omega)]
  unfold wThen
  by_cases c : wFires w j = true
  · have cu : wFires u j = true := (fires_same h ok hj).trans c
    rw [if_pos c]
    unfold wFireK
    rw [if_pos ⟨Or.inr rfl, hj, cu⟩, if_neg (by decide), heat_same h ok hj, grade_same h (by omega)]
  · have cu : ¬ wFires u j = true := fun q => c ((fires_same h ok hj).symm.trans q)
    rw [if_neg c]
    unfold wFireK
    rw [if_neg (fun q => cu q.2.2), h 5 j (rg1 (by omega) (by omega) (by omega))]
/-- the heat at a place is one -/
theorem heat_n {a b L : Nat} {Y : Int32} (hY : Y = Int32.ofNat a) (h1 : 1000 ≤ a) (h2 : a ≤ 1400) (hb : b < 4) (hL : L < 8) : ∃ c, c ≤ 1400 ∧ Y - 10 * Int32.ofNat L - 5 * Int32.ofNat b = Int32.ofNat c := by
  refine ⟨a - 10 * L - 5 * b, by omega, ?_⟩
  have e : Y = Int32.ofNat (a - 10 * L - 5 * b) + 5 * Int32.ofNat b + 10 * Int32.ofNat L := by
    rw [hY, show (5 : Int32) = Int32.ofNat 5 from rfl, show (10 : Int32) = Int32.ofNat 10 from rfl, ← Int32.ofNat_mul, ← Int32.ofNat_mul, ← Int32.ofNat_add, ← Int32.ofNat_add]
    congr 1
    omega
  rw [e, Int32.add_sub_cancel, Int32.add_sub_cancel]
/-- a ware that is not to fire; one that is -/
theorem fires_cases (ok : wOk w n g o) (hj : j < n) : (¬ w 1 j = 1 ∧ wFires w j = false) ∨ (w 1 j = 1 ∧ ∃ k, k < g ∧ w 4 j = Int32.ofNat k ∧ ((w 8 k = -1 ∧ wFires w j = false) ∨ (¬ w 8 k = -1 ∧ wFires w j = true ∧ ∃ b L, b < 4 ∧ L < 8 ∧ w 8 k = Int32.ofNat b ∧ w 9 k = Int32.ofNat L))) := by
  have hg := ok.1.2.2.2.1
  by_cases h : w 1 j = 1
  · refine Or.inr ⟨h, ?_⟩
    obtain ⟨k, hk, e, hf⟩ := okW_1 ok.A hj h
    refine ⟨k, hk, e, ?_⟩
    rcases ok.2.2.1.1 k hk with ⟨q, -⟩ | ⟨b, L, hb, hL, p, -⟩
    · refine Or.inl ⟨q, ?_⟩
      cases hw : wFires w j with
      | false => rfl
      | true => exact absurd q (hf.mp hw)
    · have nb : ¬ w 8 k = -1 := okP_k hb p
      exact Or.inr ⟨nb, hf.mpr nb, b, L, hb, hL, p.1, p.2⟩
  · exact Or.inl ⟨h, decide_eq_false (fun q => h q.1)⟩
end FIR
