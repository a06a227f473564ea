/-! FACTS: small sums; what a put and a sale need -/
theorem nSm_le {g : Nat → Nat} {c : Nat} (h : ∀ j, g j ≤ c) : ∀ (m i : Nat), nSm g m i ≤ c * m
  | 0, _ => Nat.zero_le _
  | m + 1, i => by
    have h1 := h i
    have h2 := nSm_le h m (i + 1)
    show g i + nSm g m (i + 1) ≤ c * (m + 1)
    rw [Nat.mul_succ]
    omega
theorem nSm_ge {g : Nat → Nat} : ∀ (m i j : Nat), i ≤ j → j < i + m → g j ≤ nSm g m i
  | 0, i, j, h1, h2 => by omega
  | m + 1, i, j, h1, h2 => by
    show g j ≤ g i + nSm g m (i + 1)
    by_cases e : j = i
    · rw [e]
      omega
    · have := nSm_ge (g := g) m (i + 1) j (by omega) (by omega)
      omega
theorem nSm_upd {g g1 : Nat → Nat} : ∀ (m i j : Nat), i ≤ j → j < i + m → (∀ a, ¬ a = j → g1 a = g a) → nSm g1 m i + g j = nSm g m i + g1 j
  | 0, i, j, h1, h2, _ => by omega
  | m + 1, i, j, h1, h2, h => by
    show g1 i + nSm g1 m (i + 1) + g j = g i + nSm g m (i + 1) + g1 j
    by_cases e : j = i
    · subst e
      rw [nSm_congr (f := g1) (g := g) m (j + 1) (fun a h1 _ => h a (by omega))]
      omega
    · rw [h i (fun q => e q.symm)]
      have := nSm_upd (g := g) (g1 := g1) m (i + 1) j (by omega) (by omega) h
      omega
theorem nSm_snoc {g : Nat → Nat} : ∀ (m i : Nat), nSm g (m + 1) i = nSm g m i + g (i + m)
  | 0, i => by
    show g i + 0 = 0 + g (i + 0)
    rw [Nat.add_zero, Nat.add_zero, Nat.zero_add]
  | m + 1, i => by
    show g i + nSm g (m + 1) (i + 1) = g i + nSm g m (i + 1) + g (i + (m + 1))
    rw [nSm_snoc m (i + 1), show i + 1 + m = i + (m + 1) by omega]
    omega
section FA
variable {w : aW} {n g o i j k : Nat} {x y z : Int32}
theorem fSz_n (h : ∃ k, aIx x 4 = some k) : 1 ≤ zn (fSz x) ∧ zn (fSz x) ≤ 4 ∧ fSz x = Int32.ofNat (zn (fSz x)) := by
  obtain ⟨k, h⟩ := h
  have hk : k < 4 := by
    unfold aIx at h
    split at h
    · cases h
    · rename_i c
      cases h
      omega
  rw [fSz_of h]
  match k, hk with
  | 0, _ => decide
  | 1, _ => decide
  | 2, _ => decide
  | 3, _ => decide
def nHeld (w : aW) (n : Nat) (y : Int32) : Nat := nSm (fun j => if w 4 j = y then zn (fSz (w 6 j)) else 0) n 0
theorem wHeld_n (ok : ∀ j, j < n → ∃ k, aIx (w 6 j) 4 = some k) : wHeld w n y = Int32.ofNat (nHeld w n y) := aSm_nat n 0 fun j _ hj => by
  by_cases c : w 4 j = y
  · rw [if_pos c, if_pos c]
    exact (fSz_n (ok j (by omega))).2.2
  · rw [if_neg c, if_neg c]
    rfl
theorem nSm_leN {g : Nat → Nat} {c : Nat} : ∀ (m i : Nat), (∀ j, i ≤ j → j < i + m → g j ≤ c) → nSm g m i ≤ c * m
  | 0, _, _ => Nat.zero_le _
  | m + 1, i, h => by
    have h1 := h i (by omega) (by omega)
    have h2 := nSm_leN m (i + 1) (fun j h1 h2 => h j (by omega) (by omega))
    show g i + nSm g m (i + 1) ≤ c * (m + 1)
    rw [Nat.mul_succ]
    omega
theorem nHeld_le (ok : ∀ j, j < n → ∃ k, aIx (w 6 j) 4 = some k) : nHeld w n y ≤ 4 * n := nSm_leN n 0 fun j _ hj => by
  have := (fSz_n (ok j (by omega))).2.1
  split <;> omega
theorem put_dec : ∀ a : Fin 241, ∀ b : Fin 5, Int32.ofNat b.val ≤ 6 - Int32.ofNat a.val → 0 ≤ 6 - Int32.ofNat a.val - Int32.ofNat b.val := by decide +kernel
/-- what is left of the room is not negative -/
theorem fa_put (ok : wOkA w n g o) (hi : i < n) : fSz (w 6 i) ≤ 6 - wHeld w n y → 0 ≤ 6 - wHeld w n y - fSz (w 6 i) := by
  have e := fSz_n (ok.kinds i hi)
  have h1 := nHeld_le (y := y) ok.kinds
  have hn := ok.1.2.1
  rw [wHeld_n ok.kinds, e.2.2]
  exact put_dec ⟨nHeld w n y, by omega⟩ ⟨zn (fSz (w 6 i)), by omega⟩
theorem zn_le {a : Nat} (h : x ≤ Int32.ofNat a) (h0 : 0 ≤ x) (ha : a < 100000) : zn x ≤ a := by
  have e := zn_nn h0
  have := Int32.toInt_lt x
  have g2 : ((zn x : Nat) : Int) = x.toInt := by
    show ((x.toInt.toNat : Nat) : Int) = _
    have e0 : (0 : Int32).toInt = 0 := rfl
    have : (0 : Int) ≤ x.toInt := by rw [← e0]; exact Int32.le_iff_toInt_le.mp h0
    omega
  have h2 := Int32.le_iff_toInt_le.mp h
  rw [Int32.toInt_ofNat_of_lt (by omega)] at h2
  omega
theorem zn_pos (h : 0 < x) : 1 ≤ zn x := by
  have e := zn_nn (Int32.le_of_lt h)
  by_cases c : zn x = 0
  · rw [c] at e
    rw [e] at h
    exact absurd h (by decide)
  · omega
theorem nSold_le (k : Nat) : nSold w n k ≤ n := by
  have := nSm_le (g := fun j => if w 1 j = 4 ∧ w 6 j = Int32.ofNat k then 1 else 0) (c := 1) (fun j => by split <;> omega) n 0
  unfold nSold
  omega
/-- no more sets are sold than there are wares -/
theorem sold_le (ok : wOk w n g o) (hi : i < o) : zn (w 12 i) ≤ n := by
  obtain ⟨k, hk, hp⟩ := (ok.2.2.2.1 i hi).2.2.2
  have h1 := ok.2.2.2.2.1.2.2 k hk
  have h2 := nSold_le (w := w) (n := n) k
  have h3 : zn (w 12 i) * zn (w 13 (i * 4 + k)) ≤ nSoldOf w o k := nSm_ge (g := fun i => zn (w 12 i) * zn (w 13 (i * 4 + k))) o 0 i (by omega) (by omega)
  have h4 := zn_pos hp
  have h5 := Nat.mul_le_mul_left (zn (w 12 i)) h4
  omega
theorem inc_dec : ∀ a : Fin 61, 0 ≤ Int32.ofNat a.val + 1 := by decide +kernel
theorem wTake_12 : wTake n i w 12 i = w 12 i + 1 := by
  show upw (wSellK n i 4 w) 12 i (wSellK n i 4 w 12 i + 1) 12 i = _
  rw [upw_eq, wSellK_o 12 i (by omega)]
theorem fa_sell (ok : wOk w n g o) (hi : i < o) : 0 ≤ wTake n i w 12 i := by
  have h1 := sold_le ok hi
  have hn := ok.1.2.1
  rw [wTake_12, zn_nn (ok.2.2.2.2.1.2.1 i hi)]
  exact inc_dec ⟨zn (w 12 i), by omega⟩
end FA
