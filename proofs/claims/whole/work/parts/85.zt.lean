/-! FACTS: loads by two ways, the balance -/
theorem aSm_0 {f : Nat → Int32} : ∀ (m i : Nat), (∀ j, i ≤ j → j < i + m → f j = 0) → aSm f m i = 0
  | 0, _, _ => rfl
  | m + 1, i, h => by
    show f i + aSm f m (i + 1) = 0
    rw [h i (Nat.le_refl _) (by omega), aSm_0 m (i + 1) fun j h1 h2 => h j (by omega) (by omega)]
    rfl
theorem aSm_1 {f h : Nat → Int32} {c : Int32} : ∀ (m i k : Nat), i ≤ k → k < i + m → (∀ j, ¬ j = k → j < i + m → f j = h j) → f k = h k + c → aSm f m i = aSm h m i + c
  | 0, i, k, h1, h2, _, _ => by omega
  | m + 1, i, k, h1, h2, hne, he => by
    show f i + aSm f m (i + 1) = h i + aSm h m (i + 1) + c
    by_cases e : k = i
    · subst e
      rw [he, aSm_congr (f := f) (g := h) m (k + 1) fun j q1 q2 => hne j (by omega) (by omega)]
      rw [Int32.add_assoc, Int32.add_assoc, Int32.add_comm c]
    · rw [hne i (fun q => e q.symm) (by omega), aSm_1 m (i + 1) k (by omega) (by omega) (fun j q1 q2 => hne j q1 (by omega)) he, Int32.add_assoc]
section FF
variable {w v : aW} {n g o i j k q m b L : Nat} {x y z u s t : Int32}
/-- the weights of a bung above a level -/
def wAb (w : aW) (n g b L : Nat) : Int32 := aSm (fun j => if w 8 j = Int32.ofNat b ∧ ¬ w 9 j ≤ Int32.ofNat L then 3 + wHeld w n (Int32.ofNat j) else 0) g 0
theorem wRest_eq (hj : j < 8) (hb : b < 4) (p : okP w j b L) : wRest w n g (Int32.ofNat j) = wAb w n g b L := by
  have ej : zn (Int32.ofNat j) = j := zn_of rfl (by omega)
  have h : ¬ w 8 (zn (Int32.ofNat j)) = -1 := by rw [ej]; exact okP_k hb p
  unfold wRest wAb
  rw [if_neg h, ej, p.1, p.2]
  have e : aSm (fun j => if w 8 j = Int32.ofNat b then 3 + wHeld w n (Int32.ofNat j) else 0) g 0 = aSm (fun j => if w 8 j = Int32.ofNat b ∧ ¬ w 9 j ≤ Int32.ofNat L then 3 + wHeld w n (Int32.ofNat j) else 0) g 0 + aSm (fun j => if w 8 j = Int32.ofNat b ∧ w 9 j ≤ Int32.ofNat L then 3 + wHeld w n (Int32.ofNat j) else 0) g 0 := by
    rw [aSm_plus]
    refine aSm_congr g 0 fun l _ _ => ?_
    by_cases c : w 8 l = Int32.ofNat b
    · by_cases c1 : w 9 l ≤ Int32.ofNat L
      · rw [if_pos c, if_neg (fun q => q.2 c1), if_pos ⟨c, c1⟩, Int32.zero_add]
      · rw [if_pos c, if_pos ⟨c, c1⟩, if_neg (fun q => c1 q.2), Int32.add_zero]
    · rw [if_neg c, if_neg (fun q => c q.1), if_neg (fun q => c q.1)]
      rfl
  rw [e, Int32.add_sub_cancel]
/-- below every saggar all levels are taken -/
theorem okS_all (ok : okS w g) (hb : b < 4) : ∀ (d L j : Nat), j < g → L + d < 8 → okP w j b (L + d) → ∃ i, i < g ∧ okP w i b L
  | 0, L, j, hj, _, p => ⟨j, hj, p⟩
  | d + 1, L, j, hj, h, p => by
    obtain ⟨i, hi, q⟩ := okS_under ok hj hb (L := L + d) (by omega) p
    exact okS_all ok hb d L i hi (by omega) q
theorem ab_0 (ok : okS w g) (hb : b < 4) (h : ∀ j, j < g → ¬ okP w j b (L + 1)) (hL : L < 8) : wAb w n g b L = 0 := by
  refine aSm_0 g 0 fun j _ hj => if_neg fun ⟨q1, q2⟩ => ?_
  have hj : j < g := by omega
  obtain ⟨b1, L1, hb1, hL1, p⟩ := okS_in ok hj (by rw [q1]; exact b_ne hb)
  have eb : b1 = b := ofN_ne (by omega) (by omega) (p.1.symm.trans q1)
  subst eb
  have hlt : ¬ L1 ≤ L := fun k => q2 (by rw [p.2]; exact (zI_le rfl rfl (by omega) (by omega)).mpr k)
  obtain ⟨i, hi, q⟩ := okS_all ok hb (L1 - (L + 1)) (L + 1) j hj (by omega) (by rw [show L + 1 + (L1 - (L + 1)) = L1 by omega]; exact p)
  exact h i hi q
theorem ab_s (ok : okS w g) (hb : b < 4) (hi : i < g) (hL : L + 1 < 8) (p : okP w i b (L + 1)) : wAb w n g b L = wAb w n g b (L + 1) + (3 + wHeld w n (Int32.ofNat i)) := by
  refine aSm_1 g 0 i (by omega) (by omega) (fun j hne hj => ?_) ?_
  · have hj : j < g := by omega
    by_cases c : w 8 j = Int32.ofNat b
    rotate_left
    · rw [if_neg (fun q => c q.1), if_neg (fun q => c q.1)]
    obtain ⟨b1, L1, hb1, hL1, r⟩ := okS_in ok hj (by rw [c]; exact b_ne hb)
    have eb : b1 = b := ofN_ne (by omega) (by omega) (r.1.symm.trans c)
    subst eb
    have hn : ¬ L1 = L + 1 := fun e => hne (ok.2 j i hj hi (by rw [c]; exact b_ne hb) (c.trans p.1.symm) (by rw [r.2, p.2, e]))
    have e1 : w 9 j ≤ Int32.ofNat L ↔ L1 ≤ L := by rw [r.2]; exact zI_le rfl rfl (by omega) (by omega)
    have e2 : w 9 j ≤ Int32.ofNat (L + 1) ↔ L1 ≤ L + 1 := by rw [r.2]; exact zI_le rfl rfl (by omega) (by omega)
    by_cases c1 : L1 ≤ L
    · rw [if_neg (fun q => q.2 (e1.mpr c1)), if_neg (fun q => q.2 (e2.mpr (by omega)))]
    · rw [if_pos ⟨c, fun q => c1 (e1.mp q)⟩, if_pos ⟨c, fun q => c1 (by have := e2.mp q; omega)⟩]
  · have e1 : ¬ w 9 i ≤ Int32.ofNat L := by rw [p.2]; exact fun q => by have := (zI_le rfl rfl (by omega) (by omega)).mp q; omega
    have e2 : w 9 i ≤ Int32.ofNat (L + 1) := by rw [p.2]; exact Int32.le_refl _
    rw [if_pos ⟨p.1, e1⟩, if_neg (fun q => q.2 e2), Int32.zero_add]
theorem ld_ab (ok : okS w g) (hg : g ≤ 8) (hb : b < 4) : ∀ (q L j : Nat), j < g → L < 8 → 8 ≤ L + 1 + q → okP w j b L → wLd w n g q (wUp w g (Int32.ofNat j)) = wAb w n g b L
  | 0, L, j, hj, hL, h, p => by
    have hn : ∀ i, i < g → ¬ okP w i b (L + 1) := fun i hi q => by
      obtain ⟨b1, L1, hb1, hL1, r⟩ := okS_in ok hi (okP_k hb q)
      have := (okP_f r q ⟨by omega, by omega, by omega, by omega⟩).2
      omega
    rw [ab_0 ok hb hn hL]
    rfl
  | q + 1, L, j, hj, hL, h, p => by
    rcases wUp_ex ok hg hj with e | ⟨i, b1, L1, hi, hb1, hL1, hL2, p1, pi, e⟩
    · have hn : ∀ i, i < g → ¬ okP w i b (L + 1) := by
        have e1 : wUp w g (Int32.ofNat j) = wAt w g (Int32.ofNat b) (Int32.ofNat (L + 1)) := wUp_of (by omega) hb p
        exact wAt_none ok hg hb (e1.symm.trans e)
      rw [e, ab_0 ok hb hn hL]
      rfl
    · obtain ⟨eb, eL⟩ := okP_f p1 p ⟨by omega, by omega, by omega, by omega⟩
      rw [eb, eL] at pi
      rw [eL] at hL2
      have ne : ¬ Int32.ofNat i = -1 := ofN_m1 (by omega)
      rw [e]
      show (if Int32.ofNat i = -1 then 0 else (3 + wHeld w n (Int32.ofNat i)) + wLd w n g q (wUp w g (Int32.ofNat i))) = _
      rw [if_neg ne, ld_ab ok hg hb q (L + 1) i hi hL2 (by omega) pi, ab_s ok hb hi hL2 pi, Int32.add_comm]
/-- the load above, and the rest of the bung's weight -/
theorem load_eq (ok : okS w g) (hg : g ≤ 8) (hj : j < g) : wLoad w n g (Int32.ofNat j) = wRest w n g (Int32.ofNat j) := by
  by_cases c : w 8 j = -1
  · have e1 : wUp w g (Int32.ofNat j) = -1 := wUp_f (by omega) c
    unfold wLoad wRest
    rw [e1, zn_of (i := j) rfl (by omega), if_pos c]
    rfl
  · obtain ⟨b, L, hb, hL, p⟩ := okS_in ok hj c
    rw [wRest_eq (by omega) hb p]
    exact ld_ab ok hg hb 8 L j hj hL (by omega) p
theorem clay_eq (ok : wOk w n g o) : wClay w n = w 16 1 := ok.B.1.symm
theorem sets_4 (i : Nat) : aSm (fun k => w 13 (i * 4 + k) * w 12 i) 4 0 = w 12 i * w 13 (i * 4 + 0) + (w 12 i * w 13 (i * 4 + 1) + (w 12 i * w 13 (i * 4 + 2) + w 12 i * w 13 (i * 4 + 3))) := by
  show w 13 (i * 4 + 0) * w 12 i + (w 13 (i * 4 + 1) * w 12 i + (w 13 (i * 4 + 2) * w 12 i + (w 13 (i * 4 + 3) * w 12 i + 0))) = _
  rw [Int32.add_zero, Int32.mul_comm (w 13 (i * 4 + 0)), Int32.mul_comm (w 13 (i * 4 + 1)), Int32.mul_comm (w 13 (i * 4 + 2)), Int32.mul_comm (w 13 (i * 4 + 3))]
theorem sold_4 (ok : wOkA w n g o) (hj : j < n) : (if w 1 j = 4 then (1 : Int32) else 0) = (if w 1 j = 4 ∧ w 6 j = Int32.ofNat 0 then (1 : Int32) else 0) + ((if w 1 j = 4 ∧ w 6 j = Int32.ofNat 1 then (1 : Int32) else 0) + ((if w 1 j = 4 ∧ w 6 j = Int32.ofNat 2 then (1 : Int32) else 0) + (if w 1 j = 4 ∧ w 6 j = Int32.ofNat 3 then (1 : Int32) else 0))) := by
  by_cases c : w 1 j = 4
  rotate_left
  · rw [if_neg c, if_neg (fun q => c q.1), if_neg (fun q => c q.1), if_neg (fun q => c q.1), if_neg (fun q => c q.1)]
    rfl
  obtain ⟨k, hk⟩ := ok.kinds j hj
  have h4 : ∃ k, k < 4 ∧ w 6 j = Int32.ofNat k := by
    unfold aIx at hk
    split at hk
    · cases hk
    · rename_i c1
      have h0 : ¬ w 6 j < 0 := fun q => c1 (Or.inl q)
      have h4 : ¬ 4 ≤ (w 6 j).toNatClampNeg := fun q => c1 (Or.inr q)
      exact ⟨zn (w 6 j), by show (w 6 j).toNatClampNeg < 4; omega, zn_nn (Int32.not_lt.mp h0)⟩
  obtain ⟨k, hk4, e⟩ := h4
  have key : ∀ l, l < 4 → (w 1 j = 4 ∧ w 6 j = Int32.ofNat l ↔ k = l) := fun l hl => ⟨fun q => ofN_ne (by omega) (by omega) (e.symm.trans q.2), fun q => ⟨c, by rw [← q]; exact e⟩⟩
  rw [if_pos c]
  simp only [key 0 (by omega), key 1 (by omega), key 2 (by omega), key 3 (by omega)]
  match k, hk4 with
  | 0, _ => rfl
  | 1, _ => rfl
  | 2, _ => rfl
  | 3, _ => rfl
theorem sets_eq (ok : wOk w n g o) : wSets w o = aSm (fun j => if w 1 j = 4 then 1 else 0) n 0 := by
  have e1 : wSets w o = wSoldOf w o 0 + (wSoldOf w o 1 + (wSoldOf w o 2 + wSoldOf w o 3)) := by
    unfold wSoldOf
    rw [aSm_plus, aSm_plus, aSm_plus]
    exact aSm_congr o 0 fun i _ _ => sets_4 i
  have e2 : aSm (fun j => if w 1 j = 4 then (1 : Int32) else 0) n 0 = wSold w n (Int32.ofNat 0) + (wSold w n (Int32.ofNat 1) + (wSold w n (Int32.ofNat 2) + wSold w n (Int32.ofNat 3))) := by
    unfold wSold
    rw [aSm_plus, aSm_plus, aSm_plus]
    exact aSm_congr n 0 fun j _ hj => sold_4 ok.A (by omega)
  rw [e1, e2, ok.sales 0 (by omega), ok.sales 1 (by omega), ok.sales 2 (by omega), ok.sales 3 (by omega)]
end FF
