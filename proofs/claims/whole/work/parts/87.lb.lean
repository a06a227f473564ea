/-! THE LAW'S HEAP: blocks changed about -/
def bL (W : Nat → aW) : List aH := [aWk 21 (W 0), aWk 42 (W 1), aWk 63 (W 2), aWk 84 (W 3), aWk 105 (W 4), aWk 126 (W 5), aWk 147 (W 6), aWk 168 (W 7), aWk 189 (W 8), aWk 210 (W 9), aWk 231 (W 10)]
def KB (pn pd : Nat) (rg : Nat → Option Nat) (k : aW) (W : Nat → aW) : aH := aKn0 pn pd rg k ++ (bL W).flatten
def Rg (W : Nat → aW) : aH := ([aWk 84 (W 3), aWk 105 (W 4), aWk 126 (W 5), aWk 147 (W 6), aWk 168 (W 7), aWk 189 (W 8), aWk 210 (W 9), aWk 231 (W 10)] : List aH).flatten
def uB (π : Nat → Nat) (q : Nat) : Nat := if q < 21 then q else 21 + 21 * π ((q - 21) / 21) + (q - 21) % 21
section LC
variable {sn : Nat} {sf : Nat → Int32} {k : aW} {W : Nat → aW} {pn pd B i q : Nat} {rg : Nat → Option Nat} {π : Nat → Nat} {lo : Nat → Int64} {dd : Nat → UInt64} {m : aW}
theorem KB_split : KB pn pd rg k W = (aKn0 pn pd rg k ++ (aWk 21 (W 0) ++ (aWk 42 (W 1) ++ aWk 63 (W 2)))) ++ Rg W := by
  show aKn0 pn pd rg k ++ (aWk 21 (W 0) ++ (aWk 42 (W 1) ++ (aWk 63 (W 2) ++ Rg W))) = _
  simp only [List.append_assoc]
theorem uB_lo (h : q < 21) : uB π q = q := if_pos h
theorem uB_at (hi : i < 21) : uB π (21 + 21 * B + i) = 21 + 21 * π B + i := by
  unfold uB
  rw [if_neg (by omega), show 21 + 21 * B + i - 21 = 21 * B + i by omega, Nat.mul_add_div (by omega), Nat.mul_add_mod, Nat.div_eq_of_lt hi, Nat.mod_eq_of_lt hi]
  rfl
theorem fl_at : ∀ (l : List aH), (∀ x ∈ l, x.length = 21) → ∀ (B i : Nat), i < 21 → l.flatten[21 * B + i]? = (l[B]?).bind (fun x => x[i]?)
  | [], _, B, i, _ => by simp
  | x :: r, h, 0, i, hi => by
    have hx := h x List.mem_cons_self
    show (x ++ r.flatten)[21 * 0 + i]? = x[i]?
    rw [Nat.mul_zero, Nat.zero_add, List.getElem?_append_left (by omega)]
  | x :: r, h, B + 1, i, hi => by
    have hx := h x List.mem_cons_self
    show (x ++ r.flatten)[21 * (B + 1) + i]? = (r[B]?).bind _
    rw [List.getElem?_append_right (by omega), hx, show 21 * (B + 1) + i - 21 = 21 * B + i by omega]
    exact fl_at r (fun y hy => h y (List.mem_cons_of_mem _ hy)) B i hi
theorem bL_len : ∀ x ∈ bL W, x.length = 21 := by
  intro x hx
  simp only [bL, List.mem_cons, List.not_mem_nil, or_false] at hx
  rcases hx with rfl | rfl | rfl | rfl | rfl | rfl | rfl | rfl | rfl | rfl | rfl <;> rfl
theorem bL_at (hB : B < 11) : (bL W)[B]? = some (aWk (21 + 21 * B) (W B)) := by
  match B, hB with
  | 0, _ => rfl
  | 1, _ => rfl
  | 2, _ => rfl
  | 3, _ => rfl
  | 4, _ => rfl
  | 5, _ => rfl
  | 6, _ => rfl
  | 7, _ => rfl
  | 8, _ => rfl
  | 9, _ => rfl
  | 10, _ => rfl
theorem bL_all (hi : i < 21) (hB : B < 11) : (bL W).flatten[21 * B + i]? = (aWk (21 + 21 * B) (W B))[i]? := by
  rw [fl_at _ bL_len _ _ hi, bL_at hB]
  rfl
set_option maxRecDepth 40000 in
theorem bL_flen : (bL W).flatten.length = 231 := rfl
theorem aWk_mv (w : aW) : (aWk (21 + 21 * B) w).map (aCc (uB π)) = aWk (21 + 21 * π B) w := by
  have e : ∀ i, i < 21 → uB π (21 + 21 * B + i) = 21 + 21 * π B + i := fun i hi => uB_at hi
  simp only [aWk, aOj, aAi, List.map, aCc, aCv, aCa, e 1 (by omega), e 2 (by omega), e 3 (by omega), e 4 (by omega), e 5 (by omega), e 6 (by omega), e 7 (by omega), e 8 (by omega), e 9 (by omega), e 10 (by omega), e 11 (by omega), e 12 (by omega), e 13 (by omega), e 14 (by omega), e 15 (by omega), e 16 (by omega), e 17 (by omega), e 18 (by omega), e 19 (by omega), e 20 (by omega)]
/-- the ring by blocks -/
def rgB (π : Nat → Nat) : Nat → Option Nat := fun j => some (21 + 21 * π (3 + j))
theorem aKn0_mv (h2 : π 2 = 2) : (aKn0 21 42 aRg k).map (aCc (uB π)) = aKn0 (21 + 21 * π 0) (21 + 21 * π 1) (rgB π) k := by
  have e0 : uB π 21 = 21 + 21 * π 0 := uB_at (B := 0) (i := 0) (by omega)
  have e1 : uB π 42 = 21 + 21 * π 1 := uB_at (B := 1) (i := 0) (by omega)
  have e2 : uB π 63 = 63 := (uB_at (B := 2) (i := 0) (by omega)).trans (by rw [h2])
  have l : ∀ q, q < 21 → uB π q = q := fun q h => uB_lo h
  have er : (fun j => (aRg j).map (uB π)) = rgB π := funext fun j => by
    show some (uB π (84 + 21 * j)) = some (21 + 21 * π (3 + j))
    rw [show 84 + 21 * j = 21 + 21 * (3 + j) + 0 by omega, uB_at (by omega)]
    rfl
  have en : (fun j => (if j < 3 then some (17 + j) else none : Option Nat).map (uB π)) = fun i => if i < 3 then some (17 + i) else none := funext fun j => by
    by_cases c : j < 3
    · rw [if_pos c]
      show some (uB π (17 + j)) = _
      rw [l _ (by omega)]
    · rw [if_neg c]
      rfl
  simp only [aKn0, aOj, aAi, List.map, aCc, aCv, aCa, e0, e1, e2, l 9 (by omega), l 10 (by omega), l 11 (by omega), l 12 (by omega), l 13 (by omega), l 14 (by omega), l 15 (by omega), l 16 (by omega), l 20 (by omega), er, en]
set_option maxRecDepth 40000 in
/-- blocks changed about -/
theorem iso_b (h2 : π 2 = 2) (h11 : ∀ B, B < 11 → π B < 11) (hinj : ∀ B C, B < 11 → C < 11 → π B = π C → B = C) : aIso (uB π) (aS0 sn sf ++ KB 21 42 aRg k (fun B => W (π B))) (aS0 sn sf ++ KB (21 + 21 * π 0) (21 + 21 * π 1) (rgB π) k W) := by
  have hl : ∀ (pn pd : Nat) (rg : Nat → Option Nat) (W : Nat → aW), (aS0 sn sf ++ KB pn pd rg k W).length = 252 := fun _ _ _ _ => rfl
  have lo : ∀ (pn pd : Nat) (rg : Nat → Option Nat) (W : Nat → aW) (q : Nat), q < 21 → (aS0 sn sf ++ KB pn pd rg k W)[q]? = (aS0 sn sf ++ aKn0 pn pd rg k)[q]? := by
    intro pn pd rg W q hq
    unfold KB
    rw [← List.append_assoc]
    exact List.getElem?_append_left hq
  have hi : ∀ (pn pd : Nat) (rg : Nat → Option Nat) (W : Nat → aW) (B i : Nat), B < 11 → i < 21 → (aS0 sn sf ++ KB pn pd rg k W)[21 + 21 * B + i]? = (aWk (21 + 21 * B) (W B))[i]? := by
    intro pn pd rg W B i hB hi
    unfold KB
    rw [← List.append_assoc, List.getElem?_append_right (by show 21 ≤ _; omega), show 21 + 21 * B + i - (aS0 sn sf ++ aKn0 pn pd rg k).length = 21 * B + i from by show 21 + 21 * B + i - 21 = _; omega]
    exact bL_all hi hB
  have dec : ∀ q, 21 ≤ q → q < 252 → ∃ B i, B < 11 ∧ i < 21 ∧ q = 21 + 21 * B + i := fun q h1 h2 => ⟨(q - 21) / 21, (q - 21) % 21, by omega, by omega, by omega⟩
  refine ⟨fun q c hq => ?_, fun q q1 g1 g2 e => ?_, fun q hq => uB_lo (by omega)⟩
  · have hq2 : q < 252 := by
      have := (List.getElem?_eq_some_iff.mp hq).1
      rw [hl] at this
      exact this
    by_cases c21 : q < 21
    · rw [lo _ _ _ _ q c21] at hq
      rw [uB_lo c21, lo _ _ _ _ q c21, ← aKn0_mv h2]
      have e : (aS0 sn sf ++ (aKn0 21 42 aRg k).map (aCc (uB π))) = (aS0 sn sf ++ aKn0 21 42 aRg k).map (aCc (uB π)) := by
        rw [List.map_append, aS0_c]
      rw [e, List.getElem?_map, hq]
      rfl
    · obtain ⟨B, i, hB, hi21, rfl⟩ := dec q (by omega) hq2
      rw [hi _ _ _ _ B i hB hi21] at hq
      rw [uB_at hi21, hi _ _ _ _ (π B) i (h11 B hB) hi21, ← aWk_mv, List.getElem?_map, hq]
      rfl
  · rw [hl] at g1 g2
    by_cases c1 : q < 21
    · rw [uB_lo c1] at e
      by_cases c2 : q1 < 21
      · rw [uB_lo c2] at e
        exact e
      · obtain ⟨B, i, hB, hi21, rfl⟩ := dec q1 (by omega) g2
        rw [uB_at hi21] at e
        omega
    · obtain ⟨B, i, hB, hi21, rfl⟩ := dec q (by omega) g1
      rw [uB_at hi21] at e
      by_cases c2 : q1 < 21
      · rw [uB_lo c2] at e
        omega
      · obtain ⟨C, j, hC, hj21, rfl⟩ := dec q1 (by omega) g2
        rw [uB_at hj21] at e
        have hh : π B = π C ∧ i = j := by omega
        rw [hinj B C hB hC hh.1, hh.2]
/-- the law's heap, its kiln's blocks changed about -/
def uL (π : Nat → Nat) (q : Nat) : Nat := if q < 20 then q else uW 20 (uB π (q - 12))
theorem uW20 (h : 8 ≤ q) : uW 20 q = q + 12 := by
  obtain ⟨i, rfl⟩ : ∃ i, q = 8 + i := ⟨q - 8, by omega⟩
  rw [uW_hi]
  omega
theorem uB_8 : q < 8 → uB π q = q := fun h => uB_lo (by omega)
theorem uB_ge (h : 8 ≤ q) : 8 ≤ uB π q := by
  by_cases c : q < 21
  · rw [uB_lo c]; exact h
  · unfold uB
    rw [if_neg c]
    omega
theorem uL_w : uL π (uW 20 q) = uW 20 (uB π q) := by
  by_cases h : q < 8
  · rw [uW_lo h, uB_8 h, uW_lo h]
    exact if_pos (by omega)
  · rw [uW20 (by omega)]
    unfold uL
    rw [if_neg (by omega), show q + 12 - 12 = q by omega]
theorem cc_cc {u v : Nat → Nat} {c : aC} : aCc u (aCc v c) = aCc (fun q => u (v q)) c := by
  obtain ⟨w, x⟩ := c
  cases x with
  | inl x =>
    obtain ⟨ty, n, y⟩ := x
    rcases y with f | f | f | f | f
    · rfl
    · rfl
    · rfl
    · rfl
    · show (w, Sum.inl (ty, n, Sum.inr (Sum.inr (Sum.inr (Sum.inr fun j => ((f j).map v).map u))))) = _
      have e : (fun j => ((f j).map v).map u) = fun j => (f j).map (fun q => u (v q)) := funext fun j => by cases f j <;> rfl
      rw [e]
      rfl
  | inr x =>
    obtain ⟨ci, fs⟩ := x
    show (w, Sum.inr (ci, (fs.map (aCv v)).map (aCv u))) = (w, Sum.inr (ci, fs.map (aCv fun q => u (v q))))
    rw [List.map_map]
    have e : aCv u ∘ aCv v = aCv fun q => u (v q) := funext fun y => by cases y <;> rfl
    rw [e]
set_option maxRecDepth 40000 in
theorem iso_l (h2 : π 2 = 2) (h11 : ∀ B, B < 11 → π B < 11) (hinj : ∀ B C, B < 11 → C < 11 → π B = π C → B = C) : aIso (uL π) (aLh sn sf lo dd m ((KB 21 42 aRg k (fun B => W (π B))).map (aCc (uW 20)))) (aLh sn sf lo dd m ((KB (21 + 21 * π 0) (21 + 21 * π 1) (rgB π) k W).map (aCc (uW 20)))) := by
  obtain ⟨I1, I2, I3⟩ := iso_b (sn := sn) (sf := sf) (k := k) (W := W) h2 h11 hinj
  have lo20 : ∀ (X : aH) (q : Nat), q < 20 → (aLh sn sf lo dd m X)[q]? = (aLh sn sf lo dd m [])[q]? := by
    intro X q hq
    have e : aLh sn sf lo dd m X = aLh sn sf lo dd m [] ++ X := rfl
    rw [e]
    exact List.getElem?_append_left (by show q < 20; omega)
  have hi20 : ∀ (X : aH) (i : Nat), (aLh sn sf lo dd m X)[20 + i]? = X[i]? := by
    intro X i
    have e : aLh sn sf lo dd m X = aLh sn sf lo dd m [] ++ X := rfl
    rw [e, List.getElem?_append_right (by show 20 ≤ _; omega)]
    show X[20 + i - 20]? = _
    rw [Nat.add_sub_cancel_left]
  have fix : (aLh sn sf lo dd m []).map (aCc (uL π)) = aLh sn sf lo dd m [] := rfl
  have hl : ∀ (pn pd : Nat) (rg : Nat → Option Nat) (W : Nat → aW), (KB pn pd rg k W).length = 244 := fun _ _ _ _ => rfl
  refine ⟨fun q c hq => ?_, fun q q1 g1 g2 e => ?_, fun q hq => if_pos (by omega)⟩
  · by_cases c20 : q < 20
    · rw [lo20 _ q c20] at hq
      rw [show uL π q = q from if_pos c20, lo20 _ q c20, ← fix, List.getElem?_map, hq]
      rfl
    · obtain ⟨i, rfl⟩ : ∃ i, q = 20 + i := ⟨q - 20, by omega⟩
      rw [hi20, List.getElem?_map] at hq
      obtain ⟨c0, hc0, rfl⟩ := Option.map_eq_some_iff.mp hq
      have e8 : (aS0 sn sf ++ KB 21 42 aRg k (fun B => W (π B)))[8 + i]? = some c0 := by
        rw [List.getElem?_append_right (by show 8 ≤ _; omega)]
        show (KB 21 42 aRg k (fun B => W (π B)))[8 + i - 8]? = _
        rw [Nat.add_sub_cancel_left]
        exact hc0
      have q1 := I1 _ _ e8
      have u8 := uB_ge (π := π) (q := 8 + i) (by omega)
      have eu : uL π (20 + i) = 20 + (uB π (8 + i) - 8) := by
        rw [show 20 + i = uW 20 (8 + i) from uW_hi.symm, uL_w, uW20 u8]
        omega
      rw [eu, hi20, List.getElem?_map]
      rw [List.getElem?_append_right (by show 8 ≤ _; exact u8)] at q1
      have q2 : (KB (21 + 21 * π 0) (21 + 21 * π 1) (rgB π) k W)[uB π (8 + i) - 8]? = some (aCc (uB π) c0) := q1
      rw [q2]
      show some (aCc (uW 20) (aCc (uB π) c0)) = some (aCc (uL π) (aCc (uW 20) c0))
      rw [cc_cc, cc_cc]
      congr 2
      exact funext fun q => uL_w.symm
  · have hl1 : ∀ (X : aH), (aLh sn sf lo dd m X).length = 20 + X.length := fun X => by
      have e : aLh sn sf lo dd m X = aLh sn sf lo dd m [] ++ X := rfl
      rw [e, List.length_append]
      rfl
    rw [hl1, List.length_map, hl] at g1 g2
    by_cases c1 : q < 20
    · rw [show uL π q = q from if_pos c1] at e
      by_cases c2 : q1 < 20
      · rw [show uL π q1 = q1 from if_pos c2] at e
        exact e
      · have u8 := uB_ge (π := π) (q := q1 - 12) (by omega)
        rw [show uL π q1 = uW 20 (uB π (q1 - 12)) from if_neg c2, uW20 u8] at e
        omega
    · have u8 := uB_ge (π := π) (q := q - 12) (by omega)
      rw [show uL π q = uW 20 (uB π (q - 12)) from if_neg c1, uW20 u8] at e
      by_cases c2 : q1 < 20
      · rw [show uL π q1 = q1 from if_pos c2] at e
        omega
      · have u81 := uB_ge (π := π) (q := q1 - 12) (by omega)
        rw [show uL π q1 = uW 20 (uB π (q1 - 12)) from if_neg c2, uW20 u81] at e
        have := I2 (q - 12) (q1 - 12) (by show _ < 252; omega) (by show _ < 252; omega) (by omega)
        omega
end LC
