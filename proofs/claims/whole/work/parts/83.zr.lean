/-! FACTS: orders and sales -/
section FD
variable {w v V W : aW} {n g o i j k q m : Nat} {x y z u s t : Int32}
theorem ord_at {f : Nat} (hf : f < 4) : wOrd w o x y z u t s 13 (o * 4 + f) = (match f with | 0 => x | 1 => y | 2 => z | _ => u) := by
  unfold wOrd
  match f, hf with
  | 0, _ =>
    rw [upw_ne (by omega), upw_ne (by omega), upw_ne (by omega)]
    exact upw_eq
  | 1, _ =>
    rw [upw_ne (by omega), upw_ne (by omega)]
    exact upw_eq
  | 2, _ =>
    rw [upw_ne (by omega)]
    exact upw_eq
  | 3, _ => exact upw_eq
theorem ord_10 : wOrd w o x y z u t s 10 o = t := by
  unfold wOrd wAdd1
  rw [upw_ne (by omega), upw_ne (by omega), upw_ne (by omega), upw_ne (by omega), upw_ne (by omega), upw_ne (by omega), upw_ne (by omega), upw_eq]
theorem ord_11 : wOrd w o x y z u t s 11 o = s := by
  unfold wOrd wAdd1
  rw [upw_ne (by omega), upw_ne (by omega), upw_ne (by omega), upw_ne (by omega), upw_ne (by omega), upw_ne (by omega), upw_eq]
theorem ord_12 : wOrd w o x y z u t s 12 o = 0 := by
  unfold wOrd wAdd1
  rw [upw_ne (by omega), upw_ne (by omega), upw_ne (by omega), upw_ne (by omega), upw_ne (by omega), upw_eq]
theorem ord_pos (h0 : 0 ≤ x ∧ x ≤ 6) (h1 : 0 ≤ y ∧ y ≤ 6) (h2 : 0 ≤ z ∧ z ≤ 6) (h3 : 0 ≤ u ∧ u ≤ 6) (h : ¬ x + y + z + u = 0) : 0 < x ∨ 0 < y ∨ 0 < z ∨ 0 < u := by
  by_cases c0 : 0 < x
  · exact Or.inl c0
  by_cases c1 : 0 < y
  · exact Or.inr (Or.inl c1)
  by_cases c2 : 0 < z
  · exact Or.inr (Or.inr (Or.inl c2))
  by_cases c3 : 0 < u
  · exact Or.inr (Or.inr (Or.inr c3))
  refine absurd ?_ h
  rw [Int32.le_antisymm (Int32.not_lt.mp c0) h0.1, Int32.le_antisymm (Int32.not_lt.mp c1) h1.1, Int32.le_antisymm (Int32.not_lt.mp c2) h2.1, Int32.le_antisymm (Int32.not_lt.mp c3) h3.1]
  rfl
theorem pk_ord (ok : wOk w n g o) : PK (fOrd w o x y z u t s) := by
  by_cases c0 : (0 ≤ x ∧ x ≤ 6) ∧ (0 ≤ y ∧ y ≤ 6) ∧ (0 ≤ z ∧ z ≤ 6) ∧ (0 ≤ u ∧ u ≤ 6) ∧ (0 ≤ t ∧ t ≤ 3) ∧ ¬ x + y + z + u = 0
  rotate_left
  · exact PK2 (if_neg c0)
  by_cases c1 : w 16 5 < 6
  rotate_left
  · exact PK3 ((if_pos c0).trans (if_neg c1))
  obtain ⟨h0, h1, h2, h3, h4, h5⟩ := id c0
  have ho : o < 6 := (zI_lt (i := o) (n := 6) ok.1.2.2.2.2.1 rfl (by have := ok.1.2.2.2.2.2; omega) (by omega)).mp c1
  have hb : (if s = 0 then (0 : Int32) else 1) = 0 ∨ (if s = 0 then (0 : Int32) else 1) = 1 := by split <;> simp
  generalize hs : (if s = 0 then (0 : Int32) else 1) = b at *
  have e : fOrd w o x y z u t s = (w 16 5, wOrd w o x y z u t b) := by
    unfold fOrd
    rw [if_pos c0, if_pos c1, hs]
  refine PK0 e (by rw [ok.1.2.2.2.2.1]; exact Int32.not_lt.mp (ofN_lt0 (by omega))) (wOk.mk (n := n) (g := g) (o := o + 1) ⟨okN_ord ok.1 ho, fun j hj => ?_, ?_, fun i hi => ?_⟩ ⟨?_, fun i hi => ?_, fun k hk => ?_⟩ (okT_cg (fun i _ => wOrd_out (by omega)) (wOrd_out (by omega)) ok.T))
  · have q := ok.2.1 j hj
    unfold okW at q ⊢
    rw [wOrd_out (by omega), wOrd_out (by omega), wOrd_out (by omega), wOrd_out (by omega), wOrd_out (by omega)]
    exact q
  · exact okS_eq (v := wOrd w o x y z u t b) (w := w) (funext fun j => wOrd_out (by omega)) (funext fun j => wOrd_out (by omega)) ok.2.2.1
  · by_cases ei : i = o
    · subst ei
      refine ⟨?_, ?_, fun k hk => ?_, ?_⟩
      · rw [ord_11]
        exact hb
      · rw [ord_10]
        exact ⟨_, aIx_le (m := 3) h4.1 h4.2 (by omega)⟩
      · rw [ord_at hk]
        match k, hk with
        | 0, _ => exact h0
        | 1, _ => exact h1
        | 2, _ => exact h2
        | 3, _ => exact h3
      · rcases ord_pos h0 h1 h2 h3 h5 with p | p | p | p
        · exact ⟨0, by omega, by rw [ord_at (f := 0) (by omega)]; exact p⟩
        · exact ⟨1, by omega, by rw [ord_at (f := 1) (by omega)]; exact p⟩
        · exact ⟨2, by omega, by rw [ord_at (f := 2) (by omega)]; exact p⟩
        · exact ⟨3, by omega, by rw [ord_at (f := 3) (by omega)]; exact p⟩
    · have q := ok.2.2.2.1 i (by omega)
      unfold okO at q ⊢
      rw [wOrd_old ei (by omega), wOrd_old ei (by omega)]
      refine ⟨q.1, q.2.1, fun k hk => ?_, ?_⟩
      · rw [wOrd_old13 (by omega)]
        exact q.2.2.1 k hk
      · obtain ⟨k, hk, p⟩ := q.2.2.2
        exact ⟨k, hk, by rw [wOrd_old13 (by omega)]; exact p⟩
  · rw [wOrd_out (by omega), wOrd_out (by omega), aSm_congr (f := fun j => fSz (wOrd w o x y z u t b 6 j)) (g := fun j => fSz (w 6 j)) n 0 fun j _ hj => by rw [wOrd_out (by omega)]]
    exact ok.B.1
  · by_cases ei : i = o
    · subst ei
      rw [ord_12]
      decide
    · rw [wOrd_old ei (by omega)]
      exact ok.B.2.1 i (by omega)
  · have e1 : nSold (wOrd w o x y z u t b) n k = nSold w n k := nSm_congr n 0 fun j _ hj => by rw [wOrd_out (a := 1) (by omega), wOrd_out (a := 6) (by omega)]
    have e2 : nSoldOf (wOrd w o x y z u t b) (o + 1) k = nSoldOf w o k := by
      unfold nSoldOf
      rw [nSm_snoc, nSm_congr (f := fun i => zn (wOrd w o x y z u t b 12 i) * zn (wOrd w o x y z u t b 13 (i * 4 + k))) (g := fun i => zn (w 12 i) * zn (w 13 (i * 4 + k))) o 0 fun j _ hj => by rw [wOrd_old (a := 12) (by omega) (by omega), wOrd_old13 (by omega)]]
      rw [Nat.zero_add, ord_12, show zn 0 = 0 from rfl, Nat.zero_mul]
      rfl
    rw [e1, e2, ok.B.2.2 k hk]
/-! how many may be sold -/
def nMay (w : aW) (n o k : Nat) : Nat := nSm (fun j => if wSellB w o k j = true then 1 else 0) n 0
def nSo (w : aW) (k : Nat) (j : Nat) : Nat := if w 1 j = 4 ∧ w 6 j = Int32.ofNat k then 1 else 0
theorem sB_cg (h : ∀ a, ¬ a = 1 → ∀ j, V a j = W a j) (h1 : V 1 j = W 1 j) : wSellB V o k j = wSellB W o k j := by
  unfold wSellB
  rw [h1, h 6 (by omega), h 2 (by omega), h 10 (by omega), h 5 (by omega), h 11 (by omega)]
theorem sB_no (h1 : ¬ V 1 j = 3) : wSellB V o k j = false := decide_eq_false (fun q => h1 q.1.1)
theorem so_cg (h : ∀ a, ¬ a = 1 → ∀ j, V a j = W a j) (h1 : V 1 j = W 1 j) : nSo V k j = nSo W k j := by
  unfold nSo
  rw [h1, h 6 (by omega)]
theorem sellI (o k : Nat) : ∀ (m i q : Nat) (W : aW), q ≤ nSm (fun j => if wSellB W o k j = true then 1 else 0) m i → q < 1000 →
    (∀ j, wSellI o k m i (Int32.ofNat q) W 1 j = W 1 j ∨ (wSellI o k m i (Int32.ofNat q) W 1 j = 4 ∧ wSellB W o k j = true ∧ i ≤ j)) ∧
    nSm (fun j => if wSellB (wSellI o k m i (Int32.ofNat q) W) o k j = true then 1 else 0) m i + q = nSm (fun j => if wSellB W o k j = true then 1 else 0) m i ∧
    nSm (nSo (wSellI o k m i (Int32.ofNat q) W) k) m i = nSm (nSo W k) m i + q
  | 0, i, q, W, h, hq => by
    have : q = 0 := Nat.le_zero.mp h
    subst this
    exact ⟨fun j => Or.inl rfl, rfl, rfl⟩
  | m + 1, i, 0, W, h, hq => by
    have e : wSellI o k (m + 1) i (Int32.ofNat 0) W = W := if_neg (by decide)
    rw [e]
    exact ⟨fun j => Or.inl rfl, rfl, rfl⟩
  | m + 1, i, q + 1, W, h, hq => by
    have hl : (0 : Int32) < Int32.ofNat (q + 1) := (zI_lt (i := 0) (n := q + 1) rfl rfl (by omega) (by omega)).mpr (by omega)
    by_cases c : wSellB W o k i = true
    · have e : wSellI o k (m + 1) i (Int32.ofNat (q + 1)) W = wSellI o k m (i + 1) (Int32.ofNat q) (upw W 1 i 4) := by
        refine (if_pos hl).trans ((if_pos c).trans ?_)
        rw [sub1]
      have hW : ∀ a, ¬ a = 1 → ∀ j, upw W 1 i 4 a j = W a j := fun a ha j => upw_ne (fun k => ha k.1)
      have eB : ∀ j, ¬ j = i → wSellB (upw W 1 i 4) o k j = wSellB W o k j := fun j hj => sB_cg hW (upw_ne (fun k => hj k.2))
      have eS : nSm (fun j => if wSellB (upw W 1 i 4) o k j = true then 1 else 0) m (i + 1) = nSm (fun j => if wSellB W o k j = true then 1 else 0) m (i + 1) := nSm_congr m (i + 1) fun j h1 _ => by rw [eB j (by omega)]
      have eO : nSm (nSo (upw W 1 i 4) k) m (i + 1) = nSm (nSo W k) m (i + 1) := nSm_congr m (i + 1) fun j h1 _ => so_cg hW (upw_ne (by omega))
      have h' : (if wSellB W o k i = true then 1 else 0) + nSm (fun j => if wSellB W o k j = true then 1 else 0) m (i + 1) ≥ q + 1 := h
      rw [if_pos c] at h'
      obtain ⟨g1, g2, g3⟩ := sellI o k m (i + 1) q (upw W 1 i 4) (by rw [eS]; omega) (by omega)
      rw [e]
      generalize hV : wSellI o k m (i + 1) (Int32.ofNat q) (upw W 1 i 4) = V at *
      have hVo : ∀ a, ¬ a = 1 → ∀ j, V a j = W a j := fun a ha j => by rw [← hV]; exact (wSellI_o a j ha k m (i + 1) _ _).trans (hW a ha j)
      have e4 : V 1 i = 4 := by
        rcases g1 i with q1 | q1
        · exact q1.trans upw_eq
        · omega
      have c3 : W 1 i = 3 := (of_decide_eq_true c).1.1
      have c6 : W 6 i = Int32.ofNat k := (of_decide_eq_true c).1.2.1
      refine ⟨fun j => ?_, ?_, ?_⟩
      · by_cases ej : j = i
        · subst ej
          exact Or.inr ⟨e4, c, Nat.le_refl _⟩
        · rcases g1 j with q1 | ⟨q1, q2, q3⟩
          · exact Or.inl (q1.trans (upw_ne (fun k => ej k.2)))
          · exact Or.inr ⟨q1, (eB j ej).symm.trans q2, by omega⟩
      · show (if wSellB V o k i = true then 1 else 0) + nSm (fun j => if wSellB V o k j = true then 1 else 0) m (i + 1) + (q + 1) = (if wSellB W o k i = true then 1 else 0) + nSm (fun j => if wSellB W o k j = true then 1 else 0) m (i + 1)
        rw [if_pos c, sB_no (V := V) (by rw [e4]; decide), if_neg (by decide), ← eS]
        omega
      · show nSo V k i + nSm (nSo V k) m (i + 1) = nSo W k i + nSm (nSo W k) m (i + 1) + (q + 1)
        have s1 : nSo V k i = 1 := if_pos ⟨e4, (hVo 6 (by omega) i).trans c6⟩
        have s0 : nSo W k i = 0 := if_neg (fun r => absurd (c3.symm.trans r.1) (by decide))
        rw [s1, s0, g3, eO]
        omega
    · have e : wSellI o k (m + 1) i (Int32.ofNat (q + 1)) W = wSellI o k m (i + 1) (Int32.ofNat (q + 1)) W := (if_pos hl).trans (if_neg c)
      have h' : (if wSellB W o k i = true then 1 else 0) + nSm (fun j => if wSellB W o k j = true then 1 else 0) m (i + 1) ≥ q + 1 := h
      rw [if_neg c] at h'
      obtain ⟨g1, g2, g3⟩ := sellI o k m (i + 1) (q + 1) W (by omega) hq
      rw [e]
      generalize hV : wSellI o k m (i + 1) (Int32.ofNat (q + 1)) W = V at *
      have hVo : ∀ a, ¬ a = 1 → ∀ j, V a j = W a j := fun a ha j => by rw [← hV]; exact wSellI_o a j ha k m (i + 1) _ _
      have e1 : V 1 i = W 1 i := by
        rcases g1 i with q1 | q1
        · exact q1
        · omega
      refine ⟨fun j => ?_, ?_, ?_⟩
      · rcases g1 j with q1 | ⟨q1, q2, q3⟩
        · exact Or.inl q1
        · exact Or.inr ⟨q1, q2, by omega⟩
      · show (if wSellB V o k i = true then 1 else 0) + nSm (fun j => if wSellB V o k j = true then 1 else 0) m (i + 1) + (q + 1) = (if wSellB W o k i = true then 1 else 0) + nSm (fun j => if wSellB W o k j = true then 1 else 0) m (i + 1)
        rw [sB_cg hVo e1, if_neg c]
        omega
      · show nSo V k i + nSm (nSo V k) m (i + 1) = nSo W k i + nSm (nSo W k) m (i + 1) + (q + 1)
        rw [so_cg hVo e1, g3]
        omega
/-- so many of each kind -/
def nAsk (w : aW) (o k : Nat) : Nat := zn (w 13 (o * 4 + k))
theorem sellK (hA : ∀ k, k < 4 → 0 ≤ w 13 (o * 4 + k) ∧ nAsk w o k ≤ 6 ∧ nAsk w o k ≤ nMay w n o k) : ∀ K, K ≤ 4 → ∀ k, k < 4 → nMay (wSellK n o K w) n o k + (if k < K then nAsk w o k else 0) = nMay w n o k ∧ nSold (wSellK n o K w) n k = nSold w n k + (if k < K then nAsk w o k else 0)
  | 0, _, k, _ => by
    rw [if_neg (by omega)]
    exact ⟨rfl, rfl⟩
  | K + 1, hK, k, hk => by
    have ih := sellK hA K (by omega)
    have eA : wSellK n o K w 13 (o * 4 + K) = Int32.ofNat (nAsk w o K) := (wSellK_o 13 _ (by omega) K w).trans (zn_nn (hA K (by omega)).1)
    have e : wSellK n o (K + 1) w = wSellI o K n 0 (Int32.ofNat (nAsk w o K)) (wSellK n o K w) := by
      rw [← eA]
      rfl
    have hle : nAsk w o K ≤ nMay (wSellK n o K w) n o K := by
      have h1 := (ih K (by omega)).1
      rw [if_neg (Nat.lt_irrefl K)] at h1
      have := (hA K (by omega)).2.2
      omega
    obtain ⟨g1, g2, g3⟩ := sellI o K n 0 (nAsk w o K) (wSellK n o K w) hle (by have := (hA K (by omega)).2.1; omega)
    rw [← e] at g1 g2 g3
    have hVo : ∀ a, ¬ a = 1 → ∀ j, wSellK n o (K + 1) w a j = wSellK n o K w a j := fun a ha j => by rw [e]; exact wSellI_o a j ha K n 0 _ _
    obtain ⟨i1, i2⟩ := ih k hk
    by_cases c : k = K
    · subst c
      rw [if_neg (Nat.lt_irrefl k)] at i1 i2
      rw [if_pos (Nat.lt_succ_self k)]
      refine ⟨g2.trans i1, ?_⟩
      have i2' : nSm (nSo (wSellK n o k w) k) n 0 = nSm (nSo w k) n 0 + 0 := i2
      show nSm (nSo (wSellK n o (k + 1) w) k) n 0 = nSm (nSo w k) n 0 + nAsk w o k
      rw [g3, i2']
      omega
    · have e1 : nMay (wSellK n o (K + 1) w) n o k = nMay (wSellK n o K w) n o k := nSm_congr n 0 fun j _ _ => by
        rcases g1 j with q | ⟨q1, q2, -⟩
        · rw [sB_cg hVo q]
        · rw [sB_no (V := wSellK n o (K + 1) w) (by rw [q1]; decide)]
          have h6 : wSellK n o K w 6 j = Int32.ofNat K := (of_decide_eq_true q2).1.2.1
          have hf : wSellB (wSellK n o K w) o k j = false := decide_eq_false (fun r => c (ofN_ne (by omega) (by omega) (r.1.2.1.symm.trans h6)))
          rw [hf]
      have e2 : nSold (wSellK n o (K + 1) w) n k = nSold (wSellK n o K w) n k := nSm_congr n 0 fun j _ _ => by
        rcases g1 j with q | ⟨q1, q2, -⟩
        · exact so_cg hVo q
        · have h6 : wSellK n o K w 6 j = Int32.ofNat K := (of_decide_eq_true q2).1.2.1
          have h3 : wSellK n o K w 1 j = 3 := (of_decide_eq_true q2).1.1
          rw [if_neg (fun r => c (ofN_ne (i := k) (j := K) (by omega) (by omega) (r.2.symm.trans ((hVo 6 (by omega) j).trans h6)))), if_neg (fun r => absurd (h3.symm.trans r.1) (by decide))]
      rw [e1, e2]
      by_cases c2 : k < K
      · rw [if_pos (by omega : k < K + 1)]
        rw [if_pos c2] at i1 i2
        exact ⟨i1, i2⟩
      · rw [if_neg (by omega : ¬ k < K + 1)]
        rw [if_neg c2] at i1 i2
        exact ⟨i1, i2⟩
end FD
