/-! FACTS: a set sold; sets by two ways -/
section FE
variable {w v V W : aW} {n g o i j k q m : Nat} {x y z u s t : Int32}
theorem wFor_n (ok : wOkA w n g o) : wFor w n i (Int32.ofNat k) = Int32.ofNat (nMay w n i k) := by
  rw [wFor_eq ok]
  exact aSm_nat n 0 fun j _ _ => by split <;> rfl
theorem nMay_le : nMay w n i k ≤ n := by
  have := nSm_le (g := fun j => if wSellB w i k j = true then 1 else 0) (c := 1) (fun j => by split <;> omega) n 0
  unfold nMay
  omega
theorem ask_n (ok : wOkA w n g o) (hi : i < o) (hk : k < 4) : w 13 (i * 4 + k) = Int32.ofNat (nAsk w i k) ∧ nAsk w i k ≤ 6 := by
  obtain ⟨h0, h6⟩ := (ok.2.2.2 i hi).2.2.1 k hk
  exact ⟨zn_nn h0, zn_le (a := 6) h6 h0 (by omega)⟩
/-- is a set there -/
theorem lack_no (ok : wOkA w n g o) (hi : i < o) : wLack w n i = -1 ↔ ∀ k, k < 4 → nAsk w i k ≤ nMay w n i k := by
  have hn := ok.1.2.1
  have key : ∀ k, k < 4 → (wFor w n i (Int32.ofNat k) < w 13 (i * 4 + k) ↔ ¬ nAsk w i k ≤ nMay w n i k) := fun k hk => by
    have e := ask_n ok hi hk
    have hm := nMay_le (w := w) (n := n) (i := i) (k := k)
    rw [wFor_n ok, zI_lt rfl e.1 (by omega) (by omega)]
    omega
  rcases aFd_cases (fun k => decide (wFor w n i (Int32.ofNat k) < w 13 (i * 4 + k))) (fun k => Int32.ofNat k) (-1) 4 0 with ⟨e, h⟩ | ⟨j, h1, h2, h3, e, h4⟩
  · refine ⟨fun _ k hk => ?_, fun _ => e⟩
    have := of_decide_eq_false (h k (by omega) (by omega))
    exact Decidable.not_not.mp (fun q => this ((key k hk).mpr q))
  · refine ⟨fun q => ?_, fun q => ?_⟩
    · exact absurd (e.symm.trans q) (ofN_m1 (by omega))
    · exact absurd (q j (by omega)) ((key j (by omega)).mp (of_decide_eq_true h3))
theorem okA_sellI : ∀ (m i : Nat) (l : Int32) (W : aW), i + m ≤ n → wOkA W n g o → wOkA (wSellI j k m i l W) n g o
  | 0, _, _, _, _, ok => ok
  | m + 1, i, l, W, h, ok => by
    unfold wSellI
    by_cases c : 0 < l
    · rw [if_pos c]
      by_cases c1 : wSellB W j k i = true
      · rw [if_pos c1]
        exact okA_sellI m (i + 1) _ _ (by omega) (okW_sell ok (by omega) c1)
      · rw [if_neg c1]
        exact okA_sellI m (i + 1) _ _ (by omega) ok
    · rw [if_neg c]
      exact ok
theorem okA_sellK : ∀ (K : Nat), wOkA w n g o → wOkA (wSellK n i K w) n g o
  | 0, ok => ok
  | K + 1, ok => okA_sellI n 0 _ _ (by omega) (okA_sellK K ok)
theorem okA_take (ok : wOkA w n g o) : wOkA (wTake n i w) n g o := wOkA_take (okA_sellK 4 ok)
theorem take_o {a : Nat} (h1 : ¬ a = 1) (h2 : ¬ (a = 12 ∧ j = i)) : wTake n i w a j = w a j := by
  unfold wTake
  rw [upw_ne (by omega), wSellK_o a j h1]
theorem take_may (ok : wOkA w n g o) (hi : i < o) (h : wLack w n i = -1) (hk : k < 4) : nMay (wTake n i w) n i k + nAsk w i k = nMay w n i k ∧ nSold (wTake n i w) n k = nSold w n k + nAsk w i k := by
  have hA := (lack_no ok hi).mp h
  obtain ⟨h1, h2⟩ := sellK (w := w) (n := n) (o := i) (fun k hk => ⟨((ok.2.2.2 i hi).2.2.1 k hk).1, (ask_n ok hi hk).2, hA k hk⟩) 4 (by omega) k hk
  rw [if_pos hk] at h1 h2
  have e1 : nMay (wTake n i w) n i k = nMay (wSellK n i 4 w) n i k := nSm_congr n 0 fun j _ _ => by
    have : wSellB (wTake n i w) i k j = wSellB (wSellK n i 4 w) i k j := rfl
    rw [this]
  have e2 : nSold (wTake n i w) n k = nSold (wSellK n i 4 w) n k := nSm_congr n 0 fun j _ _ => rfl
  rw [e1, e2]
  exact ⟨h1, h2⟩
theorem take_ask : nAsk (wTake n i w) j k = nAsk w j k := by
  unfold nAsk
  rw [take_o (by omega) (by omega)]
theorem ok_take (ok : wOk w n g o) (hi : i < o) (h : wLack w n i = -1) : wOk (wTake n i w) n g o := by
  have hn := ok.1.2.1
  have e12 : w 12 i = Int32.ofNat (zn (w 12 i)) := zn_nn (ok.B.2.1 i hi)
  have hs := sold_le ok hi
  refine wOk.mk (okA_take ok.A) ⟨?_, fun j hj => ?_, fun k hk => ?_⟩ (okT_cg (fun _ _ => take_o (by omega) (by omega)) (take_o (by omega) (by omega)) ok.T)
  · rw [take_o (by omega) (by omega), take_o (by omega) (by omega), aSm_congr (f := fun j => fSz (wTake n i w 6 j)) (g := fun j => fSz (w 6 j)) n 0 fun j _ hj => by rw [take_o (by omega) (by omega)]]
    exact ok.B.1
  · by_cases c : j = i
    · subst c
      exact fa_sell ok hi
    · rw [take_o (by omega) (by omega)]
      exact ok.B.2.1 j hj
  · rw [(take_may ok.A hi h hk).2, ok.B.2.2 k hk]
    have e1 : wTake n i w 12 i = Int32.ofNat (zn (w 12 i) + 1) := wTake_12.trans (zI_s e12)
    have e2 : zn (wTake n i w 12 i) = zn (w 12 i) + 1 := zn_of e1 (by omega)
    have q := nSm_upd (g := fun j => zn (w 12 j) * zn (w 13 (j * 4 + k))) (g1 := fun j => zn (wTake n i w 12 j) * zn (wTake n i w 13 (j * 4 + k))) o 0 i (by omega) (by omega) (fun a ha => by rw [take_o (a := 12) (by omega) (by omega), take_o (a := 13) (by omega) (by omega)])
    rw [e2, take_o (a := 13) (by omega) (by omega), Nat.succ_mul] at q
    unfold nSoldOf nAsk
    omega
theorem pk_sell (ok : wOk w n g o) : PK (fSell w n x) := by
  by_cases c0 : 0 ≤ x ∧ x < w 16 5
  rotate_left
  · exact PK1 (if_neg c0)
  have hx := aIx_lt c0 ok.1.2.2.2.2.1 ok.1.2.2.2.2.2 (by omega)
  by_cases c1 : wLack w n (zn x) = -1
  rotate_left
  · have e : fSell w n x = (-3, wAhead1 (wNote w 12 (wLack w n (zn x))) 10 x) := (if_pos c0).trans (if_pos c1)
    rw [e]
    exact Or.inr (Or.inl ⟨rfl, Or.inr rfl⟩)
  exact PK0 ((if_pos c0).trans (if_neg (fun h => h c1))) (fa_sell ok hx.2.1) (ok_take ok hx.2.1 c1)
/-- a step done -/
theorem pk_do (L : Nat) (t : Nat → Int32) (p : Nat) (ok : okk w) : PK (cDo t L w p) := by
  unfold cDo
  by_cases c0 : t p = 116
  · rw [if_pos c0]
    exact pk_cast ok
  by_cases c1 : t p = 103
  · rw [if_neg c0, if_pos c1]
    exact pk_coat ok
  by_cases c2 : t p = 112
  · rw [if_neg c0, if_neg c1, if_pos c2]
    exact pk_put ok
  by_cases c3 : t p = 102
  · rw [if_neg c0, if_neg c1, if_neg c2, if_pos c3]
    exact pk_fire ok
  by_cases c4 : t p = 101
  · rw [if_neg c0, if_neg c1, if_neg c2, if_neg c3, if_pos c4]
    exact pk_empty ok
  · rw [if_neg c0, if_neg c1, if_neg c2, if_neg c3, if_neg c4]
    exact pk_sell ok
theorem cKeeps_ok : cKeeps := fun t L w p ok => by
  rcases pk_do L t p ok with (h | h) | ⟨h, r⟩ | ⟨h, n, g, o, k⟩
  · exact ⟨fun q => absurd q (by rw [h]; decide), fun q => absurd q (by rw [h]; decide)⟩
  · exact ⟨fun q => absurd q (by rw [h]; decide), fun q => absurd q (by rw [h]; decide)⟩
  · exact ⟨fun q => absurd q (by rw [h]; decide), fun _ => r⟩
  · exact ⟨fun _ => okk_of k, fun q => absurd h (by rw [q]; decide)⟩
theorem ok_dos (L : Nat) (t : Nat → Int32) : ∀ (ps : List Nat) (i : Nat) (w : aW), okk w → 0 ≤ (cDos t L ps i w).1 → okk (cDos t L ps i w).2
  | [], _, _, ok, _ => ok
  | p :: ps, i, w, ok, h => by
    by_cases c : (cDo t L w p).1 < 0
    · have e : cDos t L (p :: ps) i w = (-3, wFail (cDo t L w p) i) := if_pos c
      rw [e] at h
      exact absurd h (show ¬ (0 : Int32) ≤ -3 by decide)
    · have e : cDos t L (p :: ps) i w = cDos t L ps (i + 1) (cDo t L w p).2 := if_neg c
      rw [e] at h ⊢
      exact ok_dos L t ps (i + 1) _ ((cKeeps_ok t L w p ok).1 (Int32.not_lt.mp c)) h
/-- a text's reasons -/
theorem pk_read (L : Nat) (t : Nat → Int32) (ok : okk w) : (cRead t L w).1 = -3 ∨ (0 ≤ (cRead t L w).1 ∧ okk (cRead t L w).2) := by
  unfold cRead
  by_cases c : (cDos t L (pGo t L 20 0).1 0 w).1 < 0
  · rw [if_pos c]
    exact Or.inl rfl
  · rw [if_neg c]
    have := pGo_len t L 20 0
    exact Or.inr ⟨Int32.not_lt.mp (ofN_lt0 (by omega)), ok_dos L t _ 0 w ok (Int32.not_lt.mp c)⟩
/-- sets sold one after the other -/
theorem allS (hi : i < o) : ∀ (m : Nat) (w : aW), wOk w n g o → wOk (wAllS n i m w).2 n g o ∧ (wAllS n i m w).1 ≤ m ∧ (∀ k, k < 4 → nAsk (wAllS n i m w).2 i k = nAsk w i k ∧ nMay (wAllS n i m w).2 n i k + (wAllS n i m w).1 * nAsk w i k = nMay w n i k) ∧ ((wAllS n i m w).1 < m → ¬ wLack (wAllS n i m w).2 n i = -1)
  | 0, w, ok => ⟨ok, Nat.le_refl _, fun k _ => ⟨rfl, by show nMay w n i k + 0 * _ = _; omega⟩, fun h => absurd h (Nat.lt_irrefl 0)⟩
  | m + 1, w, ok => by
    by_cases c : wLack w n i = -1
    · have e : wAllS n i (m + 1) w = ((wAllS n i m (wTake n i w)).1 + 1, (wAllS n i m (wTake n i w)).2) := if_pos c
      obtain ⟨h1, h2, h3, h4⟩ := allS hi m (wTake n i w) (ok_take ok hi c)
      rw [e]
      refine ⟨h1, by omega, fun k hk => ?_, fun h => h4 (by omega)⟩
      obtain ⟨a1, a2⟩ := h3 k hk
      rw [take_ask] at a1 a2
      refine ⟨a1, ?_⟩
      have := (take_may ok.A hi c hk).1
      dsimp only
      rw [Nat.succ_mul]
      omega
    · have e : wAllS n i (m + 1) w = (0, w) := if_neg c
      rw [e]
      exact ⟨ok, Nat.zero_le _, fun k _ => ⟨rfl, by show nMay w n i k + 0 * _ = _; omega⟩, fun _ => c⟩
/-- an order asks for something -/
theorem ask_some (ok : wOkA w n g o) (hi : i < o) : ∃ k, k < 4 ∧ 1 ≤ nAsk w i k := by
  obtain ⟨k, hk, p⟩ := (ok.2.2.2 i hi).2.2.2
  exact ⟨k, hk, zn_pos p⟩
theorem allS_end (ok : wOk w n g o) (hi : i < o) : ¬ wLack (wAllS n i 60 w).2 n i = -1 := by
  obtain ⟨h1, h2, h3, h4⟩ := allS hi 60 w ok
  by_cases c : (wAllS n i 60 w).1 < 60
  · exact h4 c
  · intro h
    obtain ⟨k, hk, p⟩ := ask_some ok.A hi
    have q := (lack_no h1.A hi).mp h k hk
    obtain ⟨a1, a2⟩ := h3 k hk
    have hm := nMay_le (w := w) (n := n) (i := i) (k := k)
    have hn := ok.1.2.1
    have e : (wAllS n i 60 w).1 = 60 := by omega
    rw [e] at a2
    rw [a1] at q
    omega
def nDv (w : aW) (n i : Nat) : Nat → Nat
  | 0 => 60
  | k + 1 => if 0 < nAsk w i k then min (nMay w n i k / nAsk w i k) (nDv w n i k) else nDv w n i k
theorem div_dec : ∀ a : Fin 61, ∀ b : Fin 7, b.val = 0 ∨ Int32.ofNat a.val / Int32.ofNat b.val = Int32.ofNat (a.val / b.val) := by decide +kernel
theorem nDv_le : ∀ K, nDv w n i K ≤ 60
  | 0 => Nat.le_refl _
  | K + 1 => by
    have := nDv_le K
    unfold nDv
    split
    · exact Nat.le_trans (Nat.min_le_right _ _) this
    · exact this
theorem wDv_n (ok : wOkA w n g o) (hi : i < o) : ∀ K, K ≤ 4 → wDv w n i K = Int32.ofNat (nDv w n i K)
  | 0, _ => rfl
  | K + 1, h => by
    have ih := wDv_n ok hi K (by omega)
    have e := ask_n ok hi (show K < 4 by omega)
    have hm := nMay_le (w := w) (n := n) (i := i) (k := K)
    have hn := ok.1.2.1
    have hd := nDv_le (w := w) (n := n) (i := i) K
    unfold wDv nDv
    by_cases c : 0 < nAsk w i K
    · have c1 : 0 < w 13 (i * 4 + K) := by
        rw [e.1]
        exact (zI_lt (i := 0) (n := nAsk w i K) rfl rfl (by omega) (by omega)).mpr c
      have dv := (div_dec ⟨nMay w n i K, by omega⟩ ⟨nAsk w i K, by omega⟩).resolve_left (by dsimp only; omega)
      have hq : nMay w n i K / nAsk w i K ≤ 60 := Nat.le_trans (Nat.div_le_self _ _) (by omega)
      rw [if_pos c, if_pos c1, wFor_n ok, e.1, dv, ih]
      by_cases c2 : nMay w n i K / nAsk w i K < nDv w n i K
      · rw [if_pos ((zI_lt rfl rfl (by omega) (by omega)).mpr c2), Nat.min_eq_left (by omega)]
      · rw [if_neg (fun q => c2 ((zI_lt rfl rfl (by omega) (by omega)).mp q)), Nat.min_eq_right (by omega)]
    · have c1 : ¬ 0 < w 13 (i * 4 + K) := by
        rw [e.1]
        exact fun q => c ((zI_lt (i := 0) (n := nAsk w i K) rfl rfl (by omega) (by omega)).mp q)
      rw [if_neg c, if_neg c1, ih]
theorem nDv_iff (c : Nat) : ∀ K, c ≤ nDv w n i K ↔ (c ≤ 60 ∧ ∀ k, k < K → 0 < nAsk w i k → c * nAsk w i k ≤ nMay w n i k)
  | 0 => ⟨fun h => ⟨h, fun k hk => by omega⟩, fun h => h.1⟩
  | K + 1 => by
    have ih := nDv_iff c K
    unfold nDv
    by_cases p : 0 < nAsk w i K
    · rw [if_pos p, Nat.le_min, Nat.le_div_iff_mul_le p, ih]
      refine ⟨fun ⟨h1, h2, h3⟩ => ⟨h2, fun k hk q => ?_⟩, fun ⟨h1, h2⟩ => ⟨h2 K (by omega) p, h1, fun k hk q => h2 k (by omega) q⟩⟩
      by_cases e : k = K
      · rw [e]
        exact h1
      · exact h3 k (by omega) q
    · rw [if_neg p, ih]
      refine ⟨fun ⟨h2, h3⟩ => ⟨h2, fun k hk q => ?_⟩, fun ⟨h1, h2⟩ => ⟨h1, fun k hk q => h2 k (by omega) q⟩⟩
      by_cases e : k = K
      · rw [e] at q
        exact absurd q p
      · exact h3 k (by omega) q
/-- sets by two ways -/
theorem dv_all (ok : wOk w n g o) (hi : i < o) : wDv w n i 4 = Int32.ofNat (wAllS n i 60 w).1 := by
  obtain ⟨h1, h2, h3, h4⟩ := allS hi 60 w ok
  have he := allS_end ok hi
  rw [wDv_n ok.A hi 4 (Nat.le_refl _)]
  congr 1
  have le1 : (wAllS n i 60 w).1 ≤ nDv w n i 4 := (nDv_iff _ 4).mpr ⟨h2, fun k hk _ => by
    have := (h3 k hk).2
    omega⟩
  have le2 : ¬ (wAllS n i 60 w).1 + 1 ≤ nDv w n i 4 := fun q => by
    obtain ⟨-, q2⟩ := (nDv_iff _ 4).mp q
    refine he ((lack_no h1.A hi).mpr fun k hk => ?_)
    obtain ⟨a1, a2⟩ := h3 k hk
    rw [a1]
    by_cases p : 0 < nAsk w i k
    · have := q2 k hk p
      rw [Nat.succ_mul] at this
      omega
    · omega
  omega
end FE
