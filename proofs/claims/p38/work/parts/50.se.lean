/-! SALES: one set after another -/
section SEL
variable {w v u : aW} {n g o i k m : Nat} {x : Int32}
theorem may_same (h : wSame v w) (hn : n ≤ 60) (hi : i < 6) : nMay v n i k = nMay w n i k := nSm_congr n 0 fun j _ hj => by
  have e : wSellB v i k j = wSellB w i k j := by
    unfold wSellB
    rw [h 1 j (rg1 (by omega) (by omega) (by omega)), h 6 j (rg1 (by omega) (by omega) (by omega)), h 2 j (rg1 (by omega) (by omega) (by omega)), h 10 i (rg10 hi).1, h 5 j (rg1 (by omega) (by omega) (by omega)), h 11 i (rg10 hi).2.1]
  rw [e]
theorem ask_same (h : wSame v w) (hi : i < 6) (hk : k < 4) : nAsk v i k = nAsk w i k := by
  unfold nAsk
  rw [h 13 _ (rg13 (by omega))]
theorem dv_same (h : wSame v w) (hn : n ≤ 60) (hi : i < 6) : ∀ K, K ≤ 4 → nDv v n i K = nDv w n i K
  | 0, _ => rfl
  | K + 1, hK => by
    unfold nDv
    rw [may_same h hn hi, ask_same h hi (by omega), dv_same h hn hi K (by omega)]
theorem dv_iff (ok : wOk w n g o) (hi : i < o) (c : Nat) : c ≤ nDv w n i 4 ↔ ∀ k, k < 4 → c * nAsk w i k ≤ nMay w n i k := by
  rw [nDv_iff c 4]
  refine ⟨fun ⟨_, h⟩ k hk => ?_, fun h => ⟨?_, fun k hk _ => h k hk⟩⟩
  · by_cases p : 0 < nAsk w i k
    · exact h k hk p
    · rw [show nAsk w i k = 0 by omega, Nat.mul_zero]
      exact Nat.zero_le _
  · obtain ⟨k, hk, p⟩ := ask_some ok.A hi
    have h1 := h k hk
    have h2 := nMay_le (w := w) (n := n) (i := i) (k := k)
    have h3 := Nat.mul_le_mul_left c p
    have := ok.1.2.1
    omega
theorem lack_dv (ok : wOk w n g o) (hi : i < o) : wLack w n i = -1 ↔ 1 ≤ nDv w n i 4 := by
  rw [lack_no ok.A hi, dv_iff ok hi]
  simp only [Nat.one_mul]
theorem dv_take (ok : wOk w n g o) (hi : i < o) (h : wLack w n i = -1) : nDv (wTake n i w) n i 4 + 1 = nDv w n i 4 := by
  have ok2 := ok_take ok hi h
  have h1 : nDv (wTake n i w) n i 4 + 1 ≤ nDv w n i 4 := (dv_iff ok hi _).mpr fun k hk => by
    have a := (dv_iff ok2 hi _).mp (Nat.le_refl _) k hk
    have b := (take_may ok.A hi h hk).1
    rw [take_ask] at a
    rw [Nat.succ_mul]
    omega
  have h2 : nDv w n i 4 - 1 ≤ nDv (wTake n i w) n i 4 := (dv_iff ok2 hi _).mpr fun k hk => by
    have a := (dv_iff ok hi _).mp (Nat.le_refl _) k hk
    have b := (take_may ok.A hi h hk).1
    rw [take_ask, Nat.sub_mul, Nat.one_mul]
    omega
  have h3 := (lack_dv ok hi).mp h
  omega
theorem all_dv (ok : wOk w n g o) (hi : i < o) : (wAllS n i 60 w).1 = nDv w n i 4 := by
  have h1 := (allS hi 60 w ok).2.1
  have h2 := nDv_le (w := w) (n := n) (i := i) 4
  exact ofN_ne (by omega) (by omega) ((dv_all ok hi).symm.trans (wDv_n ok.A hi 4 (Nat.le_refl _)))
def nS4 (w : aW) (n : Nat) : Nat := nSold w n 0 + (nSold w n 1 + (nSold w n 2 + nSold w n 3))
def nSz (w : aW) (i : Nat) : Nat := nAsk w i 0 + (nAsk w i 1 + (nAsk w i 2 + nAsk w i 3))
theorem sold_n (w : aW) (n k : Nat) : aSm (fun j => if w 1 j = 4 ∧ w 6 j = Int32.ofNat k then (1 : Int32) else 0) n 0 = Int32.ofNat (nSold w n k) := aSm_nat n 0 fun j _ _ => by
  by_cases q : w 1 j = 4 ∧ w 6 j = Int32.ofNat k
  · rw [if_pos q, if_pos q]; rfl
  · rw [if_neg q, if_neg q]; rfl
theorem st4 (ok : wOkA w n g o) : cSt w 4 n = Int32.ofNat (nS4 w n) := by
  unfold nS4
  rw [Int32.ofNat_add, Int32.ofNat_add, Int32.ofNat_add, ← sold_n, ← sold_n, ← sold_n, ← sold_n, ← aSm_add, ← aSm_add, ← aSm_add]
  exact aSm_congr n 0 fun j _ hj => sold_4 ok (by omega)
theorem acc_5 (ok : wOkA w n g o) (n1 n2 : Nat) : wAcc w n n1 n2 5 = Int32.ofNat (nS4 w n) := (acc_st w n n1 n2 (i := 4) (by omega)).trans (st4 ok)
theorem sz_4 (ok : wOkA w n g o) (hi : i < o) : aFo (fun q (u : Int32) => u + w 13 (i * 4 + q)) 4 0 0 = Int32.ofNat (nSz w i) := by
  have e := fun k (hk : k < 4) => (ask_n ok hi hk).1
  show 0 + w 13 (i * 4 + 0) + w 13 (i * 4 + 1) + w 13 (i * 4 + 2) + w 13 (i * 4 + 3) = _
  unfold nSz
  rw [e 0 (by omega), e 1 (by omega), e 2 (by omega), e 3 (by omega), Int32.ofNat_add, Int32.ofNat_add, Int32.ofNat_add, Int32.zero_add]
  ac_rfl
/-- v: w, m sets of order i sold -/
def SI (w v : aW) (n i m : Nat) : Prop := v 16 3 = w 16 3 ∧ v 16 4 = w 16 4 ∧ v 16 5 = w 16 5 ∧ nDv v n i 4 + m = nDv w n i 4 ∧ v 12 i = Int32.ofNat m ∧ ∀ k, k < 4 → nAsk v i k = nAsk w i k ∧ nSold v n k = nSold w n k + nAsk w i k * m
theorem SI_0 (h : w 12 i = 0) : SI w w n i 0 := ⟨rfl, rfl, rfl, rfl, h, fun k _ => ⟨rfl, rfl⟩⟩
theorem SI_n (S : SI w v n i m) : nS4 v n = nS4 w n + nSz w i * m := by
  have e := S.2.2.2.2.2
  unfold nS4 nSz
  rw [(e 0 (by omega)).2, (e 1 (by omega)).2, (e 2 (by omega)).2, (e 3 (by omega)).2, Nat.add_mul, Nat.add_mul, Nat.add_mul]
  omega
theorem sl_go (ok : wOk v n g o) (hi : i < o) (hs : wSame u v) (S : SI w v n i m) (h : m < nDv w n i 4) : wLack u n i = -1 ∧ SI w (wTake n i u) n i (m + 1) ∧ wTake n i u 12 i = Int32.ofNat (m + 1) := by
  have oku : wOk u n g o := wOk_same hs ok
  have hn := ok.1.2.1
  have ho := ok.1.2.2.2.2.2
  obtain ⟨s3, s4, s5, sd, s12, sk⟩ := S
  have hd := dv_same hs hn (show i < 6 by omega) 4 (Nat.le_refl _)
  have hl : wLack u n i = -1 := (lack_dv oku hi).mpr (by omega)
  have ht := dv_take oku hi hl
  have e12 : wTake n i u 12 i = Int32.ofNat (m + 1) := by
    rw [wTake_12, hs 12 i (rg10 (by omega)).2.2, s12]
    exact (Int32.ofNat_add m 1).symm
  refine ⟨hl, ⟨?_, ?_, ?_, by omega, e12, fun k hk => ⟨?_, ?_⟩⟩, e12⟩
  · rw [take_o (by omega) (by omega), hs 16 3 (rg16 (by omega)), s3]
  · rw [take_o (by omega) (by omega), hs 16 4 (rg16 (by omega)), s4]
  · rw [take_o (by omega) (by omega), hs 16 5 (rg16 (by omega)), s5]
  · rw [take_ask, ask_same hs (by omega) hk, (sk k hk).1]
  · rw [(take_may oku.A hi hl hk).2, nSold_same hs hn, (sk k hk).2, ask_same hs (by omega) hk, (sk k hk).1, Nat.mul_succ]
    omega
theorem sl_no (ok : wOk v n g o) (hi : i < o) (hs : wSame u v) (S : SI w v n i m) (h : m = nDv w n i 4) : ¬ wLack u n i = -1 := fun q => by
  have oku : wOk u n g o := wOk_same hs ok
  have hd := dv_same hs ok.1.2.1 (show i < 6 by have := ok.1.2.2.2.2.2; omega) 4 (Nat.le_refl _)
  have h1 := (lack_dv oku hi).mp q
  have h2 := S.2.2.2.1
  omega
theorem fs_go (hx : x = Int32.ofNat i) (hi : i < 6) (h : 0 ≤ x ∧ x < u 16 5) (hl : wLack u n i = -1) : fSell u n x = (wTake n i u 12 i, wTake n i u) := by
  unfold fSell
  rw [if_pos h, zn_of hx (by omega), if_neg (fun q => q hl)]
theorem fs_no (hx : x = Int32.ofNat i) (hi : i < 6) (h : 0 ≤ x ∧ x < u 16 5) (hl : ¬ wLack u n i = -1) : fSell u n x = (-3, wAhead1 (wNote u 12 (wLack u n i)) 10 x) := by
  unfold fSell
  rw [if_pos h, zn_of hx (by omega), if_pos hl]
end SEL
/-! BACK AGAIN: what m steps back find -/
def Bk (w : aW) : Nat → aW → List aW → Prop
  | 0, v, _ => v = w
  | m + 1, _, l => ∃ v0 l0, l = v0 :: l0 ∧ Bk w m v0 l0
theorem Bk_take {w : aW} : ∀ (m t : Nat) (v : aW) (l : List aW), m ≤ t → Bk w m v l → Bk w m v (l.take t)
  | 0, _, _, _, _, h => h
  | m + 1, t + 1, _, _, ht, h => by
    obtain ⟨v0, l0, rfl, h⟩ := h
    exact ⟨v0, l0.take t, rfl, Bk_take m t v0 l0 (by omega) h⟩
  | m + 1, 0, _, _, ht, _ => by omega
theorem Bk_s {w v f : aW} {l : List aW} {m : Nat} (hm : m ≤ 7) (h : Bk w m v l) : Bk w (m + 1) f ((v :: l).take 8) := ⟨v, l.take 7, rfl, Bk_take m 7 v l hm h⟩
theorem kB_a {a b p q : Nat} {k2 : aK} (h1 : kB a (p, q)) (h2 : kB b k2) : kB (a + b) (p + k2.1, q + k2.2) := by
  have e1 : p ≤ a := h1.1
  have e2 : q ≤ 6 * a := h1.2
  have e3 := h2.1
  have e4 := h2.2
  exact ⟨by show p + k2.1 ≤ a + b; omega, by show q + k2.2 ≤ 6 * (a + b); omega⟩
theorem kB_le {a b : Nat} {k : aK} (h : kB a k) (hab : a ≤ b) : kB b k := ⟨by have := h.1; omega, by have := h.2; omega⟩
theorem mG2 {H E : aH} {n0 : Nat} {ls : List (Option Value)} {st : List Value} (hl : H.length = 252) (hn : n0 ≤ 252 + E.length) (hs : mLs 252 ls st = true) : mG n0 ls st (H ++ E) := by
  have e : (H ++ E).length = 252 + E.length := by rw [List.length_append, hl]
  exact ⟨by omega, by omega, mLs_le (by omega) hs⟩
/-! the reasons asked for -/
section RFN
variable {sn : Nat} {sf : Nat → Int32} {w : aW} {l : List aW} {k : aW} {H E : aH} {d : Nat} {a : Int32}
theorem rf_00 (O : OK sn sf w l k H) (h : 0 < k 7 2) (e : k 0 0 = a) : mRun (d + 7) m_L_refusal [.ref 8, .int 0, .int 0] (H ++ E) = some (.inl (some (.int a)), H ++ E, (0, 0)) := by
  have q := V_refusal (E := E) (d := d) (x := 0) (y := 0) O ⟨by decide, by decide⟩ h
  rw [if_pos rfl, show zn 0 = 0 by decide, e] at q
  exact q
theorem rf_01 (O : OK sn sf w l k H) (h : 0 < k 7 2) (e : k 1 0 = a) : mRun (d + 7) m_L_refusal [.ref 8, .int 0, .int 1] (H ++ E) = some (.inl (some (.int a)), H ++ E, (0, 0)) := by
  have q := V_refusal (E := E) (d := d) (x := 0) (y := 1) O ⟨by decide, by decide⟩ h
  rw [if_neg (by decide), show zn 0 = 0 by decide, e] at q
  exact q
theorem rf_10 (O : OK sn sf w l k H) (h : 1 < k 7 2) (e : k 0 1 = a) : mRun (d + 7) m_L_refusal [.ref 8, .int 1, .int 0] (H ++ E) = some (.inl (some (.int a)), H ++ E, (0, 0)) := by
  have q := V_refusal (E := E) (d := d) (x := 1) (y := 0) O ⟨by decide, by decide⟩ h
  rw [if_pos rfl, show zn 1 = 1 by decide, e] at q
  exact q
theorem rf_11 (O : OK sn sf w l k H) (h : 1 < k 7 2) (e : k 1 1 = a) : mRun (d + 7) m_L_refusal [.ref 8, .int 1, .int 1] (H ++ E) = some (.inl (some (.int a)), H ++ E, (0, 0)) := by
  have q := V_refusal (E := E) (d := d) (x := 1) (y := 1) O ⟨by decide, by decide⟩ h
  rw [if_neg (by decide), show zn 1 = 1 by decide, e] at q
  exact q
theorem why_0 {wd k : aW} {i : Nat} (hi : i < 3) : cpWhy wd k 0 i = wd 14 i := cpy_at hi
theorem why_1 {wd k : aW} {i : Nat} (hi : i < 3) : cpWhy wd k 1 i = wd 15 i := cpy_at hi
theorem why_7 {wd k : aW} : cpWhy wd k 7 2 = wd 16 6 := rfl
end RFN
