/-! SUMS OF SUMS: the store, all in all -/
theorem aSm_add (f h : Nat → Int32) : ∀ (m i : Nat), aSm (fun j => f j + h j) m i = aSm f m i + aSm h m i
  | 0, _ => rfl
  | m + 1, i => by
    show f i + h i + aSm (fun j => f j + h j) m (i + 1) = f i + aSm f m (i + 1) + (h i + aSm h m (i + 1))
    rw [aSm_add f h m (i + 1)]
    ac_rfl
theorem aSm_z (m i : Nat) : aSm (fun _ => 0) m i = 0 := aSm_0 m i fun _ _ _ => rfl
theorem aSm_fub (F : Nat → Nat → Int32) (m : Nat) : ∀ n, aSm (fun q => aSm (fun j => F q j) n 0) m 0 = aSm (fun j => aSm (fun q => F q j) m 0) n 0
  | 0 => aSm_z m 0
  | n + 1 => by
    rw [aSm_cnt (fun j => aSm (fun q => F q j) m 0) n, ← aSm_fub F m n, ← aSm_add]
    refine aSm_congr m 0 fun q _ _ => ?_
    exact aSm_cnt (fun j => F q j) n
/-- what the store holds, kind by kind, glaze by glaze -/
def stQ (w : aW) (q : Nat) : Int32 := wInSt w (nw w) (Int32.ofNat (q / 5)) (Int32.ofNat (q % 5) - 1) 2 + wInSt w (nw w) (Int32.ofNat (q / 5)) (Int32.ofNat (q % 5) - 1) 1
def stF (w : aW) : Int32 := aFo (fun kd u => aFo (fun q u => u + (wInSt w (nw w) (Int32.ofNat kd) (Int32.ofNat q - 1) 2 + wInSt w (nw w) (Int32.ofNat kd) (Int32.ofNat q - 1) 1)) 5 0 u) 4 0 0
theorem stF_q (w : aW) : stF w = aSm (stQ w) 20 0 := by
  have e : ∀ (a : Int32) (c : Nat → Int32), aFo (fun q u => u + c q) 5 0 a = a + c 0 + c 1 + c 2 + c 3 + c 4 := fun a c => rfl
  unfold stF
  simp only [e]
  show _ = stQ w 0 + (stQ w 1 + (stQ w 2 + (stQ w 3 + (stQ w 4 + (stQ w 5 + (stQ w 6 + (stQ w 7 + (stQ w 8 + (stQ w 9 + (stQ w 10 + (stQ w 11 + (stQ w 12 + (stQ w 13 + (stQ w 14 + (stQ w 15 + (stQ w 16 + (stQ w 17 + (stQ w 18 + (stQ w 19 + 0)))))))))))))))))))
  show 0 + stQ w 0 + stQ w 1 + stQ w 2 + stQ w 3 + stQ w 4 + stQ w 5 + stQ w 6 + stQ w 7 + stQ w 8 + stQ w 9 + stQ w 10 + stQ w 11 + stQ w 12 + stQ w 13 + stQ w 14 + stQ w 15 + stQ w 16 + stQ w 17 + stQ w 18 + stQ w 19 = _
  rw [Int32.zero_add, Int32.add_zero]
  ac_rfl
theorem gl_lt {x : Int32} (h : x = -1 ∨ ∃ k, aIx x 4 = some k) : ∃ c, c < 5 ∧ x = Int32.ofNat c - 1 := by
  rcases h with rfl | ⟨k, hk⟩
  · exact ⟨0, by omega, by decide⟩
  · unfold aIx at hk
    split at hk
    · cases hk
    · rename_i hn
      have h0 : 0 ≤ x := Int32.not_lt.mp (fun q => hn (Or.inl q))
      have h4 : zn x < 4 := Nat.not_le.mp (fun q => hn (Or.inr q))
      refine ⟨zn x + 1, by omega, ?_⟩
      rw [Int32.ofNat_add, ← zn_nn h0]
      exact (Int32.add_sub_cancel x 1).symm
theorem kd_lt {x : Int32} (h : ∃ k, aIx x 4 = some k) : ∃ c, c < 4 ∧ x = Int32.ofNat c := by
  obtain ⟨k, hk⟩ := h
  unfold aIx at hk
  split at hk
  · cases hk
  · rename_i hn
    have h0 : 0 ≤ x := Int32.not_lt.mp (fun q => hn (Or.inl q))
    exact ⟨zn x, Nat.not_le.mp (fun q => hn (Or.inr q)), zn_nn h0⟩
/-- the store adds up -/
theorem stF_st {w : aW} {g o : Nat} (ok : wOk w (nw w) g o) : stF w = cSt w 3 (nw w) := by
  rw [stF_q]
  have e1 : aSm (stQ w) 20 0 = aSm (fun q => aSm (fun j => (if (w 1 j = 3 ∧ w 6 j = Int32.ofNat (q / 5) ∧ w 2 j = Int32.ofNat (q % 5) - 1) ∧ w 5 j = 2 then (1 : Int32) else 0) + (if (w 1 j = 3 ∧ w 6 j = Int32.ofNat (q / 5) ∧ w 2 j = Int32.ofNat (q % 5) - 1) ∧ w 5 j = 1 then (1 : Int32) else 0)) (nw w) 0) 20 0 :=
    aSm_congr 20 0 fun q _ _ => (aSm_add _ _ (nw w) 0).symm
  rw [e1, aSm_fub]
  refine aSm_congr (nw w) 0 fun j _ hj => ?_
  have hj : j < nw w := by omega
  obtain ⟨hk, hg, hs⟩ := ok.2.1 j hj
  obtain ⟨c, hc, ek⟩ := kd_lt hk
  obtain ⟨g1, hg1, eg⟩ := gl_lt hg
  by_cases h3 : w 1 j = 3
  · rw [if_pos (show w 1 j = Int32.ofNat 3 from h3)]
    have hgr : w 5 j = 1 ∨ w 5 j = 2 := by
      rcases hs with q | q | q | q | q | q
      · exact absurd (q.1.symm.trans h3) (by decide)
      · exact absurd (q.1.symm.trans h3) (by decide)
      · exact absurd (q.1.symm.trans h3) (by decide)
      · exact q.2.1
      · exact absurd (q.1.symm.trans h3) (by decide)
      · exact absurd (q.1.symm.trans h3) (by decide)
    have hone : ∀ q, q < 20 → ((if (w 1 j = 3 ∧ w 6 j = Int32.ofNat (q / 5) ∧ w 2 j = Int32.ofNat (q % 5) - 1) ∧ w 5 j = 2 then (1 : Int32) else 0) + (if (w 1 j = 3 ∧ w 6 j = Int32.ofNat (q / 5) ∧ w 2 j = Int32.ofNat (q % 5) - 1) ∧ w 5 j = 1 then (1 : Int32) else 0)) = if q = 5 * c + g1 then 1 else 0 := by
      intro q hq
      by_cases e : q = 5 * c + g1
      · have a1 : q / 5 = c := by omega
        have a2 : q % 5 = g1 := by omega
        rw [if_pos e, a1, a2]
        rcases hgr with z | z
        · rw [if_neg (fun p => absurd (z.symm.trans p.2) (by decide)), if_pos ⟨⟨h3, ek, eg⟩, z⟩]
          rfl
        · rw [if_pos ⟨⟨h3, ek, eg⟩, z⟩, if_neg (fun p => absurd (z.symm.trans p.2) (by decide))]
          rfl
      · have no : ¬ (w 6 j = Int32.ofNat (q / 5) ∧ w 2 j = Int32.ofNat (q % 5) - 1) := fun p => by
          have b1 : c = q / 5 := ofN_ne (by omega) (by omega) (ek.symm.trans p.1)
          have b2 : Int32.ofNat g1 - 1 = Int32.ofNat (q % 5) - 1 := eg.symm.trans p.2
          have b3 : g1 = q % 5 := ofN_ne (by omega) (by omega) (by
            have := congrArg (· + 1) b2
            simpa [Int32.sub_add_cancel] using this)
          omega
        rw [if_neg e, if_neg (fun p => no p.1.2), if_neg (fun p => no p.1.2)]
        rfl
    rw [aSm_congr 20 0 fun q _ hq => hone q (by omega)]
    rw [aSm_1 (f := fun q => if q = 5 * c + g1 then (1 : Int32) else 0) (h := fun _ => 0) (c := 1) 20 0 (5 * c + g1) (by omega) (by omega) (fun q hq _ => if_neg hq) (by rw [if_pos rfl]; rfl), aSm_z]
    rfl
  · rw [if_neg (show ¬ w 1 j = Int32.ofNat 3 from h3)]
    refine aSm_0 20 0 fun q _ _ => ?_
    rw [if_neg (fun p => h3 p.1.1), if_neg (fun p => h3 p.1.1)]
    rfl
theorem fd_a (x y : Int32) : x - y + 0 = x + 1 - (y + 1) := by
  rw [Int32.sub_eq_add_neg, Int32.sub_eq_add_neg, Int32.neg_add, Int32.add_zero, Int32.sub_eq_add_neg]
  have h : x + 1 + (-y + -1) = x + -y + (1 + -1) := by ac_rfl
  rw [h]
  show x + -y = x + -y + 0
  rw [Int32.add_zero]
theorem fd_b (x y : Int32) : x - y + 1 = x + 1 - (y + 0) := by
  rw [Int32.add_zero, Int32.sub_eq_add_neg, Int32.sub_eq_add_neg]
  ac_rfl
theorem fd_n (w : aW) : ∀ i, cFd w i = Int32.ofNat i - aSm (fun j => if w 5 j = 0 then 1 else 0) i 0
  | 0 => by
    show (0 : Int32) = Int32.ofNat 0 - 0
    decide
  | i + 1 => by
    have ih := fd_n w i
    unfold cFd at ih ⊢
    rw [aSm_cnt, aSm_cnt, ih, Int32.ofNat_add]
    by_cases h : w 5 i = 0
    · rw [if_pos h, if_pos h]
      exact fd_a _ _
    · rw [if_neg h, if_neg h]
      exact fd_b _ _
theorem fd_w {w : aW} {g o : Nat} (ok : wOk w (nw w) g o) : cFd w (nw w) = wFired w (nw w) := by
  rw [fd_n]
  unfold wFired
  rw [ok.1.1]
/-- how many: a number no greater than -/
theorem cnt_n (p : Nat → Prop) [dp : ∀ j, Decidable (p j)] : ∀ i, ∃ c, c ≤ i ∧ aSm (fun j => if p j then (1 : Int32) else 0) i 0 = Int32.ofNat c
  | 0 => ⟨0, by omega, rfl⟩
  | i + 1 => by
    obtain ⟨c, hc, e⟩ := cnt_n p i
    rw [aSm_cnt, e]
    by_cases h : p i
    · rw [if_pos h]
      exact ⟨c + 1, by omega, (Int32.ofNat_add c 1).symm⟩
    · rw [if_neg h]
      exact ⟨c, by omega, Int32.add_zero _⟩
theorem cFd_n (w : aW) (i : Nat) : ∃ c, c ≤ i ∧ cFd w i = Int32.ofNat c := by
  obtain ⟨c, hc, e⟩ := cnt_n (fun j => ¬ w 5 j = 0) i
  refine ⟨c, hc, ?_⟩
  rw [← e]
  refine aSm_congr i 0 fun j _ _ => ?_
  by_cases h : w 5 j = 0
  · rw [if_pos h, if_neg (fun q => q h)]
  · rw [if_neg h, if_pos h]
theorem acc_st (w : aW) (n g o : Nat) {i : Nat} (hi : i < 6) : wAcc w n g o (1 + Int32.ofNat i) = cSt w i n := by
  have r : ∀ i : Fin 6, 1 ≤ 1 + Int32.ofNat i.val ∧ 1 + Int32.ofNat i.val ≤ 6 := by decide
  have e : (1 + Int32.ofNat i) - 1 = Int32.ofNat i := by rw [Int32.add_comm, Int32.add_sub_cancel]
  unfold wAcc
  rw [if_pos (r ⟨i, hi⟩)]
  simp only [e]
  rfl
