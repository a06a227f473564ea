section LDM
variable {w v u : aW} {n g o i j k b L m : Nat} {x y z : Int32}
theorem Lx_put (ok : wOk w (nw w) (gw w) (ow w)) (hi : i < nw w) (h1 : w 1 i = 0) (hj : j < gw w) (hf : nHd w (nw w) j + zn (fSz (w 6 i)) ≤ 6) (ho : wOver w (nw w) (gw w) (w 8 j) (w 9 j) (fSz (w 6 i)) = -1) (hL : Lx w) : Lx (upw (upw w 1 i 1) 4 i (Int32.ofNat j)) := by
  have hn := ok.1.2.1
  have hg := ok.1.2.2.2.1
  have h4 : w 4 i = -1 := by
    rcases (ok.2.1 i hi).2.2 with ⟨-, -, e⟩ | ⟨q, -⟩ | ⟨q, -⟩ | ⟨q, -⟩ | ⟨q, -⟩ | ⟨q, -⟩
    · exact e
    · exact absurd (h1.symm.trans q) (by decide)
    · exact absurd (h1.symm.trans q) (by decide)
    · exact absurd (h1.symm.trans q) (by decide)
    · exact absurd (h1.symm.trans q) (by decide)
    · exact absurd (h1.symm.trans q) (by decide)
  have e4 : ∀ a, upw (upw w 1 i 1) 4 i (Int32.ofNat j) 4 a = if a = i then Int32.ofNat j else w 4 a := fun a => by
    by_cases c : a = i
    · rw [if_pos c, c]
      exact upw_eq
    · rw [if_neg c]
      exact (upw_ne (by omega)).trans (upw_ne (by omega))
  have e6 : ∀ a, upw (upw w 1 i 1) 4 i (Int32.ofNat j) 6 a = w 6 a := fun a => rfl
  have up := fun q => nSm_upd (g := fun a => if w 4 a = Int32.ofNat q then zn (fSz (w 6 a)) else 0) (g1 := fun a => if upw (upw w 1 i 1) 4 i (Int32.ofNat j) 4 a = Int32.ofNat q then zn (fSz (w 6 a)) else 0) (nw w) 0 i (by omega) (by omega) (fun a ha => by
    show (if _ then _ else _) = (if _ then _ else _)
    rw [e4 a, if_neg ha])
  have hq : ∀ q, q < 100000 → nHd (upw (upw w 1 i 1) 4 i (Int32.ofNat j)) (nw w) q = nHd w (nw w) q + (if q = j then zn (fSz (w 6 i)) else 0) := fun q hq => by
    have h := up q
    rw [h4, if_neg (fun z => ofN_m1 hq z.symm), e4 i, if_pos rfl] at h
    show nSm _ _ 0 = nSm _ _ 0 + _
    by_cases c : q = j
    · rw [if_pos (by rw [c])] at h
      rw [if_pos c]
      exact h
    · rw [if_neg (fun z => c (ofN_ne (by omega) hq z).symm)] at h
      rw [if_neg c]
      exact h
  have eI : nHd (upw (upw w 1 i 1) 4 i (Int32.ofNat j)) (nw w) j = nHd w (nw w) j + zn (fSz (w 6 i)) := by
    rw [hq j (by omega), if_pos rfl]
  intro a ha
  have ha : a < gw w := ha
  obtain ⟨a1, a2⟩ := hL a ha
  refine ⟨?_, fun b L hb hLL p => ?_⟩
  · show nHd _ (nw w) a ≤ 6
    rw [hq a (by omega)]
    by_cases c : a = j
    · rw [if_pos c, c]
      exact hf
    · rw [if_neg c]
      exact a1
  · have p : okP w a b L := p
    have hw := a2 b L hb hLL p
    show Int32.ofNat (nAb _ (nw w) (gw w) b L) ≤ w 0 2
    have e9 : ∀ q, q < gw w → ¬ q = j → nHd (upw (upw w 1 i 1) 4 i (Int32.ofNat j)) (nw w) q = nHd w (nw w) q := fun q hqg hqj => by
      rw [hq q (by omega), if_neg hqj]
      rfl
    have hA := nAb_put (v := upw (upw w 1 i 1) 4 i (Int32.ofNat j)) (w := w) (n := nw w) (g := gw w) (b := b) (L := L) hj (fun q _ => ⟨rfl, rfl⟩) e9 eI
    rw [hA]
    by_cases c : w 8 j = Int32.ofNat b ∧ ¬ w 9 j ≤ Int32.ofNat L
    · rw [if_pos c]
      obtain ⟨b1, L1, hb1, hL1, pj⟩ := okS_in ok.2.2.1 hj (by rw [c.1]; exact b_ne hb)
      have eb : b1 = b := ofN_ne (by omega) (by omega) (pj.1.symm.trans c.1)
      subst eb
      have hlt : L < L1 := by
        have := c.2
        rw [pj.2, zI_le rfl rfl (by omega) (by omega)] at this
        omega
      rw [pj.1, pj.2, (fz_n (w 6 i)).1] at ho
      exact over_no ok.2.2.1 hg hb hL1 (by have := (fz_n (w 6 i)).2; omega) hn ho a L ha hlt p
    · rw [if_neg c, Nat.add_zero]
      exact hw
/-- stood in the kiln -/
theorem Lx_stand (ok : wOk w (nw w) (gw w) (ow w)) (hi : i < gw w) (h8 : w 8 i = -1) {b0 L0 : Nat} (hb0 : b0 < 4) (hL0 : L0 < 8) (free : ∀ j, j < gw w → ¬ okP w j b0 L0) (ho : wOver w (nw w) (gw w) (Int32.ofNat b0) (Int32.ofNat L0) (3 + wHeld w (nw w) (Int32.ofNat i)) = -1) (hL : Lx w) : Lx (wSt w i (Int32.ofNat b0) (Int32.ofNat L0)) := by
  have hn := ok.1.2.1
  have hg := ok.1.2.2.2.1
  have okS := ok.2.2.1
  have e8 : ∀ a, wSt w i (Int32.ofNat b0) (Int32.ofNat L0) 8 a = if a = i then Int32.ofNat b0 else w 8 a := fun a => by
    by_cases c : a = i
    · rw [if_pos c, c]
      exact (upw_ne (by omega)).trans upw_eq
    · rw [if_neg c]
      exact (upw_ne (by omega)).trans (upw_ne (by omega))
  have e9 : ∀ a, wSt w i (Int32.ofNat b0) (Int32.ofNat L0) 9 a = if a = i then Int32.ofNat L0 else w 9 a := fun a => by
    by_cases c : a = i
    · rw [if_pos c, c]
      exact upw_eq
    · rw [if_neg c]
      exact (upw_ne (by omega)).trans (upw_ne (by omega))
  have eH : ∀ q, nHd (wSt w i (Int32.ofNat b0) (Int32.ofNat L0)) (nw w) q = nHd w (nw w) q := fun q => rfl
  have eA : ∀ b L, b < 4 → nAb (wSt w i (Int32.ofNat b0) (Int32.ofNat L0)) (nw w) (gw w) b L = nAb w (nw w) (gw w) b L + (if Int32.ofNat b0 = Int32.ofNat b ∧ ¬ Int32.ofNat L0 ≤ Int32.ofNat L then 3 + nHd w (nw w) i else 0) := fun b L hb => by
    have h := nSm_updB (f := fun j => if wSt w i (Int32.ofNat b0) (Int32.ofNat L0) 8 j = Int32.ofNat b ∧ ¬ wSt w i (Int32.ofNat b0) (Int32.ofNat L0) 9 j ≤ Int32.ofNat L then 3 + nHd w (nw w) j else 0) (h := fun j => if w 8 j = Int32.ofNat b ∧ ¬ w 9 j ≤ Int32.ofNat L then 3 + nHd w (nw w) j else 0) hi (fun j hj hne => by
      show (if _ then _ else _) = (if _ then _ else _)
      rw [e8 j, e9 j, if_neg hne, if_neg hne])
    rw [h8, if_neg (fun z => b_ne hb z.1.symm), e8 i, e9 i, if_pos rfl, if_pos rfl] at h
    exact h
  have up0 : ∀ j, j < gw w → ¬ okP w j b0 (L0 + 1) := fun j hj p => by
    by_cases c : L0 + 1 < 8
    · obtain ⟨q, hq, pq⟩ := okS_under okS hj hb0 (by omega) p
      exact free q hq pq
    · obtain ⟨b1, L1, hb1, hL1, pj⟩ := okS_in okS hj (okP_k hb0 p)
      have := (okP_f pj p ⟨by omega, by omega, by omega, by omega⟩).2
      omega
  have a0 : nAb w (nw w) (gw w) b0 L0 = 0 := by
    have h := ab_0 (n := nw w) okS hb0 up0 hL0
    rw [ab_n] at h
    have := nAb_le (n := nw w) (g := gw w) w b0 L0 hn hg
    exact ofN_ne (by omega) (by omega) h
  have h0 : 0 ≤ w 0 2 := ok.T.1 2 (by omega)
  have hsz : 3 + wHeld w (nw w) (Int32.ofNat i) = Int32.ofNat (3 + nHd w (nw w) i) := by
    rw [held_n, Int32.ofNat_add]
    rfl
  rw [hsz] at ho
  intro a ha
  have ha : a < gw w := ha
  obtain ⟨a1, a2⟩ := hL a ha
  refine ⟨?_, fun b L hb hLL p => ?_⟩
  · show nHd _ (nw w) a ≤ 6
    rw [eH]
    exact a1
  · show Int32.ofNat (nAb _ (nw w) (gw w) b L) ≤ w 0 2
    rw [eA b L hb]
    by_cases c : a = i
    · subst c
      have p1 := p.1
      have p2 := p.2
      rw [e8, if_pos rfl] at p1
      rw [e9, if_pos rfl] at p2
      have eb : b0 = b := ofN_ne (by omega) (by omega) p1
      have eL : L0 = L := ofN_ne (by omega) (by omega) p2
      subst eb eL
      rw [if_neg (fun z => z.2 (Int32.le_refl _)), a0]
      exact h0
    · have p' : okP w a b L := by
        unfold okP at p ⊢
        rw [e8, e9, if_neg c, if_neg c] at p
        exact p
      have hw := a2 b L hb hLL p'
      by_cases c2 : Int32.ofNat b0 = Int32.ofNat b ∧ ¬ Int32.ofNat L0 ≤ Int32.ofNat L
      · rw [if_pos c2]
        have eb : b0 = b := ofN_ne (by omega) (by omega) c2.1
        subst eb
        have hlt : L < L0 := by
          have := c2.2
          rw [zI_le rfl rfl (by omega) (by omega)] at this
          omega
        obtain ⟨i1, -⟩ := hL i hi
        exact over_no okS hg hb0 hL0 (by omega) hn ho a L ha hlt p'
      · rw [if_neg c2, Nat.add_zero]
        exact hw
/-- a saggar is stood, or it is not: why -/
theorem stand_cases (ok : wOk w n g o) (hx : x = Int32.ofNat i) (hi : i < g) (h8 : w 8 i = -1) (hy : y = -1 ∨ ∃ j, j < g ∧ ¬ j = i ∧ y = Int32.ofNat j) (hz : 0 ≤ z ∧ z ≤ 3) : (∃ r t, (r = 5 ∨ r = 6 ∨ r = 7) ∧ fStand w n g x y z = (-3, wNote w r t)) ∨ ∃ b0 L0, b0 < 4 ∧ L0 < 8 ∧ (∀ j, j < g → ¬ okP w j b0 L0) ∧ wOver w n g (Int32.ofNat b0) (Int32.ofNat L0) (3 + wHeld w n (Int32.ofNat i)) = -1 ∧ fStand w n g x y z = (Int32.ofNat L0, wSt w i (Int32.ofNat b0) (Int32.ofNat L0)) := by
  have hg8 := ok.1.2.2.2.1
  have okS := ok.2.2.1
  have ei : zn x = i := zn_of hx (by omega)
  have hx2 : 0 ≤ x ∧ x < w 16 4 := ⟨(zI_le (x := 0) (i := 0) rfl hx (by omega) (by omega)).mpr (by omega), (zI_lt hx ok.1.2.2.1 (by omega) (by omega)).mpr hi⟩
  have hyr : if y = -1 then 0 ≤ z ∧ z ≤ 3 else 0 ≤ y ∧ y < w 16 4 := by
    rcases hy with hy | ⟨j, hj, -, hy⟩
    · rw [if_pos hy]
      exact hz
    · rw [if_neg (by rw [hy]; exact ofN_m1 (by omega))]
      exact ⟨(zI_le (x := 0) (i := 0) rfl hy (by omega) (by omega)).mpr (by omega), (zI_lt hy ok.1.2.2.1 (by omega) (by omega)).mpr hj⟩
  have c0 : (0 ≤ x ∧ x < w 16 4) ∧ (if y = -1 then 0 ≤ z ∧ z ≤ 3 else 0 ≤ y ∧ y < w 16 4) := ⟨hx2, hyr⟩
  have c1 : ¬ x = y := fun q => by
    rcases hy with hy | ⟨j, hj, hne, hy⟩
    · exact ofN_m1 (by omega) (hx.symm.trans (q.trans hy))
    · exact hne (ofN_ne (by omega) (by omega) (hy.symm.trans (q.symm.trans hx)))
  have c2n : ¬ ¬ w 8 (zn x) = -1 := fun h => h (by rw [ei]; exact h8)
  by_cases c3 : ¬ y = -1 ∧ w 8 (zn y) = -1
  · exact Or.inl ⟨5, y, Or.inl rfl, (if_pos c0).trans ((if_neg c1).trans ((if_neg c2n).trans (if_pos c3)))⟩
  by_cases c4 : wAt w g (wB w y z) (wL w y) = -1
  rotate_left
  · exact Or.inl ⟨6, _, Or.inr (Or.inl rfl), (if_pos c0).trans ((if_neg c1).trans ((if_neg c2n).trans ((if_neg c3).trans (if_pos c4))))⟩
  have c4n : ¬ ¬ wAt w g (wB w y z) (wL w y) = -1 := fun h => h c4
  by_cases c5 : wOver w n g (wB w y z) (wL w y) (3 + wHeld w n x) = -1
  rotate_left
  · exact Or.inl ⟨7, _, Or.inr (Or.inr rfl), (if_pos c0).trans ((if_neg c1).trans ((if_neg c2n).trans ((if_neg c3).trans ((if_neg c4n).trans (if_pos c5)))))⟩
  have c5n : ¬ ¬ wOver w n g (wB w y z) (wL w y) (3 + wHeld w n x) = -1 := fun h => h c5
  have key : ∃ b L, b < 4 ∧ L < 8 ∧ wB w y z = Int32.ofNat b ∧ wL w y = Int32.ofNat L := by
    by_cases hy1 : y = -1
    · refine ⟨zn z, 0, ?_, by omega, ?_, ?_⟩
      · have := zn_le (a := 3) hz.2 hz.1 (by omega)
        omega
      · unfold wB
        rw [if_pos hy1]
        exact zn_nn hz.1
      · unfold wL
        rw [if_pos hy1]
        rfl
    · rcases hy with hy | ⟨j, hj, hne, hy⟩
      · exact absurd hy hy1
      have ej : zn y = j := zn_of hy (by omega)
      have h8y : ¬ w 8 j = -1 := fun q => c3 ⟨hy1, by rw [ej]; exact q⟩
      obtain ⟨b, L, hb, hL, p⟩ := okS_in okS hj h8y
      refine ⟨b, L + 1, hb, lv_up8 okS hg8 hb hL hj p hi h8, ?_, ?_⟩
      · unfold wB
        rw [if_neg hy1, ej]
        exact p.1
      · unfold wL
        rw [if_neg hy1, ej]
        exact zI_s p.2
  obtain ⟨b, L, hb, hL, eb, eL⟩ := key
  have e := (if_pos c0).trans ((if_neg c1).trans ((if_neg c2n).trans ((if_neg c3).trans ((if_neg c4n).trans (if_neg c5n))))) |> (show fStand w n g x y z = (wL w y, upw (upw w 8 (zn x) (wB w y z)) 9 (zn x) (wL w y)) from ·)
  rw [eb, eL] at c4 c5
  rw [eb, eL, ei] at e
  rw [hx] at c5
  exact Or.inr ⟨b, L, hb, hL, wAt_none okS hg8 hb c4, c5, e⟩
/-- a ware is put, or it is not: why -/
theorem put_cases (ok : wOk w n g o) (hx : x = Int32.ofNat i) (hi : i < n) (h1 : w 1 i = 0) (hy : y = Int32.ofNat j) (hj : j < g) (h6 : nHd w n j ≤ 6) : (∃ r t, (r = 4 ∨ r = 7) ∧ fPut w n g x y = (-3, wNote w r t)) ∨ (nHd w n j + zn (fSz (w 6 i)) ≤ 6 ∧ wOver w n g (w 8 j) (w 9 j) (fSz (w 6 i)) = -1 ∧ fPut w n g x y = (6 - wHeld w n y - fSz (w 6 i), upw (upw w 1 i 1) 4 i (Int32.ofNat j)) ∧ 0 ≤ 6 - wHeld w n y - fSz (w 6 i)) := by
  have hg8 := ok.1.2.2.2.1
  have hn := ok.1.2.1
  have ei : zn x = i := zn_of hx (by omega)
  have ej : zn y = j := zn_of hy (by omega)
  have c0 : (0 ≤ x ∧ x < w 16 3) ∧ (0 ≤ y ∧ y < w 16 4) := ⟨⟨(zI_le (x := 0) (i := 0) rfl hx (by omega) (by omega)).mpr (by omega), (zI_lt hx ok.1.1 (by omega) (by omega)).mpr hi⟩, ⟨(zI_le (x := 0) (i := 0) rfl hy (by omega) (by omega)).mpr (by omega), (zI_lt hy ok.1.2.2.1 (by omega) (by omega)).mpr hj⟩⟩
  have c1 : ¬ ¬ w 1 (zn x) = 0 := fun h => h (by rw [ei]; exact h1)
  obtain ⟨f1, f2⟩ := fz_n (w 6 i)
  have e6 : (6 : Int32) - wHeld w n y = Int32.ofNat (6 - nHd w n j) := by
    rw [hy, held_n]
    have e : (6 : Int32) = Int32.ofNat (6 - nHd w n j) + Int32.ofNat (nHd w n j) := by
      rw [← Int32.ofNat_add, show 6 - nHd w n j + nHd w n j = 6 by omega]
      rfl
    rw [e, Int32.add_sub_cancel]
  by_cases c2 : fSz (w 6 (zn x)) ≤ 6 - wHeld w n y
  rotate_left
  · exact Or.inl ⟨4, _, Or.inl rfl, (if_pos c0).trans ((if_neg c1).trans (if_pos c2))⟩
  have c2n : ¬ ¬ fSz (w 6 (zn x)) ≤ 6 - wHeld w n y := fun h => h c2
  by_cases c3 : wOver w n g (w 8 (zn y)) (w 9 (zn y)) (fSz (w 6 (zn x))) = -1
  rotate_left
  · exact Or.inl ⟨7, _, Or.inr rfl, (if_pos c0).trans ((if_neg c1).trans ((if_neg c2n).trans (if_pos c3)))⟩
  have c3n : ¬ ¬ wOver w n g (w 8 (zn y)) (w 9 (zn y)) (fSz (w 6 (zn x))) = -1 := fun h => h c3
  have e : fPut w n g x y = (6 - wHeld w n y - fSz (w 6 (zn x)), upw (upw w 1 (zn x) 1) 4 (zn x) y) := (if_pos c0).trans ((if_neg c1).trans ((if_neg c2n).trans (if_neg c3n)))
  rw [ei] at c2 c3 e
  rw [ej] at c3
  have hle : zn (fSz (w 6 i)) ≤ 6 - nHd w n j := by
    rw [e6, f1] at c2
    exact (zI_le rfl rfl (by omega) (by omega)).mp c2
  refine Or.inr ⟨by omega, c3, by rw [e, hy], ?_⟩
  have e7 : 6 - wHeld w n y - fSz (w 6 i) = Int32.ofNat (6 - nHd w n j - zn (fSz (w 6 i))) := by
    rw [e6]
    have e8 : Int32.ofNat (6 - nHd w n j) = Int32.ofNat (6 - nHd w n j - zn (fSz (w 6 i))) + fSz (w 6 i) := by
      conv => rhs; rw [f1]
      rw [← Int32.ofNat_add]
      congr 1
      rw [← f1]
      omega
    rw [e8, Int32.add_sub_cancel]
  rw [e7]
  exact Int32.not_lt.mp (ofN_lt0 (by omega))
end LDM
