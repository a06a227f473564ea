/-! LOADS AS NUMBERS -/
section LDN
variable {w v u : aW} {n g o i j k b L m : Nat} {x y z : Int32}
theorem fz_n (x : Int32) : fSz x = Int32.ofNat (zn (fSz x)) ∧ zn (fSz x) ≤ 4 := by
  unfold fSz
  split
  · rename_i k _
    match k with
    | 0 => decide
    | 1 => decide
    | 2 => decide
    | _ + 3 => exact ⟨(by decide : (4 : Int32) = Int32.ofNat (zn 4)), (by decide : zn 4 ≤ 4)⟩
  · decide
def nHd (w : aW) (n j : Nat) : Nat := nSm (fun i => if w 4 i = Int32.ofNat j then zn (fSz (w 6 i)) else 0) n 0
theorem held_n (w : aW) (n j : Nat) : wHeld w n (Int32.ofNat j) = Int32.ofNat (nHd w n j) := aSm_nat n 0 fun i _ _ => by
  by_cases c : w 4 i = Int32.ofNat j
  · rw [if_pos c, if_pos c]
    exact (fz_n _).1
  · rw [if_neg c, if_neg c]
    rfl
theorem nHd_le (w : aW) (n j : Nat) : nHd w n j ≤ 4 * n := nSm_le (fun i => by
  by_cases c : w 4 i = Int32.ofNat j
  · rw [if_pos c]
    exact (fz_n _).2
  · rw [if_neg c]
    omega) n 0
def nAb (w : aW) (n g b L : Nat) : Nat := nSm (fun j => if w 8 j = Int32.ofNat b ∧ ¬ w 9 j ≤ Int32.ofNat L then 3 + nHd w n j else 0) g 0
theorem ab_n (w : aW) (n g b L : Nat) : wAb w n g b L = Int32.ofNat (nAb w n g b L) := aSm_nat g 0 fun j _ _ => by
  by_cases c : w 8 j = Int32.ofNat b ∧ ¬ w 9 j ≤ Int32.ofNat L
  · rw [if_pos c, if_pos c, held_n, Int32.ofNat_add]
    rfl
  · rw [if_neg c, if_neg c]
    rfl
theorem nAb_le (w : aW) (b L : Nat) (hn : n ≤ 60) (hg : g ≤ 8) : nAb w n g b L ≤ 2000 := by
  have h := nSm_le (g := fun j => if w 8 j = Int32.ofNat b ∧ ¬ w 9 j ≤ Int32.ofNat L then 3 + nHd w n j else 0) (c := 243) (fun j => by
    have := nHd_le w n j
    split <;> omega) g 0
  have e : nAb w n g b L ≤ 243 * g := h
  omega
theorem nSm_mono {f h : Nat → Nat} : ∀ (m i : Nat), (∀ j, i ≤ j → j < i + m → f j ≤ h j) → nSm f m i ≤ nSm h m i
  | 0, _, _ => Nat.le_refl _
  | m + 1, i, hf => by
    have h1 := hf i (by omega) (by omega)
    have h2 := nSm_mono (f := f) (h := h) m (i + 1) (fun j a b => hf j (by omega) (by omega))
    show f i + nSm f m (i + 1) ≤ h i + nSm h m (i + 1)
    omega
/-- the loads are within the strength, the saggars not too full -/
def Lx (w : aW) : Prop := ∀ j, j < gw w → nHd w (nw w) j ≤ 6 ∧ ∀ b L, b < 4 → L < 8 → okP w j b L → Int32.ofNat (nAb w (nw w) (gw w) b L) ≤ w 0 2
theorem Ld_of (ok : wOk w (nw w) (gw w) (ow w)) (h : Lx w) : Ld w := fun j hj => by
  have hn := ok.1.2.1
  have hg := ok.1.2.2.2.1
  obtain ⟨h1, h2⟩ := h j hj
  have h0 : 0 ≤ w 0 2 := ok.T.1 2 (by omega)
  refine ⟨?_, ?_⟩
  · rw [held_n]
    exact (zI_le (y := 6) (n := 6) rfl rfl (by omega) (by omega)).mpr h1
  · rcases sg_place (n := nw w) ok.2.2.1 hg hj with ⟨-, -, -, -, e⟩ | ⟨b, L, hb, hL, p, -, -, e⟩
    · rw [e]
      exact h0
    · rw [e, ab_n]
      exact h2 b L hb hL p
theorem Lx_mono (hn : nw w ≤ 60) (hg : gw w ≤ 8) (e1 : nw v = nw w) (e2 : gw v = gw w) (e3 : v 0 2 = w 0 2) (e4 : ∀ j, j < gw w → v 8 j = w 8 j ∧ v 9 j = w 9 j) (e5 : ∀ j, j < gw w → nHd v (nw w) j ≤ nHd w (nw w) j) (h : Lx w) : Lx v := fun j hj => by
  rw [e2] at hj
  obtain ⟨h1, h2⟩ := h j hj
  have h3 := e5 j hj
  rw [e1, e2, e3]
  refine ⟨by omega, fun b L hb hL p => ?_⟩
  have p2 : okP w j b L := by
    unfold okP at p ⊢
    rw [← (e4 j hj).1, ← (e4 j hj).2]
    exact p
  refine Int32.le_trans ?_ (h2 b L hb hL p2)
  have hle := nAb_le (n := nw w) (g := gw w) w b L hn hg
  have hm : nAb v (nw w) (gw w) b L ≤ nAb w (nw w) (gw w) b L := nSm_mono _ 0 fun q _ hq => by
    rw [(e4 q (by omega)).1, (e4 q (by omega)).2]
    have := e5 q (by omega)
    split <;> omega
  exact (zI_le rfl rfl (by omega) (by omega)).mpr hm
theorem nHd_out (h : ∀ i, i < n → (v 4 i = w 4 i ∨ v 4 i = -1) ∧ v 6 i = w 6 i) (hj : j < 100000) : nHd v n j ≤ nHd w n j := nSm_mono n 0 fun i _ hi => by
  obtain ⟨h1, h2⟩ := h i (by omega)
  rw [h2]
  rcases h1 with h1 | h1
  · rw [h1]
    exact Nat.le_refl _
  · rw [h1, if_neg (fun q => ofN_m1 hj q.symm)]
    exact Nat.zero_le _
theorem nHd_eq (h : ∀ i, i < n → v 4 i = w 4 i ∧ v 6 i = w 6 i) : nHd v n j = nHd w n j := nSm_congr n 0 fun i _ hi => by
  rw [(h i (by omega)).1, (h i (by omega)).2]
theorem Lx_same (h : wSame u w) (ok : wOk w (nw w) (gw w) (ow w)) (hL : Lx w) : Lx u := by
  have hn := ok.1.2.1
  have hg := ok.1.2.2.2.1
  refine Lx_mono hn hg (congrArg zn (h 16 3 (rg16 (by omega)))) (congrArg zn (h 16 4 (rg16 (by omega)))) (h 0 2 (rg0 (by omega))) (fun j hj => ⟨h 8 j (rg8 (by omega)).1, h 9 j (rg8 (by omega)).2⟩) (fun j hj => Nat.le_of_eq (nHd_eq fun i hi => ⟨h 4 i (rg1 (by omega) (by omega) (by omega)), h 6 i (rg1 (by omega) (by omega) (by omega))⟩)) hL
/-- a saggar more -/
theorem Lx_add (ok : wOk w n g o) (en : nw w = n) (eg : gw w = g) (hg7 : g < 8) (hL : Lx w) : Lx (wAdd3 w g) := by
  subst en eg
  have hn := ok.1.2.1
  have e16 : gw (wAdd3 w (gw w)) = gw w + 1 := by
    show zn (w 16 4 + 1) = _
    rw [ok.1.2.2.1, zn_of (zI_s rfl) (by omega)]
  have e3 : nw (wAdd3 w (gw w)) = nw w := rfl
  have e8 : ∀ j, wAdd3 w (gw w) 8 j = if j = gw w then -1 else w 8 j := fun j => by
    by_cases c : j = gw w
    · rw [if_pos c, c]
      exact (upw_ne (by omega)).trans ((upw_ne (by omega)).trans upw_eq)
    · rw [if_neg c]
      exact (upw_ne (by omega)).trans ((upw_ne (by omega)).trans (upw_ne (by omega)))
  have e9 : ∀ j, wAdd3 w (gw w) 9 j = if j = gw w then -1 else w 9 j := fun j => by
    by_cases c : j = gw w
    · rw [if_pos c, c]
      exact (upw_ne (by omega)).trans upw_eq
    · rw [if_neg c]
      exact (upw_ne (by omega)).trans ((upw_ne (by omega)).trans (upw_ne (by omega)))
  have eH : ∀ j, nHd (wAdd3 w (gw w)) (nw w) j = nHd w (nw w) j := fun j => nHd_eq fun i _ => ⟨rfl, rfl⟩
  have eA : ∀ b L, b < 4 → nAb (wAdd3 w (gw w)) (nw w) (gw w + 1) b L = nAb w (nw w) (gw w) b L := fun b L hb => by
    unfold nAb
    rw [nSm_snoc, Nat.zero_add, e8 (gw w), if_pos rfl, if_neg (fun q => b_ne hb q.1.symm), Nat.add_zero]
    refine nSm_congr _ 0 fun j _ hj => ?_
    rw [e8 j, e9 j, if_neg (show ¬ j = gw w by omega), if_neg (show ¬ j = gw w by omega), eH]
  intro j hj
  rw [e16] at hj
  rw [e3, e16]
  by_cases c : j = gw w
  · refine ⟨?_, fun b L hb hL p => ?_⟩
    · rw [eH]
      have z : nHd w (nw w) j = 0 := by
        have : nHd w (nw w) j ≤ 0 * nw w := nSm_leN (nw w) 0 fun i _ hi => by
          rw [if_neg]
          · exact Nat.le_refl 0
          · intro q
            rcases (ok.2.1 i (by omega)).2.2 with ⟨-, -, e⟩ | ⟨-, -, k, hk, e⟩ | ⟨-, -, k, hk, e⟩ | ⟨-, -, e⟩ | ⟨-, -, e⟩ | ⟨-, -, e⟩
            · exact ofN_m1 (by omega) (q.symm.trans e)
            · have := ofN_ne (by omega) (by omega) (q.symm.trans e); omega
            · have := ofN_ne (by omega) (by omega) (q.symm.trans e); omega
            · exact ofN_m1 (by omega) (q.symm.trans e)
            · exact ofN_m1 (by omega) (q.symm.trans e)
            · exact ofN_m1 (by omega) (q.symm.trans e)
        omega
      omega
    · have := p.1
      rw [e8, if_pos c] at this
      exact absurd this.symm (b_ne hb)
  · obtain ⟨h1, h2⟩ := hL j (by omega)
    refine ⟨by rw [eH]; exact h1, fun b L hb hL p => ?_⟩
    rw [eA b L hb]
    refine h2 b L hb hL ?_
    unfold okP at p ⊢
    rw [e8, e9, if_neg c, if_neg c] at p
    exact p
/-- what over a load there is room for -/
theorem over_no (ok : okS w g) (hg : g ≤ 8) (hb : b < 4) (hL : L < 8) {s : Nat} (hs : s ≤ 300) (hn : n ≤ 60) (h : wOver w n g (Int32.ofNat b) (Int32.ofNat L) (Int32.ofNat s) = -1) : ∀ j L', j < g → L' < L → okP w j b L' → Int32.ofNat (nAb w n g b L' + s) ≤ w 0 2 := fun j L' hj hL' p => by
  have ea : wAt w g (Int32.ofNat b) (Int32.ofNat L') = Int32.ofNat j := at_of ok hj hb p
  have eL : zn (Int32.ofNat L) = L := zn_of rfl (by omega)
  rcases aFd_cases (fun j => decide (¬ wAt w g (Int32.ofNat b) (Int32.ofNat j) = -1 ∧ w 0 2 < wLoad w n g (wAt w g (Int32.ofNat b) (Int32.ofNat j)) + Int32.ofNat s)) (fun j => wAt w g (Int32.ofNat b) (Int32.ofNat j)) (-1) (zn (Int32.ofNat L)) 0 with ⟨-, q⟩ | ⟨i, -, -, hp, e, -⟩
  · have q1 := q L' (by omega) (by omega)
    have q2 := of_decide_eq_false (p := ¬ wAt w g (Int32.ofNat b) (Int32.ofNat L') = -1 ∧ w 0 2 < wLoad w n g (wAt w g (Int32.ofNat b) (Int32.ofNat L')) + Int32.ofNat s) q1
    rw [ea] at q2
    have q3 : ¬ w 0 2 < wLoad w n g (Int32.ofNat j) + Int32.ofNat s := fun z => q2 ⟨ofN_m1 (by omega), z⟩
    have el : wLoad w n g (Int32.ofNat j) = wAb w n g b L' := ld_ab ok hg hb 8 L' j hj (by omega) (by omega) p
    rw [el, ab_n, ← Int32.ofNat_add] at q3
    exact Int32.not_lt.mp q3
  · have hp := of_decide_eq_true hp
    exact absurd (e.symm.trans h) hp.1
theorem nSm_updB {f h : Nat → Nat} {m j : Nat} (hj : j < m) (he : ∀ a, a < m → ¬ a = j → f a = h a) : nSm f m 0 + h j = nSm h m 0 + f j := by
  have e1 : nSm f m 0 = nSm (fun a => if a = j then f j else h a) m 0 := nSm_congr m 0 fun a _ ha => by
    by_cases c : a = j
    · rw [if_pos c, c]
    · rw [if_neg c, he a (by omega) c]
  have e2 := nSm_upd (g := h) (g1 := fun a => if a = j then f j else h a) m 0 j (by omega) (by omega) (fun a ha => if_neg ha)
  rw [if_pos rfl] at e2
  rw [e1]
  exact e2
/-- so much more in one saggar -/
theorem nAb_put {s : Nat} (hi : i < g) (e8 : ∀ j, j < g → v 8 j = w 8 j ∧ v 9 j = w 9 j) (eH : ∀ j, j < g → ¬ j = i → nHd v n j = nHd w n j) (eI : nHd v n i = nHd w n i + s) : nAb v n g b L = nAb w n g b L + (if w 8 i = Int32.ofNat b ∧ ¬ w 9 i ≤ Int32.ofNat L then s else 0) := by
  have e0 : nAb v n g b L = nSm (fun j => if w 8 j = Int32.ofNat b ∧ ¬ w 9 j ≤ Int32.ofNat L then 3 + nHd v n j else 0) g 0 := nSm_congr g 0 fun j _ hj => by
    rw [(e8 j (by omega)).1, (e8 j (by omega)).2]
  have h := nSm_updB (f := fun j => if w 8 j = Int32.ofNat b ∧ ¬ w 9 j ≤ Int32.ofNat L then 3 + nHd v n j else 0) (h := fun j => if w 8 j = Int32.ofNat b ∧ ¬ w 9 j ≤ Int32.ofNat L then 3 + nHd w n j else 0) hi (fun j hj hn => by
    show (if _ then _ else _) = (if _ then _ else _)
    rw [eH j hj hn])
  rw [e0]
  have e1 : nAb w n g b L = nSm (fun j => if w 8 j = Int32.ofNat b ∧ ¬ w 9 j ≤ Int32.ofNat L then 3 + nHd w n j else 0) g 0 := rfl
  rw [e1]
  by_cases c : w 8 i = Int32.ofNat b ∧ ¬ w 9 i ≤ Int32.ofNat L
  · rw [if_pos c, if_pos c, eI] at h
    rw [if_pos c]
    omega
  · rw [if_neg c, if_neg c] at h
    rw [if_neg c]
    omega
end LDN
