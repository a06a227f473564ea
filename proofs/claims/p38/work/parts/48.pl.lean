/-! PLACES: above, below -/
section PLC
variable {w : aW} {n g i j b L : Nat} {y z : Int32}
theorem at_of (ok : okS w g) (hi : i < g) (hb : b < 4) (p : okP w i b L) : wAt w g (Int32.ofNat b) (Int32.ofNat L) = Int32.ofNat i := by
  rcases aFd_cases (fun j => decide (w 8 j = Int32.ofNat b ∧ w 9 j = Int32.ofNat L)) (fun j => Int32.ofNat j) (-1) g 0 with ⟨-, h⟩ | ⟨k, -, hk, hp, he, -⟩
  · have := h i (by omega) (by omega)
    exact absurd (show w 8 i = Int32.ofNat b ∧ w 9 i = Int32.ofNat L from p) (of_decide_eq_false this)
  · have hp := of_decide_eq_true hp
    have hk : k < g := by omega
    have e : k = i := ok.2 k i hk hi (by rw [hp.1]; exact b_ne hb) (hp.1.trans p.1.symm) (hp.2.trans p.2.symm)
    subst e
    exact he
theorem at_non (h : ∀ j, j < g → ¬ (w 8 j = y ∧ w 9 j = z)) : wAt w g y z = -1 :=
  aFd_none _ _ _ g 0 fun j _ hj => decide_eq_false (h j (by omega))
theorem up_of (hj : j < 8) (hb : b < 4) (p : okP w j b L) : wUp w g (Int32.ofNat j) = wAt w g (Int32.ofNat b) (Int32.ofNat (L + 1)) := by
  have e : zn (Int32.ofNat j) = j := zn_of rfl (by omega)
  unfold wUp
  rw [e, if_neg (by rw [p.1]; exact b_ne hb), p.1, zI_s p.2]
theorem dn_of (hj : j < 8) (hb : b < 4) (p : okP w j b L) : wDn w g (Int32.ofNat j) = wAt w g (Int32.ofNat b) (Int32.ofNat L - 1) := by
  have e : zn (Int32.ofNat j) = j := zn_of rfl (by omega)
  unfold wDn
  rw [e, if_neg (by rw [p.1]; exact b_ne hb), p.1, p.2]
/-- where a saggar stands, and what is above and below it -/
theorem sg_place (ok : okS w g) (hg : g ≤ 8) (hj : j < g) : (w 8 j = -1 ∧ w 9 j = -1 ∧ wUp w g (Int32.ofNat j) = -1 ∧ wDn w g (Int32.ofNat j) = -1 ∧ wLoad w n g (Int32.ofNat j) = 0) ∨
    ∃ b L, b < 4 ∧ L < 8 ∧ okP w j b L ∧ (L = 0 → wDn w g (Int32.ofNat j) = -1) ∧ (∀ L', L = L' + 1 → ∃ i, i < g ∧ wDn w g (Int32.ofNat j) = Int32.ofNat i ∧ okP w i b L' ∧ wUp w g (Int32.ofNat i) = Int32.ofNat j) ∧ wLoad w n g (Int32.ofNat j) = wAb w n g b L := by
  have e : zn (Int32.ofNat j) = j := zn_of rfl (by omega)
  rcases ok.1 j hj with ⟨h8, h9⟩ | ⟨b, L, hb, hL, p, hu⟩
  · have eu : wUp w g (Int32.ofNat j) = -1 := by unfold wUp; rw [e, if_pos h8]
    have ed : wDn w g (Int32.ofNat j) = -1 := by unfold wDn; rw [e, if_pos h8]
    refine Or.inl ⟨h8, h9, eu, ed, ?_⟩
    unfold wLoad
    rw [eu]
    rfl
  · refine Or.inr ⟨b, L, hb, hL, p, fun h0 => ?_, fun L' hL' => ?_, ?_⟩
    · subst h0
      rw [dn_of (by omega) hb p]
      refine at_non fun i hi q => ?_
      rcases ok.1 i hi with ⟨a8, -⟩ | ⟨b1, L1, hb1, hL1, p1, -⟩
      · exact b_ne hb (q.1.symm.trans a8)
      · have q2 : Int32.ofNat L1 = -1 := p1.2.symm.trans (q.2.trans (by decide))
        have : ∀ L1 : Fin 8, ¬ Int32.ofNat L1.val = -1 := by decide
        exact this ⟨L1, hL1⟩ q2
    · subst hL'
      obtain ⟨i, hi, q⟩ := hu L' rfl
      refine ⟨i, hi, ?_, q, ?_⟩
      · rw [dn_of (by omega) hb p, sub1]
        exact at_of ok hi hb q
      · rw [up_of (by omega) hb q]
        exact at_of ok hj hb p
    · rw [load_eq ok hg hj]
      exact wRest_eq (by omega) hb p
end PLC
