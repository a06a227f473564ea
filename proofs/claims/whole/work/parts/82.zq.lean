/-! FACTS: saggars set and taken down, wares put, fired, taken out -/
section FC
variable {w v : aW} {n g o i j k b L : Nat} {x y z u s t : Int32}
theorem wAt_none (ok : okS w g) (hg : g ≤ 8) (hb : b < 4) (h : wAt w g (Int32.ofNat b) (Int32.ofNat L) = -1) : ∀ j, j < g → ¬ okP w j b L := fun j hj p => by
  have e := wAt_eq ok hj p.1 p.2 (b_ne hb)
  rw [h] at e
  exact ofN_m1 (i := j) (by omega) e.symm
theorem add3_o {a : Nat} (h : ¬ ((a = 8 ∨ a = 9) ∧ j = g) ∧ ¬ (a = 16 ∧ j = 4)) : wAdd3 w g a j = w a j := by
  unfold wAdd3
  rw [upw_ne (by omega), upw_ne (by omega), upw_ne (by omega)]
theorem add3_8 : wAdd3 w g 8 g = -1 := by
  unfold wAdd3
  rw [upw_ne (by omega), upw_ne (by omega), upw_eq]
theorem add3_9 : wAdd3 w g 9 g = -1 := by
  unfold wAdd3
  rw [upw_ne (by omega), upw_eq]
theorem okS_sag (ok : okS w g) : okS (wAdd3 w g) (g + 1) := by
  have k8 : ∀ j, ¬ j = g → wAdd3 w g 8 j = w 8 j := fun j h => add3_o (by omega)
  have k9 : ∀ j, ¬ j = g → wAdd3 w g 9 j = w 9 j := fun j h => add3_o (by omega)
  refine ⟨fun j hj => ?_, fun i j hi hj h8 e8 e9 => ?_⟩
  · by_cases e : j = g
    · subst e
      exact Or.inl ⟨add3_8, add3_9⟩
    · rcases ok.1 j (by omega) with ⟨q1, q2⟩ | ⟨b, L, hb, hL, p, und⟩
      · exact Or.inl ⟨(k8 j e).trans q1, (k9 j e).trans q2⟩
      · refine Or.inr ⟨b, L, hb, hL, ⟨(k8 j e).trans p.1, (k9 j e).trans p.2⟩, fun L' hL' => ?_⟩
        obtain ⟨i, hi, q⟩ := und L' hL'
        exact ⟨i, by omega, (k8 i (by omega)).trans q.1, (k9 i (by omega)).trans q.2⟩
  · by_cases ei : i = g
    · subst ei
      exact absurd add3_8 h8
    by_cases ej : j = g
    · subst ej
      exact absurd (e8.trans add3_8) h8
    rw [k8 i ei] at h8
    rw [k8 i ei, k8 j ej] at e8
    rw [k9 i ei, k9 j ej] at e9
    exact ok.2 i j (by omega) (by omega) h8 e8 e9
theorem okW_g (h : okW w g j) : okW w (g + 1) j := by
  obtain ⟨k1, k2, k3⟩ := h
  refine ⟨k1, k2, ?_⟩
  rcases k3 with q | ⟨q1, q2, k, hk, q3⟩ | ⟨q1, q2, k, hk, q3⟩ | q | q | q
  · exact Or.inl q
  · exact Or.inr (Or.inl ⟨q1, q2, k, by omega, q3⟩)
  · exact Or.inr (Or.inr (Or.inl ⟨q1, q2, k, by omega, q3⟩))
  · exact Or.inr (Or.inr (Or.inr (Or.inl q)))
  · exact Or.inr (Or.inr (Or.inr (Or.inr (Or.inl q))))
  · exact Or.inr (Or.inr (Or.inr (Or.inr (Or.inr q))))
theorem pk_sag (ok : wOk w n g o) : PK (fSag w g) := by
  by_cases c : w 16 4 < 8
  rotate_left
  · exact PK3 (if_neg c)
  have hg : g < 8 := (zI_lt (i := g) (n := 8) ok.1.2.2.1 rfl (by have := ok.1.2.2.2.1; omega) (by omega)).mp c
  have e : w 16 4 + 1 - 1 = Int32.ofNat g := by rw [Int32.add_sub_cancel]; exact ok.1.2.2.1
  refine PK0 (if_pos c) (by rw [e]; exact Int32.not_lt.mp (ofN_lt0 (by omega))) (wOk.mk (n := n) (g := g + 1) (o := o) ⟨okN_sag ok.1 hg, fun j hj => ?_, okS_sag ok.2.2.1, fun i hi => ?_⟩ ?_ ?_)
  · have q := okW_g (ok.2.1 j hj)
    unfold okW at q ⊢
    rw [add3_o (by omega), add3_o (by omega), add3_o (by omega), add3_o (by omega), add3_o (by omega)]
    exact q
  · exact okO_eq (v := wAdd3 w g) (w := w) rfl rfl rfl (ok.2.2.2.1 i hi)
  · exact okB_cg (w := w) ⟨rfl, rfl⟩ (fun _ _ => rfl) (fun _ _ => Iff.rfl) (fun _ => rfl) (fun _ => rfl) ok.B
  · exact okT_cg (fun _ _ => rfl) rfl ok.T
theorem wOk_st (ok : wOk w n g o) (h : okS (wSt w i x y) g) : wOk (wSt w i x y) n g o :=
  wOk.mk (wOkA_st ok.A h) (okB_cg ⟨rfl, rfl⟩ (fun _ _ => rfl) (fun _ _ => Iff.rfl) (fun _ => rfl) (fun _ => rfl) ok.B) (okT_cg (fun _ _ => rfl) rfl ok.T)
theorem pk_stand (ok : wOk w n g o) : PK (fStand w n g x y z) := by
  by_cases c0 : (0 ≤ x ∧ x < w 16 4) ∧ (if y = -1 then 0 ≤ z ∧ z ≤ 3 else 0 ≤ y ∧ y < w 16 4)
  rotate_left
  · exact PK1 (if_neg c0)
  by_cases c1 : x = y
  · exact PK2 ((if_pos c0).trans (if_pos c1))
  by_cases c2 : w 8 (zn x) = -1
  rotate_left
  · exact PK3 ((if_pos c0).trans ((if_neg c1).trans (if_pos c2)))
  have c2n : ¬ ¬ w 8 (zn x) = -1 := fun h => h c2
  by_cases c3 : ¬ y = -1 ∧ w 8 (zn y) = -1
  · exact PK3 ((if_pos c0).trans ((if_neg c1).trans ((if_neg c2n).trans (if_pos c3))))
  by_cases c4 : wAt w g (wB w y z) (wL w y) = -1
  rotate_left
  · exact PK3 ((if_pos c0).trans ((if_neg c1).trans ((if_neg c2n).trans ((if_neg c3).trans (if_pos c4)))))
  have c4n : ¬ ¬ wAt w g (wB w y z) (wL w y) = -1 := fun h => h c4
  by_cases c5 : wOver w n g (wB w y z) (wL w y) (3 + wHeld w n x) = -1
  rotate_left
  · exact PK3 ((if_pos c0).trans ((if_neg c1).trans ((if_neg c2n).trans ((if_neg c3).trans ((if_neg c4n).trans (if_pos c5))))))
  have c5n : ¬ ¬ wOver w n g (wB w y z) (wL w y) (3 + wHeld w n x) = -1 := fun h => h c5
  have hg8 := ok.1.2.2.2.1
  have okS := ok.2.2.1
  have hx := aIx_lt c0.1 ok.1.2.2.1 hg8 (by omega)
  have key : ∃ b L, b < 4 ∧ L < 8 ∧ wB w y z = Int32.ofNat b ∧ wL w y = Int32.ofNat L ∧ (∀ L', L = L' + 1 → ∃ k, k < g ∧ okP w k b L') := by
    by_cases hy : y = -1
    · have c := c0.2
      rw [if_pos hy] at c
      refine ⟨zn z, 0, ?_, by omega, ?_, ?_, fun L' h => by omega⟩
      · have := zn_le (a := 3) c.2 c.1 (by omega)
        omega
      · unfold wB
        rw [if_pos hy]
        exact zn_nn c.1
      · unfold wL
        rw [if_pos hy]
        rfl
    · have c := c0.2
      rw [if_neg hy] at c
      have hyk := aIx_lt c ok.1.2.2.1 hg8 (by omega)
      have h8 : ¬ w 8 (zn y) = -1 := fun q => c3 ⟨hy, q⟩
      obtain ⟨b, L, hb, hL, p⟩ := okS_in okS hyk.2.1 h8
      refine ⟨b, L + 1, hb, lv_up8 okS hg8 hb hL hyk.2.1 p hx.2.1 c2, ?_, ?_, fun L' h => ⟨zn y, hyk.2.1, by rw [show L' = L by omega]; exact p⟩⟩
      · unfold wB
        rw [if_neg hy]
        exact p.1
      · unfold wL
        rw [if_neg hy]
        exact zI_s p.2
  obtain ⟨b, L, hb, hL, eb, eL, und⟩ := key
  rw [eb, eL] at c4
  have free := wAt_none okS hg8 hb c4
  refine PK0 ((if_pos c0).trans ((if_neg c1).trans ((if_neg c2n).trans ((if_neg c3).trans ((if_neg (by rw [eb, eL]; exact fun h => h c4)).trans (if_neg c5n)))))) ?_ (wOk_st (i := zn x) ok ?_)
  · rw [eL]
    exact Int32.not_lt.mp (ofN_lt0 (by omega))
  · rw [eb, eL]
    exact okS_stand okS hg8 hx.2.1 c2 hb hL free und
theorem pk_down (ok : wOk w n g o) : PK (fDown w g x) := by
  by_cases c0 : 0 ≤ x ∧ x < w 16 4
  rotate_left
  · exact PK1 (if_neg c0)
  by_cases c1 : w 8 (zn x) = -1
  · exact PK3 ((if_pos c0).trans (if_pos c1))
  by_cases c2 : wUp w g x = -1
  rotate_left
  · exact PK3 ((if_pos c0).trans ((if_neg c1).trans (if_pos c2)))
  have c2n : ¬ ¬ wUp w g x = -1 := fun h => h c2
  have hg8 := ok.1.2.2.2.1
  have okS := ok.2.2.1
  have hx := aIx_lt c0 ok.1.2.2.1 hg8 (by omega)
  obtain ⟨b, L, hb, hL, p⟩ := okS_in okS hx.2.1 c1
  have e : wUp w g (Int32.ofNat (zn x)) = wAt w g (Int32.ofNat b) (Int32.ofNat (L + 1)) := wUp_of (by omega) hb p
  rw [← hx.2.2, c2] at e
  refine PK0 ((if_pos c0).trans ((if_neg c1).trans (if_neg c2n))) ?_ (wOk_st (i := zn x) ok (okS_down okS hx.2.1 hb hL p (wAt_none okS hg8 hb e.symm)))
  rw [p.2]
  exact Int32.not_lt.mp (ofN_lt0 (by omega))
theorem pk_put (ok : wOk w n g o) : PK (fPut w n g x y) := by
  by_cases c0 : (0 ≤ x ∧ x < w 16 3) ∧ (0 ≤ y ∧ y < w 16 4)
  rotate_left
  · exact PK1 (if_neg c0)
  by_cases c1 : w 1 (zn x) = 0
  rotate_left
  · exact PK3 ((if_pos c0).trans (if_pos c1))
  have c1n : ¬ ¬ w 1 (zn x) = 0 := fun h => h c1
  by_cases c2 : fSz (w 6 (zn x)) ≤ 6 - wHeld w n y
  rotate_left
  · exact PK3 ((if_pos c0).trans ((if_neg c1n).trans (if_pos c2)))
  have c2n : ¬ ¬ fSz (w 6 (zn x)) ≤ 6 - wHeld w n y := fun h => h c2
  by_cases c3 : wOver w n g (w 8 (zn y)) (w 9 (zn y)) (fSz (w 6 (zn x))) = -1
  rotate_left
  · exact PK3 ((if_pos c0).trans ((if_neg c1n).trans ((if_neg c2n).trans (if_pos c3))))
  have c3n : ¬ ¬ wOver w n g (w 8 (zn y)) (w 9 (zn y)) (fSz (w 6 (zn x))) = -1 := fun h => h c3
  have hx := aIx_lt c0.1 ok.1.1 ok.1.2.1 (by omega)
  have hy := aIx_lt c0.2 ok.1.2.2.1 ok.1.2.2.2.1 (by omega)
  refine PK0 ((if_pos c0).trans ((if_neg c1n).trans ((if_neg c2n).trans (if_neg c3n)))) (fa_put ok.A hx.2.1 c2) (wOk.mk (n := n) (g := g) (o := o) ?_ ?_ ?_)
  · refine wOkA_cg (w := w) (fun a j h => (upw_ne (by omega)).trans (upw_ne (by omega))) (fun j hj => ?_) ok.A
    have q := ok.2.1 j hj
    unfold okW at q ⊢
    by_cases c : j = zn x
    · subst c
      have e1 : upw (upw w 1 (zn x) 1) 4 (zn x) y 1 (zn x) = 1 := (upw_ne (by omega)).trans upw_eq
      rw [e1, upw_eq, show upw (upw w 1 (zn x) 1) 4 (zn x) y 6 (zn x) = w 6 (zn x) from rfl, show upw (upw w 1 (zn x) 1) 4 (zn x) y 2 (zn x) = w 2 (zn x) from rfl, show upw (upw w 1 (zn x) 1) 4 (zn x) y 5 (zn x) = w 5 (zn x) from rfl]
      refine ⟨q.1, q.2.1, Or.inr (Or.inl ⟨rfl, ?_, zn y, hy.2.1, hy.2.2⟩)⟩
      rcases q.2.2 with ⟨-, q5, -⟩ | ⟨q, -⟩ | ⟨q, -⟩ | ⟨q, -⟩ | ⟨q, -⟩ | ⟨q, -⟩
      · exact q5
      · rw [q] at c1; exact absurd c1 (by decide)
      · rw [q] at c1; exact absurd c1 (by decide)
      · rw [q] at c1; exact absurd c1 (by decide)
      · rw [q] at c1; exact absurd c1 (by decide)
      · rw [q] at c1; exact absurd c1 (by decide)
    · have e : ∀ a, upw (upw w 1 (zn x) 1) 4 (zn x) y a j = w a j := fun a => (upw_ne (by omega)).trans (upw_ne (by omega))
      rw [e, e, e, e, e]
      exact q
  · refine okB_cg (w := w) ⟨rfl, rfl⟩ (fun _ _ => rfl) (fun j hj => ?_) (fun _ => rfl) (fun _ => rfl) ok.B
    by_cases c : j = zn x
    · subst c
      have e1 : upw (upw w 1 (zn x) 1) 4 (zn x) y 1 (zn x) = 1 := (upw_ne (by omega)).trans upw_eq
      rw [e1, c1]
      exact ⟨fun q => absurd q (by decide), fun q => absurd q (by decide)⟩
    · rw [show upw (upw w 1 (zn x) 1) 4 (zn x) y 1 j = w 1 j from (upw_ne (by omega)).trans (upw_ne (by omega))]
  · exact okT_cg (fun _ _ => rfl) rfl ok.T
theorem pk_fire (ok : wOk w n g o) : PK (fFire w n x) := by
  by_cases c0 : 1000 ≤ x ∧ x ≤ 1400
  rotate_left
  · exact PK2 (if_neg c0)
  by_cases c1 : wAny w n = 0
  · exact PK3 ((if_pos c0).trans (if_pos c1))
  obtain ⟨f, hf, ef⟩ := wFirsts_nn w n x
  have hn := ok.1.2.1
  refine PK0 ((if_pos c0).trans (if_neg c1)) (by rw [ef]; exact Int32.not_lt.mp (ofN_lt0 (by omega))) (wOk.mk (n := n) (g := g) (o := o) (wOkA_up (wOkA_fire ok.A) (Or.inr ⟨rfl, by omega⟩)) ?_ ?_)
  · have e : ∀ a, ¬ (a = 1 ∨ a = 5 ∨ a = 16) → ∀ j, upw (wFireK w x n) 16 2 (w 16 2 + 1) a j = w a j := fun a h j => (upw_ne (by omega)).trans (wFireK_out (Or.inr (by omega)))
    refine okB_cg (w := w) ⟨(upw_ne (by omega)).trans (wFireK_out (Or.inr (by omega))), (upw_ne (by omega)).trans (wFireK_out (Or.inr (by omega)))⟩ (fun j _ => e 6 (by omega) j) (fun j hj => ?_) (e 12 (by omega)) (e 13 (by omega)) ok.B
    rw [show upw (wFireK w x n) 16 2 (w 16 2 + 1) 1 j = wFireK w x n 1 j from upw_ne (by omega)]
    by_cases c : j < n ∧ wFires w j = true
    · have e1 : wFireK w x n 1 j = 2 := by unfold wFireK; rw [if_pos ⟨Or.inl rfl, c.1, c.2⟩, if_pos rfl]
      rw [e1, (of_decide_eq_true c.2).1]
      exact ⟨fun q => absurd q (by decide), fun q => absurd q (by decide)⟩
    · have e1 : wFireK w x n 1 j = w 1 j := by unfold wFireK; rw [if_neg (fun q => c ⟨q.2.1, q.2.2⟩)]
      rw [e1]
  · exact okT_cg (fun i _ => (upw_ne (by omega)).trans (wFireK_out (Or.inr (by omega)))) ((upw_ne (by omega)).trans (wFireK_out (Or.inr (by omega)))) ok.T
theorem pk_empty (ok : wOk w n g o) : PK (fEmpty w n x) := by
  by_cases c0 : 0 ≤ x ∧ x < w 16 4
  rotate_left
  · exact PK1 (if_neg c0)
  by_cases c1 : wIn w n x = 0
  · exact PK3 ((if_pos c0).trans (if_pos c1))
  obtain ⟨f, hf, ef⟩ := aSm_nn (g := fun j => if w 4 j = x ∧ wTo w j = 3 then 1 else 0) (fun j => by by_cases c : w 4 j = x ∧ wTo w j = 3 <;> simp [c]) n 0
  have hn := ok.1.2.1
  have hx : ¬ x = -1 := fun q => by rw [q] at c0; exact absurd c0.1 (by decide)
  refine PK0 ((if_pos c0).trans (if_neg c1)) (by show 0 ≤ wStored w n x; unfold wStored; rw [ef]; exact Int32.not_lt.mp (ofN_lt0 (by omega))) (wOk.mk (n := n) (g := g) (o := o) (wOkA_out ok.A hx) ?_ ?_)
  · have e : ∀ a, ¬ (a = 1 ∨ a = 4) → ∀ j, wOutK w x n a j = w a j := fun a h j => wOutK_out (Or.inr h)
    refine okB_cg (w := w) ⟨e 16 (by omega) 1, e 16 (by omega) 0⟩ (fun j _ => e 6 (by omega) j) (fun j hj => ?_) (e 12 (by omega)) (e 13 (by omega)) ok.B
    by_cases c : j < n ∧ w 4 j = x
    · have e1 : wOutK w x n 1 j = wTo w j := by unfold wOutK; rw [if_pos ⟨Or.inl rfl, c.1, c.2⟩, if_pos rfl]
      rw [e1]
      refine ⟨fun q => absurd q ?_, fun q => ?_⟩
      · unfold wTo
        split
        · split <;> decide
        · decide
      · rcases (ok.2.1 j hj).2.2 with ⟨k, -⟩ | ⟨k, -⟩ | ⟨k, -⟩ | ⟨k, -⟩ | ⟨-, -, k⟩ | ⟨k, -⟩
        · rw [k] at q; exact absurd q (by decide)
        · rw [k] at q; exact absurd q (by decide)
        · rw [k] at q; exact absurd q (by decide)
        · rw [k] at q; exact absurd q (by decide)
        · exact absurd (c.2.symm.trans k) hx
        · rw [k] at q; exact absurd q (by decide)
    · have e1 : wOutK w x n 1 j = w 1 j := by unfold wOutK; rw [if_neg (fun q => c ⟨q.2.1, q.2.2⟩)]
      rw [e1]
  · exact okT_cg (fun i _ => wOutK_out (Or.inr (by omega))) (wOutK_out (Or.inr (by omega))) ok.T
end FC
