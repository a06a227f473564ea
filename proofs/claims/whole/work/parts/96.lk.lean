/-! FACTS: how a change ends, with the answers that it can give -/
/-- how a change ends: E: the answers that tell of none -/
def PE (E : List Int32) (p : aZ) : Prop := (p.1 ∈ E ∧ (p.1 = -1 ∨ p.1 = -2)) ∨ (p.1 ∈ E ∧ p.1 = -3 ∧ (p.2 16 6 = 1 ∨ p.2 16 6 = 2)) ∨ (0 ≤ p.1 ∧ ∃ n g o, wOk p.2 n g o)
section PE1
variable {w v V W : aW} {n g o i j k q m b L : Nat} {x y z u s t : Int32} {E E1 : List Int32}
theorem PE1 {p : aZ} (h : p = (-1, w)) (hE : (-1 : Int32) ∈ E := by decide) : PE E p := by rw [h]; exact Or.inl ⟨hE, Or.inl rfl⟩
theorem PE2 {p : aZ} (h : p = (-2, w)) (hE : (-2 : Int32) ∈ E := by decide) : PE E p := by rw [h]; exact Or.inl ⟨hE, Or.inr rfl⟩
theorem PE3 {p : aZ} (h : p = (-3, wNote w x y)) (hE : (-3 : Int32) ∈ E := by decide) : PE E p := by rw [h]; exact Or.inr (Or.inl ⟨hE, rfl, Or.inl rfl⟩)
theorem PE0 {p : aZ} (h : p = (x, v)) (h0 : 0 ≤ x) (ok : wOk v n g o) : PE E p := by rw [h]; exact Or.inr (Or.inr ⟨h0, n, g, o, ok⟩)
theorem PE.mono {p : aZ} (h : PE E p) (hE : ∀ e, e ∈ E → e ∈ E1) : PE E1 p := by
  rcases h with ⟨h1, h2⟩ | ⟨h1, h2⟩ | h
  · exact Or.inl ⟨hE _ h1, h2⟩
  · exact Or.inr (Or.inl ⟨hE _ h1, h2⟩)
  · exact Or.inr (Or.inr h)
theorem pe_set (ok : wOk w n g o) : PE [-2] (fSet w x y) := by
  by_cases c0 : 0 ≤ x ∧ x ≤ 2
  rotate_left
  · exact PE2 (if_neg c0)
  by_cases c1 : aI4 0 10 5 5 (zn x) ≤ y ∧ y ≤ aI4 9 99 40 40 (zn x)
  rotate_left
  · exact PE2 ((if_pos c0).trans (if_neg c1))
  have hx : zn x ≤ 2 := zn_le (a := 2) c0.2 c0.1 (by omega)
  have hy : 0 ≤ y := by
    refine Int32.le_trans ?_ c1.1
    match zn x, hx with
    | 0, _ => decide
    | 1, _ => decide
    | 2, _ => decide
  refine PE0 ((if_pos c0).trans (if_pos c1)) (ok.T.1 _ (by omega)) (wOk.mk (n := n) (g := g) (o := o) ?_ ?_ ?_)
  · exact wOkA_up ok.A (Or.inl rfl)
  · exact okB_cg ⟨rfl, rfl⟩ (fun _ _ => rfl) (fun _ _ => Iff.rfl) (fun _ => rfl) (fun _ => rfl) ok.B
  · refine ⟨fun i hi => ?_, ok.T.2⟩
    by_cases e : i = zn x
    · subst e
      rw [upw_eq]
      exact hy
    · rw [upw_ne (by omega)]
      exact ok.T.1 i hi
theorem pe_clay (ok : wOk w n g o) : PE [-2, -3] (fClay w x) := by
  by_cases c0 : 1 ≤ x ∧ x ≤ 99
  rotate_left
  · exact PE2 (if_neg c0)
  by_cases c1 : w 16 0 + x ≤ 999
  rotate_left
  · exact PE3 ((if_pos c0).trans (if_neg c1))
  have x0 : 0 ≤ x := Int32.le_trans (by decide) c0.1
  have hx : zn x ≤ 99 := zn_le (a := 99) c0.2 x0 (by omega)
  have hs : zn (w 16 0) ≤ 999 := zn_le (a := 999) ok.T.2.2 ok.T.2.1 (by omega)
  have h0 : 0 ≤ w 16 0 + x := by
    rw [zn_nn ok.T.2.1, zn_nn x0]
    exact nn_add (by omega) (by omega)
  refine PE0 ((if_pos c0).trans (if_pos c1)) h0 (wOk.mk (n := n) (g := g) (o := o) ?_ ?_ ?_)
  · exact wOkA_up (wOkA_up ok.A (Or.inr ⟨rfl, by omega⟩)) (Or.inr ⟨rfl, by omega⟩)
  · obtain ⟨b1, b2, b3⟩ := ok.B
    refine ⟨?_, b2, b3⟩
    have e : w 16 1 + x = w 16 0 + x + aSm (fun j => fSz (w 6 j)) n 0 := by
      rw [b1, Int32.add_assoc, Int32.add_comm (aSm (fun j => fSz (w 6 j)) n 0) x, ← Int32.add_assoc]
    exact e
  · exact ⟨ok.T.1, h0, c1⟩
theorem pe_cast (ok : wOk w n g o) : PE [-2, -3] (fCast w n x y z) := by
  by_cases c0 : (0 ≤ x ∧ x ≤ 3) ∧ (1 ≤ y ∧ y ≤ 20) ∧ (30 ≤ z ∧ z ≤ 60)
  rotate_left
  · exact PE2 (if_neg c0)
  by_cases c1 : w 16 3 + y ≤ 60
  rotate_left
  · exact PE3 ((if_pos c0).trans (if_neg c1))
  by_cases c2 : y * fSz x ≤ w 16 0
  rotate_left
  · exact PE3 ((if_pos c0).trans ((if_pos c1).trans (if_neg c2)))
  have y0 : 0 ≤ y := Int32.le_trans (by decide) c0.2.1.1
  have hy : zn y ≤ 20 := zn_le (a := 20) c0.2.1.2 y0 (by omega)
  have ey := zn_nn y0
  have hs : zn (w 16 0) ≤ 999 := zn_le (a := 999) ok.T.2.2 ok.T.2.1 (by omega)
  have es := zn_nn ok.T.2.1
  have hxk : ∃ k, aIx x 4 = some k := ⟨_, aIx_le (m := 3) c0.1.1 c0.1.2 (by omega)⟩
  obtain ⟨f1, f4, ef⟩ := fSz_n hxk
  have hn := ok.1.2.1
  have e1 : w 16 3 + y = Int32.ofNat (n + zn y) := by rw [ok.1.1, Int32.ofNat_add, ← ey]
  have hnk : n + zn y ≤ 60 := (zI_le (i := n + zn y) (n := 60) e1 rfl (by omega) (by omega)).mp c1
  have ep : y * fSz x = Int32.ofNat (zn y * zn (fSz x)) := by rw [Int32.ofNat_mul, ← ey, ← ef]
  have hp : zn y * zn (fSz x) ≤ 80 := by
    have := Nat.mul_le_mul hy f4
    omega
  have hps : zn y * zn (fSz x) ≤ zn (w 16 0) := (zI_le ep es (by omega) (by omega)).mp c2
  have e2 : w 16 0 - y * fSz x = Int32.ofNat (zn (w 16 0) - zn y * zn (fSz x)) := by
    have h : w 16 0 = Int32.ofNat (zn (w 16 0) - zn y * zn (fSz x)) + y * fSz x := by
      rw [ep, ← Int32.ofNat_add, Nat.sub_add_cancel hps]
      exact es
    rw [h, Int32.add_sub_cancel]
    rw [← h]
  have h0 : 0 ≤ w 16 3 + y := by
    rw [e1]
    exact Int32.not_lt.mp (ofN_lt0 (by omega))
  have C0 : okC (upw w 16 0 (w 16 0 - y * fSz x)) n o (w 16 1) (w 16 0 - y * fSz x) := ⟨rfl, rfl, ok.B.2.1, ok.B.2.2⟩
  obtain ⟨k1, k2, k3, k4⟩ := okC_adds (x := x) (y := z) C0 (zn y)
  refine PE0 ((if_pos c0).trans ((if_pos c1).trans (if_pos c2))) h0 (wOk.mk (n := n + zn y) (g := g) (o := o) ?_ ⟨?_, k3, k4⟩ ⟨fun i hi => ?_, ?_, ?_⟩)
  · exact okA_adds (wOkA_up ok.A (Or.inr ⟨rfl, by omega⟩)) hxk (zn y) hnk
  · have e := sum_adds (w := upw w 16 0 (w 16 0 - y * fSz x)) (n := n) (x := x) (y := z) (zn y)
    have e9 : aSm (fun j => fSz (upw w 16 0 (w 16 0 - y * fSz x) 6 j)) n 0 = aSm (fun j => fSz (w 6 j)) n 0 := rfl
    have b1 := ok.B.1
    rw [k1, k2, e, e9, ← ey]
    generalize aSm (fun j => fSz (w 6 j)) n 0 = S at *
    generalize y * fSz x = Y at *
    rw [b1]
    grind
  · rw [adds_0]
    exact ok.T.1 i hi
  · rw [k2, e2]
    exact Int32.not_lt.mp (ofN_lt0 (by omega))
  · rw [k2, e2]
    exact (zI_le (x := Int32.ofNat (zn (w 16 0) - zn y * zn (fSz x))) (y := 999) (n := 999) rfl rfl (by omega) (by omega)).mpr (by omega)
theorem pe_coat (ok : wOk w n g o) : PE [-1, -2, -3] (fCoat w x y z) := by
  by_cases c0 : 0 ≤ x ∧ x < w 16 3
  rotate_left
  · exact PE1 (if_neg c0)
  by_cases c1 : (0 ≤ y ∧ y ≤ 3) ∧ (1 ≤ z ∧ z ≤ 9)
  rotate_left
  · exact PE2 ((if_pos c0).trans (if_neg c1))
  by_cases c2 : w 1 (zn x) = 0
  rotate_left
  · exact PE3 ((if_pos c0).trans ((if_pos c1).trans (if_neg c2)))
  have hyk : aIx y 4 = some (zn y) := aIx_le (m := 3) c1.1.1 c1.1.2 (by omega)
  have z0 : 0 ≤ z := Int32.le_trans (by decide) c1.2.1
  have h0 : 0 ≤ fMt y - 4 * z := by
    rw [fMt_eq hyk, zn_nn c1.1.1, zn_nn z0]
    have h1 : zn y ≤ 3 := zn_le (a := 3) c1.1.2 c1.1.1 (by omega)
    have h2 : zn z ≤ 9 := zn_le (a := 9) c1.2.2 z0 (by omega)
    exact melt_nn ⟨zn y, by omega⟩ ⟨zn z, by omega⟩
  refine PE0 ((if_pos c0).trans ((if_pos c1).trans (if_pos c2))) h0 (wOk.mk (n := n) (g := g) (o := o) ?_ ?_ ?_)
  · refine wOkA_cg (w := w) (fun a j h => (upw_ne (by omega)).trans (upw_ne (by omega))) (fun j hj => ?_) ok.A
    have q := ok.2.1 j hj
    have e : ∀ a, ¬ (a = 2 ∨ a = 3) → upw (upw w 2 (zn x) y) 3 (zn x) z a j = w a j := fun a ha => (upw_ne (by omega)).trans (upw_ne (by omega))
    unfold okW at q ⊢
    rw [e 6 (by omega), e 1 (by omega), e 5 (by omega), e 4 (by omega)]
    refine ⟨q.1, ?_, q.2.2⟩
    rw [upw_ne (by omega)]
    by_cases c : j = zn x
    · rw [c, upw_eq]
      exact Or.inr ⟨_, hyk⟩
    · rw [upw_ne (by omega)]
      exact q.2.1
  · exact okB_cg ⟨rfl, rfl⟩ (fun _ _ => rfl) (fun _ _ => Iff.rfl) (fun _ => rfl) (fun _ => rfl) ok.B
  · exact okT_cg (fun _ _ => rfl) rfl ok.T
theorem pe_sag (ok : wOk w n g o) : PE [-3] (fSag w g) := by
  by_cases c : w 16 4 < 8
  rotate_left
  · exact PE3 (if_neg c)
  have hg : g < 8 := (zI_lt (i := g) (n := 8) ok.1.2.2.1 rfl (by have := ok.1.2.2.2.1; omega) (by omega)).mp c
  have e : w 16 4 + 1 - 1 = Int32.ofNat g := by rw [Int32.add_sub_cancel]; exact ok.1.2.2.1
  refine PE0 (if_pos c) (by rw [e]; exact Int32.not_lt.mp (ofN_lt0 (by omega))) (wOk.mk (n := n) (g := g + 1) (o := o) ⟨okN_sag ok.1 hg, fun j hj => ?_, okS_sag ok.2.2.1, fun i hi => ?_⟩ ?_ ?_)
  · have q := okW_g (ok.2.1 j hj)
    unfold okW at q ⊢
    rw [add3_o (by omega), add3_o (by omega), add3_o (by omega), add3_o (by omega), add3_o (by omega)]
    exact q
  · exact okO_eq (v := wAdd3 w g) (w := w) rfl rfl rfl (ok.2.2.2.1 i hi)
  · exact okB_cg (w := w) ⟨rfl, rfl⟩ (fun _ _ => rfl) (fun _ _ => Iff.rfl) (fun _ => rfl) (fun _ => rfl) ok.B
  · exact okT_cg (fun _ _ => rfl) rfl ok.T
theorem pe_stand (ok : wOk w n g o) : PE [-1, -2, -3] (fStand w n g x y z) := by
  by_cases c0 : (0 ≤ x ∧ x < w 16 4) ∧ (if y = -1 then 0 ≤ z ∧ z ≤ 3 else 0 ≤ y ∧ y < w 16 4)
  rotate_left
  · exact PE1 (if_neg c0)
  by_cases c1 : x = y
  · exact PE2 ((if_pos c0).trans (if_pos c1))
  by_cases c2 : w 8 (zn x) = -1
  rotate_left
  · exact PE3 ((if_pos c0).trans ((if_neg c1).trans (if_pos c2)))
  have c2n : ¬ ¬ w 8 (zn x) = -1 := fun h => h c2
  by_cases c3 : ¬ y = -1 ∧ w 8 (zn y) = -1
  · exact PE3 ((if_pos c0).trans ((if_neg c1).trans ((if_neg c2n).trans (if_pos c3))))
  by_cases c4 : wAt w g (wB w y z) (wL w y) = -1
  rotate_left
  · exact PE3 ((if_pos c0).trans ((if_neg c1).trans ((if_neg c2n).trans ((if_neg c3).trans (if_pos c4)))))
  have c4n : ¬ ¬ wAt w g (wB w y z) (wL w y) = -1 := fun h => h c4
  by_cases c5 : wOver w n g (wB w y z) (wL w y) (3 + wHeld w n x) = -1
  rotate_left
  · exact PE3 ((if_pos c0).trans ((if_neg c1).trans ((if_neg c2n).trans ((if_neg c3).trans ((if_neg c4n).trans (if_pos c5))))))
  have c5n : ¬ ¬ wOver w n g (wB w y z) (wL w y) (3 + wHeld w n x) = -1 := fun h => h c5
  have hg8 := ok.1.2.2.2.1
  have okS := ok.2.2.1
  have hx := aIx_lt c0.1 ok.1.2.2.1 hg8 (by omega)
  have key : ∃ b L, b < 4 ∧ L < 8 ∧ wB w y z = Int32.ofNat b ∧ wL w y = Int32.ofNat L ∧ (∀ L', L = L' + 1 → ∃ k, k < g ∧ okP w k b L') := by
    by_cases hy : y = -1
    · have c := c0.2
      rw [if_pos hy] at c
      refine ⟨zn z, 0, ?_, by omega, ?_, ?_, fun L' h => by omega⟩
      · have := zn_le (a := 3) c.2 c.1 (by omega)
        omega
      · unfold wB
        rw [if_pos hy]
        exact zn_nn c.1
      · unfold wL
        rw [if_pos hy]
        rfl
    · have c := c0.2
      rw [if_neg hy] at c
      have hyk := aIx_lt c ok.1.2.2.1 hg8 (by omega)
      have h8 : ¬ w 8 (zn y) = -1 := fun q => c3 ⟨hy, q⟩
      obtain ⟨b, L, hb, hL, p⟩ := okS_in okS hyk.2.1 h8
      refine ⟨b, L + 1, hb, lv_up8 okS hg8 hb hL hyk.2.1 p hx.2.1 c2, ?_, ?_, fun L' h => ⟨zn y, hyk.2.1, by rw [show L' = L by omega]; exact p⟩⟩
      · unfold wB
        rw [if_neg hy]
        exact p.1
      · unfold wL
        rw [if_neg hy]
        exact zI_s p.2
  obtain ⟨b, L, hb, hL, eb, eL, und⟩ := key
  rw [eb, eL] at c4
  have free := wAt_none okS hg8 hb c4
  refine PE0 ((if_pos c0).trans ((if_neg c1).trans ((if_neg c2n).trans ((if_neg c3).trans ((if_neg (by rw [eb, eL]; exact fun h => h c4)).trans (if_neg c5n)))))) ?_ (wOk_st (i := zn x) ok ?_)
  · rw [eL]
    exact Int32.not_lt.mp (ofN_lt0 (by omega))
  · rw [eb, eL]
    exact okS_stand okS hg8 hx.2.1 c2 hb hL free und
theorem pe_down (ok : wOk w n g o) : PE [-1, -3] (fDown w g x) := by
  by_cases c0 : 0 ≤ x ∧ x < w 16 4
  rotate_left
  · exact PE1 (if_neg c0)
  by_cases c1 : w 8 (zn x) = -1
  · exact PE3 ((if_pos c0).trans (if_pos c1))
  by_cases c2 : wUp w g x = -1
  rotate_left
  · exact PE3 ((if_pos c0).trans ((if_neg c1).trans (if_pos c2)))
  have c2n : ¬ ¬ wUp w g x = -1 := fun h => h c2
  have hg8 := ok.1.2.2.2.1
  have okS := ok.2.2.1
  have hx := aIx_lt c0 ok.1.2.2.1 hg8 (by omega)
  obtain ⟨b, L, hb, hL, p⟩ := okS_in okS hx.2.1 c1
  have e : wUp w g (Int32.ofNat (zn x)) = wAt w g (Int32.ofNat b) (Int32.ofNat (L + 1)) := wUp_of (by omega) hb p
  rw [← hx.2.2, c2] at e
  refine PE0 ((if_pos c0).trans ((if_neg c1).trans (if_neg c2n))) ?_ (wOk_st (i := zn x) ok (okS_down okS hx.2.1 hb hL p (wAt_none okS hg8 hb e.symm)))
  rw [p.2]
  exact Int32.not_lt.mp (ofN_lt0 (by omega))
theorem pe_put (ok : wOk w n g o) : PE [-1, -3] (fPut w n g x y) := by
  by_cases c0 : (0 ≤ x ∧ x < w 16 3) ∧ (0 ≤ y ∧ y < w 16 4)
  rotate_left
  · exact PE1 (if_neg c0)
  by_cases c1 : w 1 (zn x) = 0
  rotate_left
  · exact PE3 ((if_pos c0).trans (if_pos c1))
  have c1n : ¬ ¬ w 1 (zn x) = 0 := fun h => h c1
  by_cases c2 : fSz (w 6 (zn x)) ≤ 6 - wHeld w n y
  rotate_left
  · exact PE3 ((if_pos c0).trans ((if_neg c1n).trans (if_pos c2)))
  have c2n : ¬ ¬ fSz (w 6 (zn x)) ≤ 6 - wHeld w n y := fun h => h c2
  by_cases c3 : wOver w n g (w 8 (zn y)) (w 9 (zn y)) (fSz (w 6 (zn x))) = -1
  rotate_left
  · exact PE3 ((if_pos c0).trans ((if_neg c1n).trans ((if_neg c2n).trans (if_pos c3))))
  have c3n : ¬ ¬ wOver w n g (w 8 (zn y)) (w 9 (zn y)) (fSz (w 6 (zn x))) = -1 := fun h => h c3
  have hx := aIx_lt c0.1 ok.1.1 ok.1.2.1 (by omega)
  have hy := aIx_lt c0.2 ok.1.2.2.1 ok.1.2.2.2.1 (by omega)
  refine PE0 ((if_pos c0).trans ((if_neg c1n).trans ((if_neg c2n).trans (if_neg c3n)))) (fa_put ok.A hx.2.1 c2) (wOk.mk (n := n) (g := g) (o := o) ?_ ?_ ?_)
  · refine wOkA_cg (w := w) (fun a j h => (upw_ne (by omega)).trans (upw_ne (by omega))) (fun j hj => ?_) ok.A
    have q := ok.2.1 j hj
    unfold okW at q ⊢
    by_cases c : j = zn x
    · subst c
      have e1 : upw (upw w 1 (zn x) 1) 4 (zn x) y 1 (zn x) = 1 := (upw_ne (by omega)).trans upw_eq
      rw [e1, upw_eq, show upw (upw w 1 (zn x) 1) 4 (zn x) y 6 (zn x) = w 6 (zn x) from rfl, show upw (upw w 1 (zn x) 1) 4 (zn x) y 2 (zn x) = w 2 (zn x) from rfl, show upw (upw w 1 (zn x) 1) 4 (zn x) y 5 (zn x) = w 5 (zn x) from rfl]
      refine ⟨q.1, q.2.1, Or.inr (Or.inl ⟨rfl, ?_, zn y, hy.2.1, hy.2.2⟩)⟩
      rcases q.2.2 with ⟨-, q5, -⟩ | ⟨q, -⟩ | ⟨q, -⟩ | ⟨q, -⟩ | ⟨q, -⟩ | ⟨q, -⟩
      · exact q5
      · rw [q] at c1; exact absurd c1 (by decide)
      · rw [q] at c1; exact absurd c1 (by decide)
      · rw [q] at c1; exact absurd c1 (by decide)
      · rw [q] at c1; exact absurd c1 (by decide)
      · rw [q] at c1; exact absurd c1 (by decide)
    · have e : ∀ a, upw (upw w 1 (zn x) 1) 4 (zn x) y a j = w a j := fun a => (upw_ne (by omega)).trans (upw_ne (by omega))
      rw [e, e, e, e, e]
      exact q
  · refine okB_cg (w := w) ⟨rfl, rfl⟩ (fun _ _ => rfl) (fun j hj => ?_) (fun _ => rfl) (fun _ => rfl) ok.B
    by_cases c : j = zn x
    · subst c
      have e1 : upw (upw w 1 (zn x) 1) 4 (zn x) y 1 (zn x) = 1 := (upw_ne (by omega)).trans upw_eq
      rw [e1, c1]
      exact ⟨fun q => absurd q (by decide), fun q => absurd q (by decide)⟩
    · rw [show upw (upw w 1 (zn x) 1) 4 (zn x) y 1 j = w 1 j from (upw_ne (by omega)).trans (upw_ne (by omega))]
  · exact okT_cg (fun _ _ => rfl) rfl ok.T
theorem pe_fire (ok : wOk w n g o) : PE [-2, -3] (fFire w n x) := by
  by_cases c0 : 1000 ≤ x ∧ x ≤ 1400
  rotate_left
  · exact PE2 (if_neg c0)
  by_cases c1 : wAny w n = 0
  · exact PE3 ((if_pos c0).trans (if_pos c1))
  obtain ⟨f, hf, ef⟩ := wFirsts_nn w n x
  have hn := ok.1.2.1
  refine PE0 ((if_pos c0).trans (if_neg c1)) (by rw [ef]; exact Int32.not_lt.mp (ofN_lt0 (by omega))) (wOk.mk (n := n) (g := g) (o := o) (wOkA_up (wOkA_fire ok.A) (Or.inr ⟨rfl, by omega⟩)) ?_ ?_)
  · have e : ∀ a, ¬ (a = 1 ∨ a = 5 ∨ a = 16) → ∀ j, upw (wFireK w x n) 16 2 (w 16 2 + 1) a j = w a j := fun a h j => (upw_ne (by omega)).trans (wFireK_out (Or.inr (by omega)))
    refine okB_cg (w := w) ⟨(upw_ne (by omega)).trans (wFireK_out (Or.inr (by omega))), (upw_ne (by omega)).trans (wFireK_out (Or.inr (by omega)))⟩ (fun j _ => e 6 (by omega) j) (fun j hj => ?_) (e 12 (by omega)) (e 13 (by omega)) ok.B
    rw [show upw (wFireK w x n) 16 2 (w 16 2 + 1) 1 j = wFireK w x n 1 j from upw_ne (by omega)]
    by_cases c : j < n ∧ wFires w j = true
    · have e1 : wFireK w x n 1 j = 2 := by unfold wFireK; rw [if_pos ⟨Or.inl rfl, c.1, c.2⟩, if_pos rfl]
      rw [e1, (of_decide_eq_true c.2).1]
      exact ⟨fun q => absurd q (by decide), fun q => absurd q (by decide)⟩
    · have e1 : wFireK w x n 1 j = w 1 j := by unfold wFireK; rw [if_neg (fun q => c ⟨q.2.1, q.2.2⟩)]
      rw [e1]
  · exact okT_cg (fun i _ => (upw_ne (by omega)).trans (wFireK_out (Or.inr (by omega)))) ((upw_ne (by omega)).trans (wFireK_out (Or.inr (by omega)))) ok.T
theorem pe_empty (ok : wOk w n g o) : PE [-1, -3] (fEmpty w n x) := by
  by_cases c0 : 0 ≤ x ∧ x < w 16 4
  rotate_left
  · exact PE1 (if_neg c0)
  by_cases c1 : wIn w n x = 0
  · exact PE3 ((if_pos c0).trans (if_pos c1))
  obtain ⟨f, hf, ef⟩ := aSm_nn (g := fun j => if w 4 j = x ∧ wTo w j = 3 then 1 else 0) (fun j => by by_cases c : w 4 j = x ∧ wTo w j = 3 <;> simp [c]) n 0
  have hn := ok.1.2.1
  have hx : ¬ x = -1 := fun q => by rw [q] at c0; exact absurd c0.1 (by decide)
  refine PE0 ((if_pos c0).trans (if_neg c1)) (by show 0 ≤ wStored w n x; unfold wStored; rw [ef]; exact Int32.not_lt.mp (ofN_lt0 (by omega))) (wOk.mk (n := n) (g := g) (o := o) (wOkA_out ok.A hx) ?_ ?_)
  · have e : ∀ a, ¬ (a = 1 ∨ a = 4) → ∀ j, wOutK w x n a j = w a j := fun a h j => wOutK_out (Or.inr h)
    refine okB_cg (w := w) ⟨e 16 (by omega) 1, e 16 (by omega) 0⟩ (fun j _ => e 6 (by omega) j) (fun j hj => ?_) (e 12 (by omega)) (e 13 (by omega)) ok.B
    by_cases c : j < n ∧ w 4 j = x
    · have e1 : wOutK w x n 1 j = wTo w j := by unfold wOutK; rw [if_pos ⟨Or.inl rfl, c.1, c.2⟩, if_pos rfl]
      rw [e1]
      refine ⟨fun q => absurd q ?_, fun q => ?_⟩
      · unfold wTo
        split
        · split <;> decide
        · decide
      · rcases (ok.2.1 j hj).2.2 with ⟨k, -⟩ | ⟨k, -⟩ | ⟨k, -⟩ | ⟨k, -⟩ | ⟨-, -, k⟩ | ⟨k, -⟩
        · rw [k] at q; exact absurd q (by decide)
        · rw [k] at q; exact absurd q (by decide)
        · rw [k] at q; exact absurd q (by decide)
        · rw [k] at q; exact absurd q (by decide)
        · exact absurd (c.2.symm.trans k) hx
        · rw [k] at q; exact absurd q (by decide)
    · have e1 : wOutK w x n 1 j = w 1 j := by unfold wOutK; rw [if_neg (fun q => c ⟨q.2.1, q.2.2⟩)]
      rw [e1]
  · exact okT_cg (fun i _ => wOutK_out (Or.inr (by omega))) (wOutK_out (Or.inr (by omega))) ok.T
theorem pe_ord (ok : wOk w n g o) : PE [-2, -3] (fOrd w o x y z u t s) := by
  by_cases c0 : (0 ≤ x ∧ x ≤ 6) ∧ (0 ≤ y ∧ y ≤ 6) ∧ (0 ≤ z ∧ z ≤ 6) ∧ (0 ≤ u ∧ u ≤ 6) ∧ (0 ≤ t ∧ t ≤ 3) ∧ ¬ x + y + z + u = 0
  rotate_left
  · exact PE2 (if_neg c0)
  by_cases c1 : w 16 5 < 6
  rotate_left
  · exact PE3 ((if_pos c0).trans (if_neg c1))
  obtain ⟨h0, h1, h2, h3, h4, h5⟩ := id c0
  have ho : o < 6 := (zI_lt (i := o) (n := 6) ok.1.2.2.2.2.1 rfl (by have := ok.1.2.2.2.2.2; omega) (by omega)).mp c1
  have hb : (if s = 0 then (0 : Int32) else 1) = 0 ∨ (if s = 0 then (0 : Int32) else 1) = 1 := by split <;> simp
  generalize hs : (if s = 0 then (0 : Int32) else 1) = b at *
  have e : fOrd w o x y z u t s = (w 16 5, wOrd w o x y z u t b) := by
    unfold fOrd
    rw [if_pos c0, if_pos c1, hs]
  refine PE0 e (by rw [ok.1.2.2.2.2.1]; exact Int32.not_lt.mp (ofN_lt0 (by omega))) (wOk.mk (n := n) (g := g) (o := o + 1) ⟨okN_ord ok.1 ho, fun j hj => ?_, ?_, fun i hi => ?_⟩ ⟨?_, fun i hi => ?_, fun k hk => ?_⟩ (okT_cg (fun i _ => wOrd_out (by omega)) (wOrd_out (by omega)) ok.T))
  · have q := ok.2.1 j hj
    unfold okW at q ⊢
    rw [wOrd_out (by omega), wOrd_out (by omega), wOrd_out (by omega), wOrd_out (by omega), wOrd_out (by omega)]
    exact q
  · exact okS_eq (v := wOrd w o x y z u t b) (w := w) (funext fun j => wOrd_out (by omega)) (funext fun j => wOrd_out (by omega)) ok.2.2.1
  · by_cases ei : i = o
    · subst ei
      refine ⟨?_, ?_, fun k hk => ?_, ?_⟩
      · rw [ord_11]
        exact hb
      · rw [ord_10]
        exact ⟨_, aIx_le (m := 3) h4.1 h4.2 (by omega)⟩
      · rw [ord_at hk]
        match k, hk with
        | 0, _ => exact h0
        | 1, _ => exact h1
        | 2, _ => exact h2
        | 3, _ => exact h3
      · rcases ord_pos h0 h1 h2 h3 h5 with p | p | p | p
        · exact ⟨0, by omega, by rw [ord_at (f := 0) (by omega)]; exact p⟩
        · exact ⟨1, by omega, by rw [ord_at (f := 1) (by omega)]; exact p⟩
        · exact ⟨2, by omega, by rw [ord_at (f := 2) (by omega)]; exact p⟩
        · exact ⟨3, by omega, by rw [ord_at (f := 3) (by omega)]; exact p⟩
    · have q := ok.2.2.2.1 i (by omega)
      unfold okO at q ⊢
      rw [wOrd_old ei (by omega), wOrd_old ei (by omega)]
      refine ⟨q.1, q.2.1, fun k hk => ?_, ?_⟩
      · rw [wOrd_old13 (by omega)]
        exact q.2.2.1 k hk
      · obtain ⟨k, hk, p⟩ := q.2.2.2
        exact ⟨k, hk, by rw [wOrd_old13 (by omega)]; exact p⟩
  · rw [wOrd_out (by omega), wOrd_out (by omega), aSm_congr (f := fun j => fSz (wOrd w o x y z u t b 6 j)) (g := fun j => fSz (w 6 j)) n 0 fun j _ hj => by rw [wOrd_out (by omega)]]
    exact ok.B.1
  · by_cases ei : i = o
    · subst ei
      rw [ord_12]
      decide
    · rw [wOrd_old ei (by omega)]
      exact ok.B.2.1 i (by omega)
  · have e1 : nSold (wOrd w o x y z u t b) n k = nSold w n k := nSm_congr n 0 fun j _ hj => by rw [wOrd_out (a := 1) (by omega), wOrd_out (a := 6) (by omega)]
    have e2 : nSoldOf (wOrd w o x y z u t b) (o + 1) k = nSoldOf w o k := by
      unfold nSoldOf
      rw [nSm_snoc, nSm_congr (f := fun i => zn (wOrd w o x y z u t b 12 i) * zn (wOrd w o x y z u t b 13 (i * 4 + k))) (g := fun i => zn (w 12 i) * zn (w 13 (i * 4 + k))) o 0 fun j _ hj => by rw [wOrd_old (a := 12) (by omega) (by omega), wOrd_old13 (by omega)]]
      rw [Nat.zero_add, ord_12, show zn 0 = 0 from rfl, Nat.zero_mul]
      rfl
    rw [e1, e2, ok.B.2.2 k hk]
theorem pe_sell (ok : wOk w n g o) : PE [-1, -3] (fSell w n x) := by
  by_cases c0 : 0 ≤ x ∧ x < w 16 5
  rotate_left
  · exact PE1 (if_neg c0)
  have hx := aIx_lt c0 ok.1.2.2.2.2.1 ok.1.2.2.2.2.2 (by omega)
  by_cases c1 : wLack w n (zn x) = -1
  rotate_left
  · have e : fSell w n x = (-3, wAhead1 (wNote w 12 (wLack w n (zn x))) 10 x) := (if_pos c0).trans (if_pos c1)
    rw [e]
    exact Or.inr (Or.inl ⟨(by decide : (-3 : Int32) ∈ [-1, -3]), rfl, Or.inr rfl⟩)
  exact PE0 ((if_pos c0).trans (if_neg (fun h => h c1))) (fa_sell ok hx.2.1) (ok_take ok hx.2.1 c1)
theorem pe_do (L : Nat) (t : Nat → Int32) (p : Nat) (ok : okk w) : PE [-1, -2, -3] (cDo t L w p) := by
  unfold cDo
  by_cases c0 : t p = 116
  · rw [if_pos c0]
    exact (pe_cast ok).mono (by decide)
  by_cases c1 : t p = 103
  · rw [if_neg c0, if_pos c1]
    exact pe_coat ok
  by_cases c2 : t p = 112
  · rw [if_neg c0, if_neg c1, if_pos c2]
    exact (pe_put ok).mono (by decide)
  by_cases c3 : t p = 102
  · rw [if_neg c0, if_neg c1, if_neg c2, if_pos c3]
    exact (pe_fire ok).mono (by decide)
  by_cases c4 : t p = 101
  · rw [if_neg c0, if_neg c1, if_neg c2, if_neg c3, if_pos c4]
    exact (pe_empty ok).mono (by decide)
  · rw [if_neg c0, if_neg c1, if_neg c2, if_neg c3, if_neg c4]
    exact (pe_sell ok).mono (by decide)
end PE1
