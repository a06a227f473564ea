/-! THE MODEL SELLS: sets -/
section YK
variable {sn : Nat} {sf : Nat → Int32} {m m1 w : aW} {n g o i j k f b L : Nat} {x y z v u s t c : Int32}
theorem l_check (d : Nat) (R : Rl w (m 0) n g o) (ok : wOkA w n g o) (hy : y = Int32.ofNat j) (hj : j < o) {r : aR} (h1 : wLack w n j = -1 → ∀ z u3 u4, aEnd (aStep (aRun false (d + 6)) aCls [] aB_X8_goSell (some .int) false) (35, [some (.ref 8), some (.int y), some (.int z), u3, u4], [], aHn sn sf m, (0, 0)) r) (h2 : ¬ wLack w n j = -1 → r = (.inl (some (.int (wLack w n j))), aHn sn sf m, (0, 0))) :
    ∀ (q i : Nat) (x : Int32), i + q = 4 → x = Int32.ofNat i → wLack w n j = aFd (fun k => decide (wFor w n j (Int32.ofNat k) < w 13 (j * 4 + k))) (fun k => Int32.ofNat k) (-1) q i →
    aEnd (aStep (aRun false (d + 6)) aCls [] aB_X8_goSell (some .int) false) (2, [some (.ref 8), some (.int y), some (.int x), none, none], [], aHn sn sf m, (0, 0)) r
  | 0, i, x, hi, hx, e => by
    have hi : i = 4 := by omega
    subst hi
    have h1 := h1 e
    refine aVn_end (stop := fun p => p == 2 || p == 35) 60 ?_
    refine And.intro (fun _ => ?_) (fun c => absurd (zgeF (y := 4) (n := 4) c hx rfl (by omega) (by omega)) (by omega))
    exact h1 _ _ _
  | q + 1, i, x, hi, hx, e => by
    have ho6 := ok.1.2.2.2.2.2
    have hs := y_saleable (sn := sn) (sf := sf) (m := m) (y := y) (z := x) (d + 1) R ok hy hj hx
    rw [← wFor_eq ok] at hs
    have eA : m 0 (453 + 7 * j + i) = w 13 (j * 4 + i) := (R.2.2.2 j hj).1 i (by omega)
    by_cases c0 : wFor w n j (Int32.ofNat i) < w 13 (j * 4 + i)
    · have e2 : wLack w n j = Int32.ofNat i := e.trans (if_pos (decide_eq_true c0))
      have hr := h2 (by rw [e2]; exact ofN_m1 (by omega))
      rw [e2] at hr
      refine aVn_end (stop := fun p => p == 2) 60 ?_
      refine And.intro (fun c => absurd (zgeT (y := 4) (n := 4) c hx rfl (by omega) (by omega)) (by omega)) (fun _ => ?_)
      refine Exists.intro _ (And.intro hs ?_)
      refine Exists.intro _ (And.intro (y_orderAt (d + 5)) ?_)
      refine Exists.intro (453 + 7 * j + i) (And.intro (ixO hy (by omega) hx (by omega)) ?_)
      refine And.intro (fun c => absurd c0 (Int32.not_lt.mpr (show w 13 (j * 4 + i) ≤ wFor w n j (Int32.ofNat i) from eA ▸ cT c))) (fun _ => ?_)
      exact (aRi hx).trans hr.symm
    · have e2 : wLack w n j = aFd (fun k => decide (wFor w n j (Int32.ofNat k) < w 13 (j * 4 + k))) (fun k => Int32.ofNat k) (-1) q (i + 1) := e.trans (if_neg (fun r => c0 (of_decide_eq_true r)))
      have ih := l_check d R ok hy hj h1 h2 q (i + 1) (x + 1) (by omega) (zI_s hx) e2
      refine aVn_end (stop := fun p => p == 2) 60 ?_
      refine And.intro (fun c => absurd (zgeT (y := 4) (n := 4) c hx rfl (by omega) (by omega)) (by omega)) (fun _ => ?_)
      refine Exists.intro _ (And.intro hs ?_)
      refine Exists.intro _ (And.intro (y_orderAt (d + 5)) ?_)
      refine Exists.intro (453 + 7 * j + i) (And.intro (ixO hy (by omega) hx (by omega)) ?_)
      refine And.intro (fun _ => ?_) (fun c => absurd (show m 0 (453 + 7 * j + i) ≤ wFor w n j (Int32.ofNat i) by rw [eA]; exact Int32.not_lt.mp c0) (cF c))
      exact ih
theorem y_goSellX (d : Nat) (R : Rl w (m 0) n g o) (ok : wOkA w n g o) (hy : y = Int32.ofNat j) (hj : j < o) (h : ¬ wLack w n j = -1) : rM sn sf m (d + 7) m_X8_goSell [.ref 8, .int y] (wLack w n j) := by
  have main := l_check (sn := sn) (sf := sf) (m := m) d R ok hy hj (r := (.inl (some (.int (wLack w n j))), aHn sn sf m, (0, 0))) (fun q => absurd q h) (fun _ => rfl) 4 0 0 (by omega) rfl rfl
  refine aRun_of rfl (aVn_end (stop := fun p => p == 2) 60 ?_)
  exact main
theorem wOkA_take (h : wOkA (wSellK n j 4 w) n g o) : wOkA (wTake n j w) n g o := by
  obtain ⟨h1, h2, h3, h4⟩ := h
  refine ⟨okN_h h1 (by omega), fun l hl => ?_, ?_, fun i hi => ?_⟩
  · have q := h2 l hl
    unfold okW at q ⊢
    unfold wTake
    rw [upw_ne (by omega), upw_ne (by omega), upw_ne (by omega), upw_ne (by omega), upw_ne (by omega)]
    exact q
  · exact okS_eq (v := wTake n j w) (w := wSellK n j 4 w) rfl rfl h3
  · exact okO_eq (v := wTake n j w) (w := wSellK n j 4 w) rfl rfl rfl (h4 i hi)
theorem y_goSell (d : Nat) (R : Rl w (m 0) n g o) (ok : wOkA w n g o) (hy : y = Int32.ofNat j) (hj : j < o) (h : wLack w n j = -1) : ∃ m1, aRun false (d + 7) m_X8_goSell [.ref 8, .int y] (aHn sn sf m) = some (.inl (some (.int (-1))), aHn sn sf m1, (0, 0)) ∧ (∀ a, ¬ a = 0 → m1 a = m a) ∧ Rl (wTake n j w) (m1 0) n g o ∧ wOkA (wTake n j w) n g o := by
  have ho6 := ok.1.2.2.2.2.2
  obtain ⟨m2, h1, h2, h3, h4⟩ := l_sellK (sn := sn) (sf := sf) d hy hj 4 0 m 0 (by omega) rfl R ok
  have e12 : m2 0 (453 + 7 * j + 6) = wSellK n j 4 w 12 j := (h3.2.2.2 j hj).2.2.2
  have R2 := Rl_sold (x := wSellK n j 4 w 12 j + 1) h3 ok.1.2.1 ok.1.2.2.2.1 hj
  have i6 : aIx (453 + 7 * y + 6) 495 = some (453 + 7 * j + 6) := ixO hy (by omega) (f := 6) rfl (by omega)
  refine ⟨upw m2 0 (453 + 7 * j + 6) (m2 0 (453 + 7 * j + 6) + 1), ?_, fun a ha => ?_, ?_, wOkA_take h4⟩
  · have fin : ∀ z' u3 u4, aEnd (aStep (aRun false (d + 6)) aCls [] aB_X8_goSell (some .int) false) (112, [some (.ref 8), some (.int y), some (.int z'), u3, u4], [], aHn sn sf m2, (0, 0)) (.inl (some (.int (-1))), aHn sn sf (upw m2 0 (453 + 7 * j + 6) (m2 0 (453 + 7 * j + 6) + 1)), (0, 0)) := by
      intro z' u3 u4
      refine aVn_end (stop := fun p => false) 60 ?_
      refine Exists.intro _ (And.intro (y_orderAt (d + 5)) ?_)
      refine Exists.intro (453 + 7 * j + 6) (And.intro i6 ?_)
      refine Exists.intro (453 + 7 * j + 6) (And.intro i6 ?_)
      exact rfl
    have from37 := fun u3 u4 => h1 u3 u4 _ fin
    have main := l_check (sn := sn) (sf := sf) (m := m) d R ok hy hj (r := (.inl (some (.int (-1))), aHn sn sf (upw m2 0 (453 + 7 * j + 6) (m2 0 (453 + 7 * j + 6) + 1)), (0, 0))) (fun _ z u3 u4 => by
      refine aVn_end (stop := fun p => p == 37) 60 ?_
      exact from37 u3 u4) (fun q => absurd h q) 4 0 0 (by omega) rfl rfl
    refine aRun_of rfl (aVn_end (stop := fun p => p == 2) 60 ?_)
    exact main
  · rw [← h2 a ha]
    funext c
    exact upw_ne (by omega)
  · rw [e12]
    exact R2
theorem mDo_s {p : aZ} (h : p = (-3, wAhead1 (wNote w 12 y) 10 x)) : mDo p cd2 m (mBef1 (mRef (upw m 9 2 0) 2 12 y) 10 x) v := by
  subst h
  have e : ∀ a i, mBef1 (mRef (upw m 9 2 0) 2 12 y) 10 x a i = if a = 9 ∧ i = 3 then 2 else if a = 6 ∧ i = 0 then x else if a = 5 ∧ i = 0 then 10 else if a = 6 ∧ i = 1 then y else if a = 5 ∧ i = 1 then 12 else if a = 9 ∧ i = 2 then 2 else m a i := by
    intro a i
    unfold mBef1 mRef
    by_cases c1 : a = 9 ∧ i = 3
    · obtain ⟨rfl, rfl⟩ := c1
      rw [upw_eq]; rfl
    · rw [if_neg c1, upw_ne c1]
      by_cases c2 : a = 6 ∧ i = 0
      · obtain ⟨rfl, rfl⟩ := c2
        rw [upw_eq]; rfl
      · rw [if_neg c2, upw_ne c2]
        by_cases c3 : a = 5 ∧ i = 0
        · obtain ⟨rfl, rfl⟩ := c3
          rw [upw_eq]; rfl
        · rw [if_neg c3, upw_ne c3]
          by_cases c4 : a = 6 ∧ i = 1
          · obtain ⟨rfl, rfl⟩ := c4
            rw [upw_eq]; rfl
          · rw [if_neg c4, upw_ne c4]
            by_cases c5 : a = 5 ∧ i = 1
            · obtain ⟨rfl, rfl⟩ := c5
              rw [upw_eq]; rfl
            · rw [if_neg c5, upw_ne c5, upw_ne (by omega), upw_ne (by omega), upw_ne (by omega)]
              by_cases c6 : a = 9 ∧ i = 2
              · obtain ⟨rfl, rfl⟩ := c6
                rw [upw_eq]; rfl
              · rw [if_neg c6, upw_ne c6, upw_ne c6]
  refine ⟨⟨fun a h0 h5 h6 h9 => funext fun i => ?_, fun i h2 h3 => ?_⟩, fun q => absurd (show (-3 : Int32) < 0 by decide) (Int32.not_lt.mpr q), fun _ => ⟨funext fun i => ?_, ?_, (show (0 : Int32) < cd2 (-3) by decide), fun q => absurd rfl q, fun _ => ⟨2, by omega, by omega, ?_, ?_, fun i hi => ?_⟩⟩⟩
  · rw [e, if_neg (by omega), if_neg (by omega), if_neg (by omega), if_neg (by omega), if_neg (by omega), if_neg (by omega)]
  · rw [e, if_neg (by omega), if_neg (by omega), if_neg (by omega), if_neg (by omega), if_neg (by omega), if_neg (by omega)]
  · rw [e, if_neg (by omega), if_neg (by omega), if_neg (by omega), if_neg (by omega), if_neg (by omega), if_neg (by omega)]
  · rw [e, if_neg (by omega), if_neg (by omega), if_neg (by omega), if_neg (by omega), if_neg (by omega), if_pos ⟨rfl, rfl⟩]
    rfl
  · rfl
  · rw [e, if_pos ⟨rfl, rfl⟩]
    rfl
  · match i, hi with
    | 0, _ =>
      refine ⟨?_, ?_⟩
      · rw [e]; rfl
      · rw [e]; rfl
    | 1, _ =>
      refine ⟨?_, ?_⟩
      · rw [e]; rfl
      · rw [e]; rfl
theorem y_doSell (d : Nat) (R : Rl w (m 0) n g o) (ok : wOkA w n g o) (h0 : 0 ≤ y ∧ y < w 16 5 → wLack w n (zn y) = -1 → 0 ≤ wTake n (zn y) w 12 (zn y)) : ∃ m1 v, aRun false (d + 8) m_X8_doSell [.ref 8, .int y] (aHn sn sf m) = some (.inl (some (.int v)), aHn sn sf m1, (0, 0)) ∧ mDo (fSell w n y) cd2 m m1 v := by
  have R0 : Rl w ((upw m 9 2 0) 0) n g o := R
  by_cases c0 : 0 ≤ y ∧ y < w 16 5
  rotate_left
  · have ef : fSell w n y = (-1, w) := by rw [fSell, if_neg c0]
    refine ⟨upw m 9 2 1, 0, ?_, mDo_x (Or.inl (by rw [ef])) (by rw [ef]; rfl) (by decide)⟩
    refine aRun_of rfl (aVn_end (stop := fun p => false) 60 ?_)
    refine Exists.intro _ (And.intro (y_isOrder (d + 5) R ok (if_neg c0).symm) ?_)
    refine And.intro (fun _ => ?_) (fun c => absurd (show true = false from c) (by decide))
    refine And.intro (fun c => absurd (show false = true from c) (by decide)) (fun _ => ?_)
    exact rfl
  have hyy := aIx_lt c0 ok.1.2.2.2.2.1 ok.1.2.2.2.2.2 (by omega)
  have ho6 := ok.1.2.2.2.2.2
  have hy6 := hyy.2.1
  by_cases c1 : wLack w n (zn y) = -1
  rotate_left
  · have hg := y_goSellX (sn := sn) (sf := sf) (m := upw m 9 2 0) d R0 ok hyy.2.2 hyy.2.1 c1
    have hnl : ¬ wLack w n (zn y) < 0 := by
      rcases aFd_cases (fun k => decide (wFor w n (zn y) (Int32.ofNat k) < w 13 (zn y * 4 + k))) (fun k => Int32.ofNat k) (-1) 4 0 with ⟨q, -⟩ | ⟨l, -, hl, -, q, -⟩
      · exact absurd q c1
      · unfold wLack
        rw [q]
        exact ofN_lt0 (by omega)
    refine ⟨mBef1 (mRef (upw m 9 2 0) 2 12 (wLack w n (zn y))) 10 y, 0, ?_, mDo_s (w := w) (by rw [fSell, if_pos c0, if_pos c1])⟩
    refine aRun_of rfl (aVn_end (stop := fun p => false) 60 ?_)
    refine Exists.intro _ (And.intro (y_isOrder (d + 5) R ok (if_pos c0).symm) ?_)
    refine And.intro (fun c => absurd (show false = true from c) (by decide)) (fun _ => ?_)
    refine And.intro (fun _ => ?_) (fun c => absurd (show true = false from c) (by decide))
    refine Exists.intro _ (And.intro hg ?_)
    refine And.intro (fun r => absurd (cT r) hnl) (fun _ => ?_)
    refine Exists.intro _ (And.intro (y_refuse (m := upw m 9 2 0) (d + 6)) ?_)
    refine Exists.intro _ (And.intro (y_before1 (m := mRef (upw m 9 2 0) 2 12 (wLack w n (zn y))) (d + 6)) ?_)
    exact rfl
  obtain ⟨m1, h1, h2, h3, h4⟩ := y_goSell (sn := sn) (sf := sf) (m := upw m 9 2 0) d R0 ok hyy.2.2 hyy.2.1 c1
  have e12 : m1 0 (453 + 7 * zn y + 6) = wTake n (zn y) w 12 (zn y) := (h3.2.2.2 _ hyy.2.1).2.2.2
  have i6 : aIx (453 + 7 * y + 6) 495 = some (453 + 7 * zn y + 6) := ixO hyy.2.2 (by omega) (f := 6) rfl (by omega)
  refine ⟨m1, m1 0 (453 + 7 * zn y + 6), ?_, ?_⟩
  · refine aRun_of rfl (aVn_end (stop := fun p => false) 60 ?_)
    refine Exists.intro _ (And.intro (y_isOrder (d + 5) R ok (if_pos c0).symm) ?_)
    refine And.intro (fun c => absurd (show false = true from c) (by decide)) (fun _ => ?_)
    refine And.intro (fun _ => ?_) (fun c => absurd (show true = false from c) (by decide))
    refine Exists.intro _ (And.intro h1 ?_)
    refine And.intro (fun _ => ?_) (fun c => absurd (show true = false from c) (by decide))
    refine Exists.intro _ (And.intro (y_orderAt (d + 6)) ?_)
    refine Exists.intro (453 + 7 * zn y + 6) (And.intro i6 ?_)
    exact rfl
  · have ef : fSell w n y = (wTake n (zn y) w 12 (zn y), wTake n (zn y) w) := by rw [fSell, if_pos c0, if_neg (fun q => q c1)]
    rw [ef]
    refine mDo_ok (n := n) (g := g) (o := o) (h0 c0 c1) e12 (fun a q0 q9 => (h2 a q0).trans ?_) (fun i hi => ?_) ?_ h3 h4.1
    · funext c
      exact upw_ne (by omega)
    · rw [h2 9 (by omega)]
      exact upw_ne (by omega)
    · rw [h2 9 (by omega)]
      exact upw_eq
end YK
