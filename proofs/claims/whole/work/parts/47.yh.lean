/-! THE MODEL FIRES AND EMPTIES -/
section YH
variable {sn : Nat} {sf : Nat → Int32} {m m1 w : aW} {n g o i j k f b L : Nat} {x y z v u s t c : Int32}
theorem wGrade_rng : wGrade w i y = 1 ∨ wGrade w i y = 2 ∨ wGrade w i y = 3 := by
  unfold wGrade
  split
  · exact Or.inr (Or.inr rfl)
  · split
    · exact Or.inr (Or.inl rfl)
    · exact Or.inl rfl
theorem okS_eq {v : aW} (h8 : v 8 = w 8) (h9 : v 9 = w 9) (k : okS w g) : okS v g := by
  unfold okS okP at k ⊢
  rw [h8, h9]
  exact k
theorem okO_eq {v : aW} (h10 : v 10 = w 10) (h11 : v 11 = w 11) (h13 : v 13 = w 13) (k : okO w i) : okO v i := by
  unfold okO at k ⊢
  rw [h10, h11, h13]
  exact k
theorem wOkA_cg {v : aW} (h : ∀ a j, (a = 0 ∨ 8 ≤ a) → v a j = w a j) (hW : ∀ j, j < n → okW v g j) (ok : wOkA w n g o) : wOkA v n g o := by
  have e : ∀ a, (a = 0 ∨ 8 ≤ a) → v a = w a := fun a ha => funext fun j => h a j ha
  obtain ⟨⟨h1, h2, h3, h4, h5, h6⟩, -, k8, k9⟩ := ok
  exact ⟨⟨by rw [h 16 3 (by omega)]; exact h1, h2, by rw [h 16 4 (by omega)]; exact h3, h4, by rw [h 16 5 (by omega)]; exact h5, h6⟩, hW, okS_eq (e 8 (by omega)) (e 9 (by omega)) k8, fun i hi => okO_eq (e 10 (by omega)) (e 11 (by omega)) (e 13 (by omega)) (k9 i hi)⟩
theorem okW_fire (ok : wOkA w n g o) (hj : j < n) : okW (wFireK w y k) g j := by
  by_cases c : j < k ∧ wFires w j = true
  · have e1 : wFireK w y k 1 j = 2 := by unfold wFireK; rw [if_pos ⟨Or.inl rfl, c.1, c.2⟩, if_pos rfl]
    have e5 : wFireK w y k 5 j = wGrade w j (wHeat w j y) := by unfold wFireK; rw [if_pos ⟨Or.inr rfl, c.1, c.2⟩, if_neg (by decide)]
    have eo : ∀ a, ¬ (a = 1 ∨ a = 5) → wFireK w y k a j = w a j := fun a h => wFireK_out (Or.inr h)
    obtain ⟨k1, k2, -⟩ := ok.2.1 j hj
    obtain ⟨l, hl, e, -⟩ := okW_1 ok hj (of_decide_eq_true c.2).1
    unfold okW
    rw [e1, e5, eo 6 (by decide), eo 2 (by decide), eo 4 (by decide)]
    exact ⟨k1, k2, Or.inr (Or.inr (Or.inl ⟨rfl, wGrade_rng, l, hl, e⟩))⟩
  · have e : ∀ a, wFireK w y k a j = w a j := fun a => by
      unfold wFireK
      rw [if_neg (fun q => c ⟨q.2.1, q.2.2⟩)]
    unfold okW
    rw [e, e, e, e, e]
    exact ok.2.1 j hj
theorem wOkA_fire (ok : wOkA w n g o) : wOkA (wFireK w y k) n g o := wOkA_cg (fun a j h => wFireK_out (Or.inr (by omega))) (fun j hj => okW_fire ok hj) ok
theorem l_doFire (d : Nat) (ok : wOkA w n g o) : ∀ (q i : Nat) (mi : aW) (x1 : Int32), i + q = n → x1 = Int32.ofNat i → Rl (wFireK w y i) (mi 0) n g o →
    ∃ m1, aEnd (aStep (aRun false (d + 7)) aCls [] aB_X8_doFire (some .int) false) (55, [some (.ref 8), some (.int y), some (.int u), some (.int x1)], [], aHn sn sf mi, (0, 0)) (.inl (some (.int u)), aHn sn sf m1, (0, 0)) ∧ (∀ a, ¬ a = 0 → m1 a = mi a) ∧ Rl (upw (wFireK w y n) 16 2 (w 16 2 + 1)) (m1 0) n g o
  | 0, i, mi, x1, hi, hx, R => by
    have hi : i = n := by omega
    subst hi
    have hn : mi 0 6 = Int32.ofNat i := R.1.2.2.2.2.2.2.1.trans (wOkA_fire ok).1.1
    have hle := ok.1.2.1
    have e5 : mi 0 5 = w 16 2 := R.1.2.2.2.2.2.1
    refine ⟨upw mi 0 5 (mi 0 5 + 1), ?_, fun a ha => ?_, ?_⟩
    · refine aVn_end (stop := fun p => p == 55) 60 ?_
      refine Exists.intro 6 (And.intro (ixN (f := 6) rfl (by omega)) ?_)
      refine And.intro (fun _ => ?_) (fun c => absurd (zgeF c hx hn (by omega) (by omega)) (by omega))
      refine Exists.intro 5 (And.intro (ixN (f := 5) rfl (by omega)) ?_)
      refine Exists.intro 5 (And.intro (ixN (f := 5) rfl (by omega)) ?_)
      exact rfl
    · funext j
      exact upw_ne (by omega)
    · rw [e5]
      exact Rl_h R ok.1.2.2.2.1 (a := 16) (l := 2) (Or.inr ⟨rfl, by omega, rfl⟩)
  | q + 1, i, mi, x1, hi, hx, R => by
    have okk := wOkA_fire (y := y) (k := i) ok
    have hn : mi 0 6 = Int32.ofNat n := R.1.2.2.2.2.2.2.1.trans okk.1.1
    have hle := ok.1.2.1
    have f1 : ∀ a, wFireK w y i a i = w a i := fun a => wFireK_out (Or.inl (Nat.lt_irrefl _))
    have fo : ∀ a j, ¬ (a = 1 ∨ a = 5) → wFireK w y i a j = w a j := fun a j h => wFireK_out (Or.inr h)
    have hF : wFires (wFireK w y i) i = wFires w i := by
      unfold wFires
      rw [f1, f1, fo 16 4 (by decide), fo 8 _ (by decide)]
    by_cases c : wFires w i = true
    · obtain ⟨k, hk, e, hf⟩ := okW_1 ok (by omega : i < n) (of_decide_eq_true c).1
      have hk8 := hf.mp c
      have ez : zn (w 4 i) = k := zn_of e (by have := ok.1.2.2.2.1; omega)
      have e' : wFireK w y i 4 i = Int32.ofNat k := (f1 4).trans e
      have eh : y - 10 * wLv (wFireK w y i) k - 5 * wFireK w y i 8 k = wHeat w i y := by
        unfold wHeat wLv
        rw [ez, fo 8 _ (by decide), fo 9 _ (by decide), if_neg hk8]
      have hG : wGrade (wFireK w y i) i (y - 10 * wLv (wFireK w y i) k - 5 * wFireK w y i 8 k) = wGrade w i (wHeat w i y) := by
        rw [eh]
        unfold wGrade wFlow
        simp only [f1, fo 0 0 (by decide), fo 0 1 (by decide)]
      have R1 := Rl_w (f := 2) (x := 2) (Rl_w (f := 6) (x := wGrade w i (wHeat w i y)) R ok.1.2.1 ok.1.2.2.2.1 (by omega : i < n) (by omega)) ok.1.2.1 ok.1.2.2.2.1 (by omega : i < n) (by omega)
      have eW : upw (upw (wFireK w y i) (wfA 6) i (wGrade w i (wHeat w i y))) (wfA 2) i 2 = wFireK w y (i + 1) := by
        rw [← wFireK_1 c]
        exact upw_com (fun q => absurd (show (5 : Nat) = 1 from q.1) (by decide))
      rw [eW] at R1
      obtain ⟨m1, h1, h2, h3⟩ := l_doFire d ok q (i + 1) (upw (upw mi 0 (9 + 7 * i + 6) (wGrade (wFireK w y i) i (y - 10 * wLv (wFireK w y i) k - 5 * wFireK w y i 8 k))) 0 (9 + 7 * i + 2) 2) (x1 + 1) (by omega) (zI_s hx) (by rw [hG]; exact R1)
      refine ⟨m1, ?_, fun a ha => (h2 a ha).trans ?_, h3⟩
      · refine aVn_end (stop := fun p => p == 55) 90 ?_
        refine Exists.intro 6 (And.intro (ixN (f := 6) rfl (by omega)) ?_)
        refine And.intro (fun c => absurd (zgeT c hx hn (by omega) (by omega)) (by omega)) (fun _ => ?_)
        refine Exists.intro _ (And.intro (y_isToFire (m := mi) (w := wFireK w y i) (d + 3) R okk hx (by omega) (if_pos (hF.trans c)).symm) ?_)
        refine And.intro (fun c => absurd (show false = true from c) (by decide)) (fun _ => ?_)
        refine Exists.intro _ (And.intro (y_at (d + 6)) ?_)
        refine Exists.intro _ (And.intro (y_where (m := mi) (d + 5) R okk hx (by omega)) ?_)
        refine Exists.intro _ (And.intro (y_heatBy (m := mi) (d + 3) R okk e' hk) ?_)
        refine Exists.intro _ (And.intro (y_classBy (m := mi) (d + 3) R okk hx (by omega)) ?_)
        refine Exists.intro (9 + 7 * i + 6) (And.intro (ixW hx (by omega) (f := 6) rfl (by omega)) ?_)
        refine Exists.intro _ (And.intro (y_at (d + 6)) ?_)
        refine Exists.intro (9 + 7 * i + 2) (And.intro (ixW hx (by omega) (f := 2) rfl (by omega)) ?_)
        exact h1
      · funext j
        rw [upw_ne (by omega), upw_ne (by omega)]
    · have cf : wFires w i = false := by simpa using c
      obtain ⟨m1, h1, h2, h3⟩ := l_doFire d ok q (i + 1) mi (x1 + 1) (by omega) (zI_s hx) (by rw [wFireK_0 cf]; exact R)
      refine ⟨m1, ?_, h2, h3⟩
      refine aVn_end (stop := fun p => p == 55) 60 ?_
      refine Exists.intro 6 (And.intro (ixN (f := 6) rfl (by omega)) ?_)
      refine And.intro (fun c => absurd (zgeT c hx hn (by omega) (by omega)) (by omega)) (fun _ => ?_)
      refine Exists.intro _ (And.intro (y_isToFire (m := mi) (w := wFireK w y i) (d + 3) R okk hx (by omega) (if_neg (fun r => c (hF.symm.trans r))).symm) ?_)
      refine And.intro (fun _ => ?_) (fun c => absurd (show true = false from c) (by decide))
      exact h1
theorem aAny_bit (p : Nat → Bool) (k : Nat) : aAny p k = 0 ∨ aAny p k = 1 := by
  rcases aFd_cases p (fun _ => (1 : Int32)) 0 k 0 with ⟨h1, -⟩ | ⟨j, -, -, -, h4, -⟩
  · exact Or.inl h1
  · exact Or.inr h4
theorem y_doFire (d : Nat) (R : Rl w (m 0) n g o) (ok : wOkA w n g o) : ∃ m1 v, aRun false (d + 8) m_X8_doFire [.ref 8, .int y] (aHn sn sf m) = some (.inl (some (.int v)), aHn sn sf m1, (0, 0)) ∧ mDo (fFire w n y) cd2 m m1 v := by
  have R0 : Rl w ((upw m 9 2 0) 0) n g o := R
  by_cases c0 : 1000 ≤ y ∧ y ≤ 1400
  rotate_left
  · have ef : fFire w n y = (-2, w) := by rw [fFire, if_neg c0]
    refine ⟨upw m 9 2 1, 0, ?_, mDo_x (Or.inr (by rw [ef])) (by rw [ef]; rfl) (by decide)⟩
    refine aRun_of rfl (aVn_end (stop := fun p => false) 60 ?_)
    refine Exists.intro _ (And.intro (y_in (d + 6) (if_neg c0).symm) ?_)
    refine And.intro (fun _ => ?_) (fun c => absurd (show true = false from c) (by decide))
    refine And.intro (fun c => absurd (show false = true from c) (by decide)) (fun _ => ?_)
    exact rfl
  have ha := y_isAnyToFire (sn := sn) (sf := sf) (m := upw m 9 2 0) (d + 2) R0 ok
  by_cases c1 : wAny w n = 0
  · rw [c1] at ha
    refine ⟨mRef (upw m 9 2 0) 2 9 0, 0, ?_, mDo_r (w := w) (by rw [fFire, if_pos c0, if_pos c1]) rfl (by decide)⟩
    refine aRun_of rfl (aVn_end (stop := fun p => false) 60 ?_)
    refine Exists.intro _ (And.intro (y_in (d + 6) (if_pos c0).symm) ?_)
    refine And.intro (fun c => absurd (show false = true from c) (by decide)) (fun _ => ?_)
    refine And.intro (fun _ => ?_) (fun c => absurd (show true = false from c) (by decide))
    refine Exists.intro _ (And.intro ha ?_)
    refine And.intro (fun c => absurd (show false = true from c) (by decide)) (fun _ => ?_)
    refine Exists.intro _ (And.intro (y_refuse (m := upw m 9 2 0) (d + 6)) ?_)
    exact rfl
  have ha1 : wAny w n = 1 := (aAny_bit (fun j => wFires w j) n).resolve_left c1
  rw [ha1] at ha
  obtain ⟨m1, h1, h2, h3⟩ := l_doFire (sn := sn) (sf := sf) (y := y) (u := wFirsts w n y) d ok n 0 (upw m 9 2 0) 0 (by omega) rfl (by rw [wFireK_z]; exact R)
  have hf := y_firstsBy (sn := sn) (sf := sf) (m := upw m 9 2 0) (y := y) (d + 2) R0 ok
  refine ⟨m1, wFirsts w n y, ?_, ?_⟩
  · refine aRun_of rfl (aVn_end (stop := fun p => p == 55) 60 ?_)
    refine Exists.intro _ (And.intro (y_in (d + 6) (if_pos c0).symm) ?_)
    refine And.intro (fun c => absurd (show false = true from c) (by decide)) (fun _ => ?_)
    refine And.intro (fun _ => ?_) (fun c => absurd (show true = false from c) (by decide))
    refine Exists.intro _ (And.intro ha ?_)
    refine And.intro (fun _ => ?_) (fun c => absurd (show true = false from c) (by decide))
    refine Exists.intro _ (And.intro hf ?_)
    exact h1
  · have ef : fFire w n y = (wFirsts w n y, upw (wFireK w y n) 16 2 (w 16 2 + 1)) := by rw [fFire, if_pos c0, if_neg c1]
    rw [ef]
    refine mDo_ok (n := n) (g := g) (o := o) ?_ rfl (fun a q0 q9 => (h2 a q0).trans ?_) (fun i hi => ?_) ?_ h3 (okN_h (wOkA_fire ok).1 (by omega))
    · obtain ⟨k, hk, e⟩ := wFirsts_nn w n y
      show 0 ≤ wFirsts w n y
      rw [e]
      exact Int32.not_lt.mp (ofN_lt0 (by have := ok.1.2.1; omega))
    · funext j
      exact upw_ne (by omega)
    · rw [h2 9 (by omega)]
      exact upw_ne (by omega)
    · rw [h2 9 (by omega)]
      exact upw_eq
theorem okW_out (ok : wOkA w n g o) (hj : j < n) (hy : ¬ y = -1) : okW (wOutK w y k) g j := by
  by_cases c : j < k ∧ w 4 j = y
  · have e1 : wOutK w y k 1 j = wTo w j := by unfold wOutK; rw [if_pos ⟨Or.inl rfl, c.1, c.2⟩, if_pos rfl]
    have e4 : wOutK w y k 4 j = -1 := by unfold wOutK; rw [if_pos ⟨Or.inr rfl, c.1, c.2⟩, if_neg (by decide)]
    have eo : ∀ a, ¬ (a = 1 ∨ a = 4) → wOutK w y k a j = w a j := fun a h => wOutK_out (Or.inr h)
    obtain ⟨k1, k2, k3⟩ := ok.2.1 j hj
    unfold okW
    rw [e1, e4, eo 6 (by decide), eo 2 (by decide), eo 5 (by decide)]
    refine ⟨k1, k2, ?_⟩
    rcases k3 with ⟨-, -, q⟩ | ⟨q1, q5, -⟩ | ⟨q1, q5, -⟩ | ⟨-, -, q⟩ | ⟨-, -, q⟩ | ⟨-, -, q⟩
    · exact absurd (c.2.symm.trans q) hy
    · refine Or.inl ⟨?_, q5, rfl⟩
      unfold wTo
      rw [if_neg (by rw [q1]; decide)]
    · rcases q5 with q5 | q5 | q5
      · refine Or.inr (Or.inr (Or.inr (Or.inl ⟨?_, Or.inl q5, rfl⟩)))
        unfold wTo
        rw [if_pos q1, if_neg (by rw [q5]; decide)]
      · refine Or.inr (Or.inr (Or.inr (Or.inl ⟨?_, Or.inr q5, rfl⟩)))
        unfold wTo
        rw [if_pos q1, if_neg (by rw [q5]; decide)]
      · refine Or.inr (Or.inr (Or.inr (Or.inr (Or.inr ⟨?_, q5, rfl⟩))))
        unfold wTo
        rw [if_pos q1, if_pos q5]
    · exact absurd (c.2.symm.trans q) hy
    · exact absurd (c.2.symm.trans q) hy
    · exact absurd (c.2.symm.trans q) hy
  · have e : ∀ a, wOutK w y k a j = w a j := fun a => by
      unfold wOutK
      rw [if_neg (fun q => c ⟨q.2.1, q.2.2⟩)]
    unfold okW
    rw [e, e, e, e, e]
    exact ok.2.1 j hj
theorem wOkA_out (ok : wOkA w n g o) (hy : ¬ y = -1) : wOkA (wOutK w y k) n g o := wOkA_cg (fun a j h => wOutK_out (Or.inr (by omega))) (fun j hj => okW_out ok hj hy) ok
end YH
