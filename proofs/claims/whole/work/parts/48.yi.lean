/-! THE MODEL EMPTIES AND SELLS -/
section YI
variable {sn : Nat} {sf : Nat → Int32} {m m1 w : aW} {n g o i j k f b L : Nat} {x y z v u s t c : Int32}
theorem l_doEmpty (d : Nat) (ok : wOkA w n g o) (hy : ¬ y = -1) : ∀ (q i : Nat) (mi : aW) (x1 cm : Int32) (u4 u5 : Option Value), i + q = n → x1 = Int32.ofNat i → Rl (wOutK w y i) (mi 0) n g o → cm = aSm (fun j => if w 4 j = y ∧ wTo w j = 3 then 1 else 0) i 0 →
    ∃ m1, aEnd (aStep (aRun false (d + 7)) aCls [] aB_X8_doEmpty (some .int) false) (47, [some (.ref 8), some (.int y), some (.int cm), some (.int x1), u4, u5], [], aHn sn sf mi, (0, 0)) (.inl (some (.int (wStored w n y))), aHn sn sf m1, (0, 0)) ∧ (∀ a, ¬ a = 0 → m1 a = mi a) ∧ Rl (wOutK w y n) (m1 0) n g o
  | 0, i, mi, x1, cm, u4, u5, hi, hx, R, hc => by
    have hi : i = n := by omega
    subst hi
    have hn : mi 0 6 = Int32.ofNat i := R.1.2.2.2.2.2.2.1.trans (wOkA_out ok hy).1.1
    have hle := ok.1.2.1
    refine ⟨mi, ?_, fun a ha => rfl, R⟩
    refine aVn_end (stop := fun p => p == 47) 60 ?_
    refine Exists.intro 6 (And.intro (ixN (f := 6) rfl (by omega)) ?_)
    refine And.intro (fun _ => ?_) (fun c => absurd (zgeF c hx hn (by omega) (by omega)) (by omega))
    exact aRi hc
  | q + 1, i, mi, x1, cm, u4, u5, hi, hx, R, hc => by
    have okk := wOkA_out (y := y) (k := i) ok hy
    have hn : mi 0 6 = Int32.ofNat n := R.1.2.2.2.2.2.2.1.trans okk.1.1
    have hle := ok.1.2.1
    have hi60 : i < 60 := by omega
    have f1 : ∀ a, wOutK w y i a i = w a i := fun a => wOutK_out (Or.inl (Nat.lt_irrefl _))
    have hw := y_where (sn := sn) (sf := sf) (m := mi) (d + 5) R okk hx (by omega)
    have hcl := y_class (sn := sn) (sf := sf) (m := mi) (d + 5) R okk hx (by omega)
    have hst := y_state (sn := sn) (sf := sf) (m := mi) (d + 5) R okk hx (by omega)
    rw [f1] at hw hcl hst
    by_cases c : w 4 i = y
    rotate_left
    · obtain ⟨m1, h1, h2, h3⟩ := l_doEmpty d ok hy q (i + 1) mi (x1 + 1) cm u4 u5 (by omega) (zI_s hx) (by rw [wOutK_0 c]; exact R) (by rw [aSm_succ, Nat.zero_add, if_neg (fun r => c r.1), Int32.add_zero]; exact hc)
      refine ⟨m1, ?_, h2, h3⟩
      refine aVn_end (stop := fun p => p == 47) 60 ?_
      refine Exists.intro 6 (And.intro (ixN (f := 6) rfl (by omega)) ?_)
      refine And.intro (fun c => absurd (zgeT c hx hn (by omega) (by omega)) (by omega)) (fun _ => ?_)
      refine Exists.intro _ (And.intro hw ?_)
      refine And.intro (fun r => absurd (cT r) c) (fun _ => ?_)
      exact h1
    have R1 := Rl_w (f := 5) (x := -1) (Rl_w (f := 2) (x := wTo w i) R ok.1.2.1 ok.1.2.2.2.1 (by omega : i < n) (by omega)) ok.1.2.1 ok.1.2.2.2.1 (by omega : i < n) (by omega)
    have eW : upw (upw (wOutK w y i) (wfA 2) i (wTo w i)) (wfA 5) i (-1) = wOutK w y (i + 1) := by
      rw [← wOutK_1 c]
      exact upw_com (fun q => absurd (show (1 : Nat) = 4 from q.1) (by decide))
    rw [eW] at R1
    have next : ∀ (to inc : Int32) (v4 v5 : Option Value), to = wTo w i → inc = (if w 4 i = y ∧ wTo w i = 3 then 1 else 0) → ∃ m1, aEnd (aStep (aRun false (d + 7)) aCls [] aB_X8_doEmpty (some .int) false) (47, [some (.ref 8), some (.int y), some (.int (cm + inc)), some (.int (x1 + 1)), v4, v5], [], aHn sn sf (upw (upw mi 0 (9 + 7 * i + 2) to) 0 (9 + 7 * i + 5) (-1)), (0, 0)) (.inl (some (.int (wStored w n y))), aHn sn sf m1, (0, 0)) ∧ (∀ a, ¬ a = 0 → m1 a = mi a) ∧ Rl (wOutK w y n) (m1 0) n g o := by
      intro to inc v4 v5 e1 e2
      obtain ⟨m1, h1, h2, h3⟩ := l_doEmpty d ok hy q (i + 1) (upw (upw mi 0 (9 + 7 * i + 2) to) 0 (9 + 7 * i + 5) (-1)) (x1 + 1) (cm + inc) v4 v5 (by omega) (zI_s hx) (by rw [e1]; exact R1) (by rw [aSm_succ, Nat.zero_add, ← hc, e2])
      refine ⟨m1, h1, fun a ha => (h2 a ha).trans ?_, h3⟩
      funext j
      rw [upw_ne (by omega), upw_ne (by omega)]
    by_cases c1 : w 1 i = 2
    · by_cases c5 : w 5 i = 3
      · have et : (5 : Int32) = wTo w i := by unfold wTo; rw [if_pos c1, if_pos c5]
        obtain ⟨m1, h1, h2, h3⟩ := next 5 0 (some (.int 1)) (some (.int 1)) et (by rw [← et, if_neg (fun r => absurd r.2 (by decide))])
        refine ⟨m1, ?_, h2, h3⟩
        refine aVn_end (stop := fun p => p == 47) 120 ?_
        refine Exists.intro 6 (And.intro (ixN (f := 6) rfl (by omega)) ?_)
        refine And.intro (fun c => absurd (zgeT c hx hn (by omega) (by omega)) (by omega)) (fun _ => ?_)
        refine Exists.intro _ (And.intro hw ?_)
        refine And.intro (fun _ => ?_) (fun r => absurd c (cF r))
        refine Exists.intro _ (And.intro hcl ?_)
        refine And.intro (fun r => absurd c5 (cT r)) (fun _ => ?_)
        refine Exists.intro _ (And.intro hst ?_)
        refine And.intro (fun r => absurd c1 (cT r)) (fun _ => ?_)
        refine Exists.intro _ (And.intro (y_at (d + 6)) ?_)
        refine And.intro (fun _ => ?_) (fun c => absurd (show true = false from c) (by decide))
        refine And.intro (fun c => absurd (show false = true from c) (by decide)) (fun _ => ?_)
        refine Exists.intro (9 + 7 * i + 2) (And.intro (ixW hx hi60 (f := 2) rfl (by omega)) ?_)
        refine Exists.intro _ (And.intro (y_at (d + 6)) ?_)
        refine Exists.intro (9 + 7 * i + 5) (And.intro (ixW hx hi60 (f := 5) rfl (by omega)) ?_)
        refine And.intro (fun c => absurd (show false = true from c) (by decide)) (fun _ => ?_)
        refine And.intro (fun _ => ?_) (fun c => absurd (show true = false from c) (by decide))
        exact h1
      · have et : (3 : Int32) = wTo w i := by unfold wTo; rw [if_pos c1, if_neg c5]
        obtain ⟨m1, h1, h2, h3⟩ := next 3 1 (some (.int 0)) (some (.int 1)) et (by rw [if_pos ⟨c, et.symm⟩])
        refine ⟨m1, ?_, h2, h3⟩
        refine aVn_end (stop := fun p => p == 47) 120 ?_
        refine Exists.intro 6 (And.intro (ixN (f := 6) rfl (by omega)) ?_)
        refine And.intro (fun c => absurd (zgeT c hx hn (by omega) (by omega)) (by omega)) (fun _ => ?_)
        refine Exists.intro _ (And.intro hw ?_)
        refine And.intro (fun _ => ?_) (fun r => absurd c (cF r))
        refine Exists.intro _ (And.intro hcl ?_)
        refine And.intro (fun _ => ?_) (fun r => absurd (cF r) (fun q => q c5))
        refine Exists.intro _ (And.intro hst ?_)
        refine And.intro (fun r => absurd c1 (cT r)) (fun _ => ?_)
        refine Exists.intro _ (And.intro (y_at (d + 6)) ?_)
        refine And.intro (fun _ => ?_) (fun c => absurd (show true = false from c) (by decide))
        refine And.intro (fun _ => ?_) (fun c => absurd (show true = false from c) (by decide))
        refine Exists.intro (9 + 7 * i + 2) (And.intro (ixW hx hi60 (f := 2) rfl (by omega)) ?_)
        refine Exists.intro _ (And.intro (y_at (d + 6)) ?_)
        refine Exists.intro (9 + 7 * i + 5) (And.intro (ixW hx hi60 (f := 5) rfl (by omega)) ?_)
        refine And.intro (fun c => absurd (show false = true from c) (by decide)) (fun _ => ?_)
        refine And.intro (fun c => absurd (show false = true from c) (by decide)) (fun _ => ?_)
        exact h1
    · have et : (0 : Int32) = wTo w i := by unfold wTo; rw [if_neg c1]
      have e3 : (0 : Int32) = (if w 4 i = y ∧ wTo w i = 3 then 1 else 0) := by rw [← et, if_neg (fun r => absurd r.2 (by decide))]
      by_cases c5 : w 5 i = 3
      · obtain ⟨m1, h1, h2, h3⟩ := next 0 0 (some (.int 1)) (some (.int 0)) et e3
        refine ⟨m1, ?_, h2, h3⟩
        refine aVn_end (stop := fun p => p == 47) 120 ?_
        refine Exists.intro 6 (And.intro (ixN (f := 6) rfl (by omega)) ?_)
        refine And.intro (fun c => absurd (zgeT c hx hn (by omega) (by omega)) (by omega)) (fun _ => ?_)
        refine Exists.intro _ (And.intro hw ?_)
        refine And.intro (fun _ => ?_) (fun r => absurd c (cF r))
        refine Exists.intro _ (And.intro hcl ?_)
        refine And.intro (fun r => absurd c5 (cT r)) (fun _ => ?_)
        refine Exists.intro _ (And.intro hst ?_)
        refine And.intro (fun _ => ?_) (fun r => absurd (cF r) (fun q => q c1))
        refine Exists.intro _ (And.intro (y_at (d + 6)) ?_)
        refine And.intro (fun c => absurd (show false = true from c) (by decide)) (fun _ => ?_)
        refine Exists.intro (9 + 7 * i + 2) (And.intro (ixW hx hi60 (f := 2) rfl (by omega)) ?_)
        refine Exists.intro _ (And.intro (y_at (d + 6)) ?_)
        refine Exists.intro (9 + 7 * i + 5) (And.intro (ixW hx hi60 (f := 5) rfl (by omega)) ?_)
        refine And.intro (fun _ => ?_) (fun c => absurd (show true = false from c) (by decide))
        exact h1
      · obtain ⟨m1, h1, h2, h3⟩ := next 0 0 (some (.int 0)) (some (.int 0)) et e3
        refine ⟨m1, ?_, h2, h3⟩
        refine aVn_end (stop := fun p => p == 47) 120 ?_
        refine Exists.intro 6 (And.intro (ixN (f := 6) rfl (by omega)) ?_)
        refine And.intro (fun c => absurd (zgeT c hx hn (by omega) (by omega)) (by omega)) (fun _ => ?_)
        refine Exists.intro _ (And.intro hw ?_)
        refine And.intro (fun _ => ?_) (fun r => absurd c (cF r))
        refine Exists.intro _ (And.intro hcl ?_)
        refine And.intro (fun _ => ?_) (fun r => absurd (cF r) (fun q => q c5))
        refine Exists.intro _ (And.intro hst ?_)
        refine And.intro (fun _ => ?_) (fun r => absurd (cF r) (fun q => q c1))
        refine Exists.intro _ (And.intro (y_at (d + 6)) ?_)
        refine And.intro (fun c => absurd (show false = true from c) (by decide)) (fun _ => ?_)
        refine Exists.intro (9 + 7 * i + 2) (And.intro (ixW hx hi60 (f := 2) rfl (by omega)) ?_)
        refine Exists.intro _ (And.intro (y_at (d + 6)) ?_)
        refine Exists.intro (9 + 7 * i + 5) (And.intro (ixW hx hi60 (f := 5) rfl (by omega)) ?_)
        refine And.intro (fun _ => ?_) (fun c => absurd (show true = false from c) (by decide))
        exact h1
theorem y_doEmpty (d : Nat) (R : Rl w (m 0) n g o) (ok : wOkA w n g o) : ∃ m1 v, aRun false (d + 8) m_X8_doEmpty [.ref 8, .int y] (aHn sn sf m) = some (.inl (some (.int v)), aHn sn sf m1, (0, 0)) ∧ mDo (fEmpty w n y) cd2 m m1 v := by
  have R0 : Rl w ((upw m 9 2 0) 0) n g o := R
  by_cases c0 : 0 ≤ y ∧ y < w 16 4
  rotate_left
  · have ef : fEmpty w n y = (-1, w) := by rw [fEmpty, if_neg c0]
    refine ⟨upw m 9 2 1, 0, ?_, mDo_x (Or.inl (by rw [ef])) (by rw [ef]; rfl) (by decide)⟩
    refine aRun_of rfl (aVn_end (stop := fun p => false) 60 ?_)
    refine Exists.intro _ (And.intro (y_isSaggar (d + 5) R ok (if_neg c0).symm) ?_)
    refine And.intro (fun _ => ?_) (fun c => absurd (show true = false from c) (by decide))
    refine And.intro (fun c => absurd (show false = true from c) (by decide)) (fun _ => ?_)
    exact rfl
  have hyy := aIx_lt c0 ok.1.2.2.1 ok.1.2.2.2.1 (by omega)
  have hy1 : ¬ y = -1 := fun e => by have h := c0.1; rw [e] at h; exact absurd h (by decide)
  have hm := y_manyIn (sn := sn) (sf := sf) (m := upw m 9 2 0) (y := y) (d + 4) R0 ok
  by_cases c1 : wIn w n y = 0
  · refine ⟨mRef (upw m 9 2 0) 2 9 0, 0, ?_, mDo_r (w := w) (by rw [fEmpty, if_pos c0, if_pos c1]) rfl (by decide)⟩
    refine aRun_of rfl (aVn_end (stop := fun p => false) 60 ?_)
    refine Exists.intro _ (And.intro (y_isSaggar (d + 5) R ok (if_pos c0).symm) ?_)
    refine And.intro (fun c => absurd (show false = true from c) (by decide)) (fun _ => ?_)
    refine And.intro (fun _ => ?_) (fun c => absurd (show true = false from c) (by decide))
    refine Exists.intro _ (And.intro hm ?_)
    refine And.intro (fun r => absurd c1 (cT r)) (fun _ => ?_)
    refine Exists.intro _ (And.intro (y_refuse (m := upw m 9 2 0) (d + 6)) ?_)
    exact rfl
  obtain ⟨m1, h1, h2, h3⟩ := l_doEmpty (sn := sn) (sf := sf) d ok hy1 n 0 (upw m 9 2 0) 0 0 none none (by omega) rfl (by rw [wOutK_z]; exact R) rfl
  refine ⟨m1, wStored w n y, ?_, ?_⟩
  · refine aRun_of rfl (aVn_end (stop := fun p => p == 47) 60 ?_)
    refine Exists.intro _ (And.intro (y_isSaggar (d + 5) R ok (if_pos c0).symm) ?_)
    refine And.intro (fun c => absurd (show false = true from c) (by decide)) (fun _ => ?_)
    refine And.intro (fun _ => ?_) (fun c => absurd (show true = false from c) (by decide))
    refine Exists.intro _ (And.intro hm ?_)
    refine And.intro (fun _ => ?_) (fun r => absurd (cF r) (fun q => q c1))
    exact h1
  · have ef : fEmpty w n y = (wStored w n y, wOutK w y n) := by rw [fEmpty, if_pos c0, if_neg c1]
    rw [ef]
    refine mDo_ok (n := n) (g := g) (o := o) ?_ rfl (fun a q0 q9 => (h2 a q0).trans ?_) (fun i hi => ?_) ?_ h3 (wOkA_out ok hy1).1
    · obtain ⟨k, hk, e⟩ := aSm_nn (g := fun j => if w 4 j = y ∧ wTo w j = 3 then 1 else 0) (fun j => by by_cases c : w 4 j = y ∧ wTo w j = 3 <;> simp [c]) n 0
      show 0 ≤ wStored w n y
      unfold wStored
      rw [e]
      exact Int32.not_lt.mp (ofN_lt0 (by have := ok.1.2.1; omega))
    · funext j
      exact upw_ne (by omega)
    · rw [h2 9 (by omega)]
      exact upw_ne (by omega)
    · rw [h2 9 (by omega)]
      exact upw_eq
end YI
