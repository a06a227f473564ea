/-! THE MODEL READS: a step is done -/
section ZM
variable {sn : Nat} {sf : Nat → Int32} {m m1 w : aW} {n g o i j k p L s : Nat} {x y z u v c : Int32} {t : Nat → Int32}
theorem mDo_2 {p : aZ} (h : mDo p cd2 m m1 v) : m1 9 2 = 2 ↔ p.1 = -3 := by
  obtain ⟨-, G, B⟩ := h
  rcases lt_or p.1 with q | q
  · rw [(G q).2.1]
    exact ⟨fun e => absurd e (by decide), fun e => absurd q (by rw [e]; decide)⟩
  · rw [(B q).2.1]
    unfold cd2
    by_cases e : p.1 = -3
    · rw [if_pos e]
      exact ⟨fun _ => e, fun _ => rfl⟩
    · rw [if_neg e]
      exact ⟨fun q => absurd q (by decide), fun q => absurd q e⟩
theorem mDo_3 {p : aZ} (h : mDo p cd3 m m1 v) : m1 9 2 = 3 ↔ p.1 = -3 := by
  obtain ⟨-, G, B⟩ := h
  rcases lt_or p.1 with q | q
  · rw [(G q).2.1]
    exact ⟨fun e => absurd e (by decide), fun e => absurd q (by rw [e]; decide)⟩
  · rw [(B q).2.1]
    unfold cd3
    by_cases e : p.1 = -3
    · rw [if_pos e]
      exact ⟨fun _ => e, fun _ => rfl⟩
    · rw [if_neg e]
      refine ⟨fun q => absurd q ?_, fun q => absurd q e⟩
      split <;> decide
theorem fPut_x (h : ¬ (0 ≤ x ∧ x < w 16 3)) : fPut w n g x y = (-1, w) := if_neg (fun q => h q.1)
theorem y_doPutA (d : Nat) (R : Rl w (m 0) n g o) (ok : wOkA w n g o) : ∃ m1 v, aRun false (d + 8) m_X8_doPut [.ref 8, .int x, .int y] (aHn sn sf m) = some (.inl (some (.int v)), aHn sn sf m1, (0, 0)) ∧ mDo (fPut w n g x y) cd2 m m1 v := by
  by_cases c : 0 ≤ x ∧ x < w 16 3
  · exact y_doPut d R ok (fa_put ok (aIx_lt c ok.1.1 ok.1.2.1 (by omega)).2.1)
  · refine ⟨upw m 9 2 1, 0, ?_, ?_⟩
    · refine aRun_of rfl (aVn_end (stop := fun p => false) 60 ?_)
      refine Exists.intro _ (And.intro (y_isWare (v := 0) (d + 5) R ok (if_neg c).symm) ?_)
      refine And.intro (fun _ => ?_) (fun q => absurd (show true = false from q) (by decide))
      refine And.intro (fun q => absurd (show false = true from q) (by decide)) (fun _ => ?_)
      exact rfl
    · rw [fPut_x c]
      exact mDo_x (Or.inl rfl) rfl (by decide)
theorem y_isRef_t (d : Nat) (R : Rl w (m 0) n g o) (ok : wOk w n g o) (hx : x = Int32.ofNat k) (hk : k < 20) (r : hRow t L m k p) (hv : t p = 116) : ∃ m1 u, aRun false (d + 9) m_X8_isRefused [.ref 8, .int x] (aHn sn sf m) = some (.inl (some (.int (if (cDo t L w p).1 = -3 then 1 else 0))), aHn sn sf m1, (0, 0)) ∧ mDo (cDo t L w p) cd2 m m1 u := by
  obtain ⟨r0, r1, r2, r3, r4⟩ := r
  have en : zn (w 16 3) = n := zn_of ok.1.1 (by have := ok.1.2.1; omega)
  have eg : zn (w 16 4) = g := zn_of ok.1.2.2.1 (by have := ok.1.2.2.2.1; omega)
  have e4 : 4 * x = Int32.ofNat (4 * k) := by rw [hx, Int32.ofNat_mul]; rfl
  have i0 : aIx (4 * x) 240 = some (4 * k) := aIx_of e4 (by omega) (by omega)
  have i1 : aIx (4 * x + 1) 240 = some (4 * k + 1) := aIx_of (zI_s e4) (by omega) (by omega)
  have i2 : aIx (4 * x + 2) 240 = some (4 * k + 2) := aIx_of (by rw [e4, Int32.ofNat_add]; rfl) (by omega) (by omega)
  have hk0 : (m 8 (4 * k)).toInt = 0 := by rw [r1, hv]; rfl
  have e : cDo t L w p = fCast w n (m 8 (4 * k + 1)) (m 8 (4 * k + 2)) 50 := by
    rw [r2, (r3 (Or.inl hv))]
    unfold cDo
    rw [if_pos hv]
    rw [en]
  rw [e]
  obtain ⟨m1, u, run, D⟩ := y_doCast (sn := sn) (sf := sf) (x := (m 8 (4 * k + 1))) (y := (m 8 (4 * k + 2))) (z := 50) d R ok.A
  have k2 := mDo_2 D
  refine ⟨m1, u, ?_, D⟩
  refine aRun_of rfl (aVn_end (stop := fun p => false) 90 ?_)
  refine Exists.intro (4 * k + 1) (And.intro i1 ?_)
  refine Exists.intro (4 * k + 2) (And.intro i2 ?_)
  refine Exists.intro (4 * k) (And.intro i0 ?_)
  refine And.intro (fun q => absurd q (by rw [hk0]; decide)) ?_
  refine And.intro (fun _ => ?_) (And.intro (fun q => absurd (hk0.symm.trans q) (by decide)) (And.intro (fun q => absurd (hk0.symm.trans q) (by decide)) (And.intro (fun q => absurd (hk0.symm.trans q) (by decide)) (And.intro (fun q => absurd (hk0.symm.trans q) (by decide)) (trivial)))))
  refine Exists.intro _ (And.intro run ?_)
  refine And.intro (fun q => ?_) (fun q => ?_)
  · exact And.intro rfl (aRi (if_neg (fun e3 => absurd (k2.mpr e3) (cT q))).symm)
  · exact And.intro rfl (aRi (if_pos (k2.mp (Decidable.not_not.mp (cF q)))).symm)
theorem y_isRef_g (d : Nat) (R : Rl w (m 0) n g o) (ok : wOk w n g o) (hx : x = Int32.ofNat k) (hk : k < 20) (r : hRow t L m k p) (hv : t p = 103) : ∃ m1 u, aRun false (d + 9) m_X8_isRefused [.ref 8, .int x] (aHn sn sf m) = some (.inl (some (.int (if (cDo t L w p).1 = -3 then 1 else 0))), aHn sn sf m1, (0, 0)) ∧ mDo (cDo t L w p) cd3 m m1 u := by
  obtain ⟨r0, r1, r2, r3, r4⟩ := r
  have en : zn (w 16 3) = n := zn_of ok.1.1 (by have := ok.1.2.1; omega)
  have eg : zn (w 16 4) = g := zn_of ok.1.2.2.1 (by have := ok.1.2.2.2.1; omega)
  have e4 : 4 * x = Int32.ofNat (4 * k) := by rw [hx, Int32.ofNat_mul]; rfl
  have i0 : aIx (4 * x) 240 = some (4 * k) := aIx_of e4 (by omega) (by omega)
  have i1 : aIx (4 * x + 1) 240 = some (4 * k + 1) := aIx_of (zI_s e4) (by omega) (by omega)
  have i2 : aIx (4 * x + 2) 240 = some (4 * k + 2) := aIx_of (by rw [e4, Int32.ofNat_add]; rfl) (by omega) (by omega)
  have i3 : aIx (4 * x + 3) 240 = some (4 * k + 3) := aIx_of (by rw [e4, Int32.ofNat_add]; rfl) (by omega) (by omega)
  have hk0 : (m 8 (4 * k)).toInt = 1 := by rw [r1, hv]; rfl
  have e : cDo t L w p = fCoat w (m 8 (4 * k + 1)) (m 8 (4 * k + 2)) (m 8 (4 * k + 3)) := by
    rw [r2, (r3 (Or.inr (Or.inl hv))), (r4 hv)]
    unfold cDo
    rw [if_neg (by rw [hv]; decide)]
    rw [if_pos hv]
  rw [e]
  obtain ⟨m1, u, run, D⟩ := y_doGlaze (sn := sn) (sf := sf) (x := (m 8 (4 * k + 1))) (y := (m 8 (4 * k + 2))) (z := (m 8 (4 * k + 3))) d R ok.A
  have k2 := mDo_3 D
  refine ⟨m1, u, ?_, D⟩
  refine aRun_of rfl (aVn_end (stop := fun p => false) 90 ?_)
  refine Exists.intro (4 * k + 1) (And.intro i1 ?_)
  refine Exists.intro (4 * k + 2) (And.intro i2 ?_)
  refine Exists.intro (4 * k) (And.intro i0 ?_)
  refine And.intro (fun q => absurd q (by rw [hk0]; decide)) ?_
  refine And.intro (fun q => absurd (hk0.symm.trans q) (by decide)) ?_
  refine And.intro (fun _ => ?_) (And.intro (fun q => absurd (hk0.symm.trans q) (by decide)) (And.intro (fun q => absurd (hk0.symm.trans q) (by decide)) (And.intro (fun q => absurd (hk0.symm.trans q) (by decide)) (trivial))))
  refine Exists.intro (4 * k + 3) (And.intro i3 ?_)
  refine Exists.intro _ (And.intro run ?_)
  refine And.intro (fun q => ?_) (fun q => ?_)
  · exact And.intro rfl (aRi (if_neg (fun e3 => absurd (k2.mpr e3) (cT q))).symm)
  · exact And.intro rfl (aRi (if_pos (k2.mp (Decidable.not_not.mp (cF q)))).symm)
theorem y_isRef_p (d : Nat) (R : Rl w (m 0) n g o) (ok : wOk w n g o) (hx : x = Int32.ofNat k) (hk : k < 20) (r : hRow t L m k p) (hv : t p = 112) : ∃ m1 u, aRun false (d + 9) m_X8_isRefused [.ref 8, .int x] (aHn sn sf m) = some (.inl (some (.int (if (cDo t L w p).1 = -3 then 1 else 0))), aHn sn sf m1, (0, 0)) ∧ mDo (cDo t L w p) cd2 m m1 u := by
  obtain ⟨r0, r1, r2, r3, r4⟩ := r
  have en : zn (w 16 3) = n := zn_of ok.1.1 (by have := ok.1.2.1; omega)
  have eg : zn (w 16 4) = g := zn_of ok.1.2.2.1 (by have := ok.1.2.2.2.1; omega)
  have e4 : 4 * x = Int32.ofNat (4 * k) := by rw [hx, Int32.ofNat_mul]; rfl
  have i0 : aIx (4 * x) 240 = some (4 * k) := aIx_of e4 (by omega) (by omega)
  have i1 : aIx (4 * x + 1) 240 = some (4 * k + 1) := aIx_of (zI_s e4) (by omega) (by omega)
  have i2 : aIx (4 * x + 2) 240 = some (4 * k + 2) := aIx_of (by rw [e4, Int32.ofNat_add]; rfl) (by omega) (by omega)
  have hk0 : (m 8 (4 * k)).toInt = 2 := by rw [r1, hv]; rfl
  have e : cDo t L w p = fPut w n g (m 8 (4 * k + 1)) (m 8 (4 * k + 2)) := by
    rw [r2, (r3 (Or.inr (Or.inr hv)))]
    unfold cDo
    rw [if_neg (by rw [hv]; decide)]
    rw [if_neg (by rw [hv]; decide)]
    rw [if_pos hv]
    rw [en, eg]
  rw [e]
  obtain ⟨m1, u, run, D⟩ := y_doPutA (sn := sn) (sf := sf) (x := (m 8 (4 * k + 1))) (y := (m 8 (4 * k + 2))) d R ok.A
  have k2 := mDo_2 D
  refine ⟨m1, u, ?_, D⟩
  refine aRun_of rfl (aVn_end (stop := fun p => false) 90 ?_)
  refine Exists.intro (4 * k + 1) (And.intro i1 ?_)
  refine Exists.intro (4 * k + 2) (And.intro i2 ?_)
  refine Exists.intro (4 * k) (And.intro i0 ?_)
  refine And.intro (fun q => absurd q (by rw [hk0]; decide)) ?_
  refine And.intro (fun q => absurd (hk0.symm.trans q) (by decide)) ?_
  refine And.intro (fun q => absurd (hk0.symm.trans q) (by decide)) ?_
  refine And.intro (fun _ => ?_) (And.intro (fun q => absurd (hk0.symm.trans q) (by decide)) (And.intro (fun q => absurd (hk0.symm.trans q) (by decide)) (trivial)))
  refine Exists.intro _ (And.intro run ?_)
  refine And.intro (fun q => ?_) (fun q => ?_)
  · exact And.intro rfl (aRi (if_neg (fun e3 => absurd (k2.mpr e3) (cT q))).symm)
  · exact And.intro rfl (aRi (if_pos (k2.mp (Decidable.not_not.mp (cF q)))).symm)
theorem y_isRef_f (d : Nat) (R : Rl w (m 0) n g o) (ok : wOk w n g o) (hx : x = Int32.ofNat k) (hk : k < 20) (r : hRow t L m k p) (hv : t p = 102) : ∃ m1 u, aRun false (d + 9) m_X8_isRefused [.ref 8, .int x] (aHn sn sf m) = some (.inl (some (.int (if (cDo t L w p).1 = -3 then 1 else 0))), aHn sn sf m1, (0, 0)) ∧ mDo (cDo t L w p) cd2 m m1 u := by
  obtain ⟨r0, r1, r2, r3, r4⟩ := r
  have en : zn (w 16 3) = n := zn_of ok.1.1 (by have := ok.1.2.1; omega)
  have eg : zn (w 16 4) = g := zn_of ok.1.2.2.1 (by have := ok.1.2.2.2.1; omega)
  have e4 : 4 * x = Int32.ofNat (4 * k) := by rw [hx, Int32.ofNat_mul]; rfl
  have i0 : aIx (4 * x) 240 = some (4 * k) := aIx_of e4 (by omega) (by omega)
  have i1 : aIx (4 * x + 1) 240 = some (4 * k + 1) := aIx_of (zI_s e4) (by omega) (by omega)
  have i2 : aIx (4 * x + 2) 240 = some (4 * k + 2) := aIx_of (by rw [e4, Int32.ofNat_add]; rfl) (by omega) (by omega)
  have hk0 : (m 8 (4 * k)).toInt = 3 := by rw [r1, hv]; rfl
  have e : cDo t L w p = fFire w n (m 8 (4 * k + 1)) := by
    rw [r2]
    unfold cDo
    rw [if_neg (by rw [hv]; decide)]
    rw [if_neg (by rw [hv]; decide)]
    rw [if_neg (by rw [hv]; decide)]
    rw [if_pos hv]
    rw [en]
  rw [e]
  obtain ⟨m1, u, run, D⟩ := y_doFire (sn := sn) (sf := sf) (y := (m 8 (4 * k + 1))) d R ok.A
  have k2 := mDo_2 D
  refine ⟨m1, u, ?_, D⟩
  refine aRun_of rfl (aVn_end (stop := fun p => false) 90 ?_)
  refine Exists.intro (4 * k + 1) (And.intro i1 ?_)
  refine Exists.intro (4 * k + 2) (And.intro i2 ?_)
  refine Exists.intro (4 * k) (And.intro i0 ?_)
  refine And.intro (fun q => absurd q (by rw [hk0]; decide)) ?_
  refine And.intro (fun q => absurd (hk0.symm.trans q) (by decide)) ?_
  refine And.intro (fun q => absurd (hk0.symm.trans q) (by decide)) ?_
  refine And.intro (fun q => absurd (hk0.symm.trans q) (by decide)) ?_
  refine And.intro (fun _ => ?_) (And.intro (fun q => absurd (hk0.symm.trans q) (by decide)) (trivial))
  refine Exists.intro _ (And.intro run ?_)
  refine And.intro (fun q => ?_) (fun q => ?_)
  · exact And.intro rfl (aRi (if_neg (fun e3 => absurd (k2.mpr e3) (cT q))).symm)
  · exact And.intro rfl (aRi (if_pos (k2.mp (Decidable.not_not.mp (cF q)))).symm)
theorem y_isRef_e (d : Nat) (R : Rl w (m 0) n g o) (ok : wOk w n g o) (hx : x = Int32.ofNat k) (hk : k < 20) (r : hRow t L m k p) (hv : t p = 101) : ∃ m1 u, aRun false (d + 9) m_X8_isRefused [.ref 8, .int x] (aHn sn sf m) = some (.inl (some (.int (if (cDo t L w p).1 = -3 then 1 else 0))), aHn sn sf m1, (0, 0)) ∧ mDo (cDo t L w p) cd2 m m1 u := by
  obtain ⟨r0, r1, r2, r3, r4⟩ := r
  have en : zn (w 16 3) = n := zn_of ok.1.1 (by have := ok.1.2.1; omega)
  have eg : zn (w 16 4) = g := zn_of ok.1.2.2.1 (by have := ok.1.2.2.2.1; omega)
  have e4 : 4 * x = Int32.ofNat (4 * k) := by rw [hx, Int32.ofNat_mul]; rfl
  have i0 : aIx (4 * x) 240 = some (4 * k) := aIx_of e4 (by omega) (by omega)
  have i1 : aIx (4 * x + 1) 240 = some (4 * k + 1) := aIx_of (zI_s e4) (by omega) (by omega)
  have i2 : aIx (4 * x + 2) 240 = some (4 * k + 2) := aIx_of (by rw [e4, Int32.ofNat_add]; rfl) (by omega) (by omega)
  have hk0 : (m 8 (4 * k)).toInt = 4 := by rw [r1, hv]; rfl
  have e : cDo t L w p = fEmpty w n (m 8 (4 * k + 1)) := by
    rw [r2]
    unfold cDo
    rw [if_neg (by rw [hv]; decide)]
    rw [if_neg (by rw [hv]; decide)]
    rw [if_neg (by rw [hv]; decide)]
    rw [if_neg (by rw [hv]; decide)]
    rw [if_pos hv]
    rw [en]
  rw [e]
  obtain ⟨m1, u, run, D⟩ := y_doEmpty (sn := sn) (sf := sf) (y := (m 8 (4 * k + 1))) d R ok.A
  have k2 := mDo_2 D
  refine ⟨m1, u, ?_, D⟩
  refine aRun_of rfl (aVn_end (stop := fun p => false) 90 ?_)
  refine Exists.intro (4 * k + 1) (And.intro i1 ?_)
  refine Exists.intro (4 * k + 2) (And.intro i2 ?_)
  refine Exists.intro (4 * k) (And.intro i0 ?_)
  refine And.intro (fun q => absurd q (by rw [hk0]; decide)) ?_
  refine And.intro (fun q => absurd (hk0.symm.trans q) (by decide)) ?_
  refine And.intro (fun q => absurd (hk0.symm.trans q) (by decide)) ?_
  refine And.intro (fun q => absurd (hk0.symm.trans q) (by decide)) ?_
  refine And.intro (fun q => absurd (hk0.symm.trans q) (by decide)) ?_
  refine And.intro (fun _ => ?_) (trivial)
  refine Exists.intro _ (And.intro run ?_)
  refine And.intro (fun q => ?_) (fun q => ?_)
  · exact And.intro rfl (aRi (if_neg (fun e3 => absurd (k2.mpr e3) (cT q))).symm)
  · exact And.intro rfl (aRi (if_pos (k2.mp (Decidable.not_not.mp (cF q)))).symm)
theorem y_isRef_s (d : Nat) (R : Rl w (m 0) n g o) (ok : wOk w n g o) (hx : x = Int32.ofNat k) (hk : k < 20) (r : hRow t L m k p) (hv : t p = 115) : ∃ m1 u, aRun false (d + 9) m_X8_isRefused [.ref 8, .int x] (aHn sn sf m) = some (.inl (some (.int (if (cDo t L w p).1 = -3 then 1 else 0))), aHn sn sf m1, (0, 0)) ∧ mDo (cDo t L w p) cd2 m m1 u := by
  obtain ⟨r0, r1, r2, r3, r4⟩ := r
  have en : zn (w 16 3) = n := zn_of ok.1.1 (by have := ok.1.2.1; omega)
  have eg : zn (w 16 4) = g := zn_of ok.1.2.2.1 (by have := ok.1.2.2.2.1; omega)
  have e4 : 4 * x = Int32.ofNat (4 * k) := by rw [hx, Int32.ofNat_mul]; rfl
  have i0 : aIx (4 * x) 240 = some (4 * k) := aIx_of e4 (by omega) (by omega)
  have i1 : aIx (4 * x + 1) 240 = some (4 * k + 1) := aIx_of (zI_s e4) (by omega) (by omega)
  have i2 : aIx (4 * x + 2) 240 = some (4 * k + 2) := aIx_of (by rw [e4, Int32.ofNat_add]; rfl) (by omega) (by omega)
  have hk0 : (m 8 (4 * k)).toInt = 5 := by rw [r1, hv]; rfl
  have e : cDo t L w p = fSell w n (m 8 (4 * k + 1)) := by
    rw [r2]
    unfold cDo
    rw [if_neg (by rw [hv]; decide)]
    rw [if_neg (by rw [hv]; decide)]
    rw [if_neg (by rw [hv]; decide)]
    rw [if_neg (by rw [hv]; decide)]
    rw [if_neg (by rw [hv]; decide)]
    rw [en]
  rw [e]
  have sl : 0 ≤ (m 8 (4 * k + 1)) ∧ (m 8 (4 * k + 1)) < w 16 5 → zn (m 8 (4 * k + 1)) < o := fun c => (aIx_lt c ok.1.2.2.2.2.1 ok.1.2.2.2.2.2 (by omega)).2.1
  obtain ⟨m1, u, run, D⟩ := y_doSell (sn := sn) (sf := sf) (y := (m 8 (4 * k + 1))) d R ok.A (fun c _ => fa_sell ok (sl c))
  have k2 := mDo_2 D
  refine ⟨m1, u, ?_, D⟩
  refine aRun_of rfl (aVn_end (stop := fun p => false) 90 ?_)
  refine Exists.intro (4 * k + 1) (And.intro i1 ?_)
  refine Exists.intro (4 * k + 2) (And.intro i2 ?_)
  refine Exists.intro (4 * k) (And.intro i0 ?_)
  refine And.intro (fun _ => ?_) ?_
  rotate_left
  · exact And.intro (fun q => absurd (hk0.symm.trans q) (by decide)) (And.intro (fun q => absurd (hk0.symm.trans q) (by decide)) (And.intro (fun q => absurd (hk0.symm.trans q) (by decide)) (And.intro (fun q => absurd (hk0.symm.trans q) (by decide)) (And.intro (fun q => absurd (hk0.symm.trans q) (by decide)) (trivial)))))
  refine Exists.intro _ (And.intro run ?_)
  refine And.intro (fun q => ?_) (fun q => ?_)
  · exact And.intro rfl (aRi (if_neg (fun e3 => absurd (k2.mpr e3) (cT q))).symm)
  · exact And.intro rfl (aRi (if_pos (k2.mp (Decidable.not_not.mp (cF q)))).symm)
theorem y_isRefused (d : Nat) (R : Rl w (m 0) n g o) (ok : wOk w n g o) (hx : x = Int32.ofNat k) (hk : k < 20) (r : hRow t L m k p) : ∃ m1 u f, aRun false (d + 9) m_X8_isRefused [.ref 8, .int x] (aHn sn sf m) = some (.inl (some (.int (if (cDo t L w p).1 = -3 then 1 else 0))), aHn sn sf m1, (0, 0)) ∧ mDo (cDo t L w p) f m m1 u := by
  by_cases c0 : t p = 116
  · obtain ⟨m1, u, h⟩ := y_isRef_t (sn := sn) (sf := sf) d R ok hx hk r c0
    exact ⟨m1, u, _, h⟩
  by_cases c1 : t p = 103
  · obtain ⟨m1, u, h⟩ := y_isRef_g (sn := sn) (sf := sf) d R ok hx hk r c1
    exact ⟨m1, u, _, h⟩
  by_cases c2 : t p = 112
  · obtain ⟨m1, u, h⟩ := y_isRef_p (sn := sn) (sf := sf) d R ok hx hk r c2
    exact ⟨m1, u, _, h⟩
  by_cases c3 : t p = 102
  · obtain ⟨m1, u, h⟩ := y_isRef_f (sn := sn) (sf := sf) d R ok hx hk r c3
    exact ⟨m1, u, _, h⟩
  by_cases c4 : t p = 101
  · obtain ⟨m1, u, h⟩ := y_isRef_e (sn := sn) (sf := sf) d R ok hx hk r c4
    exact ⟨m1, u, _, h⟩
  have c5 : t p = 115 := by
    have h0 := r.1
    by_cases hL : p < L
    rotate_left
    · rw [pS_end hL] at h0
      exact absurd h0 (show ¬ false = true by decide)
    by_cases hn : pOf (t p) = none
    · rw [pS_no hL hn] at h0
      exact absurd h0 (show ¬ false = true by decide)
    rcases pOf_some hn with hv | hv | hv | hv | hv | hv
    · exact absurd hv c0
    · exact absurd hv c1
    · exact absurd hv c2
    · exact absurd hv c3
    · exact absurd hv c4
    · exact hv
  obtain ⟨m1, u, h⟩ := y_isRef_s (sn := sn) (sf := sf) d R ok hx hk r c5
  exact ⟨m1, u, _, h⟩
end ZM
