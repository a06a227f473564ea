/-! THE MODEL READS -/
section ZO
variable {sn : Nat} {sf : Nat → Int32} {m m1 m2 w : aW} {n g o i j k L : Nat} {x y z u v c : Int32} {t : Nat → Int32}
theorem y_fails (d : Nat) : aRun false (d + 1) m_X8_fails [.ref 8, .int x] (aHn sn sf m) = some (.inl (some (.int 0)), aHn sn sf (upw m 9 2 x), (0, 0)) := aRun_of rfl (aVn_end (stop := fun p => false) 60 rfl)
theorem l_readH (d : Nat) (hl : m 9 4 = Int32.ofNat L) (hL : L ≤ 60) (hch : ∀ j, j < L → 0 ≤ m 7 j ∧ m 7 j < 65536) : ∃ m2, (∀ r : aR, aEnd (aStep (aRun false (d + 9)) aCls [] aB_X8_read (some .int) false) (47, [some (.ref 8), none, none, none], [], aHn sn sf m2, (0, 0)) r → aRun false (d + 10) m_X8_read [.ref 8] (aHn sn sf m) = some r) ∧ mPar (m 7) L 20 0 0 (upw m 9 8 0) m2 := by
  have em : upw (upw (upw m 9 5 0) 9 6 0) 9 8 0 = mPl (upw m 9 8 0) 0 0 := by
    unfold mPl
    rw [upw_com (a := 9) (b := 9) (i := 6) (j := 8) (by omega), upw_com (a := 9) (b := 9) (i := 5) (j := 8) (by omega)]
    rfl
  have hl0 : upw m 9 8 0 9 4 = Int32.ofNat L := hl
  obtain ⟨m1, run, hst⟩ := y_readStep (sn := sn) (sf := sf) (m := upw m 9 8 0) (L := L) (p := 0) (s := 0) (d + 3) rfl (by omega) hl0 hL (by omega) (fun k => hch 0 k)
  rw [← em] at run
  obtain ⟨m2, run2, P2⟩ := l_pm (sn := sn) (sf := sf) (t := m 7) d hL hch 20 0 0 (upw m 9 8 0) m1 rfl (by omega) (by omega) rfl hl0 rfl hst
  refine ⟨m2, fun r k => ?_, P2⟩
  refine aRun_of rfl (aVn_end (stop := fun p => p == 19) 60 ?_)
  refine Exists.intro _ (And.intro run ?_)
  exact run2 r k
/-- what a text with a fault leaves -/
def mBad (m m1 : aW) (f : Int32) : Prop := m1 9 2 = 1 ∧ m1 9 7 = f ∧ m1 9 4 = 0 ∧ (∀ a, ¬ a = 8 → ¬ a = 9 → m1 a = m a) ∧ m1 9 0 = m 9 0 ∧ m1 9 1 = m 9 1 ∧ m1 9 3 = m 9 3
theorem y_readX (d : Nat) (hl : m 9 4 = Int32.ofNat L) (hL : L ≤ 60) (hch : ∀ j, j < L → 0 ≤ m 7 j ∧ m 7 j < 65536) (hf : ¬ (pGo (m 7) L 20 0).2 = -1) : ∃ m1, aRun false (d + 10) m_X8_read [.ref 8] (aHn sn sf m) = some (.inl (some (.int 0)), aHn sn sf m1, (0, 0)) ∧ mBad m m1 (pGo (m 7) L 20 0).2 := by
  obtain ⟨m2, run, fr, -, bad⟩ := l_readH (sn := sn) (sf := sf) d hl hL hch
  obtain ⟨P, hP, e1, e2, e3⟩ := bad hf
  have fr9 : ∀ j, ¬ j = 5 → ¬ j = 6 → ¬ j = 8 → m2 9 j = m 9 j := fun j h5 h6 h8 => (fr 9 j (by omega) (by omega)).trans (upw_ne (by omega))
  have hl2 : m2 9 4 = Int32.ofNat L := (fr9 4 (by omega) (by omega) (by omega)).trans hl
  refine ⟨upw (upw (upw (upw m2 9 6 1) 9 7 (m2 9 5)) 9 4 0) 9 2 1, run _ ?_, rfl, ?_, rfl, fun a h8 h9 => ?_, ?_, ?_, ?_⟩
  · have tail : aEnd (aStep (aRun false (d + 9)) aCls [] aB_X8_read (some .int) false) (66, [some (.ref 8), none, none, none], [.ref 8], aHn sn sf m2, (0, 0)) (.inl (some (.int 0)), aHn sn sf (upw (upw (upw (upw m2 9 6 1) 9 7 (m2 9 5)) 9 4 0) 9 2 1), (0, 0)) := by
      refine aVn_end (stop := fun p => false) 60 ?_
      refine And.intro (fun q => absurd (show (1 : Int32) = 0 from cT q) (by decide)) (fun _ => ?_)
      refine And.intro (fun q => absurd (show (1 : Int32) = 0 from cT q) (by decide)) (fun _ => ?_)
      refine Exists.intro _ (And.intro (y_fails (m := upw (upw (upw m2 9 6 1) 9 7 (m2 9 5)) 9 4 0) (d + 8)) ?_)
      exact rfl
    by_cases hw : m2 9 6 = 0
    · refine aVn_end (stop := fun p => p == 66) 60 ?_
      refine And.intro (fun q => absurd hw (cT q)) (fun _ => ?_)
      refine And.intro (fun q => absurd (zgeT q e2 hl2 (by omega) (by omega)) (by have := e3.resolve_left (fun k => k hw); omega)) (fun _ => ?_)
      exact tail
    · refine aVn_end (stop := fun p => p == 66) 60 ?_
      refine And.intro (fun _ => ?_) (fun q => absurd (cF q) (fun k => k hw))
      exact tail
  · show m2 9 5 = _
    rw [e2, e1]
  · funext j
    have k : upw (upw (upw (upw m2 9 6 1) 9 7 (m2 9 5)) 9 4 0) 9 2 1 a j = m2 a j := (upw_ne (by omega)).trans ((upw_ne (by omega)).trans ((upw_ne (by omega)).trans (upw_ne (by omega))))
    exact k.trans ((fr a j (by omega) (by omega)).trans (upw_ne (by omega)))
  · exact fr9 0 (by omega) (by omega) (by omega)
  · exact fr9 1 (by omega) (by omega) (by omega)
  · exact fr9 3 (by omega) (by omega) (by omega)
/-- what a text without a fault leaves ahead of its steps -/
def mGood (m m4 : aW) : Prop := m4 9 7 = -1 ∧ m4 9 4 = 0 ∧ (∀ a, ¬ a = 8 → ¬ a = 9 → m4 a = m a) ∧ m4 9 0 = m 9 0 ∧ m4 9 1 = m 9 1 ∧ m4 9 3 = m 9 3
theorem y_read (hK : cKeeps) (d : Nat) {c : Nat} (R : Rl w (m 0) n g o) (ok : wOk w n g o) (hc : m 9 1 = Int32.ofNat c) (h8 : c ≤ 8) (hl : m 9 4 = Int32.ofNat L) (hL : L ≤ 60) (hch : ∀ j, j < L → 0 ≤ m 7 j ∧ m 7 j < 65536) (hf : (pGo (m 7) L 20 0).2 = -1) : ∃ m4 m1 u, aRun false (d + 10) m_X8_read [.ref 8] (aHn sn sf m) = some (.inl (some (.int u)), aHn sn sf m1, (0, 0)) ∧ mGood m m4 ∧ mOp (cRead (m 7) L w) cd2 m4 m1 u := by
  obtain ⟨m2, run, fr, good, -⟩ := l_readH (sn := sn) (sf := sf) d hl hL hch
  obtain ⟨e1, e2, e3, e4⟩ := good hf
  have fr9 : ∀ j, ¬ j = 5 → ¬ j = 6 → ¬ j = 8 → m2 9 j = m 9 j := fun j h5 h6 h8 => (fr 9 j (by omega) (by omega)).trans (upw_ne (by omega))
  have hl2 : m2 9 4 = Int32.ofNat L := (fr9 4 (by omega) (by omega) (by omega)).trans hl
  have k4 : ∀ a j, ¬ a = 9 → upw (upw (upw m2 9 6 0) 9 7 (-1)) 9 4 0 a j = m2 a j := fun a j h => (upw_ne (by omega)).trans ((upw_ne (by omega)).trans (upw_ne (by omega)))
  have fa : ∀ a, ¬ a = 8 → ¬ a = 9 → upw (upw (upw m2 9 6 0) 9 7 (-1)) 9 4 0 a = m a := fun a h8 h9 => funext fun j => (k4 a j h9).trans ((fr a j (by omega) (by omega)).trans (upw_ne (by omega)))
  have hN4 : upw (upw (upw m2 9 6 0) 9 7 (-1)) 9 4 0 9 8 = Int32.ofNat (pGo (m 7) L 20 0).1.length := by
    have : m2 9 8 = Int32.ofNat (0 + (pGo (m 7) L 20 0).1.length) := e3
    rw [Nat.zero_add] at this
    exact this
  have hc4 : upw (upw (upw m2 9 6 0) 9 7 (-1)) 9 4 0 9 1 = Int32.ofNat c := (fr9 1 (by omega) (by omega) (by omega)).trans hc
  have R4 : Rl w (mKeep (upw (upw (upw m2 9 6 0) 9 7 (-1)) 9 4 0) 0) n g o := by
    show Rl w (upw (upw (upw m2 9 6 0) 9 7 (-1)) 9 4 0 0) n g o
    rw [fa 0 (by omega) (by omega)]
    exact R
  have e8 : upw (upw (upw m2 9 6 0) 9 7 (-1)) 9 4 0 8 = m2 8 := funext fun j => k4 8 j (by omega)
  obtain ⟨m5, u, run5, O⟩ := l_dos (sn := sn) (sf := sf) (m := upw (upw (upw m2 9 6 0) 9 7 (-1)) 9 4 0) (t := m 7) (L := L) hK d (pGo_len (m 7) L 20 0) hc4 h8 hN4 (pGo (m 7) L 20 0).1 0 w (mKeep (upw (upw (upw m2 9 6 0) 9 7 (-1)) 9 4 0)) n g o 0 none none (by omega) rfl rfl rfl rfl rfl mFr_rf R4 ok (fun k p' hk => by
    have := e4 k p' hk
    exact hRow_8 e8 this) rfl
  refine ⟨upw (upw (upw m2 9 6 0) 9 7 (-1)) 9 4 0, m5, u, run _ ?_, ⟨rfl, rfl, fa, fr9 0 (by omega) (by omega) (by omega), fr9 1 (by omega) (by omega) (by omega), fr9 3 (by omega) (by omega) (by omega)⟩, O⟩
  refine aVn_end (stop := fun p => p == 117) 60 ?_
  refine And.intro (fun q => absurd e1 (cT q)) (fun _ => ?_)
  refine And.intro (fun _ => ?_) (fun q => absurd (zgeF q e2 hl2 (by omega) (by omega)) (by omega))
  refine And.intro (fun _ => ?_) (fun q => absurd rfl (cF q))
  refine And.intro (fun _ => ?_) (fun q => absurd rfl (cF q))
  refine Exists.intro _ (And.intro (y_keep (m := upw (upw (upw m2 9 6 0) 9 7 (-1)) 9 4 0) (d + 8)) ?_)
  exact run5
end ZO
