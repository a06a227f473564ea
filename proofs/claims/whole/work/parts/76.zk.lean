/-! THE MODEL READS: the text's steps -/
theorem pS_two {t : Nat → Int32} {L p : Nat} (hp : p ≤ L) (h : (pS t L p).1 = true) : p + 2 ≤ (pS t L p).2.1 := by
  by_cases hL : p < L
  rotate_left
  · rw [pS_end hL] at h
    exact absurd h (show ¬ false = true by decide)
  by_cases hn : pOf (t p) = none
  · rw [pS_no hL hn] at h
    exact absurd h (show ¬ false = true by decide)
  have key : ∀ (pl le mo : Nat) (r : List pI), 1 ≤ le → pOf (t p) = some (.inr (pl, le, mo) :: r) → p + 2 ≤ (pS t L p).2.1 := by
    intro pl le mo r hle e
    rw [pS_of hL e] at h ⊢
    have hr := nRun_le (t := t) (L := L) mo (p + 1) 0 hL
    by_cases q : le ≤ (nRun t L mo (p + 1) 0).2.2
    · rw [pI_n q]
      have := pIts_pos t L r (nRun t L mo (p + 1) 0).1 (upd (fun _ => 0) pl (nRun t L mo (p + 1) 0).2.1) hr.2.1
      omega
    · rw [pI_no q] at h
      exact absurd h (show ¬ false = true by decide)
  rcases pOf_some hn with hv | hv | hv | hv | hv | hv
  · exact key 0 1 1 _ (by omega) (by rw [hv]; rfl)
  · exact key 0 1 2 _ (by omega) (by rw [hv]; rfl)
  · exact key 0 1 2 _ (by omega) (by rw [hv]; rfl)
  · exact key 0 4 4 _ (by omega) (by rw [hv]; rfl)
  · exact key 0 1 1 _ (by omega) (by rw [hv]; rfl)
  · exact key 0 1 1 _ (by omega) (by rw [hv]; rfl)
def mPar (t : Nat → Int32) (L f i p : Nat) (mi m2 : aW) : Prop := (∀ a j, ¬ (a = 9 ∧ (j = 5 ∨ j = 6 ∨ j = 8)) → ¬ (a = 8 ∧ 4 * i ≤ j) → m2 a j = mi a j) ∧
  ((pGo t L f p).2 = -1 → m2 9 6 = 0 ∧ m2 9 5 = Int32.ofNat L ∧ m2 9 8 = Int32.ofNat (i + (pGo t L f p).1.length) ∧ ∀ k p', (pGo t L f p).1[k]? = some p' → hRow t L m2 (i + k) p') ∧
  (¬ (pGo t L f p).2 = -1 → ∃ P, P ≤ L ∧ (pGo t L f p).2 = Int32.ofNat P ∧ m2 9 5 = Int32.ofNat P ∧ (¬ m2 9 6 = 0 ∨ P < L))
section ZK
variable {sn : Nat} {sf : Nat → Int32} {m W : aW} {L p s : Nat} {t : Nat → Int32} {x y z c : Int32}
theorem hRow_fr {m1 m2 : aW} {i : Nat} (h : ∀ j, j < 4 * (i + 1) → m2 8 j = m1 8 j) (r : hRow t L m1 i p) : hRow t L m2 i p :=
  ⟨r.1, (h _ (by omega)).trans r.2.1, (h _ (by omega)).trans r.2.2.1, fun k => (h _ (by omega)).trans (r.2.2.2.1 k), fun k => (h _ (by omega)).trans (r.2.2.2.2 k)⟩
theorem l_pm (d : Nat) (hL : L ≤ 60) (hch : ∀ j, j < L → 0 ≤ t j ∧ t j < 65536) : ∀ (f i p : Nat) (mi m1 : aW), i + f = 20 → 3 * i ≤ p → p ≤ L → mi 9 8 = Int32.ofNat i → mi 9 4 = Int32.ofNat L → mi 7 = t → mStep mi m1 i p L →
    ∃ m2, (∀ r : aR, aEnd (aStep (aRun false (d + 9)) aCls [] aB_X8_read (some .int) false) (47, [some (.ref 8), none, none, none], [], aHn sn sf m2, (0, 0)) r → aEnd (aStep (aRun false (d + 9)) aCls [] aB_X8_read (some .int) false) (19, [some (.ref 8), none, none, none], [], aHn sn sf m1, (0, 0)) r) ∧ mPar t L f i p mi m2 := by
  intro f
  induction f with
  | zero =>
    intro i p mi m1 hi h3 hp hs hl ht hst
    subst ht
    obtain ⟨q5, q6, fr, -⟩ := hst
    rw [pS_end (by omega)] at q5 q6
    have hw : ¬ m1 9 6 = 0 := by
      rw [show m1 9 6 = hOk false from q6]
      decide
    refine ⟨m1, fun r k => ?_, fr, fun k => absurd k (ofN_m1 (by omega)), fun _ => ⟨p, hp, rfl, q5, Or.inl hw⟩⟩
    refine aVn_end (stop := fun p => p == 47) 60 ?_
    refine Exists.intro _ (And.intro (y_isHereW (d + 7) hw) ?_)
    refine And.intro (fun _ => ?_) (fun q => absurd (show true = false from q) (by decide))
    exact k
  | succ f ih =>
    intro i p mi m1 hi h3 hp hs hl ht hst
    subst ht
    obtain ⟨q5, q6, fr, hok⟩ := hst
    have hl1 : m1 9 4 = Int32.ofNat L := (fr 9 4 (by omega) (by omega)).trans hl
    have h7 : m1 7 = mi 7 := funext fun j => fr 7 j (by omega) (by omega)
    have hle := (pS_pos (t := mi 7) (L := L) hp).2
    unfold mPar
    by_cases c : (pS (mi 7) L p).1 = true
    rotate_left
    · have e : pGo (mi 7) L (f + 1) p = ([], Int32.ofNat (pS (mi 7) L p).2.1) := if_neg c
      have hw : ¬ m1 9 6 = 0 := by
        rw [q6]
        unfold hOk
        rw [if_neg c]
        decide
      rw [e]
      refine ⟨m1, fun r k => ?_, fr, fun k => absurd k (ofN_m1 (by omega)), fun _ => ⟨_, hle, rfl, q5, Or.inl hw⟩⟩
      refine aVn_end (stop := fun p => p == 47) 60 ?_
      refine Exists.intro _ (And.intro (y_isHereW (d + 7) hw) ?_)
      refine And.intro (fun _ => ?_) (fun q => absurd (show true = false from q) (by decide))
      exact k
    obtain ⟨h8, row⟩ := hok c
    have hw : m1 9 6 = 0 := by
      rw [q6]
      unfold hOk
      rw [if_pos c]
    have h8i : m1 9 8 = Int32.ofNat (i + 1) := h8.trans (zI_s hs)
    have h2 := pS_two hp c
    generalize hP : (pS (mi 7) L p).2.1 = P at *
    by_cases cL : P < L
    rotate_left
    · have e : pGo (mi 7) L (f + 1) p = ([p], -1) := (if_pos c).trans (if_neg (by rw [hP]; exact cL))
      have hPL : P = L := by omega
      have hn : rM sn sf m1 (d + 7 + 2) m_X8_isHere [.ref 8, .int 59, .int 59] 0 := y_isHere (d + 7) hw q5 hl1 hL (by omega) (if_neg (fun k => cL k.1)).symm
      rw [e]
      refine ⟨m1, fun r k => ?_, fr, fun _ => ⟨hw, by rw [q5, hPL], h8i, fun k p' hk => ?_⟩, fun k => absurd rfl k⟩
      · refine aVn_end (stop := fun p => p == 47) 60 ?_
        refine Exists.intro _ (And.intro hn ?_)
        refine And.intro (fun _ => ?_) (fun q => absurd (show true = false from q) (by decide))
        exact k
      · match k, hk with
        | 0, hk =>
          cases hk
          exact row
        | k + 1, hk => simp at hk
    by_cases c9 : mi 7 P = 59
    rotate_left
    · have e : pGo (mi 7) L (f + 1) p = ([p], Int32.ofNat P) := by
        refine (if_pos c).trans ?_
        rw [hP]
        exact (if_pos cL).trans (if_neg c9)
      have hn : rM sn sf m1 (d + 7 + 2) m_X8_isHere [.ref 8, .int 59, .int 59] 0 := y_isHere (d + 7) hw q5 hl1 hL (by omega) (if_neg (fun k => c9 (by rw [h7] at k; exact Int32.le_antisymm k.2.2 k.2.1))).symm
      rw [e]
      refine ⟨m1, fun r k => ?_, fr, fun k => absurd k (ofN_m1 (by omega)), fun _ => ⟨P, by omega, rfl, q5, Or.inr cL⟩⟩
      refine aVn_end (stop := fun p => p == 47) 60 ?_
      refine Exists.intro _ (And.intro hn ?_)
      refine And.intro (fun _ => ?_) (fun q => absurd (show true = false from q) (by decide))
      exact k
    have e : pGo (mi 7) L (f + 1) p = (p :: (pGo (mi 7) L f (P + 1)).1, (pGo (mi 7) L f (P + 1)).2) := by
      refine (if_pos c).trans ?_
      rw [hP]
      exact (if_pos cL).trans (if_pos c9)
    have hn : rM sn sf m1 (d + 7 + 2) m_X8_isHere [.ref 8, .int 59, .int 59] 1 := y_isHere (d + 7) hw q5 hl1 hL (by omega) (if_pos ⟨cL, by rw [h7, c9]; decide, by rw [h7, c9]; decide⟩).symm
    have em : upw m1 9 5 (m1 9 5 + 1) = mPl m1 (P + 1) 0 := by
      unfold mPl
      rw [zI_s q5]
      exact (upw_id ((upw_ne (by omega)).trans hw)).symm
    have hch1 : P + 1 < L → 0 ≤ m1 7 (P + 1) ∧ m1 7 (P + 1) < 65536 := fun k => by rw [h7]; exact hch _ k
    obtain ⟨mn, run, hst2⟩ := y_readStep (sn := sn) (sf := sf) (m := m1) (L := L) (p := P + 1) (d + 3) h8i (by omega) hl1 hL (by omega) hch1
    rw [← em] at run
    obtain ⟨m2, run2, fr2, ok2, bad2⟩ := ih (i + 1) (P + 1) m1 mn (by omega) (by omega) (by omega) h8i hl1 h7 hst2
    rw [e]
    refine ⟨m2, fun r k => ?_, fun a j k1 k2 => (fr2 a j k1 (by omega)).trans (fr a j k1 k2), fun k => ?_, bad2⟩
    · refine aVn_end (stop := fun p => p == 47 || p == 19) 60 ?_
      refine Exists.intro _ (And.intro hn ?_)
      refine And.intro (fun q => absurd (show false = true from q) (by decide)) (fun _ => ?_)
      refine Exists.intro _ (And.intro run ?_)
      exact run2 r k
    · obtain ⟨g1, g2, g3, g4⟩ := ok2 k
      refine ⟨g1, g2, ?_, fun k p' hk => ?_⟩
      · rw [g3]
        show Int32.ofNat (i + 1 + (pGo (mi 7) L f (P + 1)).1.length) = Int32.ofNat (i + ((pGo (mi 7) L f (P + 1)).1.length + 1))
        congr 1
        omega
      · match k, hk with
        | 0, hk =>
          cases hk
          exact hRow_fr (fun j hj => fr2 8 j (by omega) (by omega)) row
        | k + 1, hk =>
          have := g4 k p' hk
          rw [show i + (k + 1) = i + 1 + k by omega]
          exact this
end ZK
