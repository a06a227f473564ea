/-! THE MODEL'S OWN CHANGES: one saggar more, one order more -/
section YN
variable {sn : Nat} {sf : Nat → Int32} {m m1 m2 w : aW} {s : Nat → Int32} {n g o i j k f b L : Nat} {x y z v u t c : Int32}
theorem aFd_snoc {p : Nat → Bool} {q : Nat → Int32} : ∀ (m i : Nat), p (i + m) = false → aFd p q z (m + 1) i = aFd p q z m i
  | 0, i, h => by
    show (if p i = true then q i else z) = z
    rw [if_neg (by rw [show i = i + 0 from rfl, h]; decide)]
  | m + 1, i, h => by
    show (if p i = true then q i else aFd p q z (m + 1) (i + 1)) = (if p i = true then q i else aFd p q z m (i + 1))
    rw [aFd_snoc m (i + 1) (by rw [show i + 1 + m = i + (m + 1) by omega]; exact h)]
theorem wAt_add3 (hy : ¬ y = -1) (hg : g < 8) : wAt (wAdd3 w g) (g + 1) y z = wAt w g y z := by
  have e8 : ∀ j, j < g → wAdd3 w g 8 j = w 8 j := fun j h => by
    unfold wAdd3
    rw [upw_ne (by omega), upw_ne (by omega), upw_ne (by omega)]
  have e9 : ∀ j, j < g → wAdd3 w g 9 j = w 9 j := fun j h => by
    unfold wAdd3
    rw [upw_ne (by omega), upw_ne (by omega), upw_ne (by omega)]
  have eg : wAdd3 w g 8 g = -1 := by
    unfold wAdd3
    rw [upw_ne (by omega), upw_ne (by omega), upw_eq]
  unfold wAt
  rw [aFd_snoc g 0 (by rw [Nat.zero_add]; exact decide_eq_false (fun q => hy (q.1.symm.trans eg)))]
  exact wAt_cg e8 e9 y z
def sSag (s : Nat → Int32) (g : Nat) (c : Int32) : Nat → Int32 := upd (upd (upd (upd s (429 + 3 * g + 0) (-1)) (429 + 3 * g + 1) (-1)) (429 + 3 * g + 2) (-1)) 7 c
theorem Rl_sag (R : Rl w s n g o) (hn : n ≤ 60) (hg : g < 8) : Rl (wAdd3 w g) (sSag s g (w 16 4 + 1)) n (g + 1) o := by
  obtain ⟨⟨a0, a1, a2, a3, a4, a5, a6, a7, a8⟩, b, c, d⟩ := R
  have e0 : ∀ j, ¬ j = 7 → (j < 429 + 3 * g ∨ 429 + 3 * g + 3 ≤ j) → sSag s g (w 16 4 + 1) j = s j := fun j h1 h2 => by
    unfold sSag
    rw [upd_ne h1, upd_ne (by omega), upd_ne (by omega), upd_ne (by omega)]
  have w0 : ∀ a j, ¬ (a = 8 ∨ a = 9 ∨ (a = 16 ∧ j = 4)) → wAdd3 w g a j = w a j := fun a j h => by
    unfold wAdd3
    rw [upw_ne (by omega), upw_ne (by omega), upw_ne (by omega)]
  have w8 : ∀ j, ¬ j = g → wAdd3 w g 8 j = w 8 j := fun j h => by
    unfold wAdd3
    rw [upw_ne (by omega), upw_ne (by omega), upw_ne (by omega)]
  have w9 : ∀ j, ¬ j = g → wAdd3 w g 9 j = w 9 j := fun j h => by
    unfold wAdd3
    rw [upw_ne (by omega), upw_ne (by omega), upw_ne (by omega)]
  have eg : wAdd3 w g 8 g = -1 := by
    unfold wAdd3
    rw [upw_ne (by omega), upw_ne (by omega), upw_eq]
  refine ⟨⟨?_, ?_, ?_, ?_, ?_, ?_, ?_, ?_, ?_⟩, fun j hj f hf => ?_, fun j hj => ?_, fun k hk => ?_⟩
  · rw [e0 0 (by omega) (by omega), w0 0 0 (by omega)]; exact a0
  · rw [e0 1 (by omega) (by omega), w0 0 1 (by omega)]; exact a1
  · rw [e0 2 (by omega) (by omega), w0 0 2 (by omega)]; exact a2
  · rw [e0 3 (by omega) (by omega), w0 16 0 (by omega)]; exact a3
  · rw [e0 4 (by omega) (by omega), w0 16 1 (by omega)]; exact a4
  · rw [e0 5 (by omega) (by omega), w0 16 2 (by omega)]; exact a5
  · rw [e0 6 (by omega) (by omega), w0 16 3 (by omega)]; exact a6
  · unfold sSag wAdd3
    rw [upd_eq, upw_eq]
  · rw [e0 8 (by omega) (by omega), w0 16 5 (by omega)]; exact a8
  · have hr := wfA_r f
    rw [e0 _ (by omega) (by omega), w0 _ _ (by omega)]
    exact b j hj f hf
  · by_cases e : j = g
    · subst e
      have q1 : wDn (wAdd3 w j) (j + 1) (Int32.ofNat j) = -1 := by
        unfold wDn
        rw [zn_of rfl (by omega), if_pos eg]
      have q2 : wUp (wAdd3 w j) (j + 1) (Int32.ofNat j) = -1 := by
        unfold wUp
        rw [zn_of rfl (by omega), if_pos eg]
      refine ⟨?_, ?_, ?_⟩
      · rw [eg]
        unfold sSag
        rw [upd_ne (by omega), upd_ne (by omega), upd_ne (by omega)]
        exact upd_eq
      · rw [q1]
        unfold sSag
        rw [upd_ne (by omega), upd_ne (by omega), upd_eq]
      · rw [q2]
        unfold sSag
        rw [upd_ne (by omega), upd_eq]
    · have hj' : j < g := by omega
      obtain ⟨c1, c2, c3⟩ := c j hj'
      refine ⟨?_, ?_, ?_⟩
      · rw [e0 _ (by omega) (by omega), w8 j e]; exact c1
      · rw [e0 _ (by omega) (by omega), c2]
        unfold wDn
        rw [zn_of rfl (by omega), w8 j e, w9 j e]
        by_cases h : w 8 j = -1
        · rw [if_pos h, if_pos h]
        · rw [if_neg h, if_neg h, wAt_add3 h hg]
      · rw [e0 _ (by omega) (by omega), c3]
        unfold wUp
        rw [zn_of rfl (by omega), w8 j e, w9 j e]
        by_cases h : w 8 j = -1
        · rw [if_pos h, if_pos h]
        · rw [if_neg h, if_neg h, wAt_add3 h hg]
  · refine ⟨fun x hx => ?_, ?_, ?_, ?_⟩
    · rw [e0 _ (by omega) (by omega), w0 13 _ (by omega)]; exact (d k hk).1 x hx
    · rw [e0 _ (by omega) (by omega), w0 10 _ (by omega)]; exact (d k hk).2.1
    · rw [e0 _ (by omega) (by omega), w0 11 _ (by omega)]; exact (d k hk).2.2.1
    · rw [e0 _ (by omega) (by omega), w0 12 _ (by omega)]; exact (d k hk).2.2.2
theorem okN_sag (h : okN w n g o) (hg : g < 8) : okN (wAdd3 w g) n (g + 1) o := by
  obtain ⟨h1, h2, h3, h4, h5, h6⟩ := h
  unfold wAdd3
  refine ⟨?_, h2, upw_eq.trans (zI_s h3), by omega, ?_, h6⟩
  · rw [upw_ne (by omega), upw_ne (by omega), upw_ne (by omega)]
    exact h1
  · rw [upw_ne (by omega), upw_ne (by omega), upw_ne (by omega)]
    exact h5
theorem upw_upw {a i : Nat} : upw (upw w a i x) a i y = upw w a i y := by
  funext b j
  by_cases e : b = a ∧ j = i
  · obtain ⟨rfl, rfl⟩ := e
    rw [upw_eq, upw_eq]
  · rw [upw_ne e, upw_ne e, upw_ne e]
theorem mOp_k {p : aZ} {f : Int32 → Int32} (h : mDo p f (mKeep m) m2 v) (hp : p.1 < 0) : mOp p f m m2 v := by
  obtain ⟨⟨F1, F2⟩, -, B⟩ := h
  obtain ⟨g1, g2, g3, g4, g5⟩ := B hp
  refine ⟨⟨fun a ha => ?_, fun i hi => (F2 i (by omega) (by omega)).trans (mKeep9 (by omega))⟩, fun q => absurd hp (Int32.not_lt.mpr q), fun _ => ⟨g2, g3, fun i _ => by rw [g1]; rfl, F1 4 (by omega) (by omega) (by omega) (by omega), F2 1 (by omega) (by omega), g4, g5⟩⟩
  rcases ha with rfl | rfl | rfl
  · exact F1 3 (by omega) (by omega) (by omega) (by omega)
  · exact F1 7 (by omega) (by omega) (by omega) (by omega)
  · exact F1 8 (by omega) (by omega) (by omega) (by omega)
theorem o_saggar (d : Nat) {c : Nat} (R : Rl w (m 0) n g o) (ok : wOkA w n g o) (hc : m 9 1 = Int32.ofNat c) (h8 : c ≤ 8) : ∃ m1 v, aRun false (d + 2) m_X8_saggar [.ref 8] (aHn sn sf m) = some (.inl (some (.int v)), aHn sn sf m1, (0, 0)) ∧ mOp (fSag w g) cd1 m m1 v := by
  have e7 : m 0 7 = w 16 4 := R.1.2.2.2.2.2.2.2.1
  have hg := ok.1.2.2.1
  have hg8 := ok.1.2.2.2.1
  have eg := e7.trans hg
  have i7 : aIx 7 495 = some 7 := ixN (f := 7) rfl (by omega)
  have q8 : w 16 4 < 8 ↔ g < 8 := zI_lt (n := 8) hg rfl (by omega) (by omega)
  by_cases c0 : g < 8
  rotate_left
  · have ef : fSag w g = (-3, wNote w 1 8) := by rw [fSag, if_neg (fun q => c0 (q8.mp q))]
    have e8 : m 0 7 = 8 := by rw [eg, show g = 8 by omega]; rfl
    refine ⟨mRef (upw (mKeep m) 9 2 0) 1 1 8, 0, ?_, ?_⟩
    · have e : mRef (upw (mKeep m) 9 2 0) 1 1 8 = mRef (mKeep m) 1 1 8 := by
        unfold mRef
        rw [upw_upw]
      rw [e]
      refine aRun_of rfl (aVn_end (stop := fun p => false) 60 ?_)
      refine Exists.intro _ (And.intro (y_keep d) ?_)
      refine Exists.intro 7 (And.intro i7 ?_)
      refine And.intro (fun c => absurd e8 (cT c)) (fun _ => ?_)
      refine Exists.intro _ (And.intro (y_refuse (m := mKeep m) d) ?_)
      exact rfl
    · rw [ef]
      exact mOp_k (mDo_r rfl rfl (by decide)) (show (-3 : Int32) < 0 by decide)
  have ne8 : ¬ m 0 7 = 8 := by rw [eg]; exact fun q => absurd (ofN_ne (j := 8) (by omega) (by omega) q) (by omega)
  have ev : w 16 4 + 1 - 1 = m 0 7 := by rw [e7]; exact Int32.add_sub_cancel _ _
  have ef : fSag w g = (w 16 4 + 1 - 1, wAdd3 w g) := by rw [fSag, if_pos (q8.mpr c0)]
  have R0 : Rl w (mKeep m 0) n g o := R
  have R1 := Rl_sag R0 ok.1.2.1 c0
  have hix : ∀ (f : Nat) (y : Int32), y = Int32.ofNat f → f < 3 → aIx (429 + 3 * m 0 7 + y) 495 = some (429 + 3 * g + f) := fun f y h1 h2 => ixS eg c0 h1 h2
  obtain ⟨m3, u, g1, g2⟩ := y_endR (sn := sn) (sf := sf) (m := m) (m2 := upw (upw (upw (upw (mKeep m) 0 (429 + 3 * g + 0) (-1)) 0 (429 + 3 * g + 1) (-1)) 0 (429 + 3 * g + 2) (-1)) 0 7 (m 0 7 + 1)) (v := m 0 7) (p := (w 16 4 + 1 - 1, wAdd3 w g)) (f := cd1) (n := n) (g := g + 1) (o := o) d hc h8 (by rw [ev, eg]; exact Int32.not_lt.mp (ofN_lt0 (by omega))) ev.symm (fun a ha => funext fun i => by rw [upw_ne (by omega), upw_ne (by omega), upw_ne (by omega), upw_ne (by omega)]) (by rw [e7]; exact R1) (okN_sag ok.1 c0)
  refine ⟨m3, u, ?_, by rw [ef]; exact g2⟩
  have e7u : (upw (upw (upw (mKeep m) 0 (429 + 3 * g + 0) (-1)) 0 (429 + 3 * g + 1) (-1)) 0 (429 + 3 * g + 2) (-1)) 0 7 = m 0 7 := by
    rw [upw_ne (by omega), upw_ne (by omega), upw_ne (by omega)]
    rfl
  rw [← e7u] at g1
  have g1' : aRun false (d + 1) m_X8_ends [.ref 8, .int (m 0 7)] (aHn sn sf (upw (upw (upw (upw (mKeep m) 0 (429 + 3 * g + 0) (-1)) 0 (429 + 3 * g + 1) (-1)) 0 (429 + 3 * g + 2) (-1)) 0 7 ((upw (upw (upw (mKeep m) 0 (429 + 3 * g + 0) (-1)) 0 (429 + 3 * g + 1) (-1)) 0 (429 + 3 * g + 2) (-1)) 0 7 + 1))) = some (.inl (some (.int u)), aHn sn sf m3, (0, 0)) := by
    rw [e7u] at g1 ⊢
    exact g1
  refine aRun_of rfl (aVn_end (stop := fun p => false) 60 ?_)
  refine Exists.intro _ (And.intro (y_keep d) ?_)
  refine Exists.intro 7 (And.intro i7 ?_)
  refine And.intro (fun _ => ?_) (fun c => absurd (cF c) (fun q => q ne8))
  refine Exists.intro _ (And.intro (y_saggarAt d) ?_)
  refine Exists.intro (429 + 3 * g + 0) (And.intro (hix 0 _ rfl (by omega)) ?_)
  refine Exists.intro _ (And.intro (y_saggarAt d) ?_)
  refine Exists.intro (429 + 3 * g + 1) (And.intro (hix 1 _ rfl (by omega)) ?_)
  refine Exists.intro _ (And.intro (y_saggarAt d) ?_)
  refine Exists.intro (429 + 3 * g + 2) (And.intro (hix 2 _ rfl (by omega)) ?_)
  refine Exists.intro 7 (And.intro i7 ?_)
  refine Exists.intro 7 (And.intro i7 ?_)
  refine Exists.intro _ (And.intro g1' ?_)
  exact rfl
end YN
