/-! SAGGARS' LINKS: the relation kept -/
section YQ
variable {w v : aW} {s s1 : Nat → Int32} {n g o i j k f b L b1 L1 : Nat} {x y z u t c : Int32}
theorem Rl_sg (R : Rl w s n g o) (hn : n ≤ 60) (hg : g ≤ 8) (hs : ∀ j, (j < 429 ∨ 453 ≤ j) → s1 j = s j) (hv : ∀ a j, ¬ (a = 8 ∨ a = 9) → v a j = w a j) (hS : ∀ j, j < g → RlS v s1 g j) : Rl v s1 n g o := by
  obtain ⟨⟨a0, a1, a2, a3, a4, a5, a6, a7, a8⟩, b, c, d⟩ := R
  refine ⟨⟨?_, ?_, ?_, ?_, ?_, ?_, ?_, ?_, ?_⟩, fun j hj x hx => ?_, hS, fun i hi => ?_⟩
  · rw [hs 0 (by omega), hv 0 0 (by omega)]; exact a0
  · rw [hs 1 (by omega), hv 0 1 (by omega)]; exact a1
  · rw [hs 2 (by omega), hv 0 2 (by omega)]; exact a2
  · rw [hs 3 (by omega), hv 16 0 (by omega)]; exact a3
  · rw [hs 4 (by omega), hv 16 1 (by omega)]; exact a4
  · rw [hs 5 (by omega), hv 16 2 (by omega)]; exact a5
  · rw [hs 6 (by omega), hv 16 3 (by omega)]; exact a6
  · rw [hs 7 (by omega), hv 16 4 (by omega)]; exact a7
  · rw [hs 8 (by omega), hv 16 5 (by omega)]; exact a8
  · have hr := wfA_r x
    rw [hs _ (by omega), hv _ j (by omega)]
    exact b j hj x hx
  · refine ⟨fun x hx => ?_, ?_, ?_, ?_⟩
    · rw [hs _ (by omega), hv 13 _ (by omega)]; exact (d i hi).1 x hx
    · rw [hs _ (by omega), hv 10 i (by omega)]; exact (d i hi).2.1
    · rw [hs _ (by omega), hv 11 i (by omega)]; exact (d i hi).2.2.1
    · rw [hs _ (by omega), hv 12 i (by omega)]; exact (d i hi).2.2.2
theorem no_over (ok : okS w g) (hg : g ≤ 8) (hi : i < g) (h8 : w 8 i = -1) (hb : b < 4) (hL : L < 8) (free : ∀ j, j < g → ¬ okP w j b L) (m : Nat) (hm : m < g) : ¬ okP w m b (L + 1) := fun p => by
  obtain ⟨k, hk, q⟩ := okS_under ok hm hb hL p
  exact free k hk q
theorem st_v (ok : okS w g) (hg : g ≤ 8) (hi : i < g) (h8 : w 8 i = -1) (hb : b < 4) (hL : L < 8) (free : ∀ j, j < g → ¬ okP w j b L) : ∀ m b1 L1, b1 < 4 → L1 < 8 → (okP (wSt w i (Int32.ofNat b) (Int32.ofNat L)) m b1 L1 ↔ (¬ m = i ∧ okP w m b1 L1) ∨ (m = i ∧ b1 = b ∧ L1 = L)) := by
  intro m b1 L1 hb1 hL1
  by_cases e : m = i
  · subst e
    constructor
    · intro p
      have q := okP_f p wSt_eq ⟨by omega, by omega, by omega, by omega⟩
      exact Or.inr ⟨rfl, q.1, q.2⟩
    · rintro (⟨q, -⟩ | ⟨-, rfl, rfl⟩)
      · exact absurd rfl q
      · exact wSt_eq
  · constructor
    · intro p
      exact Or.inl ⟨e, (wSt_ne e).mp p⟩
    · rintro (⟨-, p⟩ | ⟨q, -⟩)
      · exact (wSt_ne e).mpr p
      · exact absurd q e
theorem st_dn (ok : okS w g) (hg : g ≤ 8) (hi : i < g) (h8 : w 8 i = -1) (hb : b < 4) (hL : L < 8) (free : ∀ j, j < g → ¬ okP w j b L) (okv : okS (wSt w i (Int32.ofNat b) (Int32.ofNat L)) g) (hj : j < g) (hne : ¬ j = i) : wDn (wSt w i (Int32.ofNat b) (Int32.ofNat L)) g (Int32.ofNat j) = wDn w g (Int32.ofNat j) := by
  rcases ok.1 j hj with ⟨q1, q2⟩ | ⟨b2, L2, hb2, hL2, p, -⟩
  · rw [wDn_f (by omega) q1, wDn_f (by omega) ((wSt_out (by omega)).trans q1)]
  · refine dn_cg okv ok hg hj hb2 L2 p ((wSt_ne hne).mpr p) fun L' hL' m hm => ?_
    by_cases e : m = i
    · subst e
      constructor
      · intro q
        have q2 := okP_f q wSt_eq ⟨by omega, by omega, by omega, by omega⟩
        rw [hL', q2.1, q2.2] at p
        exact absurd p (no_over ok hg hi h8 hb hL free j hj)
      · intro q
        exact absurd h8 (okP_k hb2 q)
    · exact wSt_ne e
theorem st_up (ok : okS w g) (hg : g ≤ 8) (hi : i < g) (h8 : w 8 i = -1) (hb : b < 4) (hL : L < 8) (free : ∀ j, j < g → ¬ okP w j b L) (hj : j < g) (hne : ¬ j = i) (hno : ∀ L1, L = L1 + 1 → ¬ okP w j b L1) : wUp (wSt w i (Int32.ofNat b) (Int32.ofNat L)) g (Int32.ofNat j) = wUp w g (Int32.ofNat j) := by
  rcases ok.1 j hj with ⟨q1, q2⟩ | ⟨b2, L2, hb2, hL2, p, -⟩
  · rw [wUp_f (by omega) q1, wUp_f (by omega) ((wSt_out (by omega)).trans q1)]
  · refine up_cg (by omega) hb2 p ((wSt_ne hne).mpr p) fun m hm => ?_
    by_cases e : m = i
    · subst e
      constructor
      · intro q
        have q2 := okP_f q wSt_eq ⟨by omega, by omega, by omega, by omega⟩
        rw [q2.1] at p
        exact absurd p (hno L2 q2.2.symm)
      · intro q
        exact absurd h8 (okP_k hb2 q)
    · exact wSt_ne e
theorem st_upi (ok : okS w g) (hg : g ≤ 8) (hi : i < g) (h8 : w 8 i = -1) (hb : b < 4) (hL : L < 8) (free : ∀ j, j < g → ¬ okP w j b L) : wUp (wSt w i (Int32.ofNat b) (Int32.ofNat L)) g (Int32.ofNat i) = -1 := by
  rw [wUp_of (by omega) hb wSt_eq]
  refine wAt_no fun m hm q => ?_
  have q' : okP (wSt w i (Int32.ofNat b) (Int32.ofNat L)) m b (L + 1) := q
  by_cases e : m = i
  · subst e
    have := (okP_f q' wSt_eq ⟨by omega, by omega, by omega, by omega⟩).2
    omega
  · exact no_over ok hg hi h8 hb hL free m hm ((wSt_ne e).mp q')
theorem Rl_st0 (R : Rl w s n g o) (hn : n ≤ 60) (ok : okS w g) (hg : g ≤ 8) (hi : i < g) (h8 : w 8 i = -1) (hb : b < 4) (free : ∀ j, j < g → ¬ okP w j b 0) : Rl (wSt w i (Int32.ofNat b) (Int32.ofNat 0)) (upd (upd s (429 + 3 * i + 0) (Int32.ofNat b)) (429 + 3 * i + 1) (-1)) n g o := by
  have okv := okS_stand ok hg hi h8 hb (show 0 < 8 by omega) free (fun L' h => by omega)
  refine Rl_sg R hn hg (fun j h => by rw [upd_ne (by omega), upd_ne (by omega)]) (fun a j h => wSt_out (by omega)) fun j hj => ?_
  have hc := R.2.2.1 j hj
  by_cases e : j = i
  · subst e
    refine ⟨?_, ?_, ?_⟩
    · rw [upd_ne (by omega)]
      exact upd_eq.trans wSt_8.symm
    · rw [upd_eq, wDn_0 okv (by omega) hg hb wSt_eq]
    · rw [upd_ne (by omega), upd_ne (by omega), hc.2.2, st_upi ok hg hi h8 hb (by omega) free, wUp_f (by omega) h8]
  · refine ⟨?_, ?_, ?_⟩
    · rw [upd_ne (by omega), upd_ne (by omega), wSt_out (by omega)]
      exact hc.1
    · rw [upd_ne (by omega), upd_ne (by omega), st_dn ok hg hi h8 hb (by omega) free okv hj e]
      exact hc.2.1
    · rw [upd_ne (by omega), upd_ne (by omega), st_up ok hg hi h8 hb (by omega) free hj e (fun L1 h => by omega)]
      exact hc.2.2
theorem Rl_sts (R : Rl w s n g o) (hn : n ≤ 60) (ok : okS w g) (hg : g ≤ 8) (hi : i < g) (h8 : w 8 i = -1) (hb : b < 4) (hL : L + 1 < 8) (free : ∀ j, j < g → ¬ okP w j b (L + 1)) (hk : k < g) (p : okP w k b L) : Rl (wSt w i (Int32.ofNat b) (Int32.ofNat (L + 1))) (upd (upd (upd s (429 + 3 * i + 0) (Int32.ofNat b)) (429 + 3 * i + 1) (Int32.ofNat k)) (429 + 3 * k + 2) (Int32.ofNat i)) n g o := by
  have okv := okS_stand ok hg hi h8 hb hL free (fun L' h => ⟨k, hk, by rw [show L' = L by omega]; exact p⟩)
  have hki : ¬ k = i := fun e => okP_k hb p (by rw [e]; exact h8)
  refine Rl_sg R hn hg (fun j h => by rw [upd_ne (by omega), upd_ne (by omega), upd_ne (by omega)]) (fun a j h => wSt_out (by omega)) fun j hj => ?_
  have hc := R.2.2.1 j hj
  by_cases e : j = i
  · subst e
    refine ⟨?_, ?_, ?_⟩
    · rw [upd_ne (by omega), upd_ne (by omega)]
      exact upd_eq.trans wSt_8.symm
    · rw [upd_ne (by omega), upd_eq]
      exact (wDn_s okv (by omega) hb wSt_eq hk ((wSt_ne hki).mpr p)).symm
    · rw [upd_ne (by omega), upd_ne (by omega), upd_ne (by omega), hc.2.2, st_upi ok hg hi h8 hb hL free, wUp_f (by omega) h8]
  · refine ⟨?_, ?_, ?_⟩
    · rw [upd_ne (by omega), upd_ne (by omega), upd_ne (by omega), wSt_out (by omega)]
      exact hc.1
    · rw [upd_ne (by omega), upd_ne (by omega), upd_ne (by omega), st_dn ok hg hi h8 hb hL free okv hj e]
      exact hc.2.1
    · by_cases ek : j = k
      · subst ek
        rw [upd_eq, wUp_of (by omega) hb ((wSt_ne e).mpr p)]
        have q : okP (wSt w i (Int32.ofNat b) (Int32.ofNat (L + 1))) i b (L + 1) := wSt_eq
        exact (wAt_eq okv hi q.1 q.2 (b_ne hb)).symm
      · rw [upd_ne (by omega), upd_ne (by omega), upd_ne (by omega), st_up ok hg hi h8 hb hL free hj e (fun L1 h q => ek (ok.2 j k hj hk (okP_k hb q) (q.1.trans p.1.symm) (by rw [q.2, p.2, show L1 = L by omega])))]
        exact hc.2.2
/-- taken down: the links of the others -/
theorem dw_dn (ok : okS w g) (hg : g ≤ 8) (hi : i < g) (hb : b < 4) (hL : L < 8) (p : okP w i b L) (top : ∀ j, j < g → ¬ okP w j b (L + 1)) (hj : j < g) (hne : ¬ j = i) : wDn (wSt w i (-1) (-1)) g (Int32.ofNat j) = wDn w g (Int32.ofNat j) := by
  rcases ok.1 j hj with ⟨q1, q2⟩ | ⟨b2, L2, hb2, hL2, q, -⟩
  · rw [wDn_f (by omega) q1, wDn_f (by omega) ((wSt_out (by omega)).trans q1)]
  · refine dn_cg (okS_down ok hi hb hL p top) ok hg hj hb2 L2 q ((wSt_ne hne).mpr q) fun L' hL' m hm => ?_
    by_cases e : m = i
    · subst e
      constructor
      · intro r
        exact absurd wSt_8 (okP_k hb2 r)
      · intro r
        obtain ⟨rfl, rfl⟩ := okP_f p r ⟨by omega, by omega, by omega, by omega⟩
        exact absurd (hL' ▸ q) (top j hj)
    · exact wSt_ne e
theorem dw_up (ok : okS w g) (hg : g ≤ 8) (hi : i < g) (hb : b < 4) (hL : L < 8) (p : okP w i b L) (hj : j < g) (hne : ¬ j = i) (hno : ∀ L1, L = L1 + 1 → ¬ okP w j b L1) : wUp (wSt w i (-1) (-1)) g (Int32.ofNat j) = wUp w g (Int32.ofNat j) := by
  rcases ok.1 j hj with ⟨q1, q2⟩ | ⟨b2, L2, hb2, hL2, q, -⟩
  · rw [wUp_f (by omega) q1, wUp_f (by omega) ((wSt_out (by omega)).trans q1)]
  · refine up_cg (by omega) hb2 q ((wSt_ne hne).mpr q) fun m hm => ?_
    by_cases e : m = i
    · subst e
      constructor
      · intro r
        exact absurd wSt_8 (okP_k hb2 r)
      · intro r
        obtain ⟨rfl, e2⟩ := okP_f p r ⟨by omega, by omega, by omega, by omega⟩
        exact absurd q (hno L2 e2)
    · exact wSt_ne e
theorem Rl_dw0 (R : Rl w s n g o) (hn : n ≤ 60) (ok : okS w g) (hg : g ≤ 8) (hi : i < g) (hb : b < 4) (p : okP w i b 0) (top : ∀ j, j < g → ¬ okP w j b 1) : Rl (wSt w i (-1) (-1)) (upd (upd s (429 + 3 * i + 0) (-1)) (429 + 3 * i + 1) (-1)) n g o := by
  refine Rl_sg R hn hg (fun j h => by rw [upd_ne (by omega), upd_ne (by omega)]) (fun a j h => wSt_out (by omega)) fun j hj => ?_
  have hc := R.2.2.1 j hj
  by_cases e : j = i
  · subst e
    refine ⟨?_, ?_, ?_⟩
    · rw [upd_ne (by omega)]
      exact upd_eq.trans wSt_8.symm
    · rw [upd_eq, wDn_f (by omega) wSt_8]
    · rw [upd_ne (by omega), upd_ne (by omega), hc.2.2, wUp_f (by omega) wSt_8, wUp_of (by omega) hb p]
      exact wAt_no fun k hk q => top k hk q
  · refine ⟨?_, ?_, ?_⟩
    · rw [upd_ne (by omega), upd_ne (by omega), wSt_out (by omega)]
      exact hc.1
    · rw [upd_ne (by omega), upd_ne (by omega), dw_dn ok hg hi hb (by omega) p top hj e]
      exact hc.2.1
    · rw [upd_ne (by omega), upd_ne (by omega), dw_up ok hg hi hb (by omega) p hj e (fun L1 h => by omega)]
      exact hc.2.2
theorem Rl_dws (R : Rl w s n g o) (hn : n ≤ 60) (ok : okS w g) (hg : g ≤ 8) (hi : i < g) (hb : b < 4) (hL : L + 1 < 8) (p : okP w i b (L + 1)) (top : ∀ j, j < g → ¬ okP w j b (L + 1 + 1)) (hk : k < g) (pk : okP w k b L) : Rl (wSt w i (-1) (-1)) (upd (upd (upd s (429 + 3 * k + 2) (-1)) (429 + 3 * i + 0) (-1)) (429 + 3 * i + 1) (-1)) n g o := by
  have hki : ¬ k = i := fun e => by
    subst e
    have := (okP_f p pk ⟨by omega, by omega, by omega, by omega⟩).2
    omega
  refine Rl_sg R hn hg (fun j h => by rw [upd_ne (by omega), upd_ne (by omega), upd_ne (by omega)]) (fun a j h => wSt_out (by omega)) fun j hj => ?_
  have hc := R.2.2.1 j hj
  by_cases e : j = i
  · subst e
    refine ⟨?_, ?_, ?_⟩
    · rw [upd_ne (by omega)]
      exact upd_eq.trans wSt_8.symm
    · rw [upd_eq, wDn_f (by omega) wSt_8]
    · rw [upd_ne (by omega), upd_ne (by omega), upd_ne (by omega), hc.2.2, wUp_f (by omega) wSt_8, wUp_of (by omega) hb p]
      exact wAt_no fun k hk q => top k hk q
  · refine ⟨?_, ?_, ?_⟩
    · rw [upd_ne (by omega), upd_ne (by omega), upd_ne (by omega), wSt_out (by omega)]
      exact hc.1
    · rw [upd_ne (by omega), upd_ne (by omega), upd_ne (by omega), dw_dn ok hg hi hb hL p top hj e]
      exact hc.2.1
    · by_cases ek : j = k
      · subst ek
        rw [upd_ne (by omega), upd_ne (by omega), upd_eq, wUp_of (by omega) hb ((wSt_ne e).mpr pk)]
        refine (wAt_no fun m hm q => ?_).symm
        have q' : okP (wSt w i (-1) (-1)) m b (L + 1) := q
        by_cases em : m = i
        · subst em
          exact okP_k hb q' wSt_8
        · have q2 := (wSt_ne em).mp q'
          exact em (ok.2 m i hm hi (okP_k hb q2) (q2.1.trans p.1.symm) (q2.2.trans p.2.symm))
      · rw [upd_ne (by omega), upd_ne (by omega), upd_ne (by omega), dw_up ok hg hi hb hL p hj e (fun L1 h q => ek (ok.2 j k hj hk (okP_k hb q) (q.1.trans pk.1.symm) (by rw [q.2, pk.2, show L1 = L by omega])))]
        exact hc.2.2
end YQ
