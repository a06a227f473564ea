/-! THE MODEL READS: one step -/
section ZJ
variable {sn : Nat} {sf : Nat → Int32} {m W : aW} {L p s : Nat} {t : Nat → Int32} {q : Nat × Int32} {x y z c : Int32}
theorem u8e {i : Nat} : upw W 8 i x 8 i = x := upw_eq
theorem u8n {i j : Nat} (h : ¬ j = i) : upw W 8 i x 8 j = W 8 j := upw_ne (fun k => h k.2)
theorem y_rs_t (d : Nat) (hs : m 9 8 = Int32.ofNat s) (hs8 : s < 59) (hl : m 9 4 = Int32.ofNat L) (hL : L ≤ 60) (h : p < L) (hv : m 7 p = 116) : ∃ m1, aRun false (d + 6) m_X8_readStep [.ref 8] (aHn sn sf (mPl m p 0)) = some (.inl none, aHn sn sf m1, (0, 0)) ∧ mStep m m1 s p L := by
  have hc : 0 ≤ m 7 p ∧ m 7 p < 65536 := by rw [hv]; decide
  have hk : aFind (aStr 91) (m 7 p) 0 = 0 := by rw [hv]; rfl
  obtain ⟨e1, e2⟩ := hv_t (t := m 7) (L := L) h hv rfl rfl rfl
  have em : upw (upw (hM (upw (upw m 8 (4 * s) 0) 8 (4 * s + 1) (hD (m 7) L (p + 1, 0)).1) (hN (m 7) L (hS (m 7) L 42 42 (hD (m 7) L (p + 1, 0)).2).2).2) 8 (4 * s + 2) (hN (m 7) L (hS (m 7) L 42 42 (hD (m 7) L (p + 1, 0)).2).2).1) 9 8 (m 9 8 + 1) = upw (hM (upw (upw (upw m 8 (4 * s) 0) 8 (4 * s + 1) (hD (m 7) L (p + 1, 0)).1) 8 (4 * s + 2) (hN (m 7) L (hS (m 7) L 42 42 (hD (m 7) L (p + 1, 0)).2).2).1) (hN (m 7) L (hS (m 7) L 42 42 (hD (m 7) L (p + 1, 0)).2).2).2) 9 8 (m 9 8 + 1) := congrArg (fun f : aW => upw f 9 8 (m 9 8 + 1)) (mPl_8 (by omega))
  have run := l_rsY (sn := sn) (sf := sf) (m := m) (p := p) (L := L) d h hl hL hc (by rw [hk]; exact l_rsT d hs hs8 hl hL h)
  rw [em] at run
  refine ⟨upw (hM (upw (upw (upw m 8 (4 * s) 0) 8 (4 * s + 1) (hD (m 7) L (p + 1, 0)).1) 8 (4 * s + 2) (hN (m 7) L (hS (m 7) L 42 42 (hD (m 7) L (p + 1, 0)).2).2).1) (hN (m 7) L (hS (m 7) L 42 42 (hD (m 7) L (p + 1, 0)).2).2).2) 9 8 (m 9 8 + 1), aRun_of rfl run, mStep_of (up8 (by omega) (up8 (by omega) (up8 (by omega) (fun _ _ _ => rfl)))) e1 (fun hp => ?_)⟩
  have r := e2 hp
  refine ⟨hp, ?_, ?_, ?_, ?_⟩
  · show _ = hKd (m 7 p)
    exact ((u8n (by omega)).trans ((u8n (by omega)).trans u8e)).trans hk.symm
  · exact ((u8n (by omega)).trans u8e).trans (r.1)
  · exact fun _ => u8e.trans (r.2)
  · exact (fun k => absurd (hv.symm.trans k) (by decide))
theorem y_rs_g (d : Nat) (hs : m 9 8 = Int32.ofNat s) (hs8 : s < 59) (hl : m 9 4 = Int32.ofNat L) (hL : L ≤ 60) (h : p < L) (hv : m 7 p = 103) : ∃ m1, aRun false (d + 6) m_X8_readStep [.ref 8] (aHn sn sf (mPl m p 0)) = some (.inl none, aHn sn sf m1, (0, 0)) ∧ mStep m m1 s p L := by
  have hc : 0 ≤ m 7 p ∧ m 7 p < 65536 := by rw [hv]; decide
  have hk : aFind (aStr 91) (m 7 p) 0 = 1 := by rw [hv]; rfl
  obtain ⟨e1, e2⟩ := hv_g (t := m 7) (L := L) h hv rfl rfl rfl
  have em : upw (upw (hM (upw (upw (upw m 8 (4 * s) 1) 8 (4 * s + 1) (hN (m 7) L (p + 1, 0)).1) 8 (4 * s + 2) (hB (m 7) L 61 (hN (m 7) L (p + 1, 0)).2).1) (hD (m 7) L (hB (m 7) L 61 (hN (m 7) L (p + 1, 0)).2).2).2) 8 (4 * s + 3) (hD (m 7) L (hB (m 7) L 61 (hN (m 7) L (p + 1, 0)).2).2).1) 9 8 (m 9 8 + 1) = upw (hM (upw (upw (upw (upw m 8 (4 * s) 1) 8 (4 * s + 1) (hN (m 7) L (p + 1, 0)).1) 8 (4 * s + 2) (hB (m 7) L 61 (hN (m 7) L (p + 1, 0)).2).1) 8 (4 * s + 3) (hD (m 7) L (hB (m 7) L 61 (hN (m 7) L (p + 1, 0)).2).2).1) (hD (m 7) L (hB (m 7) L 61 (hN (m 7) L (p + 1, 0)).2).2).2) 9 8 (m 9 8 + 1) := congrArg (fun f : aW => upw f 9 8 (m 9 8 + 1)) (mPl_8 (by omega))
  have run := l_rsY (sn := sn) (sf := sf) (m := m) (p := p) (L := L) d h hl hL hc (by rw [hk]; exact l_rsG d hs hs8 hl hL h)
  rw [em] at run
  refine ⟨upw (hM (upw (upw (upw (upw m 8 (4 * s) 1) 8 (4 * s + 1) (hN (m 7) L (p + 1, 0)).1) 8 (4 * s + 2) (hB (m 7) L 61 (hN (m 7) L (p + 1, 0)).2).1) 8 (4 * s + 3) (hD (m 7) L (hB (m 7) L 61 (hN (m 7) L (p + 1, 0)).2).2).1) (hD (m 7) L (hB (m 7) L 61 (hN (m 7) L (p + 1, 0)).2).2).2) 9 8 (m 9 8 + 1), aRun_of rfl run, mStep_of (up8 (by omega) (up8 (by omega) (up8 (by omega) (up8 (by omega) (fun _ _ _ => rfl))))) e1 (fun hp => ?_)⟩
  have r := e2 hp
  refine ⟨hp, ?_, ?_, ?_, ?_⟩
  · show _ = hKd (m 7 p)
    exact ((u8n (by omega)).trans ((u8n (by omega)).trans ((u8n (by omega)).trans u8e))).trans hk.symm
  · exact ((u8n (by omega)).trans ((u8n (by omega)).trans u8e)).trans (r.1)
  · exact fun _ => ((u8n (by omega)).trans u8e).trans (r.2.1)
  · exact fun _ => u8e.trans (r.2.2)
theorem y_rs_p (d : Nat) (hs : m 9 8 = Int32.ofNat s) (hs8 : s < 59) (hl : m 9 4 = Int32.ofNat L) (hL : L ≤ 60) (h : p < L) (hv : m 7 p = 112) : ∃ m1, aRun false (d + 6) m_X8_readStep [.ref 8] (aHn sn sf (mPl m p 0)) = some (.inl none, aHn sn sf m1, (0, 0)) ∧ mStep m m1 s p L := by
  have hc : 0 ≤ m 7 p ∧ m 7 p < 65536 := by rw [hv]; decide
  have hk : aFind (aStr 91) (m 7 p) 0 = 2 := by rw [hv]; rfl
  obtain ⟨e1, e2⟩ := hv_p (t := m 7) (L := L) h hv rfl rfl
  have em : upw (upw (hM (upw (upw m 8 (4 * s) 2) 8 (4 * s + 1) (hN (m 7) L (p + 1, 0)).1) (hB (m 7) L 64 (hN (m 7) L (p + 1, 0)).2).2) 8 (4 * s + 2) (hB (m 7) L 64 (hN (m 7) L (p + 1, 0)).2).1) 9 8 (m 9 8 + 1) = upw (hM (upw (upw (upw m 8 (4 * s) 2) 8 (4 * s + 1) (hN (m 7) L (p + 1, 0)).1) 8 (4 * s + 2) (hB (m 7) L 64 (hN (m 7) L (p + 1, 0)).2).1) (hB (m 7) L 64 (hN (m 7) L (p + 1, 0)).2).2) 9 8 (m 9 8 + 1) := congrArg (fun f : aW => upw f 9 8 (m 9 8 + 1)) (mPl_8 (by omega))
  have run := l_rsY (sn := sn) (sf := sf) (m := m) (p := p) (L := L) d h hl hL hc (by rw [hk]; exact l_rsP d hs hs8 hl hL h)
  rw [em] at run
  refine ⟨upw (hM (upw (upw (upw m 8 (4 * s) 2) 8 (4 * s + 1) (hN (m 7) L (p + 1, 0)).1) 8 (4 * s + 2) (hB (m 7) L 64 (hN (m 7) L (p + 1, 0)).2).1) (hB (m 7) L 64 (hN (m 7) L (p + 1, 0)).2).2) 9 8 (m 9 8 + 1), aRun_of rfl run, mStep_of (up8 (by omega) (up8 (by omega) (up8 (by omega) (fun _ _ _ => rfl)))) e1 (fun hp => ?_)⟩
  have r := e2 hp
  refine ⟨hp, ?_, ?_, ?_, ?_⟩
  · show _ = hKd (m 7 p)
    exact ((u8n (by omega)).trans ((u8n (by omega)).trans u8e)).trans hk.symm
  · exact ((u8n (by omega)).trans u8e).trans (r.1)
  · exact fun _ => u8e.trans (r.2)
  · exact (fun k => absurd (hv.symm.trans k) (by decide))
theorem y_rs_f (d : Nat) (hs : m 9 8 = Int32.ofNat s) (hs8 : s < 59) (hl : m 9 4 = Int32.ofNat L) (hL : L ≤ 60) (h : p < L) (hv : m 7 p = 102) : ∃ m1, aRun false (d + 6) m_X8_readStep [.ref 8] (aHn sn sf (mPl m p 0)) = some (.inl none, aHn sn sf m1, (0, 0)) ∧ mStep m m1 s p L := by
  have hc : 0 ≤ m 7 p ∧ m 7 p < 65536 := by rw [hv]; decide
  have hk : aFind (aStr 91) (m 7 p) 0 = 3 := by rw [hv]; rfl
  obtain ⟨e1, e2⟩ := hv_f (t := m 7) (L := L) h hv rfl rfl rfl rfl
  have em : upw (upw (hM (upw m 8 (4 * s) 3) (hD (m 7) L (hD (m 7) L (hD (m 7) L (hD (m 7) L (p + 1, 0)).2).2).2).2) 8 (4 * s + 1) (10 * (10 * (10 * (hD (m 7) L (p + 1, 0)).1 + (hD (m 7) L (hD (m 7) L (p + 1, 0)).2).1) + (hD (m 7) L (hD (m 7) L (hD (m 7) L (p + 1, 0)).2).2).1) + (hD (m 7) L (hD (m 7) L (hD (m 7) L (hD (m 7) L (p + 1, 0)).2).2).2).1)) 9 8 (m 9 8 + 1) = upw (hM (upw (upw m 8 (4 * s) 3) 8 (4 * s + 1) (10 * (10 * (10 * (hD (m 7) L (p + 1, 0)).1 + (hD (m 7) L (hD (m 7) L (p + 1, 0)).2).1) + (hD (m 7) L (hD (m 7) L (hD (m 7) L (p + 1, 0)).2).2).1) + (hD (m 7) L (hD (m 7) L (hD (m 7) L (hD (m 7) L (p + 1, 0)).2).2).2).1)) (hD (m 7) L (hD (m 7) L (hD (m 7) L (hD (m 7) L (p + 1, 0)).2).2).2).2) 9 8 (m 9 8 + 1) := congrArg (fun f : aW => upw f 9 8 (m 9 8 + 1)) (mPl_8 (by omega))
  have run := l_rsY (sn := sn) (sf := sf) (m := m) (p := p) (L := L) d h hl hL hc (by rw [hk]; exact l_rsH d hs hs8 hl hL h)
  rw [em] at run
  refine ⟨upw (hM (upw (upw m 8 (4 * s) 3) 8 (4 * s + 1) (10 * (10 * (10 * (hD (m 7) L (p + 1, 0)).1 + (hD (m 7) L (hD (m 7) L (p + 1, 0)).2).1) + (hD (m 7) L (hD (m 7) L (hD (m 7) L (p + 1, 0)).2).2).1) + (hD (m 7) L (hD (m 7) L (hD (m 7) L (hD (m 7) L (p + 1, 0)).2).2).2).1)) (hD (m 7) L (hD (m 7) L (hD (m 7) L (hD (m 7) L (p + 1, 0)).2).2).2).2) 9 8 (m 9 8 + 1), aRun_of rfl run, mStep_of (up8 (by omega) (up8 (by omega) (fun _ _ _ => rfl))) e1 (fun hp => ?_)⟩
  have r := e2 hp
  refine ⟨hp, ?_, ?_, ?_, ?_⟩
  · show _ = hKd (m 7 p)
    exact ((u8n (by omega)).trans u8e).trans hk.symm
  · exact u8e.trans r
  · exact (fun k => absurd k (by rw [hv]; decide))
  · exact (fun k => absurd (hv.symm.trans k) (by decide))
theorem y_rs_e (d : Nat) (hs : m 9 8 = Int32.ofNat s) (hs8 : s < 59) (hl : m 9 4 = Int32.ofNat L) (hL : L ≤ 60) (h : p < L) (hv : m 7 p = 101) : ∃ m1, aRun false (d + 6) m_X8_readStep [.ref 8] (aHn sn sf (mPl m p 0)) = some (.inl none, aHn sn sf m1, (0, 0)) ∧ mStep m m1 s p L := by
  have hc : 0 ≤ m 7 p ∧ m 7 p < 65536 := by rw [hv]; decide
  have hk : aFind (aStr 91) (m 7 p) 0 = 4 := by rw [hv]; rfl
  obtain ⟨e1, e2⟩ := hv_e (t := m 7) (L := L) h (Or.inl hv) rfl
  have run := l_rsY (sn := sn) (sf := sf) (m := m) (p := p) (L := L) d h hl hL hc (by rw [hk]; exact l_rsE d (Or.inl rfl) hs hs8 hl hL h)
  refine ⟨upw (hM (upw (upw m 8 (4 * s) 4) 8 (4 * s + 1) (hD (m 7) L (p + 1, 0)).1) (hD (m 7) L (p + 1, 0)).2) 9 8 (m 9 8 + 1), aRun_of rfl run, mStep_of (up8 (by omega) (up8 (by omega) (fun _ _ _ => rfl))) e1 (fun hp => ?_)⟩
  have r := e2 hp
  refine ⟨hp, ?_, ?_, ?_, ?_⟩
  · show _ = hKd (m 7 p)
    exact ((u8n (by omega)).trans u8e).trans hk.symm
  · exact u8e.trans r
  · exact (fun k => absurd k (by rw [hv]; decide))
  · exact (fun k => absurd (hv.symm.trans k) (by decide))
theorem y_rs_s (d : Nat) (hs : m 9 8 = Int32.ofNat s) (hs8 : s < 59) (hl : m 9 4 = Int32.ofNat L) (hL : L ≤ 60) (h : p < L) (hv : m 7 p = 115) : ∃ m1, aRun false (d + 6) m_X8_readStep [.ref 8] (aHn sn sf (mPl m p 0)) = some (.inl none, aHn sn sf m1, (0, 0)) ∧ mStep m m1 s p L := by
  have hc : 0 ≤ m 7 p ∧ m 7 p < 65536 := by rw [hv]; decide
  have hk : aFind (aStr 91) (m 7 p) 0 = 5 := by rw [hv]; rfl
  obtain ⟨e1, e2⟩ := hv_e (t := m 7) (L := L) h (Or.inr hv) rfl
  have run := l_rsY (sn := sn) (sf := sf) (m := m) (p := p) (L := L) d h hl hL hc (by rw [hk]; exact l_rsE d (Or.inr rfl) hs hs8 hl hL h)
  refine ⟨upw (hM (upw (upw m 8 (4 * s) 5) 8 (4 * s + 1) (hD (m 7) L (p + 1, 0)).1) (hD (m 7) L (p + 1, 0)).2) 9 8 (m 9 8 + 1), aRun_of rfl run, mStep_of (up8 (by omega) (up8 (by omega) (fun _ _ _ => rfl))) e1 (fun hp => ?_)⟩
  have r := e2 hp
  refine ⟨hp, ?_, ?_, ?_, ?_⟩
  · show _ = hKd (m 7 p)
    exact ((u8n (by omega)).trans u8e).trans hk.symm
  · exact u8e.trans r
  · exact (fun k => absurd k (by rw [hv]; decide))
  · exact (fun k => absurd (hv.symm.trans k) (by decide))
theorem y_rs_no (d : Nat) (hs : m 9 8 = Int32.ofNat s) (hs8 : s < 59) (hl : m 9 4 = Int32.ofNat L) (hL : L ≤ 60) (hp : p ≤ L) (h : (pS (m 7) L p) = (false, p, fun _ => 0)) (hh : ¬ p < L ∨ (p < L ∧ (0 ≤ m 7 p ∧ m 7 p < 65536) ∧ pOf (m 7 p) = none)) : ∃ m1, aRun false (d + 6) m_X8_readStep [.ref 8] (aHn sn sf (mPl m p 0)) = some (.inl none, aHn sn sf m1, (0, 0)) ∧ mStep m m1 s p L := by
  refine ⟨mPl m p 1, ?_, ?_⟩
  · rcases hh with hh | ⟨hh, hc, hn⟩
    · exact aRun_of rfl (l_rsN (hi := none) d none none none (fun k => hh k.2) hl hL hp (l_rsF d (by decide)))
    · have hk : aFind (aStr 91) (m 7 p) 0 = -1 := hK_none hn
      exact aRun_of rfl (l_rsY d hh hl hL hc (by rw [hk]; exact l_rsF d (by decide)))
  · unfold mStep
    rw [h]
    refine ⟨rfl, rfl, fun a j h1 h2 => ?_, fun k => absurd k (show ¬ false = true by decide)⟩
    exact (upw_ne (fun k => h1 ⟨k.1, Or.inr (Or.inl k.2)⟩)).trans (upw_ne (fun k => h1 ⟨k.1, Or.inl k.2⟩))
theorem y_readStep (d : Nat) (hs : m 9 8 = Int32.ofNat s) (hs8 : s < 59) (hl : m 9 4 = Int32.ofNat L) (hL : L ≤ 60) (hp : p ≤ L) (hch : p < L → 0 ≤ m 7 p ∧ m 7 p < 65536) : ∃ m1, aRun false (d + 6) m_X8_readStep [.ref 8] (aHn sn sf (mPl m p 0)) = some (.inl none, aHn sn sf m1, (0, 0)) ∧ mStep m m1 s p L := by
  by_cases h : p < L
  rotate_left
  · exact y_rs_no d hs hs8 hl hL hp (pS_end h) (Or.inl h)
  by_cases hn : pOf (m 7 p) = none
  · exact y_rs_no d hs hs8 hl hL hp (pS_no h hn) (Or.inr ⟨h, hch h, hn⟩)
  rcases pOf_some hn with hv | hv | hv | hv | hv | hv
  · exact y_rs_t d hs hs8 hl hL h hv
  · exact y_rs_g d hs hs8 hl hL h hv
  · exact y_rs_p d hs hs8 hl hL h hv
  · exact y_rs_f d hs hs8 hl hL h hv
  · exact y_rs_e d hs hs8 hl hL h hv
  · exact y_rs_s d hs hs8 hl hL h hv
end ZJ
