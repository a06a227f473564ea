/-- wares and saggars -/
def DB (w : aW) : Prop := Gt w ∧ Lx w ∧ ow w = 0
section DRX
variable {sn : Nat} {sf : Nat → Int32} {w v u : aW} {l : List aW} {k : aW} {H E H1 : aH} {d n i j m g s c t b a : Nat} {x y z e1 e2 e3 r q : Int32} {f : aW → aZ}
theorem nws (h : wSame u w) : nw u = nw w := congrArg zn (h 16 3 (rg16 (by omega)))
theorem gws (h : wSame u w) : gw u = gw w := congrArg zn (h 16 4 (rg16 (by omega)))
theorem ows (h : wSame u w) : ow u = ow w := congrArg zn (h 16 5 (rg16 (by omega)))
theorem sub_one (x : Int32) : x + 1 - 1 = x := Int32.add_sub_cancel x 1
theorem D_saggar (O : OK sn sf w l k H) (hg : gw w < 8) (D : DB w) : ∃ H1 kk w1 l1 k1, mRun (d + 7) m_L_saggar [.ref 8] (H ++ E) = some (.inl (some (.int (Int32.ofNat (gw w)))), H1 ++ E, kk) ∧ kB 1 kk ∧ OK sn sf w1 l1 k1 H1 ∧ gw w1 = gw w + 1 ∧ nw w1 = nw w ∧ w1 8 (gw w) = -1 ∧ (∀ j, j < 60 → w1 1 j = w 1 j) ∧ DB w1 := by
  have hok : wOk w (nw w) (gw w) (ow w) := ok_okk O
  have hn := hok.1.2.1
  obtain ⟨r, H1, kk, hr, hb, wd, hres⟩ := L_saggar (E := E) (d := d) O
  have hs := cpW_same w wd
  have oku : wOk (cpW w wd) (nw w) (gw w) (ow w) := wOk_same hs hok
  have e4 : cpW w wd 16 4 = Int32.ofNat (gw w) := (hs 16 4 (rg16 (by omega))).trans hok.1.2.2.1
  have e : fSag (cpW w wd) (gw w) = (Int32.ofNat (gw w), wAdd3 (cpW w wd) (gw w)) := by
    unfold fSag
    rw [e4, if_pos ((zI_lt (y := 8) (n := 8) rfl rfl (by omega) (by omega)).mpr hg), sub_one]
  have hres : RA sn sf w l k 0 0 (-1) (fSag (cpW w wd) (gw w)) r H1 := hres
  rw [e] at hres
  obtain ⟨hv, k1, O1⟩ := RA_go hres (Int32.not_lt.mp (ofN_lt0 (by omega)))
  subst hv
  have eo : ∀ a i, ¬ (a = 8 ∨ a = 9 ∨ (a = 16 ∧ i = 4)) → wAdd3 (cpW w wd) (gw w) a i = cpW w wd a i := fun a i h => (upw_ne (by omega)).trans ((upw_ne (by omega)).trans (upw_ne (by omega)))
  have en1 : nw (wAdd3 (cpW w wd) (gw w)) = nw w := (congrArg zn (eo 16 3 (by omega))).trans (nws hs)
  refine ⟨H1, kk, _, _, k1, hr, hb, O1, ?_, en1, ?_, fun j hj => ?_, ?_, ?_, ?_⟩
  · show zn (wAdd3 (cpW w wd) (gw w) 16 4) = _
    have : wAdd3 (cpW w wd) (gw w) 16 4 = cpW w wd 16 4 + 1 := upw_eq
    rw [this, e4, zn_of (zI_s rfl) (by omega)]
  · exact (upw_ne (by omega)).trans ((upw_ne (by omega)).trans upw_eq)
  · rw [eo 1 j (by omega), hs 1 j (rg1 (by omega) (by omega) (by omega))]
  · refine Gt_eq (w := cpW w wd) (en1.trans (nws hs).symm) (fun j hj => ⟨eo 2 j (by omega), eo 3 j (by omega)⟩) (Gt_same hs hn D.1)
  · exact Lx_add oku (nws hs) (gws hs) hg (Lx_same hs hok D.2.1)
  · exact ((congrArg zn (eo 16 5 (by omega))).trans (ows hs)).trans D.2.2
theorem D_stack (O : OK sn sf w l k H) (hx : x = Int32.ofNat i) (hi : i < gw w) (h8 : w 8 i = -1) (hy : y = -1 ∨ ∃ j, j < gw w ∧ ¬ j = i ∧ y = Int32.ofNat j) (hz : 0 ≤ z ∧ z ≤ 3) (D : DB w) : ∃ r H1 kk w1 l1 k1, mRun (d + 7) m_L_stack [.ref 8, .int x, .int y, .int z] (H ++ E) = some (.inl (some (.int r)), H1 ++ E, kk) ∧ kB 1 kk ∧ OK sn sf w1 l1 k1 H1 ∧ gw w1 = gw w ∧ nw w1 = nw w ∧ (∀ j, j < 60 → w1 1 j = w 1 j) ∧ DB w1 ∧ (0 ≤ r ∨ (r < 0 ∧ 0 < k1 7 2 ∧ 5 ≤ k1 0 0 ∧ k1 0 0 ≤ 7)) := by
  have hok : wOk w (nw w) (gw w) (ow w) := ok_okk O
  have hn := hok.1.2.1
  have hg8 := hok.1.2.2.2.1
  obtain ⟨r, H1, kk, hr, hb, wd, hres⟩ := L_stack (E := E) (d := d) (x := x) (y := y) (z := z) O
  have hs := cpW_same w wd
  have oku : wOk (cpW w wd) (nw w) (gw w) (ow w) := wOk_same hs hok
  have oku2 : wOk (cpW w wd) (nw (cpW w wd)) (gw (cpW w wd)) (ow (cpW w wd)) := by rw [nws hs, gws hs, ows hs]; exact oku
  have hres : RA sn sf w l k (-1) (-2) (-3) (fStand (cpW w wd) (nw w) (gw w) x y z) r H1 := hres
  rcases stand_cases oku hx hi ((hs 8 i (rg8 (by omega)).1).trans h8) hy hz with ⟨re, t, h567, e⟩ | ⟨b0, L0, hb0, hL0, free, ho, e⟩
  · rw [e] at hres
    obtain ⟨hv, O1⟩ := RA_no hres
    refine ⟨r, H1, kk, w, _, _, hr, hb, O1, rfl, rfl, fun _ _ => rfl, D, Or.inr ⟨by rw [hv]; decide, ?_, ?_, ?_⟩⟩
    · show 0 < wNote (cpW w wd) re t 16 6
      have : wNote (cpW w wd) re t 16 6 = 1 := rfl
      rw [this]
      decide
    · rw [why_0 (by omega), show wNote (cpW w wd) re t 14 0 = re from rfl]
      rcases h567 with q | q | q <;> rw [q] <;> decide
    · rw [why_0 (by omega), show wNote (cpW w wd) re t 14 0 = re from rfl]
      rcases h567 with q | q | q <;> rw [q] <;> decide
  · rw [e] at hres
    have h0 : 0 ≤ Int32.ofNat L0 := Int32.not_lt.mp (ofN_lt0 (by omega))
    obtain ⟨hv, k1, O1⟩ := RA_go hres h0
    subst hv
    have eo : ∀ a i', ¬ (a = 8 ∨ a = 9) → wSt (cpW w wd) i (Int32.ofNat b0) (Int32.ofNat L0) a i' = cpW w wd a i' := fun a i' h => (upw_ne (by omega)).trans (upw_ne (by omega))
    refine ⟨_, H1, kk, _, _, k1, hr, hb, O1, (congrArg zn (eo 16 4 (by omega))).trans (gws hs), (congrArg zn (eo 16 3 (by omega))).trans (nws hs), fun j hj => ?_, ⟨?_, ?_, ((congrArg zn (eo 16 5 (by omega))).trans (ows hs)).trans D.2.2⟩, Or.inl h0⟩
    · rw [eo 1 j (by omega), hs 1 j (rg1 (by omega) (by omega) (by omega))]
    · exact Gt_eq (w := cpW w wd) rfl (fun j hj => ⟨eo 2 j (by omega), eo 3 j (by omega)⟩) (Gt_same hs hn D.1)
    · refine Lx_stand oku2 (by rw [gws hs]; exact hi) ((hs 8 i (rg8 (by omega)).1).trans h8) hb0 hL0 (by rw [gws hs]; exact free) ?_ (Lx_same hs hok D.2.1)
      rw [nws hs, gws hs]
      exact ho
theorem D_put (O : OK sn sf w l k H) (hx : x = Int32.ofNat i) (hi : i < nw w) (h1 : w 1 i = 0) (hy : y = Int32.ofNat j) (hj : j < gw w) (D : DB w) : ∃ r H1 kk w1 l1 k1, mRun (d + 7) m_L_put [.ref 8, .int x, .int y] (H ++ E) = some (.inl (some (.int r)), H1 ++ E, kk) ∧ kB 1 kk ∧ OK sn sf w1 l1 k1 H1 ∧ gw w1 = gw w ∧ nw w1 = nw w ∧ (∀ a, a < 60 → ¬ a = i → w1 1 a = w 1 a) ∧ DB w1 ∧ (0 ≤ r ∨ (r < 0 ∧ 0 < k1 7 2 ∧ (k1 0 0 = 4 ∨ k1 0 0 = 7))) := by
  have hok : wOk w (nw w) (gw w) (ow w) := ok_okk O
  have hn := hok.1.2.1
  have hg8 := hok.1.2.2.2.1
  obtain ⟨r, H1, kk, hr, hb, wd, hres⟩ := L_put (E := E) (d := d) (x := x) (y := y) O
  have hs := cpW_same w wd
  have oku : wOk (cpW w wd) (nw w) (gw w) (ow w) := wOk_same hs hok
  have oku2 : wOk (cpW w wd) (nw (cpW w wd)) (gw (cpW w wd)) (ow (cpW w wd)) := by rw [nws hs, gws hs, ows hs]; exact oku
  have hLu := Lx_same hs hok D.2.1
  have h1u : cpW w wd 1 i = 0 := (hs 1 i (rg1 (by omega) (by omega) (by omega))).trans h1
  have h6 : nHd (cpW w wd) (nw w) j ≤ 6 := by
    have := (hLu j (by rw [gws hs]; exact hj)).1
    rw [nws hs] at this
    exact this
  have hres : RA sn sf w l k (-1) 0 (-2) (fPut (cpW w wd) (nw w) (gw w) x y) r H1 := hres
  rcases put_cases oku hx hi h1u hy hj h6 with ⟨re, t, h47, e⟩ | ⟨hf, ho, e, h0⟩
  · rw [e] at hres
    obtain ⟨hv, O1⟩ := RA_no hres
    refine ⟨r, H1, kk, w, _, _, hr, hb, O1, rfl, rfl, fun _ _ _ => rfl, D, Or.inr ⟨by rw [hv]; decide, ?_, ?_⟩⟩
    · show 0 < wNote (cpW w wd) re t 16 6
      have : wNote (cpW w wd) re t 16 6 = 1 := rfl
      rw [this]
      decide
    · rw [why_0 (by omega), show wNote (cpW w wd) re t 14 0 = re from rfl]
      exact h47
  · rw [e] at hres
    obtain ⟨hv, k1, O1⟩ := RA_go hres h0
    subst hv
    have eo : ∀ a i', ¬ (a = 1 ∨ a = 4) → upw (upw (cpW w wd) 1 i 1) 4 i (Int32.ofNat j) a i' = cpW w wd a i' := fun a i' h => (upw_ne (by omega)).trans (upw_ne (by omega))
    refine ⟨_, H1, kk, _, _, k1, hr, hb, O1, (congrArg zn (eo 16 4 (by omega))).trans (gws hs), (congrArg zn (eo 16 3 (by omega))).trans (nws hs), fun a ha hne => ?_, ⟨?_, ?_, ((congrArg zn (eo 16 5 (by omega))).trans (ows hs)).trans D.2.2⟩, Or.inl h0⟩
    · have : upw (upw (cpW w wd) 1 i 1) 4 i (Int32.ofNat j) 1 a = cpW w wd 1 a := (upw_ne (by omega)).trans (upw_ne (by omega))
      rw [this, hs 1 a (rg1 (by omega) (by omega) (by omega))]
    · exact Gt_eq (w := cpW w wd) rfl (fun j hj => ⟨eo 2 j (by omega), eo 3 j (by omega)⟩) (Gt_same hs hn D.1)
    · refine Lx_put oku2 (by rw [nws hs]; exact hi) h1u (by rw [gws hs]; exact hj) (by rw [nws hs]; exact hf) ?_ hLu
      rw [nws hs, gws hs]
      exact ho
theorem D_fire (O : OK sn sf w l k H) (hY : x = Int32.ofNat a) (h1 : 1000 ≤ a) (h2 : a ≤ 1400) (D : DB w) : ∃ r H1 kk w1 l1 k1, mRun (d + 7) m_L_fire [.ref 8, .int x] (H ++ E) = some (.inl (some (.int r)), H1 ++ E, kk) ∧ kB 1 kk ∧ OK sn sf w1 l1 k1 H1 ∧ gw w1 = gw w ∧ nw w1 = nw w ∧ DB w1 ∧ ((0 ≤ r ∧ ¬ wAny w (nw w) = 0) ∨ (r < 0 ∧ wAny w (nw w) = 0)) := by
  have hok : wOk w (nw w) (gw w) (ow w) := ok_okk O
  have hn := hok.1.2.1
  have hg8 := hok.1.2.2.2.1
  obtain ⟨r, H1, kk, hr, hb, wd, hres⟩ := L_fire (E := E) (d := d) (x := x) O
  have hs := cpW_same w wd
  have hYr : 1000 ≤ x ∧ x ≤ 1400 := ⟨(zI_le (x := 1000) (i := 1000) rfl hY (by omega) (by omega)).mpr h1, (zI_le (y := 1400) (n := 1400) hY rfl (by omega) (by omega)).mpr h2⟩
  have hres : RA sn sf w l k 0 (-1) (-2) (fFire (cpW w wd) (nw w) x) r H1 := hres
  by_cases ha : wAny w (nw w) = 0
  · have e : fFire (cpW w wd) (nw w) x = (-3, wNote (cpW w wd) 9 0) := (if_pos hYr).trans (if_pos ((any_same hs hok.A).mpr ha))
    rw [e] at hres
    obtain ⟨hv, O1⟩ := RA_no hres
    exact ⟨r, H1, kk, w, _, _, hr, hb, O1, rfl, rfl, D, Or.inr ⟨by rw [hv]; decide, ha⟩⟩
  · have e : fFire (cpW w wd) (nw w) x = (wFirsts (cpW w wd) (nw w) x, upw (wFireK (cpW w wd) x (nw w)) 16 2 (cpW w wd 16 2 + 1)) := (if_pos hYr).trans (if_neg (fun q => ha ((any_same hs hok.A).mp q)))
    rw [e] at hres
    have h0 := wFirsts_0 (cpW w wd) (nw w) x (by omega)
    obtain ⟨hv, k1, O1⟩ := RA_go hres h0
    subst hv
    have eo : ∀ b j, ¬ (b = 1 ∨ b = 5 ∨ (b = 16 ∧ j = 2)) → upw (wFireK (cpW w wd) x (nw w)) 16 2 (cpW w wd 16 2 + 1) b j = cpW w wd b j := fun b j hb => (upw_ne (by omega)).trans (wFireK_out (Or.inr (by omega)))
    have en1 : nw (upw (wFireK (cpW w wd) x (nw w)) 16 2 (cpW w wd 16 2 + 1)) = nw (cpW w wd) := congrArg zn (eo 16 3 (by omega))
    have eg1 : gw (upw (wFireK (cpW w wd) x (nw w)) 16 2 (cpW w wd 16 2 + 1)) = gw (cpW w wd) := congrArg zn (eo 16 4 (by omega))
    refine ⟨_, H1, kk, _, _, k1, hr, hb, O1, eg1.trans (gws hs), en1.trans (nws hs), ⟨?_, ?_, ((congrArg zn (eo 16 5 (by omega))).trans (ows hs)).trans D.2.2⟩, Or.inl ⟨h0, ha⟩⟩
    · exact Gt_eq (w := cpW w wd) en1 (fun j hj => ⟨eo 2 j (by omega), eo 3 j (by omega)⟩) (Gt_same hs hn D.1)
    · exact Lx_mono (w := cpW w wd) (by rw [nws hs]; exact hn) (by rw [gws hs]; exact hg8) en1 eg1 (eo 0 2 (by omega)) (fun j hj => ⟨eo 8 j (by omega), eo 9 j (by omega)⟩) (fun j hj => Nat.le_of_eq (nHd_eq fun i hi => ⟨eo 4 i (by omega), eo 6 i (by omega)⟩)) (Lx_same hs hok D.2.1)
theorem D_empty (O : OK sn sf w l k H) (hx : x = Int32.ofNat i) (hi : i < gw w) (D : DB w) : ∃ r H1 kk w1 l1 k1, mRun (d + 7) m_L_empty [.ref 8, .int x] (H ++ E) = some (.inl (some (.int r)), H1 ++ E, kk) ∧ kB 1 kk ∧ OK sn sf w1 l1 k1 H1 ∧ gw w1 = gw w ∧ nw w1 = nw w ∧ DB w1 ∧ (0 ≤ r ∨ (r < 0 ∧ wIn w1 (nw w1) x = 0)) := by
  have hok : wOk w (nw w) (gw w) (ow w) := ok_okk O
  have hn := hok.1.2.1
  have hg8 := hok.1.2.2.2.1
  obtain ⟨r, H1, kk, hr, hb, wd, hres⟩ := L_empty (E := E) (d := d) (x := x) O
  have hs := cpW_same w wd
  have hxr : 0 ≤ x ∧ x < cpW w wd 16 4 := ⟨(zI_le (x := 0) (i := 0) rfl hx (by omega) (by omega)).mpr (by omega), (zI_lt hx ((hs 16 4 (rg16 (by omega))).trans hok.1.2.2.1) (by omega) (by omega)).mpr hi⟩
  have hres : RA sn sf w l k (-1) 0 (-2) (fEmpty (cpW w wd) (nw w) x) r H1 := hres
  have ein : wIn (cpW w wd) (nw w) x = wIn w (nw w) x := aSm_congr _ 0 fun j _ hj => by rw [hs 4 j (rg1 (by omega) (by omega) (by omega))]
  by_cases ha : wIn w (nw w) x = 0
  · have e : fEmpty (cpW w wd) (nw w) x = (-3, wNote (cpW w wd) 9 0) := (if_pos hxr).trans (if_pos (ein.trans ha))
    rw [e] at hres
    obtain ⟨hv, O1⟩ := RA_no hres
    exact ⟨r, H1, kk, w, _, _, hr, hb, O1, rfl, rfl, D, Or.inr ⟨by rw [hv]; decide, ha⟩⟩
  · have e : fEmpty (cpW w wd) (nw w) x = (wStored (cpW w wd) (nw w) x, wOutK (cpW w wd) x (nw w)) := (if_pos hxr).trans (if_neg (fun q => ha (ein.symm.trans q)))
    rw [e] at hres
    obtain ⟨c, hc, ec⟩ := cnt_n (fun j => cpW w wd 4 j = x ∧ wTo (cpW w wd) j = 3) (nw w)
    have ec : wStored (cpW w wd) (nw w) x = Int32.ofNat c := ec
    have h0 : 0 ≤ wStored (cpW w wd) (nw w) x := by
      rw [ec]
      exact Int32.not_lt.mp (ofN_lt0 (by omega))
    obtain ⟨hv, k1, O1⟩ := RA_go hres h0
    subst hv
    have eo : ∀ b j, ¬ (b = 1 ∨ b = 4) → wOutK (cpW w wd) x (nw w) b j = cpW w wd b j := fun b j hb => wOutK_out (Or.inr hb)
    have en1 : nw (wOutK (cpW w wd) x (nw w)) = nw (cpW w wd) := congrArg zn (eo 16 3 (by omega))
    have eg1 : gw (wOutK (cpW w wd) x (nw w)) = gw (cpW w wd) := congrArg zn (eo 16 4 (by omega))
    have e4 : ∀ i, wOutK (cpW w wd) x (nw w) 4 i = cpW w wd 4 i ∨ wOutK (cpW w wd) x (nw w) 4 i = -1 := fun i => by
      unfold wOutK
      by_cases c : i < nw w ∧ cpW w wd 4 i = x
      · rw [if_pos ⟨Or.inr rfl, c.1, c.2⟩, if_neg (by decide)]
        exact Or.inr rfl
      · rw [if_neg (fun q => c ⟨q.2.1, q.2.2⟩)]
        exact Or.inl rfl
    refine ⟨_, H1, kk, _, _, k1, hr, hb, O1, eg1.trans (gws hs), en1.trans (nws hs), ⟨?_, ?_, ((congrArg zn (eo 16 5 (by omega))).trans (ows hs)).trans D.2.2⟩, Or.inl h0⟩
    · exact Gt_eq (w := cpW w wd) en1 (fun j hj => ⟨eo 2 j (by omega), eo 3 j (by omega)⟩) (Gt_same hs hn D.1)
    · exact Lx_mono (w := cpW w wd) (by rw [nws hs]; exact hn) (by rw [gws hs]; exact hg8) en1 eg1 (eo 0 2 (by omega)) (fun j hj => ⟨eo 8 j (by omega), eo 9 j (by omega)⟩) (fun j hj => nHd_out (fun i hi => ⟨e4 i, eo 6 i (by omega)⟩) (by rw [gws hs] at hj; omega)) (Lx_same hs hok D.2.1)
theorem D_order {y0 y1 y2 : Int32} (O : OK sn sf w l k H) (hc : (0 ≤ x ∧ x ≤ 6) ∧ (0 ≤ y0 ∧ y0 ≤ 6) ∧ (0 ≤ y1 ∧ y1 ≤ 6) ∧ (0 ≤ y2 ∧ y2 ≤ 6) ∧ (0 ≤ y ∧ y ≤ 3) ∧ ¬ x + y0 + y1 + y2 = 0) (ho : ow w < 6) (G : Gt w) (hL : Lx w) : ∃ H1 kk w1 l1 k1, mRun (d + 7) m_L_order [.ref 8, .int x, .int y0, .int y1, .int y2, .int y, .int z] (H ++ E) = some (.inl (some (.int (Int32.ofNat (ow w)))), H1 ++ E, kk) ∧ kB 1 kk ∧ OK sn sf w1 l1 k1 H1 ∧ ow w1 = ow w + 1 ∧ Gt w1 ∧ Lx w1 ∧ w1 12 (ow w) = 0 ∧ ∀ i, i < ow w → w1 12 i = w 12 i := by
  have hok : wOk w (nw w) (gw w) (ow w) := ok_okk O
  have hn := hok.1.2.1
  have hg8 := hok.1.2.2.2.1
  obtain ⟨r, H1, kk, hr, hb, wd, hres⟩ := L_order (E := E) (d := d) (x := x) (y := y0) (z := y1) (u := y2) (t := y) (s := z) O
  have hs := cpW_same w wd
  have e5 : cpW w wd 16 5 = Int32.ofNat (ow w) := (hs 16 5 (rg16 (by omega))).trans hok.1.2.2.2.2.1
  have e : fOrd (cpW w wd) (ow w) x y0 y1 y2 y z = (Int32.ofNat (ow w), wOrd (cpW w wd) (ow w) x y0 y1 y2 y (if z = 0 then 0 else 1)) := by
    unfold fOrd
    rw [if_pos hc, e5, if_pos ((zI_lt (y := 6) (n := 6) rfl rfl (by omega) (by omega)).mpr ho)]
  have hres : RA sn sf w l k 0 (-1) (-2) (fOrd (cpW w wd) (ow w) x y0 y1 y2 y z) r H1 := hres
  rw [e] at hres
  obtain ⟨hv, k1, O1⟩ := RA_go hres (Int32.not_lt.mp (ofN_lt0 (by omega)))
  subst hv
  generalize (if z = 0 then (0 : Int32) else 1) = zz at O1
  have eo : ∀ a i, ¬ (a = 10 ∨ a = 11 ∨ (a = 12 ∧ i = ow w) ∨ a = 13 ∨ (a = 16 ∧ i = 5)) → wOrd (cpW w wd) (ow w) x y0 y1 y2 y zz a i = cpW w wd a i := fun a i h => by
    unfold wOrd wAdd1
    rw [upw_ne (by omega), upw_ne (by omega), upw_ne (by omega), upw_ne (by omega), upw_ne (by omega), upw_ne (by omega), upw_ne (by omega), upw_ne (by omega)]
  have en1 : nw (wOrd (cpW w wd) (ow w) x y0 y1 y2 y zz) = nw (cpW w wd) := congrArg zn (eo 16 3 (by omega))
  have eg1 : gw (wOrd (cpW w wd) (ow w) x y0 y1 y2 y zz) = gw (cpW w wd) := congrArg zn (eo 16 4 (by omega))
  refine ⟨H1, kk, _, _, k1, hr, hb, O1, ?_, ?_, ?_, ?_, fun i hi => ?_⟩
  · have : wOrd (cpW w wd) (ow w) x y0 y1 y2 y zz 16 5 = cpW w wd 16 5 + 1 := by
      unfold wOrd wAdd1
      rw [upw_ne (by omega), upw_ne (by omega), upw_ne (by omega), upw_ne (by omega), upw_eq]
    show zn (wOrd (cpW w wd) (ow w) x y0 y1 y2 y zz 16 5) = _
    rw [this, e5, zn_of (zI_s rfl) (by omega)]
  · exact Gt_eq (w := cpW w wd) en1 (fun j hj => ⟨eo 2 j (by omega), eo 3 j (by omega)⟩) (Gt_same hs hn G)
  · exact Lx_mono (w := cpW w wd) (by rw [nws hs]; exact hn) (by rw [gws hs]; exact hg8) en1 eg1 (eo 0 2 (by omega)) (fun j hj => ⟨eo 8 j (by omega), eo 9 j (by omega)⟩) (fun j hj => Nat.le_of_eq (nHd_eq fun i hi => ⟨eo 4 i (by omega), eo 6 i (by omega)⟩)) (Lx_same hs hok hL)
  · unfold wOrd wAdd1
    rw [upw_ne (by omega), upw_ne (by omega), upw_ne (by omega), upw_ne (by omega), upw_ne (by omega), upw_eq]
  · rw [eo 12 i (by omega), hs 12 i (rg10 (by omega)).2.2]
end DRX
