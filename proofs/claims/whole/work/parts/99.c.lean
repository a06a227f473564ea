/-! THE LAW'S BODY: sets, texts, shares, undo, snapshot -/
section LR
variable {sn i c1 c2 : Nat} {sf : Nat → Int32} {lo : Nat → Int64} {dd : Nat → UInt64} {m m1 k : aW} {W : Nat → aW} {n g o : Nat} {xi b x y z : Int32} {l6 l7 l8 : Option Value} {BB : aK} {w : aW}
/-- the model's row and numbers as they were -/
theorem GI_fr (G : GI k W m) (h0 : ∀ i, i < 495 → m1 0 i = m 0 i) (ha : ∀ a, ¬ (a = 0 ∨ a = 2 ∨ a = 9) → m1 a = m a) (h9 : ∀ i, ¬ i = 2 → m1 9 i = m 9 i) : GI k W m1 := by
  obtain ⟨Gw, ⟨s1, s2⟩, ⟨c, j1, c8, j18, hc, hj1, hc1, hist⟩, ⟨L, hL, t1, t2, t3, t4⟩, r1, r, hr, r2, r3, r4⟩ := G
  refine ⟨gW_s Gw h0, ⟨s1.trans (h9 0 (by omega)).symm, fun q => ?_⟩, ⟨c, j1, c8, j18, hc, hj1, (h9 1 (by omega)).trans hc1, fun e he => ?_⟩, ⟨L, hL, t1, (h9 4 (by omega)).trans t2, t3.trans (ha 7 (by omega)).symm, fun i => by rw [ha 7 (by omega)]; exact t4 i⟩, r1.trans (h9 7 (by omega)).symm, r, hr, r2, (h9 3 (by omega)).trans r3, fun i hi => by rw [ha 5 (by omega), ha 6 (by omega)]; exact r4 i hi⟩
  · rw [ha 3 (by omega)]
    exact s2 (by rw [← h9 0 (by omega)]; exact q)
  · rw [ha 4 (by omega)]
    exact hist e he
theorem c_sets (hx : xi = Int32.ofNat i) (hi : i + 7 ≤ sn) (hsn : sn ≤ 3584) (G : GI k W m) (ih : IHL sn sf xi BB c1 c2) : aFn FL BB (1710, [some (.ref 5), some (.ref 20), some (.ref 10), some (.ref 8), some (.ref 9), some (.int xi), l6, l7, l8], [], (aLh sn sf lo dd m (KL k W)), (c1, c2)) := by
  obtain ⟨n, g, o, ok, R⟩ := G.1
  have ok1 : wOk (cpW (W 0) (W 1)) n g o := wOk_same (cpW_same _ _) ok
  have R1 : Rl (cpW (W 0) (W 1)) (m 0) n g o := Rl_cg R ok.1.2.1 ok.1.2.2.2.1 ok.1.2.2.2.2.2 (cpW_same _ _) (fun _ _ => rfl)
  by_cases c0 : 0 ≤ sf (i + 1) ∧ sf (i + 1) < W 0 16 5
  · have hi1 := (aIx_lt c0 ok.1.2.2.2.2.1 ok.1.2.2.2.2.2 (by omega)).2.1
    obtain ⟨m3, run, f1, f2, f3, f4⟩ := y_sets (sn := sn) (sf := sf) (m := m) (w := cpW (W 0) (W 1)) (y := sf (i + 1)) 2 R1 ok1.A c0 (allS_end ok1 hi1)
    have hl := w_sets (lift_k (lo := lo) (dd := dd) (m := m) (R := RgL W) (k_sets (sn := sn) (sf := sf) (k := k) (wd := W 1) (ws := W 2) (x := sf (i + 1)) 3 ok c0))
    exact s_sets hx hi hsn hl (lift_m run) f3 (fun _ => vpu0) (fun l6 l7 => ih k (updW W _) m3 _ dd l6 l7 l8 (c1, c2) (GI_fr (GI_W1 G updW_n) f2 f1 f4) (by omega) (by omega))
  · have hl := w_sets_2 (lift_k (lo := lo) (dd := dd) (m := m) (R := RgL W) (k_setsX (sn := sn) (sf := sf) (k := k) (wn := W 0) (wd := W 1) (ws := W 2) (x := sf (i + 1)) 3 c0))
    exact s_sets hx hi hsn hl (lift_m (y_setsX (sn := sn) (sf := sf) (m := m) (y := sf (i + 1)) 2 R ok.A c0)) rfl (fun q => absurd q (by decide)) (fun l6 l7 => ih k W _ lo dd l6 l7 l8 (c1 + 1, c2 + 6) (GI_9 G) (Nat.le_refl _) (Nat.le_refl _))
theorem c_setsAgain (hx : xi = Int32.ofNat i) (hi : i + 7 ≤ sn) (hsn : sn ≤ 3584) (G : GI k W m) (ih : IHL sn sf xi BB c1 c2) : aFn FL BB (1766, [some (.ref 5), some (.ref 20), some (.ref 10), some (.ref 8), some (.ref 9), some (.int xi), l6, l7, l8], [], (aLh sn sf lo dd m (KL k W)), (c1, c2)) := by
  obtain ⟨n, g, o, ok, R⟩ := G.1
  by_cases c0 : 0 ≤ sf (i + 1) ∧ sf (i + 1) < W 0 16 5
  · have hi1 := (aIx_lt c0 ok.1.2.2.2.2.1 ok.1.2.2.2.2.2 (by omega)).2.1
    obtain ⟨m3, run, f1, f2, f3, f4⟩ := y_sets (sn := sn) (sf := sf) (m := m) (w := W 0) (y := sf (i + 1)) 1 R ok.A c0 (allS_end ok hi1)
    have hk := k_setsAgain (sn := sn) (sf := sf) (k := k) (wd := W 1) (ws := W 2) (x := sf (i + 1)) 3 ok
    rw [show q_setsAgain (W 0) n (sf (i + 1)) = .inr (wDv (W 0) n (zn (sf (i + 1))) 4) from if_pos c0, dv_all ok hi1] at hk
    have hl := w_setsAgain (lift_k (lo := lo) (dd := dd) (m := m) (R := RgL W) hk)
    exact s_setsAgain hx hi hsn hl (lift_m (y_setsAgain 1 run)) f3 (fun _ => vpu0) (fun l6 l7 => ih k W m3 _ dd l6 l7 l8 (c1, c2) (GI_fr G f2 f1 f4) (by omega) (by omega))
  · have hk := k_setsAgain (sn := sn) (sf := sf) (k := k) (wd := W 1) (ws := W 2) (x := sf (i + 1)) 3 ok
    rw [show q_setsAgain (W 0) n (sf (i + 1)) = .inl 2 from if_neg c0] at hk
    have hl := w_setsAgain_2 (lift_k (lo := lo) (dd := dd) (m := m) (R := RgL W) hk)
    exact s_setsAgain hx hi hsn hl (lift_m (y_setsAgain 1 (y_setsX (sn := sn) (sf := sf) (m := m) (y := sf (i + 1)) 1 R ok.A c0))) rfl (fun q => absurd q (by decide)) (fun l6 l7 => ih k W _ lo dd l6 l7 l8 (c1 + 1, c2 + 6) (GI_9 G) (Nat.le_refl _) (Nat.le_refl _))
theorem ch_of {a : Nat} (h : a < 65536) (e : x = Int32.ofNat a) : (x.toUInt32 % 65536).toInt32 = x := by
  refine Int32.toInt_inj.mp ?_
  have e1 : x.toUInt32.toNat = a := by
    rw [e, Int32.toUInt32_ofNat', UInt32.toNat_ofNat']
    omega
  have e2 : (x.toUInt32 % 65536).toNat = a := by
    rw [UInt32.toNat_mod, e1]
    show a % 65536 = a
    omega
  have e3 : (x.toUInt32 % 65536).toInt32 = Int32.ofNat a := by
    rw [← e2]
    exact congrArg UInt32.toInt32 (UInt32.ofNat_toNat (x := x.toUInt32 % 65536)).symm
  rw [e3, e]
/-- a char: its range, and that it stays what it is -/
theorem ch_rng (x : Int32) : 0 ≤ (x.toUInt32 % 65536).toInt32 ∧ (x.toUInt32 % 65536).toInt32 < 65536 := by
  have h : (x.toUInt32 % 65536).toNat < 65536 := by
    rw [UInt32.toNat_mod]
    exact Nat.mod_lt _ (by decide)
  have e : (x.toUInt32 % 65536).toInt32 = Int32.ofNat (x.toUInt32 % 65536).toNat := congrArg UInt32.toInt32 (UInt32.ofNat_toNat (x := x.toUInt32 % 65536)).symm
  rw [e]
  exact ⟨Int32.not_lt.mp (ofN_lt0 (by omega)), (zI_lt (n := 65536) rfl rfl (by omega) (by omega)).mpr h⟩
theorem ch_id (h : 0 ≤ x ∧ x < 65536) : (x.toUInt32 % 65536).toInt32 = x := by
  have e := zn_nn h.1
  refine ch_of (a := zn x) ?_ e
  exact (zI_lt (i := zn x) (n := 65536) e rfl (by have := Int32.toInt_lt x; have g2 : zn x = x.toInt.toNat := rfl; omega) (by omega)).mp h.2
theorem c_append (hx : xi = Int32.ofNat i) (hi : i + 7 ≤ sn) (hsn : sn ≤ 3584) (G : GI k W m) (ih : IHL sn sf xi BB c1 c2) : aFn FL BB (1822, [some (.ref 5), some (.ref 20), some (.ref 10), some (.ref 8), some (.ref 9), some (.int xi), l6, l7, l8], [], (aLh sn sf lo dd m (KL k W)), (c1, c2)) := by
  have ch := ch_rng (sf (i + 1))
  obtain ⟨L, hL, t1, t2, t3, t4⟩ := G.2.2.2.1
  by_cases c0 : L < 60
  · have hl := w_append (lift_k (lo := lo) (dd := dd) (m := m) (R := RgL W) (k_append (sn := sn) (sf := sf) (k := k) (wn := W 0) (wd := W 1) (ws := W 2) (x := ((sf (i + 1)).toUInt32 % 65536).toInt32) 3 t1 c0 (ch_id ch)))
    exact s_append hx hi hsn hl (lift_m (y_append (sn := sn) (sf := sf) (m := m) (x := ((sf (i + 1)).toUInt32 % 65536).toInt32) 3 t2 c0 (ch_id ch))) rfl (fun _ => by rw [vpu0, t1, t2]) (fun l6 l7 => ih (kApp k L _) W (mApp m L _) _ dd l6 l7 l8 (c1, c2) (GI_app G t2 c0 ch) (by omega) (by omega))
  · have e60 : L = 60 := by omega
    subst e60
    have hl := w_append_4 (lift_k (lo := lo) (dd := dd) (m := m) (R := RgL W) (k_appendX (sn := sn) (sf := sf) (k := k) (wn := W 0) (wd := W 1) (ws := W 2) (x := ((sf (i + 1)).toUInt32 % 65536).toInt32) 3 (by rw [t1]; decide)))
    exact s_append hx hi hsn hl (lift_m (y_appendX (sn := sn) (sf := sf) (m := m) (x := ((sf (i + 1)).toUInt32 % 65536).toInt32) 3 t2)) rfl (fun q => absurd q (by decide)) (fun l6 l7 => ih k W _ lo dd l6 l7 l8 (c1 + 1, c2 + 6) (GI_9 G) (Nat.le_refl _) (Nat.le_refl _))
theorem pf_read (t : Nat → Int32) (L : Nat) (ok : wOk w n g o) : PF [-3] (cRead t L w) := by
  rcases pk_read L t (okk_of ok) with h | ⟨h, k⟩
  · exact Or.inr (Or.inr (Or.inl ⟨by rw [h]; decide, h⟩))
  · exact Or.inr (Or.inr (Or.inr ⟨h, _, _, _, k⟩))
theorem c_read (hx : xi = Int32.ofNat i) (hi : i + 7 ≤ sn) (hsn : sn ≤ 3584) (G : GI k W m) (ih : IHL sn sf xi BB c1 c2) : aFn FL BB (1880, [some (.ref 5), some (.ref 20), some (.ref 10), some (.ref 8), some (.ref 9), some (.int xi), l6, l7, l8], [], (aLh sn sf lo dd m (KL k W)), (c1, c2)) := by
  obtain ⟨⟨n, g, o, ok, R⟩, -, ⟨c, j, c8, hj8, -, hj, hc, -⟩, ⟨L, hL, t1, t2, t3, t4⟩, -⟩ := id G
  have ok1 : wOk (cpW (W 0) (W 1)) n g o := wOk_same (cpW_same _ _) ok
  have R1 : Rl (cpW (W 0) (W 1)) (m 0) n g o := Rl_cg R ok.1.2.1 ok.1.2.2.2.1 ok.1.2.2.2.2.2 (cpW_same _ _) (fun _ _ => rfl)
  have hch : ∀ j, j < L → ((k 6 j).toUInt32 % 65536).toInt32 = k 6 j := fun j _ => by rw [t3]; exact ch_id (t4 j)
  by_cases hf : (pGo (m 7) L 20 0).2 = -1
  · have hf1 : (pGo (k 6) L 20 0).2 = -1 := by rw [t3]; exact hf
    obtain ⟨k1, hk, K1⟩ := k_read (sn := sn) (sf := sf) (wd := W 1) (ws := W 2) cKeeps_ok 2 hj hj8 ok t1 hL hch hf1
    obtain ⟨m4, m1, u, run, ⟨g1, g2, g3, g4, g5, g6⟩, O⟩ := y_read (sn := sn) (sf := sf) (m := m) cKeeps_ok 0 R1 ok1 hc c8 t2 hL (fun j _ => t4 j) hf
    rw [t3] at hk
    have G4 : GI k1 W m4 := GI_read G K1 g1 g2 g3 g4 g5 g6
    have hj1 : k1 7 4 = Int32.ofNat j := (K1.2.2 7 4 (by omega) (by omega)).trans hj
    exact op_gen (lo := lo) (dd := dd) (l8 := l8) (f := cd2) (E := [-3]) G4 hj1 hj8 hk rfl (pf_read _ _ ok1) run rfl O (fun X1 v h => w_read h) (fun h => absurd h (by decide)) (fun h => absurd h (by decide)) (fun _ X1 h => w_read_1 h) (fun lo1 X1 m1 c b kk hL hM hT hO K => s_read hx hi hsn hL hM hT hO K) ih
  · have hf1 : ¬ (pGo (k 6) L 20 0).2 = -1 := by rw [t3]; exact hf
    obtain ⟨k1, hk, K1⟩ := k_readX (sn := sn) (sf := sf) (wn := W 0) (wd := W 1) (ws := W 2) 2 t1 hL hch hf1
    obtain ⟨m1, run, b1, b2, b3, b4, b5, b6, b7⟩ := y_readX (sn := sn) (sf := sf) (m := m) 0 t2 hL (fun j _ => t4 j) hf
    rw [t3] at K1
    have hl := w_read_0 (lift_k (lo := lo) (dd := dd) (m := m) (R := RgL W) hk)
    exact s_read hx hi hsn hl (lift_m run) b1 (fun q => absurd q (by decide)) (fun l6 l7 => ih k1 W m1 lo dd l6 l7 l8 (c1 + 1, c2 + 6) (GI_read G K1 b2 b3 b4 b5 b6 b7) (Nat.le_refl _) (Nat.le_refl _))
theorem c_faultPosition (G : GI k W m) (ih : IHL sn sf xi BB c1 c2) : aFn FL BB (1924, [some (.ref 5), some (.ref 20), some (.ref 10), some (.ref 8), some (.ref 9), some (.int xi), l6, l7, l8], [], (aLh sn sf lo dd m (KL k W)), (c1, c2)) := by
  have e : m 9 7 = k 7 1 := G.2.2.2.2.1.symm
  have hm := y_faultPosition (sn := sn) (sf := sf) (m := m) 3
  rw [e] at hm
  exact s_faultPosition (lift_k (lo := lo) (dd := dd) (m := m) (R := RgL W) (k_faultPosition (sn := sn) (sf := sf) (k := k) (wn := W 0) (wd := W 1) (ws := W 2) 4)) (lift_m hm) (ih k W _ lo dd l6 l7 l8 (c1, c2) (GI_9 G) (by omega) (by omega))
theorem c_isBalanced (G : GI k W m) (ih : IHL sn sf xi BB c1 c2) : aFn FL BB (2077, [some (.ref 5), some (.ref 20), some (.ref 10), some (.ref 8), some (.ref 9), some (.int xi), l6, l7, l8], [], (aLh sn sf lo dd m (KL k W)), (c1, c2)) := by
  obtain ⟨n, g, o, ok, R⟩ := G.1
  exact s_isBalanced (lift_k (lo := lo) (dd := dd) (m := m) (R := RgL W) (k_isBalanced (sn := sn) (sf := sf) (k := k) (wd := W 1) (ws := W 2) 4 ok (fun j hj => load_eq ok.2.2.1 ok.1.2.2.2.1 hj))) (lift_m (y_isBalanced (sn := sn) (sf := sf) (m := m) 3 R ok.A (clay_eq ok) (sets_eq ok))) (ih k W _ lo dd l6 l7 l8 (c1, c2) (GI_9 G) (by omega) (by omega))
theorem c_save (G : GI k W m) (ih : IHL sn sf xi BB c1 c2) : aFn FL BB (2265, [some (.ref 5), some (.ref 20), some (.ref 10), some (.ref 8), some (.ref 9), some (.int xi), l6, l7, l8], [], (aLh sn sf lo dd m (KL k W)), (c1, c2)) := by
  obtain ⟨n, g, o, ok, R⟩ := G.1
  have e : m 0 6 = W 0 16 3 := R.1.2.2.2.2.2.2.1
  have hm := y_save (sn := sn) (sf := sf) (m := m) 3
  rw [e] at hm
  exact s_save (lift_k (lo := lo) (dd := dd) (m := m) (R := RgL W) (k_save (sn := sn) (sf := sf) (k := k) (wn := W 0) (wd := W 1) (ws := W 2) 4)) (lift_m hm) (ih (upw k 7 0 1) (fun B => if B = 2 then cpW (W 0) (W 2) else W B) _ lo dd l6 l7 l8 (c1, c2) (GI_save G rfl (cpW_same _ _) (fun B hB => if_neg (by omega))) (by omega) (by omega))
theorem c_restore (hx : xi = Int32.ofNat i) (hi : i + 7 ≤ sn) (hsn : sn ≤ 3584) (G : GI k W m) (ih : IHL sn sf xi BB c1 c2) : aFn FL BB (2278, [some (.ref 5), some (.ref 20), some (.ref 10), some (.ref 8), some (.ref 9), some (.int xi), l6, l7, l8], [], (aLh sn sf lo dd m (KL k W)), (c1, c2)) := by
  obtain ⟨s1, s2⟩ := id G.2.1
  by_cases h : m 9 0 = 0
  · have hl := w_restore_4 (lift_k (lo := lo) (dd := dd) (m := m) (R := RgL W) (k_restoreX (sn := sn) (sf := sf) (k := k) (wn := W 0) (wd := W 1) (ws := W 2) 3 (s1.trans h)))
    exact s_restore hx hi hsn hl (lift_m (y_restoreX (sn := sn) (sf := sf) (m := m) 3 h)) rfl (fun q => absurd q (by decide)) (fun l6 l7 => ih k W _ lo dd l6 l7 l8 (c1 + 1, c2 + 6) (GI_9 G) (Nat.le_refl _) (Nat.le_refl _))
  · have hk0 : ¬ k 7 0 = 0 := by rw [s1]; exact h
    obtain ⟨n, g, o, ok, R⟩ := s2 h
    have e : va_cpy (m 3) (m 0) 0 0 495 6 = W 2 16 3 := (cpy_at (by omega)).trans R.1.2.2.2.2.2.2.1
    have hm := y_restore (sn := sn) (sf := sf) (m := m) 3 h
    rw [e] at hm
    have hl := w_restore (lift_k (lo := lo) (dd := dd) (m := m) (R := RgL W) (k_restore (sn := sn) (sf := sf) (k := k) (wn := W 0) (wd := W 1) (ws := W 2) 3 hk0))
    exact s_restore hx hi hsn hl (lift_m hm) rfl (fun _ => vpu0) (fun l6 l7 => ih (upw k 7 3 0) (fun B => if B = 0 then cpW (W 2) (W 0) else W B) _ _ dd l6 l7 l8 (c1, c2) (GI_rest G h (cpW_same _ _) (fun B hB => if_neg (by omega))) (by omega) (by omega))
theorem c_undo (hx : xi = Int32.ofNat i) (hi : i + 7 ≤ sn) (hsn : sn ≤ 3584) (G : GI k W m) (ih : IHL sn sf xi BB c1 c2) : aFn FL BB (2221, [some (.ref 5), some (.ref 20), some (.ref 10), some (.ref 8), some (.ref 9), some (.int xi), l6, l7, l8], [], (aLh sn sf lo dd m (KL k W)), (c1, c2)) := by
  obtain ⟨-, -, ⟨c, j, c8, hj8, hc, hj, hc1, -⟩, -⟩ := id G
  cases c with
  | zero =>
    have hl := w_undo_4 (lift_k (lo := lo) (dd := dd) (m := m) (R := RgL W) (k_undoX (sn := sn) (sf := sf) (k := k) (wn := W 0) (wd := W 1) (ws := W 2) 3 hc))
    exact s_undo hx hi hsn hl (lift_m (y_undoX (sn := sn) (sf := sf) (m := m) 3 hc1)) rfl (fun q => absurd q (by decide)) (fun l6 l7 => ih k W _ lo dd l6 l7 l8 (c1 + 1, c2 + 6) (GI_9 G) (Nat.le_refl _) (Nat.le_refl _))
  | succ c =>
    have hk0 : ¬ k 7 3 = 0 := by
      rw [hc]
      exact fun q => by have := ofN_ne (i := c + 1) (j := 0) (by omega) (by omega) q; omega
    have e1 : (if k 7 3 - 1 < 0 then (0 : Int32) else k 7 3 - 1) = m 9 1 - 1 := by
      rw [hc, hc1, show Int32.ofNat (c + 1) - 1 = Int32.ofNat c from sub1, if_neg (ofN_lt0 (by omega))]
    have hl := w_undo (lift_k (lo := lo) (dd := dd) (m := m) (R := RgL W) (k_undo (sn := sn) (sf := sf) (k := k) (wn := W 0) (wd := W 1) (ws := W 2) 3 hj hj8 hk0))
    exact s_undo hx hi hsn hl (lift_m (y_undo (sn := sn) (sf := sf) (m := m) 3 hc1 (by omega))) rfl (fun _ => by rw [vpu0, e1]) (fun l6 l7 => fn_swp (Nat.mod_lt _ (by omega)) (fun l6 l7 l8 => ih (kUndo k j) (swpW W ((j + 7) % 8)) _ _ dd l6 l7 l8 (c1, c2) (GI_undo G hc1 (by omega) hj hj8) (by omega) (by omega)))
theorem fired_n (ok : wOkA w n g o) : ∃ b, b ≤ n ∧ wFired w n = Int32.ofNat b := by
  rw [wFired_eq ok]
  exact aSm_nn (fun j => by by_cases c : 0 < w 5 j <;> simp [c]) n 0
theorem inK_n : ∃ b, b ≤ g ∧ wInK w g = Int32.ofNat b := aSm_nn (fun j => by by_cases c : w 8 j = -1 <;> simp [c]) g 0
theorem c_firstShare (G : GI k W m) (ih : IHL sn sf xi BB c1 c2) : aFn FL BB (2090, [some (.ref 5), some (.ref 20), some (.ref 10), some (.ref 8), some (.ref 9), some (.int xi), l6, l7, l8], [], (aLh sn sf lo dd m (KL k W)), (c1, c2)) := by
  obtain ⟨n, g, o, ok, R⟩ := G.1
  by_cases h : wFired (W 0) n = 0
  · have hl := w_firstShare_5 (lift_k (lo := lo) (dd := dd) (m := m) (R := RgL W) (k_firstShareX (sn := sn) (sf := sf) (k := k) (wd := W 1) (ws := W 2) 3 ok h))
    exact s_firstShare hl (lift_m (y_firstShareX (sn := sn) (sf := sf) (m := m) 3 R ok.A h)) rfl (fun q => absurd q (by decide)) (fun l6 l7 l8 => ih k W _ lo dd l6 l7 l8 (c1 + 1, c2 + 6) (GI_9 G) (Nat.le_refl _) (Nat.le_refl _))
  · obtain ⟨b, hb, eb⟩ := fired_n ok.A
    have hn := ok.1.2.1
    have nn := ddiv_nn (x := wOfGr (W 0) n 1) eb (by omega) (fun q => h (by rw [eb, q]; rfl))
    have hl := w_firstShare (lift_k (lo := lo) (dd := dd) (m := m) (R := RgL W) (k_firstShare (sn := sn) (sf := sf) (k := k) (wd := W 1) (ws := W 2) 3 ok h (bits64 nn)))
    exact s_firstShare hl (lift_m (y_firstShare (sn := sn) (sf := sf) (m := m) 3 R ok.A h (bits64 nn))) rfl (fun _ => ⟨if_pos rfl, dcmp_eq nn⟩) (fun l6 l7 l8 => ih k W _ lo _ l6 l7 l8 (c1, c2) (GI_9 G) (by omega) (by omega))
theorem c_meanLoad (G : GI k W m) (ih : IHL sn sf xi BB c1 c2) : aFn FL BB (2155, [some (.ref 5), some (.ref 20), some (.ref 10), some (.ref 8), some (.ref 9), some (.int xi), l6, l7, l8], [], (aLh sn sf lo dd m (KL k W)), (c1, c2)) := by
  obtain ⟨n, g, o, ok, R⟩ := G.1
  by_cases h : wInK (W 0) g = 0
  · have hl := w_meanLoad_5 (lift_k (lo := lo) (dd := dd) (m := m) (R := RgL W) (k_meanLoadX (sn := sn) (sf := sf) (k := k) (wd := W 1) (ws := W 2) 3 ok h))
    exact s_meanLoad hl (lift_m (y_meanLoadX (sn := sn) (sf := sf) (m := m) 3 R ok.A h)) rfl (fun q => absurd q (by decide)) (fun l6 l7 l8 => ih k W _ lo dd l6 l7 l8 (c1 + 1, c2 + 6) (GI_9 G) (Nat.le_refl _) (Nat.le_refl _))
  · obtain ⟨b, hb, eb⟩ := inK_n (w := W 0) (g := g)
    have hg := ok.1.2.2.2.1
    have nn := fdiv_nn (x := wLoads (W 0) n g) eb (by omega) (fun q => h (by rw [eb, q]; rfl))
    have n2 := f2d_nn nn
    have hl := w_meanLoad (lift_k (lo := lo) (dd := dd) (m := m) (R := RgL W) (k_meanLoad (sn := sn) (sf := sf) (k := k) (wd := W 1) (ws := W 2) 3 ok h (bits32 nn))) (bits64 n2)
    exact s_meanLoad hl (lift_m (y_meanLoad (sn := sn) (sf := sf) (m := m) 3 R ok.A h (bits32 nn))) rfl (fun _ => ⟨⟨if_pos rfl, dcmp_eq n2⟩, bits64 n2⟩) (fun l6 l7 l8 => ih k W _ lo _ l6 l7 l8 (c1, c2) (GI_9 G) (by omega) (by omega))
end LR
