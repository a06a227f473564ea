/-! THE LAW: what holds between two calls -/
def gW (w : aW) (s : Nat → Int32) : Prop := ∃ n g o, wOk w n g o ∧ Rl w s n g o
def gS (k : aW) (W : Nat → aW) (m : aW) : Prop := k 7 0 = m 9 0 ∧ (¬ m 9 0 = 0 → gW (W 2) (m 3))
def gH (k : aW) (W : Nat → aW) (m : aW) : Prop := ∃ c j, c ≤ 8 ∧ j < 8 ∧ k 7 3 = Int32.ofNat c ∧ k 7 4 = Int32.ofNat j ∧ m 9 1 = Int32.ofNat c ∧ ∀ e, e < c → gW (W (3 + (j + 8 - c + e) % 8)) (fun i => m 4 (495 * e + i))
def gT (k m : aW) : Prop := ∃ L, L ≤ 60 ∧ k 7 5 = Int32.ofNat L ∧ m 9 4 = Int32.ofNat L ∧ k 6 = m 7 ∧ ∀ i, 0 ≤ m 7 i ∧ m 7 i < 65536
def gR (k m : aW) : Prop := k 7 1 = m 9 7 ∧ ∃ r, r ≤ 3 ∧ k 7 2 = Int32.ofNat r ∧ m 9 3 = Int32.ofNat r ∧ ∀ i, i < r → k 0 i = m 5 i ∧ k 1 i = m 6 i
def GI (k : aW) (W : Nat → aW) (m : aW) : Prop := gW (W 0) (m 0) ∧ gS k W m ∧ gH k W m ∧ gT k m ∧ gR k m
/-- now, draft and the ring's place j change about; w1: the draft as it has become -/
def rotW (W : Nat → aW) (j : Nat) (w1 : aW) : Nat → aW := fun B => if B = 0 then w1 else if B = 1 then W (3 + j) else if B = 3 + j then W 0 else W B
/-- now and the ring's place j change about -/
def swpW (W : Nat → aW) (j : Nat) : Nat → aW := fun B => if B = 0 then W (3 + j) else if B = 3 + j then W 0 else W B
section GI1
variable {w v : aW} {s s1 : Nat → Int32} {k k1 m m1 m4 : aW} {W W1 : Nat → aW} {p : aZ} {f : Int32 → Int32} {j c B n g o : Nat} {x u z : Int32}
theorem gW_cg (h : gW w s) (hw : wSame v w) (hs : ∀ i, i < 495 → s1 i = s i) : gW v s1 := by
  obtain ⟨n, g, o, ok, R⟩ := h
  exact ⟨n, g, o, wOk_same hw ok, Rl_cg R ok.1.2.1 ok.1.2.2.2.1 ok.1.2.2.2.2.2 hw hs⟩
theorem wS_rf : wSame w w := fun _ _ _ => rfl
theorem gW_s (h : gW w s) (hs : ∀ i, i < 495 → s1 i = s i) : gW w s1 := gW_cg h wS_rf hs
/-- a changed Works, and its row -/
theorem gW_of (hok : ∃ n g o, wOk w n g o) (hR : ∃ n g o, Rl w s n g o ∧ okN w n g o) : gW w s := by
  obtain ⟨n, g, o, ok⟩ := hok
  obtain ⟨n1, g1, o1, R, N⟩ := hR
  have e1 : n1 = n := ofN_ne (by have := N.2.1; omega) (by have := ok.1.2.1; omega) (N.1.symm.trans ok.1.1)
  have e2 : g1 = g := ofN_ne (by have := N.2.2.2.1; omega) (by have := ok.1.2.2.2.1; omega) (N.2.2.1.symm.trans ok.1.2.2.1)
  have e3 : o1 = o := ofN_ne (by have := N.2.2.2.2.2; omega) (by have := ok.1.2.2.2.2.2; omega) (N.2.2.2.2.1.symm.trans ok.1.2.2.2.2.1)
  subst e1 e2 e3
  exact ⟨_, _, _, ok, R⟩
theorem rot_0 {w1 : aW} : rotW W j w1 0 = w1 := rfl
theorem rot_2 {w1 : aW} : rotW W j w1 2 = W 2 := by
  unfold rotW
  rw [if_neg (by omega), if_neg (by omega), if_neg (by omega)]
theorem rot_j {w1 : aW} : rotW W j w1 (3 + j) = W 0 := by
  unfold rotW
  rw [if_neg (by omega), if_neg (by omega), if_pos rfl]
theorem rot_o {w1 : aW} (h : 2 ≤ B) (hj : ¬ B = 3 + j) : rotW W j w1 B = W B := by
  unfold rotW
  rw [if_neg (by omega), if_neg (by omega), if_neg hj]
theorem swp_j : swpW W j (3 + j) = W 0 := by
  unfold swpW
  rw [if_neg (by omega), if_pos rfl]
theorem swp_o (h : 1 ≤ B) (hj : ¬ B = 3 + j) : swpW W j B = W B := by
  unfold swpW
  rw [if_neg (by omega), if_neg hj]
/-- a change that is done -/
theorem GI_ok (G : GI k W m) (hj : k 7 4 = Int32.ofNat j) (hj8 : j < 8) (h0 : 0 ≤ p.1) (hok : ∃ n g o, wOk p.2 n g o) (O : mOp p f m m1 u) : GI (kKeep k j) (rotW W j p.2) m1 ∧ m1 9 2 = 0 ∧ u = p.1 := by
  obtain ⟨Gw, ⟨s1, s2⟩, ⟨c, j1, c8, j18, hc, hj1, hc1, hist⟩, ⟨L, hL, t1, t2, t3, t4⟩, r1, r, hr, r2, r3, r4⟩ := G
  have ej : j1 = j := ofN_ne (by omega) (by omega) (hj1.symm.trans hj)
  subst ej
  obtain ⟨⟨fa, f9⟩, A, -⟩ := O
  obtain ⟨hu, h2, hR, ⟨y1, y2, y3⟩, hP⟩ := A h0
  refine ⟨⟨gW_of hok hR, ⟨s1.trans (f9 0 (Or.inl rfl)).symm, fun q => ?_⟩, ?_, ⟨L, hL, t1, (f9 4 (Or.inr (by omega))).trans t2, t3.trans (fa 7 (by omega)).symm, fun i => by rw [fa 7 (by omega)]; exact t4 i⟩, r1.trans (f9 7 (Or.inr (by omega))).symm, r, hr, r2, y1.trans r3, fun i hi => by rw [y2, y3]; exact r4 i hi⟩, h2, hu⟩
  · rw [rot_2, fa 3 (by omega)]
    exact s2 (by rw [← f9 0 (Or.inl rfl)]; exact q)
  · obtain ⟨c2, hc2, hP⟩ := hP
    have ec : c2 = c := ofN_ne (by rcases hP with q | q <;> omega) (by omega) (hc2.symm.trans hc1)
    subst ec
    rcases hP with ⟨q8, q1, q2, q3⟩ | ⟨q8, q1, q2, q3⟩
    · refine ⟨c2 + 1, (j1 + 1) % 8, by omega, by omega, ?_, rfl, q1, fun e he => ?_⟩
      · show (if 8 < k 7 3 + 1 then (8 : Int32) else k 7 3 + 1) = _
        rw [zI_s hc, if_neg (fun q => by have := (zI_lt (i := 8) (n := c2 + 1) rfl rfl (by omega) (by omega)).mp q; omega)]
      · by_cases ee : e = c2
        · subst ee
          rw [show 3 + ((j1 + 1) % 8 + 8 - (e + 1) + e) % 8 = 3 + j1 by omega, rot_j]
          exact gW_s Gw q3
        · rw [show ((j1 + 1) % 8 + 8 - (c2 + 1) + e) % 8 = (j1 + 8 - c2 + e) % 8 by omega, rot_o (by omega) (by omega)]
          exact gW_s (hist e (by omega)) (q2 e (by omega))
    · subst q8
      refine ⟨8, (j1 + 1) % 8, by omega, by omega, ?_, rfl, q1, fun e he => ?_⟩
      · show (if 8 < k 7 3 + 1 then (8 : Int32) else k 7 3 + 1) = _
        rw [hc]
        rfl
      · by_cases ee : e = 7
        · subst ee
          rw [show 3 + ((j1 + 1) % 8 + 8 - 8 + 7) % 8 = 3 + j1 by omega, rot_j]
          exact gW_s Gw q3
        · rw [show ((j1 + 1) % 8 + 8 - 8 + e) % 8 = (j1 + 8 - 8 + (e + 1)) % 8 by omega, rot_o (by omega) (by omega)]
          exact gW_s (hist (e + 1) (by omega)) (q2 e (by omega))
/-- a change that is not done: what stays -/
theorem GI_no (G : GI k W m) (hW : ∀ B, ¬ B = 1 → W1 B = W B) (h : p.1 < 0) (O : mOp p f m m1 u) (hk : ∀ i, ¬ i = 2 → k1 7 i = k 7 i) (hk6 : k1 6 = k 6) (hr : gR k1 m1) : GI k1 W1 m1 ∧ m1 9 2 = f p.1 := by
  obtain ⟨Gw, ⟨s1, s2⟩, ⟨c, j1, c8, j18, hc, hj1, hc1, hist⟩, ⟨L, hL, t1, t2, t3, t4⟩, -⟩ := G
  obtain ⟨⟨fa, f9⟩, -, A⟩ := O
  obtain ⟨h2, -, h0, h4, h91, -⟩ := A h
  refine ⟨⟨?_, ⟨(hk 0 (by omega)).trans (s1.trans (f9 0 (Or.inl rfl)).symm), fun q => ?_⟩, ⟨c, j1, c8, j18, (hk 3 (by omega)).trans hc, (hk 4 (by omega)).trans hj1, h91.trans hc1, fun e he => ?_⟩, ⟨L, hL, (hk 5 (by omega)).trans t1, (f9 4 (Or.inr (by omega))).trans t2, hk6.trans (t3.trans (fa 7 (by omega)).symm), fun i => by rw [fa 7 (by omega)]; exact t4 i⟩, hr⟩, h2⟩
  · rw [hW 0 (by omega)]
    exact gW_s Gw h0
  · rw [hW 2 (by omega), fa 3 (by omega)]
    exact s2 (by rw [← f9 0 (Or.inl rfl)]; exact q)
  · rw [hW _ (by omega), h4]
    exact hist e he
theorem GI_x (G : GI k W m) (hW : ∀ B, ¬ B = 1 → W1 B = W B) (h : p.1 < 0) (h3 : ¬ p.1 = -3) (O : mOp p f m m1 u) : GI k W1 m1 ∧ m1 9 2 = f p.1 := by
  have O1 := O
  obtain ⟨⟨-, f9⟩, -, A⟩ := O1
  obtain ⟨y1, y2, y3⟩ := (A h).2.2.2.2.2.1 h3
  obtain ⟨-, -, -, -, r1, r, hr, r2, r3, r4⟩ := id G
  exact GI_no G hW h O (fun _ _ => rfl) rfl ⟨r1.trans (f9 7 (Or.inr (by omega))).symm, r, hr, r2, y1.trans r3, fun i hi => by rw [y2, y3]; exact r4 i hi⟩
theorem cpWhy_7 {i : Nat} (h : ¬ i = 2) : cpWhy w k 7 i = k 7 i := by
  match i, h with
  | 0, _ => rfl
  | 1, _ => rfl
  | 2, h => exact absurd rfl h
  | i + 3, _ => rfl
theorem GI_r (G : GI k W m) (hW : ∀ B, ¬ B = 1 → W1 B = W B) (h3 : p.1 = -3) (O : mOp p f m m1 u) : GI (cpWhy p.2 k) W1 m1 ∧ m1 9 2 = f p.1 := by
  have h : p.1 < 0 := by rw [h3]; decide
  have O1 := O
  obtain ⟨⟨-, f9⟩, -, A⟩ := O1
  obtain ⟨c, c1, c3, e1, e2, e3⟩ := (A h).2.2.2.2.2.2 h3
  obtain ⟨-, -, -, -, r1, -⟩ := id G
  refine GI_no G hW h O (fun i hi => cpWhy_7 hi) rfl ⟨r1.trans (f9 7 (Or.inr (by omega))).symm, c, c3, e1, e2, fun i hi => ?_⟩
  · obtain ⟨a1, a2⟩ := e3 i hi
    exact ⟨(cpy_at (m := 3) (by omega)).trans a1.symm, (cpy_at (m := 3) (by omega)).trans a2.symm⟩
/-- an answer alone -/
theorem GI_9 (G : GI k W m) : GI k W (upw m 9 2 x) := by
  obtain ⟨Gw, ⟨s1, s2⟩, ⟨c, j1, c8, j18, hc, hj1, hc1, hist⟩, ⟨L, hL, t1, t2, t3, t4⟩, r1, r, hr, r2, r3, r4⟩ := G
  exact ⟨Gw, ⟨s1, s2⟩, ⟨c, j1, c8, j18, hc, hj1, hc1, hist⟩, ⟨L, hL, t1, t2, t3, t4⟩, r1, r, hr, r2, r3, r4⟩
theorem GI_W1 (G : GI k W m) (hW : ∀ B, ¬ B = 1 → W1 B = W B) : GI k W1 m := by
  obtain ⟨Gw, ⟨s1, s2⟩, ⟨c, j1, c8, j18, hc, hj1, hc1, hist⟩, Gt, Gr⟩ := G
  refine ⟨by rw [hW 0 (by omega)]; exact Gw, ⟨s1, fun q => by rw [hW 2 (by omega)]; exact s2 q⟩, ⟨c, j1, c8, j18, hc, hj1, hc1, fun e he => by rw [hW _ (by omega)]; exact hist e he⟩, Gt, Gr⟩
/-- a text without a fault, its steps not yet done -/
theorem GI_read (G : GI k W m) (hk : kRead k k1 x) (h7 : m4 9 7 = x) (h4 : m4 9 4 = 0) (ha : ∀ a, ¬ a = 8 → ¬ a = 9 → m4 a = m a) (h0 : m4 9 0 = m 9 0) (h1 : m4 9 1 = m 9 1) (h3 : m4 9 3 = m 9 3) : GI k1 W m4 := by
  obtain ⟨Gw, ⟨s1, s2⟩, ⟨c, j1, c8, j18, hc, hj1, hc1, hist⟩, ⟨L, hL, t1, t2, t3, t4⟩, r1, r, hr, r2, r3, r4⟩ := G
  obtain ⟨a1, a2, a3⟩ := hk
  have k6 : k1 6 = k 6 := funext fun i => a3 6 i (by omega) (by omega)
  refine ⟨by rw [ha 0 (by omega) (by omega)]; exact Gw, ⟨(a3 7 0 (by omega) (by omega)).trans (s1.trans h0.symm), fun q => by rw [ha 3 (by omega) (by omega)]; exact s2 (by rw [← h0]; exact q)⟩, ⟨c, j1, c8, j18, (a3 7 3 (by omega) (by omega)).trans hc, (a3 7 4 (by omega) (by omega)).trans hj1, h1.trans hc1, fun e he => by rw [ha 4 (by omega) (by omega)]; exact hist e he⟩, ⟨0, by omega, a2, h4, k6.trans (t3.trans (ha 7 (by omega) (by omega)).symm), fun i => by rw [ha 7 (by omega) (by omega)]; exact t4 i⟩, a1.trans h7.symm, r, hr, (a3 7 2 (by omega) (by omega)).trans r2, h3.trans r3, fun i hi => ?_⟩
  rw [a3 0 i (by omega) (by omega), a3 1 i (by omega) (by omega), ha 5 (by omega) (by omega), ha 6 (by omega) (by omega)]
  exact r4 i hi
/-- saved -/
theorem GI_save (G : GI k W m) (h0 : W1 0 = W 0) (h2 : wSame (W1 2) (W 0)) (hB : ∀ B, 3 ≤ B → W1 B = W B) : GI (upw k 7 0 1) W1 (mSave m) := by
  obtain ⟨Gw, ⟨s1, s2⟩, ⟨c, j1, c8, j18, hc, hj1, hc1, hist⟩, ⟨L, hL, t1, t2, t3, t4⟩, r1, r, hr, r2, r3, r4⟩ := G
  refine ⟨by rw [h0]; exact Gw, ⟨rfl, fun _ => gW_cg Gw h2 (fun i hi => cpy_at hi)⟩, ⟨c, j1, c8, j18, hc, hj1, hc1, fun e he => by rw [hB _ (by omega)]; exact hist e he⟩, ⟨L, hL, t1, t2, t3, t4⟩, r1, r, hr, r2, r3, r4⟩
theorem GI_rest (G : GI k W m) (hs : ¬ m 9 0 = 0) (h0 : wSame (W1 0) (W 2)) (hB : ∀ B, 1 ≤ B → W1 B = W B) : GI (upw k 7 3 0) W1 (mRest m) := by
  obtain ⟨Gw, ⟨s1, s2⟩, ⟨c, j1, c8, j18, hc, hj1, hc1, hist⟩, ⟨L, hL, t1, t2, t3, t4⟩, r1, r, hr, r2, r3, r4⟩ := G
  refine ⟨gW_cg (s2 hs) h0 (fun i hi => cpy_at hi), ⟨s1, fun q => by rw [hB 2 (by omega)]; exact s2 q⟩, ⟨0, j1, by omega, j18, rfl, hj1, rfl, fun e he => by omega⟩, ⟨L, hL, t1, t2, t3, t4⟩, r1, r, hr, r2, r3, r4⟩
theorem GI_undo (G : GI k W m) (hc : m 9 1 = Int32.ofNat (c + 1)) (h8 : c < 8) (hj : k 7 4 = Int32.ofNat j) (hj8 : j < 8) : GI (kUndo k j) (swpW W ((j + 7) % 8)) (mUndo m c) := by
  obtain ⟨Gw, ⟨s1, s2⟩, ⟨c2, j1, c8, j18, hc2, hj1, hc1, hist⟩, ⟨L, hL, t1, t2, t3, t4⟩, r1, r, hr, r2, r3, r4⟩ := G
  have ej : j1 = j := ofN_ne (by omega) (by omega) (hj1.symm.trans hj)
  have ec : c2 = c + 1 := ofN_ne (by omega) (by omega) (hc1.symm.trans hc)
  subst ej ec
  have e1 : k 7 3 - 1 = Int32.ofNat c := by rw [hc2]; exact sub1
  refine ⟨?_, ⟨s1, fun q => ?_⟩, ⟨c, (j1 + 7) % 8, by omega, by omega, ?_, rfl, ?_, fun e he => ?_⟩, ⟨L, hL, t1, t2, t3, t4⟩, r1, r, hr, r2, r3, r4⟩
  · have h := hist c (by omega)
    rw [show (j1 + 8 - (c + 1) + c) % 8 = (j1 + 7) % 8 by omega] at h
    refine gW_s (s := fun i => m 4 (495 * c + i)) h (fun i hi => ?_)
    have q := cpy_in (f := m 4) (e := m 0) (a := 495 * c) (b := 0) (c := 495) (j := i) hi
    rw [Nat.zero_add] at q
    exact q
  · rw [swp_o (by omega) (by omega)]
    exact s2 q
  · show (if k 7 3 - 1 < 0 then (0 : Int32) else k 7 3 - 1) = _
    rw [e1, if_neg (ofN_lt0 (by omega))]
  · show m 9 1 - 1 = _
    rw [hc]
    exact sub1
  · rw [show ((j1 + 7) % 8 + 8 - c + e) % 8 = (j1 + 8 - (c + 1) + e) % 8 by omega, swp_o (by omega) (by omega)]
    exact hist e (by omega)
theorem GI_app (G : GI k W m) {L : Nat} (hl : m 9 4 = Int32.ofNat L) (h60 : L < 60) (hx : 0 ≤ x ∧ x < 65536) : GI (kApp k L x) W (mApp m L x) := by
  obtain ⟨Gw, ⟨s1, s2⟩, ⟨c, j1, c8, j18, hc, hj1, hc1, hist⟩, ⟨L1, hL, t1, t2, t3, t4⟩, r1, r, hr, r2, r3, r4⟩ := G
  have eL : L1 = L := ofN_ne (by omega) (by omega) (t2.symm.trans hl)
  subst eL
  refine ⟨Gw, ⟨s1, s2⟩, ⟨c, j1, c8, j18, hc, hj1, hc1, hist⟩, ⟨L1 + 1, by omega, zI_s t1, zI_s t2, ?_, fun i => ?_⟩, r1, r, hr, r2, r3, r4⟩
  · show upd (k 6) L1 x = upd (m 7) L1 x
    rw [t3]
  · show 0 ≤ upd (m 7) L1 x i ∧ upd (m 7) L1 x i < 65536
    by_cases e : i = L1
    · rw [e, upd_eq]
      exact hx
    · rw [upd_ne e]
      exact t4 i
end GI1
