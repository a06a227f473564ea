/-! THE LAW'S BODY: changes, on both sides -/
def PF (E : List Int32) (p : aZ) : Prop := (p.1 ∈ E ∧ p.1 = -1) ∨ (p.1 ∈ E ∧ p.1 = -2) ∨ (p.1 ∈ E ∧ p.1 = -3) ∨ (0 ≤ p.1 ∧ ∃ n g o, wOk p.2 n g o)
theorem PE.F {E : List Int32} {p : aZ} (h : PE E p) : PF E p := by
  rcases h with ⟨h1, h2 | h2⟩ | ⟨h1, h2, -⟩ | h
  · exact Or.inl ⟨h1, h2⟩
  · exact Or.inr (Or.inl ⟨h1, h2⟩)
  · exact Or.inr (Or.inr (Or.inl ⟨h1, h2⟩))
  · exact Or.inr (Or.inr (Or.inr h))
section LO
variable {sn i c1 c2 : Nat} {sf : Nat → Int32} {lo : Nat → Int64} {dd : Nat → UInt64} {m m1 m4 k k1 : aW} {W : Nat → aW} {j a7 a8 aL : Nat} {as7 asK as8 asM asL : List Value} {xi u : Int32} {l6 l7 l8 : Option Value} {BB : aK} {p : aZ} {f : Int32 → Int32} {E : List Int32} {goal : Prop}
/-- what the rest of the law needs -/
def IHL (sn : Nat) (sf : Nat → Int32) (xi : Int32) (BB : aK) (c1 c2 : Nat) : Prop := ∀ (k' : aW) (W' : Nat → aW) (m' : aW) (lo' : Nat → Int64) (dd' : Nat → UInt64) (l6 l7 l8 : Option Value) (kk' : aK), GI k' W' m' → kk'.1 ≤ c1 + 1 → kk'.2 ≤ c2 + 6 → aFn FL BB (2322, [some (.ref 5), some (.ref 20), some (.ref 10), some (.ref 8), some (.ref 9), some (.int xi), l6, l7, l8], [], aLh sn sf lo' dd' m' (KL k' W'), kk')
def updW (W : Nat → aW) (w1 : aW) : Nat → aW := fun B => if B = 1 then w1 else W B
theorem updW_n {w1 : aW} : ∀ B, ¬ B = 1 → updW W w1 B = W B := fun B h => if_neg h
theorem updW_K {w1 : aW} : aKl 21 42 aRg k1 (W 0) w1 (W 2) ++ RgL W = KL k1 (updW W w1) := rfl
theorem vpu0 {a : Int64} : vp_updL lo 0 a 0 = a := if_pos rfl
theorem op_gen (G4 : GI k1 W m4) (hj : k1 7 4 = Int32.ofNat j) (hj8 : j < 8) (hk : aRun false 9 a7 as7 (aHk sn sf 21 42 aRg k (W 0) (W 1) (W 2)) = some (kSet sn sf k1 (W 0) (W 2) j p)) (eK : as7.map (aCv (uW 20)) = asK) (hE : PF E p)
    (hM : aRun false 10 a8 as8 (aHn sn sf m) = some (.inl (some (.int u)), aHn sn sf m1, (0, 0))) (eM : as8.map (aCv (uW 10)) = asM) (O : mOp p f m4 m1 u)
    (w0 : ∀ X1 v, aRun false 9 a7 asK (aLh sn sf lo dd m (KL k W)) = some (.inl (some (.int v)), aLh sn sf lo dd m X1, (0, 0)) → aRun false 10 aL asL (aLh sn sf lo dd m (KL k W)) = some (.inl (some (.int 0)), aLh sn sf (vp_updL lo 0 v.toInt64) dd m X1, (0, 0)))
    (w1 : (-1 : Int32) ∈ E → ∀ X1, aRun false 9 a7 asK (aLh sn sf lo dd m (KL k W)) = some (.inr 2, aLh sn sf lo dd m X1, (1, 6)) → aRun false 10 aL asL (aLh sn sf lo dd m (KL k W)) = some (.inl (some (.int (f (-1)))), aLh sn sf lo dd m X1, (1, 6)))
    (w2 : (-2 : Int32) ∈ E → ∀ X1, aRun false 9 a7 asK (aLh sn sf lo dd m (KL k W)) = some (.inr 0, aLh sn sf lo dd m X1, (1, 6)) → aRun false 10 aL asL (aLh sn sf lo dd m (KL k W)) = some (.inl (some (.int (f (-2)))), aLh sn sf lo dd m X1, (1, 6)))
    (w3 : (-3 : Int32) ∈ E → ∀ X1, aRun false 9 a7 asK (aLh sn sf lo dd m (KL k W)) = some (.inr 1, aLh sn sf lo dd m X1, (1, 6)) → aRun false 10 aL asL (aLh sn sf lo dd m (KL k W)) = some (.inl (some (.int (f (-3)))), aLh sn sf lo dd m X1, (1, 6)))
    (seg : ∀ (lo1 : Nat → Int64) (X1 : aH) (m1 : aW) (c b : Int32) (kk : aK), aRun false 10 aL asL (aLh sn sf lo dd m (KL k W)) = some (.inl (some (.int c)), aLh sn sf lo1 dd m X1, kk) → aRun false 10 a8 asM (aLh sn sf lo1 dd m X1) = some (.inl (some (.int b)), aLh sn sf lo1 dd m1 X1, (0, 0)) → m1 9 2 = c → (c = 0 → lo1 0 = b.toInt64) → (∀ l6 l7, aFn FL BB (2322, [some (.ref 5), some (.ref 20), some (.ref 10), some (.ref 8), some (.ref 9), some (.int xi), l6, l7, l8], [], aLh sn sf lo1 dd m1 X1, (c1 + kk.1, c2 + kk.2))) → goal)
    (ih : IHL sn sf xi BB c1 c2) : goal := by
  subst eK eM
  have cn : ∀ e, p.1 = e → e < 0 → ¬ f e = 0 := fun e he hlt q => by
    have := (O.2.2 (by rw [he]; exact hlt)).2.1
    rw [he, q] at this
    exact absurd this (by decide)
  rcases hE with ⟨hm, h⟩ | ⟨hm, h⟩ | ⟨hm, h⟩ | ⟨h0, hok⟩
  · rw [h] at hm
    have hk1 : aRun false 9 a7 as7 (aHk sn sf 21 42 aRg k (W 0) (W 1) (W 2)) = some (.inr 2, aHk sn sf 21 42 aRg k1 (W 0) p.2 (W 2), (1, 6)) := hk.trans (congrArg some (if_pos h))
    have hl := w1 hm _ (lift_k (lo := lo) (dd := dd) (m := m) (R := RgL W) hk1)
    obtain ⟨G1, h2⟩ := GI_x (W1 := updW W p.2) G4 updW_n (by rw [h]; decide) (by rw [h]; decide) O
    exact seg lo _ m1 _ u (1, 6) hl (lift_m hM) (by rw [h2, h]) (fun q => absurd q (cn _ h (by decide))) (fun l6 l7 => ih k1 (updW W p.2) m1 lo dd l6 l7 l8 (c1 + 1, c2 + 6) G1 (Nat.le_refl _) (Nat.le_refl _))
  · rw [h] at hm
    have hk1 : aRun false 9 a7 as7 (aHk sn sf 21 42 aRg k (W 0) (W 1) (W 2)) = some (.inr 0, aHk sn sf 21 42 aRg k1 (W 0) p.2 (W 2), (1, 6)) := hk.trans (congrArg some ((if_neg (by rw [h]; decide)).trans (if_pos h)))
    have hl := w2 hm _ (lift_k (lo := lo) (dd := dd) (m := m) (R := RgL W) hk1)
    obtain ⟨G1, h2⟩ := GI_x (W1 := updW W p.2) G4 updW_n (by rw [h]; decide) (by rw [h]; decide) O
    exact seg lo _ m1 _ u (1, 6) hl (lift_m hM) (by rw [h2, h]) (fun q => absurd q (cn _ h (by decide))) (fun l6 l7 => ih k1 (updW W p.2) m1 lo dd l6 l7 l8 (c1 + 1, c2 + 6) G1 (Nat.le_refl _) (Nat.le_refl _))
  · rw [h] at hm
    have hk1 : aRun false 9 a7 as7 (aHk sn sf 21 42 aRg k (W 0) (W 1) (W 2)) = some (.inr 1, aHk sn sf 21 42 aRg (cpWhy p.2 k1) (W 0) p.2 (W 2), (1, 6)) := hk.trans (congrArg some ((if_neg (by rw [h]; decide)).trans ((if_neg (by rw [h]; decide)).trans (if_pos h))))
    have hl := w3 hm _ (lift_k (lo := lo) (dd := dd) (m := m) (R := RgL W) hk1)
    obtain ⟨G1, h2⟩ := GI_r (W1 := updW W p.2) G4 updW_n h O
    exact seg lo _ m1 _ u (1, 6) hl (lift_m hM) (by rw [h2, h]) (fun q => absurd q (cn _ h (by decide))) (fun l6 l7 => ih (cpWhy p.2 k1) (updW W p.2) m1 lo dd l6 l7 l8 (c1 + 1, c2 + 6) G1 (Nat.le_refl _) (Nat.le_refl _))
  · have n1 : ∀ e : Int32, e < 0 → ¬ p.1 = e := fun e he q => absurd h0 (by rw [q]; exact Int32.not_le.mpr he)
    have hk1 : aRun false 9 a7 as7 (aHk sn sf 21 42 aRg k (W 0) (W 1) (W 2)) = some (.inl (some (.int p.1)), aHk sn sf 42 (84 + 21 * j) (va_up aRg j (some 21)) (kKeep k1 j) (W 0) p.2 (W 2), (0, 0)) := hk.trans (congrArg some ((if_neg (n1 _ (by decide))).trans ((if_neg (n1 _ (by decide))).trans (if_neg (n1 _ (by decide))))))
    have hl := w0 _ _ (lift_k (lo := lo) (dd := dd) (m := m) (R := RgL W) hk1)
    obtain ⟨G1, h2, hu⟩ := GI_ok G4 hj hj8 h0 hok O
    exact seg _ _ m1 0 u (0, 0) hl (lift_m hM) h2 (fun _ => by rw [vpu0, hu]) (fun l6 l7 => fn_rot hj8 (fun l6 l7 l8 => ih (kKeep k1 j) (rotW W j p.2) m1 _ dd l6 l7 l8 (c1, c2) G1 (by omega) (by omega)))
theorem fSz_a (x : Int32) : ∃ b, b ≤ 4 ∧ fSz x = Int32.ofNat b := by
  unfold fSz
  split
  · rename_i k _
    match k with
    | 0 => exact ⟨2, by omega, rfl⟩
    | 1 => exact ⟨1, by omega, rfl⟩
    | 2 => exact ⟨3, by omega, rfl⟩
    | k + 3 => exact ⟨4, by omega, rfl⟩
  · exact ⟨0, by omega, rfl⟩
theorem fa_put2 {w : aW} {n g o i : Nat} {y : Int32} (ok : wOkA w n g o) : fSz (w 6 i) ≤ 6 - wHeld w n y → 0 ≤ 6 - wHeld w n y - fSz (w 6 i) := by
  obtain ⟨b, hb, e⟩ := fSz_a (w 6 i)
  have h1 := nHeld_le (y := y) ok.kinds
  have hn := ok.1.2.1
  rw [wHeld_n ok.kinds, e]
  exact put_dec ⟨nHeld w n y, by omega⟩ ⟨b, by omega⟩

theorem cl_nn {w : aW} {n g o : Nat} {x : Int32} (ok : wOk w n g o) (h : 1 ≤ x ∧ x ≤ 99) : 0 ≤ w 16 0 + x := by
  have x0 : 0 ≤ x := Int32.le_trans (by decide) h.1
  have hx : zn x ≤ 99 := zn_le (a := 99) h.2 x0 (by omega)
  have hs : zn (w 16 0) ≤ 999 := zn_le (a := 999) ok.T.2.2 ok.T.2.1 (by omega)
  rw [zn_nn ok.T.2.1, zn_nn x0]
  exact nn_add (by omega) (by omega)
theorem c_set (hx : xi = Int32.ofNat i) (hi : i + 7 ≤ sn) (hsn : sn ≤ 3584) (G : GI k W m) (ih : IHL sn sf xi BB c1 c2) : aFn FL BB (200, [some (.ref 5), some (.ref 20), some (.ref 10), some (.ref 8), some (.ref 9), some (.int xi), l6, l7, l8], [], (aLh sn sf lo dd m (KL k W)), (c1, c2)) := by
  obtain ⟨⟨n, g, o, ok, R⟩, -, ⟨c, j, c8, hj8, -, hj, hc, -⟩, -⟩ := id G
  have ok1 : wOk (cpW (W 0) (W 1)) n g o := wOk_same (cpW_same _ _) ok
  have R1 : Rl (cpW (W 0) (W 1)) (m 0) n g o := Rl_cg R ok.1.2.1 ok.1.2.2.2.1 ok.1.2.2.2.2.2 (cpW_same _ _) (fun _ _ => rfl)
  obtain ⟨m1, u, run, O⟩ := o_set (sn := sn) (sf := sf) (m := m) (x := (sf (i + 1))) (y := (sf (i + 2))) 8 R1 ok1.A hc c8 ok1.T.1
  exact op_gen (lo := lo) (dd := dd) (l8 := l8) (f := cd1) (E := [-2]) G hj hj8 (k_set (sn := sn) (sf := sf) (wd := W 1) (ws := W 2) (x := (sf (i + 1))) (y := (sf (i + 2))) 3 hj hj8 ok) rfl (pe_set ok1).F run rfl O (fun X1 v h => w_set h) (fun h => absurd h (by decide)) (fun _ X1 h => w_set_0 h) (fun h => absurd h (by decide)) (fun lo1 X1 m1 c b kk hL hM hT hO K => s_set hx hi hsn hL hM hT hO K) ih
theorem c_clay (hx : xi = Int32.ofNat i) (hi : i + 7 ≤ sn) (hsn : sn ≤ 3584) (G : GI k W m) (ih : IHL sn sf xi BB c1 c2) : aFn FL BB (268, [some (.ref 5), some (.ref 20), some (.ref 10), some (.ref 8), some (.ref 9), some (.int xi), l6, l7, l8], [], (aLh sn sf lo dd m (KL k W)), (c1, c2)) := by
  obtain ⟨⟨n, g, o, ok, R⟩, -, ⟨c, j, c8, hj8, -, hj, hc, -⟩, -⟩ := id G
  have ok1 : wOk (cpW (W 0) (W 1)) n g o := wOk_same (cpW_same _ _) ok
  have R1 : Rl (cpW (W 0) (W 1)) (m 0) n g o := Rl_cg R ok.1.2.1 ok.1.2.2.2.1 ok.1.2.2.2.2.2 (cpW_same _ _) (fun _ _ => rfl)
  obtain ⟨m1, u, run, O⟩ := o_clay (sn := sn) (sf := sf) (m := m) (x := (sf (i + 1))) 8 R1 ok1.A hc c8 (fun h => cl_nn ok1 h)
  exact op_gen (lo := lo) (dd := dd) (l8 := l8) (f := cd2) (E := [-2, -3]) G hj hj8 (k_clay (sn := sn) (sf := sf) (wd := W 1) (ws := W 2) (x := (sf (i + 1))) 3 hj hj8 ok) rfl (pe_clay ok1).F run rfl O (fun X1 v h => w_clay h) (fun h => absurd h (by decide)) (fun _ X1 h => w_clay_0 h) (fun _ X1 h => w_clay_1 h) (fun lo1 X1 m1 c b kk hL hM hT hO K => s_clay hx hi hsn hL hM hT hO K) ih
theorem c_cast (hx : xi = Int32.ofNat i) (hi : i + 7 ≤ sn) (hsn : sn ≤ 3584) (G : GI k W m) (ih : IHL sn sf xi BB c1 c2) : aFn FL BB (324, [some (.ref 5), some (.ref 20), some (.ref 10), some (.ref 8), some (.ref 9), some (.int xi), l6, l7, l8], [], (aLh sn sf lo dd m (KL k W)), (c1, c2)) := by
  obtain ⟨⟨n, g, o, ok, R⟩, -, ⟨c, j, c8, hj8, -, hj, hc, -⟩, -⟩ := id G
  have ok1 : wOk (cpW (W 0) (W 1)) n g o := wOk_same (cpW_same _ _) ok
  have R1 : Rl (cpW (W 0) (W 1)) (m 0) n g o := Rl_cg R ok.1.2.1 ok.1.2.2.2.1 ok.1.2.2.2.2.2 (cpW_same _ _) (fun _ _ => rfl)
  obtain ⟨m1, u, run, O⟩ := o_cast (sn := sn) (sf := sf) (m := m) (x := (sf (i + 1))) (y := (sf (i + 2))) (z := (sf (i + 3))) 1 R1 ok1.A hc c8
  exact op_gen (lo := lo) (dd := dd) (l8 := l8) (f := cd2) (E := [-2, -3]) G hj hj8 (k_cast (sn := sn) (sf := sf) (wd := W 1) (ws := W 2) (x := (sf (i + 1))) (y := (sf (i + 2))) (z := (sf (i + 3))) 3 hj hj8 ok) rfl (pe_cast ok1).F run rfl O (fun X1 v h => w_cast h) (fun h => absurd h (by decide)) (fun _ X1 h => w_cast_0 h) (fun _ X1 h => w_cast_1 h) (fun lo1 X1 m1 c b kk hL hM hT hO K => s_cast hx hi hsn hL hM hT hO K) ih
theorem c_glaze (hx : xi = Int32.ofNat i) (hi : i + 7 ≤ sn) (hsn : sn ≤ 3584) (G : GI k W m) (ih : IHL sn sf xi BB c1 c2) : aFn FL BB (404, [some (.ref 5), some (.ref 20), some (.ref 10), some (.ref 8), some (.ref 9), some (.int xi), l6, l7, l8], [], (aLh sn sf lo dd m (KL k W)), (c1, c2)) := by
  obtain ⟨⟨n, g, o, ok, R⟩, -, ⟨c, j, c8, hj8, -, hj, hc, -⟩, -⟩ := id G
  have ok1 : wOk (cpW (W 0) (W 1)) n g o := wOk_same (cpW_same _ _) ok
  have R1 : Rl (cpW (W 0) (W 1)) (m 0) n g o := Rl_cg R ok.1.2.1 ok.1.2.2.2.1 ok.1.2.2.2.2.2 (cpW_same _ _) (fun _ _ => rfl)
  obtain ⟨m1, u, run, O⟩ := o_glaze (sn := sn) (sf := sf) (m := m) (x := (sf (i + 1))) (y := (sf (i + 2))) (z := (sf (i + 3))) 1 R1 ok1.A hc c8
  exact op_gen (lo := lo) (dd := dd) (l8 := l8) (f := cd3) (E := [-1, -2, -3]) G hj hj8 (k_glaze (sn := sn) (sf := sf) (wd := W 1) (ws := W 2) (x := (sf (i + 1))) (y := (sf (i + 2))) (z := (sf (i + 3))) 3 hj hj8 ok) rfl (pe_coat ok1).F run rfl O (fun X1 v h => w_glaze h) (fun _ X1 h => w_glaze_2 h) (fun _ X1 h => w_glaze_0 h) (fun _ X1 h => w_glaze_1 h) (fun lo1 X1 m1 c b kk hL hM hT hO K => s_glaze hx hi hsn hL hM hT hO K) ih
theorem c_saggar (hx : xi = Int32.ofNat i) (hi : i + 7 ≤ sn) (hsn : sn ≤ 3584) (G : GI k W m) (ih : IHL sn sf xi BB c1 c2) : aFn FL BB (484, [some (.ref 5), some (.ref 20), some (.ref 10), some (.ref 8), some (.ref 9), some (.int xi), l6, l7, l8], [], (aLh sn sf lo dd m (KL k W)), (c1, c2)) := by
  obtain ⟨⟨n, g, o, ok, R⟩, -, ⟨c, j, c8, hj8, -, hj, hc, -⟩, -⟩ := id G
  have ok1 : wOk (cpW (W 0) (W 1)) n g o := wOk_same (cpW_same _ _) ok
  have R1 : Rl (cpW (W 0) (W 1)) (m 0) n g o := Rl_cg R ok.1.2.1 ok.1.2.2.2.1 ok.1.2.2.2.2.2 (cpW_same _ _) (fun _ _ => rfl)
  obtain ⟨m1, u, run, O⟩ := o_saggar (sn := sn) (sf := sf) (m := m)  8 R1 ok1.A hc c8
  exact op_gen (lo := lo) (dd := dd) (l8 := l8) (f := cd1) (E := [-3]) G hj hj8 (k_saggar (sn := sn) (sf := sf) (wd := W 1) (ws := W 2)  3 hj hj8 ok) rfl (pe_sag ok1).F run rfl O (fun X1 v h => w_saggar h) (fun h => absurd h (by decide)) (fun h => absurd h (by decide)) (fun _ X1 h => w_saggar_1 h) (fun lo1 X1 m1 c b kk hL hM hT hO K => s_saggar hx hi hsn hL hM hT hO K) ih
theorem c_stack (hx : xi = Int32.ofNat i) (hi : i + 7 ≤ sn) (hsn : sn ≤ 3584) (G : GI k W m) (ih : IHL sn sf xi BB c1 c2) : aFn FL BB (528, [some (.ref 5), some (.ref 20), some (.ref 10), some (.ref 8), some (.ref 9), some (.int xi), l6, l7, l8], [], (aLh sn sf lo dd m (KL k W)), (c1, c2)) := by
  obtain ⟨⟨n, g, o, ok, R⟩, -, ⟨c, j, c8, hj8, -, hj, hc, -⟩, -⟩ := id G
  have ok1 : wOk (cpW (W 0) (W 1)) n g o := wOk_same (cpW_same _ _) ok
  have R1 : Rl (cpW (W 0) (W 1)) (m 0) n g o := Rl_cg R ok.1.2.1 ok.1.2.2.2.1 ok.1.2.2.2.2.2 (cpW_same _ _) (fun _ _ => rfl)
  obtain ⟨m1, u, run, O⟩ := o_stack (sn := sn) (sf := sf) (m := m) (x := (sf (i + 1))) (y := (sf (i + 2))) (z := (sf (i + 3))) 2 R1 ok1.A hc c8
  exact op_gen (lo := lo) (dd := dd) (l8 := l8) (f := cd3) (E := [-1, -2, -3]) G hj hj8 (k_stack (sn := sn) (sf := sf) (wd := W 1) (ws := W 2) (x := (sf (i + 1))) (y := (sf (i + 2))) (z := (sf (i + 3))) 3 hj hj8 ok) rfl (pe_stand ok1).F run rfl O (fun X1 v h => w_stack h) (fun _ X1 h => w_stack_2 h) (fun _ X1 h => w_stack_0 h) (fun _ X1 h => w_stack_1 h) (fun lo1 X1 m1 c b kk hL hM hT hO K => s_stack hx hi hsn hL hM hT hO K) ih
theorem c_unstack (hx : xi = Int32.ofNat i) (hi : i + 7 ≤ sn) (hsn : sn ≤ 3584) (G : GI k W m) (ih : IHL sn sf xi BB c1 c2) : aFn FL BB (608, [some (.ref 5), some (.ref 20), some (.ref 10), some (.ref 8), some (.ref 9), some (.int xi), l6, l7, l8], [], (aLh sn sf lo dd m (KL k W)), (c1, c2)) := by
  obtain ⟨⟨n, g, o, ok, R⟩, -, ⟨c, j, c8, hj8, -, hj, hc, -⟩, -⟩ := id G
  have ok1 : wOk (cpW (W 0) (W 1)) n g o := wOk_same (cpW_same _ _) ok
  have R1 : Rl (cpW (W 0) (W 1)) (m 0) n g o := Rl_cg R ok.1.2.1 ok.1.2.2.2.1 ok.1.2.2.2.2.2 (cpW_same _ _) (fun _ _ => rfl)
  obtain ⟨m1, u, run, O⟩ := o_unstack (sn := sn) (sf := sf) (m := m) (x := (sf (i + 1))) 6 R1 ok1.A hc c8
  exact op_gen (lo := lo) (dd := dd) (l8 := l8) (f := cd2) (E := [-1, -3]) G hj hj8 (k_unstack (sn := sn) (sf := sf) (wd := W 1) (ws := W 2) (x := (sf (i + 1))) 3 hj hj8 ok) rfl (pe_down ok1).F run rfl O (fun X1 v h => w_unstack h) (fun _ X1 h => w_unstack_2 h) (fun h => absurd h (by decide)) (fun _ X1 h => w_unstack_1 h) (fun lo1 X1 m1 c b kk hL hM hT hO K => s_unstack hx hi hsn hL hM hT hO K) ih
theorem c_put (hx : xi = Int32.ofNat i) (hi : i + 7 ≤ sn) (hsn : sn ≤ 3584) (G : GI k W m) (ih : IHL sn sf xi BB c1 c2) : aFn FL BB (664, [some (.ref 5), some (.ref 20), some (.ref 10), some (.ref 8), some (.ref 9), some (.int xi), l6, l7, l8], [], (aLh sn sf lo dd m (KL k W)), (c1, c2)) := by
  obtain ⟨⟨n, g, o, ok, R⟩, -, ⟨c, j, c8, hj8, -, hj, hc, -⟩, -⟩ := id G
  have ok1 : wOk (cpW (W 0) (W 1)) n g o := wOk_same (cpW_same _ _) ok
  have R1 : Rl (cpW (W 0) (W 1)) (m 0) n g o := Rl_cg R ok.1.2.1 ok.1.2.2.2.1 ok.1.2.2.2.2.2 (cpW_same _ _) (fun _ _ => rfl)
  obtain ⟨m1, u, run, O⟩ := o_put (sn := sn) (sf := sf) (m := m) (x := (sf (i + 1))) (y := (sf (i + 2))) 1 R1 ok1.A hc c8 (fa_put2 ok1.A)
  exact op_gen (lo := lo) (dd := dd) (l8 := l8) (f := cd2) (E := [-1, -3]) G hj hj8 (k_put (sn := sn) (sf := sf) (wd := W 1) (ws := W 2) (x := (sf (i + 1))) (y := (sf (i + 2))) 3 hj hj8 ok) rfl (pe_put ok1).F run rfl O (fun X1 v h => w_put h) (fun _ X1 h => w_put_2 h) (fun h => absurd h (by decide)) (fun _ X1 h => w_put_1 h) (fun lo1 X1 m1 c b kk hL hM hT hO K => s_put hx hi hsn hL hM hT hO K) ih
theorem c_fire (hx : xi = Int32.ofNat i) (hi : i + 7 ≤ sn) (hsn : sn ≤ 3584) (G : GI k W m) (ih : IHL sn sf xi BB c1 c2) : aFn FL BB (732, [some (.ref 5), some (.ref 20), some (.ref 10), some (.ref 8), some (.ref 9), some (.int xi), l6, l7, l8], [], (aLh sn sf lo dd m (KL k W)), (c1, c2)) := by
  obtain ⟨⟨n, g, o, ok, R⟩, -, ⟨c, j, c8, hj8, -, hj, hc, -⟩, -⟩ := id G
  have ok1 : wOk (cpW (W 0) (W 1)) n g o := wOk_same (cpW_same _ _) ok
  have R1 : Rl (cpW (W 0) (W 1)) (m 0) n g o := Rl_cg R ok.1.2.1 ok.1.2.2.2.1 ok.1.2.2.2.2.2 (cpW_same _ _) (fun _ _ => rfl)
  obtain ⟨m1, u, run, O⟩ := o_fire (sn := sn) (sf := sf) (m := m) (y := (sf (i + 1))) 1 R1 ok1.A hc c8
  exact op_gen (lo := lo) (dd := dd) (l8 := l8) (f := cd2) (E := [-2, -3]) G hj hj8 (k_fire (sn := sn) (sf := sf) (wd := W 1) (ws := W 2) (x := (sf (i + 1))) 3 hj hj8 ok) rfl (pe_fire ok1).F run rfl O (fun X1 v h => w_fire h) (fun h => absurd h (by decide)) (fun _ X1 h => w_fire_0 h) (fun _ X1 h => w_fire_1 h) (fun lo1 X1 m1 c b kk hL hM hT hO K => s_fire hx hi hsn hL hM hT hO K) ih
theorem c_empty (hx : xi = Int32.ofNat i) (hi : i + 7 ≤ sn) (hsn : sn ≤ 3584) (G : GI k W m) (ih : IHL sn sf xi BB c1 c2) : aFn FL BB (788, [some (.ref 5), some (.ref 20), some (.ref 10), some (.ref 8), some (.ref 9), some (.int xi), l6, l7, l8], [], (aLh sn sf lo dd m (KL k W)), (c1, c2)) := by
  obtain ⟨⟨n, g, o, ok, R⟩, -, ⟨c, j, c8, hj8, -, hj, hc, -⟩, -⟩ := id G
  have ok1 : wOk (cpW (W 0) (W 1)) n g o := wOk_same (cpW_same _ _) ok
  have R1 : Rl (cpW (W 0) (W 1)) (m 0) n g o := Rl_cg R ok.1.2.1 ok.1.2.2.2.1 ok.1.2.2.2.2.2 (cpW_same _ _) (fun _ _ => rfl)
  obtain ⟨m1, u, run, O⟩ := o_empty (sn := sn) (sf := sf) (m := m) (y := (sf (i + 1))) 1 R1 ok1.A hc c8
  exact op_gen (lo := lo) (dd := dd) (l8 := l8) (f := cd2) (E := [-1, -3]) G hj hj8 (k_empty (sn := sn) (sf := sf) (wd := W 1) (ws := W 2) (x := (sf (i + 1))) 3 hj hj8 ok) rfl (pe_empty ok1).F run rfl O (fun X1 v h => w_empty h) (fun _ X1 h => w_empty_2 h) (fun h => absurd h (by decide)) (fun _ X1 h => w_empty_1 h) (fun lo1 X1 m1 c b kk hL hM hT hO K => s_empty hx hi hsn hL hM hT hO K) ih
theorem c_order0 (hx : xi = Int32.ofNat i) (hi : i + 7 ≤ sn) (hsn : sn ≤ 3584) (G : GI k W m) (ih : IHL sn sf xi BB c1 c2) (hb : sf (i + 6) = 0) : aFn FL BB (844, [some (.ref 5), some (.ref 20), some (.ref 10), some (.ref 8), some (.ref 9), some (.int xi), l6, l7, l8], [], (aLh sn sf lo dd m (KL k W)), (c1, c2)) := by
  obtain ⟨⟨n, g, o, ok, R⟩, -, ⟨c, j, c8, hj8, -, hj, hc, -⟩, -⟩ := id G
  have ok1 : wOk (cpW (W 0) (W 1)) n g o := wOk_same (cpW_same _ _) ok
  have R1 : Rl (cpW (W 0) (W 1)) (m 0) n g o := Rl_cg R ok.1.2.1 ok.1.2.2.2.1 ok.1.2.2.2.2.2 (cpW_same _ _) (fun _ _ => rfl)
  obtain ⟨m1, u, run, O⟩ := o_order (sn := sn) (sf := sf) (m := m) (x := (sf (i + 1))) (y := (sf (i + 2))) (z := (sf (i + 3))) (u := (sf (i + 4))) (v := (sf (i + 5))) (t := 0) 8 R1 ok1.A hc c8
  exact op_gen (lo := lo) (dd := dd) (l8 := l8) (f := cd2) (E := [-2, -3]) G hj hj8 (k_order (sn := sn) (sf := sf) (wd := W 1) (ws := W 2) (x := (sf (i + 1))) (y := (sf (i + 2))) (z := (sf (i + 3))) (u := (sf (i + 4))) (v := (sf (i + 5))) (s := 0) 3 hj hj8 ok) rfl (pe_ord ok1).F run rfl O (fun X1 v h => w_order h) (fun h => absurd h (by decide)) (fun _ X1 h => w_order_0 h) (fun _ X1 h => w_order_1 h) (fun lo1 X1 m1 c b kk hL hM hT hO K => s_order_0 hx hi hsn hb hL hM hT hO K) ih
theorem c_order1 (hx : xi = Int32.ofNat i) (hi : i + 7 ≤ sn) (hsn : sn ≤ 3584) (G : GI k W m) (ih : IHL sn sf xi BB c1 c2) (hb : ¬ sf (i + 6) = 0) : aFn FL BB (844, [some (.ref 5), some (.ref 20), some (.ref 10), some (.ref 8), some (.ref 9), some (.int xi), l6, l7, l8], [], (aLh sn sf lo dd m (KL k W)), (c1, c2)) := by
  obtain ⟨⟨n, g, o, ok, R⟩, -, ⟨c, j, c8, hj8, -, hj, hc, -⟩, -⟩ := id G
  have ok1 : wOk (cpW (W 0) (W 1)) n g o := wOk_same (cpW_same _ _) ok
  have R1 : Rl (cpW (W 0) (W 1)) (m 0) n g o := Rl_cg R ok.1.2.1 ok.1.2.2.2.1 ok.1.2.2.2.2.2 (cpW_same _ _) (fun _ _ => rfl)
  obtain ⟨m1, u, run, O⟩ := o_order (sn := sn) (sf := sf) (m := m) (x := (sf (i + 1))) (y := (sf (i + 2))) (z := (sf (i + 3))) (u := (sf (i + 4))) (v := (sf (i + 5))) (t := 1) 8 R1 ok1.A hc c8
  exact op_gen (lo := lo) (dd := dd) (l8 := l8) (f := cd2) (E := [-2, -3]) G hj hj8 (k_order (sn := sn) (sf := sf) (wd := W 1) (ws := W 2) (x := (sf (i + 1))) (y := (sf (i + 2))) (z := (sf (i + 3))) (u := (sf (i + 4))) (v := (sf (i + 5))) (s := 1) 3 hj hj8 ok) rfl (pe_ord ok1).F run rfl O (fun X1 v h => w_order h) (fun h => absurd h (by decide)) (fun _ X1 h => w_order_0 h) (fun _ X1 h => w_order_1 h) (fun lo1 X1 m1 c b kk hL hM hT hO K => s_order_1 hx hi hsn hb hL hM hT hO K) ih
theorem c_sell (hx : xi = Int32.ofNat i) (hi : i + 7 ≤ sn) (hsn : sn ≤ 3584) (G : GI k W m) (ih : IHL sn sf xi BB c1 c2) : aFn FL BB (978, [some (.ref 5), some (.ref 20), some (.ref 10), some (.ref 8), some (.ref 9), some (.int xi), l6, l7, l8], [], (aLh sn sf lo dd m (KL k W)), (c1, c2)) := by
  obtain ⟨⟨n, g, o, ok, R⟩, -, ⟨c, j, c8, hj8, -, hj, hc, -⟩, -⟩ := id G
  have ok1 : wOk (cpW (W 0) (W 1)) n g o := wOk_same (cpW_same _ _) ok
  have R1 : Rl (cpW (W 0) (W 1)) (m 0) n g o := Rl_cg R ok.1.2.1 ok.1.2.2.2.1 ok.1.2.2.2.2.2 (cpW_same _ _) (fun _ _ => rfl)
  obtain ⟨m1, u, run, O⟩ := o_sell (sn := sn) (sf := sf) (m := m) (y := (sf (i + 1))) 1 R1 ok1.A hc c8 (fun h _ => fa_sell ok1 (aIx_lt h ok1.1.2.2.2.2.1 ok1.1.2.2.2.2.2 (by omega)).2.1)
  exact op_gen (lo := lo) (dd := dd) (l8 := l8) (f := cd2) (E := [-1, -3]) G hj hj8 (k_sell (sn := sn) (sf := sf) (wd := W 1) (ws := W 2) (x := (sf (i + 1))) 3 hj hj8 ok) rfl (pe_sell ok1).F run rfl O (fun X1 v h => w_sell h) (fun _ X1 h => w_sell_2 h) (fun h => absurd h (by decide)) (fun _ X1 h => w_sell_1 h) (fun lo1 X1 m1 c b kk hL hM hT hO K => s_sell hx hi hsn hL hM hT hO K) ih
end LO
