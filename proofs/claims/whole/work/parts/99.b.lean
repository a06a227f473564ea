/-! THE LAW'S BODY: answers, on both sides -/
section LQ
variable {sn i c1 c2 : Nat} {sf : Nat → Int32} {lo : Nat → Int64} {dd : Nat → UInt64} {m m1 k : aW} {W : Nat → aW} {a7 a8 aL n g o : Nat} {as7 asK as8 asM asL : List Value} {xi b x y z : Int32} {l6 l7 l8 : Option Value} {BB : aK} {q : Nat ⊕ Int32} {fc : Nat → Int32} {P0 P2 P3 : Prop} {goal : Prop} {w : aW}
theorem qry_gen (G : GI k W m) (hk : aRun false 9 a7 as7 (aHk sn sf 21 42 aRg k (W 0) (W 1) (W 2)) = some (kRes (aHk sn sf 21 42 aRg k (W 0) (W 1) (W 2)) q)) (eK : as7.map (aCv (uW 20)) = asK) (hq : (∃ v, q = .inr v) ∨ (P0 ∧ q = .inl 0) ∨ (P2 ∧ q = .inl 2) ∨ (P3 ∧ q = .inl 3))
    (hM : aRun false 10 a8 as8 (aHn sn sf m) = some (.inl (some (.int b)), aHn sn sf (upw m 9 2 (cW q fc).1), (0, 0))) (eM : as8.map (aCv (uW 10)) = asM) (hb : ∀ v, q = .inr v → b = v)
    (w0 : ∀ X1 v, aRun false 9 a7 asK (aLh sn sf lo dd m (KL k W)) = some (.inl (some (.int v)), aLh sn sf lo dd m X1, (0, 0)) → aRun false 10 aL asL (aLh sn sf lo dd m (KL k W)) = some (.inl (some (.int 0)), aLh sn sf (vp_updL lo 0 v.toInt64) dd m X1, (0, 0)))
    (w1 : P0 → (¬ fc 0 = 0) ∧ ∀ X1, aRun false 9 a7 asK (aLh sn sf lo dd m (KL k W)) = some (.inr 0, aLh sn sf lo dd m X1, (1, 6)) → aRun false 10 aL asL (aLh sn sf lo dd m (KL k W)) = some (.inl (some (.int (fc 0))), aLh sn sf lo dd m X1, (1, 6)))
    (w2 : P2 → (¬ fc 2 = 0) ∧ ∀ X1, aRun false 9 a7 asK (aLh sn sf lo dd m (KL k W)) = some (.inr 2, aLh sn sf lo dd m X1, (1, 6)) → aRun false 10 aL asL (aLh sn sf lo dd m (KL k W)) = some (.inl (some (.int (fc 2))), aLh sn sf lo dd m X1, (1, 6)))
    (w3 : P3 → (¬ fc 3 = 0) ∧ ∀ X1, aRun false 9 a7 asK (aLh sn sf lo dd m (KL k W)) = some (.inr 3, aLh sn sf lo dd m X1, (1, 6)) → aRun false 10 aL asL (aLh sn sf lo dd m (KL k W)) = some (.inl (some (.int (fc 3))), aLh sn sf lo dd m X1, (1, 6)))
    (seg : ∀ (lo1 : Nat → Int64) (X1 : aH) (m1 : aW) (c b : Int32) (kk : aK), aRun false 10 aL asL (aLh sn sf lo dd m (KL k W)) = some (.inl (some (.int c)), aLh sn sf lo1 dd m X1, kk) → aRun false 10 a8 asM (aLh sn sf lo1 dd m X1) = some (.inl (some (.int b)), aLh sn sf lo1 dd m1 X1, (0, 0)) → m1 9 2 = c → (c = 0 → lo1 0 = b.toInt64) → (∀ l6 l7, aFn FL BB (2322, [some (.ref 5), some (.ref 20), some (.ref 10), some (.ref 8), some (.ref 9), some (.int xi), l6, l7, l8], [], aLh sn sf lo1 dd m1 X1, (c1 + kk.1, c2 + kk.2))) → goal)
    (ih : IHL sn sf xi BB c1 c2) : goal := by
  subst eK eM
  have thr : ∀ e, q = .inl e → (¬ fc e = 0) → (∀ X1, aRun false 9 a7 (as7.map (aCv (uW 20))) (aLh sn sf lo dd m (KL k W)) = some (.inr e, aLh sn sf lo dd m X1, (1, 6)) → aRun false 10 aL asL (aLh sn sf lo dd m (KL k W)) = some (.inl (some (.int (fc e))), aLh sn sf lo dd m X1, (1, 6))) → goal := by
    intro e h hne hw
    subst h
    have hl := hw _ (lift_k (lo := lo) (dd := dd) (m := m) (R := RgL W) hk)
    exact seg lo _ (upw m 9 2 (fc e)) (fc e) b (1, 6) hl (lift_m hM) rfl (fun r => absurd r hne) (fun l6 l7 => ih k W _ lo dd l6 l7 l8 (c1 + 1, c2 + 6) (GI_9 G) (Nat.le_refl _) (Nat.le_refl _))
  rcases hq with ⟨v, h⟩ | ⟨p, h⟩ | ⟨p, h⟩ | ⟨p, h⟩
  · have hbv := hb v h
    subst h hbv
    have hl := w0 _ _ (lift_k (lo := lo) (dd := dd) (m := m) (R := RgL W) hk)
    exact seg _ _ (upw m 9 2 0) 0 b (0, 0) hl (lift_m hM) rfl (fun _ => vpu0) (fun l6 l7 => ih k W _ _ dd l6 l7 l8 (c1, c2) (GI_9 G) (by omega) (by omega))
  · exact thr 0 h (w1 p).1 (w1 p).2
  · exact thr 2 h (w2 p).1 (w2 p).2
  · exact thr 3 h (w3 p).1 (w3 p).2
theorem cW_v {v : Int32} (h : q = .inr v) : (cW q fc).2 = v := by rw [h]; rfl
theorem loadAgain_eq (ok : wOk w n g o) : q_loadAgain w n g x = q_load w n g x := by
  unfold q_loadAgain q_load
  by_cases c : 0 ≤ x ∧ x < w 16 4
  · have hx := aIx_lt c ok.1.2.2.1 ok.1.2.2.2.1 (by omega)
    rw [if_pos c, if_pos c, hx.2.2, load_eq ok.2.2.1 ok.1.2.2.2.1 hx.2.1]
  · rw [if_neg c, if_neg c]
theorem refusal_eq (G : GI k W m) : q_refusalM m x y = q_refusal k x y := by
  obtain ⟨-, -, -, -, -, r, hr, r2, r3, r4⟩ := G
  unfold q_refusalM q_refusal
  by_cases c : 0 ≤ x ∧ x ≤ 2
  · rw [if_pos c, if_pos c, r2, r3]
    by_cases c1 : x < Int32.ofNat r
    · have hx := aIx_lt (m := r) (k := 3) ⟨c.1, c1⟩ rfl hr (by omega)
      rw [if_pos c1, if_pos c1, (r4 _ hx.2.1).1, (r4 _ hx.2.1).2]
    · rw [if_neg c1, if_neg c1]
  · rw [if_neg c, if_neg c]
theorem account_y (G : GI k W m) (ok : wOk (W 0) n g o) (R : Rl (W 0) (m 0) n g o) : aRun false 10 m_X8_account [.ref 8, .int x] (aHn sn sf m) = some (yRes sn sf m (cW (q_account (W 0) k n g o x) (fun _ => 1))) := by
  by_cases c : 0 ≤ x ∧ x ≤ 18
  · have e : q_account (W 0) k n g o x = .inr (mAcc (W 0) m n g o x) := by
      obtain ⟨-, -, ⟨c, j, -, -, h1, -, h2, -⟩, ⟨L, -, t1, t2, -⟩, -⟩ := G
      refine (if_pos ‹0 ≤ x ∧ x ≤ 18›).trans ?_
      unfold mAcc
      rw [t1, t2, h1, h2]
    rw [e]
    exact y_account 3 R ok.A c
  · have e : q_account (W 0) k n g o x = .inl 0 := if_neg c
    rw [e]
    exact y_accountX 3 c

theorem c_ware (hx : xi = Int32.ofNat i) (hi : i + 7 ≤ sn) (hsn : sn ≤ 3584) (G : GI k W m) (ih : IHL sn sf xi BB c1 c2) : aFn FL BB (1034, [some (.ref 5), some (.ref 20), some (.ref 10), some (.ref 8), some (.ref 9), some (.int xi), l6, l7, l8], [], (aLh sn sf lo dd m (KL k W)), (c1, c2)) := by
  obtain ⟨n, g, o, ok, R⟩ := G.1
  have hm := y_ware (sn := sn) (sf := sf) (m := m) (x := (sf (i + 1))) (y := (sf (i + 2))) 3 R ok.A
  have hq : (∃ v, q_ware (W 0) (sf (i + 1)) (sf (i + 2)) = .inr v) ∨ (True ∧ q_ware (W 0) (sf (i + 1)) (sf (i + 2)) = .inl 0) ∨ (True ∧ q_ware (W 0) (sf (i + 1)) (sf (i + 2)) = .inl 2) ∨ (False ∧ q_ware (W 0) (sf (i + 1)) (sf (i + 2)) = .inl 3) := by
    unfold q_ware
    repeat' split
    all_goals simp
  exact qry_gen (lo := lo) (dd := dd) (l8 := l8) (fc := fun c => if c = 2 then 1 else 2) G (k_ware (sn := sn) (sf := sf) (x := (sf (i + 1))) (y := (sf (i + 2))) 3 ok) rfl hq hm rfl (fun v h => cW_v h) (fun X1 v h => w_ware h) (fun _ => ⟨by decide, fun X1 h => w_ware_0 h⟩) (fun _ => ⟨by decide, fun X1 h => w_ware_2 h⟩) (fun h => h.elim) (fun lo1 X1 m1 c b kk hL hM hT hO K => s_ware hx hi hsn hL hM hT hO K) ih
theorem c_saggarOf (hx : xi = Int32.ofNat i) (hi : i + 7 ≤ sn) (hsn : sn ≤ 3584) (G : GI k W m) (ih : IHL sn sf xi BB c1 c2) : aFn FL BB (1102, [some (.ref 5), some (.ref 20), some (.ref 10), some (.ref 8), some (.ref 9), some (.int xi), l6, l7, l8], [], (aLh sn sf lo dd m (KL k W)), (c1, c2)) := by
  obtain ⟨n, g, o, ok, R⟩ := G.1
  have hm := y_saggarOf (sn := sn) (sf := sf) (m := m) (x := (sf (i + 1))) (y := (sf (i + 2))) 3 R ok.A
  have hq : (∃ v, q_saggarOf (W 0) n g (sf (i + 1)) (sf (i + 2)) = .inr v) ∨ (True ∧ q_saggarOf (W 0) n g (sf (i + 1)) (sf (i + 2)) = .inl 0) ∨ (True ∧ q_saggarOf (W 0) n g (sf (i + 1)) (sf (i + 2)) = .inl 2) ∨ (False ∧ q_saggarOf (W 0) n g (sf (i + 1)) (sf (i + 2)) = .inl 3) := by
    unfold q_saggarOf
    repeat' split
    all_goals simp
  exact qry_gen (lo := lo) (dd := dd) (l8 := l8) (fc := fun c => if c = 2 then 1 else 2) G (k_saggarOf (sn := sn) (sf := sf) (x := (sf (i + 1))) (y := (sf (i + 2))) 3 ok) rfl hq hm rfl (fun v h => cW_v h) (fun X1 v h => w_saggarOf h) (fun _ => ⟨by decide, fun X1 h => w_saggarOf_0 h⟩) (fun _ => ⟨by decide, fun X1 h => w_saggarOf_2 h⟩) (fun h => h.elim) (fun lo1 X1 m1 c b kk hL hM hT hO K => s_saggarOf hx hi hsn hL hM hT hO K) ih
theorem c_load (hx : xi = Int32.ofNat i) (hi : i + 7 ≤ sn) (hsn : sn ≤ 3584) (G : GI k W m) (ih : IHL sn sf xi BB c1 c2) : aFn FL BB (1170, [some (.ref 5), some (.ref 20), some (.ref 10), some (.ref 8), some (.ref 9), some (.int xi), l6, l7, l8], [], (aLh sn sf lo dd m (KL k W)), (c1, c2)) := by
  obtain ⟨n, g, o, ok, R⟩ := G.1
  have hm := y_load (sn := sn) (sf := sf) (m := m) (x := (sf (i + 1))) 3 R ok.A
  have hq : (∃ v, q_load (W 0) n g (sf (i + 1)) = .inr v) ∨ (False ∧ q_load (W 0) n g (sf (i + 1)) = .inl 0) ∨ (True ∧ q_load (W 0) n g (sf (i + 1)) = .inl 2) ∨ (False ∧ q_load (W 0) n g (sf (i + 1)) = .inl 3) := by
    unfold q_load
    repeat' split
    all_goals simp
  exact qry_gen (lo := lo) (dd := dd) (l8 := l8) (fc := fun c => 1) G (k_load (sn := sn) (sf := sf) (x := (sf (i + 1))) 3 ok) rfl hq hm rfl (fun v h => cW_v h) (fun X1 v h => w_load h) (fun h => h.elim) (fun _ => ⟨by decide, fun X1 h => w_load_2 h⟩) (fun h => h.elim) (fun lo1 X1 m1 c b kk hL hM hT hO K => s_load hx hi hsn hL hM hT hO K) ih
theorem c_loadAgain (hx : xi = Int32.ofNat i) (hi : i + 7 ≤ sn) (hsn : sn ≤ 3584) (G : GI k W m) (ih : IHL sn sf xi BB c1 c2) : aFn FL BB (1226, [some (.ref 5), some (.ref 20), some (.ref 10), some (.ref 8), some (.ref 9), some (.int xi), l6, l7, l8], [], (aLh sn sf lo dd m (KL k W)), (c1, c2)) := by
  obtain ⟨n, g, o, ok, R⟩ := G.1
  have hm := y_loadAgain (sn := sn) (sf := sf) (m := m) (x := (sf (i + 1))) 2 R ok.A
  rw [← loadAgain_eq ok] at hm
  have hq : (∃ v, q_loadAgain (W 0) n g (sf (i + 1)) = .inr v) ∨ (False ∧ q_loadAgain (W 0) n g (sf (i + 1)) = .inl 0) ∨ (True ∧ q_loadAgain (W 0) n g (sf (i + 1)) = .inl 2) ∨ (False ∧ q_loadAgain (W 0) n g (sf (i + 1)) = .inl 3) := by
    unfold q_loadAgain
    repeat' split
    all_goals simp
  exact qry_gen (lo := lo) (dd := dd) (l8 := l8) (fc := fun c => 1) G (k_loadAgain (sn := sn) (sf := sf) (x := (sf (i + 1))) 3 ok) rfl hq hm rfl (fun v h => cW_v h) (fun X1 v h => w_loadAgain h) (fun h => h.elim) (fun _ => ⟨by decide, fun X1 h => w_loadAgain_2 h⟩) (fun h => h.elim) (fun lo1 X1 m1 c b kk hL hM hT hO K => s_loadAgain hx hi hsn hL hM hT hO K) ih
theorem c_orderOf (hx : xi = Int32.ofNat i) (hi : i + 7 ≤ sn) (hsn : sn ≤ 3584) (G : GI k W m) (ih : IHL sn sf xi BB c1 c2) : aFn FL BB (1282, [some (.ref 5), some (.ref 20), some (.ref 10), some (.ref 8), some (.ref 9), some (.int xi), l6, l7, l8], [], (aLh sn sf lo dd m (KL k W)), (c1, c2)) := by
  obtain ⟨n, g, o, ok, R⟩ := G.1
  have hm := y_orderOf (sn := sn) (sf := sf) (m := m) (x := (sf (i + 1))) (y := (sf (i + 2))) 3 R ok.A
  have hq : (∃ v, q_orderOf (W 0) (sf (i + 1)) (sf (i + 2)) = .inr v) ∨ (True ∧ q_orderOf (W 0) (sf (i + 1)) (sf (i + 2)) = .inl 0) ∨ (True ∧ q_orderOf (W 0) (sf (i + 1)) (sf (i + 2)) = .inl 2) ∨ (False ∧ q_orderOf (W 0) (sf (i + 1)) (sf (i + 2)) = .inl 3) := by
    unfold q_orderOf
    repeat' split
    all_goals simp
  exact qry_gen (lo := lo) (dd := dd) (l8 := l8) (fc := fun c => if c = 2 then 1 else 2) G (k_orderOf (sn := sn) (sf := sf) (x := (sf (i + 1))) (y := (sf (i + 2))) 3 ok) rfl hq hm rfl (fun v h => cW_v h) (fun X1 v h => w_orderOf h) (fun _ => ⟨by decide, fun X1 h => w_orderOf_0 h⟩) (fun _ => ⟨by decide, fun X1 h => w_orderOf_2 h⟩) (fun h => h.elim) (fun lo1 X1 m1 c b kk hL hM hT hO K => s_orderOf hx hi hsn hL hM hT hO K) ih
theorem c_store_0 (hx : xi = Int32.ofNat i) (hi : i + 7 ≤ sn) (hsn : sn ≤ 3584) (G : GI k W m) (ih : IHL sn sf xi BB c1 c2) (hb : sf (i + 3) = 0) : aFn FL BB (1406, [some (.ref 5), some (.ref 20), some (.ref 10), some (.ref 8), some (.ref 9), some (.int xi), l6, l7, l8], [], (aLh sn sf lo dd m (KL k W)), (c1, c2)) := by
  obtain ⟨n, g, o, ok, R⟩ := G.1
  have hm := y_store (sn := sn) (sf := sf) (m := m) (y := (sf (i + 1))) (z := (sf (i + 2))) (u := 0) 3 R ok.A
  have hq : (∃ v, q_store (W 0) n (sf (i + 1)) (sf (i + 2)) 0 = .inr v) ∨ (True ∧ q_store (W 0) n (sf (i + 1)) (sf (i + 2)) 0 = .inl 0) ∨ (False ∧ q_store (W 0) n (sf (i + 1)) (sf (i + 2)) 0 = .inl 2) ∨ (False ∧ q_store (W 0) n (sf (i + 1)) (sf (i + 2)) 0 = .inl 3) := by
    unfold q_store
    repeat' split
    all_goals simp
  exact qry_gen (lo := lo) (dd := dd) (l8 := l8) (fc := fun c => 1) G (k_store (sn := sn) (sf := sf) (x := (sf (i + 1))) (y := (sf (i + 2))) (z := 0) 3 ok) rfl hq hm rfl (fun v h => cW_v h) (fun X1 v h => w_store h) (fun _ => ⟨by decide, fun X1 h => w_store_0 h⟩) (fun h => h.elim) (fun h => h.elim) (fun lo1 X1 m1 c b kk hL hM hT hO K => s_store_0 hx hi hsn hb hL hM hT hO K) ih
theorem c_store_1 (hx : xi = Int32.ofNat i) (hi : i + 7 ≤ sn) (hsn : sn ≤ 3584) (G : GI k W m) (ih : IHL sn sf xi BB c1 c2) (hb : ¬ sf (i + 3) = 0) : aFn FL BB (1406, [some (.ref 5), some (.ref 20), some (.ref 10), some (.ref 8), some (.ref 9), some (.int xi), l6, l7, l8], [], (aLh sn sf lo dd m (KL k W)), (c1, c2)) := by
  obtain ⟨n, g, o, ok, R⟩ := G.1
  have hm := y_store (sn := sn) (sf := sf) (m := m) (y := (sf (i + 1))) (z := (sf (i + 2))) (u := 1) 3 R ok.A
  have hq : (∃ v, q_store (W 0) n (sf (i + 1)) (sf (i + 2)) 1 = .inr v) ∨ (True ∧ q_store (W 0) n (sf (i + 1)) (sf (i + 2)) 1 = .inl 0) ∨ (False ∧ q_store (W 0) n (sf (i + 1)) (sf (i + 2)) 1 = .inl 2) ∨ (False ∧ q_store (W 0) n (sf (i + 1)) (sf (i + 2)) 1 = .inl 3) := by
    unfold q_store
    repeat' split
    all_goals simp
  exact qry_gen (lo := lo) (dd := dd) (l8 := l8) (fc := fun c => 1) G (k_store (sn := sn) (sf := sf) (x := (sf (i + 1))) (y := (sf (i + 2))) (z := 1) 3 ok) rfl hq hm rfl (fun v h => cW_v h) (fun X1 v h => w_store h) (fun _ => ⟨by decide, fun X1 h => w_store_0 h⟩) (fun h => h.elim) (fun h => h.elim) (fun lo1 X1 m1 c b kk hL hM hT hO K => s_store_1 hx hi hsn hb hL hM hT hO K) ih
theorem c_heatAt (hx : xi = Int32.ofNat i) (hi : i + 7 ≤ sn) (hsn : sn ≤ 3584) (G : GI k W m) (ih : IHL sn sf xi BB c1 c2) : aFn FL BB (1502, [some (.ref 5), some (.ref 20), some (.ref 10), some (.ref 8), some (.ref 9), some (.int xi), l6, l7, l8], [], (aLh sn sf lo dd m (KL k W)), (c1, c2)) := by
  obtain ⟨n, g, o, ok, R⟩ := G.1
  have hm := y_heatAt (sn := sn) (sf := sf) (m := m) (x := (sf (i + 1))) (y := (sf (i + 2))) 3 R ok.A
  have hq : (∃ v, q_heatAt (W 0) (sf (i + 1)) (sf (i + 2)) = .inr v) ∨ (True ∧ q_heatAt (W 0) (sf (i + 1)) (sf (i + 2)) = .inl 0) ∨ (True ∧ q_heatAt (W 0) (sf (i + 1)) (sf (i + 2)) = .inl 2) ∨ (True ∧ q_heatAt (W 0) (sf (i + 1)) (sf (i + 2)) = .inl 3) := by
    unfold q_heatAt
    repeat' split
    all_goals simp
  exact qry_gen (lo := lo) (dd := dd) (l8 := l8) (fc := fun c => if c = 2 then 1 else if c = 0 then 2 else 3) G (k_heatAt (sn := sn) (sf := sf) (x := (sf (i + 1))) (y := (sf (i + 2))) 3 ok) rfl hq hm rfl (fun v h => cW_v h) (fun X1 v h => w_heatAt h) (fun _ => ⟨by decide, fun X1 h => w_heatAt_0 h⟩) (fun _ => ⟨by decide, fun X1 h => w_heatAt_2 h⟩) (fun _ => ⟨by decide, fun X1 h => w_heatAt_3 h⟩) (fun lo1 X1 m1 c b kk hL hM hT hO K => s_heatAt hx hi hsn hL hM hT hO K) ih
theorem c_wouldBe (hx : xi = Int32.ofNat i) (hi : i + 7 ≤ sn) (hsn : sn ≤ 3584) (G : GI k W m) (ih : IHL sn sf xi BB c1 c2) : aFn FL BB (1570, [some (.ref 5), some (.ref 20), some (.ref 10), some (.ref 8), some (.ref 9), some (.int xi), l6, l7, l8], [], (aLh sn sf lo dd m (KL k W)), (c1, c2)) := by
  obtain ⟨n, g, o, ok, R⟩ := G.1
  have hm := y_wouldBe (sn := sn) (sf := sf) (m := m) (x := (sf (i + 1))) (y := (sf (i + 2))) 3 R ok.A
  have hq : (∃ v, q_wouldBe (W 0) (sf (i + 1)) (sf (i + 2)) = .inr v) ∨ (True ∧ q_wouldBe (W 0) (sf (i + 1)) (sf (i + 2)) = .inl 0) ∨ (True ∧ q_wouldBe (W 0) (sf (i + 1)) (sf (i + 2)) = .inl 2) ∨ (False ∧ q_wouldBe (W 0) (sf (i + 1)) (sf (i + 2)) = .inl 3) := by
    unfold q_wouldBe
    repeat' split
    all_goals simp
  exact qry_gen (lo := lo) (dd := dd) (l8 := l8) (fc := fun c => if c = 2 then 1 else 2) G (k_wouldBe (sn := sn) (sf := sf) (x := (sf (i + 1))) (y := (sf (i + 2))) 3 ok) rfl hq hm rfl (fun v h => cW_v h) (fun X1 v h => w_wouldBe h) (fun _ => ⟨by decide, fun X1 h => w_wouldBe_0 h⟩) (fun _ => ⟨by decide, fun X1 h => w_wouldBe_2 h⟩) (fun h => h.elim) (fun lo1 X1 m1 c b kk hL hM hT hO K => s_wouldBe hx hi hsn hL hM hT hO K) ih
theorem c_bestHeat_0 (hx : xi = Int32.ofNat i) (hi : i + 7 ≤ sn) (hsn : sn ≤ 3584) (G : GI k W m) (ih : IHL sn sf xi BB c1 c2) (hb : sf (i + 1) = 0) : aFn FL BB (1638, [some (.ref 5), some (.ref 20), some (.ref 10), some (.ref 8), some (.ref 9), some (.int xi), l6, l7, l8], [], (aLh sn sf lo dd m (KL k W)), (c1, c2)) := by
  obtain ⟨n, g, o, ok, R⟩ := G.1
  have hm := y_bestHeat (sn := sn) (sf := sf) (m := m) (x := 0) 3 R ok.A
  have hq : (∃ v, q_bestHeat (W 0) n 0 = .inr v) ∨ (False ∧ q_bestHeat (W 0) n 0 = .inl 0) ∨ (False ∧ q_bestHeat (W 0) n 0 = .inl 2) ∨ (True ∧ q_bestHeat (W 0) n 0 = .inl 3) := by
    unfold q_bestHeat
    repeat' split
    all_goals simp
  exact qry_gen (lo := lo) (dd := dd) (l8 := l8) (fc := fun c => 1) G (k_bestHeat (sn := sn) (sf := sf) (x := 0) 3 ok) rfl hq hm rfl (fun v h => cW_v h) (fun X1 v h => w_bestHeat h) (fun h => h.elim) (fun h => h.elim) (fun _ => ⟨by decide, fun X1 h => w_bestHeat_3 h⟩) (fun lo1 X1 m1 c b kk hL hM hT hO K => s_bestHeat_0 hx hi hsn hb hL hM hT hO K) ih
theorem c_bestHeat_1 (hx : xi = Int32.ofNat i) (hi : i + 7 ≤ sn) (hsn : sn ≤ 3584) (G : GI k W m) (ih : IHL sn sf xi BB c1 c2) (hb : ¬ sf (i + 1) = 0) : aFn FL BB (1638, [some (.ref 5), some (.ref 20), some (.ref 10), some (.ref 8), some (.ref 9), some (.int xi), l6, l7, l8], [], (aLh sn sf lo dd m (KL k W)), (c1, c2)) := by
  obtain ⟨n, g, o, ok, R⟩ := G.1
  have hm := y_bestHeat (sn := sn) (sf := sf) (m := m) (x := 1) 3 R ok.A
  have hq : (∃ v, q_bestHeat (W 0) n 1 = .inr v) ∨ (False ∧ q_bestHeat (W 0) n 1 = .inl 0) ∨ (False ∧ q_bestHeat (W 0) n 1 = .inl 2) ∨ (True ∧ q_bestHeat (W 0) n 1 = .inl 3) := by
    unfold q_bestHeat
    repeat' split
    all_goals simp
  exact qry_gen (lo := lo) (dd := dd) (l8 := l8) (fc := fun c => 1) G (k_bestHeat (sn := sn) (sf := sf) (x := 1) 3 ok) rfl hq hm rfl (fun v h => cW_v h) (fun X1 v h => w_bestHeat h) (fun h => h.elim) (fun h => h.elim) (fun _ => ⟨by decide, fun X1 h => w_bestHeat_3 h⟩) (fun lo1 X1 m1 c b kk hL hM hT hO K => s_bestHeat_1 hx hi hsn hb hL hM hT hO K) ih
theorem c_refusal_0 (hx : xi = Int32.ofNat i) (hi : i + 7 ≤ sn) (hsn : sn ≤ 3584) (G : GI k W m) (ih : IHL sn sf xi BB c1 c2) (hb : sf (i + 2) = 0) : aFn FL BB (1937, [some (.ref 5), some (.ref 20), some (.ref 10), some (.ref 8), some (.ref 9), some (.int xi), l6, l7, l8], [], (aLh sn sf lo dd m (KL k W)), (c1, c2)) := by
  obtain ⟨n, g, o, ok, R⟩ := G.1
  have hm := y_refusal (sn := sn) (sf := sf) (m := m) (x := (sf (i + 1))) (y := 0) 3
  rw [refusal_eq G] at hm
  have hq : (∃ v, q_refusal k (sf (i + 1)) 0 = .inr v) ∨ (True ∧ q_refusal k (sf (i + 1)) 0 = .inl 0) ∨ (False ∧ q_refusal k (sf (i + 1)) 0 = .inl 2) ∨ (True ∧ q_refusal k (sf (i + 1)) 0 = .inl 3) := by
    unfold q_refusal
    repeat' split
    all_goals simp
  exact qry_gen (lo := lo) (dd := dd) (l8 := l8) (fc := fun c => if c = 0 then 1 else 2) G (k_refusal (sn := sn) (sf := sf) (x := (sf (i + 1))) (y := 0) 3) rfl hq hm rfl (fun v h => cW_v h) (fun X1 v h => w_refusal h) (fun _ => ⟨by decide, fun X1 h => w_refusal_0 h⟩) (fun h => h.elim) (fun _ => ⟨by decide, fun X1 h => w_refusal_3 h⟩) (fun lo1 X1 m1 c b kk hL hM hT hO K => s_refusal_0 hx hi hsn hb hL hM hT hO K) ih
theorem c_refusal_1 (hx : xi = Int32.ofNat i) (hi : i + 7 ≤ sn) (hsn : sn ≤ 3584) (G : GI k W m) (ih : IHL sn sf xi BB c1 c2) (hb : ¬ sf (i + 2) = 0) : aFn FL BB (1937, [some (.ref 5), some (.ref 20), some (.ref 10), some (.ref 8), some (.ref 9), some (.int xi), l6, l7, l8], [], (aLh sn sf lo dd m (KL k W)), (c1, c2)) := by
  obtain ⟨n, g, o, ok, R⟩ := G.1
  have hm := y_refusal (sn := sn) (sf := sf) (m := m) (x := (sf (i + 1))) (y := 1) 3
  rw [refusal_eq G] at hm
  have hq : (∃ v, q_refusal k (sf (i + 1)) 1 = .inr v) ∨ (True ∧ q_refusal k (sf (i + 1)) 1 = .inl 0) ∨ (False ∧ q_refusal k (sf (i + 1)) 1 = .inl 2) ∨ (True ∧ q_refusal k (sf (i + 1)) 1 = .inl 3) := by
    unfold q_refusal
    repeat' split
    all_goals simp
  exact qry_gen (lo := lo) (dd := dd) (l8 := l8) (fc := fun c => if c = 0 then 1 else 2) G (k_refusal (sn := sn) (sf := sf) (x := (sf (i + 1))) (y := 1) 3) rfl hq hm rfl (fun v h => cW_v h) (fun X1 v h => w_refusal h) (fun _ => ⟨by decide, fun X1 h => w_refusal_0 h⟩) (fun h => h.elim) (fun _ => ⟨by decide, fun X1 h => w_refusal_3 h⟩) (fun lo1 X1 m1 c b kk hL hM hT hO K => s_refusal_1 hx hi hsn hb hL hM hT hO K) ih
theorem c_account (hx : xi = Int32.ofNat i) (hi : i + 7 ≤ sn) (hsn : sn ≤ 3584) (G : GI k W m) (ih : IHL sn sf xi BB c1 c2) : aFn FL BB (2021, [some (.ref 5), some (.ref 20), some (.ref 10), some (.ref 8), some (.ref 9), some (.int xi), l6, l7, l8], [], (aLh sn sf lo dd m (KL k W)), (c1, c2)) := by
  obtain ⟨n, g, o, ok, R⟩ := G.1
  have hm := account_y (sn := sn) (sf := sf) (m := m) (x := (sf (i + 1))) G ok R
  have hq : (∃ v, q_account (W 0) k n g o (sf (i + 1)) = .inr v) ∨ (True ∧ q_account (W 0) k n g o (sf (i + 1)) = .inl 0) ∨ (False ∧ q_account (W 0) k n g o (sf (i + 1)) = .inl 2) ∨ (False ∧ q_account (W 0) k n g o (sf (i + 1)) = .inl 3) := by
    unfold q_account
    repeat' split
    all_goals simp
  exact qry_gen (lo := lo) (dd := dd) (l8 := l8) (fc := fun _ => 1) G (k_account (sn := sn) (sf := sf) (x := (sf (i + 1))) 3 ok) rfl hq hm rfl (fun v h => cW_v h) (fun X1 v h => w_account h) (fun _ => ⟨by decide, fun X1 h => w_account_0 h⟩) (fun h => h.elim) (fun h => h.elim) (fun lo1 X1 m1 c b kk hL hM hT hO K => s_account hx hi hsn hL hM hT hO K) ih
theorem c_sign (hx : xi = Int32.ofNat i) (hi : i + 7 ≤ sn) (hsn : sn ≤ 3584) (G : GI k W m) (ih : IHL sn sf xi BB c1 c2) : aFn FL BB (1350, [some (.ref 5), some (.ref 20), some (.ref 10), some (.ref 8), some (.ref 9), some (.int xi), l6, l7, l8], [], (aLh sn sf lo dd m (KL k W)), (c1, c2)) := by
  obtain ⟨n, g, o, ok, R⟩ := G.1
  by_cases c : 0 ≤ sf (i + 1) ∧ sf (i + 1) < W 0 16 3
  · have e : q_sign (W 0) (sf (i + 1)) = .inr (aSg5 (zn (W 0 1 (zn (sf (i + 1)))))) := if_pos c
    have hk := k_sign (sn := sn) (sf := sf) (k := k) (wd := W 1) (ws := W 2) (x := sf (i + 1)) 3 ok
    rw [e] at hk
    exact qry_gen (lo := lo) (dd := dd) (l8 := l8) (fc := fun c => 1) (P0 := False) (P2 := False) (P3 := False) G hk rfl (Or.inl ⟨_, rfl⟩) (y_wsignY 3 R ok.A c) rfl (fun v h => Sum.inr.inj h) (fun X1 v h => w_sign h) (fun h => h.elim) (fun h => h.elim) (fun h => h.elim) (fun lo1 X1 m1 c b kk hL hM hT hO K => s_sign hx hi hsn hL hM hT hO K) ih
  · have e : q_sign (W 0) (sf (i + 1)) = .inl 2 := if_neg c
    have hk := k_sign (sn := sn) (sf := sf) (k := k) (wd := W 1) (ws := W 2) (x := sf (i + 1)) 3 ok
    rw [e] at hk
    exact qry_gen (lo := lo) (dd := dd) (l8 := l8) (fc := fun c => 1) (P0 := False) (P2 := True) (P3 := False) G hk rfl (Or.inr (Or.inr (Or.inl ⟨trivial, rfl⟩))) (y_wsign 3 R ok.A c) rfl (fun v h => by cases h) (fun X1 v h => w_sign h) (fun h => h.elim) (fun _ => ⟨by decide, fun X1 h => w_sign_2 h⟩) (fun h => h.elim) (fun lo1 X1 m1 c b kk hL hM hT hO K => s_sign hx hi hsn hL hM hT hO K) ih
end LQ
