/-! THE LAW'S LOOP -/
section LP
variable {sn i c1 c2 : Nat} {sf : Nat → Int32} {lo : Nat → Int64} {dd : Nat → UInt64} {m k : aW} {W : Nat → aW} {xi x : Int32} {l6 l7 l8 : Option Value} {BB B1 : aK} {X : aH}
theorem aFn.mono {F : aS → Option (aS ⊕ aR)} {s : aS} (h : aFn F BB s) (h1 : BB.1 ≤ B1.1) (h2 : BB.2 ≤ B1.2) : aFn F B1 s := by
  obtain ⟨t, q, f1, f2, f3, f4⟩ := h
  exact ⟨t, q, f1, f2, Nat.le_trans f3 h1, Nat.le_trans f4 h2⟩
def lTg : List Nat := [200, 268, 324, 404, 484, 528, 608, 664, 732, 788, 844, 978, 1034, 1102, 1170, 1226, 1282, 1350, 1406, 1502, 1570, 1638, 1710, 1766, 1822, 1880, 1924, 1937, 2021, 2077, 2090, 2155, 2221, 2265, 2278]
set_option maxRecDepth 40000 in
theorem l_sw (H : ∀ j, j < 35 → aFn FL BB (lTg.getD j 0, [some (.ref 5), some (.ref 20), some (.ref 10), some (.ref 8), some (.ref 9), some (.int xi), l6, l7, l8], [], aLh sn sf lo dd m X, (c1, c2))) (hd : aFn FL BB (2322, [some (.ref 5), some (.ref 20), some (.ref 10), some (.ref 8), some (.ref 9), some (.int xi), l6, l7, l8], [], aLh sn sf lo dd m X, (c1, c2))) : aFn FL BB (45, [some (.ref 5), some (.ref 20), some (.ref 10), some (.ref 8), some (.ref 9), some (.int xi), l6, l7, l8], [.int x], aLh sn sf lo dd m X, (c1, c2)) := by
  refine aVn_fn (stop := fun _ => true) 1 ?_
  refine And.intro (fun _ => hd) ?_
  refine And.intro (fun _ => H 0 (by omega)) ?_
  refine And.intro (fun _ => H 1 (by omega)) ?_
  refine And.intro (fun _ => H 2 (by omega)) ?_
  refine And.intro (fun _ => H 3 (by omega)) ?_
  refine And.intro (fun _ => H 4 (by omega)) ?_
  refine And.intro (fun _ => H 5 (by omega)) ?_
  refine And.intro (fun _ => H 6 (by omega)) ?_
  refine And.intro (fun _ => H 7 (by omega)) ?_
  refine And.intro (fun _ => H 8 (by omega)) ?_
  refine And.intro (fun _ => H 9 (by omega)) ?_
  refine And.intro (fun _ => H 10 (by omega)) ?_
  refine And.intro (fun _ => H 11 (by omega)) ?_
  refine And.intro (fun _ => H 12 (by omega)) ?_
  refine And.intro (fun _ => H 13 (by omega)) ?_
  refine And.intro (fun _ => H 14 (by omega)) ?_
  refine And.intro (fun _ => H 15 (by omega)) ?_
  refine And.intro (fun _ => H 16 (by omega)) ?_
  refine And.intro (fun _ => H 17 (by omega)) ?_
  refine And.intro (fun _ => H 18 (by omega)) ?_
  refine And.intro (fun _ => H 19 (by omega)) ?_
  refine And.intro (fun _ => H 20 (by omega)) ?_
  refine And.intro (fun _ => H 21 (by omega)) ?_
  refine And.intro (fun _ => H 22 (by omega)) ?_
  refine And.intro (fun _ => H 23 (by omega)) ?_
  refine And.intro (fun _ => H 24 (by omega)) ?_
  refine And.intro (fun _ => H 25 (by omega)) ?_
  refine And.intro (fun _ => H 26 (by omega)) ?_
  refine And.intro (fun _ => H 27 (by omega)) ?_
  refine And.intro (fun _ => H 28 (by omega)) ?_
  refine And.intro (fun _ => H 29 (by omega)) ?_
  refine And.intro (fun _ => H 30 (by omega)) ?_
  refine And.intro (fun _ => H 31 (by omega)) ?_
  refine And.intro (fun _ => H 32 (by omega)) ?_
  refine And.intro (fun _ => H 33 (by omega)) ?_
  refine And.intro (fun _ => H 34 (by omega)) ?_
  exact trivial
theorem zsub7 (hx : xi = Int32.ofNat i) (hi : i ≤ 4000) (hsn : sn ≤ 3584) : Int32.ofNat sn - 7 < xi ↔ sn < i + 7 := by
  have e1 : (Int32.ofNat sn - 7).toInt = (sn : Int) - 7 := by
    have e2 : (7 : Int32).toInt = 7 := rfl
    rw [Int32.toInt_sub, Int32.toInt_ofNat_of_lt (by omega), e2, Int.bmod_eq_of_le (by omega) (by omega)]
  have e3 : xi.toInt = i := by rw [hx, Int32.toInt_ofNat_of_lt (by omega)]
  rw [Int32.lt_iff_toInt_lt, e1, e3]
  omega
/-- one call -/
theorem l_call (hx : xi = Int32.ofNat i) (hi : i + 7 ≤ sn) (hsn : sn ≤ 3584) (G : GI k W m) (ih : IHL sn sf xi BB c1 c2) : ∀ j, j < 35 → aFn FL BB (lTg.getD j 0, [some (.ref 5), some (.ref 20), some (.ref 10), some (.ref 8), some (.ref 9), some (.int xi), l6, l7, l8], [], (aLh sn sf lo dd m (KL k W)), (c1, c2)) := by
  intro j hj
  match j, hj with
  | 0, _ =>
    exact c_set hx hi hsn G ih
  | 1, _ =>
    exact c_clay hx hi hsn G ih
  | 2, _ =>
    exact c_cast hx hi hsn G ih
  | 3, _ =>
    exact c_glaze hx hi hsn G ih
  | 4, _ =>
    exact c_saggar hx hi hsn G ih
  | 5, _ =>
    exact c_stack hx hi hsn G ih
  | 6, _ =>
    exact c_unstack hx hi hsn G ih
  | 7, _ =>
    exact c_put hx hi hsn G ih
  | 8, _ =>
    exact c_fire hx hi hsn G ih
  | 9, _ =>
    exact c_empty hx hi hsn G ih
  | 10, _ =>
    by_cases hb : sf (i + 6) = 0
    · exact c_order0 hx hi hsn G ih hb
    · exact c_order1 hx hi hsn G ih hb
  | 11, _ =>
    exact c_sell hx hi hsn G ih
  | 12, _ =>
    exact c_ware hx hi hsn G ih
  | 13, _ =>
    exact c_saggarOf hx hi hsn G ih
  | 14, _ =>
    exact c_load hx hi hsn G ih
  | 15, _ =>
    exact c_loadAgain hx hi hsn G ih
  | 16, _ =>
    exact c_orderOf hx hi hsn G ih
  | 17, _ =>
    exact c_sign hx hi hsn G ih
  | 18, _ =>
    by_cases hb : sf (i + 3) = 0
    · exact c_store_0 hx hi hsn G ih hb
    · exact c_store_1 hx hi hsn G ih hb
  | 19, _ =>
    exact c_heatAt hx hi hsn G ih
  | 20, _ =>
    exact c_wouldBe hx hi hsn G ih
  | 21, _ =>
    by_cases hb : sf (i + 1) = 0
    · exact c_bestHeat_0 hx hi hsn G ih hb
    · exact c_bestHeat_1 hx hi hsn G ih hb
  | 22, _ =>
    exact c_sets hx hi hsn G ih
  | 23, _ =>
    exact c_setsAgain hx hi hsn G ih
  | 24, _ =>
    exact c_append hx hi hsn G ih
  | 25, _ =>
    exact c_read hx hi hsn G ih
  | 26, _ =>
    exact c_faultPosition G ih
  | 27, _ =>
    by_cases hb : sf (i + 2) = 0
    · exact c_refusal_0 hx hi hsn G ih hb
    · exact c_refusal_1 hx hi hsn G ih hb
  | 28, _ =>
    exact c_account hx hi hsn G ih
  | 29, _ =>
    exact c_isBalanced G ih
  | 30, _ =>
    exact c_firstShare G ih
  | 31, _ =>
    exact c_meanLoad G ih
  | 32, _ =>
    exact c_undo hx hi hsn G ih
  | 33, _ =>
    exact c_save G ih
  | 34, _ =>
    exact c_restore hx hi hsn G ih
  | j + 35, h => exact absurd h (by omega)
set_option maxRecDepth 40000 in
theorem law_loop (hsn : sn ≤ 3584) : ∀ (r i : Nat) (xi : Int32) (k : aW) (W : Nat → aW) (m : aW) (lo : Nat → Int64) (dd : Nat → UInt64) (l6 l7 l8 : Option Value) (kk : aK), xi = Int32.ofNat i → i ≤ 3584 → sn < i + 7 * (r + 1) → GI k W m → aFn FL (kk.1 + r, kk.2 + 6 * r) (28, [some (.ref 5), some (.ref 20), some (.ref 10), some (.ref 8), some (.ref 9), some (.int xi), l6, l7, l8], [], (aLh sn sf lo dd m (KL k W)), kk)
  | r, i, xi, k, W, m, lo, dd, l6, l7, l8, kk, hx, hi4, hr, G => by
    by_cases c : sn < i + 7
    · refine aVn_fn (stop := fun p => p == 2329) 30 ?_
      refine And.intro (fun _ => ?_) (fun q => absurd ((zsub7 hx (by omega) hsn).mpr c) (cF q))
      exact ⟨_, aTo.rf, rfl, rfl, Nat.le_add_right _ _, Nat.le_add_right _ _⟩
    · obtain ⟨r1, rfl⟩ : ∃ r1, r = r1 + 1 := ⟨r - 1, by omega⟩
      have ix : aIx xi sn = some i := aIx_of hx (by omega) (by omega)
      have x7 : xi + 7 = Int32.ofNat (i + 7) := by rw [hx, Int32.ofNat_add]; rfl
      have ih : IHL sn sf xi (kk.1 + (r1 + 1), kk.2 + 6 * (r1 + 1)) kk.1 kk.2 := by
        intro k' W' m' lo' dd' l6 l7 l8 kk' G' h1 h2
        have nx := law_loop hsn r1 (i + 7) (xi + 7) k' W' m' lo' dd' l6 l7 l8 kk' x7 (by omega) (by omega) G'
        have nx2 : aFn FL (kk.1 + (r1 + 1), kk.2 + 6 * (r1 + 1)) _ := aFn.mono nx (by show kk'.1 + r1 ≤ kk.1 + (r1 + 1); omega) (by show kk'.2 + 6 * r1 ≤ kk.2 + 6 * (r1 + 1); omega)
        refine aVn_fn (stop := fun p => p == 28) 30 ?_
        exact nx2
      refine aVn_fn (stop := fun p => p == 45) 30 ?_
      refine And.intro (fun q => absurd ((zsub7 hx (by omega) hsn).mp (cT q)) c) (fun _ => ?_)
      refine Exists.intro i (And.intro ix ?_)
      exact l_sw (l_call hx (by omega) hsn G ih) (ih k W m lo dd l6 l7 l8 kk G (by omega) (by omega))
end LP
