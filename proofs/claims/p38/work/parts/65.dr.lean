section DRN
set_option maxRecDepth 8000
variable {sn : Nat} {sf : Nat → Int32} {w v : aW} {l : List aW} {k : aW} {H E : aH} {d n0 i j m n p q a s g : Nat} {x y z c dn gs dd best : Int32} {o2 o3 o4 o5 o6 : Option Int32} {P : aR → Prop}
/-- a firing -/
theorem d_7b (O : OK sn sf w l k H) (hn : n0 ≤ 252 + E.length) (hY : y = Int32.ofNat a) (h1 : 1000 ≤ a) (h2 : a ≤ 1400) (D : DB w) (hb : (wAny w (nw w) = 0 ∧ best = -1) ∨ (¬ wAny w (nw w) = 0 ∧ 0 ≤ best)) (hk : kB m (p, q)) (he : ∀ w1 l k H p q, OK sn sf w1 l k H → gw w1 = gw w → DB w1 → kB (m + 1) (p, q) → mE (mFd n0 d) (dS 416 H E (some dn) (some gs) (some dd) (some best) o6 [] p q) P) : mE (mFd n0 d) (dS 390 H E (some dn) (some gs) (some dd) (some best) o6 [.int y, .ref 8] p q) P := by
  have hl := ok_len O
  obtain ⟨r, H1, kk, w1, l1, k1, hr, hb1, O1, eg, en, D1, hw⟩ := D_fire (E := E) (d := d + 2) (x := y) O hY h1 h2 D
  have h416 := he w1 l1 k1 H1 (p + kk.1) (q + kk.2) O1 eg D1 (by have := kB_a hk hb1; exact this)
  rcases hw with ⟨h0, ha⟩ | ⟨h0, ha⟩
  · rcases hb with ⟨hz, -⟩ | ⟨-, hb0⟩
    · exact absurd hz ha
    · refine mVn_P (stop := fun p => p == 416) 60 ?_
      refine And.intro (mG2 hl hn (mls_d (o2 := some _) (o3 := some _) (o4 := some _) (o5 := some _) rfl)) ?_
      refine Exists.intro _ (Exists.intro _ (Exists.intro _ (And.intro hr ?_)))
      refine And.intro (fun _ => ?_) (fun q => absurd h0 (cF q))
      refine And.intro (fun _ => ?_) (fun q => absurd hb0 (cF q))
      refine And.intro (fun _ => ?_) (fun q => absurd rfl (cF q))
      exact h416
  · rcases hb with ⟨-, hb0⟩ | ⟨hz, -⟩
    · subst hb0
      refine mVn_P (stop := fun p => p == 416) 60 ?_
      refine And.intro (mG2 hl hn (mls_d (o2 := some _) (o3 := some _) (o4 := some _) (o5 := some _) rfl)) ?_
      refine Exists.intro _ (Exists.intro _ (Exists.intro _ (And.intro hr ?_)))
      refine And.intro (fun q => absurd (cT q) (Int32.not_le.mpr h0)) (fun _ => ?_)
      refine And.intro (fun q => absurd q (by decide)) (fun _ => ?_)
      refine And.intro (fun _ => ?_) (fun q => absurd rfl (cF q))
      exact h416
    · exact absurd ha hz
theorem d_7 (O : OK sn sf w l k H) (hsn : sn < 100000) (hn : n0 ≤ 252 + E.length) (D : DB w) (hk : kB m (p, q)) (he : ∀ v best w1 l k H p q, OK sn sf w1 l k H → gw w1 = gw w → DB w1 → kB (m + 4) (p, q) → mE (mFd n0 d) (dS 416 H E (some dn) (some gs) (some (sh v 1)) (some best) o6 [] p q) P) : mE (mFd n0 d) (dS 331 H E (some dn) (some gs) o4 o5 o6 [] p q) P := by
  have hok : wOk w (nw w) (gw w) (ow w) := ok_okk O
  have hle := hok.1.2.1
  have hl := ok_len O
  obtain ⟨v, hv⟩ := cellD (E := E) (d := d) (x := 33) (i := 33) O hsn rfl (by omega)
  have best1 : ∃ best kk, mRun (d + 2 + 7) m_L_best [.ref 8, .int 1] (H ++ E) = some (.inl (some (.int best)), H ++ E, kk) ∧ kB 1 kk ∧ ((wAny w (nw w) = 0 ∧ best = -1) ∨ (¬ wAny w (nw w) = 0 ∧ 0 ≤ best)) := by
    by_cases ha : wAny w (nw w) = 0
    · exact ⟨-1, (1, 6), V_bestNo (E := E) (d := d + 2) (x := 1) O ha, ⟨by decide, by decide⟩, Or.inl ⟨ha, rfl⟩⟩
    · have hb := V_best (E := E) (d := d + 2) (x := 1) O ha
      rw [if_neg (by decide)] at hb
      exact ⟨_, (0, 0), hb, ⟨by decide, by decide⟩, Or.inr ⟨ha, Int32.le_trans (wFirsts_0 w (nw w) (Int32.ofNat (1000 + 10 * 0)) (by omega)) (bst_max w (nw w) 41 0 (by omega))⟩⟩
  have best0 : ∃ b0 kk, mRun (d + 2 + 7) m_L_best [.ref 8, .int 0] (H ++ E) = some (.inl (some (.int b0)), H ++ E, kk) ∧ kB 1 kk ∧ ∃ a, 1000 ≤ a ∧ a ≤ 1400 ∧ (if 1000 < b0 then b0 else 1000) = Int32.ofNat a := by
    by_cases ha : wAny w (nw w) = 0
    · exact ⟨-1, (1, 6), V_bestNo (E := E) (d := d + 2) (x := 0) O ha, ⟨by decide, by decide⟩, 1000, by omega, by omega, by decide⟩
    · have hb := V_best (E := E) (d := d + 2) (x := 0) O ha
      rw [if_pos rfl] at hb
      obtain ⟨-, t, ht, et⟩ := bst_at w (nw w) (by omega) 40
      exact ⟨_, (0, 0), hb, ⟨by decide, by decide⟩, 1000 + 10 * t, by omega, by omega, (mx_of et (by omega) (by omega)).trans et⟩
  obtain ⟨best, kk1, hb1, hkb1, hbest⟩ := best1
  obtain ⟨b0, kk0, hb0, hkb0, a0, ha1, ha2, ea0⟩ := best0
  have hk1 : kB (m + 1) (p + kk1.1, q + kk1.2) := kB_a hk hkb1
  have hk2 : kB (m + 1 + 1) (p + kk1.1 + kk0.1, q + kk1.2 + kk0.2) := kB_a hk1 hkb0
  have h416 := he v best w l k H (p + kk1.1) (q + kk1.2) O rfl D (kB_le hk1 (by omega))
  obtain ⟨t1, ht1, et1⟩ := rm_n (x := sh (sh v 1) 3) (m := 401) (b := 401) (sh_n _ (t := 3) (by decide) (by omega) (by omega)) rfl (by omega) (by omega)
  have eY : 1000 + rm (sh (sh v 1) 3) 401 = Int32.ofNat (1000 + t1) := by
    rw [et1, Int32.ofNat_add]
    rfl
  have f1 := d_7b (E := E) (d := d) (dn := dn) (gs := gs) (dd := sh v 1) (o6 := o6) (P := P) O hn eY (by omega) (by omega) D hbest hk1 (fun w1 l k H p q O1 eg D1 hk => he v best w1 l k H p q O1 eg D1 (kB_le hk (by omega)))
  have f2 := d_7b (E := E) (d := d) (dn := dn) (gs := gs) (dd := sh v 1) (o6 := o6) (P := P) (y := Int32.ofNat a0) O hn rfl ha1 ha2 D hbest hk2 (fun w1 l k H p q O1 eg D1 hk => he v best w1 l k H p q O1 eg D1 (kB_le hk (by omega)))
  refine mVn_P (stop := fun p => p == 390 || p == 416) 90 ?_
  refine And.intro (mG2 hl hn (mls_d (o2 := some _) (o3 := some _) rfl)) ?_
  refine Exists.intro _ (Exists.intro _ (Exists.intro _ (And.intro hv ?_)))
  refine And.intro (mG2 hl hn (mls_d (o2 := some _) (o3 := some _) (o4 := some _) rfl)) ?_
  refine Exists.intro _ (Exists.intro _ (Exists.intro _ (And.intro hb1 ?_)))
  refine And.intro (by decide) ?_
  refine And.intro (fun _ => ?_) (fun _ => ?_)
  · exact h416
  refine And.intro (by decide) ?_
  refine And.intro (fun _ => ?_) (fun _ => ?_)
  · refine And.intro (mG2 hl hn (mls_d (o2 := some _) (o3 := some _) (o4 := some _) (o5 := some _) rfl)) ?_
    refine Exists.intro _ (Exists.intro _ (Exists.intro _ (And.intro hb0 ?_)))
    refine Exists.intro _ (And.intro (aNat_mx (by exact Nat.le_of_ble_eq_true rfl) ea0) ?_)
    exact f2
  · refine And.intro (by decide) ?_
    exact f1
/-- saggars emptied -/
theorem d_8 (hn : n0 ≤ 252 + E.length) {s : Nat} (hs6 : s ≤ 6) (hgs : gs = Int32.ofNat s) (he : ∀ w l k H o6 p q, OK sn sf w l k H → DB w → kB (m + s) (p, q) → mE (mFd n0 d) (dS 466 H E (some dn) (some gs) (some dd) (some best) o6 [] p q) P) : ∀ (t i : Nat) (x : Int32) (w : aW) (l : List aW) (k : aW) (H : aH) (p q : Nat), i + t = s → x = Int32.ofNat i → OK sn sf w l k H → gw w = s → DB w → kB (m + i) (p, q) → mE (mFd n0 d) (dS 419 H E (some dn) (some gs) (some dd) (some best) (some x) [] p q) P
  | 0, i, x, w, l, k, H, p, q, hi, hx, O, hg, D, hk => by
    have ei : i = s := by omega
    subst ei
    have h466 := he w l k H (some x) p q O D hk
    refine mVn_P (stop := fun p => p == 466) 60 ?_
    refine And.intro (fun _ => ?_) (fun q => absurd (zgeF q hx hgs (by omega) (by omega)) (by omega))
    exact h466
  | t + 1, i, x, w, l, k, H, p, q, hi, hx, O, hg, D, hk => by
    have hl := ok_len O
    obtain ⟨r, H1, kk, w1, l1, k1, hr, hb, O1, eg, en, D1, hw⟩ := D_empty (E := E) (d := d + 2) (x := x) O hx (by omega) D
    have hl1 := ok_len O1
    have ih0 := d_8 hn hs6 hgs he t (i + 1) (x + 1) w l k H p q (by omega) (zI_s hx) O hg D (kB_le hk (by omega))
    have ih1 := d_8 hn hs6 hgs he t (i + 1) (x + 1) w1 l1 k1 H1 (p + kk.1) (q + kk.2) (by omega) (zI_s hx) O1 (eg.trans hg) D1 (by have := kB_a hk hb; exact this)
    have h0 : mE (mFd n0 d) (dS 460 H E (some dn) (some gs) (some dd) (some best) (some x) [] p q) P := by
      refine mVn_P (stop := fun p => p == 419) 60 ?_
      exact ih0
    have h1 : mE (mFd n0 d) (dS 460 H1 E (some dn) (some gs) (some dd) (some best) (some x) [] (p + kk.1) (q + kk.2)) P := by
      refine mVn_P (stop := fun p => p == 419) 60 ?_
      exact ih1
    have vo : wSag w1 (nw w1) (gw w1) (Int32.ofNat i) 6 = wIn w1 (nw w1) x := by rw [hx]; rfl
    have hof := V_of (E := E) (d := d + 2) (x := x) (y := 6) (v := wIn w1 (nw w1) x) O1 hx (by omega) ⟨by decide, by decide⟩ vo
    rcases hw with hr0 | ⟨hr0, hin⟩
    · refine mVn_P (stop := fun p => p == 460) 60 ?_
      refine And.intro (fun q => absurd (zgeT q hx hgs (by omega) (by omega)) (by omega)) (fun _ => ?_)
      refine And.intro (by decide) ?_
      refine And.intro (fun _ => ?_) (fun _ => ?_)
      · exact h0
      refine And.intro (mG2 hl hn (mls_d (o2 := some _) (o3 := some _) (o4 := some _) (o5 := some _) (o6 := some _) rfl)) ?_
      refine Exists.intro _ (Exists.intro _ (Exists.intro _ (And.intro hr ?_)))
      refine And.intro (fun _ => ?_) (fun q => absurd hr0 (cF q))
      exact h1
    · refine mVn_P (stop := fun p => p == 460) 60 ?_
      refine And.intro (fun q => absurd (zgeT q hx hgs (by omega) (by omega)) (by omega)) (fun _ => ?_)
      refine And.intro (by decide) ?_
      refine And.intro (fun _ => ?_) (fun _ => ?_)
      · exact h0
      refine And.intro (mG2 hl hn (mls_d (o2 := some _) (o3 := some _) (o4 := some _) (o5 := some _) (o6 := some _) rfl)) ?_
      refine Exists.intro _ (Exists.intro _ (Exists.intro _ (And.intro hr ?_)))
      refine And.intro (fun q => absurd (cT q) (Int32.not_le.mpr hr0)) (fun _ => ?_)
      refine And.intro (mG2 hl1 hn (mls_d (o2 := some _) (o3 := some _) (o4 := some _) (o5 := some _) (o6 := some _) rfl)) ?_
      refine Exists.intro _ (Exists.intro _ (Exists.intro _ (And.intro hof ?_)))
      refine And.intro (fun _ => ?_) (fun q => absurd hin (cF q))
      exact h1
/-- two orders -/
theorem d_9 (O : OK sn sf w l k H) (hn : n0 ≤ 252 + E.length) (D : DB w) {v : Int32} (hk : kB m (p, q)) (he : ∀ w l k H p q, OK sn sf w l k H → Gt w → Lx w → ow w = 2 → (∀ i, i < 2 → w 12 i = 0) → kB (m + 2) (p, q) → P (.inl (some (.ref 8)), H ++ E, (p, q))) : mE (mFd n0 d) (dS 466 H E (some dn) (some gs) (some (sh v 1)) o5 o6 [] p q) P := by
  have hl := ok_len O
  obtain ⟨t1, ht1, et1⟩ := rm_n (x := sh v 1) (m := 3) (b := 3) (sh_n _ (t := 1) (by decide) (by omega) (by omega)) rfl (by omega) (by omega)
  obtain ⟨t2, ht2, et2⟩ := rm_n (x := sh (sh v 1) 4) (m := 3) (b := 3) (sh_n _ (t := 4) (by decide) (by omega) (by omega)) rfl (by omega) (by omega)
  obtain ⟨t3, ht3, et3⟩ := rm_n (x := sh (sh v 1) 6) (m := 2) (b := 2) (sh_n _ (t := 6) (by decide) (by omega) (by omega)) rfl (by omega) (by omega)
  obtain ⟨t4, ht4, et4⟩ := rm_n (x := sh (sh v 1) 7) (m := 2) (b := 2) (sh_n _ (t := 7) (by decide) (by omega) (by omega)) rfl (by omega) (by omega)
  obtain ⟨t5, ht5, et5⟩ := rm_n (x := sh (sh v 1) 8) (m := 3) (b := 3) (sh_n _ (t := 8) (by decide) (by omega) (by omega)) rfl (by omega) (by omega)
  have s1 : ¬ rm (sh v 1) 3 + 1 + 0 + 0 = 0 := by
    rw [et1]
    have : ∀ t : Fin 3, ¬ Int32.ofNat t.val + 1 + 0 + 0 = 0 := by decide
    exact this ⟨t1, ht1⟩
  have s2 : ¬ (1 : Int32) + 0 + rm (sh (sh v 1) 6) 2 + rm (sh (sh v 1) 7) 2 = 0 := by
    rw [et3, et4]
    have : ∀ t u : Fin 2, ¬ (1 : Int32) + 0 + Int32.ofNat t.val + Int32.ofNat u.val = 0 := by decide
    exact this ⟨t3, ht3⟩ ⟨t4, ht4⟩
  obtain ⟨H1, kk, w1, l1, k1, hr, hb, O1, eo, G1, L1, e12, -⟩ := D_order (E := E) (d := d + 2) (x := rm (sh v 1) 3) (y0 := 1) (y1 := 0) (y2 := 0) (y := rm (sh (sh v 1) 4) 3) (z := 1) O ⟨r_lo (m := 6) et1 (b := 0) rfl rfl (by omega) (by omega) (by omega), by decide, by decide, by decide, r_lo (m := 3) et2 (b := 0) rfl rfl (by omega) (by omega) (by omega), s1⟩ (by rw [D.2.2]; omega) D.1 D.2.1
  have o1 : ow w1 = 1 := by rw [eo, D.2.2]
  obtain ⟨H2, kk2, w2, l2, k2, hr2, hb2, O2, eo2, G2, L2, e12b, e12c⟩ := D_order (E := E) (d := d + 2) (x := 1) (y0 := 0) (y1 := rm (sh (sh v 1) 6) 2) (y2 := rm (sh (sh v 1) 7) 2) (y := rm (sh (sh v 1) 8) 3) (z := 0) O1 ⟨by decide, by decide, r_lo (m := 6) et3 (b := 0) rfl rfl (by omega) (by omega) (by omega), r_lo (m := 6) et4 (b := 0) rfl rfl (by omega) (by omega) (by omega), r_lo (m := 3) et5 (b := 0) rfl rfl (by omega) (by omega) (by omega), s2⟩ (by rw [o1]; omega) G1 L1
  rw [D.2.2] at hr e12
  rw [o1] at hr2 e12b e12c
  have hl1 := ok_len O1
  have hp := he w2 l2 k2 H2 (p + kk.1 + kk2.1) (q + kk.2 + kk2.2) O2 G2 L2 (by rw [eo2, o1]) (fun i hi => by
    by_cases c : i = 1
    · rw [c]
      exact e12b
    · rw [e12c i (by omega), show i = 0 by omega]
      exact e12) (by have := kB_a (kB_a hk hb) hb2; exact this)
  refine mVn_P (stop := fun p => false) 90 ?_
  refine And.intro (by decide) ?_
  refine And.intro (by decide) ?_
  refine And.intro (mG2 hl hn (mls_d (o2 := some _) (o3 := some _) (o4 := some _) rfl)) ?_
  refine Exists.intro _ (Exists.intro _ (Exists.intro _ (And.intro hr ?_)))
  refine And.intro (fun q => absurd (rfl : Int32.ofNat 0 = 0) (cT q)) (fun _ => ?_)
  refine And.intro (by decide) ?_
  refine And.intro (by decide) ?_
  refine And.intro (by decide) ?_
  refine And.intro (mG2 hl1 hn (mls_d (o2 := some _) (o3 := some _) (o4 := some _) rfl)) ?_
  refine Exists.intro _ (Exists.intro _ (Exists.intro _ (And.intro hr2 ?_)))
  refine And.intro (fun _ => ?_) (fun q => absurd (rfl : Int32.ofNat 1 = 1) (cF q))
  exact hp
end DRN
