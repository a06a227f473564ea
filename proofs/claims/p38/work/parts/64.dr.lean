section DRM
set_option maxRecDepth 8000
variable {sn : Nat} {sf : Nat → Int32} {w v : aW} {l : List aW} {k : aW} {H E : aH} {d n0 i j m n p q a s g : Nat} {x y z c dn gs : Int32} {o2 o3 o4 o5 o6 : Option Int32} {P : aR → Prop}
/-- a saggar stood, or why not -/
theorem d_5b (O : OK sn sf w l k H) (hn : n0 ≤ 252 + E.length) (hx : x = Int32.ofNat i) (hi : i < gw w) (h8 : w 8 i = -1) (hy : y = -1 ∨ ∃ j, j < gw w ∧ ¬ j = i ∧ y = Int32.ofNat j) (D : DB w) (hk : kB m (p, q)) (he : ∀ w1 l k H p q, OK sn sf w1 l k H → gw w1 = gw w → nw w1 = nw w → (∀ j, j < 60 → w1 1 j = w 1 j) → DB w1 → kB (m + 1) (p, q) → mE (mFd n0 d) (dS 170 H E (some dn) (some gs) (some (x + 1)) (some c) none [] p q) P) (hc : ∃ a, a < 2147483648 ∧ sh c 4 = Int32.ofNat a) : mE (mFd n0 d) (dS 222 H E (some dn) (some gs) (some x) (some c) none [.int y, .int x, .ref 8] p q) P := by
  have hl := ok_len O
  obtain ⟨t1, ht1, et1⟩ := rm_n (x := sh c 4) (m := 4) (b := 4) hc rfl (by omega) (by omega)
  obtain ⟨r, H1, kk, w1, l1, k1, hr, hb, O1, eg, en, e1, D1, hw⟩ := D_stack (E := E) (d := d + 2) (x := x) (y := y) (z := rm (sh c 4) 4) O hx hi h8 hy (r_lo (m := 3) et1 (b := 0) rfl rfl (by omega) (by omega) (by omega)) D
  have hl1 := ok_len O1
  have h170 := he w1 l1 k1 H1 (p + kk.1) (q + kk.2) O1 eg en e1 D1 (by have := kB_a hk hb; exact this)
  rcases hw with h0 | ⟨h0, h7, h5, h6⟩
  · refine mVn_P (stop := fun p => p == 170) 60 ?_
    refine And.intro (by decide) ?_
    refine And.intro (mG2 hl hn (mls_d (o2 := some _) (o3 := some _) (o4 := some _) (o5 := some _) (o6 := none) rfl)) ?_
    refine Exists.intro _ (Exists.intro _ (Exists.intro _ (And.intro hr ?_)))
    refine And.intro (fun _ => ?_) (fun q => absurd h0 (cF q))
    exact h170
  · have rf := rf_00 (E := E) (d := d + 2) O1 h7 rfl
    refine mVn_P (stop := fun p => p == 170) 60 ?_
    refine And.intro (by decide) ?_
    refine And.intro (mG2 hl hn (mls_d (o2 := some _) (o3 := some _) (o4 := some _) (o5 := some _) (o6 := none) rfl)) ?_
    refine Exists.intro _ (Exists.intro _ (Exists.intro _ (And.intro hr ?_)))
    refine And.intro (fun q => absurd (cT q) (Int32.not_le.mpr h0)) (fun _ => ?_)
    refine And.intro (mG2 hl1 hn (mls_d (o2 := some _) (o3 := some _) (o4 := some _) (o5 := some _) (o6 := none) rfl)) ?_
    refine Exists.intro _ (Exists.intro _ (Exists.intro _ (And.intro rf ?_)))
    refine And.intro (fun q => absurd (cT q) (Int32.not_lt.mpr h5)) (fun _ => ?_)
    refine And.intro (mG2 hl1 hn (mls_d (o2 := some _) (o3 := some _) (o4 := some _) (o5 := some _) (o6 := none) rfl)) ?_
    refine Exists.intro _ (Exists.intro _ (Exists.intro _ (And.intro rf ?_)))
    refine And.intro (fun _ => ?_) (fun q => absurd h6 (cF q))
    exact h170
theorem d_5 (hsn : sn < 100000) (hn : n0 ≤ 252 + E.length) {n s : Nat} (hs6 : s ≤ 6) (hn20 : n ≤ 20) (hgs : gs = Int32.ofNat s) (he : ∀ w l k H o5 p q, OK sn sf w l k H → nw w = n → gw w = s → (∀ j, j < n → w 1 j = 0) → DB w → kB (m + 2 * s) (p, q) → mE (mFd n0 d) (dS 263 H E (some dn) (some gs) (some gs) o5 none [] p q) P) : ∀ (t i : Nat) (x : Int32) (w : aW) (l : List aW) (k : aW) (H : aH) (o5 : Option Int32) (p q : Nat), i + t = s → x = Int32.ofNat i → OK sn sf w l k H → nw w = n → gw w = i → (∀ j, j < n → w 1 j = 0) → DB w → kB (m + 2 * i) (p, q) → mE (mFd n0 d) (dS 170 H E (some dn) (some gs) (some x) o5 none [] p q) P
  | 0, i, x, w, l, k, H, o5, p, q, hi, hx, O, hw, hg, h1, D, hk => by
    have ei : i = s := by omega
    subst ei
    have ex : x = gs := hx.trans hgs.symm
    subst ex
    have h263 := he w l k H o5 p q O hw hg h1 D hk
    refine mVn_P (stop := fun p => p == 263) 60 ?_
    refine And.intro (fun _ => ?_) (fun q => absurd (zgeF q hx hx (by omega) (by omega)) (by omega))
    exact h263
  | t + 1, i, x, w, l, k, H, o5, p, q, hi, hx, O, hw, hg, h1, D, hk => by
    have hl := ok_len O
    have e27 : 27 + x = Int32.ofNat (27 + i) := by
      rw [hx, Int32.ofNat_add]
      rfl
    obtain ⟨v, hv⟩ := cellD (E := E) (d := d) O hsn e27 (by omega)
    obtain ⟨H1, kk, w1, l1, k1, hr, hb, O1, eg1, en1, e8, e1, D1⟩ := D_saggar (E := E) (d := d + 2) O (by omega) D
    have hl1 := ok_len O1
    have exg : Int32.ofNat (gw w) = x := by rw [hg, hx]
    have c4 := sh_n (sh v 1) (s := 4) (t := 4) (by decide) (by omega) (by omega)
    have go : ∀ y, (y = -1 ∨ ∃ j, j < gw w1 ∧ ¬ j = i ∧ y = Int32.ofNat j) → mE (mFd n0 d) (dS 222 H1 E (some dn) (some gs) (some x) (some (sh v 1)) none [.int y, .int x, .ref 8] (p + kk.1) (q + kk.2)) P := fun y hy => by
      refine d_5b O1 hn hx (by omega) (by rw [← hg]; exact e8) hy D1 (m := m + 2 * i + 1) (by have := kB_a hk hb; exact this) (fun w2 l2 k2 H2 p2 q2 O2 eg2 en2 e2 D2 hk2 => ?_) c4
      refine d_5 hsn hn hs6 hn20 hgs he t (i + 1) (x + 1) w2 l2 k2 H2 _ p2 q2 (by omega) (zI_s hx) O2 (by omega) (by omega) (fun j hj => ?_) D2 (kB_le hk2 (by omega))
      rw [e2 j (by omega), e1 j (by omega)]
      exact h1 j hj
    have h189 : mE (mFd n0 d) (dS 189 H E (some dn) (some gs) (some x) (some (sh v 1)) none [] p q) P := by
      by_cases i0 : i = 0
      · have x0 : x = 0 := by rw [hx, i0]; rfl
        have g1 := go (-1) (Or.inl rfl)
        refine mVn_P (stop := fun p => p == 222) 60 ?_
        refine And.intro (mG2 hl hn (mls_d (o2 := some _) (o3 := some _) (o4 := some _) (o5 := some _) (o6 := none) rfl)) ?_
        refine Exists.intro _ (Exists.intro _ (Exists.intro _ (And.intro hr ?_)))
        refine And.intro (fun q => absurd exg (cT q)) (fun _ => ?_)
        refine And.intro (fun _ => ?_) (fun q => absurd x0 (cF q))
        exact g1
      · have x0 : ¬ x = 0 := fun q => i0 (ofN_ne (by omega) (by omega) (hx.symm.trans q))
        obtain ⟨t3, ht3, et3⟩ := rm_n (x := sh v 1) (m := x) (b := i) (sh_n _ (t := 1) (by decide) (by omega) (by omega)) hx (by omega) (by omega)
        have g1 := go (-1) (Or.inl rfl)
        have g2 := go (rm (sh v 1) x) (Or.inr ⟨t3, by omega, by omega, et3⟩)
        refine mVn_P (stop := fun p => p == 222) 60 ?_
        refine And.intro (mG2 hl hn (mls_d (o2 := some _) (o3 := some _) (o4 := some _) (o5 := some _) (o6 := none) rfl)) ?_
        refine Exists.intro _ (Exists.intro _ (Exists.intro _ (And.intro hr ?_)))
        refine And.intro (fun q => absurd exg (cT q)) (fun _ => ?_)
        refine And.intro (fun q => absurd (cT q) x0) (fun _ => ?_)
        refine And.intro (by decide) ?_
        refine And.intro (fun _ => ?_) (fun _ => ?_)
        · refine And.intro x0 ?_
          exact g2
        · exact g1
    refine mVn_P (stop := fun p => p == 189) 60 ?_
    refine And.intro (fun q => absurd (zgeT q hx hgs (by omega) (by omega)) (by omega)) (fun _ => ?_)
    refine And.intro (mG2 hl hn (mls_d (o2 := some _) (o3 := some _) (o4 := some _) (o6 := none) rfl)) ?_
    refine Exists.intro _ (Exists.intro _ (Exists.intro _ (And.intro hv ?_)))
    exact h189
/-- the wares are put -/
theorem d_6 (hsn : sn < 100000) (hn : n0 ≤ 252 + E.length) {n s : Nat} (hs6 : s ≤ 6) (hs3 : 3 ≤ s) (hn20 : n ≤ 20) (hgs : gs = Int32.ofNat s) (hdn : dn = Int32.ofNat n) (he : ∀ w l k H o5 o6 p q, OK sn sf w l k H → gw w = s → DB w → kB (m + n) (p, q) → mE (mFd n0 d) (dS 331 H E (some dn) (some gs) (some dn) o5 o6 [] p q) P) : ∀ (t i : Nat) (x : Int32) (w : aW) (l : List aW) (k : aW) (H : aH) (o5 o6 : Option Int32) (p q : Nat), i + t = n → x = Int32.ofNat i → OK sn sf w l k H → nw w = n → gw w = s → (∀ j, i ≤ j → j < n → w 1 j = 0) → DB w → kB (m + i) (p, q) → mE (mFd n0 d) (dS 266 H E (some dn) (some gs) (some x) o5 o6 [] p q) P
  | 0, i, x, w, l, k, H, o5, o6, p, q, hi, hx, O, hw, hg, h1, D, hk => by
    have ei : i = n := by omega
    subst ei
    have ex : x = dn := hx.trans hdn.symm
    subst ex
    have h331 := he w l k H o5 o6 p q O hg D hk
    refine mVn_P (stop := fun p => p == 331) 60 ?_
    refine And.intro (fun _ => ?_) (fun q => absurd (zgeF q hx hx (by omega) (by omega)) (by omega))
    exact h331
  | t + 1, i, x, w, l, k, H, o5, o6, p, q, hi, hx, O, hw, hg, h1, D, hk => by
    have hl := ok_len O
    have e6 : 6 + x = Int32.ofNat (6 + i) := by
      rw [hx, Int32.ofNat_add]
      rfl
    have g0 : ¬ gs = 0 := fun q => by
      have := ofN_ne (i := s) (j := 0) (by omega) (by omega) (hgs.symm.trans q)
      omega
    obtain ⟨v, hv⟩ := cellD (E := E) (d := d) O hsn e6 (by omega)
    obtain ⟨t1, ht1, et1⟩ := rm_n (x := sh v 2) (m := gs) (b := s) (sh_n _ (t := 2) (by decide) (by omega) (by omega)) hgs (by omega) (by omega)
    obtain ⟨r, H1, kk, w1, l1, k1, hr, hb, O1, eg, en, e1, D1, hwy⟩ := D_put (E := E) (d := d + 2) (x := x) (y := rm (sh v 2) gs) O hx (by omega) (h1 i (Nat.le_refl i) (by omega)) et1 (by omega) D
    have hl1 := ok_len O1
    have ih := d_6 hsn hn hs6 hs3 hn20 hgs hdn he t (i + 1) (x + 1) w1 l1 k1 H1 (some (sh v 2)) (some r) (p + kk.1) (q + kk.2) (by omega) (zI_s hx) O1 (en.trans hw) (eg.trans hg) (fun j hj hjn => by rw [e1 j (by omega) (by omega)]; exact h1 j (by omega) hjn) D1 (by have := kB_a hk hb; exact this)
    have h297 : mE (mFd n0 d) (dS 297 H1 E (some dn) (some gs) (some x) (some (sh v 2)) (some r) [] (p + kk.1) (q + kk.2)) P := by
      rcases hwy with h0 | ⟨h0, h7, h47⟩
      · refine mVn_P (stop := fun p => p == 266) 60 ?_
        refine And.intro (fun _ => ?_) (fun q => absurd h0 (cF q))
        exact ih
      · have rf := rf_00 (E := E) (d := d + 2) O1 h7 rfl
        rcases h47 with h4 | h4
        · refine mVn_P (stop := fun p => p == 266) 60 ?_
          refine And.intro (fun q => absurd (cT q) (Int32.not_le.mpr h0)) (fun _ => ?_)
          refine And.intro (mG2 hl1 hn (mls_d (o2 := some _) (o3 := some _) (o4 := some _) (o5 := some _) (o6 := some _) rfl)) ?_
          refine Exists.intro _ (Exists.intro _ (Exists.intro _ (And.intro rf ?_)))
          refine And.intro (fun _ => ?_) (fun q => absurd h4 (cF q))
          exact ih
        · refine mVn_P (stop := fun p => p == 266) 60 ?_
          refine And.intro (fun q => absurd (cT q) (Int32.not_le.mpr h0)) (fun _ => ?_)
          refine And.intro (mG2 hl1 hn (mls_d (o2 := some _) (o3 := some _) (o4 := some _) (o5 := some _) (o6 := some _) rfl)) ?_
          refine Exists.intro _ (Exists.intro _ (Exists.intro _ (And.intro rf ?_)))
          refine And.intro (fun q => absurd (h4.symm.trans (cT q)) (by decide)) (fun _ => ?_)
          refine And.intro (mG2 hl1 hn (mls_d (o2 := some _) (o3 := some _) (o4 := some _) (o5 := some _) (o6 := some _) rfl)) ?_
          refine Exists.intro _ (Exists.intro _ (Exists.intro _ (And.intro rf ?_)))
          refine And.intro (fun _ => ?_) (fun q => absurd h4 (cF q))
          exact ih
    refine mVn_P (stop := fun p => p == 297) 60 ?_
    refine And.intro (fun q => absurd (zgeT q hx hdn (by omega) (by omega)) (by omega)) (fun _ => ?_)
    refine And.intro (mG2 hl hn (mls_d (o2 := some _) (o3 := some _) (o4 := some _) rfl)) ?_
    refine Exists.intro _ (Exists.intro _ (Exists.intro _ (And.intro hv ?_)))
    refine And.intro g0 ?_
    refine And.intro (mG2 hl hn (mls_d (o2 := some _) (o3 := some _) (o4 := some _) (o5 := some _) rfl)) ?_
    refine Exists.intro _ (Exists.intro _ (Exists.intro _ (And.intro hr ?_)))
    exact h297
end DRM
