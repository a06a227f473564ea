/-! THE LAW: what is drawn -/
section DRL
set_option maxRecDepth 8000
variable {sn : Nat} {sf : Nat → Int32} {w v : aW} {l : List aW} {k : aW} {H E : aH} {d n0 i j m n p q a s g : Nat} {x y z c dn : Int32} {o2 o3 o4 o5 o6 : Option Int32} {P : aR → Prop}
noncomputable abbrev mFd (n0 d : Nat) : aS → Option (aS ⊕ aR) := mStep n0 (d + 9) (mRun (d + 9)) [] aB_L_drawn (some (.object "SaggarKiln"))
abbrev dS (pc : Nat) (H E : aH) (o2 o3 o4 o5 o6 : Option Int32) (st : List Value) (p q : Nat) : aS := (pc, [some (.ref 5), some (.ref 8), o2.map Value.int, o3.map Value.int, o4.map Value.int, o5.map Value.int, o6.map Value.int], st, H ++ E, (p, q))
theorem mls_d {st : List Value} (hs : st.all (mV1 252) = true) : mLs 252 [some (.ref 5), some (.ref 8), o2.map Value.int, o3.map Value.int, o4.map Value.int, o5.map Value.int, o6.map Value.int] st = true := by
  unfold mLs
  rw [Bool.and_eq_true]
  refine ⟨?_, hs⟩
  cases o2 <;> cases o3 <;> cases o4 <;> cases o5 <;> cases o6 <;> rfl
theorem cellD (O : OK sn sf w l k H) (hsn : sn < 100000) (hx : x = Int32.ofNat i) (hi : i < 100000) : ∃ v, mRun (d + 9) m_L_cell [.ref 5, .int x] (H ++ E) = some (.inl (some (.int v)), H ++ E, (0, 0)) :=
  L_cell (d := d + 8) ((ok_lo O (E := E) (q := 5) (by omega)).trans rfl) hsn hx hi
/-- a remainder -/
theorem rm_n {x m : Int32} {b : Nat} (hx : ∃ a, a < 2147483648 ∧ x = Int32.ofNat a) (hm : m = Int32.ofNat b) (hb : 0 < b) (hb2 : b < 1000) : ∃ r, r < b ∧ rm x m = Int32.ofNat r := by
  obtain ⟨a, ha, e⟩ := hx
  exact ⟨a % b, Nat.mod_lt _ hb, rem_n e hm ha (by omega)⟩
theorem sh_n (v : Int32) {s : Int32} {t : Nat} (hs : (s.toUInt32 &&& Int32.toUInt32 31).toNat = t) (h1 : 1 ≤ t) (h2 : t < 32) : ∃ a, a < 2147483648 ∧ sh v s = Int32.ofNat a := shr_n v s hs h1 h2
theorem r_lo {x : Int32} {a b : Nat} {y z : Int32} (hx : x = Int32.ofNat a) (hy : y = Int32.ofNat b) (hz : z = Int32.ofNat m) (h1 : b ≤ a) (h2 : a ≤ m) (h3 : m < 2000) : y ≤ x ∧ x ≤ z := ⟨(zI_le hy hx (by omega) (by omega)).mpr h1, (zI_le hx hz (by omega) (by omega)).mpr h2⟩
/-- the clay -/
theorem d_1 (O : OK sn sf w l k H) (hn : n0 ≤ 252 + E.length) (h0 : w 16 0 = 0) (hnw : nw w = 0) (hgw : gw w = 0) (how : ow w = 0) (hk : kB m (p, q)) (he : ∀ w l k H p q, OK sn sf w l k H → w 16 0 = Int32.ofNat 139 → nw w = 0 → DA w → kB (m + 2) (p, q) → mE (mFd n0 d) (dS 37 H E (some 0) (some 0) none none none [] p q) P) : mE (mFd n0 d) (dS 8 H E none none none none none [] p q) P := by
  have e1 : w 16 0 + 99 = 99 := by rw [h0]; decide
  obtain ⟨H1, kk, w1, l1, k1, hr, hb, O1, g0, g3, g4, g5⟩ := D_clay (E := E) (d := d + 2) (x := 99) O ⟨by decide, by decide⟩ (by rw [e1]; decide) (by rw [e1]; decide)
  rw [e1] at hr g0
  have e2 : w1 16 0 + 40 = 139 := by rw [g0]; decide
  obtain ⟨H2, kk2, w2, l2, k2, hr2, hb2, O2, f0, f3, f4, f5⟩ := D_clay (E := E) (d := d + 2) (x := 40) O1 ⟨by decide, by decide⟩ (by rw [e2]; decide) (by rw [e2]; decide)
  rw [e2] at hr2 f0
  have hl := ok_len O
  have hl1 := ok_len O1
  have nw2 : nw w2 = 0 := f3.trans (g3.trans hnw)
  have h37 := he w2 l2 k2 H2 (p + kk.1 + kk2.1) (q + kk.2 + kk2.2) O2 f0 nw2 ⟨f4.trans (g4.trans hgw), f5.trans (g5.trans how), fun j hj => by omega, fun j hj => by omega⟩ (by have := kB_a (kB_a hk hb) hb2; exact this)
  refine mVn_P (stop := fun p => p == 37) 60 ?_
  refine And.intro (mG2 hl hn (mls_d (o2 := none) (o3 := none) (o4 := none) (o5 := none) (o6 := none) rfl)) ?_
  refine Exists.intro _ (Exists.intro _ (Exists.intro _ (And.intro hr ?_)))
  refine And.intro (fun q => absurd rfl (cT q)) (fun _ => ?_)
  refine And.intro (mG2 hl1 hn (mls_d (o2 := none) (o3 := none) (o4 := none) (o5 := none) (o6 := none) rfl)) ?_
  refine Exists.intro _ (Exists.intro _ (Exists.intro _ (And.intro hr2 ?_)))
  refine And.intro (fun _ => ?_) (fun q => absurd rfl (cF q))
  exact h37
/-- the wares -/
theorem d_2 (hsn : sn < 100000) (hn : n0 ≤ 252 + E.length) (he : ∀ w l k H o4 o5 p q, OK sn sf w l k H → nw w ≤ 20 → DA w → kB (m + 5) (p, q) → mE (mFd n0 d) (dS 98 H E (some (Int32.ofNat (nw w))) (some 5) o4 o5 none [] p q) P) : ∀ (t i : Nat) (x : Int32) (w : aW) (l : List aW) (k : aW) (H : aH) (o4 o5 : Option Int32) (s p q : Nat), i + t = 5 → x = Int32.ofNat i → OK sn sf w l k H → w 16 0 = Int32.ofNat s → 139 ≤ s + 16 * i → s < 1000 → nw w ≤ 4 * i → DA w → kB (m + i) (p, q) → mE (mFd n0 d) (dS 37 H E (some (Int32.ofNat (nw w))) (some x) o4 o5 none [] p q) P
  | 0, i, x, w, l, k, H, o4, o5, s, p, q, hi, hx, O, hs, hs1, hs2, hw, hA, hk => by
    have ei : i = 5 := by omega
    subst ei
    have ex : x = 5 := hx
    subst ex
    have h98 := he w l k H o4 o5 p q O (by omega) hA hk
    refine mVn_P (stop := fun p => p == 98) 60 ?_
    refine And.intro (fun _ => ?_) (fun q => absurd q (by decide))
    exact h98
  | t + 1, i, x, w, l, k, H, o4, o5, s, p, q, hi, hx, O, hs, hs1, hs2, hw, hA, hk => by
    have hl := ok_len O
    obtain ⟨v, hv⟩ := cellD (E := E) (d := d) O hsn hx (by omega)
    obtain ⟨t1, ht1, et1⟩ := rm_n (x := sh (sh v 1) 2) (m := 4) (b := 4) (sh_n _ (t := 2) (by decide) (by omega) (by omega)) rfl (by omega) (by omega)
    obtain ⟨t2, ht2, et2⟩ := rm_n (x := sh v 1) (m := 4) (b := 4) (sh_n _ (t := 1) (by decide) (by omega) (by omega)) rfl (by omega) (by omega)
    obtain ⟨t3, ht3, et3⟩ := rm_n (x := sh (sh v 1) 5) (m := 31) (b := 31) (sh_n _ (t := 5) (by decide) (by omega) (by omega)) rfl (by omega) (by omega)
    have ec : 1 + rm (sh (sh v 1) 2) 4 = Int32.ofNat (1 + t1) := by
      rw [et1, Int32.ofNat_add]
      rfl
    have ez : 30 + rm (sh (sh v 1) 5) 31 = Int32.ofNat (30 + t3) := by
      rw [et3, Int32.ofNat_add]
      rfl
    have esum : Int32.ofNat (nw w) + (1 + rm (sh (sh v 1) 2) 4) = Int32.ofNat (nw w + (1 + t1)) := by
      rw [ec, ← Int32.ofNat_add]
    obtain ⟨H1, kk, w1, l1, k1, s1, hr, hb, O1, g0, g1, g2, g3, hA1⟩ := D_cast (E := E) (d := d + 2) (x := rm (sh v 1) 4) (y := 1 + rm (sh (sh v 1) 2) 4) (z := 30 + rm (sh (sh v 1) 5) 31) O (r_lo (m := 3) et2 (b := 0) rfl rfl (by omega) (by omega) (by omega)) ec (by omega) (r_lo (m := 60) ez (b := 30) rfl rfl (by omega) (by omega) (by omega)) (by omega) hs (by omega) hs2 hA
    have ih := d_2 hsn hn he t (i + 1) (x + 1) w1 l1 k1 H1 (some (sh v 1)) (some (1 + rm (sh (sh v 1) 2) 4)) s1 (p + kk.1) (q + kk.2) (by omega) (zI_s hx) O1 g0 (by omega) g2 (by omega) hA1 (by have := kB_a hk hb; exact this)
    rw [g3, ← esum] at ih
    refine mVn_P (stop := fun p => p == 37) 90 ?_
    refine And.intro (fun q => absurd (zgeT (n := 5) q hx rfl (by omega) (by omega)) (by omega)) (fun _ => ?_)
    refine And.intro (mG2 hl hn (mls_d (o2 := some _) (o3 := some _) (o6 := none) rfl)) ?_
    refine Exists.intro _ (Exists.intro _ (Exists.intro _ (And.intro hv ?_)))
    refine And.intro (by decide) ?_
    refine And.intro (by decide) ?_
    refine And.intro (by decide) ?_
    refine And.intro (mG2 hl hn (mls_d (o2 := some _) (o3 := some _) (o4 := some _) (o5 := some _) (o6 := none) rfl)) ?_
    refine Exists.intro _ (Exists.intro _ (Exists.intro _ (And.intro hr ?_)))
    refine And.intro (fun _ => ?_) (fun q => absurd esum.symm (cF q))
    exact ih
/-- the glazes -/
theorem d_3 (hsn : sn < 100000) (hn : n0 ≤ 252 + E.length) {n : Nat} (hn20 : n ≤ 20) {dn : Int32} (hdn : dn = Int32.ofNat n) (he : ∀ w l k H o4 p q, OK sn sf w l k H → nw w = n → DA w → kB (m + n) (p, q) → mE (mFd n0 d) (dS 154 H E (some dn) (some dn) o4 o5 none [] p q) P) : ∀ (t i : Nat) (x : Int32) (w : aW) (l : List aW) (k : aW) (H : aH) (o4 : Option Int32) (p q : Nat), i + t = n → x = Int32.ofNat i → OK sn sf w l k H → nw w = n → DA w → kB (m + i) (p, q) → mE (mFd n0 d) (dS 100 H E (some dn) (some x) o4 o5 none [] p q) P
  | 0, i, x, w, l, k, H, o4, p, q, hi, hx, O, hw, hA, hk => by
    have ei : i = n := by omega
    subst ei
    have ex : x = dn := hx.trans hdn.symm
    subst ex
    have h154 := he w l k H o4 p q O hw hA hk
    refine mVn_P (stop := fun p => p == 154) 60 ?_
    refine And.intro (fun _ => ?_) (fun q => absurd (zgeF q hx hx (by omega) (by omega)) (by omega))
    exact h154
  | t + 1, i, x, w, l, k, H, o4, p, q, hi, hx, O, hw, hA, hk => by
    have hl := ok_len O
    have e5 : 5 + x = Int32.ofNat (5 + i) := by
      rw [hx, Int32.ofNat_add]
      rfl
    obtain ⟨v, hv⟩ := cellD (E := E) (d := d) O hsn e5 (by omega)
    obtain ⟨t1, ht1, et1⟩ := rm_n (x := sh (sh v 1) 3) (m := 3) (b := 3) (sh_n _ (t := 3) (by decide) (by omega) (by omega)) rfl (by omega) (by omega)
    obtain ⟨t2, ht2, et2⟩ := rm_n (x := sh (sh v 1) 5) (m := 9) (b := 9) (sh_n _ (t := 5) (by decide) (by omega) (by omega)) rfl (by omega) (by omega)
    have ez : 1 + rm (sh (sh v 1) 5) 9 = Int32.ofNat (1 + t2) := by
      rw [et2, Int32.ofNat_add]
      rfl
    obtain ⟨r, H1, kk, w1, l1, k1, hr, hb, h0, O1, g3, hA1⟩ := D_glaze (E := E) (d := d + 2) (x := x) (y := rm (sh (sh v 1) 3) 3) (z := 1 + rm (sh (sh v 1) 5) 9) O hx (by omega) et1 (by omega) ez (by omega) hA
    have ih0 := d_3 hsn hn hn20 hdn he t (i + 1) (x + 1) w l k H (some (sh v 1)) p q (by omega) (zI_s hx) O hw hA (kB_le hk (by omega))
    have ih1 := d_3 hsn hn hn20 hdn he t (i + 1) (x + 1) w1 l1 k1 H1 (some (sh v 1)) (p + kk.1) (q + kk.2) (by omega) (zI_s hx) O1 (g3.trans hw) hA1 (by have := kB_a hk hb; exact this)
    refine mVn_P (stop := fun p => p == 100) 90 ?_
    refine And.intro (fun q => absurd (zgeT q hx hdn (by omega) (by omega)) (by omega)) (fun _ => ?_)
    refine And.intro (mG2 hl hn (mls_d (o2 := some _) (o3 := some _) (o6 := none) rfl)) ?_
    refine Exists.intro _ (Exists.intro _ (Exists.intro _ (And.intro hv ?_)))
    refine And.intro (by decide) ?_
    refine And.intro (fun _ => ?_) (fun _ => ?_)
    · exact ih0
    refine And.intro (by decide) ?_
    refine And.intro (by decide) ?_
    refine And.intro (mG2 hl hn (mls_d (o2 := some _) (o3 := some _) (o4 := some _) (o6 := none) rfl)) ?_
    refine Exists.intro _ (Exists.intro _ (Exists.intro _ (And.intro hr ?_)))
    refine And.intro (fun _ => ?_) (fun q => absurd h0 (cF q))
    exact ih1
/-- how many saggars -/
theorem d_4 (O : OK sn sf w l k H) (hsn : sn < 100000) (hn : n0 ≤ 252 + E.length) (he : ∀ s, 3 ≤ s → s ≤ 6 → mE (mFd n0 d) (dS 170 H E (some dn) (some (Int32.ofNat s)) (some 0) o5 none [] p q) P) : mE (mFd n0 d) (dS 154 H E (some dn) o3 o4 o5 none [] p q) P := by
  have hl := ok_len O
  obtain ⟨v, hv⟩ := cellD (E := E) (d := d) (x := 26) (i := 26) O hsn rfl (by omega)
  obtain ⟨t1, ht1, et1⟩ := rm_n (x := sh v 1) (m := 4) (b := 4) (sh_n _ (t := 1) (by decide) (by omega) (by omega)) rfl (by omega) (by omega)
  have e3 : 3 + rm (sh v 1) 4 = Int32.ofNat (3 + t1) := by
    rw [et1, Int32.ofNat_add]
    rfl
  have h170 := he (3 + t1) (by omega) (by omega)
  rw [← e3] at h170
  refine mVn_P (stop := fun p => p == 170) 60 ?_
  refine And.intro (mG2 hl hn (mls_d (o2 := some _) (o6 := none) rfl)) ?_
  refine Exists.intro _ (Exists.intro _ (Exists.intro _ (And.intro hv ?_)))
  refine And.intro (by decide) ?_
  exact h170
end DRL
