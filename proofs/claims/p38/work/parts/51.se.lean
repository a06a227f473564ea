/-! THE LAW: sales -/
section SLS
variable {sn : Nat} {sf : Nat → Int32} {w v : aW} {l : List aW} {k : aW} {H E : aH} {d n0 i m p q : Nat} {x a s z : Int32} {P : aR → Prop} {o2 o3 o4 o5 o6 : Option Int32}
noncomputable abbrev mFz (n0 d : Nat) : aS → Option (aS ⊕ aR) := mStep n0 (d + 7) (mRun (d + 7)) [] aB_L_sells (some .boolean)
abbrev zS (pc : Nat) (H E : aH) (x : Int32) (o2 o3 o4 o5 o6 : Option Int32) (p q : Nat) : aS := (pc, [some (.ref 8), some (.int x), o2.map Value.int, o3.map Value.int, o4.map Value.int, o5.map Value.int, o6.map Value.int], [], H ++ E, (p, q))
theorem mls_z {st : List Value} (hs : st.all (mV1 252) = true) : mLs 252 [some (.ref 8), some (.int x), o2.map Value.int, o3.map Value.int, o4.map Value.int, o5.map Value.int, o6.map Value.int] st = true := by
  unfold mLs
  rw [Bool.and_eq_true]
  refine ⟨?_, hs⟩
  cases o2 <;> cases o3 <;> cases o4 <;> cases o5 <;> cases o6 <;> rfl
/-- how many sets, by two ways; what was sold before -/
theorem l_sl1 (O : OK sn sf w l k H) (hn : n0 ≤ 252 + E.length) (hx : x = Int32.ofNat i) (hi : i < 2) (h2 : ow w = 2) (hk : kB m (p, q)) (he : ∀ H1 p q, OK sn sf w l k H1 → kB m (p, q) → mE (mFz n0 d) (zS 45 H1 E x (some (Int32.ofNat (nDv w (nw w) i 4))) (some 0) (some (Int32.ofNat (nS4 w (nw w)))) (some 0) (some 0) p q) P) : mE (mFz n0 d) (zS 2 H E x o2 o3 o4 o5 o6 p q) P := by
  have hok : wOk w (nw w) (gw w) (ow w) := ok_okk O
  have hl := ok_len O
  have hio : i < ow w := by omega
  obtain ⟨H1, wd, hs0, O1⟩ := V_sets (E := E) (d := d) O hx hio
  have hl1 := ok_len O1
  have oku : wOk (cpW w wd) (nw w) (gw w) (ow w) := wOk_same (cpW_same w wd) hok
  rw [all_dv oku hio, dv_same (cpW_same w wd) hok.1.2.1 (by omega) 4 (Nat.le_refl _)] at hs0
  have hs1 := V_setsAgain (E := E) (d := d) O1 hx hio
  rw [all_dv hok hio] at hs1
  obtain ⟨fs, h8⟩ := ok_8 O1 (E := E)
  have ha := C_account (E := E) (d := d + 1) (x := 5) O1 ⟨by decide, by decide⟩ (acc_5 hok.A _ _)
  have hd := nDv_le (w := w) (n := nw w) (i := i) 4
  have h45 := he H1 p q O1 hk
  refine mVn_P (stop := fun p => p == 45) 60 ?_
  refine And.intro (fun c => absurd (zgeT (n := 2) c hx rfl (by omega) (by omega)) (by omega)) (fun _ => ?_)
  refine And.intro (mG2 hl hn (mls_z rfl)) ?_
  refine Exists.intro _ (Exists.intro _ (Exists.intro _ (And.intro hs0 ?_)))
  refine And.intro (mG2 hl1 hn (mls_z (o2 := some _) rfl)) ?_
  refine Exists.intro _ (Exists.intro _ (Exists.intro _ (And.intro hs1 ?_)))
  refine And.intro (fun c => absurd rfl (cT c)) (fun _ => ?_)
  refine And.intro (fun _ => ?_) (fun c => absurd (Int32.not_lt.mp (ofN_lt0 (by omega))) (cF c))
  refine And.intro ⟨by decide, fs, h8⟩ ?_
  refine Exists.intro _ (And.intro ha ?_)
  exact h45
/-- the order's size -/
theorem l_sl2 (O : OK sn sf w l k H) (hx : x = Int32.ofNat i) (hi : i < 2) (h2 : ow w = 2) (he : mE (mFz n0 d) (zS 69 H E x (some a) (some 0) (some s) (some (Int32.ofNat (nSz w i))) (some 4) p q) P) : mE (mFz n0 d) (zS 45 H E x (some a) (some 0) (some s) (some 0) (some 0) p q) P := by
  have hok : wOk w (nw w) (gw w) (ow w) := ok_okk O
  have hio : i < ow w := by omega
  obtain ⟨fs, h8⟩ := ok_8 O (E := E)
  refine k_inv0 (S := fun (u : Int32) y => zS 45 H E x (some a) (some 0) (some s) (some u) (some y) p q) (Inv := fun c u => u = aFo (fun c (u : Int32) => u + w 13 (i * 4 + c)) c 0 0) (n := 4) (u := 0) rfl (fun c y u hc hy hu ih => ?_) (fun y u hy hu => ?_)
  · have hv : wOf w i y = w 13 (i * 4 + c) := by
      have : ∀ c : Fin 4, ¬ Int32.ofNat c.val = 4 ∧ ¬ Int32.ofNat c.val = 5 ∧ ¬ Int32.ofNat c.val = 6 := by decide
      obtain ⟨n4, n5, n6⟩ := this ⟨c, hc⟩
      unfold wOf
      rw [hy, if_neg n4, if_neg n5, if_neg n6, zn_of rfl (by omega)]
    have y0 : 0 ≤ y ∧ y ≤ 6 := ⟨(zI_le (x := 0) (i := 0) rfl hy (by omega) (by omega)).mpr (by omega), (zI_le (y := 6) (n := 6) hy rfl (by omega) (by omega)).mpr (by omega)⟩
    have hc1 := C_orderOf (E := E) (d := d + 1) (x := x) (y := y) O hx hio y0 hv
    have ih2 := ih (u + w 13 (i * 4 + c)) (by rw [aFo_succ, ← hu, Nat.zero_add])
    show mE (mFz n0 d) (zS 45 H E x (some a) (some 0) (some s) (some u) (some y) p q) P
    refine mVn_P (stop := fun p => p == 45) 60 ?_
    refine And.intro (fun c => absurd (zgeT (n := 4) c hy rfl (by omega) (by omega)) (by omega)) (fun _ => ?_)
    refine And.intro ⟨by decide, fs, h8⟩ ?_
    refine Exists.intro _ (And.intro hc1 ?_)
    exact ih2
  · have e : u = Int32.ofNat (nSz w i) := hu.trans (sz_4 hok.A hio)
    subst e
    have e4 : y = 4 := hy
    subst e4
    refine mVn_P (stop := fun p => p == 69) 60 ?_
    refine And.intro (fun _ => ?_) (fun c => absurd c (by decide))
    exact he
/-- a set sold -/
theorem sell_go (O : OK sn sf v l k H) (hx : x = Int32.ofNat i) (hi : i < 2) (h2 : ow w = 2) (S : SI w v (nw w) i m) (h : m < nDv w (nw w) i 4) : ∃ H1 kk v1 k1, mRun (d + 7) m_L_sell [.ref 8, .int x] (H ++ E) = some (.inl (some (.int (Int32.ofNat (m + 1)))), H1 ++ E, kk) ∧ kB 1 kk ∧ OK sn sf v1 ((v :: l).take 8) k1 H1 ∧ SI w v1 (nw w) i (m + 1) := by
  have okv : wOk v (nw v) (gw v) (ow v) := ok_okk O
  have en : nw v = nw w := congrArg zn S.1
  have eo : ow v = 2 := (congrArg zn S.2.2.1).trans h2
  obtain ⟨v', H1, kk, hr, hb, wd, hres⟩ := L_sell (E := E) (d := d) (x := x) O
  have e5 : v 16 5 = Int32.ofNat 2 := by rw [← eo]; exact okv.1.2.2.2.2.1
  rw [en] at okv
  have hd := nDv_le (w := w) (n := nw w) (i := i) 4
  obtain ⟨hlk, S1, e12⟩ := sl_go okv (show i < ow v by omega) (cpW_same v wd) S h
  have hxr : 0 ≤ x ∧ x < cpW v wd 16 5 := ⟨(zI_le (x := 0) (i := 0) rfl hx (by omega) (by omega)).mpr (by omega), (zI_lt hx ((cpW_same v wd 16 5 (rg16 (by omega))).trans e5) (by omega) (by omega)).mpr hi⟩
  have hf : fSell (cpW v wd) (nw v) x = (wTake (nw w) i (cpW v wd) 12 i, wTake (nw w) i (cpW v wd)) := by
    rw [en]
    exact fs_go hx (by omega) hxr hlk
  have nz : ∀ c : Int32, c < 0 → ¬ (fSell (cpW v wd) (nw v) x).1 = c := fun c hc q => by
    rw [hf] at q
    have q : wTake (nw w) i (cpW v wd) 12 i = c := q
    rw [e12] at q
    exact ofN_lt0 (i := m + 1) (by omega) (by rw [q]; exact hc)
  rcases hres with ⟨q, -⟩ | ⟨q, -⟩ | ⟨q, -⟩ | ⟨-, hv, k1, O1⟩
  · exact absurd q (nz _ (by decide))
  · exact absurd q (nz _ (by decide))
  · exact absurd q (nz _ (by decide))
  · have hv : v' = (fSell (cpW v wd) (nw v) x).1 := hv
    have O1 : OK sn sf (fSell (cpW v wd) (nw v) x).2 ((v :: l).take 8) k1 H1 := O1
    rw [hf] at hv O1
    have hv : v' = Int32.ofNat (m + 1) := hv.trans e12
    rw [hv] at hr
    exact ⟨H1, kk, _, k1, hr, hb, O1, S1⟩
/-- no set more -/
theorem sell_no (O : OK sn sf v l k H) (hx : x = Int32.ofNat i) (hi : i < 2) (h2 : ow w = 2) (S : SI w v (nw w) i m) (h : m = nDv w (nw w) i 4) : ∃ H1 kk k1, mRun (d + 7) m_L_sell [.ref 8, .int x] (H ++ E) = some (.inl (some (.int (-2))), H1 ++ E, kk) ∧ kB 1 kk ∧ OK sn sf v l k1 H1 ∧ k1 0 0 = 10 ∧ k1 1 0 = x ∧ k1 0 1 = 12 ∧ k1 7 2 = 2 := by
  have okv : wOk v (nw v) (gw v) (ow v) := ok_okk O
  have en : nw v = nw w := congrArg zn S.1
  have eo : ow v = 2 := (congrArg zn S.2.2.1).trans h2
  obtain ⟨v', H1, kk, hr, hb, wd, hres⟩ := L_sell (E := E) (d := d) (x := x) O
  have e5 : v 16 5 = Int32.ofNat 2 := by rw [← eo]; exact okv.1.2.2.2.2.1
  rw [en] at okv
  have hlk := sl_no okv (show i < ow v by omega) (cpW_same v wd) S h
  have hxr : 0 ≤ x ∧ x < cpW v wd 16 5 := ⟨(zI_le (x := 0) (i := 0) rfl hx (by omega) (by omega)).mpr (by omega), (zI_lt hx ((cpW_same v wd 16 5 (rg16 (by omega))).trans e5) (by omega) (by omega)).mpr hi⟩
  have hf : fSell (cpW v wd) (nw v) x = (-3, wAhead1 (wNote (cpW v wd) 12 (wLack (cpW v wd) (nw w) i)) 10 x) := by
    rw [en]
    exact fs_no hx (by omega) hxr hlk
  have hq : (fSell (cpW v wd) (nw v) x).1 = -3 := by rw [hf]
  rcases hres with ⟨q, -⟩ | ⟨q, -⟩ | ⟨-, hv, O1⟩ | ⟨q, -⟩
  · exact absurd ((show (fSell (cpW v wd) (nw v) x).1 = -1 from q).symm.trans hq) (by decide)
  · exact absurd ((show (fSell (cpW v wd) (nw v) x).1 = -2 from q).symm.trans hq) (by decide)
  · rw [hv] at hr
    have O1 : OK sn sf v l (cpWhy (fSell (cpW v wd) (nw v) x).2 k) H1 := O1
    rw [hf] at O1
    exact ⟨H1, kk, _, hr, hb, O1, (why_0 (by omega)).trans rfl, (why_1 (by omega)).trans rfl, (why_0 (by omega)).trans rfl, rfl⟩
  · exact absurd (show 0 ≤ (fSell (cpW v wd) (nw v) x).1 from q) (by rw [hq]; decide)
/-- sets sold, six at most -/
theorem l_sl3 (hn : n0 ≤ 252 + E.length) (hx : x = Int32.ofNat i) (hi : i < 2) (h2 : ow w = 2) {c D : Nat} (hD : nDv w (nw w) i 4 = D) (he : ∀ (m : Nat) (v : aW) (l : List aW) (k : aW) (H : aH) (p q : Nat), m ≤ 6 → m ≤ D → OK sn sf v l k H → Bk w m v l → SI w v (nw w) i m → kB (c + m) (p, q) → mE (mFz n0 d) (zS 106 H E x (some (Int32.ofNat D)) (some (Int32.ofNat m)) (some s) (some z) (some 4) p q) P) : ∀ (t m : Nat) (v : aW) (l : List aW) (k : aW) (H : aH) (p q : Nat), m + t = 6 → m ≤ D → OK sn sf v l k H → Bk w m v l → SI w v (nw w) i m → kB (c + m) (p, q) → mE (mFz n0 d) (zS 69 H E x (some (Int32.ofNat D)) (some (Int32.ofNat m)) (some s) (some z) (some 4) p q) P
  | t, m, v, l, k, H, p, q, ht, hm, O, B, S, hk => by
    have hd := nDv_le (w := w) (n := nw w) (i := i) 4
    have h106 := he m v l k H p q (by omega) hm O B S hk
    by_cases hmD : m = D
    · refine mVn_P (stop := fun p => p == 106) 60 ?_
      refine And.intro (fun _ => ?_) (fun c => absurd (zgeF (i := m) (n := D) c rfl rfl (by omega) (by omega)) (by omega))
      exact h106
    · cases t with
      | zero =>
        have hm6 : m = 6 := by omega
        refine mVn_P (stop := fun p => p == 106) 60 ?_
        refine And.intro (fun c => absurd (zgeT (i := m) (n := D) c rfl rfl (by omega) (by omega)) (by omega)) (fun _ => ?_)
        refine And.intro (fun _ => ?_) (fun c => absurd (zgeF (i := m) (n := 6) c rfl rfl (by omega) (by omega)) (by omega))
        exact h106
      | succ t =>
        obtain ⟨H1, kk, v1, k1, hr, hb, O1, S1⟩ := sell_go (E := E) (d := d) O hx hi h2 S (by omega)
        have hl := ok_len O
        have hl1 := ok_len O1
        have em : Int32.ofNat m + 1 = Int32.ofNat (m + 1) := (Int32.ofNat_add m 1).symm
        have ok1 : wOk v1 (nw v1) (gw v1) (ow v1) := ok_okk O1
        have en1 : nw v1 = nw w := congrArg zn S1.1
        have eo1 : ow v1 = 2 := (congrArg zn S1.2.2.1).trans h2
        have hs1 := V_setsAgain (E := E) (d := d) O1 hx (show i < ow v1 by omega)
        rw [all_dv ok1 (show i < ow v1 by omega), en1] at hs1
        have e4 : nDv v1 (nw w) i 4 + (m + 1) = D := S1.2.2.2.1.trans hD
        have es : Int32.ofNat (nDv v1 (nw w) i 4) = Int32.ofNat D - (Int32.ofNat m + 1) := by
          rw [em, ← e4, Int32.ofNat_add _ (m + 1), Int32.add_sub_cancel]
        have ih := l_sl3 hn hx hi h2 hD he t (m + 1) v1 _ k1 H1 (p + kk.1) (q + kk.2) (by omega) (by omega) O1 (Bk_s (by omega) B) S1 (by have := kB_a hk hb; exact this)
        have ih2 : mE (mFz n0 d) (zS 69 H1 E x (some (Int32.ofNat D)) (some (Int32.ofNat m + 1)) (some s) (some z) (some 4) (p + kk.1) (q + kk.2)) P := by
          rw [em]
          exact ih
        refine mVn_P (stop := fun p => p == 69) 60 ?_
        refine And.intro (fun c => absurd (zgeT (i := m) (n := D) c rfl rfl (by omega) (by omega)) (by omega)) (fun _ => ?_)
        refine And.intro (fun c => absurd (zgeT (i := m) (n := 6) c rfl rfl (by omega) (by omega)) (by omega)) (fun _ => ?_)
        refine And.intro (mG2 hl hn (mls_z (o2 := some _) (o3 := some _) (o4 := some _) (o5 := some _) (o6 := some _) rfl)) ?_
        refine Exists.intro _ (Exists.intro _ (Exists.intro _ (And.intro hr ?_)))
        refine And.intro (fun c => absurd em.symm (cT c)) (fun _ => ?_)
        refine And.intro (mG2 hl1 hn (mls_z (o2 := some _) (o3 := some _) (o4 := some _) (o5 := some _) (o6 := some _) rfl)) ?_
        refine Exists.intro _ (Exists.intro _ (Exists.intro _ (And.intro hs1 ?_)))
        refine And.intro (fun _ => ?_) (fun c => absurd es (cF c))
        exact ih2
/-- .. undone again -/
theorem l_sl5 (hn : n0 ≤ 252 + E.length) (hm6 : m ≤ 6) {c : Nat} (he : ∀ (l : List aW) (k : aW) (H : aH) (p q : Nat), OK sn sf w l k H → kB (c + m) (p, q) → mE (mFz n0 d) (zS 212 H E x (some a) (some (Int32.ofNat m)) (some s) (some z) (some (Int32.ofNat m)) p q) P) : ∀ (t y : Nat) (v : aW) (l : List aW) (k : aW) (H : aH) (p q : Nat), y + t = m → OK sn sf v l k H → Bk w t v l → kB (c + y) (p, q) → mE (mFz n0 d) (zS 191 H E x (some a) (some (Int32.ofNat m)) (some s) (some z) (some (Int32.ofNat y)) p q) P
  | 0, y, v, l, k, H, p, q, ht, O, B, hk => by
    have ey : y = m := by omega
    subst ey
    have ev : v = w := B
    subst ev
    have h212 := he l k H p q O hk
    refine mVn_P (stop := fun p => p == 212) 60 ?_
    refine And.intro (fun _ => ?_) (fun c => absurd (zgeF (i := y) (n := y) c rfl rfl (by omega) (by omega)) (by omega))
    exact h212
  | t + 1, y, v, l, k, H, p, q, ht, O, B, hk => by
    obtain ⟨v0, l0, rfl, B0⟩ := B
    obtain ⟨r, H1, kk, k1, hr, hb, h0, O1⟩ := L_undo (E := E) (d := d) O
    have hl := ok_len O
    have ey : Int32.ofNat y + 1 = Int32.ofNat (y + 1) := (Int32.ofNat_add y 1).symm
    have ih := l_sl5 hn hm6 he t (y + 1) v0 l0 k1 H1 (p + kk.1) (q + kk.2) (by omega) O1 B0 (by have := kB_a hk hb; exact this)
    have ih2 : mE (mFz n0 d) (zS 191 H1 E x (some a) (some (Int32.ofNat m)) (some s) (some z) (some (Int32.ofNat y + 1)) (p + kk.1) (q + kk.2)) P := by
      rw [ey]
      exact ih
    refine mVn_P (stop := fun p => p == 191) 60 ?_
    refine And.intro (fun c => absurd (zgeT (i := y) (n := m) c rfl rfl (by omega) (by omega)) (by omega)) (fun _ => ?_)
    refine And.intro (mG2 hl hn (mls_z (o2 := some _) (o3 := some _) (o4 := some _) (o5 := some _) (o6 := some _) rfl)) ?_
    refine Exists.intro _ (Exists.intro _ (Exists.intro _ (And.intro hr ?_)))
    refine And.intro (fun _ => ?_) (fun c => absurd h0 (cF c))
    exact ih2
/-- the wares sold add up -/
theorem l_sl4 (hx : x = Int32.ofNat i) (ok0 : wOkA w (nw w) (gw w) (ow w)) (hm6 : m ≤ 6) (O : OK sn sf v l k H) (S : SI w v (nw w) i m) {D : Nat} (he : mE (mFz n0 d) (zS 191 H E x (some (Int32.ofNat D)) (some (Int32.ofNat m)) (some (Int32.ofNat (nS4 w (nw w)))) (some (Int32.ofNat (nSz w i))) (some 0) p q) P) : mE (mFz n0 d) (zS 164 H E x (some (Int32.ofNat D)) (some (Int32.ofNat m)) (some (Int32.ofNat (nS4 w (nw w)))) (some (Int32.ofNat (nSz w i))) (some 4) p q) P := by
  have okv : wOk v (nw v) (gw v) (ow v) := ok_okk O
  have en : nw v = nw w := congrArg zn S.1
  obtain ⟨fs, h8⟩ := ok_8 O (E := E)
  have ha := C_account (E := E) (d := d + 1) (x := 5) O ⟨by decide, by decide⟩ (acc_5 okv.A _ _)
  have hb := C_balanced (E := E) (d := d + 1) O
  have e : Int32.ofNat (nS4 v (nw v)) = Int32.ofNat (nS4 w (nw w)) + Int32.ofNat (nSz w i) * Int32.ofNat m := by
    rw [en, SI_n S, Int32.ofNat_add, Int32.ofNat_mul]
  refine mVn_P (stop := fun p => p == 191) 60 ?_
  refine And.intro ⟨by decide, fs, h8⟩ ?_
  refine Exists.intro _ (And.intro ha ?_)
  refine And.intro (fun c => absurd e (cT c)) (fun _ => ?_)
  refine And.intro ⟨by decide, fs, h8⟩ ?_
  refine Exists.intro _ (And.intro hb ?_)
  refine And.intro (fun _ => ?_) (fun c => absurd c (by decide))
  exact he
/-- one order -/
theorem l_sl6 (O : OK sn sf w l k H) (hn : n0 ≤ 252 + E.length) (hx : x = Int32.ofNat i) (hi : i < 2) (h2 : ow w = 2) (h12 : w 12 i = 0) {c : Nat} (hk : kB c (p, q)) (he : ∀ (l : List aW) (k : aW) (H : aH) (p q : Nat) (o2 o3 o4 o5 o6 : Option Int32), OK sn sf w l k H → kB (c + 14) (p, q) → mE (mFz n0 d) (zS 2 H E (x + 1) o2 o3 o4 o5 o6 p q) P) : mE (mFz n0 d) (zS 2 H E x o2 o3 o4 o5 o6 p q) P := by
  have hok : wOk w (nw w) (gw w) (ow w) := ok_okk O
  have hd := nDv_le (w := w) (n := nw w) (i := i) 4
  refine l_sl1 O hn hx hi h2 hk fun H1 p q O1 hk => ?_
  refine l_sl2 O1 hx hi h2 ?_
  refine l_sl3 (c := c) hn hx hi h2 rfl (fun m v l1 k1 H2 p2 q2 hm6 hmD O2 B S hk2 => ?_) 6 0 w l k H1 p q (by omega) (by omega) O1 rfl (SI_0 h12) hk
  -- back
  have hback : ∀ (l : List aW) (k : aW) (H : aH) (p q : Nat), OK sn sf v l k H → Bk w m v l → kB (c + 8) (p, q) → mE (mFz n0 d) (zS 164 H E x (some (Int32.ofNat (nDv w (nw w) i 4))) (some (Int32.ofNat m)) (some (Int32.ofNat (nS4 w (nw w)))) (some (Int32.ofNat (nSz w i))) (some 4) p q) P := fun l k H p q O B hk => by
    refine l_sl4 hx hok.A hm6 O S ?_
    refine l_sl5 (c := c + 8) hn hm6 (fun l k H p q O hk => ?_) m 0 v l k H p q (by omega) O B hk
    obtain ⟨fs, h8⟩ := ok_8 O (E := E)
    have ha := C_account (E := E) (d := d + 1) (x := 5) O ⟨by decide, by decide⟩ (acc_5 hok.A _ _)
    have h2 := he l k H p q (some (Int32.ofNat (nDv w (nw w) i 4))) (some (Int32.ofNat m)) (some (Int32.ofNat (nS4 w (nw w)))) (some (Int32.ofNat (nSz w i))) (some (Int32.ofNat m)) O (kB_le hk (by omega))
    refine mVn_P (stop := fun p => p == 2) 60 ?_
    refine And.intro ⟨by decide, fs, h8⟩ ?_
    refine Exists.intro _ (And.intro ha ?_)
    refine And.intro (fun _ => ?_) (fun c => absurd rfl (cF c))
    exact h2
  by_cases hmd : m = nDv w (nw w) i 4
  · obtain ⟨H3, kk, k3, hr, hb, O3, r0, r1, r2, r7⟩ := sell_no (E := E) (d := d) O2 hx hi h2 S hmd
    have hl2 := ok_len O2
    have hl3 := ok_len O3
    have f00 := rf_00 (E := E) (d := d) O3 (by rw [r7]; decide) r0
    have f01 := rf_01 (E := E) (d := d) O3 (by rw [r7]; decide) r1
    have f10 := rf_10 (E := E) (d := d) O3 (by rw [r7]; decide) r2
    have f20 := V_refusalNo (E := E) (d := d) (x := 2) (y := 0) O3 ⟨by decide, by decide⟩ (by rw [r7]; decide)
    have em : Int32.ofNat m = Int32.ofNat (nDv w (nw w) i 4) := congrArg _ hmd
    have h164 := hback l1 k3 H3 (p2 + kk.1 + 1) (q2 + kk.2 + 6) O3 B (kB_le (kB_a (kB_a hk2 hb) (b := 1) (k2 := (1, 6)) ⟨by decide, by decide⟩) (by omega))
    refine mVn_P (stop := fun p => p == 164) 60 ?_
    refine And.intro (fun c => absurd em (cT c)) (fun _ => ?_)
    refine And.intro (mG2 hl2 hn (mls_z (o2 := some _) (o3 := some _) (o4 := some _) (o5 := some _) (o6 := some _) rfl)) ?_
    refine Exists.intro _ (Exists.intro _ (Exists.intro _ (And.intro hr ?_)))
    refine And.intro (fun c => absurd rfl (cT c)) (fun _ => ?_)
    refine And.intro (mG2 hl3 hn (mls_z (o2 := some _) (o3 := some _) (o4 := some _) (o5 := some _) (o6 := some _) rfl)) ?_
    refine Exists.intro _ (Exists.intro _ (Exists.intro _ (And.intro f00 ?_)))
    refine And.intro (fun c => absurd rfl (cT c)) (fun _ => ?_)
    refine And.intro (mG2 hl3 hn (mls_z (o2 := some _) (o3 := some _) (o4 := some _) (o5 := some _) (o6 := some _) rfl)) ?_
    refine Exists.intro _ (Exists.intro _ (Exists.intro _ (And.intro f01 ?_)))
    refine And.intro (fun c => absurd rfl (cT c)) (fun _ => ?_)
    refine And.intro (mG2 hl3 hn (mls_z (o2 := some _) (o3 := some _) (o4 := some _) (o5 := some _) (o6 := some _) rfl)) ?_
    refine Exists.intro _ (Exists.intro _ (Exists.intro _ (And.intro f10 ?_)))
    refine And.intro (fun c => absurd rfl (cT c)) (fun _ => ?_)
    refine And.intro (mG2 hl3 hn (mls_z (o2 := some _) (o3 := some _) (o4 := some _) (o5 := some _) (o6 := some _) rfl)) ?_
    refine Exists.intro _ (Exists.intro _ (Exists.intro _ (And.intro f20 ?_)))
    refine And.intro (fun c => absurd rfl (cT c)) (fun _ => ?_)
    exact h164
  · have h164 := hback l1 k1 H2 p2 q2 O2 B (kB_le hk2 (by omega))
    have ne : ¬ Int32.ofNat m = Int32.ofNat (nDv w (nw w) i 4) := fun q => hmd (ofN_ne (by omega) (by omega) q)
    refine mVn_P (stop := fun p => p == 164) 60 ?_
    refine And.intro (fun _ => ?_) (fun c => absurd (fun q => ne q) (cF c))
    exact h164
/-- sells: what is asked of the sales is so; the kiln is as it was -/
theorem L_sells (O : OK sn sf w l k H) (h2 : ow w = 2) (h12 : ∀ i, i < 2 → w 12 i = 0) : ∃ l1 k1 H1 kk, mRun (d + 8) m_L_sells [.ref 8] (H ++ E) = some (.inl (some (.int 1)), H1 ++ E, kk) ∧ kB 28 kk ∧ OK sn sf w l1 k1 H1 := by
  have hlen : (H ++ E).length = 252 + E.length := by rw [List.length_append, ok_len O]
  have key : mE (mFz (252 + E.length) d) (zS 2 H E 0 none none none none none 0 0) (fun r => ∃ l1 k1 H1 kk, r = (.inl (some (.int 1)), H1 ++ E, kk) ∧ kB 28 kk ∧ OK sn sf w l1 k1 H1) := by
    refine k_inv0 (S := fun (u : aH × (Nat × Nat) × Option Int32 × Option Int32 × Option Int32 × Option Int32 × Option Int32) x => zS 2 u.1 E x u.2.2.1 u.2.2.2.1 u.2.2.2.2.1 u.2.2.2.2.2.1 u.2.2.2.2.2.2 u.2.1.1 u.2.1.2) (Inv := fun i u => (∃ l k, OK sn sf w l k u.1) ∧ kB (14 * i) (u.2.1.1, u.2.1.2)) (n := 2) (u := (H, (0, 0), none, none, none, none, none)) ⟨⟨l, k, O⟩, ⟨Nat.zero_le _, Nat.zero_le _⟩⟩ (fun i x u hi hx hu ih => ?_) (fun x u hx hu => ?_)
    · obtain ⟨H1, ⟨p, q⟩, o2, o3, o4, o5, o6⟩ := u
      obtain ⟨⟨l1, k1, O1⟩, hk⟩ := hu
      exact l_sl6 O1 (Nat.le_refl _) hx hi h2 (h12 i hi) hk (fun l2 k2 H2 p2 q2 o2 o3 o4 o5 o6 O2 hk2 => ih (H2, (p2, q2), o2, o3, o4, o5, o6) ⟨⟨l2, k2, O2⟩, hk2⟩)
    · obtain ⟨H1, ⟨p, q⟩, o2, o3, o4, o5, o6⟩ := u
      obtain ⟨⟨l1, k1, O1⟩, hk⟩ := hu
      show mE (mFz (252 + E.length) d) (zS 2 H1 E x o2 o3 o4 o5 o6 p q) _
      have hx : x = 2 := hx
      subst hx
      have hfin : ∃ l1 k1 H2 kk, ((.inl (some (.int 1)), H1 ++ E, (p, q)) : aR) = (.inl (some (.int 1)), H2 ++ E, kk) ∧ kB 28 kk ∧ OK sn sf w l1 k1 H2 := ⟨l1, k1, H1, (p, q), rfl, hk, O1⟩
      refine mVn_P (stop := fun p => false) 60 ?_
      refine And.intro (fun _ => ?_) (fun c => absurd c (by decide))
      exact And.intro rfl hfin
  have h0 : mE (mStep (H ++ E).length (d + 7) (mRun (d + 7)) [] aB_L_sells (some .boolean)) (0, aIn 7 [.ref 8], [], H ++ E, (0, 0)) (fun r => ∃ l1 k1 H1 kk, r = (.inl (some (.int 1)), H1 ++ E, kk) ∧ kB 28 kk ∧ OK sn sf w l1 k1 H1) := by
    refine mVn_P (stop := fun p => p == 2) 60 ?_
    rw [hlen]
    exact key
  obtain ⟨r, e1, l1, k1, H1, kk, rfl, hk, O1⟩ := mRun_P (m := m_L_sells) rfl h0
  exact ⟨l1, k1, H1, kk, e1, hk, O1⟩
end SLS
