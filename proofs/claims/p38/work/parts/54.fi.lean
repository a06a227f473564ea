section FIX
variable {sn : Nat} {sf : Nat → Int32} {w v : aW} {l : List aW} {k : aW} {H E : aH} {d n0 i j m p q a N : Nat} {x c heat most nI fi an y Y t : Int32} {f : Nat → Int32} {o : Option Int32} {P : aR → Prop}
/-- fired -/
theorem fire_go (O : OK sn sf w l k H) (hY : Y = Int32.ofNat a) (h1 : 1000 ≤ a) (h2 : a ≤ 1400) (ha : ¬ wAny w (nw w) = 0) : ∃ H1 kk v1 k1, mRun (d + 7) m_L_fire [.ref 8, .int Y] (H ++ E) = some (.inl (some (.int (wFirsts w (nw w) Y))), H1 ++ E, kk) ∧ kB 1 kk ∧ OK sn sf v1 ((w :: l).take 8) k1 H1 ∧ nw v1 = nw w ∧ (∀ j, j < nw w → v1 5 j = wThen w Y j) ∧ ∀ j, j < nw w → v1 2 j = w 2 j ∧ v1 3 j = w 3 j := by
  have hok : wOk w (nw w) (gw w) (ow w) := ok_okk O
  have hle := hok.1.2.1
  obtain ⟨v', H1, kk, hr, hb, wd, hres⟩ := L_fire (E := E) (d := d) (x := Y) O
  have hs := cpW_same w wd
  have hYr : 1000 ≤ Y ∧ Y ≤ 1400 := ⟨(zI_le (x := 1000) (i := 1000) rfl hY (by omega) (by omega)).mpr h1, (zI_le (y := 1400) (n := 1400) hY rfl (by omega) (by omega)).mpr h2⟩
  have hf : fFire (cpW w wd) (nw w) Y = (wFirsts (cpW w wd) (nw w) Y, upw (wFireK (cpW w wd) Y (nw w)) 16 2 (cpW w wd 16 2 + 1)) := (if_pos hYr).trans (if_neg (fun q => ha ((any_same hs hok.A).mp q)))
  have e1 : wFirsts (cpW w wd) (nw w) Y = wFirsts w (nw w) Y := firsts_same hs hok.A
  have h0 := wFirsts_0 w (nw w) Y (by omega)
  have nz : ∀ c : Int32, c < 0 → ¬ (fFire (cpW w wd) (nw w) Y).1 = c := fun c hc q => by
    rw [hf] at q
    have q : wFirsts (cpW w wd) (nw w) Y = c := q
    rw [e1] at q
    exact absurd h0 (by rw [q]; exact Int32.not_le.mpr hc)
  rcases hres with ⟨q, -⟩ | ⟨q, -⟩ | ⟨q, -⟩ | ⟨-, hv, k1, O1⟩
  · exact absurd q (nz _ (by decide))
  · exact absurd q (nz _ (by decide))
  · exact absurd q (nz _ (by decide))
  · have hv : v' = (fFire (cpW w wd) (nw w) Y).1 := hv
    have O1 : OK sn sf (fFire (cpW w wd) (nw w) Y).2 ((w :: l).take 8) k1 H1 := O1
    rw [hf] at hv O1
    have hv : v' = wFirsts w (nw w) Y := hv.trans e1
    rw [hv] at hr
    have eo : ∀ b j, ¬ (b = 1 ∨ b = 5 ∨ b = 16) → upw (wFireK (cpW w wd) Y (nw w)) 16 2 (cpW w wd 16 2 + 1) b j = cpW w wd b j := fun b j hb => (upw_ne (by omega)).trans (wFireK_out (Or.inr (by omega)))
    refine ⟨H1, kk, _, k1, hr, hb, O1, ?_, fun j hj => fire_5 hs hok.A hj, fun j hj => ⟨?_, ?_⟩⟩
    · show zn (upw (wFireK (cpW w wd) Y (nw w)) 16 2 (cpW w wd 16 2 + 1) 16 3) = _
      rw [upw_ne (by omega), wFireK_out (Or.inr (by omega)), hs 16 3 (rg16 (by omega))]
    · exact (eo 2 j (by omega)).trans (hs 2 j (rg1 (by omega) (by omega) (by omega)))
    · exact (eo 3 j (by omega)).trans (hs 3 j (rg1 (by omega) (by omega) (by omega)))
theorem fire_no (O : OK sn sf w l k H) (hY : Y = Int32.ofNat a) (h1 : 1000 ≤ a) (h2 : a ≤ 1400) (ha : wAny w (nw w) = 0) : ∃ H1 kk k1, mRun (d + 7) m_L_fire [.ref 8, .int Y] (H ++ E) = some (.inl (some (.int (-2))), H1 ++ E, kk) ∧ kB 1 kk ∧ OK sn sf w l k1 H1 ∧ k1 0 0 = 9 ∧ k1 7 2 = 1 := by
  have hok : wOk w (nw w) (gw w) (ow w) := ok_okk O
  obtain ⟨v', H1, kk, hr, hb, wd, hres⟩ := L_fire (E := E) (d := d) (x := Y) O
  have hs := cpW_same w wd
  have hYr : 1000 ≤ Y ∧ Y ≤ 1400 := ⟨(zI_le (x := 1000) (i := 1000) rfl hY (by omega) (by omega)).mpr h1, (zI_le (y := 1400) (n := 1400) hY rfl (by omega) (by omega)).mpr h2⟩
  have hf : fFire (cpW w wd) (nw w) Y = (-3, wNote (cpW w wd) 9 0) := (if_pos hYr).trans (if_pos ((any_same hs hok.A).mpr ha))
  have hq : (fFire (cpW w wd) (nw w) Y).1 = -3 := by rw [hf]
  rcases hres with ⟨q, -⟩ | ⟨q, -⟩ | ⟨-, hv, O1⟩ | ⟨q, -⟩
  · exact absurd ((show (fFire (cpW w wd) (nw w) Y).1 = -1 from q).symm.trans hq) (by decide)
  · exact absurd ((show (fFire (cpW w wd) (nw w) Y).1 = -2 from q).symm.trans hq) (by decide)
  · rw [hv] at hr
    have O1 : OK sn sf w l (cpWhy (fFire (cpW w wd) (nw w) Y).2 k) H1 := O1
    rw [hf] at O1
    exact ⟨H1, kk, _, hr, hb, O1, (why_0 (by omega)).trans rfl, rfl⟩
  · exact absurd (show 0 ≤ (fFire (cpW w wd) (nw w) Y).1 from q) (by rw [hq]; decide)
/-- what the heat and the best heat are to one another -/
def fM (w : aW) (x heat most Y : Int32) : Prop := (wAny w (nw w) = 0 ∧ most = -1) ∨ (¬ wAny w (nw w) = 0 ∧ 0 ≤ most ∧ (x = 0 → wFirsts w (nw w) Y = most) ∧ (heat - heat / 10 * 10 = 0 → wFirsts w (nw w) Y ≤ most))
/-- none to fire: refused -/
theorem l_f6 (O : OK sn sf w l k H) (hn : n0 ≤ 253 + E.length) (hm : (if 1000 < heat then heat else 1000) = Y) (hY : Y = Int32.ofNat a) (h1 : 1000 ≤ a) (h2 : a ≤ 1400) (ha : wAny w (nw w) = 0) (hk : kB m (p, q)) (he : ∀ k1 H1 p1 q1, OK sn sf w l k1 H1 → kB (m + 1) (p1, q1) → P (.inl (some (.int 1)), H1 ++ fA E N f, (p1, q1))) : mE (mFf n0 d) (fS 190 H E N f x c heat (-1) nI fi 0 y o [] p q) P := by
  have hl := ok_len O
  obtain ⟨H1, kk, k1, hr, hb, O1, r0, r7⟩ := fire_no (E := fA E N f) (d := d + 1) O hY h1 h2 ha
  have hl1 := ok_len O1
  have f00 := rf_00 (E := fA E N f) (d := d + 1) O1 (by rw [r7]; decide) r0
  have hp := he k1 H1 _ _ O1 (kB_a hk hb)
  refine mVn_P (stop := fun p => false) 60 ?_
  refine And.intro (fun _ => ?_) (fun q => absurd q (by decide))
  refine And.intro (fun _ => ?_) (fun q => absurd rfl (cF q))
  refine Exists.intro _ (And.intro (aNat_mx (by exact Nat.le_of_ble_eq_true rfl) hm) ?_)
  refine And.intro (mG3 hl hn (ms2 (by omega) rfl)) ?_
  refine Exists.intro _ (Exists.intro _ (Exists.intro _ (And.intro hr ?_)))
  refine And.intro (fun q => absurd q (by decide)) (fun _ => ?_)
  refine And.intro (fun q => absurd rfl (cT q)) (fun _ => ?_)
  refine And.intro (mG3 hl1 hn (ms3 (by omega) rfl)) ?_
  refine Exists.intro _ (Exists.intro _ (Exists.intro _ (And.intro f00 ?_)))
  refine And.intro (fun q => absurd rfl (cT q)) (fun _ => ?_)
  exact And.intro rfl hp
/-- fired: what comes of it -/
theorem l_f7 (O : OK sn sf w l k H) (hn : n0 ≤ 253 + E.length) (hm : (if 1000 < heat then heat else 1000) = Y) (hY : Y = Int32.ofNat a) (h1 : 1000 ≤ a) (h2 : a ≤ 1400) (ha : ¬ wAny w (nw w) = 0) (h0 : 0 ≤ most) (hx0 : x = 0 → wFirsts w (nw w) Y = most) (hh : heat - heat / 10 * 10 = 0 → wFirsts w (nw w) Y ≤ most) (hk : kB m (p, q)) (he : ∀ v1 k1 H1 p1 q1, OK sn sf v1 ((w :: l).take 8) k1 H1 → nw v1 = nw w → (∀ j, j < nw w → v1 5 j = wThen w Y j) → (∀ j, j < nw w → v1 2 j = w 2 j ∧ v1 3 j = w 3 j) → kB (m + 1) (p1, q1) → mE (mFf n0 d) (fS 288 H1 E N f x c heat most nI (wFirsts w (nw w) Y) 1 (wFirsts w (nw w) Y) (some 0) [] p1 q1) P) : mE (mFf n0 d) (fS 190 H E N f x c heat most nI (wFirsts w (nw w) Y) 1 y o [] p q) P := by
  have hl := ok_len O
  obtain ⟨H1, kk, v1, k1, hr, hb, O1, en, e5, eg⟩ := fire_go (E := fA E N f) (d := d + 1) O hY h1 h2 ha
  have h288 := he v1 k1 H1 _ _ O1 en e5 eg (kB_a hk hb)
  have h285 : mE (mFf n0 d) (fS 285 H1 E N f x c heat most nI (wFirsts w (nw w) Y) 1 (wFirsts w (nw w) Y) o [] (p + kk.1) (q + kk.2)) P := by
    refine mVn_P (stop := fun p => p == 288) 60 ?_
    exact h288
  have h268 : mE (mFf n0 d) (fS 268 H1 E N f x c heat most nI (wFirsts w (nw w) Y) 1 (wFirsts w (nw w) Y) o [] (p + kk.1) (q + kk.2)) P := by
    refine mVn_P (stop := fun p => p == 285) 60 ?_
    refine And.intro (by decide) ?_
    refine And.intro (fun _ => ?_) (fun z => ?_)
    · exact h285
    · refine And.intro (fun _ => ?_) (fun z2 => absurd (hh (Decidable.not_not.mp (cF z))) (cF z2))
      exact h285
  refine mVn_P (stop := fun p => p == 268) 90 ?_
  refine And.intro (fun q => absurd h0 (Int32.not_le.mpr (cT q))) (fun _ => ?_)
  refine And.intro (fun _ => ?_) (fun q => absurd rfl (cF q))
  refine Exists.intro _ (And.intro (aNat_mx (by exact Nat.le_of_ble_eq_true rfl) hm) ?_)
  refine And.intro (mG3 hl hn (ms2 (by omega) rfl)) ?_
  refine Exists.intro _ (Exists.intro _ (Exists.intro _ (And.intro hr ?_)))
  refine And.intro (fun _ => ?_) (fun q => absurd q (by decide))
  refine And.intro (fun q => absurd rfl (cT q)) (fun _ => ?_)
  refine And.intro (fun _ => ?_) (fun z => ?_)
  · exact h268
  · refine And.intro (fun z2 => absurd (hx0 (Decidable.not_not.mp (cF z))) (cT z2)) (fun _ => ?_)
    exact h268
/-- each ware is as foretold -/
theorem l_f8 (O : OK sn sf v l k H) (hn : n0 ≤ 253 + E.length) (hNv : nw v = N) (hN : nI = Int32.ofNat N) (hf : ∀ j, j < N → v 5 j = f j) (he : mE (mFf n0 d) (fS 319 H E N f x c heat most nI fi an y (some nI) [] p q) P) : mE (mFf n0 d) (fS 288 H E N f x c heat most nI fi an y (some 0) [] p q) P := by
  subst hNv
  have hok : wOk v (nw v) (gw v) (ow v) := ok_okk O
  have hle := hok.1.2.1
  have hl := ok_len O
  refine k_inv0 (S := fun (_ : Unit) z => fS 288 H E (nw v) f x c heat most nI fi an y (some z) [] p q) (Inv := fun _ _ => True) (n := nw v) (u := ()) trivial (fun i z u hi hz _ ih => ?_) (fun z u hz _ => ?_)
  · have ih2 := ih () trivial
    have c6 := V_ware (E := fA E (nw v) f) (d := d + 1) (x := z) (y := 6) (v := f i) O hz hi ⟨by decide, by decide⟩ (hf i hi)
    have hix : aIx z (nw v) = some i := aIx_of hz hi (by omega)
    refine mVn_P (stop := fun p => p == 288) 60 ?_
    refine And.intro (fun q => absurd (zgeT q hz hN (by omega) (by omega)) (by omega)) (fun _ => ?_)
    refine And.intro (mG3 (o := some z) hl hn (ms3 (by omega) rfl)) ?_
    refine Exists.intro _ (Exists.intro _ (Exists.intro _ (And.intro c6 ?_)))
    refine Exists.intro true (Exists.intro (nw v) (Exists.intro f (Exists.intro i (And.intro (e_at hl) (And.intro hix ?_)))))
    refine And.intro (fun _ => ?_) (fun q => absurd rfl (cF q))
    exact ih2
  · have ez : z = nI := hz.trans hN.symm
    subst ez
    refine mVn_P (stop := fun p => p == 319) 60 ?_
    refine And.intro (fun _ => ?_) (fun q => absurd (zgeF q hz hN (by omega) (by omega)) (by omega))
    exact he
/-- a state at the beginning of a round -/
abbrev gS (pc : Nat) (H E : aH) (x : Int32) (o3 o4 o5 o6 : Option Int32) (r : Option Nat) (o8 o9 o10 o11 : Option Int32) (st : List Value) (p q : Nat) : aS := (pc, [some (.ref 5), some (.ref 8), some (.int x), o3.map Value.int, o4.map Value.int, o5.map Value.int, o6.map Value.int, r.map Value.ref, o8.map Value.int, o9.map Value.int, o10.map Value.int, o11.map Value.int], st, H ++ E, (p, q))
theorem mls_g {M : Nat} {o3 o4 o5 o6 : Option Int32} {r : Option Nat} {o8 o9 o10 o11 : Option Int32} {st : List Value} (h8 : 8 < M) (hr : ∀ a, r = some a → a < M) (hs : st.all (mV1 M) = true) : mLs M [some (.ref 5), some (.ref 8), some (.int x), o3.map Value.int, o4.map Value.int, o5.map Value.int, o6.map Value.int, r.map Value.ref, o8.map Value.int, o9.map Value.int, o10.map Value.int, o11.map Value.int] st = true := by
  unfold mLs
  rw [Bool.and_eq_true]
  refine ⟨?_, hs⟩
  simp only [List.all_cons, List.all_nil]
  have e : mLo M (r.map Value.ref) = true := by
    cases r with
    | none => rfl
    | some a => exact decide_eq_true (hr a rfl)
  rw [mlo_i (c := o3), mlo_i (c := o4), mlo_i (c := o5), mlo_i (c := o6), mlo_i (c := o8), mlo_i (c := o9), mlo_i (c := o10), mlo_i (c := o11), e]
  show (decide (5 < M) && (decide (8 < M) && (true && (true && (true && (true && (true && (true && (true && (true && (true && (true && true)))))))))))) = true
  rw [decide_eq_true h8, decide_eq_true (show 5 < M by omega)]
  rfl
theorem mGg {E : aH} {o3 o4 o5 o6 : Option Int32} {r : Option Nat} {o8 o9 o10 o11 : Option Int32} {st : List Value} (hl : H.length = 252) (hn : n0 ≤ 252 + E.length) (hr : ∀ a, r = some a → a < 252 + E.length) (hs : st.all (mV1 (252 + E.length)) = true) : mG n0 [some (.ref 5), some (.ref 8), some (.int x), o3.map Value.int, o4.map Value.int, o5.map Value.int, o6.map Value.int, r.map Value.ref, o8.map Value.int, o9.map Value.int, o10.map Value.int, o11.map Value.int] st (H ++ E) := by
  have e : (H ++ E).length = 252 + E.length := by rw [List.length_append, hl]
  unfold mG
  rw [e]
  exact ⟨by omega, hn, mls_g (by omega) hr hs⟩
/-- the heat of a round -/
theorem l_f0a (O : OK sn sf w l k H) (hsn : sn < 100000) (hn : n0 ≤ 252 + E.length) {r : Option Nat} {o3 o4 o5 o6 o8 o9 o10 o11 : Option Int32} (hr : ∀ a, r = some a → a < 252 + E.length) (hx : x = Int32.ofNat i) (hi : i < 4) (he : ∀ c heat p1 q1, ((∃ a, 1000 ≤ a ∧ a ≤ 1400 ∧ heat = Int32.ofNat a ∧ (i = 0 → ¬ wAny w (nw w) = 0 ∧ heat = (wBst w (nw w) 41).2)) ∨ (wAny w (nw w) = 0 ∧ heat = -1)) → p1 ≤ p + 1 → q1 ≤ q + 6 → mE (mFf n0 d) (gS 39 H E x (some c) o4 o5 o6 r o8 o9 o10 o11 [.int heat] p1 q1) P) : mE (mFf n0 d) (gS 2 H E x o3 o4 o5 o6 r o8 o9 o10 o11 [] p q) P := by
  have hok : wOk w (nw w) (gw w) (ow w) := ok_okk O
  have hle := hok.1.2.1
  have hl := ok_len O
  have h5 : (H ++ E)[5]? = some (aRo .int sn sf) := (ok_lo O (E := E) (q := 5) (by omega)).trans rfl
  have e34 : 34 + x = Int32.ofNat (34 + i) := by
    rw [hx, Int32.ofNat_add]
    rfl
  obtain ⟨v, hv⟩ := L_cell (d := d + 7) h5 hsn e34 (by omega)
  obtain ⟨c, hc, ec⟩ := shr_n v 1 (t := 1) (by decide) (by decide) (by decide)
  by_cases h0 : i = 0
  · have x0 : x = 0 := by rw [hx, h0]; rfl
    subst x0
    by_cases ha : wAny w (nw w) = 0
    · have hb := V_bestNo (E := E) (d := d + 1) (x := 0) O ha
      have h39 := he (v.toUInt32 >>> (Int32.toUInt32 1 &&& Int32.toUInt32 31)).toInt32 (-1) (p + 1) (q + 6) (Or.inr ⟨ha, rfl⟩) (by omega) (by omega)
      refine mVn_P (stop := fun p => p == 39) 60 ?_
      refine And.intro (fun q => absurd q (by decide)) (fun _ => ?_)
      refine And.intro (mGg hl hn hr (by simp only [List.all_cons, List.all_nil, mV1, Bool.and_true, decide_eq_true (show 5 < 252 + E.length by omega)])) ?_
      refine Exists.intro _ (Exists.intro _ (Exists.intro _ (And.intro hv ?_)))
      refine And.intro (fun q => absurd q (by decide)) (fun _ => ?_)
      refine And.intro (mGg (o3 := some _) hl hn hr (ms2 (by omega) rfl)) ?_
      refine Exists.intro _ (Exists.intro _ (Exists.intro _ (And.intro hb ?_)))
      exact h39
    · have hb := V_best (E := E) (d := d + 1) (x := 0) O ha
      rw [if_pos rfl] at hb
      obtain ⟨-, t, ht, et⟩ := bst_at w (nw w) (by omega) 40
      have h39 := he (v.toUInt32 >>> (Int32.toUInt32 1 &&& Int32.toUInt32 31)).toInt32 (wBst w (nw w) 41).2 p q (Or.inl ⟨1000 + 10 * t, by omega, by omega, et, fun _ => ⟨ha, rfl⟩⟩) (by omega) (by omega)
      refine mVn_P (stop := fun p => p == 39) 60 ?_
      refine And.intro (fun q => absurd q (by decide)) (fun _ => ?_)
      refine And.intro (mGg hl hn hr (by simp only [List.all_cons, List.all_nil, mV1, Bool.and_true, decide_eq_true (show 5 < 252 + E.length by omega)])) ?_
      refine Exists.intro _ (Exists.intro _ (Exists.intro _ (And.intro hv ?_)))
      refine And.intro (fun q => absurd q (by decide)) (fun _ => ?_)
      refine And.intro (mGg (o3 := some _) hl hn hr (ms2 (by omega) rfl)) ?_
      refine Exists.intro _ (Exists.intro _ (Exists.intro _ (And.intro hb ?_)))
      exact h39
  · have x0 : ¬ x = 0 := fun q => h0 (ofN_ne (by omega) (by omega) (hx.symm.trans q))
    have er := rem_n (y := 401) (m := 401) ec rfl hc (by omega)
    have eh : 1000 + ((v.toUInt32 >>> (Int32.toUInt32 1 &&& Int32.toUInt32 31)).toInt32 - (v.toUInt32 >>> (Int32.toUInt32 1 &&& Int32.toUInt32 31)).toInt32 / 401 * 401) = Int32.ofNat (1000 + c % 401) := by
      rw [er, Int32.ofNat_add]
      rfl
    have hlt : c % 401 < 401 := Nat.mod_lt _ (by omega)
    have h39 := he (v.toUInt32 >>> (Int32.toUInt32 1 &&& Int32.toUInt32 31)).toInt32 _ p q (Or.inl ⟨1000 + c % 401, by omega, by omega, eh, fun z => absurd z h0⟩) (by omega) (by omega)
    refine mVn_P (stop := fun p => p == 39) 60 ?_
    refine And.intro (fun q => absurd (zgeT (n := 4) q hx rfl (by omega) (by omega)) (by omega)) (fun _ => ?_)
    refine And.intro (mGg hl hn hr (by simp only [List.all_cons, List.all_nil, mV1, Bool.and_true, decide_eq_true (show 5 < 252 + E.length by omega)])) ?_
    refine Exists.intro _ (Exists.intro _ (Exists.intro _ (And.intro hv ?_)))
    refine And.intro (fun _ => ?_) (fun q => absurd x0 (cF q))
    refine And.intro (by decide) ?_
    exact h39
/-- the best heat; an array for what they would be -/
theorem l_f0b (O : OK sn sf w l k H) (hE : mPl E) (hn : n0 ≤ 252 + E.length) {r : Option Nat} {o4 o5 o6 o8 o9 o10 o11 : Option Int32} (hr : ∀ a, r = some a → a < 252 + E.length) (he : ∀ most p1 q1, ((wAny w (nw w) = 0 ∧ most = -1) ∨ (¬ wAny w (nw w) = 0 ∧ most = (wBst w (nw w) 41).1)) → p1 ≤ p + 2 → q1 ≤ q + 66 → mE (mFf n0 d) (fS 70 H E (nw w) (fun _ => 0) x c heat most (w 16 3) 0 0 0 o11 [] p1 q1) P) : mE (mFf n0 d) (gS 39 H E x (some c) o4 o5 o6 r o8 o9 o10 o11 [.int heat] p q) P := by
  have hok : wOk w (nw w) (gw w) (ow w) := ok_okk O
  have hle := hok.1.2.1
  have hl := ok_len O
  have hlen : (H ++ E).length = 252 + E.length := by rw [List.length_append, hl]
  obtain ⟨fs, h8⟩ := ok_8 O (E := E)
  have a0 := C_account (E := E) (d := d + 2) (x := 0) O ⟨by decide, by decide⟩ (acc_0 w _ _ _)
  have h0 : 0 ≤ w 16 3 ∧ (w 16 3).toNatClampNeg ≤ 100000 := ⟨by rw [hok.1.1]; exact Int32.not_lt.mp (ofN_lt0 (by omega)), by show nw w ≤ _; omega⟩
  have key : ∀ most p1 q1, mE (mFf n0 d) (fS 70 H E (nw w) (fun _ => 0) x c heat most (w 16 3) 0 0 0 o11 [] p1 q1) P → mE (mFf n0 d) (70, [some (.ref 5), some (.ref 8), some (.int x), some (.int c), some (.int heat), some (.int most), some (.int (w 16 3)), some (.ref (H ++ E).length), some (.int 0), some (.int 0), some (.int 0), o11.map Value.int], [], (H ++ E) ++ [(true, .inl (.int, (w 16 3).toNatClampNeg, .inl fun _ => 0))], (p1, q1)) P := fun most p1 q1 h => by
    rw [hlen, List.append_assoc]
    exact h
  by_cases ha : wAny w (nw w) = 0
  · have hb := V_bestNo (E := E) (d := d + 1) (x := 1) O ha
    have h70 := key _ _ _ (he (-1) (p + 1 + 1) (q + 6 + nw w) (Or.inl ⟨ha, rfl⟩) (by omega) (by omega))
    refine mVn_P (stop := fun p => p == 70) 60 ?_
    refine And.intro (mGg (o3 := some _) (o4 := some _) hl hn hr (ms2 (by omega) rfl)) ?_
    refine Exists.intro _ (Exists.intro _ (Exists.intro _ (And.intro hb ?_)))
    refine And.intro ⟨by decide, fs, h8⟩ ?_
    refine Exists.intro _ (And.intro a0 ?_)
    refine And.intro ⟨ok_cl O hE, mGg (o3 := some _) (o4 := some _) (o5 := some _) (o6 := some _) hl hn hr rfl⟩ ?_
    refine And.intro h0 ?_
    exact h70
  · have hb := V_best (E := E) (d := d + 1) (x := 1) O ha
    rw [if_neg (by decide)] at hb
    have h70 := key _ _ _ (he _ (p + 1) (q + nw w) (Or.inr ⟨ha, rfl⟩) (by omega) (by omega))
    refine mVn_P (stop := fun p => p == 70) 60 ?_
    refine And.intro (mGg (o3 := some _) (o4 := some _) hl hn hr (ms2 (by omega) rfl)) ?_
    refine Exists.intro _ (Exists.intro _ (Exists.intro _ (And.intro hb ?_)))
    refine And.intro ⟨by decide, fs, h8⟩ ?_
    refine Exists.intro _ (And.intro a0 ?_)
    refine And.intro ⟨ok_cl O hE, mGg (o3 := some _) (o4 := some _) (o5 := some _) (o6 := some _) hl hn hr rfl⟩ ?_
    refine And.intro h0 ?_
    exact h70
end FIX
