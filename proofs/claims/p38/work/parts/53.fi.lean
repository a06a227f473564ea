/-! THE LAW: firings -/
section FIW
variable {sn : Nat} {sf : Nat → Int32} {w v : aW} {l : List aW} {k : aW} {H E : aH} {d n0 i j m p q a N : Nat} {x c heat most nI fi an y Y t : Int32} {f : Nat → Int32} {o : Option Int32} {P : aR → Prop}
noncomputable abbrev mFf (n0 d : Nat) : aS → Option (aS ⊕ aR) := mStep n0 (d + 8) (mRun (d + 8)) [] aB_L_fires (some .boolean)
abbrev fA (E : aH) (N : Nat) (f : Nat → Int32) : aH := E ++ [(true, .inl (.int, N, .inl f))]
abbrev fS (pc : Nat) (H E : aH) (N : Nat) (f : Nat → Int32) (x c heat most nI fi an y : Int32) (o : Option Int32) (st : List Value) (p q : Nat) : aS := (pc, [some (.ref 5), some (.ref 8), some (.int x), some (.int c), some (.int heat), some (.int most), some (.int nI), some (.ref (252 + E.length)), some (.int fi), some (.int an), some (.int y), o.map Value.int], st, H ++ fA E N f, (p, q))
theorem mls_f {M r : Nat} {st : List Value} (h8 : 8 < M) (hr : r < M) (hs : st.all (mV1 M) = true) : mLs M [some (.ref 5), some (.ref 8), some (.int x), some (.int c), some (.int heat), some (.int most), some (.int nI), some (.ref r), some (.int fi), some (.int an), some (.int y), o.map Value.int] st = true := by
  unfold mLs
  rw [Bool.and_eq_true]
  refine ⟨?_, hs⟩
  simp only [List.all_cons, List.all_nil]
  rw [mlo_i (c := o)]
  show (decide (5 < M) && (decide (8 < M) && (true && (true && (true && (true && (true && (decide (r < M) && (true && (true && (true && (true && true)))))))))))) = true
  rw [decide_eq_true h8, decide_eq_true hr, decide_eq_true (show 5 < M by omega)]
  rfl
theorem ms2 {M : Nat} {x : Int32} {r : List Value} (h8 : 8 < M) (hr : r.all (mV1 M) = true) : (Value.int x :: .ref 8 :: r).all (mV1 M) = true := by
  simp only [List.all_cons, mV1, hr, decide_eq_true h8, Bool.and_self]
theorem ms1 {M : Nat} {r : List Value} (h8 : 8 < M) (hr : r.all (mV1 M) = true) : (Value.ref 8 :: r).all (mV1 M) = true := by
  simp only [List.all_cons, mV1, hr, decide_eq_true h8, Bool.and_self]
theorem msr {M r : Nat} {x : Int32} (hr : r < M) : ([.int x, .ref r] : List Value).all (mV1 M) = true := by
  simp only [List.all_cons, List.all_nil, mV1, decide_eq_true hr, Bool.and_self]
theorem mG3 {st : List Value} (hl : H.length = 252) (hn : n0 ≤ 253 + E.length) (hs : st.all (mV1 (253 + E.length)) = true) : mG n0 [some (.ref 5), some (.ref 8), some (.int x), some (.int c), some (.int heat), some (.int most), some (.int nI), some (.ref (252 + E.length)), some (.int fi), some (.int an), some (.int y), o.map Value.int] st (H ++ fA E N f) := mG1 hl hn (mls_f (by omega) (by omega) hs)
/-- the heat a ware would be fired at; -3: none -/
def fAt (w : aW) (j : Nat) (Y t : Int32) : Prop := (wFires w j = true ∧ t = wHeat w j Y ∧ ∃ c, c ≤ 1400 ∧ t = Int32.ofNat c) ∨ (wFires w j = false ∧ t = -3)
theorem l_f1 (O : OK sn sf w l k H) (hn : n0 ≤ 253 + E.length) (hy : y = Int32.ofNat j) (hj : j < nw w) (hN : nI = Int32.ofNat (nw w)) (hm : (if 1000 < heat then heat else 1000) = Y) (hY : Y = Int32.ofNat a) (h1 : 1000 ≤ a) (h2 : a ≤ 1400) (he : ∀ t p1 q1, fAt w j Y t → p1 ≤ p + 1 → q1 ≤ q + 6 → mE (mFf n0 d) (fS 112 H E N f x c heat most nI fi an y o [.int t] p1 q1) P) : mE (mFf n0 d) (fS 70 H E N f x c heat most nI fi an y o [] p q) P := by
  have hok : wOk w (nw w) (gw w) (ow w) := ok_okk O
  have hle := hok.1.2.1
  have hg8 := hok.1.2.2.2.1
  have hl := ok_len O
  have c2 := V_ware (E := fA E N f) (d := d + 1) (x := y) (y := 2) (v := w 1 j) O hy hj ⟨by decide, by decide⟩ rfl
  have c5 := V_ware (E := fA E N f) (d := d + 1) (x := y) (y := 5) (v := w 4 j) O hy hj ⟨by decide, by decide⟩ rfl
  have hYr : 1000 ≤ Y ∧ Y ≤ 1400 := ⟨(zI_le (x := 1000) (i := 1000) rfl hY (by omega) (by omega)).mpr h1, (zI_le (y := 1400) (n := 1400) hY rfl (by omega) (by omega)).mpr h2⟩
  rcases fires_cases hok hj with ⟨h, hf⟩ | ⟨h, k, hk, e4, ⟨h8, hf⟩ | ⟨h8, hf, b, L, hb, hL, eb, eL⟩⟩
  · have h3 := he (-3) p q (Or.inr ⟨hf, rfl⟩) (by omega) (by omega)
    refine mVn_P (stop := fun p => p == 112) 60 ?_
    refine And.intro (fun q => absurd (zgeT q hy hN (by omega) (by omega)) (by omega)) (fun _ => ?_)
    refine And.intro (mG3 hl hn (ms3 (by omega) rfl)) ?_
    refine Exists.intro _ (Exists.intro _ (Exists.intro _ (And.intro c2 ?_)))
    refine And.intro (fun _ => ?_) (fun q => absurd h (cF q))
    exact h3
  · have h3 := he (-3) (p + 1) (q + 6) (Or.inr ⟨hf, rfl⟩) (by omega) (by omega)
    have ch := V_heatFl (E := fA E N f) (d := d + 1) (x := w 4 j) (y := Y) O e4 hk hYr h8
    refine mVn_P (stop := fun p => p == 112) 60 ?_
    refine And.intro (fun q => absurd (zgeT q hy hN (by omega) (by omega)) (by omega)) (fun _ => ?_)
    refine And.intro (mG3 hl hn (ms3 (by omega) rfl)) ?_
    refine Exists.intro _ (Exists.intro _ (Exists.intro _ (And.intro c2 ?_)))
    refine And.intro (fun q => absurd h (cT q)) (fun _ => ?_)
    refine And.intro (mG3 hl hn (ms3 (by omega) (ms1 (by omega) rfl))) ?_
    refine Exists.intro _ (Exists.intro _ (Exists.intro _ (And.intro c5 ?_)))
    refine Exists.intro _ (And.intro (aNat_mx (by exact Nat.le_of_ble_eq_true rfl) hm) ?_)
    refine And.intro (mG3 hl hn (ms3 (by omega) rfl)) ?_
    refine Exists.intro _ (Exists.intro _ (Exists.intro _ (And.intro ch ?_)))
    exact h3
  · obtain ⟨cc, hcc, ecc⟩ := heat_n hY h1 h2 hb hL
    have ez : zn (w 4 j) = k := zn_of e4 (by omega)
    have eh : wHeat w j Y = Y - 10 * w 9 k - 5 * w 8 k := by
      unfold wHeat
      rw [ez]
    have h3 := he (Y - 10 * w 9 k - 5 * w 8 k) p q (Or.inl ⟨hf, eh.symm, cc, hcc, by rw [eb, eL]; exact ecc⟩) (by omega) (by omega)
    have ch := V_heatAt (E := fA E N f) (d := d + 1) (x := w 4 j) (y := Y) O e4 hk hYr h8
    refine mVn_P (stop := fun p => p == 112) 60 ?_
    refine And.intro (fun q => absurd (zgeT q hy hN (by omega) (by omega)) (by omega)) (fun _ => ?_)
    refine And.intro (mG3 hl hn (ms3 (by omega) rfl)) ?_
    refine Exists.intro _ (Exists.intro _ (Exists.intro _ (And.intro c2 ?_)))
    refine And.intro (fun q => absurd h (cT q)) (fun _ => ?_)
    refine And.intro (mG3 hl hn (ms3 (by omega) (ms1 (by omega) rfl))) ?_
    refine Exists.intro _ (Exists.intro _ (Exists.intro _ (And.intro c5 ?_)))
    refine Exists.intro _ (And.intro (aNat_mx (by exact Nat.le_of_ble_eq_true rfl) hm) ?_)
    refine And.intro (mG3 hl hn (ms3 (by omega) rfl)) ?_
    refine Exists.intro _ (Exists.intro _ (Exists.intro _ (And.intro ch ?_)))
    exact h3
theorem l_f2 (O : OK sn sf w l k H) (hn : n0 ≤ 253 + E.length) (hy : y = Int32.ofNat j) (hj : j < nw w) (ht : fAt w j Y t) (he : mE (mFf n0 d) (fS 143 H E (nw w) (upd f j (wThen w Y j)) x c heat most nI fi an y (some t) [] p q) P) : mE (mFf n0 d) (fS 112 H E (nw w) f x c heat most nI fi an y o [.int t] p q) P := by
  have hok : wOk w (nw w) (gw w) (ow w) := ok_okk O
  have hle := hok.1.2.1
  have hl := ok_len O
  have hix : aIx y (nw w) = some j := aIx_of hy hj (by omega)
  rcases ht with ⟨hf, et, cc, hcc, ec⟩ | ⟨hf, et⟩
  · have c1 := V_wouldBe (E := fA E (nw w) f) (d := d + 1) (x := y) (y := t) O hy hj ⟨(zI_le (x := 0) (i := 0) rfl ec (by omega) (by omega)).mpr (by omega), (zI_le (y := 2000) (n := 2000) ec rfl (by omega) (by omega)).mpr (by omega)⟩
    have e : wGrade w j t = wThen w Y j := by
      unfold wThen
      rw [if_pos hf, et]
    rw [e] at c1
    refine mVn_P (stop := fun p => p == 143) 60 ?_
    refine And.intro (fun q => absurd (show t < 0 from cT q) (by rw [ec]; exact ofN_lt0 (by omega))) (fun _ => ?_)
    refine And.intro (mG3 (o := some t) hl hn (ms3 (by omega) (msr (by omega)))) ?_
    refine Exists.intro _ (Exists.intro _ (Exists.intro _ (And.intro c1 ?_)))
    refine Exists.intro (nw w) (Exists.intro f (Exists.intro j (Exists.intro _ (And.intro (e_at hl) (And.intro hix (And.intro (e_set hl) ?_))))))
    exact he
  · have c1 := V_ware (E := fA E (nw w) f) (d := d + 1) (x := y) (y := 6) (v := wThen w Y j) O hy hj ⟨by decide, by decide⟩ (by
      unfold wThen
      rw [if_neg (by rw [hf]; decide)]
      rfl)
    subst et
    refine mVn_P (stop := fun p => p == 143) 60 ?_
    refine And.intro (fun _ => ?_) (fun q => absurd q (by decide))
    refine And.intro (mG3 (o := some (-3)) hl hn (ms3 (by omega) (msr (by omega)))) ?_
    refine Exists.intro _ (Exists.intro _ (Exists.intro _ (And.intro c1 ?_)))
    refine Exists.intro (nw w) (Exists.intro f (Exists.intro j (Exists.intro _ (And.intro (e_at hl) (And.intro hix (And.intro (e_set hl) ?_))))))
    exact he
theorem l_f3 (hl : H.length = 252) (hy : y = Int32.ofNat j) (hj : j < N) (hN : N < 100000) (ht : fAt w j Y t) (hv : f j = wThen w Y j) (he : mE (mFf n0 d) (fS 167 H E N f x c heat most nI (fi + (if wFires w j = true ∧ wGrade w j (wHeat w j Y) = 1 then 1 else 0)) an y (some t) [] p q) P) : mE (mFf n0 d) (fS 143 H E N f x c heat most nI fi an y (some t) [] p q) P := by
  have hix : aIx y N = some j := aIx_of hy hj (by omega)
  rcases ht with ⟨hf, et, cc, hcc, ec⟩ | ⟨hf, et⟩
  · have hv : f j = wGrade w j (wHeat w j Y) := by
      rw [hv]
      exact if_pos hf
    by_cases h1 : wGrade w j (wHeat w j Y) = 1
    · rw [if_pos ⟨hf, h1⟩] at he
      refine mVn_P (stop := fun p => p == 167) 60 ?_
      refine And.intro (fun q => absurd (show t < 0 from cT q) (by rw [ec]; exact ofN_lt0 (by omega))) (fun _ => ?_)
      refine Exists.intro true (Exists.intro N (Exists.intro f (Exists.intro j (And.intro (e_at hl) (And.intro hix ?_)))))
      refine And.intro (fun q => absurd (hv.trans h1) (cT q)) (fun _ => ?_)
      exact he
    · rw [if_neg (fun q => h1 q.2)] at he
      refine mVn_P (stop := fun p => p == 167) 60 ?_
      refine And.intro (fun q => absurd (show t < 0 from cT q) (by rw [ec]; exact ofN_lt0 (by omega))) (fun _ => ?_)
      refine Exists.intro true (Exists.intro N (Exists.intro f (Exists.intro j (And.intro (e_at hl) (And.intro hix ?_)))))
      refine And.intro (fun _ => ?_) (fun q => absurd (fun z => h1 (hv.symm.trans z)) (cF q))
      exact he
  · rw [if_neg (fun q => absurd (hf.symm.trans q.1) (by decide))] at he
    subst et
    refine mVn_P (stop := fun p => p == 167) 60 ?_
    refine And.intro (fun _ => ?_) (fun q => absurd q (by decide))
    exact he
theorem l_f4 (ht : fAt w j Y t) (han : an = 0 ∨ an = 1) (he : ∀ a1, ((a1 = 1 ∧ (an = 1 ∨ wFires w j = true)) ∨ (a1 = 0 ∧ an = 0 ∧ wFires w j = false)) → mE (mFf n0 d) (fS 70 H E N f x c heat most nI fi a1 (y + 1) (some t) [] p q) P) : mE (mFf n0 d) (fS 167 H E N f x c heat most nI fi an y (some t) [] p q) P := by
  rcases han with rfl | rfl
  · rcases ht with ⟨hf, et, cc, hcc, ec⟩ | ⟨hf, et⟩
    · have h := he 1 (Or.inl ⟨rfl, Or.inr hf⟩)
      refine mVn_P (stop := fun p => p == 70) 60 ?_
      refine And.intro (fun q => absurd q (by decide)) (fun _ => ?_)
      refine And.intro (fun q => absurd (show t < 0 from cT q) (by rw [ec]; exact ofN_lt0 (by omega))) (fun _ => ?_)
      exact h
    · have h := he 0 (Or.inr ⟨rfl, rfl, hf⟩)
      subst et
      refine mVn_P (stop := fun p => p == 70) 60 ?_
      refine And.intro (fun q => absurd q (by decide)) (fun _ => ?_)
      refine And.intro (fun _ => ?_) (fun q => absurd q (by decide))
      exact h
  · have h := he 1 (Or.inl ⟨rfl, Or.inl rfl⟩)
    refine mVn_P (stop := fun p => p == 70) 60 ?_
    refine And.intro (fun _ => ?_) (fun q => absurd q (by decide))
    exact h
/-- all wares: what they would be -/
theorem l_f5 (O : OK sn sf w l k H) (hn : n0 ≤ 253 + E.length) (hN : nI = Int32.ofNat (nw w)) (hm : (if 1000 < heat then heat else 1000) = Y) (hY : Y = Int32.ofNat a) (h1 : 1000 ≤ a) (h2 : a ≤ 1400) (he : ∀ f an o p1 q1, (∀ j, j < nw w → f j = wThen w Y j) → ((an = 0 ∧ wAny w (nw w) = 0) ∨ (an = 1 ∧ ¬ wAny w (nw w) = 0)) → p1 ≤ p + 60 → q1 ≤ q + 360 → mE (mFf n0 d) (fS 190 H E (nw w) f x c heat most nI (wFirsts w (nw w) Y) an nI o [] p1 q1) P) : mE (mFf n0 d) (fS 70 H E (nw w) (fun _ => 0) x c heat most nI 0 0 0 o [] p q) P := by
  have hok : wOk w (nw w) (gw w) (ow w) := ok_okk O
  have hle := hok.1.2.1
  have hl := ok_len O
  refine k_inv0 (S := fun (u : (Nat → Int32) × Int32 × Int32 × Option Int32 × Nat × Nat) y => fS 70 H E (nw w) u.1 x c heat most nI u.2.1 u.2.2.1 y u.2.2.2.1 [] u.2.2.2.2.1 u.2.2.2.2.2) (Inv := fun i u => (∀ j, j < i → u.1 j = wThen w Y j) ∧ u.2.1 = aSm (fun j => if wFires w j = true ∧ wGrade w j (wHeat w j Y) = 1 then 1 else 0) i 0 ∧ ((u.2.2.1 = 0 ∧ ∀ j, j < i → wFires w j = false) ∨ (u.2.2.1 = 1 ∧ ∃ j, j < i ∧ wFires w j = true)) ∧ u.2.2.2.2.1 ≤ p + i ∧ u.2.2.2.2.2 ≤ q + 6 * i) (n := nw w) (u := (fun _ => 0, 0, 0, o, p, q)) ⟨fun j hj => absurd hj (Nat.not_lt_zero j), rfl, Or.inl ⟨rfl, fun j hj => absurd hj (Nat.not_lt_zero j)⟩, Nat.le_refl p, Nat.le_refl q⟩ (fun i y u hi hy hu ih => ?_) (fun y u hy hu => ?_)
  · obtain ⟨f, fi, an, o, p1, q1⟩ := u
    obtain ⟨h3, h4, h5, h6, h7⟩ := hu
    have h3 : ∀ j, j < i → f j = wThen w Y j := h3
    have h4 : fi = aSm (fun j => if wFires w j = true ∧ wGrade w j (wHeat w j Y) = 1 then 1 else 0) i 0 := h4
    have h5 : (an = 0 ∧ ∀ j, j < i → wFires w j = false) ∨ (an = 1 ∧ ∃ j, j < i ∧ wFires w j = true) := h5
    have h6 : p1 ≤ p + i := h6
    have h7 : q1 ≤ q + 6 * i := h7
    show mE (mFf n0 d) (fS 70 H E (nw w) f x c heat most nI fi an y o [] p1 q1) P
    refine l_f1 O hn hy hi hN hm hY h1 h2 fun t p2 q2 ht hp hq => ?_
    refine l_f2 O hn hy hi ht ?_
    have eu : upd f i (wThen w Y i) i = wThen w Y i := if_pos rfl
    refine l_f3 hl hy hi (by omega) ht eu ?_
    refine l_f4 ht (h5.elim (fun z => Or.inl z.1) (fun z => Or.inr z.1)) fun a1 ha => ?_
    refine ih (upd f i (wThen w Y i), fi + (if wFires w i = true ∧ wGrade w i (wHeat w i Y) = 1 then 1 else 0), a1, some t, p2, q2) ⟨fun j hj => ?_, ?_, ?_, by show p2 ≤ p + (i + 1); omega, by show q2 ≤ q + 6 * (i + 1); omega⟩
    · show (if j = i then wThen w Y i else f j) = _
      by_cases e : j = i
      · rw [if_pos e, e]
      · rw [if_neg e]
        exact h3 j (by omega)
    · show fi + _ = _
      rw [aSm_cnt, h4]
    · show (a1 = 0 ∧ ∀ j, j < i + 1 → wFires w j = false) ∨ (a1 = 1 ∧ ∃ j, j < i + 1 ∧ wFires w j = true)
      rcases ha with ⟨ha, hb⟩ | ⟨ha, hb, hc⟩
      · refine Or.inr ⟨ha, ?_⟩
        rcases hb with hb | hb
        · rcases h5 with ⟨z, -⟩ | ⟨-, j, hj, z⟩
          · exact absurd (z.symm.trans hb) (by decide)
          · exact ⟨j, by omega, z⟩
        · exact ⟨i, by omega, hb⟩
      · refine Or.inl ⟨ha, fun j hj => ?_⟩
        rcases h5 with ⟨-, z⟩ | ⟨z, -⟩
        · by_cases e : j = i
          · rw [e]
            exact hc
          · exact z j (by omega)
        · exact absurd (z.symm.trans hb) (by decide)
  · obtain ⟨f, fi, an, o, p1, q1⟩ := u
    obtain ⟨h3, h4, h5, h6, h7⟩ := hu
    have h4 : fi = wFirsts w (nw w) Y := h4
    have h5 : (an = 0 ∧ ∀ j, j < nw w → wFires w j = false) ∨ (an = 1 ∧ ∃ j, j < nw w ∧ wFires w j = true) := h5
    have h6 : p1 ≤ p + nw w := h6
    have h7 : q1 ≤ q + 6 * nw w := h7
    have ey : y = nI := hy.trans hN.symm
    subst h4
    subst ey
    have h := he f an o p1 q1 h3 (h5.elim (fun z => Or.inl ⟨z.1, any_iff.mpr z.2⟩) (fun z => Or.inr ⟨z.1, fun q => z.2.elim fun j hj => absurd (any_iff.mp q j hj.1) (by rw [hj.2]; decide)⟩)) (by omega) (by omega)
    show mE (mFf n0 d) (fS 70 H E (nw w) f x c heat most y (wFirsts w (nw w) Y) an y o [] p1 q1) P
    refine mVn_P (stop := fun p => p == 190) 60 ?_
    refine And.intro (fun _ => ?_) (fun q => absurd (zgeF q hy hN (by omega) (by omega)) (by omega))
    exact h
end FIW
