/-! THE LAW: stacks -/
/-- rooms and loads kept -/
def Ld (w : aW) : Prop := ∀ j, j < gw w → wHeld w (nw w) (Int32.ofNat j) ≤ 6 ∧ wLoad w (nw w) (gw w) (Int32.ofNat j) ≤ w 0 2
theorem mLs_kA {a b c d e f : Int32} {o7 o8 o9 : Option Int32} {st : List Value} (hs : st.all (mV1 252) = true) : mLs 252 [some (.ref 8), some (.int a), some (.int b), some (.int c), some (.int d), some (.int e), some (.int f), o7.map Value.int, o8.map Value.int, o9.map Value.int] st = true := by
  unfold mLs
  rw [Bool.and_eq_true]
  refine ⟨?_, hs⟩
  simp only [List.all_cons, List.all_nil]
  rw [mlo_i (c := o7), mlo_i (c := o8), mlo_i (c := o9)]
  rfl
theorem mLs_k0 {a b c : Int32} {o4 o5 o6 o7 o8 o9 : Option Int32} {st : List Value} (hs : st.all (mV1 252) = true) : mLs 252 [some (.ref 8), some (.int a), some (.int b), some (.int c), o4.map Value.int, o5.map Value.int, o6.map Value.int, o7.map Value.int, o8.map Value.int, o9.map Value.int] st = true := by
  unfold mLs
  rw [Bool.and_eq_true]
  refine ⟨?_, hs⟩
  simp only [List.all_cons, List.all_nil]
  rw [mlo_i (c := o4), mlo_i (c := o5), mlo_i (c := o6), mlo_i (c := o7), mlo_i (c := o8), mlo_i (c := o9)]
  rfl
theorem fcmp_eq {a : UInt32} (h : FP.Core.val32 a ≠ .nan) : Op.cmpValue (FP.fcmp a a) .l = 0 := by
  have e : FP.fcmp a a = some .eq := od_eq h
  rw [e]
  rfl
section STK
variable {sn : Nat} {sf : Nat → Int32} {w : aW} {l : List aW} {k : aW} {H E : aH} {d n0 i j : Nat} {P : aR → Prop} {a b c e m x y u v : Int32} {o4 o5 o6 o7 o8 o9 : Option Int32}
noncomputable abbrev mFk (H E : aH) (d : Nat) : aS → Option (aS ⊕ aR) := mStep (H ++ E).length (d + 7) (mRun (d + 7)) [] aB_L_stacks (some .boolean)
abbrev kA (pc : Nat) (H E : aH) (a b c e m x : Int32) (o7 o8 o9 : Option Int32) : aS := (pc, [some (.ref 8), some (.int a), some (.int b), some (.int c), some (.int e), some (.int m), some (.int x), o7.map Value.int, o8.map Value.int, o9.map Value.int], [], H ++ E, (0, 0))
abbrev kB9 (pc : Nat) (H E : aH) (a b c e m x y u v : Int32) : aS := (pc, [some (.ref 8), some (.int a), some (.int b), some (.int c), some (.int e), some (.int m), some (.int x), some (.int y), some (.int u), some (.int v)], [], H ++ E, (0, 0))
abbrev k0S (pc : Nat) (H E : aH) (a b c : Int32) (o4 o5 o6 o7 o8 o9 : Option Int32) : aS := (pc, [some (.ref 8), some (.int a), some (.int b), some (.int c), o4.map Value.int, o5.map Value.int, o6.map Value.int, o7.map Value.int, o8.map Value.int, o9.map Value.int], [], H ++ E, (0, 0))
theorem kd_4 {v : Int32} (h : ∃ k, aIx v 4 = some k) : (v = 0 ∧ fSz v = 2) ∨ (v = 1 ∧ fSz v = 1) ∨ (v = 2 ∧ fSz v = 3) ∨ (v = 3 ∧ fSz v = 4) := by
  obtain ⟨c, hc, rfl⟩ := kd_lt h
  match c, hc with
  | 0, _ => exact Or.inl ⟨rfl, by decide⟩
  | 1, _ => exact Or.inr (Or.inl ⟨rfl, by decide⟩)
  | 2, _ => exact Or.inr (Or.inr (Or.inl ⟨rfl, by decide⟩))
  | 3, _ => exact Or.inr (Or.inr (Or.inr ⟨rfl, by decide⟩))
/-- what lies in a saggar -/
theorem l_sk1 (O : OK sn sf w l k H) (hc : c = Int32.ofNat j) (hj : j < gw w) (he : ∀ x o7 o8, mE (mFk H E d) (kA 120 H E a b c (wHeld w (nw w) (Int32.ofNat j)) (wIn w (nw w) (Int32.ofNat j)) x o7 o8 o9) P) : mE (mFk H E d) (kA 25 H E a b c 0 0 0 o7 o8 o9) P := by
  have hok : wOk w (nw w) (gw w) (ow w) := ok_okk O
  have hle := hok.1.2.1
  obtain ⟨fs, h8⟩ := ok_8 O (E := E)
  have ha := C_account (E := E) (d := d + 1) (x := 0) O ⟨by decide, by decide⟩ (acc_0 w _ _ _)
  refine k_inv0 (S := fun (u : Int32 × Int32 × Option Int32 × Option Int32) x => kA 25 H E a b c u.1 u.2.1 x u.2.2.1 u.2.2.2 o9) (Inv := fun i u => u.1 = aSm (fun j1 => if w 4 j1 = Int32.ofNat j then fSz (w 6 j1) else 0) i 0 ∧ u.2.1 = aSm (fun j1 => if w 4 j1 = Int32.ofNat j then 1 else 0) i 0) (n := nw w) (u := (0, 0, o7, o8)) ⟨rfl, rfl⟩ (fun i x u hi hx hu ih => ?_) (fun x u hx hu => ?_)
  · obtain ⟨e, m, o7, o8⟩ := u
    obtain ⟨h1, h2⟩ := hu
    have h1 : e = aSm (fun j1 => if w 4 j1 = Int32.ofNat j then fSz (w 6 j1) else 0) i 0 := h1
    have h2 : m = aSm (fun j1 => if w 4 j1 = Int32.ofNat j then 1 else 0) i 0 := h2
    have c5 := V_ware (E := E) (d := d) (x := x) (y := 5) (v := w 4 i) O hx hi ⟨by decide, by decide⟩ rfl
    have c0 := V_ware (E := E) (d := d) (x := x) (y := 0) (v := w 6 i) O hx hi ⟨by decide, by decide⟩ rfl
    show mE (mFk H E d) (kA 25 H E a b c e m x o7 o8 o9) P
    by_cases hin : w 4 i = c
    · have ih2 := ih (e + fSz (w 6 i), m + 1, some 1, some (w 6 i)) ⟨by show _ = aSm _ (i + 1) 0; rw [aSm_cnt, if_pos (hin.trans hc), h1], by show _ = aSm _ (i + 1) 0; rw [aSm_cnt, if_pos (hin.trans hc), h2]⟩
      have ih2 : mE (mFk H E d) (kA 25 H E a b c (e + fSz (w 6 i)) (m + 1) (x + 1) (some 1) (some (w 6 i)) o9) P := ih2
      rcases kd_4 (hok.kinds i hi) with ⟨hk, hz⟩ | ⟨hk, hz⟩ | ⟨hk, hz⟩ | ⟨hk, hz⟩
      · rw [hz, hk] at ih2
        rw [hk] at c0
        refine mVn_P (stop := fun p => p == 25) 120 ?_
        refine And.intro ⟨by decide, fs, h8⟩ ?_
        refine Exists.intro _ (And.intro ha ?_)
        refine And.intro (fun q => absurd (zgeT q hx hok.1.1 (by omega) (by omega)) (by omega)) (fun _ => ?_)
        refine And.intro (mG0 O (Nat.le_refl _) (mLs_kA rfl)) ?_
        refine Exists.intro _ (Exists.intro _ (Exists.intro _ (And.intro c5 ?_)))
        refine And.intro (fun q => absurd hin (cT q)) (fun _ => ?_)
        refine And.intro (mG0 O (Nat.le_refl _) (mLs_kA (o7 := some 1) rfl)) ?_
        refine Exists.intro _ (Exists.intro _ (Exists.intro _ (And.intro c0 ?_)))
        (first | refine And.intro (fun c => absurd c (by decide)) (fun _ => ?_) | refine And.intro (fun _ => ?_) (fun c => absurd c (by decide)))
        (first | refine And.intro (fun c => absurd c (by decide)) (fun _ => ?_) | refine And.intro (fun _ => ?_) (fun c => absurd c (by decide)))
        (first | refine And.intro (fun c => absurd c (by decide)) (fun _ => ?_) | refine And.intro (fun _ => ?_) (fun c => absurd c (by decide)))
        exact ih2
      · rw [hz, hk] at ih2
        rw [hk] at c0
        refine mVn_P (stop := fun p => p == 25) 120 ?_
        refine And.intro ⟨by decide, fs, h8⟩ ?_
        refine Exists.intro _ (And.intro ha ?_)
        refine And.intro (fun q => absurd (zgeT q hx hok.1.1 (by omega) (by omega)) (by omega)) (fun _ => ?_)
        refine And.intro (mG0 O (Nat.le_refl _) (mLs_kA rfl)) ?_
        refine Exists.intro _ (Exists.intro _ (Exists.intro _ (And.intro c5 ?_)))
        refine And.intro (fun q => absurd hin (cT q)) (fun _ => ?_)
        refine And.intro (mG0 O (Nat.le_refl _) (mLs_kA (o7 := some 1) rfl)) ?_
        refine Exists.intro _ (Exists.intro _ (Exists.intro _ (And.intro c0 ?_)))
        (first | refine And.intro (fun c => absurd c (by decide)) (fun _ => ?_) | refine And.intro (fun _ => ?_) (fun c => absurd c (by decide)))
        (first | refine And.intro (fun c => absurd c (by decide)) (fun _ => ?_) | refine And.intro (fun _ => ?_) (fun c => absurd c (by decide)))
        (first | refine And.intro (fun c => absurd c (by decide)) (fun _ => ?_) | refine And.intro (fun _ => ?_) (fun c => absurd c (by decide)))
        (first | refine And.intro (fun c => absurd c (by decide)) (fun _ => ?_) | refine And.intro (fun _ => ?_) (fun c => absurd c (by decide)))
        exact ih2
      · rw [hz, hk] at ih2
        rw [hk] at c0
        refine mVn_P (stop := fun p => p == 25) 120 ?_
        refine And.intro ⟨by decide, fs, h8⟩ ?_
        refine Exists.intro _ (And.intro ha ?_)
        refine And.intro (fun q => absurd (zgeT q hx hok.1.1 (by omega) (by omega)) (by omega)) (fun _ => ?_)
        refine And.intro (mG0 O (Nat.le_refl _) (mLs_kA rfl)) ?_
        refine Exists.intro _ (Exists.intro _ (Exists.intro _ (And.intro c5 ?_)))
        refine And.intro (fun q => absurd hin (cT q)) (fun _ => ?_)
        refine And.intro (mG0 O (Nat.le_refl _) (mLs_kA (o7 := some 1) rfl)) ?_
        refine Exists.intro _ (Exists.intro _ (Exists.intro _ (And.intro c0 ?_)))
        (first | refine And.intro (fun c => absurd c (by decide)) (fun _ => ?_) | refine And.intro (fun _ => ?_) (fun c => absurd c (by decide)))
        (first | refine And.intro (fun c => absurd c (by decide)) (fun _ => ?_) | refine And.intro (fun _ => ?_) (fun c => absurd c (by decide)))
        (first | refine And.intro (fun c => absurd c (by decide)) (fun _ => ?_) | refine And.intro (fun _ => ?_) (fun c => absurd c (by decide)))
        (first | refine And.intro (fun c => absurd c (by decide)) (fun _ => ?_) | refine And.intro (fun _ => ?_) (fun c => absurd c (by decide)))
        exact ih2
      · rw [hz, hk] at ih2
        rw [hk] at c0
        refine mVn_P (stop := fun p => p == 25) 120 ?_
        refine And.intro ⟨by decide, fs, h8⟩ ?_
        refine Exists.intro _ (And.intro ha ?_)
        refine And.intro (fun q => absurd (zgeT q hx hok.1.1 (by omega) (by omega)) (by omega)) (fun _ => ?_)
        refine And.intro (mG0 O (Nat.le_refl _) (mLs_kA rfl)) ?_
        refine Exists.intro _ (Exists.intro _ (Exists.intro _ (And.intro c5 ?_)))
        refine And.intro (fun q => absurd hin (cT q)) (fun _ => ?_)
        refine And.intro (mG0 O (Nat.le_refl _) (mLs_kA (o7 := some 1) rfl)) ?_
        refine Exists.intro _ (Exists.intro _ (Exists.intro _ (And.intro c0 ?_)))
        (first | refine And.intro (fun c => absurd c (by decide)) (fun _ => ?_) | refine And.intro (fun _ => ?_) (fun c => absurd c (by decide)))
        (first | refine And.intro (fun c => absurd c (by decide)) (fun _ => ?_) | refine And.intro (fun _ => ?_) (fun c => absurd c (by decide)))
        (first | refine And.intro (fun c => absurd c (by decide)) (fun _ => ?_) | refine And.intro (fun _ => ?_) (fun c => absurd c (by decide)))
        (first | refine And.intro (fun c => absurd c (by decide)) (fun _ => ?_) | refine And.intro (fun _ => ?_) (fun c => absurd c (by decide)))
        exact ih2
    · have ih2 := ih (e + 0, m + 0, some 0, some (w 6 i)) ⟨by show _ = aSm _ (i + 1) 0; rw [aSm_cnt, if_neg (fun q => hin (q.trans hc.symm)), h1], by show _ = aSm _ (i + 1) 0; rw [aSm_cnt, if_neg (fun q => hin (q.trans hc.symm)), h2]⟩
      have ih2 : mE (mFk H E d) (kA 25 H E a b c (e + 0) (m + 0) (x + 1) (some 0) (some (w 6 i)) o9) P := ih2
      refine mVn_P (stop := fun p => p == 25) 120 ?_
      refine And.intro ⟨by decide, fs, h8⟩ ?_
      refine Exists.intro _ (And.intro ha ?_)
      refine And.intro (fun q => absurd (zgeT q hx hok.1.1 (by omega) (by omega)) (by omega)) (fun _ => ?_)
      refine And.intro (mG0 O (Nat.le_refl _) (mLs_kA rfl)) ?_
      refine Exists.intro _ (Exists.intro _ (Exists.intro _ (And.intro c5 ?_)))
      refine And.intro (fun _ => ?_) (fun q => absurd q (fun z => hin (Decidable.not_not.mp (cF z))))
      refine And.intro (mG0 O (Nat.le_refl _) (mLs_kA (o7 := some 0) rfl)) ?_
      refine Exists.intro _ (Exists.intro _ (Exists.intro _ (And.intro c0 ?_)))
      (first | refine And.intro (fun c => absurd c (by decide)) (fun _ => ?_) | refine And.intro (fun _ => ?_) (fun c => absurd c (by decide)))
      (first | refine And.intro (fun c => absurd c (by decide)) (fun _ => ?_) | refine And.intro (fun _ => ?_) (fun c => absurd c (by decide)))
      exact ih2
  · obtain ⟨e, m, o7, o8⟩ := u
    obtain ⟨h1, h2⟩ := hu
    have h1 : e = wHeld w (nw w) (Int32.ofNat j) := h1
    have h2 : m = wIn w (nw w) (Int32.ofNat j) := h2
    subst h1 h2
    show mE (mFk H E d) (kA 25 H E a b c _ _ x o7 o8 o9) P
    refine mVn_P (stop := fun p => p == 120) 60 ?_
    refine And.intro ⟨by decide, fs, h8⟩ ?_
    refine Exists.intro _ (And.intro ha ?_)
    refine And.intro (fun _ => ?_) (fun q => absurd (zgeF q hx hok.1.1 (by omega) (by omega)) (by omega))
    exact he x o7 o8
/-- the load, going up -/
theorem l_sk2 (O : OK sn sf w l k H) {bb : Nat} (hb : bb < 4) : ∀ (q L j : Nat) (u : Int32), j < gw w → L < 8 → 8 ≤ L + 1 + q → okP w j bb L → (mE (mFk H E d) (kB9 172 H E a b c e m x y (u + wAb w (nw w) (gw w) bb L) (-1)) P) → mE (mFk H E d) (kB9 143 H E a b c e m x y u (wUp w (gw w) (Int32.ofNat j))) P := by
  have hok : wOk w (nw w) (gw w) (ow w) := ok_okk O
  have hg8 := hok.1.2.2.2.1
  intro q
  induction q with
  | zero =>
    intro L j u hj hL h p he
    have hn : ∀ i, i < gw w → ¬ okP w i bb (L + 1) := fun i hi q => by
      obtain ⟨b1, L1, hb1, hL1, r⟩ := okS_in hok.2.2.1 hi (okP_k hb q)
      have := ofN_ne (by omega) (by omega) (q.2.symm.trans r.2)
      omega
    rw [up_of (by omega) hb p, at_non (fun i hi q => hn i hi q)]
    rw [ab_0 hok.2.2.1 hb hn hL, Int32.add_zero] at he
    refine mVn_P (stop := fun p => p == 172) 60 ?_
    refine And.intro (fun _ => ?_) (fun q => absurd q (by decide))
    exact he
  | succ q ih =>
    intro L j u hj hL h p he
    by_cases hx : ∃ i, i < gw w ∧ okP w i bb (L + 1)
    · obtain ⟨i, hi, r⟩ := hx
      obtain ⟨b1, L1, hb1, hL1, r1⟩ := okS_in hok.2.2.1 hi (okP_k hb r)
      have eL : L1 = L + 1 := ofN_ne (by omega) (by omega) (r1.2.symm.trans r.2)
      have h2 := ih (L + 1) i (u + (3 + wHeld w (nw w) (Int32.ofNat i))) hi (by omega) (by omega) r (by
        rw [ab_s hok.2.2.1 hb hi (by omega) r] at he
        rw [Int32.add_assoc, Int32.add_comm (3 + wHeld w (nw w) (Int32.ofNat i))]
        exact he)
      have c5 := V_of (E := E) (d := d) (x := Int32.ofNat i) (y := 5) (v := 3 + wHeld w (nw w) (Int32.ofNat i)) O rfl hi ⟨by decide, by decide⟩ rfl
      have c3 := V_of (E := E) (d := d) (x := Int32.ofNat i) (y := 3) (v := wUp w (gw w) (Int32.ofNat i)) O rfl hi ⟨by decide, by decide⟩ rfl
      rw [up_of (by omega) hb p, at_of hok.2.2.1 hi hb r]
      have nn : ¬ Int32.ofNat i < 0 := ofN_lt0 (by omega)
      refine mVn_P (stop := fun p => p == 143) 60 ?_
      refine And.intro (fun q => absurd (cT q) nn) (fun _ => ?_)
      refine And.intro (mG0 O (Nat.le_refl _) rfl) ?_
      refine Exists.intro _ (Exists.intro _ (Exists.intro _ (And.intro c5 ?_)))
      refine And.intro (mG0 O (Nat.le_refl _) rfl) ?_
      refine Exists.intro _ (Exists.intro _ (Exists.intro _ (And.intro c3 ?_)))
      exact h2
    · have hn : ∀ i, i < gw w → ¬ okP w i bb (L + 1) := fun i hi q => hx ⟨i, hi, q⟩
      rw [up_of (by omega) hb p, at_non (fun i hi q => hn i hi q)]
      rw [ab_0 hok.2.2.1 hb hn hL, Int32.add_zero] at he
      refine mVn_P (stop := fun p => p == 172) 60 ?_
      refine And.intro (fun _ => ?_) (fun q => absurd q (by decide))
      exact he
/-- what is asked of a saggar, and its load -/
abbrev hW (w : aW) (j : Nat) : Int32 := wHeld w (nw w) (Int32.ofNat j)
abbrev lW (w : aW) (j : Nat) : Int32 := wLoad w (nw w) (gw w) (Int32.ofNat j)
theorem l_sk3f (O : OK sn sf w l k H) (hL : Ld w) (hc : c = Int32.ofNat j) (hj : j < gw w) (h8j : w 8 j = -1) (h9j : w 9 j = -1) {v : Int32} (he : mE (mFk H E d) (kB9 6 H E (a + 0) (b + lW w j) (c + 1) (hW w j) (wIn w (nw w) (Int32.ofNat j)) (-1) (-1) (lW w j) 1) P) : mE (mFk H E d) (kB9 172 H E a b c (hW w j) (wIn w (nw w) (Int32.ofNat j)) (-1) (-1) (lW w j) v) P := by
  have hok : wOk w (nw w) (gw w) (ow w) := ok_okk O
  have hg8 := hok.1.2.2.2.1
  obtain ⟨fs, h8⟩ := ok_8 O (E := E)
  have nh : ¬ 6 < hW w j := Int32.not_lt.mpr (hL j hj).1
  have g2 := V_of (E := E) (d := d) (x := c) (y := 2) (v := w 8 j) O hc hj ⟨by decide, by decide⟩ (show w 8 (zn (Int32.ofNat j)) = w 8 j by rw [zn_of rfl (by omega)])
  have g0 := V_of (E := E) (d := d) (x := c) (y := 0) (v := 6 - hW w j) O hc hj ⟨by decide, by decide⟩ rfl
  have g5 := V_of (E := E) (d := d) (x := c) (y := 5) (v := 3 + hW w j) O hc hj ⟨by decide, by decide⟩ rfl
  have g6 := V_of (E := E) (d := d) (x := c) (y := 6) (v := wIn w (nw w) (Int32.ofNat j)) O hc hj ⟨by decide, by decide⟩ rfl
  have gl := C_load (E := E) (d := d + 1) (x := c) O hc hj
  have ga := C_loadAgain (E := E) (d := d + 1) (x := c) O hc hj
  have gs := C_account (E := E) (d := d + 1) (x := 16) (v := w 0 2) O ⟨by decide, by decide⟩ rfl
  have g1 := V_of (E := E) (d := d) (x := c) (y := 1) (v := w 9 j) O hc hj ⟨by decide, by decide⟩ (show w 9 (zn (Int32.ofNat j)) = w 9 j by rw [zn_of rfl (by omega)])
  rw [h8j] at g2
  rw [h9j] at g1
  refine mVn_P (stop := fun p => p == 6) 120 ?_
  refine And.intro (mG0 O (Nat.le_refl _) rfl) ?_
  refine Exists.intro _ (Exists.intro _ (Exists.intro _ (And.intro g2 ?_)))
  (first | refine And.intro (fun c => absurd c (by decide)) (fun _ => ?_) | refine And.intro (fun _ => ?_) (fun c => absurd c (by decide)))
  refine And.intro (mG0 O (Nat.le_refl _) rfl) ?_
  refine Exists.intro _ (Exists.intro _ (Exists.intro _ (And.intro g0 ?_)))
  refine And.intro (fun q => absurd rfl (cT q)) (fun _ => ?_)
  refine And.intro (fun q => absurd (cT q) nh) (fun _ => ?_)
  refine And.intro (mG0 O (Nat.le_refl _) rfl) ?_
  refine Exists.intro _ (Exists.intro _ (Exists.intro _ (And.intro g5 ?_)))
  refine And.intro (fun q => absurd rfl (cT q)) (fun _ => ?_)
  refine And.intro (mG0 O (Nat.le_refl _) rfl) ?_
  refine Exists.intro _ (Exists.intro _ (Exists.intro _ (And.intro g6 ?_)))
  refine And.intro (fun q => absurd rfl (cT q)) (fun _ => ?_)
  refine And.intro ⟨by decide, fs, h8⟩ ?_
  refine Exists.intro _ (And.intro gl ?_)
  refine And.intro (fun q => absurd rfl (cT q)) (fun _ => ?_)
  refine And.intro ⟨by decide, fs, h8⟩ ?_
  refine Exists.intro _ (And.intro ga ?_)
  refine And.intro (fun q => absurd rfl (cT q)) (fun _ => ?_)
  refine And.intro ⟨by decide, fs, h8⟩ ?_
  refine Exists.intro _ (And.intro gs ?_)
  refine And.intro (fun _ => ?_) (fun q => absurd (hL j hj).2 (cF q))
  (first | refine And.intro (fun c => absurd c (by decide)) (fun _ => ?_) | refine And.intro (fun _ => ?_) (fun c => absurd c (by decide)))
  (first | refine And.intro (fun c => absurd c (by decide)) (fun _ => ?_) | refine And.intro (fun _ => ?_) (fun c => absurd c (by decide)))
  (first | refine And.intro (fun c => absurd c (by decide)) (fun _ => ?_) | refine And.intro (fun _ => ?_) (fun c => absurd c (by decide)))
  refine And.intro (mG0 O (Nat.le_refl _) rfl) ?_
  refine Exists.intro _ (Exists.intro _ (Exists.intro _ (And.intro g1 ?_)))
  (first | refine And.intro (fun c => absurd c (by decide)) (fun _ => ?_) | refine And.intro (fun _ => ?_) (fun c => absurd c (by decide)))
  (first | refine And.intro (fun c => absurd c (by decide)) (fun _ => ?_) | refine And.intro (fun _ => ?_) (fun c => absurd c (by decide)))
  exact he
theorem l_sk3k (O : OK sn sf w l k H) (hL : Ld w) (hc : c = Int32.ofNat j) (hj : j < gw w) {bb L : Nat} (hb : bb < 4) (p : okP w j bb L) (hd0 : L = 0 → y = -1) (hd1 : ∀ L', L = L' + 1 → ∃ i, i < gw w ∧ y = Int32.ofNat i ∧ okP w i bb L' ∧ wUp w (gw w) (Int32.ofNat i) = Int32.ofNat j) {v : Int32} (he : mE (mFk H E d) (kB9 6 H E (a + 1) (b + lW w j) (c + 1) (hW w j) (wIn w (nw w) (Int32.ofNat j)) x y (lW w j) 0) P) : mE (mFk H E d) (kB9 172 H E a b c (hW w j) (wIn w (nw w) (Int32.ofNat j)) x y (lW w j) v) P := by
  have hok : wOk w (nw w) (gw w) (ow w) := ok_okk O
  have hg8 := hok.1.2.2.2.1
  obtain ⟨fs, h8⟩ := ok_8 O (E := E)
  have nh : ¬ 6 < hW w j := Int32.not_lt.mpr (hL j hj).1
  have g2 := V_of (E := E) (d := d) (x := c) (y := 2) (v := w 8 j) O hc hj ⟨by decide, by decide⟩ (show w 8 (zn (Int32.ofNat j)) = w 8 j by rw [zn_of rfl (by omega)])
  have g0 := V_of (E := E) (d := d) (x := c) (y := 0) (v := 6 - hW w j) O hc hj ⟨by decide, by decide⟩ rfl
  have g5 := V_of (E := E) (d := d) (x := c) (y := 5) (v := 3 + hW w j) O hc hj ⟨by decide, by decide⟩ rfl
  have g6 := V_of (E := E) (d := d) (x := c) (y := 6) (v := wIn w (nw w) (Int32.ofNat j)) O hc hj ⟨by decide, by decide⟩ rfl
  have gl := C_load (E := E) (d := d + 1) (x := c) O hc hj
  have ga := C_loadAgain (E := E) (d := d + 1) (x := c) O hc hj
  have gs := C_account (E := E) (d := d + 1) (x := 16) (v := w 0 2) O ⟨by decide, by decide⟩ rfl
  have g1 := V_of (E := E) (d := d) (x := c) (y := 1) (v := w 9 j) O hc hj ⟨by decide, by decide⟩ (show w 9 (zn (Int32.ofNat j)) = w 9 j by rw [zn_of rfl (by omega)])
  have nb : ¬ w 8 j < 0 := by rw [p.1]; exact ofN_lt0 (by omega)
  cases L with
  | zero =>
    have hy := hd0 rfl
    subst hy
    have e9 : w 9 j = 0 := p.2
    rw [e9] at g1
    refine mVn_P (stop := fun p => p == 6) 120 ?_
    refine And.intro (mG0 O (Nat.le_refl _) rfl) ?_
    refine Exists.intro _ (Exists.intro _ (Exists.intro _ (And.intro g2 ?_)))
    refine And.intro (fun _ => ?_) (fun q => absurd (Int32.not_lt.mp nb) (cF q))
    refine And.intro (mG0 O (Nat.le_refl _) rfl) ?_
    refine Exists.intro _ (Exists.intro _ (Exists.intro _ (And.intro g0 ?_)))
    refine And.intro (fun q => absurd rfl (cT q)) (fun _ => ?_)
    refine And.intro (fun q => absurd (cT q) nh) (fun _ => ?_)
    refine And.intro (mG0 O (Nat.le_refl _) rfl) ?_
    refine Exists.intro _ (Exists.intro _ (Exists.intro _ (And.intro g5 ?_)))
    refine And.intro (fun q => absurd rfl (cT q)) (fun _ => ?_)
    refine And.intro (mG0 O (Nat.le_refl _) rfl) ?_
    refine Exists.intro _ (Exists.intro _ (Exists.intro _ (And.intro g6 ?_)))
    refine And.intro (fun q => absurd rfl (cT q)) (fun _ => ?_)
    refine And.intro ⟨by decide, fs, h8⟩ ?_
    refine Exists.intro _ (And.intro gl ?_)
    refine And.intro (fun q => absurd rfl (cT q)) (fun _ => ?_)
    refine And.intro ⟨by decide, fs, h8⟩ ?_
    refine Exists.intro _ (And.intro ga ?_)
    refine And.intro (fun q => absurd rfl (cT q)) (fun _ => ?_)
    refine And.intro ⟨by decide, fs, h8⟩ ?_
    refine Exists.intro _ (And.intro gs ?_)
    refine And.intro (fun _ => ?_) (fun q => absurd (hL j hj).2 (cF q))
    (first | refine And.intro (fun c => absurd c (by decide)) (fun _ => ?_) | refine And.intro (fun _ => ?_) (fun c => absurd c (by decide)))
    refine And.intro (mG0 O (Nat.le_refl _) rfl) ?_
    refine Exists.intro _ (Exists.intro _ (Exists.intro _ (And.intro g1 ?_)))
    (first | refine And.intro (fun c => absurd c (by decide)) (fun _ => ?_) | refine And.intro (fun _ => ?_) (fun c => absurd c (by decide)))
    (first | refine And.intro (fun c => absurd c (by decide)) (fun _ => ?_) | refine And.intro (fun _ => ?_) (fun c => absurd c (by decide)))
    (first | refine And.intro (fun c => absurd c (by decide)) (fun _ => ?_) | refine And.intro (fun _ => ?_) (fun c => absurd c (by decide)))
    (first | refine And.intro (fun c => absurd c (by decide)) (fun _ => ?_) | refine And.intro (fun _ => ?_) (fun c => absurd c (by decide)))
    exact he
  | succ L' =>
    obtain ⟨i, hi, hy, q, hup⟩ := hd1 L' rfl
    subst hy
    have ni : ¬ Int32.ofNat i < 0 := ofN_lt0 (by omega)
    have e9 : w 9 j = w 9 i + 1 := by rw [p.2, q.2]; exact Int32.ofNat_add L' 1
    rw [e9] at g1
    have i1 := V_of (E := E) (d := d) (x := Int32.ofNat i) (y := 1) (v := w 9 i) O rfl hi ⟨by decide, by decide⟩ (show w 9 (zn (Int32.ofNat i)) = w 9 i by rw [zn_of rfl (by omega)])
    have i3 := V_of (E := E) (d := d) (x := Int32.ofNat i) (y := 3) (v := c) O rfl hi ⟨by decide, by decide⟩ (by rw [hc]; exact hup)
    have i2 := V_of (E := E) (d := d) (x := Int32.ofNat i) (y := 2) (v := w 8 j) O rfl hi ⟨by decide, by decide⟩ (show w 8 (zn (Int32.ofNat i)) = w 8 j by rw [zn_of rfl (by omega), p.1, q.1])
    refine mVn_P (stop := fun p => p == 6) 120 ?_
    refine And.intro (mG0 O (Nat.le_refl _) rfl) ?_
    refine Exists.intro _ (Exists.intro _ (Exists.intro _ (And.intro g2 ?_)))
    refine And.intro (fun _ => ?_) (fun q => absurd (Int32.not_lt.mp nb) (cF q))
    refine And.intro (mG0 O (Nat.le_refl _) rfl) ?_
    refine Exists.intro _ (Exists.intro _ (Exists.intro _ (And.intro g0 ?_)))
    refine And.intro (fun q => absurd rfl (cT q)) (fun _ => ?_)
    refine And.intro (fun q => absurd (cT q) nh) (fun _ => ?_)
    refine And.intro (mG0 O (Nat.le_refl _) rfl) ?_
    refine Exists.intro _ (Exists.intro _ (Exists.intro _ (And.intro g5 ?_)))
    refine And.intro (fun q => absurd rfl (cT q)) (fun _ => ?_)
    refine And.intro (mG0 O (Nat.le_refl _) rfl) ?_
    refine Exists.intro _ (Exists.intro _ (Exists.intro _ (And.intro g6 ?_)))
    refine And.intro (fun q => absurd rfl (cT q)) (fun _ => ?_)
    refine And.intro ⟨by decide, fs, h8⟩ ?_
    refine Exists.intro _ (And.intro gl ?_)
    refine And.intro (fun q => absurd rfl (cT q)) (fun _ => ?_)
    refine And.intro ⟨by decide, fs, h8⟩ ?_
    refine Exists.intro _ (And.intro ga ?_)
    refine And.intro (fun q => absurd rfl (cT q)) (fun _ => ?_)
    refine And.intro ⟨by decide, fs, h8⟩ ?_
    refine Exists.intro _ (And.intro gs ?_)
    refine And.intro (fun _ => ?_) (fun q => absurd (hL j hj).2 (cF q))
    (first | refine And.intro (fun c => absurd c (by decide)) (fun _ => ?_) | refine And.intro (fun _ => ?_) (fun c => absurd c (by decide)))
    refine And.intro (mG0 O (Nat.le_refl _) rfl) ?_
    refine Exists.intro _ (Exists.intro _ (Exists.intro _ (And.intro g1 ?_)))
    refine And.intro (fun _ => ?_) (fun q => absurd (Int32.not_lt.mp ni) (cF q))
    refine And.intro (mG0 O (Nat.le_refl _) rfl) ?_
    refine Exists.intro _ (Exists.intro _ (Exists.intro _ (And.intro i1 ?_)))
    refine And.intro (fun q => absurd rfl (cT q)) (fun _ => ?_)
    refine And.intro (fun q => absurd (cT q) ni) (fun _ => ?_)
    refine And.intro (mG0 O (Nat.le_refl _) rfl) ?_
    refine Exists.intro _ (Exists.intro _ (Exists.intro _ (And.intro i3 ?_)))
    refine And.intro (fun q => absurd rfl (cT q)) (fun _ => ?_)
    refine And.intro (mG0 O (Nat.le_refl _) rfl) ?_
    refine Exists.intro _ (Exists.intro _ (Exists.intro _ (And.intro i2 ?_)))
    refine And.intro (mG0 O (Nat.le_refl _) rfl) ?_
    refine Exists.intro _ (Exists.intro _ (Exists.intro _ (And.intro g2 ?_)))
    refine And.intro (fun _ => ?_) (fun q => absurd rfl (cF q))
    (first | refine And.intro (fun c => absurd c (by decide)) (fun _ => ?_) | refine And.intro (fun _ => ?_) (fun c => absurd c (by decide)))
    exact he
/-- stacks: what is asked of the saggars is so -/
theorem L_stacks (O : OK sn sf w l k H) (hL : Ld w) : mRun (d + 8) m_L_stacks [.ref 8] (H ++ E) = some (.inl (some (.int 1)), H ++ E, (0, 0)) := by
  have hok : wOk w (nw w) (gw w) (ow w) := ok_okk O
  have hg8 := hok.1.2.2.2.1
  obtain ⟨fs, h8⟩ := ok_8 O (E := E)
  have a7 := C_account (E := E) (d := d + 1) (x := 7) O ⟨by decide, by decide⟩ (acc_7 w _ _ _)
  have key : mE (mFk H E d) (k0S 6 H E 0 0 0 none none none none none none) (fun r => r = (.inl (some (.int 1)), H ++ E, (0, 0))) := by
    refine k_inv0 (S := fun (u : Int32 × Int32 × Option Int32 × Option Int32 × Option Int32 × Option Int32 × Option Int32 × Option Int32) x => k0S 6 H E u.1 u.2.1 x u.2.2.1 u.2.2.2.1 u.2.2.2.2.1 u.2.2.2.2.2.1 u.2.2.2.2.2.2.1 u.2.2.2.2.2.2.2) (Inv := fun i u => u.1 = aSm (fun j => if w 8 j = -1 then 0 else 1) i 0 ∧ u.2.1 = aSm (fun j => wLoad w (nw w) (gw w) (Int32.ofNat j)) i 0) (n := gw w) (u := (0, 0, none, none, none, none, none, none)) ⟨rfl, rfl⟩ (fun j c u hj hc hu ih => ?_) (fun c u hc hu => ?_)
    · obtain ⟨a, b, o4, o5, o6, o7, o8, o9⟩ := u
      obtain ⟨h1, h2⟩ := hu
      have h1 : a = aSm (fun j => if w 8 j = -1 then 0 else 1) j 0 := h1
      have h2 : b = aSm (fun j => wLoad w (nw w) (gw w) (Int32.ofNat j)) j 0 := h2
      have up := V_of (E := E) (d := d) (x := c) (y := 3) (v := wUp w (gw w) (Int32.ofNat j)) O hc hj ⟨by decide, by decide⟩ rfl
      have dn := V_of (E := E) (d := d) (x := c) (y := 4) (v := wDn w (gw w) (Int32.ofNat j)) O hc hj ⟨by decide, by decide⟩ rfl
      have e2 : b + lW w j = aSm (fun j => wLoad w (nw w) (gw w) (Int32.ofNat j)) (j + 1) 0 := by rw [aSm_cnt, h2]
      show mE (mFk H E d) (k0S 6 H E a b c o4 o5 o6 o7 o8 o9) _
      have h143 : mE (mFk H E d) (kB9 143 H E a b c (hW w j) (wIn w (nw w) (Int32.ofNat j)) (wUp w (gw w) (Int32.ofNat j)) (wDn w (gw w) (Int32.ofNat j)) 0 (wUp w (gw w) (Int32.ofNat j))) (fun r => r = (.inl (some (.int 1)), H ++ E, (0, 0))) := by
        rcases sg_place (n := nw w) hok.2.2.1 hg8 hj with ⟨q8, q9, qu, qd, ql⟩ | ⟨bb, L, hb, hL8, p, hd0, hd1, ql⟩
        · have ih2 := ih (a + 0, b + lW w j, some (hW w j), some (wIn w (nw w) (Int32.ofNat j)), some (-1), some (-1), some (lW w j), some 1) ⟨by show a + 0 = aSm _ (j + 1) 0; rw [aSm_cnt, if_pos q8, h1], e2⟩
          have h3 := l_sk3f (E := E) (d := d) (a := a) (b := b) (v := -1) O hL hc hj q8 q9 ih2
          rw [qu, qd]
          rw [show lW w j = 0 from ql] at h3
          refine mVn_P (stop := fun p => p == 172) 60 ?_
          refine And.intro (fun _ => ?_) (fun q => absurd q (by decide))
          exact h3
        · have ih2 := ih (a + 1, b + lW w j, some (hW w j), some (wIn w (nw w) (Int32.ofNat j)), some (wUp w (gw w) (Int32.ofNat j)), some (wDn w (gw w) (Int32.ofNat j)), some (lW w j), some 0) ⟨by show a + 1 = aSm _ (j + 1) 0; rw [aSm_cnt, if_neg (okP_k hb p), h1], e2⟩
          have h3 := l_sk3k (E := E) (d := d) (a := a) (b := b) (v := -1) O hL hc hj hb p hd0 hd1 ih2
          refine l_sk2 O hb 8 L j 0 hj hL8 (by omega) p ?_
          rw [Int32.zero_add, ← ql]
          exact h3
      have h120 : ∀ x o7 o8, mE (mFk H E d) (kA 120 H E a b c (hW w j) (wIn w (nw w) (Int32.ofNat j)) x o7 o8 o9) (fun r => r = (.inl (some (.int 1)), H ++ E, (0, 0))) := fun x o7 o8 => by
        refine mVn_P (stop := fun p => p == 143) 60 ?_
        refine And.intro (mG0 O (Nat.le_refl _) (mLs_kA rfl)) ?_
        refine Exists.intro _ (Exists.intro _ (Exists.intro _ (And.intro up ?_)))
        refine And.intro (mG0 O (Nat.le_refl _) (mLs_kA rfl)) ?_
        refine Exists.intro _ (Exists.intro _ (Exists.intro _ (And.intro dn ?_)))
        exact h143
      have h25 := l_sk1 (E := E) (d := d) (a := a) (b := b) (o7 := o7) (o8 := o8) (o9 := o9) O hc hj h120
      refine mVn_P (stop := fun p => p == 25) 60 ?_
      refine And.intro ⟨by decide, fs, h8⟩ ?_
      refine Exists.intro _ (And.intro a7 ?_)
      refine And.intro (fun q => absurd (zgeT q hc hok.1.2.2.1 (by omega) (by omega)) (by omega)) (fun _ => ?_)
      exact h25
    · obtain ⟨a, b, o4, o5, o6, o7, o8, o9⟩ := u
      obtain ⟨h1, h2⟩ := hu
      have h1 : a = wInK w (gw w) := h1
      have h2 : b = wLoads w (nw w) (gw w) := h2
      subst h1 h2
      have ib := C_balanced (E := E) (d := d + 1) O
      have a8 := C_account (E := E) (d := d + 1) (x := 8) (v := wInK w (gw w)) O ⟨by decide, by decide⟩ rfl
      obtain ⟨ck, hck, eck⟩ := cnt_n (fun j => ¬ w 8 j = -1) (gw w)
      have eik : wInK w (gw w) = Int32.ofNat ck := by
        rw [← eck]
        refine aSm_congr (gw w) 0 fun j _ _ => ?_
        by_cases h : w 8 j = -1
        · rw [if_pos h, if_neg (fun q => q h)]
        · rw [if_neg h, if_pos h]
      show mE (mFk H E d) (k0S 6 H E (wInK w (gw w)) (wLoads w (nw w) (gw w)) c o4 o5 o6 o7 o8 o9) _
      by_cases h0 : wInK w (gw w) = 0
      · refine mVn_P (stop := fun p => false) 60 ?_
        refine And.intro ⟨by decide, fs, h8⟩ ?_
        refine Exists.intro _ (And.intro a7 ?_)
        refine And.intro (fun _ => ?_) (fun q => absurd (zgeF q hc hok.1.2.2.1 (by omega) (by omega)) (by omega))
        refine And.intro ⟨by decide, fs, h8⟩ ?_
        refine Exists.intro _ (And.intro ib ?_)
        refine And.intro (fun q => absurd q (by decide)) (fun _ => ?_)
        refine And.intro ⟨by decide, fs, h8⟩ ?_
        refine Exists.intro _ (And.intro a8 ?_)
        refine And.intro (fun q => absurd rfl (cT q)) (fun _ => ?_)
        refine And.intro (fun _ => ?_) (fun q => absurd h0 (cF q))
        exact And.intro rfl rfl
      · have nz : ck ≠ 0 := fun q => h0 (by rw [eik, q]; rfl)
        have nn := fdiv_nn (x := wLoads w (nw w) (gw w)) eik (by omega) nz
        have hq := bits32 nn
        have ml := C_meanLoad (E := E) (d := d + 1) O h0 hq
        refine mVn_P (stop := fun p => false) 60 ?_
        refine And.intro ⟨by decide, fs, h8⟩ ?_
        refine Exists.intro _ (And.intro a7 ?_)
        refine And.intro (fun _ => ?_) (fun q => absurd (zgeF q hc hok.1.2.2.1 (by omega) (by omega)) (by omega))
        refine And.intro ⟨by decide, fs, h8⟩ ?_
        refine Exists.intro _ (And.intro ib ?_)
        refine And.intro (fun q => absurd q (by decide)) (fun _ => ?_)
        refine And.intro ⟨by decide, fs, h8⟩ ?_
        refine Exists.intro _ (And.intro a8 ?_)
        refine And.intro (fun q => absurd rfl (cT q)) (fun _ => ?_)
        refine And.intro (fun q => absurd (cT q) h0) (fun _ => ?_)
        refine And.intro ⟨by decide, fs, h8⟩ ?_
        refine Exists.intro _ (And.intro ml ?_)
        refine And.intro hq ?_
        refine And.intro (fun q => absurd (show Op.cmpValue (FP.fcmp _ _) .l = 0 from fcmp_eq nn) (cT q)) (fun _ => ?_)
        exact And.intro rfl rfl
  have h0 : mE (mStep (H ++ E).length (d + 7) (mRun (d + 7)) [] aB_L_stacks (some .boolean)) (0, aIn 10 [.ref 8], [], H ++ E, (0, 0)) (fun r => r = (.inl (some (.int 1)), H ++ E, (0, 0))) := by
    refine mVn_P (stop := fun p => p == 6) 60 ?_
    exact key
  obtain ⟨r, e1, e2⟩ := mRun_P (m := m_L_stacks) rfl h0
  subst e2
  exact e1
end STK
