/-! THE LAW: a cell of the script; the sum of all answers -/
theorem mLs_le {a b : Nat} (h : a ≤ b) {ls : List (Option Value)} {st : List Value} (hs : mLs a ls st = true) : mLs b ls st = true := by
  unfold mLs at hs ⊢
  rw [Bool.and_eq_true] at hs ⊢
  refine ⟨List.all_eq_true.mpr fun o ho => ?_, List.all_eq_true.mpr fun v hv => mV1_le h (List.all_eq_true.mp hs.2 v hv)⟩
  have := List.all_eq_true.mp hs.1 o ho
  cases o with
  | none => rfl
  | some v => exact mV1_le h this
theorem mG0 {sn : Nat} {sf : Nat → Int32} {w : aW} {l : List aW} {k : aW} {H E : aH} {n0 : Nat} {ls : List (Option Value)} {st : List Value} (O : OK sn sf w l k H) (hn : n0 ≤ (H ++ E).length) (hs : mLs 252 ls st = true) : mG n0 ls st (H ++ E) := by
  have e : (H ++ E).length = 252 + E.length := by rw [List.length_append, ok_len O]
  exact ⟨by omega, hn, mLs_le (by omega) hs⟩
/-- m times from i on -/
def aFo {τ : Type} (f : Nat → τ → τ) : Nat → Nat → τ → τ
  | 0, _, u => u
  | m + 1, i, u => aFo f m (i + 1) (f i u)
theorem k_fo {F : aS → Option (aS ⊕ aR)} {τ : Type} {S : τ → Int32 → aS} {f : Nat → τ → τ} {n : Nat} {r : aR} (hb : ∀ (i : Nat) (x : Int32) (u : τ), i < n → x = Int32.ofNat i → aEnd F (S (f i u) (x + 1)) r → aEnd F (S u x) r) : ∀ (m i : Nat) (x : Int32) (u : τ), i + m = n → x = Int32.ofNat i → (∀ y, y = Int32.ofNat n → aEnd F (S (aFo f m i u) y) r) → aEnd F (S u x) r
  | 0, i, x, u, h, hx, he => he x (by rw [hx]; congr 1)
  | m + 1, i, x, u, h, hx, he => hb i x u (by omega) hx (k_fo hb m (i + 1) (x + 1) (f i u) (by omega) (zI_s hx) he)
theorem L_cell {h : aH} {sn : Nat} {sf : Nat → Int32} {d i : Nat} {x : Int32} (h5 : h[5]? = some (aRo .int sn sf)) (hsn : sn < 100000) (hx : x = Int32.ofNat i) (hi : i < 100000) : ∃ v, mRun (d + 1) m_L_cell [.ref 5, .int x] h = some (.inl (some (.int v)), h, (0, 0)) := by
  by_cases c : i < sn
  · refine ⟨sf i, mRun_of rfl (mVn_end (stop := fun p => false) 60 ?_)⟩
    refine Exists.intro false (Exists.intro sn (Exists.intro (.inl sf) (And.intro h5 ?_)))
    refine And.intro (fun c1 => absurd (show Int32.ofNat sn ≤ x from cT c1) (fun q => by have := (zI_le rfl hx (by omega) (by omega)).mp q; omega)) (fun _ => ?_)
    refine Exists.intro false (Exists.intro sn (Exists.intro sf (Exists.intro i (And.intro h5 (And.intro (aIx_of hx c (by omega)) ?_)))))
    exact rfl
  · refine ⟨40503 * x, mRun_of rfl (mVn_end (stop := fun p => false) 60 ?_)⟩
    refine Exists.intro false (Exists.intro sn (Exists.intro (.inl sf) (And.intro h5 ?_)))
    refine And.intro (fun _ => ?_) (fun c1 => absurd (show ¬ Int32.ofNat sn ≤ x from cF c1) (fun q => q ((zI_le rfl hx (by omega) (by omega)).mpr (by omega))))
    exact rfl
/-- what the sum comes to -/
def sum1 (w : aW) (u : Int64) : Int64 := aFo (fun i h => 31 * h + (wAcc w (nw w) (gw w) (ow w) (Int32.ofNat i)).toInt64) 17 0 u
def sum2 (w : aW) (u : Int64) : Int64 := aFo (fun i h => aFo (fun j h => 37 * h + (wNum w i (Int32.ofNat j)).toInt64) 8 0 h) (nw w) 0 u
def sum3 (w : aW) (u : Int64) : Int64 := aFo (fun i h => aFo (fun j h => 41 * h + (wSag w (nw w) (gw w) (Int32.ofNat i) (Int32.ofNat j)).toInt64) 7 0 h) (gw w) 0 u
def sum4 (w : aW) (u : Int64) : Int64 := aFo (fun i h => aFo (fun j h => 43 * h + (wOf w i (Int32.ofNat j)).toInt64) 7 0 h) (ow w) 0 u
def wSum (w : aW) : Int64 := sum4 w (sum3 w (sum2 w (sum1 w 7)))
theorem aFo_1 {f : Nat → Int64 → Int64} {g : Nat → Int64 → Option Value} : ∀ (m i : Nat) (u : Int64) (c : Option Value), (aFo (fun i (u : Int64 × Option Value) => (f i u.1, g i u.1)) m i (u, c)).1 = aFo f m i u
  | 0, _, _, _ => rfl
  | m + 1, i, u, c => aFo_1 m (i + 1) (f i u) (g i u)
section SUM
variable {sn : Nat} {sf : Nat → Int32} {w : aW} {l : List aW} {k : aW} {H E : aH} {d n0 : Nat} {mr : aF} {r : aR}
abbrev sSt (pc : Nat) (H E : aH) (u : Int64) (x : Int32) (c : Option Value) : aS := (pc, [some (.ref 8), some (.long u), none, some (.int x), c], [], H ++ E, (0, 0))
theorem acc_0 (w : aW) (n g o : Nat) : wAcc w n g o 0 = w 16 3 := rfl
theorem acc_7 (w : aW) (n g o : Nat) : wAcc w n g o 7 = w 16 4 := rfl
theorem acc_9 (w : aW) (n g o : Nat) : wAcc w n g o 9 = w 16 5 := rfl
theorem l_sum1 (O : OK sn sf w l k H) {c : Option Value} (hend : aEnd (mStep n0 (d + 7) mr [] aB_L_sum (some .long)) (sSt 33 H E (sum1 w 7) 0 c) r) : aEnd (mStep n0 (d + 7) mr [] aB_L_sum (some .long)) (sSt 6 H E 7 0 c) r := by
  obtain ⟨fs, h8⟩ := ok_8 O (E := E)
  refine k_fo (S := fun u x => sSt 6 H E u x c) (f := fun i h => 31 * h + (wAcc w (nw w) (gw w) (ow w) (Int32.ofNat i)).toInt64) (n := 17) (fun i x u hi hx ih => ?_) 17 0 0 7 rfl rfl (fun y hy => ?_)
  · have ih : aEnd _ (sSt 6 H E (31 * u + (wAcc w (nw w) (gw w) (ow w) (Int32.ofNat i)).toInt64) (x + 1) c) r := ih
    have ha := C_account (E := E) (d := d + 1) (x := x) O ⟨(zI_le (x := 0) (i := 0) rfl hx (by omega) (by omega)).mpr (by omega), (zI_le (y := 16) (n := 16) hx rfl (by omega) (by omega)).mpr (by omega)⟩ (v := wAcc w (nw w) (gw w) (ow w) (Int32.ofNat i)) (by rw [hx])
    refine mVn_end (stop := fun p => p == 6) 60 (And.intro (fun q => absurd (zgeT q hx (n := 17) rfl (by omega) (by omega)) (by omega)) (fun _ => ?_))
    refine And.intro ⟨by decide, fs, h8⟩ ?_
    refine Exists.intro _ (And.intro ha ?_)
    exact ih
  · refine mVn_end (stop := fun p => p == 33) 60 (And.intro (fun _ => ?_) (fun q => absurd (zgeF q hy (n := 17) rfl (by omega) (by omega)) (by omega)))
    exact hend
theorem l_sum2 (O : OK sn sf w l k H) {c : Option Value} {u0 : Int64} (hend : ∀ c, aEnd (mStep (H ++ E).length (d + 7) (mRun (d + 7)) [] aB_L_sum (some .long)) (sSt 81 H E (sum2 w u0) 0 c) r) : aEnd (mStep (H ++ E).length (d + 7) (mRun (d + 7)) [] aB_L_sum (some .long)) (sSt 33 H E u0 0 c) r := by
  have hok : wOk w (nw w) (gw w) (ow w) := ok_okk O
  have hle := hok.1.2.1
  obtain ⟨fs, h8⟩ := ok_8 O (E := E)
  have ha := C_account (E := E) (d := d + 1) (x := 0) O ⟨by decide, by decide⟩ (acc_0 w _ _ _)
  refine k_fo (S := fun (u : Int64 × Option Value) x => sSt 33 H E u.1 x u.2) (f := fun i u => (aFo (fun j h => 37 * h + (wNum w i (Int32.ofNat j)).toInt64) 8 0 u.1, some (.int 8))) (n := nw w) (fun i x u hi hx ih => ?_) (nw w) 0 0 (u0, c) (by omega) rfl (fun y hy => ?_)
  · have ih : aEnd _ (sSt 33 H E (aFo (fun j h => 37 * h + (wNum w i (Int32.ofNat j)).toInt64) 8 0 u.1) (x + 1) (some (.int 8))) r := ih
    refine mVn_end (stop := fun p => p == 45) 60 ?_
    refine And.intro ⟨by decide, fs, h8⟩ ?_
    refine Exists.intro _ (And.intro ha ?_)
    refine And.intro (fun q => absurd (zgeT q hx hok.1.1 (by omega) (by omega)) (by omega)) (fun _ => ?_)
    refine k_fo (S := fun (u : Int64) y => sSt 45 H E u x (some (.int y))) (f := fun j h => 37 * h + (wNum w i (Int32.ofNat j)).toInt64) (n := 8) (fun j y u hj hy ih2 => ?_) 8 0 0 u.1 rfl rfl (fun y hy => ?_)
    · have ih2 : aEnd _ (sSt 45 H E (37 * u + (wNum w i (Int32.ofNat j)).toInt64) x (some (.int (y + 1)))) r := ih2
      have y0 : 0 ≤ y := (zI_le (x := 0) (i := 0) rfl hy (by omega) (by omega)).mpr (by omega)
      have hc := V_ware (E := E) (d := d) (x := x) (y := y) O hx hi ⟨y0, (zI_le (y := 7) (n := 7) hy rfl (by omega) (by omega)).mpr (by omega)⟩ (by rw [hy])
      refine mVn_end (stop := fun p => p == 45) 60 ?_
      refine And.intro (fun q => absurd (zgeT q hy (n := 8) rfl (by omega) (by omega)) (by omega)) (fun _ => ?_)
      refine And.intro (mG0 O (Nat.le_refl _) rfl) ?_
      refine Exists.intro _ (Exists.intro _ (Exists.intro _ (And.intro hc ?_)))
      exact ih2
    · subst hy
      refine mVn_end (stop := fun p => p == 33) 60 ?_
      refine And.intro (fun _ => ?_) (fun q => absurd (zgeF q (rfl : Int32.ofNat 8 = Int32.ofNat 8) (n := 8) rfl (by omega) (by omega)) (by omega))
      exact ih
  · have e9 : (aFo (fun i (u : Int64 × Option Value) => (aFo (fun j h => 37 * h + (wNum w i (Int32.ofNat j)).toInt64) 8 0 u.1, some (.int 8))) (nw w) 0 (u0, c)).1 = sum2 w u0 := aFo_1 (f := fun i h => aFo (fun j h => 37 * h + (wNum w i (Int32.ofNat j)).toInt64) 8 0 h) (g := fun _ _ => some (.int 8)) _ _ _ _
    have q9 := hend (aFo (fun i (u : Int64 × Option Value) => (aFo (fun j h => 37 * h + (wNum w i (Int32.ofNat j)).toInt64) 8 0 u.1, some (.int 8))) (nw w) 0 (u0, c)).2
    rw [← e9] at q9
    refine mVn_end (stop := fun p => p == 81) 60 ?_
    refine And.intro ⟨by decide, fs, h8⟩ ?_
    refine Exists.intro _ (And.intro ha ?_)
    refine And.intro (fun _ => ?_) (fun q => absurd (zgeF q hy hok.1.1 (by omega) (by omega)) (by omega))
    exact q9
theorem l_sum3 (O : OK sn sf w l k H) {c : Option Value} {u0 : Int64} (hend : ∀ c, aEnd (mStep (H ++ E).length (d + 7) (mRun (d + 7)) [] aB_L_sum (some .long)) (sSt 130 H E (sum3 w u0) 0 c) r) : aEnd (mStep (H ++ E).length (d + 7) (mRun (d + 7)) [] aB_L_sum (some .long)) (sSt 81 H E u0 0 c) r := by
  have hok : wOk w (nw w) (gw w) (ow w) := ok_okk O
  have hle := hok.1.2.2.2.1
  obtain ⟨fs, h8⟩ := ok_8 O (E := E)
  have ha := C_account (E := E) (d := d + 1) (x := 7) O ⟨by decide, by decide⟩ (acc_7 w _ _ _)
  refine k_fo (S := fun (u : Int64 × Option Value) x => sSt 81 H E u.1 x u.2) (f := fun i u => (aFo (fun j h => 41 * h + (wSag w (nw w) (gw w) (Int32.ofNat i) (Int32.ofNat j)).toInt64) 7 0 u.1, some (.int 7))) (n := gw w) (fun i x u hi hx ih => ?_) (gw w) 0 0 (u0, c) (by omega) rfl (fun y hy => ?_)
  · have ih : aEnd _ (sSt 81 H E (aFo (fun j h => 41 * h + (wSag w (nw w) (gw w) (Int32.ofNat i) (Int32.ofNat j)).toInt64) 7 0 u.1) (x + 1) (some (.int 7))) r := ih
    refine mVn_end (stop := fun p => p == 94) 60 ?_
    refine And.intro ⟨by decide, fs, h8⟩ ?_
    refine Exists.intro _ (And.intro ha ?_)
    refine And.intro (fun q => absurd (zgeT q hx hok.1.2.2.1 (by omega) (by omega)) (by omega)) (fun _ => ?_)
    refine k_fo (S := fun (u : Int64) y => sSt 94 H E u x (some (.int y))) (f := fun j h => 41 * h + (wSag w (nw w) (gw w) (Int32.ofNat i) (Int32.ofNat j)).toInt64) (n := 7) (fun j y u hj hy ih2 => ?_) 7 0 0 u.1 rfl rfl (fun y hy => ?_)
    · have ih2 : aEnd _ (sSt 94 H E (41 * u + (wSag w (nw w) (gw w) (Int32.ofNat i) (Int32.ofNat j)).toInt64) x (some (.int (y + 1)))) r := ih2
      have y0 : 0 ≤ y := (zI_le (x := 0) (i := 0) rfl hy (by omega) (by omega)).mpr (by omega)
      have hc := V_of (E := E) (d := d) (x := x) (y := y) O hx hi ⟨y0, (zI_le (y := 6) (n := 6) hy rfl (by omega) (by omega)).mpr (by omega)⟩ (by rw [hy])
      refine mVn_end (stop := fun p => p == 94) 60 ?_
      refine And.intro (fun q => absurd (zgeT q hy (n := 7) rfl (by omega) (by omega)) (by omega)) (fun _ => ?_)
      refine And.intro (mG0 O (Nat.le_refl _) rfl) ?_
      refine Exists.intro _ (Exists.intro _ (Exists.intro _ (And.intro hc ?_)))
      exact ih2
    · subst hy
      refine mVn_end (stop := fun p => p == 81) 60 ?_
      refine And.intro (fun _ => ?_) (fun q => absurd (zgeF q (rfl : Int32.ofNat 7 = Int32.ofNat 7) (n := 7) rfl (by omega) (by omega)) (by omega))
      exact ih
  · have e9 : (aFo (fun i (u : Int64 × Option Value) => (aFo (fun j h => 41 * h + (wSag w (nw w) (gw w) (Int32.ofNat i) (Int32.ofNat j)).toInt64) 7 0 u.1, some (.int 7))) (gw w) 0 (u0, c)).1 = sum3 w u0 := aFo_1 (f := fun i h => aFo (fun j h => 41 * h + (wSag w (nw w) (gw w) (Int32.ofNat i) (Int32.ofNat j)).toInt64) 7 0 h) (g := fun _ _ => some (.int 7)) _ _ _ _
    have q9 := hend (aFo (fun i (u : Int64 × Option Value) => (aFo (fun j h => 41 * h + (wSag w (nw w) (gw w) (Int32.ofNat i) (Int32.ofNat j)).toInt64) 7 0 u.1, some (.int 7))) (gw w) 0 (u0, c)).2
    rw [← e9] at q9
    refine mVn_end (stop := fun p => p == 130) 60 ?_
    refine And.intro ⟨by decide, fs, h8⟩ ?_
    refine Exists.intro _ (And.intro ha ?_)
    refine And.intro (fun _ => ?_) (fun q => absurd (zgeF q hy hok.1.2.2.1 (by omega) (by omega)) (by omega))
    exact q9
theorem l_sum4 (O : OK sn sf w l k H) {c : Option Value} {u0 : Int64} (hend : ∀ x c, aEnd (mStep n0 (d + 7) mr [] aB_L_sum (some .long)) (sSt 177 H E (sum4 w u0) x c) r) : aEnd (mStep n0 (d + 7) mr [] aB_L_sum (some .long)) (sSt 130 H E u0 0 c) r := by
  have hok : wOk w (nw w) (gw w) (ow w) := ok_okk O
  have hle := hok.1.2.2.2.2.2
  obtain ⟨fs, h8⟩ := ok_8 O (E := E)
  have ha := C_account (E := E) (d := d + 1) (x := 9) O ⟨by decide, by decide⟩ (acc_9 w _ _ _)
  refine k_fo (S := fun (u : Int64 × Option Value) x => sSt 130 H E u.1 x u.2) (f := fun i u => (aFo (fun j h => 43 * h + (wOf w i (Int32.ofNat j)).toInt64) 7 0 u.1, some (.int 7))) (n := ow w) (fun i x u hi hx ih => ?_) (ow w) 0 0 (u0, c) (by omega) rfl (fun y hy => ?_)
  · have ih : aEnd _ (sSt 130 H E (aFo (fun j h => 43 * h + (wOf w i (Int32.ofNat j)).toInt64) 7 0 u.1) (x + 1) (some (.int 7))) r := ih
    refine mVn_end (stop := fun p => p == 143) 60 ?_
    refine And.intro ⟨by decide, fs, h8⟩ ?_
    refine Exists.intro _ (And.intro ha ?_)
    refine And.intro (fun q => absurd (zgeT q hx hok.1.2.2.2.2.1 (by omega) (by omega)) (by omega)) (fun _ => ?_)
    refine k_fo (S := fun (u : Int64) y => sSt 143 H E u x (some (.int y))) (f := fun j h => 43 * h + (wOf w i (Int32.ofNat j)).toInt64) (n := 7) (fun j y u hj hy ih2 => ?_) 7 0 0 u.1 rfl rfl (fun y hy => ?_)
    · have ih2 : aEnd _ (sSt 143 H E (43 * u + (wOf w i (Int32.ofNat j)).toInt64) x (some (.int (y + 1)))) r := ih2
      have y0 : 0 ≤ y := (zI_le (x := 0) (i := 0) rfl hy (by omega) (by omega)).mpr (by omega)
      have hc := C_orderOf (E := E) (d := d + 1) (x := x) (y := y) O hx hi ⟨y0, (zI_le (y := 6) (n := 6) hy rfl (by omega) (by omega)).mpr (by omega)⟩ (by rw [hy])
      refine mVn_end (stop := fun p => p == 143) 60 ?_
      refine And.intro (fun q => absurd (zgeT q hy (n := 7) rfl (by omega) (by omega)) (by omega)) (fun _ => ?_)
      refine And.intro ⟨by decide, fs, h8⟩ ?_
      refine Exists.intro _ (And.intro hc ?_)
      exact ih2
    · subst hy
      refine mVn_end (stop := fun p => p == 130) 60 ?_
      refine And.intro (fun _ => ?_) (fun q => absurd (zgeF q (rfl : Int32.ofNat 7 = Int32.ofNat 7) (n := 7) rfl (by omega) (by omega)) (by omega))
      exact ih
  · have e9 : (aFo (fun i (u : Int64 × Option Value) => (aFo (fun j h => 43 * h + (wOf w i (Int32.ofNat j)).toInt64) 7 0 u.1, some (.int 7))) (ow w) 0 (u0, c)).1 = sum4 w u0 := aFo_1 (f := fun i h => aFo (fun j h => 43 * h + (wOf w i (Int32.ofNat j)).toInt64) 7 0 h) (g := fun _ _ => some (.int 7)) _ _ _ _
    have q9 := hend y (aFo (fun i (u : Int64 × Option Value) => (aFo (fun j h => 43 * h + (wOf w i (Int32.ofNat j)).toInt64) 7 0 u.1, some (.int 7))) (ow w) 0 (u0, c)).2
    rw [← e9] at q9
    refine mVn_end (stop := fun p => p == 177) 60 ?_
    refine And.intro ⟨by decide, fs, h8⟩ ?_
    refine Exists.intro _ (And.intro ha ?_)
    refine And.intro (fun _ => ?_) (fun q => absurd (zgeF q hy hok.1.2.2.2.2.1 (by omega) (by omega)) (by omega))
    exact q9
theorem L_sum (O : OK sn sf w l k H) : mRun (d + 8) m_L_sum [.ref 8] (H ++ E) = some (.inl (some (.long (wSum w))), H ++ E, (0, 0)) := by
  refine mRun_of rfl (mVn_end (stop := fun p => p == 6) 60 ?_)
  refine l_sum1 O (c := none) (l_sum2 O (fun c => l_sum3 O (fun c => l_sum4 O (fun x c => ?_))))
  exact mVn_end (stop := fun p => false) 60 rfl
end SUM
