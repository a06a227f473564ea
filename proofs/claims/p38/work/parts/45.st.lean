/-! THE LAW: what the wares' states and the store say -/
theorem aSm_cnt (g : Nat → Int32) (m : Nat) : aSm g (m + 1) 0 = aSm g m 0 + g m := by
  rw [aSm_succ, Nat.zero_add]
/-- wares up to i of state s; firsts; fired ones -/
def cSt (w : aW) (s i : Nat) : Int32 := aSm (fun j => if w 1 j = Int32.ofNat s then 1 else 0) i 0
def cFi (w : aW) (i : Nat) : Int32 := aSm (fun j => if w 5 j = 1 then 1 else 0) i 0
def cFd (w : aW) (i : Nat) : Int32 := aSm (fun j => if w 5 j = 0 then 0 else 1) i 0
theorem cSt_s {w : aW} {S i : Nat} {f : Nat → Int32} (hS : S < 6) (h1 : w 1 i = Int32.ofNat S) (h : ∀ s, s < 6 → f s = cSt w s i) : ∀ s, s < 6 → upd f S (f S + 1) s = cSt w s (i + 1) := by
  intro s hs
  unfold cSt
  rw [aSm_cnt, h1]
  by_cases e : s = S
  · subst e
    rw [if_pos rfl]
    show (if s = s then f s + 1 else f s) = _
    rw [if_pos rfl, h s hs]
    rfl
  · rw [if_neg (fun q => e (ofN_ne (by omega) (by omega) q).symm)]
    show (if s = S then f S + 1 else f s) = _
    rw [if_neg e, h s hs]
    exact (Int32.add_zero _).symm
theorem mlo_i {N : Nat} {c : Option Int32} : mLo N (c.map Value.int) = true := by cases c <;> rfl
theorem mG1 {H E : aH} {c : aC} {n0 : Nat} {ls : List (Option Value)} {st : List Value} (hl : H.length = 252) (hn : n0 ≤ 253 + E.length) (hs : mLs (253 + E.length) ls st = true) : mG n0 ls st (H ++ (E ++ [c])) := by
  unfold mG
  rw [e_len hl]
  exact ⟨by omega, hn, hs⟩
theorem mls7 {N q : Nat} {a b x : Int32} {o5 o6 : Option Value} {st : List Value} (h8 : 8 < N) (hq : q < N) (h5 : mLo N o5 = true) (h6 : mLo N o6 = true) (hs : st.all (mV1 N) = true) : mLs N [some (.ref 8), some (.ref q), some (.int a), some (.int b), some (.int x), o5, o6] st = true := by
  unfold mLs
  rw [Bool.and_eq_true]
  refine ⟨?_, hs⟩
  simp only [List.all_cons, List.all_nil]
  rw [h5, h6]
  show (decide (8 < N) && (decide (q < N) && (true && (true && (true && (true && (true && true))))))) = true
  rw [decide_eq_true h8, decide_eq_true hq]
  rfl
theorem ms3 {N : Nat} {x y : Int32} {r : List Value} (h8 : 8 < N) (hr : r.all (mV1 N) = true) : (Value.int y :: .int x :: .ref 8 :: r).all (mV1 N) = true := by
  simp only [List.all_cons, mV1, hr, decide_eq_true h8, Bool.and_self]
theorem ms4 {N : Nat} {x y z : Int32} {r : List Value} (h8 : 8 < N) (hr : r.all (mV1 N) = true) : (Value.int z :: .int y :: .int x :: .ref 8 :: r).all (mV1 N) = true := by
  simp only [List.all_cons, mV1, hr, decide_eq_true h8, Bool.and_self]
/-- an array of six behind the kiln -/
abbrev hA6 (E : aH) (f : Nat → Int32) : aH := E ++ [(true, .inl (.int, 6, .inl f))]
abbrev tSt (pc : Nat) (H E : aH) (f : Nat → Int32) (a b x : Int32) (o5 o6 : Option Int32) : aS := (pc, [some (.ref 8), some (.ref (252 + E.length)), some (.int a), some (.int b), some (.int x), o5.map Value.int, o6.map Value.int], [], H ++ hA6 E f, (1, 6))
section STO
variable {sn : Nat} {sf : Nat → Int32} {w : aW} {l : List aW} {k : aW} {H E : aH} {d n0 i : Nat} {P : aR → Prop} {f : Nat → Int32} {a b x : Int32} {o5 o6 : Option Int32}
noncomputable abbrev mFs (n0 d : Nat) : aS → Option (aS ⊕ aR) := mStep n0 (d + 7) (mRun (d + 7)) [] aB_L_stores (some .boolean)
theorem l_st_00 (O : OK sn sf w l k H) (hn : n0 ≤ 253 + E.length) (hx : x = Int32.ofNat i) (hi : i < nw w) (h1 : w 1 i = 0) (h5 : w 5 i = 0) (h4 : aCond .lt (w 4 i) 0 = true) (hg : (aCond .ge (w 2 i) 0 = false ∧ aCond .ne (w 3 i) 0 = false) ∨ (aCond .ge (w 2 i) 0 = true ∧ aCond .ne (w 3 i) 0 = true)) (ih : mE (mFs n0 d) (tSt 12 H E (upd f 0 (f 0 + 1)) (a + 0) (b + 0) (x + 1) (some 0) (some 0)) P) : mE (mFs n0 d) (tSt 12 H E f a b x o5 o6) P := by
  have hok : wOk w (nw w) (gw w) (ow w) := ok_okk O
  have hle := hok.1.2.1
  have hl := ok_len O
  have h6 : ∀ E : aH, (H ++ E)[6]? = some (false, .inr (90, [])) := fun E => (ok_lo O (E := E) (q := 6) (by omega)).trans rfl
  have ha := C_account (E := hA6 E f) (d := d + 1) (x := 0) O ⟨by decide, by decide⟩ (acc_0 w _ _ _)
  have c2 := V_ware (E := hA6 E f) (d := d) (x := x) (y := 2) (v := 0) O hx hi ⟨by decide, by decide⟩ (show w 1 i = 0 from h1)
  have c6 := V_ware (E := hA6 E f) (d := d) (x := x) (y := 6) (v := 0) O hx hi ⟨by decide, by decide⟩ (show w 5 i = 0 from h5)
  have cs := C_sign (E := hA6 E (upd f 0 (f 0 + 1))) (d := d + 1) (x := x) O hx hi
  rw [h1] at cs
  have c5 := V_ware (E := hA6 E (upd f 0 (f 0 + 1))) (d := d) (x := x) (y := 5) (v := w 4 i) O hx hi ⟨by decide, by decide⟩ rfl
  have c3 := V_ware (E := hA6 E (upd f 0 (f 0 + 1))) (d := d) (x := x) (y := 3) (v := w 2 i) O hx hi ⟨by decide, by decide⟩ rfl
  have c4 := V_ware (E := hA6 E (upd f 0 (f 0 + 1))) (d := d) (x := x) (y := 4) (v := w 3 i) O hx hi ⟨by decide, by decide⟩ rfl
  have c7 := V_ware (E := hA6 E (upd f 0 (f 0 + 1))) (d := d) (x := x) (y := 7) (v := 1310 - 3 * (w 7 i / 2)) O hx hi ⟨by decide, by decide⟩ rfl
  have c1 := V_ware (E := hA6 E (upd f 0 (f 0 + 1))) (d := d) (x := x) (y := 1) (v := w 7 i) O hx hi ⟨by decide, by decide⟩ rfl
  have hix : aIx 0 6 = some 0 := by decide
  obtain ⟨fs0, h80⟩ := ok_8 O (E := hA6 E f)
  obtain ⟨fs1, h81⟩ := ok_8 O (E := hA6 E (upd f 0 (f 0 + 1)))
  rcases hg with hg | hg
  · refine mVn_P (stop := fun p => p == 12) 120 ?_
    refine And.intro ⟨by decide, fs0, h80⟩ ?_
    refine Exists.intro _ (And.intro ha ?_)
    refine And.intro (fun q => absurd (zgeT q hx hok.1.1 (by omega) (by omega)) (by omega)) (fun _ => ?_)
    refine And.intro (mG1 hl hn (mls7 (by omega) (by omega) mlo_i mlo_i (ms3 (by omega) rfl))) ?_
    refine Exists.intro _ (Exists.intro _ (Exists.intro _ (And.intro c2 ?_)))
    refine And.intro (mG1 hl hn (mls7 (by omega) (by omega) rfl mlo_i (ms3 (by omega) rfl))) ?_
    refine Exists.intro _ (Exists.intro _ (Exists.intro _ (And.intro c6 ?_)))
    refine Exists.intro true (Exists.intro 6 (Exists.intro f (Exists.intro 0 (And.intro (e_at hl) (And.intro hix ?_)))))
    refine Exists.intro 6 (Exists.intro f (Exists.intro 0 (Exists.intro _ (And.intro (e_at hl) (And.intro hix (And.intro (e_set hl) ?_))))))
    (first | refine And.intro (fun c => absurd c (by decide)) (fun _ => ?_) | refine And.intro (fun _ => ?_) (fun c => absurd c (by decide)))
    (first | refine And.intro (fun c => absurd c (by decide)) (fun _ => ?_) | refine And.intro (fun _ => ?_) (fun c => absurd c (by decide)))
    refine And.intro ⟨by decide, fs1, h81⟩ ?_
    refine Exists.intro _ (And.intro cs ?_)
    refine Exists.intro false (Exists.intro [] (And.intro (h6 _) ?_))
    refine And.intro (show (1 : Nat) ≤ 8 by decide) (Exists.intro false (Exists.intro 90 (Exists.intro [] (Exists.intro 0 (And.intro (h6 _) (And.intro ⟨by decide, by decide⟩ (And.intro (show aIx 0 (aStr 90).length = some 0 by decide) ?_)))))))
    (first | refine And.intro (fun c => absurd c (by decide)) (fun _ => ?_) | refine And.intro (fun _ => ?_) (fun c => absurd c (by decide)))
    (first | refine And.intro (fun c => absurd c (by decide)) (fun _ => ?_) | refine And.intro (fun _ => ?_) (fun c => absurd c (by decide)))
    (first | refine And.intro (fun c => absurd c (by decide)) (fun _ => ?_) | refine And.intro (fun _ => ?_) (fun c => absurd c (by decide)))
    (first | refine And.intro (fun c => absurd c (by decide)) (fun _ => ?_) | refine And.intro (fun _ => ?_) (fun c => absurd c (by decide)))
    (first | refine And.intro (fun c => absurd c (by decide)) (fun _ => ?_) | refine And.intro (fun _ => ?_) (fun c => absurd c (by decide)))
    (first | refine And.intro (fun c => absurd c (by decide)) (fun _ => ?_) | refine And.intro (fun _ => ?_) (fun c => absurd c (by decide)))
    (first | refine And.intro (fun c => absurd c (by decide)) (fun _ => ?_) | refine And.intro (fun _ => ?_) (fun c => absurd c (by decide)))
    refine And.intro (mG1 hl hn (mls7 (by omega) (by omega) rfl rfl (ms3 (by omega) rfl))) ?_
    refine Exists.intro _ (Exists.intro _ (Exists.intro _ (And.intro c5 ?_)))
    refine And.intro (fun _ => ?_) (fun c => absurd (h4.symm.trans c) (by decide))
    (first | refine And.intro (fun c => absurd c (by decide)) (fun _ => ?_) | refine And.intro (fun _ => ?_) (fun c => absurd c (by decide)))
    (first | refine And.intro (fun c => absurd c (by decide)) (fun _ => ?_) | refine And.intro (fun _ => ?_) (fun c => absurd c (by decide)))
    (first | refine And.intro (fun c => absurd c (by decide)) (fun _ => ?_) | refine And.intro (fun _ => ?_) (fun c => absurd c (by decide)))
    refine And.intro (mG1 hl hn (mls7 (by omega) (by omega) rfl rfl (ms3 (by omega) rfl))) ?_
    refine Exists.intro _ (Exists.intro _ (Exists.intro _ (And.intro c3 ?_)))
    refine And.intro (fun c => absurd (hg.1.symm.trans c) (by decide)) (fun _ => ?_)
    refine And.intro (mG1 hl hn (mls7 (by omega) (by omega) rfl rfl (ms3 (by omega) rfl))) ?_
    refine Exists.intro _ (Exists.intro _ (Exists.intro _ (And.intro c4 ?_)))
    refine And.intro (fun c => absurd (hg.2.symm.trans c) (by decide)) (fun _ => ?_)
    (first | refine And.intro (fun c => absurd c (by decide)) (fun _ => ?_) | refine And.intro (fun _ => ?_) (fun c => absurd c (by decide)))
    refine And.intro (mG1 hl hn (mls7 (by omega) (by omega) rfl rfl (ms3 (by omega) rfl))) ?_
    refine Exists.intro _ (Exists.intro _ (Exists.intro _ (And.intro c7 ?_)))
    refine And.intro (mG1 hl hn (mls7 (by omega) (by omega) rfl rfl (ms3 (by omega) rfl))) ?_
    refine Exists.intro _ (Exists.intro _ (Exists.intro _ (And.intro c1 ?_)))
    refine And.intro (by decide) ?_
    refine And.intro (fun _ => ?_) (fun c => absurd rfl (cF c))
    exact ih
  · refine mVn_P (stop := fun p => p == 12) 120 ?_
    refine And.intro ⟨by decide, fs0, h80⟩ ?_
    refine Exists.intro _ (And.intro ha ?_)
    refine And.intro (fun q => absurd (zgeT q hx hok.1.1 (by omega) (by omega)) (by omega)) (fun _ => ?_)
    refine And.intro (mG1 hl hn (mls7 (by omega) (by omega) mlo_i mlo_i (ms3 (by omega) rfl))) ?_
    refine Exists.intro _ (Exists.intro _ (Exists.intro _ (And.intro c2 ?_)))
    refine And.intro (mG1 hl hn (mls7 (by omega) (by omega) rfl mlo_i (ms3 (by omega) rfl))) ?_
    refine Exists.intro _ (Exists.intro _ (Exists.intro _ (And.intro c6 ?_)))
    refine Exists.intro true (Exists.intro 6 (Exists.intro f (Exists.intro 0 (And.intro (e_at hl) (And.intro hix ?_)))))
    refine Exists.intro 6 (Exists.intro f (Exists.intro 0 (Exists.intro _ (And.intro (e_at hl) (And.intro hix (And.intro (e_set hl) ?_))))))
    (first | refine And.intro (fun c => absurd c (by decide)) (fun _ => ?_) | refine And.intro (fun _ => ?_) (fun c => absurd c (by decide)))
    (first | refine And.intro (fun c => absurd c (by decide)) (fun _ => ?_) | refine And.intro (fun _ => ?_) (fun c => absurd c (by decide)))
    refine And.intro ⟨by decide, fs1, h81⟩ ?_
    refine Exists.intro _ (And.intro cs ?_)
    refine Exists.intro false (Exists.intro [] (And.intro (h6 _) ?_))
    refine And.intro (show (1 : Nat) ≤ 8 by decide) (Exists.intro false (Exists.intro 90 (Exists.intro [] (Exists.intro 0 (And.intro (h6 _) (And.intro ⟨by decide, by decide⟩ (And.intro (show aIx 0 (aStr 90).length = some 0 by decide) ?_)))))))
    (first | refine And.intro (fun c => absurd c (by decide)) (fun _ => ?_) | refine And.intro (fun _ => ?_) (fun c => absurd c (by decide)))
    (first | refine And.intro (fun c => absurd c (by decide)) (fun _ => ?_) | refine And.intro (fun _ => ?_) (fun c => absurd c (by decide)))
    (first | refine And.intro (fun c => absurd c (by decide)) (fun _ => ?_) | refine And.intro (fun _ => ?_) (fun c => absurd c (by decide)))
    (first | refine And.intro (fun c => absurd c (by decide)) (fun _ => ?_) | refine And.intro (fun _ => ?_) (fun c => absurd c (by decide)))
    (first | refine And.intro (fun c => absurd c (by decide)) (fun _ => ?_) | refine And.intro (fun _ => ?_) (fun c => absurd c (by decide)))
    (first | refine And.intro (fun c => absurd c (by decide)) (fun _ => ?_) | refine And.intro (fun _ => ?_) (fun c => absurd c (by decide)))
    (first | refine And.intro (fun c => absurd c (by decide)) (fun _ => ?_) | refine And.intro (fun _ => ?_) (fun c => absurd c (by decide)))
    refine And.intro (mG1 hl hn (mls7 (by omega) (by omega) rfl rfl (ms3 (by omega) rfl))) ?_
    refine Exists.intro _ (Exists.intro _ (Exists.intro _ (And.intro c5 ?_)))
    refine And.intro (fun _ => ?_) (fun c => absurd (h4.symm.trans c) (by decide))
    (first | refine And.intro (fun c => absurd c (by decide)) (fun _ => ?_) | refine And.intro (fun _ => ?_) (fun c => absurd c (by decide)))
    (first | refine And.intro (fun c => absurd c (by decide)) (fun _ => ?_) | refine And.intro (fun _ => ?_) (fun c => absurd c (by decide)))
    (first | refine And.intro (fun c => absurd c (by decide)) (fun _ => ?_) | refine And.intro (fun _ => ?_) (fun c => absurd c (by decide)))
    refine And.intro (mG1 hl hn (mls7 (by omega) (by omega) rfl rfl (ms3 (by omega) rfl))) ?_
    refine Exists.intro _ (Exists.intro _ (Exists.intro _ (And.intro c3 ?_)))
    refine And.intro (fun _ => ?_) (fun c => absurd (hg.1.symm.trans c) (by decide))
    refine And.intro (mG1 hl hn (mls7 (by omega) (by omega) rfl rfl (ms3 (by omega) rfl))) ?_
    refine Exists.intro _ (Exists.intro _ (Exists.intro _ (And.intro c4 ?_)))
    refine And.intro (fun _ => ?_) (fun c => absurd (hg.2.symm.trans c) (by decide))
    (first | refine And.intro (fun c => absurd c (by decide)) (fun _ => ?_) | refine And.intro (fun _ => ?_) (fun c => absurd c (by decide)))
    refine And.intro (mG1 hl hn (mls7 (by omega) (by omega) rfl rfl (ms3 (by omega) rfl))) ?_
    refine Exists.intro _ (Exists.intro _ (Exists.intro _ (And.intro c7 ?_)))
    refine And.intro (mG1 hl hn (mls7 (by omega) (by omega) rfl rfl (ms3 (by omega) rfl))) ?_
    refine Exists.intro _ (Exists.intro _ (Exists.intro _ (And.intro c1 ?_)))
    refine And.intro (by decide) ?_
    refine And.intro (fun _ => ?_) (fun c => absurd rfl (cF c))
    exact ih
theorem l_st_10 (O : OK sn sf w l k H) (hn : n0 ≤ 253 + E.length) (hx : x = Int32.ofNat i) (hi : i < nw w) (h1 : w 1 i = 1) (h5 : w 5 i = 0) (h4 : aCond .lt (w 4 i) 0 = false) (hg : (aCond .ge (w 2 i) 0 = false ∧ aCond .ne (w 3 i) 0 = false) ∨ (aCond .ge (w 2 i) 0 = true ∧ aCond .ne (w 3 i) 0 = true)) (ih : mE (mFs n0 d) (tSt 12 H E (upd f 1 (f 1 + 1)) (a + 0) (b + 0) (x + 1) (some 1) (some 0)) P) : mE (mFs n0 d) (tSt 12 H E f a b x o5 o6) P := by
  have hok : wOk w (nw w) (gw w) (ow w) := ok_okk O
  have hle := hok.1.2.1
  have hl := ok_len O
  have h6 : ∀ E : aH, (H ++ E)[6]? = some (false, .inr (90, [])) := fun E => (ok_lo O (E := E) (q := 6) (by omega)).trans rfl
  have ha := C_account (E := hA6 E f) (d := d + 1) (x := 0) O ⟨by decide, by decide⟩ (acc_0 w _ _ _)
  have c2 := V_ware (E := hA6 E f) (d := d) (x := x) (y := 2) (v := 1) O hx hi ⟨by decide, by decide⟩ (show w 1 i = 1 from h1)
  have c6 := V_ware (E := hA6 E f) (d := d) (x := x) (y := 6) (v := 0) O hx hi ⟨by decide, by decide⟩ (show w 5 i = 0 from h5)
  have cs := C_sign (E := hA6 E (upd f 1 (f 1 + 1))) (d := d + 1) (x := x) O hx hi
  rw [h1] at cs
  have c5 := V_ware (E := hA6 E (upd f 1 (f 1 + 1))) (d := d) (x := x) (y := 5) (v := w 4 i) O hx hi ⟨by decide, by decide⟩ rfl
  have c3 := V_ware (E := hA6 E (upd f 1 (f 1 + 1))) (d := d) (x := x) (y := 3) (v := w 2 i) O hx hi ⟨by decide, by decide⟩ rfl
  have c4 := V_ware (E := hA6 E (upd f 1 (f 1 + 1))) (d := d) (x := x) (y := 4) (v := w 3 i) O hx hi ⟨by decide, by decide⟩ rfl
  have c7 := V_ware (E := hA6 E (upd f 1 (f 1 + 1))) (d := d) (x := x) (y := 7) (v := 1310 - 3 * (w 7 i / 2)) O hx hi ⟨by decide, by decide⟩ rfl
  have c1 := V_ware (E := hA6 E (upd f 1 (f 1 + 1))) (d := d) (x := x) (y := 1) (v := w 7 i) O hx hi ⟨by decide, by decide⟩ rfl
  have hix : aIx 1 6 = some 1 := by decide
  obtain ⟨fs0, h80⟩ := ok_8 O (E := hA6 E f)
  obtain ⟨fs1, h81⟩ := ok_8 O (E := hA6 E (upd f 1 (f 1 + 1)))
  rcases hg with hg | hg
  · refine mVn_P (stop := fun p => p == 12) 120 ?_
    refine And.intro ⟨by decide, fs0, h80⟩ ?_
    refine Exists.intro _ (And.intro ha ?_)
    refine And.intro (fun q => absurd (zgeT q hx hok.1.1 (by omega) (by omega)) (by omega)) (fun _ => ?_)
    refine And.intro (mG1 hl hn (mls7 (by omega) (by omega) mlo_i mlo_i (ms3 (by omega) rfl))) ?_
    refine Exists.intro _ (Exists.intro _ (Exists.intro _ (And.intro c2 ?_)))
    refine And.intro (mG1 hl hn (mls7 (by omega) (by omega) rfl mlo_i (ms3 (by omega) rfl))) ?_
    refine Exists.intro _ (Exists.intro _ (Exists.intro _ (And.intro c6 ?_)))
    refine Exists.intro true (Exists.intro 6 (Exists.intro f (Exists.intro 1 (And.intro (e_at hl) (And.intro hix ?_)))))
    refine Exists.intro 6 (Exists.intro f (Exists.intro 1 (Exists.intro _ (And.intro (e_at hl) (And.intro hix (And.intro (e_set hl) ?_))))))
    (first | refine And.intro (fun c => absurd c (by decide)) (fun _ => ?_) | refine And.intro (fun _ => ?_) (fun c => absurd c (by decide)))
    (first | refine And.intro (fun c => absurd c (by decide)) (fun _ => ?_) | refine And.intro (fun _ => ?_) (fun c => absurd c (by decide)))
    refine And.intro ⟨by decide, fs1, h81⟩ ?_
    refine Exists.intro _ (And.intro cs ?_)
    refine Exists.intro false (Exists.intro [] (And.intro (h6 _) ?_))
    refine And.intro (show (1 : Nat) ≤ 8 by decide) (Exists.intro false (Exists.intro 90 (Exists.intro [] (Exists.intro 1 (And.intro (h6 _) (And.intro ⟨by decide, by decide⟩ (And.intro (show aIx 1 (aStr 90).length = some 1 by decide) ?_)))))))
    (first | refine And.intro (fun c => absurd c (by decide)) (fun _ => ?_) | refine And.intro (fun _ => ?_) (fun c => absurd c (by decide)))
    (first | refine And.intro (fun c => absurd c (by decide)) (fun _ => ?_) | refine And.intro (fun _ => ?_) (fun c => absurd c (by decide)))
    (first | refine And.intro (fun c => absurd c (by decide)) (fun _ => ?_) | refine And.intro (fun _ => ?_) (fun c => absurd c (by decide)))
    (first | refine And.intro (fun c => absurd c (by decide)) (fun _ => ?_) | refine And.intro (fun _ => ?_) (fun c => absurd c (by decide)))
    (first | refine And.intro (fun c => absurd c (by decide)) (fun _ => ?_) | refine And.intro (fun _ => ?_) (fun c => absurd c (by decide)))
    (first | refine And.intro (fun c => absurd c (by decide)) (fun _ => ?_) | refine And.intro (fun _ => ?_) (fun c => absurd c (by decide)))
    (first | refine And.intro (fun c => absurd c (by decide)) (fun _ => ?_) | refine And.intro (fun _ => ?_) (fun c => absurd c (by decide)))
    refine And.intro (mG1 hl hn (mls7 (by omega) (by omega) rfl rfl (ms3 (by omega) rfl))) ?_
    refine Exists.intro _ (Exists.intro _ (Exists.intro _ (And.intro c5 ?_)))
    refine And.intro (fun c => absurd (h4.symm.trans c) (by decide)) (fun _ => ?_)
    (first | refine And.intro (fun c => absurd c (by decide)) (fun _ => ?_) | refine And.intro (fun _ => ?_) (fun c => absurd c (by decide)))
    (first | refine And.intro (fun c => absurd c (by decide)) (fun _ => ?_) | refine And.intro (fun _ => ?_) (fun c => absurd c (by decide)))
    refine And.intro (mG1 hl hn (mls7 (by omega) (by omega) rfl rfl (ms3 (by omega) rfl))) ?_
    refine Exists.intro _ (Exists.intro _ (Exists.intro _ (And.intro c3 ?_)))
    refine And.intro (fun c => absurd (hg.1.symm.trans c) (by decide)) (fun _ => ?_)
    refine And.intro (mG1 hl hn (mls7 (by omega) (by omega) rfl rfl (ms3 (by omega) rfl))) ?_
    refine Exists.intro _ (Exists.intro _ (Exists.intro _ (And.intro c4 ?_)))
    refine And.intro (fun c => absurd (hg.2.symm.trans c) (by decide)) (fun _ => ?_)
    (first | refine And.intro (fun c => absurd c (by decide)) (fun _ => ?_) | refine And.intro (fun _ => ?_) (fun c => absurd c (by decide)))
    refine And.intro (mG1 hl hn (mls7 (by omega) (by omega) rfl rfl (ms3 (by omega) rfl))) ?_
    refine Exists.intro _ (Exists.intro _ (Exists.intro _ (And.intro c7 ?_)))
    refine And.intro (mG1 hl hn (mls7 (by omega) (by omega) rfl rfl (ms3 (by omega) rfl))) ?_
    refine Exists.intro _ (Exists.intro _ (Exists.intro _ (And.intro c1 ?_)))
    refine And.intro (by decide) ?_
    refine And.intro (fun _ => ?_) (fun c => absurd rfl (cF c))
    exact ih
  · refine mVn_P (stop := fun p => p == 12) 120 ?_
    refine And.intro ⟨by decide, fs0, h80⟩ ?_
    refine Exists.intro _ (And.intro ha ?_)
    refine And.intro (fun q => absurd (zgeT q hx hok.1.1 (by omega) (by omega)) (by omega)) (fun _ => ?_)
    refine And.intro (mG1 hl hn (mls7 (by omega) (by omega) mlo_i mlo_i (ms3 (by omega) rfl))) ?_
    refine Exists.intro _ (Exists.intro _ (Exists.intro _ (And.intro c2 ?_)))
    refine And.intro (mG1 hl hn (mls7 (by omega) (by omega) rfl mlo_i (ms3 (by omega) rfl))) ?_
    refine Exists.intro _ (Exists.intro _ (Exists.intro _ (And.intro c6 ?_)))
    refine Exists.intro true (Exists.intro 6 (Exists.intro f (Exists.intro 1 (And.intro (e_at hl) (And.intro hix ?_)))))
    refine Exists.intro 6 (Exists.intro f (Exists.intro 1 (Exists.intro _ (And.intro (e_at hl) (And.intro hix (And.intro (e_set hl) ?_))))))
    (first | refine And.intro (fun c => absurd c (by decide)) (fun _ => ?_) | refine And.intro (fun _ => ?_) (fun c => absurd c (by decide)))
    (first | refine And.intro (fun c => absurd c (by decide)) (fun _ => ?_) | refine And.intro (fun _ => ?_) (fun c => absurd c (by decide)))
    refine And.intro ⟨by decide, fs1, h81⟩ ?_
    refine Exists.intro _ (And.intro cs ?_)
    refine Exists.intro false (Exists.intro [] (And.intro (h6 _) ?_))
    refine And.intro (show (1 : Nat) ≤ 8 by decide) (Exists.intro false (Exists.intro 90 (Exists.intro [] (Exists.intro 1 (And.intro (h6 _) (And.intro ⟨by decide, by decide⟩ (And.intro (show aIx 1 (aStr 90).length = some 1 by decide) ?_)))))))
    (first | refine And.intro (fun c => absurd c (by decide)) (fun _ => ?_) | refine And.intro (fun _ => ?_) (fun c => absurd c (by decide)))
    (first | refine And.intro (fun c => absurd c (by decide)) (fun _ => ?_) | refine And.intro (fun _ => ?_) (fun c => absurd c (by decide)))
    (first | refine And.intro (fun c => absurd c (by decide)) (fun _ => ?_) | refine And.intro (fun _ => ?_) (fun c => absurd c (by decide)))
    (first | refine And.intro (fun c => absurd c (by decide)) (fun _ => ?_) | refine And.intro (fun _ => ?_) (fun c => absurd c (by decide)))
    (first | refine And.intro (fun c => absurd c (by decide)) (fun _ => ?_) | refine And.intro (fun _ => ?_) (fun c => absurd c (by decide)))
    (first | refine And.intro (fun c => absurd c (by decide)) (fun _ => ?_) | refine And.intro (fun _ => ?_) (fun c => absurd c (by decide)))
    (first | refine And.intro (fun c => absurd c (by decide)) (fun _ => ?_) | refine And.intro (fun _ => ?_) (fun c => absurd c (by decide)))
    refine And.intro (mG1 hl hn (mls7 (by omega) (by omega) rfl rfl (ms3 (by omega) rfl))) ?_
    refine Exists.intro _ (Exists.intro _ (Exists.intro _ (And.intro c5 ?_)))
    refine And.intro (fun c => absurd (h4.symm.trans c) (by decide)) (fun _ => ?_)
    (first | refine And.intro (fun c => absurd c (by decide)) (fun _ => ?_) | refine And.intro (fun _ => ?_) (fun c => absurd c (by decide)))
    (first | refine And.intro (fun c => absurd c (by decide)) (fun _ => ?_) | refine And.intro (fun _ => ?_) (fun c => absurd c (by decide)))
    refine And.intro (mG1 hl hn (mls7 (by omega) (by omega) rfl rfl (ms3 (by omega) rfl))) ?_
    refine Exists.intro _ (Exists.intro _ (Exists.intro _ (And.intro c3 ?_)))
    refine And.intro (fun _ => ?_) (fun c => absurd (hg.1.symm.trans c) (by decide))
    refine And.intro (mG1 hl hn (mls7 (by omega) (by omega) rfl rfl (ms3 (by omega) rfl))) ?_
    refine Exists.intro _ (Exists.intro _ (Exists.intro _ (And.intro c4 ?_)))
    refine And.intro (fun _ => ?_) (fun c => absurd (hg.2.symm.trans c) (by decide))
    (first | refine And.intro (fun c => absurd c (by decide)) (fun _ => ?_) | refine And.intro (fun _ => ?_) (fun c => absurd c (by decide)))
    refine And.intro (mG1 hl hn (mls7 (by omega) (by omega) rfl rfl (ms3 (by omega) rfl))) ?_
    refine Exists.intro _ (Exists.intro _ (Exists.intro _ (And.intro c7 ?_)))
    refine And.intro (mG1 hl hn (mls7 (by omega) (by omega) rfl rfl (ms3 (by omega) rfl))) ?_
    refine Exists.intro _ (Exists.intro _ (Exists.intro _ (And.intro c1 ?_)))
    refine And.intro (by decide) ?_
    refine And.intro (fun _ => ?_) (fun c => absurd rfl (cF c))
    exact ih
theorem l_st_21 (O : OK sn sf w l k H) (hn : n0 ≤ 253 + E.length) (hx : x = Int32.ofNat i) (hi : i < nw w) (h1 : w 1 i = 2) (h5 : w 5 i = 1) (h4 : aCond .lt (w 4 i) 0 = false) (hg : (aCond .ge (w 2 i) 0 = false ∧ aCond .ne (w 3 i) 0 = false) ∨ (aCond .ge (w 2 i) 0 = true ∧ aCond .ne (w 3 i) 0 = true)) (ih : mE (mFs n0 d) (tSt 12 H E (upd f 2 (f 2 + 1)) (a + 1) (b + 1) (x + 1) (some 2) (some 1)) P) : mE (mFs n0 d) (tSt 12 H E f a b x o5 o6) P := by
  have hok : wOk w (nw w) (gw w) (ow w) := ok_okk O
  have hle := hok.1.2.1
  have hl := ok_len O
  have h6 : ∀ E : aH, (H ++ E)[6]? = some (false, .inr (90, [])) := fun E => (ok_lo O (E := E) (q := 6) (by omega)).trans rfl
  have ha := C_account (E := hA6 E f) (d := d + 1) (x := 0) O ⟨by decide, by decide⟩ (acc_0 w _ _ _)
  have c2 := V_ware (E := hA6 E f) (d := d) (x := x) (y := 2) (v := 2) O hx hi ⟨by decide, by decide⟩ (show w 1 i = 2 from h1)
  have c6 := V_ware (E := hA6 E f) (d := d) (x := x) (y := 6) (v := 1) O hx hi ⟨by decide, by decide⟩ (show w 5 i = 1 from h5)
  have cs := C_sign (E := hA6 E (upd f 2 (f 2 + 1))) (d := d + 1) (x := x) O hx hi
  rw [h1] at cs
  have c5 := V_ware (E := hA6 E (upd f 2 (f 2 + 1))) (d := d) (x := x) (y := 5) (v := w 4 i) O hx hi ⟨by decide, by decide⟩ rfl
  have c3 := V_ware (E := hA6 E (upd f 2 (f 2 + 1))) (d := d) (x := x) (y := 3) (v := w 2 i) O hx hi ⟨by decide, by decide⟩ rfl
  have c4 := V_ware (E := hA6 E (upd f 2 (f 2 + 1))) (d := d) (x := x) (y := 4) (v := w 3 i) O hx hi ⟨by decide, by decide⟩ rfl
  have c7 := V_ware (E := hA6 E (upd f 2 (f 2 + 1))) (d := d) (x := x) (y := 7) (v := 1310 - 3 * (w 7 i / 2)) O hx hi ⟨by decide, by decide⟩ rfl
  have c1 := V_ware (E := hA6 E (upd f 2 (f 2 + 1))) (d := d) (x := x) (y := 1) (v := w 7 i) O hx hi ⟨by decide, by decide⟩ rfl
  have hix : aIx 2 6 = some 2 := by decide
  obtain ⟨fs0, h80⟩ := ok_8 O (E := hA6 E f)
  obtain ⟨fs1, h81⟩ := ok_8 O (E := hA6 E (upd f 2 (f 2 + 1)))
  rcases hg with hg | hg
  · refine mVn_P (stop := fun p => p == 12) 120 ?_
    refine And.intro ⟨by decide, fs0, h80⟩ ?_
    refine Exists.intro _ (And.intro ha ?_)
    refine And.intro (fun q => absurd (zgeT q hx hok.1.1 (by omega) (by omega)) (by omega)) (fun _ => ?_)
    refine And.intro (mG1 hl hn (mls7 (by omega) (by omega) mlo_i mlo_i (ms3 (by omega) rfl))) ?_
    refine Exists.intro _ (Exists.intro _ (Exists.intro _ (And.intro c2 ?_)))
    refine And.intro (mG1 hl hn (mls7 (by omega) (by omega) rfl mlo_i (ms3 (by omega) rfl))) ?_
    refine Exists.intro _ (Exists.intro _ (Exists.intro _ (And.intro c6 ?_)))
    refine Exists.intro true (Exists.intro 6 (Exists.intro f (Exists.intro 2 (And.intro (e_at hl) (And.intro hix ?_)))))
    refine Exists.intro 6 (Exists.intro f (Exists.intro 2 (Exists.intro _ (And.intro (e_at hl) (And.intro hix (And.intro (e_set hl) ?_))))))
    (first | refine And.intro (fun c => absurd c (by decide)) (fun _ => ?_) | refine And.intro (fun _ => ?_) (fun c => absurd c (by decide)))
    (first | refine And.intro (fun c => absurd c (by decide)) (fun _ => ?_) | refine And.intro (fun _ => ?_) (fun c => absurd c (by decide)))
    refine And.intro ⟨by decide, fs1, h81⟩ ?_
    refine Exists.intro _ (And.intro cs ?_)
    refine Exists.intro false (Exists.intro [] (And.intro (h6 _) ?_))
    refine And.intro (show (1 : Nat) ≤ 8 by decide) (Exists.intro false (Exists.intro 90 (Exists.intro [] (Exists.intro 2 (And.intro (h6 _) (And.intro ⟨by decide, by decide⟩ (And.intro (show aIx 2 (aStr 90).length = some 2 by decide) ?_)))))))
    (first | refine And.intro (fun c => absurd c (by decide)) (fun _ => ?_) | refine And.intro (fun _ => ?_) (fun c => absurd c (by decide)))
    (first | refine And.intro (fun c => absurd c (by decide)) (fun _ => ?_) | refine And.intro (fun _ => ?_) (fun c => absurd c (by decide)))
    (first | refine And.intro (fun c => absurd c (by decide)) (fun _ => ?_) | refine And.intro (fun _ => ?_) (fun c => absurd c (by decide)))
    (first | refine And.intro (fun c => absurd c (by decide)) (fun _ => ?_) | refine And.intro (fun _ => ?_) (fun c => absurd c (by decide)))
    (first | refine And.intro (fun c => absurd c (by decide)) (fun _ => ?_) | refine And.intro (fun _ => ?_) (fun c => absurd c (by decide)))
    (first | refine And.intro (fun c => absurd c (by decide)) (fun _ => ?_) | refine And.intro (fun _ => ?_) (fun c => absurd c (by decide)))
    (first | refine And.intro (fun c => absurd c (by decide)) (fun _ => ?_) | refine And.intro (fun _ => ?_) (fun c => absurd c (by decide)))
    refine And.intro (mG1 hl hn (mls7 (by omega) (by omega) rfl rfl (ms3 (by omega) rfl))) ?_
    refine Exists.intro _ (Exists.intro _ (Exists.intro _ (And.intro c5 ?_)))
    refine And.intro (fun c => absurd (h4.symm.trans c) (by decide)) (fun _ => ?_)
    (first | refine And.intro (fun c => absurd c (by decide)) (fun _ => ?_) | refine And.intro (fun _ => ?_) (fun c => absurd c (by decide)))
    (first | refine And.intro (fun c => absurd c (by decide)) (fun _ => ?_) | refine And.intro (fun _ => ?_) (fun c => absurd c (by decide)))
    (first | refine And.intro (fun c => absurd c (by decide)) (fun _ => ?_) | refine And.intro (fun _ => ?_) (fun c => absurd c (by decide)))
    refine And.intro (mG1 hl hn (mls7 (by omega) (by omega) rfl rfl (ms3 (by omega) rfl))) ?_
    refine Exists.intro _ (Exists.intro _ (Exists.intro _ (And.intro c3 ?_)))
    refine And.intro (fun c => absurd (hg.1.symm.trans c) (by decide)) (fun _ => ?_)
    refine And.intro (mG1 hl hn (mls7 (by omega) (by omega) rfl rfl (ms3 (by omega) rfl))) ?_
    refine Exists.intro _ (Exists.intro _ (Exists.intro _ (And.intro c4 ?_)))
    refine And.intro (fun c => absurd (hg.2.symm.trans c) (by decide)) (fun _ => ?_)
    (first | refine And.intro (fun c => absurd c (by decide)) (fun _ => ?_) | refine And.intro (fun _ => ?_) (fun c => absurd c (by decide)))
    refine And.intro (mG1 hl hn (mls7 (by omega) (by omega) rfl rfl (ms3 (by omega) rfl))) ?_
    refine Exists.intro _ (Exists.intro _ (Exists.intro _ (And.intro c7 ?_)))
    refine And.intro (mG1 hl hn (mls7 (by omega) (by omega) rfl rfl (ms3 (by omega) rfl))) ?_
    refine Exists.intro _ (Exists.intro _ (Exists.intro _ (And.intro c1 ?_)))
    refine And.intro (by decide) ?_
    refine And.intro (fun _ => ?_) (fun c => absurd rfl (cF c))
    exact ih
  · refine mVn_P (stop := fun p => p == 12) 120 ?_
    refine And.intro ⟨by decide, fs0, h80⟩ ?_
    refine Exists.intro _ (And.intro ha ?_)
    refine And.intro (fun q => absurd (zgeT q hx hok.1.1 (by omega) (by omega)) (by omega)) (fun _ => ?_)
    refine And.intro (mG1 hl hn (mls7 (by omega) (by omega) mlo_i mlo_i (ms3 (by omega) rfl))) ?_
    refine Exists.intro _ (Exists.intro _ (Exists.intro _ (And.intro c2 ?_)))
    refine And.intro (mG1 hl hn (mls7 (by omega) (by omega) rfl mlo_i (ms3 (by omega) rfl))) ?_
    refine Exists.intro _ (Exists.intro _ (Exists.intro _ (And.intro c6 ?_)))
    refine Exists.intro true (Exists.intro 6 (Exists.intro f (Exists.intro 2 (And.intro (e_at hl) (And.intro hix ?_)))))
    refine Exists.intro 6 (Exists.intro f (Exists.intro 2 (Exists.intro _ (And.intro (e_at hl) (And.intro hix (And.intro (e_set hl) ?_))))))
    (first | refine And.intro (fun c => absurd c (by decide)) (fun _ => ?_) | refine And.intro (fun _ => ?_) (fun c => absurd c (by decide)))
    (first | refine And.intro (fun c => absurd c (by decide)) (fun _ => ?_) | refine And.intro (fun _ => ?_) (fun c => absurd c (by decide)))
    refine And.intro ⟨by decide, fs1, h81⟩ ?_
    refine Exists.intro _ (And.intro cs ?_)
    refine Exists.intro false (Exists.intro [] (And.intro (h6 _) ?_))
    refine And.intro (show (1 : Nat) ≤ 8 by decide) (Exists.intro false (Exists.intro 90 (Exists.intro [] (Exists.intro 2 (And.intro (h6 _) (And.intro ⟨by decide, by decide⟩ (And.intro (show aIx 2 (aStr 90).length = some 2 by decide) ?_)))))))
    (first | refine And.intro (fun c => absurd c (by decide)) (fun _ => ?_) | refine And.intro (fun _ => ?_) (fun c => absurd c (by decide)))
    (first | refine And.intro (fun c => absurd c (by decide)) (fun _ => ?_) | refine And.intro (fun _ => ?_) (fun c => absurd c (by decide)))
    (first | refine And.intro (fun c => absurd c (by decide)) (fun _ => ?_) | refine And.intro (fun _ => ?_) (fun c => absurd c (by decide)))
    (first | refine And.intro (fun c => absurd c (by decide)) (fun _ => ?_) | refine And.intro (fun _ => ?_) (fun c => absurd c (by decide)))
    (first | refine And.intro (fun c => absurd c (by decide)) (fun _ => ?_) | refine And.intro (fun _ => ?_) (fun c => absurd c (by decide)))
    (first | refine And.intro (fun c => absurd c (by decide)) (fun _ => ?_) | refine And.intro (fun _ => ?_) (fun c => absurd c (by decide)))
    (first | refine And.intro (fun c => absurd c (by decide)) (fun _ => ?_) | refine And.intro (fun _ => ?_) (fun c => absurd c (by decide)))
    refine And.intro (mG1 hl hn (mls7 (by omega) (by omega) rfl rfl (ms3 (by omega) rfl))) ?_
    refine Exists.intro _ (Exists.intro _ (Exists.intro _ (And.intro c5 ?_)))
    refine And.intro (fun c => absurd (h4.symm.trans c) (by decide)) (fun _ => ?_)
    (first | refine And.intro (fun c => absurd c (by decide)) (fun _ => ?_) | refine And.intro (fun _ => ?_) (fun c => absurd c (by decide)))
    (first | refine And.intro (fun c => absurd c (by decide)) (fun _ => ?_) | refine And.intro (fun _ => ?_) (fun c => absurd c (by decide)))
    (first | refine And.intro (fun c => absurd c (by decide)) (fun _ => ?_) | refine And.intro (fun _ => ?_) (fun c => absurd c (by decide)))
    refine And.intro (mG1 hl hn (mls7 (by omega) (by omega) rfl rfl (ms3 (by omega) rfl))) ?_
    refine Exists.intro _ (Exists.intro _ (Exists.intro _ (And.intro c3 ?_)))
    refine And.intro (fun _ => ?_) (fun c => absurd (hg.1.symm.trans c) (by decide))
    refine And.intro (mG1 hl hn (mls7 (by omega) (by omega) rfl rfl (ms3 (by omega) rfl))) ?_
    refine Exists.intro _ (Exists.intro _ (Exists.intro _ (And.intro c4 ?_)))
    refine And.intro (fun _ => ?_) (fun c => absurd (hg.2.symm.trans c) (by decide))
    (first | refine And.intro (fun c => absurd c (by decide)) (fun _ => ?_) | refine And.intro (fun _ => ?_) (fun c => absurd c (by decide)))
    refine And.intro (mG1 hl hn (mls7 (by omega) (by omega) rfl rfl (ms3 (by omega) rfl))) ?_
    refine Exists.intro _ (Exists.intro _ (Exists.intro _ (And.intro c7 ?_)))
    refine And.intro (mG1 hl hn (mls7 (by omega) (by omega) rfl rfl (ms3 (by omega) rfl))) ?_
    refine Exists.intro _ (Exists.intro _ (Exists.intro _ (And.intro c1 ?_)))
    refine And.intro (by decide) ?_
    refine And.intro (fun _ => ?_) (fun c => absurd rfl (cF c))
    exact ih
theorem l_st_22 (O : OK sn sf w l k H) (hn : n0 ≤ 253 + E.length) (hx : x = Int32.ofNat i) (hi : i < nw w) (h1 : w 1 i = 2) (h5 : w 5 i = 2) (h4 : aCond .lt (w 4 i) 0 = false) (hg : (aCond .ge (w 2 i) 0 = false ∧ aCond .ne (w 3 i) 0 = false) ∨ (aCond .ge (w 2 i) 0 = true ∧ aCond .ne (w 3 i) 0 = true)) (ih : mE (mFs n0 d) (tSt 12 H E (upd f 2 (f 2 + 1)) (a + 0) (b + 1) (x + 1) (some 2) (some 2)) P) : mE (mFs n0 d) (tSt 12 H E f a b x o5 o6) P := by
  have hok : wOk w (nw w) (gw w) (ow w) := ok_okk O
  have hle := hok.1.2.1
  have hl := ok_len O
  have h6 : ∀ E : aH, (H ++ E)[6]? = some (false, .inr (90, [])) := fun E => (ok_lo O (E := E) (q := 6) (by omega)).trans rfl
  have ha := C_account (E := hA6 E f) (d := d + 1) (x := 0) O ⟨by decide, by decide⟩ (acc_0 w _ _ _)
  have c2 := V_ware (E := hA6 E f) (d := d) (x := x) (y := 2) (v := 2) O hx hi ⟨by decide, by decide⟩ (show w 1 i = 2 from h1)
  have c6 := V_ware (E := hA6 E f) (d := d) (x := x) (y := 6) (v := 2) O hx hi ⟨by decide, by decide⟩ (show w 5 i = 2 from h5)
  have cs := C_sign (E := hA6 E (upd f 2 (f 2 + 1))) (d := d + 1) (x := x) O hx hi
  rw [h1] at cs
  have c5 := V_ware (E := hA6 E (upd f 2 (f 2 + 1))) (d := d) (x := x) (y := 5) (v := w 4 i) O hx hi ⟨by decide, by decide⟩ rfl
  have c3 := V_ware (E := hA6 E (upd f 2 (f 2 + 1))) (d := d) (x := x) (y := 3) (v := w 2 i) O hx hi ⟨by decide, by decide⟩ rfl
  have c4 := V_ware (E := hA6 E (upd f 2 (f 2 + 1))) (d := d) (x := x) (y := 4) (v := w 3 i) O hx hi ⟨by decide, by decide⟩ rfl
  have c7 := V_ware (E := hA6 E (upd f 2 (f 2 + 1))) (d := d) (x := x) (y := 7) (v := 1310 - 3 * (w 7 i / 2)) O hx hi ⟨by decide, by decide⟩ rfl
  have c1 := V_ware (E := hA6 E (upd f 2 (f 2 + 1))) (d := d) (x := x) (y := 1) (v := w 7 i) O hx hi ⟨by decide, by decide⟩ rfl
  have hix : aIx 2 6 = some 2 := by decide
  obtain ⟨fs0, h80⟩ := ok_8 O (E := hA6 E f)
  obtain ⟨fs1, h81⟩ := ok_8 O (E := hA6 E (upd f 2 (f 2 + 1)))
  rcases hg with hg | hg
  · refine mVn_P (stop := fun p => p == 12) 120 ?_
    refine And.intro ⟨by decide, fs0, h80⟩ ?_
    refine Exists.intro _ (And.intro ha ?_)
    refine And.intro (fun q => absurd (zgeT q hx hok.1.1 (by omega) (by omega)) (by omega)) (fun _ => ?_)
    refine And.intro (mG1 hl hn (mls7 (by omega) (by omega) mlo_i mlo_i (ms3 (by omega) rfl))) ?_
    refine Exists.intro _ (Exists.intro _ (Exists.intro _ (And.intro c2 ?_)))
    refine And.intro (mG1 hl hn (mls7 (by omega) (by omega) rfl mlo_i (ms3 (by omega) rfl))) ?_
    refine Exists.intro _ (Exists.intro _ (Exists.intro _ (And.intro c6 ?_)))
    refine Exists.intro true (Exists.intro 6 (Exists.intro f (Exists.intro 2 (And.intro (e_at hl) (And.intro hix ?_)))))
    refine Exists.intro 6 (Exists.intro f (Exists.intro 2 (Exists.intro _ (And.intro (e_at hl) (And.intro hix (And.intro (e_set hl) ?_))))))
    (first | refine And.intro (fun c => absurd c (by decide)) (fun _ => ?_) | refine And.intro (fun _ => ?_) (fun c => absurd c (by decide)))
    (first | refine And.intro (fun c => absurd c (by decide)) (fun _ => ?_) | refine And.intro (fun _ => ?_) (fun c => absurd c (by decide)))
    refine And.intro ⟨by decide, fs1, h81⟩ ?_
    refine Exists.intro _ (And.intro cs ?_)
    refine Exists.intro false (Exists.intro [] (And.intro (h6 _) ?_))
    refine And.intro (show (1 : Nat) ≤ 8 by decide) (Exists.intro false (Exists.intro 90 (Exists.intro [] (Exists.intro 2 (And.intro (h6 _) (And.intro ⟨by decide, by decide⟩ (And.intro (show aIx 2 (aStr 90).length = some 2 by decide) ?_)))))))
    (first | refine And.intro (fun c => absurd c (by decide)) (fun _ => ?_) | refine And.intro (fun _ => ?_) (fun c => absurd c (by decide)))
    (first | refine And.intro (fun c => absurd c (by decide)) (fun _ => ?_) | refine And.intro (fun _ => ?_) (fun c => absurd c (by decide)))
    (first | refine And.intro (fun c => absurd c (by decide)) (fun _ => ?_) | refine And.intro (fun _ => ?_) (fun c => absurd c (by decide)))
    (first | refine And.intro (fun c => absurd c (by decide)) (fun _ => ?_) | refine And.intro (fun _ => ?_) (fun c => absurd c (by decide)))
    (first | refine And.intro (fun c => absurd c (by decide)) (fun _ => ?_) | refine And.intro (fun _ => ?_) (fun c => absurd c (by decide)))
    (first | refine And.intro (fun c => absurd c (by decide)) (fun _ => ?_) | refine And.intro (fun _ => ?_) (fun c => absurd c (by decide)))
    (first | refine And.intro (fun c => absurd c (by decide)) (fun _ => ?_) | refine And.intro (fun _ => ?_) (fun c => absurd c (by decide)))
    refine And.intro (mG1 hl hn (mls7 (by omega) (by omega) rfl rfl (ms3 (by omega) rfl))) ?_
    refine Exists.intro _ (Exists.intro _ (Exists.intro _ (And.intro c5 ?_)))
    refine And.intro (fun c => absurd (h4.symm.trans c) (by decide)) (fun _ => ?_)
    (first | refine And.intro (fun c => absurd c (by decide)) (fun _ => ?_) | refine And.intro (fun _ => ?_) (fun c => absurd c (by decide)))
    (first | refine And.intro (fun c => absurd c (by decide)) (fun _ => ?_) | refine And.intro (fun _ => ?_) (fun c => absurd c (by decide)))
    (first | refine And.intro (fun c => absurd c (by decide)) (fun _ => ?_) | refine And.intro (fun _ => ?_) (fun c => absurd c (by decide)))
    refine And.intro (mG1 hl hn (mls7 (by omega) (by omega) rfl rfl (ms3 (by omega) rfl))) ?_
    refine Exists.intro _ (Exists.intro _ (Exists.intro _ (And.intro c3 ?_)))
    refine And.intro (fun c => absurd (hg.1.symm.trans c) (by decide)) (fun _ => ?_)
    refine And.intro (mG1 hl hn (mls7 (by omega) (by omega) rfl rfl (ms3 (by omega) rfl))) ?_
    refine Exists.intro _ (Exists.intro _ (Exists.intro _ (And.intro c4 ?_)))
    refine And.intro (fun c => absurd (hg.2.symm.trans c) (by decide)) (fun _ => ?_)
    (first | refine And.intro (fun c => absurd c (by decide)) (fun _ => ?_) | refine And.intro (fun _ => ?_) (fun c => absurd c (by decide)))
    refine And.intro (mG1 hl hn (mls7 (by omega) (by omega) rfl rfl (ms3 (by omega) rfl))) ?_
    refine Exists.intro _ (Exists.intro _ (Exists.intro _ (And.intro c7 ?_)))
    refine And.intro (mG1 hl hn (mls7 (by omega) (by omega) rfl rfl (ms3 (by omega) rfl))) ?_
    refine Exists.intro _ (Exists.intro _ (Exists.intro _ (And.intro c1 ?_)))
    refine And.intro (by decide) ?_
    refine And.intro (fun _ => ?_) (fun c => absurd rfl (cF c))
    exact ih
  · refine mVn_P (stop := fun p => p == 12) 120 ?_
    refine And.intro ⟨by decide, fs0, h80⟩ ?_
    refine Exists.intro _ (And.intro ha ?_)
    refine And.intro (fun q => absurd (zgeT q hx hok.1.1 (by omega) (by omega)) (by omega)) (fun _ => ?_)
    refine And.intro (mG1 hl hn (mls7 (by omega) (by omega) mlo_i mlo_i (ms3 (by omega) rfl))) ?_
    refine Exists.intro _ (Exists.intro _ (Exists.intro _ (And.intro c2 ?_)))
    refine And.intro (mG1 hl hn (mls7 (by omega) (by omega) rfl mlo_i (ms3 (by omega) rfl))) ?_
    refine Exists.intro _ (Exists.intro _ (Exists.intro _ (And.intro c6 ?_)))
    refine Exists.intro true (Exists.intro 6 (Exists.intro f (Exists.intro 2 (And.intro (e_at hl) (And.intro hix ?_)))))
    refine Exists.intro 6 (Exists.intro f (Exists.intro 2 (Exists.intro _ (And.intro (e_at hl) (And.intro hix (And.intro (e_set hl) ?_))))))
    (first | refine And.intro (fun c => absurd c (by decide)) (fun _ => ?_) | refine And.intro (fun _ => ?_) (fun c => absurd c (by decide)))
    (first | refine And.intro (fun c => absurd c (by decide)) (fun _ => ?_) | refine And.intro (fun _ => ?_) (fun c => absurd c (by decide)))
    refine And.intro ⟨by decide, fs1, h81⟩ ?_
    refine Exists.intro _ (And.intro cs ?_)
    refine Exists.intro false (Exists.intro [] (And.intro (h6 _) ?_))
    refine And.intro (show (1 : Nat) ≤ 8 by decide) (Exists.intro false (Exists.intro 90 (Exists.intro [] (Exists.intro 2 (And.intro (h6 _) (And.intro ⟨by decide, by decide⟩ (And.intro (show aIx 2 (aStr 90).length = some 2 by decide) ?_)))))))
    (first | refine And.intro (fun c => absurd c (by decide)) (fun _ => ?_) | refine And.intro (fun _ => ?_) (fun c => absurd c (by decide)))
    (first | refine And.intro (fun c => absurd c (by decide)) (fun _ => ?_) | refine And.intro (fun _ => ?_) (fun c => absurd c (by decide)))
    (first | refine And.intro (fun c => absurd c (by decide)) (fun _ => ?_) | refine And.intro (fun _ => ?_) (fun c => absurd c (by decide)))
    (first | refine And.intro (fun c => absurd c (by decide)) (fun _ => ?_) | refine And.intro (fun _ => ?_) (fun c => absurd c (by decide)))
    (first | refine And.intro (fun c => absurd c (by decide)) (fun _ => ?_) | refine And.intro (fun _ => ?_) (fun c => absurd c (by decide)))
    (first | refine And.intro (fun c => absurd c (by decide)) (fun _ => ?_) | refine And.intro (fun _ => ?_) (fun c => absurd c (by decide)))
    (first | refine And.intro (fun c => absurd c (by decide)) (fun _ => ?_) | refine And.intro (fun _ => ?_) (fun c => absurd c (by decide)))
    refine And.intro (mG1 hl hn (mls7 (by omega) (by omega) rfl rfl (ms3 (by omega) rfl))) ?_
    refine Exists.intro _ (Exists.intro _ (Exists.intro _ (And.intro c5 ?_)))
    refine And.intro (fun c => absurd (h4.symm.trans c) (by decide)) (fun _ => ?_)
    (first | refine And.intro (fun c => absurd c (by decide)) (fun _ => ?_) | refine And.intro (fun _ => ?_) (fun c => absurd c (by decide)))
    (first | refine And.intro (fun c => absurd c (by decide)) (fun _ => ?_) | refine And.intro (fun _ => ?_) (fun c => absurd c (by decide)))
    (first | refine And.intro (fun c => absurd c (by decide)) (fun _ => ?_) | refine And.intro (fun _ => ?_) (fun c => absurd c (by decide)))
    refine And.intro (mG1 hl hn (mls7 (by omega) (by omega) rfl rfl (ms3 (by omega) rfl))) ?_
    refine Exists.intro _ (Exists.intro _ (Exists.intro _ (And.intro c3 ?_)))
    refine And.intro (fun _ => ?_) (fun c => absurd (hg.1.symm.trans c) (by decide))
    refine And.intro (mG1 hl hn (mls7 (by omega) (by omega) rfl rfl (ms3 (by omega) rfl))) ?_
    refine Exists.intro _ (Exists.intro _ (Exists.intro _ (And.intro c4 ?_)))
    refine And.intro (fun _ => ?_) (fun c => absurd (hg.2.symm.trans c) (by decide))
    (first | refine And.intro (fun c => absurd c (by decide)) (fun _ => ?_) | refine And.intro (fun _ => ?_) (fun c => absurd c (by decide)))
    refine And.intro (mG1 hl hn (mls7 (by omega) (by omega) rfl rfl (ms3 (by omega) rfl))) ?_
    refine Exists.intro _ (Exists.intro _ (Exists.intro _ (And.intro c7 ?_)))
    refine And.intro (mG1 hl hn (mls7 (by omega) (by omega) rfl rfl (ms3 (by omega) rfl))) ?_
    refine Exists.intro _ (Exists.intro _ (Exists.intro _ (And.intro c1 ?_)))
    refine And.intro (by decide) ?_
    refine And.intro (fun _ => ?_) (fun c => absurd rfl (cF c))
    exact ih
theorem l_st_23 (O : OK sn sf w l k H) (hn : n0 ≤ 253 + E.length) (hx : x = Int32.ofNat i) (hi : i < nw w) (h1 : w 1 i = 2) (h5 : w 5 i = 3) (h4 : aCond .lt (w 4 i) 0 = false) (hg : (aCond .ge (w 2 i) 0 = false ∧ aCond .ne (w 3 i) 0 = false) ∨ (aCond .ge (w 2 i) 0 = true ∧ aCond .ne (w 3 i) 0 = true)) (ih : mE (mFs n0 d) (tSt 12 H E (upd f 2 (f 2 + 1)) (a + 0) (b + 1) (x + 1) (some 2) (some 3)) P) : mE (mFs n0 d) (tSt 12 H E f a b x o5 o6) P := by
  have hok : wOk w (nw w) (gw w) (ow w) := ok_okk O
  have hle := hok.1.2.1
  have hl := ok_len O
  have h6 : ∀ E : aH, (H ++ E)[6]? = some (false, .inr (90, [])) := fun E => (ok_lo O (E := E) (q := 6) (by omega)).trans rfl
  have ha := C_account (E := hA6 E f) (d := d + 1) (x := 0) O ⟨by decide, by decide⟩ (acc_0 w _ _ _)
  have c2 := V_ware (E := hA6 E f) (d := d) (x := x) (y := 2) (v := 2) O hx hi ⟨by decide, by decide⟩ (show w 1 i = 2 from h1)
  have c6 := V_ware (E := hA6 E f) (d := d) (x := x) (y := 6) (v := 3) O hx hi ⟨by decide, by decide⟩ (show w 5 i = 3 from h5)
  have cs := C_sign (E := hA6 E (upd f 2 (f 2 + 1))) (d := d + 1) (x := x) O hx hi
  rw [h1] at cs
  have c5 := V_ware (E := hA6 E (upd f 2 (f 2 + 1))) (d := d) (x := x) (y := 5) (v := w 4 i) O hx hi ⟨by decide, by decide⟩ rfl
  have c3 := V_ware (E := hA6 E (upd f 2 (f 2 + 1))) (d := d) (x := x) (y := 3) (v := w 2 i) O hx hi ⟨by decide, by decide⟩ rfl
  have c4 := V_ware (E := hA6 E (upd f 2 (f 2 + 1))) (d := d) (x := x) (y := 4) (v := w 3 i) O hx hi ⟨by decide, by decide⟩ rfl
  have c7 := V_ware (E := hA6 E (upd f 2 (f 2 + 1))) (d := d) (x := x) (y := 7) (v := 1310 - 3 * (w 7 i / 2)) O hx hi ⟨by decide, by decide⟩ rfl
  have c1 := V_ware (E := hA6 E (upd f 2 (f 2 + 1))) (d := d) (x := x) (y := 1) (v := w 7 i) O hx hi ⟨by decide, by decide⟩ rfl
  have hix : aIx 2 6 = some 2 := by decide
  obtain ⟨fs0, h80⟩ := ok_8 O (E := hA6 E f)
  obtain ⟨fs1, h81⟩ := ok_8 O (E := hA6 E (upd f 2 (f 2 + 1)))
  rcases hg with hg | hg
  · refine mVn_P (stop := fun p => p == 12) 120 ?_
    refine And.intro ⟨by decide, fs0, h80⟩ ?_
    refine Exists.intro _ (And.intro ha ?_)
    refine And.intro (fun q => absurd (zgeT q hx hok.1.1 (by omega) (by omega)) (by omega)) (fun _ => ?_)
    refine And.intro (mG1 hl hn (mls7 (by omega) (by omega) mlo_i mlo_i (ms3 (by omega) rfl))) ?_
    refine Exists.intro _ (Exists.intro _ (Exists.intro _ (And.intro c2 ?_)))
    refine And.intro (mG1 hl hn (mls7 (by omega) (by omega) rfl mlo_i (ms3 (by omega) rfl))) ?_
    refine Exists.intro _ (Exists.intro _ (Exists.intro _ (And.intro c6 ?_)))
    refine Exists.intro true (Exists.intro 6 (Exists.intro f (Exists.intro 2 (And.intro (e_at hl) (And.intro hix ?_)))))
    refine Exists.intro 6 (Exists.intro f (Exists.intro 2 (Exists.intro _ (And.intro (e_at hl) (And.intro hix (And.intro (e_set hl) ?_))))))
    (first | refine And.intro (fun c => absurd c (by decide)) (fun _ => ?_) | refine And.intro (fun _ => ?_) (fun c => absurd c (by decide)))
    (first | refine And.intro (fun c => absurd c (by decide)) (fun _ => ?_) | refine And.intro (fun _ => ?_) (fun c => absurd c (by decide)))
    refine And.intro ⟨by decide, fs1, h81⟩ ?_
    refine Exists.intro _ (And.intro cs ?_)
    refine Exists.intro false (Exists.intro [] (And.intro (h6 _) ?_))
    refine And.intro (show (1 : Nat) ≤ 8 by decide) (Exists.intro false (Exists.intro 90 (Exists.intro [] (Exists.intro 2 (And.intro (h6 _) (And.intro ⟨by decide, by decide⟩ (And.intro (show aIx 2 (aStr 90).length = some 2 by decide) ?_)))))))
    (first | refine And.intro (fun c => absurd c (by decide)) (fun _ => ?_) | refine And.intro (fun _ => ?_) (fun c => absurd c (by decide)))
    (first | refine And.intro (fun c => absurd c (by decide)) (fun _ => ?_) | refine And.intro (fun _ => ?_) (fun c => absurd c (by decide)))
    (first | refine And.intro (fun c => absurd c (by decide)) (fun _ => ?_) | refine And.intro (fun _ => ?_) (fun c => absurd c (by decide)))
    (first | refine And.intro (fun c => absurd c (by decide)) (fun _ => ?_) | refine And.intro (fun _ => ?_) (fun c => absurd c (by decide)))
    (first | refine And.intro (fun c => absurd c (by decide)) (fun _ => ?_) | refine And.intro (fun _ => ?_) (fun c => absurd c (by decide)))
    (first | refine And.intro (fun c => absurd c (by decide)) (fun _ => ?_) | refine And.intro (fun _ => ?_) (fun c => absurd c (by decide)))
    (first | refine And.intro (fun c => absurd c (by decide)) (fun _ => ?_) | refine And.intro (fun _ => ?_) (fun c => absurd c (by decide)))
    (first | refine And.intro (fun c => absurd c (by decide)) (fun _ => ?_) | refine And.intro (fun _ => ?_) (fun c => absurd c (by decide)))
    refine And.intro (mG1 hl hn (mls7 (by omega) (by omega) rfl rfl (ms3 (by omega) rfl))) ?_
    refine Exists.intro _ (Exists.intro _ (Exists.intro _ (And.intro c5 ?_)))
    refine And.intro (fun c => absurd (h4.symm.trans c) (by decide)) (fun _ => ?_)
    (first | refine And.intro (fun c => absurd c (by decide)) (fun _ => ?_) | refine And.intro (fun _ => ?_) (fun c => absurd c (by decide)))
    (first | refine And.intro (fun c => absurd c (by decide)) (fun _ => ?_) | refine And.intro (fun _ => ?_) (fun c => absurd c (by decide)))
    (first | refine And.intro (fun c => absurd c (by decide)) (fun _ => ?_) | refine And.intro (fun _ => ?_) (fun c => absurd c (by decide)))
    refine And.intro (mG1 hl hn (mls7 (by omega) (by omega) rfl rfl (ms3 (by omega) rfl))) ?_
    refine Exists.intro _ (Exists.intro _ (Exists.intro _ (And.intro c3 ?_)))
    refine And.intro (fun c => absurd (hg.1.symm.trans c) (by decide)) (fun _ => ?_)
    refine And.intro (mG1 hl hn (mls7 (by omega) (by omega) rfl rfl (ms3 (by omega) rfl))) ?_
    refine Exists.intro _ (Exists.intro _ (Exists.intro _ (And.intro c4 ?_)))
    refine And.intro (fun c => absurd (hg.2.symm.trans c) (by decide)) (fun _ => ?_)
    (first | refine And.intro (fun c => absurd c (by decide)) (fun _ => ?_) | refine And.intro (fun _ => ?_) (fun c => absurd c (by decide)))
    refine And.intro (mG1 hl hn (mls7 (by omega) (by omega) rfl rfl (ms3 (by omega) rfl))) ?_
    refine Exists.intro _ (Exists.intro _ (Exists.intro _ (And.intro c7 ?_)))
    refine And.intro (mG1 hl hn (mls7 (by omega) (by omega) rfl rfl (ms3 (by omega) rfl))) ?_
    refine Exists.intro _ (Exists.intro _ (Exists.intro _ (And.intro c1 ?_)))
    refine And.intro (by decide) ?_
    refine And.intro (fun _ => ?_) (fun c => absurd rfl (cF c))
    exact ih
  · refine mVn_P (stop := fun p => p == 12) 120 ?_
    refine And.intro ⟨by decide, fs0, h80⟩ ?_
    refine Exists.intro _ (And.intro ha ?_)
    refine And.intro (fun q => absurd (zgeT q hx hok.1.1 (by omega) (by omega)) (by omega)) (fun _ => ?_)
    refine And.intro (mG1 hl hn (mls7 (by omega) (by omega) mlo_i mlo_i (ms3 (by omega) rfl))) ?_
    refine Exists.intro _ (Exists.intro _ (Exists.intro _ (And.intro c2 ?_)))
    refine And.intro (mG1 hl hn (mls7 (by omega) (by omega) rfl mlo_i (ms3 (by omega) rfl))) ?_
    refine Exists.intro _ (Exists.intro _ (Exists.intro _ (And.intro c6 ?_)))
    refine Exists.intro true (Exists.intro 6 (Exists.intro f (Exists.intro 2 (And.intro (e_at hl) (And.intro hix ?_)))))
    refine Exists.intro 6 (Exists.intro f (Exists.intro 2 (Exists.intro _ (And.intro (e_at hl) (And.intro hix (And.intro (e_set hl) ?_))))))
    (first | refine And.intro (fun c => absurd c (by decide)) (fun _ => ?_) | refine And.intro (fun _ => ?_) (fun c => absurd c (by decide)))
    (first | refine And.intro (fun c => absurd c (by decide)) (fun _ => ?_) | refine And.intro (fun _ => ?_) (fun c => absurd c (by decide)))
    refine And.intro ⟨by decide, fs1, h81⟩ ?_
    refine Exists.intro _ (And.intro cs ?_)
    refine Exists.intro false (Exists.intro [] (And.intro (h6 _) ?_))
    refine And.intro (show (1 : Nat) ≤ 8 by decide) (Exists.intro false (Exists.intro 90 (Exists.intro [] (Exists.intro 2 (And.intro (h6 _) (And.intro ⟨by decide, by decide⟩ (And.intro (show aIx 2 (aStr 90).length = some 2 by decide) ?_)))))))
    (first | refine And.intro (fun c => absurd c (by decide)) (fun _ => ?_) | refine And.intro (fun _ => ?_) (fun c => absurd c (by decide)))
    (first | refine And.intro (fun c => absurd c (by decide)) (fun _ => ?_) | refine And.intro (fun _ => ?_) (fun c => absurd c (by decide)))
    (first | refine And.intro (fun c => absurd c (by decide)) (fun _ => ?_) | refine And.intro (fun _ => ?_) (fun c => absurd c (by decide)))
    (first | refine And.intro (fun c => absurd c (by decide)) (fun _ => ?_) | refine And.intro (fun _ => ?_) (fun c => absurd c (by decide)))
    (first | refine And.intro (fun c => absurd c (by decide)) (fun _ => ?_) | refine And.intro (fun _ => ?_) (fun c => absurd c (by decide)))
    (first | refine And.intro (fun c => absurd c (by decide)) (fun _ => ?_) | refine And.intro (fun _ => ?_) (fun c => absurd c (by decide)))
    (first | refine And.intro (fun c => absurd c (by decide)) (fun _ => ?_) | refine And.intro (fun _ => ?_) (fun c => absurd c (by decide)))
    (first | refine And.intro (fun c => absurd c (by decide)) (fun _ => ?_) | refine And.intro (fun _ => ?_) (fun c => absurd c (by decide)))
    refine And.intro (mG1 hl hn (mls7 (by omega) (by omega) rfl rfl (ms3 (by omega) rfl))) ?_
    refine Exists.intro _ (Exists.intro _ (Exists.intro _ (And.intro c5 ?_)))
    refine And.intro (fun c => absurd (h4.symm.trans c) (by decide)) (fun _ => ?_)
    (first | refine And.intro (fun c => absurd c (by decide)) (fun _ => ?_) | refine And.intro (fun _ => ?_) (fun c => absurd c (by decide)))
    (first | refine And.intro (fun c => absurd c (by decide)) (fun _ => ?_) | refine And.intro (fun _ => ?_) (fun c => absurd c (by decide)))
    (first | refine And.intro (fun c => absurd c (by decide)) (fun _ => ?_) | refine And.intro (fun _ => ?_) (fun c => absurd c (by decide)))
    refine And.intro (mG1 hl hn (mls7 (by omega) (by omega) rfl rfl (ms3 (by omega) rfl))) ?_
    refine Exists.intro _ (Exists.intro _ (Exists.intro _ (And.intro c3 ?_)))
    refine And.intro (fun _ => ?_) (fun c => absurd (hg.1.symm.trans c) (by decide))
    refine And.intro (mG1 hl hn (mls7 (by omega) (by omega) rfl rfl (ms3 (by omega) rfl))) ?_
    refine Exists.intro _ (Exists.intro _ (Exists.intro _ (And.intro c4 ?_)))
    refine And.intro (fun _ => ?_) (fun c => absurd (hg.2.symm.trans c) (by decide))
    (first | refine And.intro (fun c => absurd c (by decide)) (fun _ => ?_) | refine And.intro (fun _ => ?_) (fun c => absurd c (by decide)))
    refine And.intro (mG1 hl hn (mls7 (by omega) (by omega) rfl rfl (ms3 (by omega) rfl))) ?_
    refine Exists.intro _ (Exists.intro _ (Exists.intro _ (And.intro c7 ?_)))
    refine And.intro (mG1 hl hn (mls7 (by omega) (by omega) rfl rfl (ms3 (by omega) rfl))) ?_
    refine Exists.intro _ (Exists.intro _ (Exists.intro _ (And.intro c1 ?_)))
    refine And.intro (by decide) ?_
    refine And.intro (fun _ => ?_) (fun c => absurd rfl (cF c))
    exact ih
theorem l_st_31 (O : OK sn sf w l k H) (hn : n0 ≤ 253 + E.length) (hx : x = Int32.ofNat i) (hi : i < nw w) (h1 : w 1 i = 3) (h5 : w 5 i = 1) (h4 : aCond .lt (w 4 i) 0 = true) (hg : (aCond .ge (w 2 i) 0 = false ∧ aCond .ne (w 3 i) 0 = false) ∨ (aCond .ge (w 2 i) 0 = true ∧ aCond .ne (w 3 i) 0 = true)) (ih : mE (mFs n0 d) (tSt 12 H E (upd f 3 (f 3 + 1)) (a + 1) (b + 1) (x + 1) (some 3) (some 1)) P) : mE (mFs n0 d) (tSt 12 H E f a b x o5 o6) P := by
  have hok : wOk w (nw w) (gw w) (ow w) := ok_okk O
  have hle := hok.1.2.1
  have hl := ok_len O
  have h6 : ∀ E : aH, (H ++ E)[6]? = some (false, .inr (90, [])) := fun E => (ok_lo O (E := E) (q := 6) (by omega)).trans rfl
  have ha := C_account (E := hA6 E f) (d := d + 1) (x := 0) O ⟨by decide, by decide⟩ (acc_0 w _ _ _)
  have c2 := V_ware (E := hA6 E f) (d := d) (x := x) (y := 2) (v := 3) O hx hi ⟨by decide, by decide⟩ (show w 1 i = 3 from h1)
  have c6 := V_ware (E := hA6 E f) (d := d) (x := x) (y := 6) (v := 1) O hx hi ⟨by decide, by decide⟩ (show w 5 i = 1 from h5)
  have cs := C_sign (E := hA6 E (upd f 3 (f 3 + 1))) (d := d + 1) (x := x) O hx hi
  rw [h1] at cs
  have c5 := V_ware (E := hA6 E (upd f 3 (f 3 + 1))) (d := d) (x := x) (y := 5) (v := w 4 i) O hx hi ⟨by decide, by decide⟩ rfl
  have c3 := V_ware (E := hA6 E (upd f 3 (f 3 + 1))) (d := d) (x := x) (y := 3) (v := w 2 i) O hx hi ⟨by decide, by decide⟩ rfl
  have c4 := V_ware (E := hA6 E (upd f 3 (f 3 + 1))) (d := d) (x := x) (y := 4) (v := w 3 i) O hx hi ⟨by decide, by decide⟩ rfl
  have c7 := V_ware (E := hA6 E (upd f 3 (f 3 + 1))) (d := d) (x := x) (y := 7) (v := 1310 - 3 * (w 7 i / 2)) O hx hi ⟨by decide, by decide⟩ rfl
  have c1 := V_ware (E := hA6 E (upd f 3 (f 3 + 1))) (d := d) (x := x) (y := 1) (v := w 7 i) O hx hi ⟨by decide, by decide⟩ rfl
  have hix : aIx 3 6 = some 3 := by decide
  obtain ⟨fs0, h80⟩ := ok_8 O (E := hA6 E f)
  obtain ⟨fs1, h81⟩ := ok_8 O (E := hA6 E (upd f 3 (f 3 + 1)))
  rcases hg with hg | hg
  · refine mVn_P (stop := fun p => p == 12) 120 ?_
    refine And.intro ⟨by decide, fs0, h80⟩ ?_
    refine Exists.intro _ (And.intro ha ?_)
    refine And.intro (fun q => absurd (zgeT q hx hok.1.1 (by omega) (by omega)) (by omega)) (fun _ => ?_)
    refine And.intro (mG1 hl hn (mls7 (by omega) (by omega) mlo_i mlo_i (ms3 (by omega) rfl))) ?_
    refine Exists.intro _ (Exists.intro _ (Exists.intro _ (And.intro c2 ?_)))
    refine And.intro (mG1 hl hn (mls7 (by omega) (by omega) rfl mlo_i (ms3 (by omega) rfl))) ?_
    refine Exists.intro _ (Exists.intro _ (Exists.intro _ (And.intro c6 ?_)))
    refine Exists.intro true (Exists.intro 6 (Exists.intro f (Exists.intro 3 (And.intro (e_at hl) (And.intro hix ?_)))))
    refine Exists.intro 6 (Exists.intro f (Exists.intro 3 (Exists.intro _ (And.intro (e_at hl) (And.intro hix (And.intro (e_set hl) ?_))))))
    (first | refine And.intro (fun c => absurd c (by decide)) (fun _ => ?_) | refine And.intro (fun _ => ?_) (fun c => absurd c (by decide)))
    (first | refine And.intro (fun c => absurd c (by decide)) (fun _ => ?_) | refine And.intro (fun _ => ?_) (fun c => absurd c (by decide)))
    refine And.intro ⟨by decide, fs1, h81⟩ ?_
    refine Exists.intro _ (And.intro cs ?_)
    refine Exists.intro false (Exists.intro [] (And.intro (h6 _) ?_))
    refine And.intro (show (1 : Nat) ≤ 8 by decide) (Exists.intro false (Exists.intro 90 (Exists.intro [] (Exists.intro 3 (And.intro (h6 _) (And.intro ⟨by decide, by decide⟩ (And.intro (show aIx 3 (aStr 90).length = some 3 by decide) ?_)))))))
    (first | refine And.intro (fun c => absurd c (by decide)) (fun _ => ?_) | refine And.intro (fun _ => ?_) (fun c => absurd c (by decide)))
    (first | refine And.intro (fun c => absurd c (by decide)) (fun _ => ?_) | refine And.intro (fun _ => ?_) (fun c => absurd c (by decide)))
    (first | refine And.intro (fun c => absurd c (by decide)) (fun _ => ?_) | refine And.intro (fun _ => ?_) (fun c => absurd c (by decide)))
    (first | refine And.intro (fun c => absurd c (by decide)) (fun _ => ?_) | refine And.intro (fun _ => ?_) (fun c => absurd c (by decide)))
    (first | refine And.intro (fun c => absurd c (by decide)) (fun _ => ?_) | refine And.intro (fun _ => ?_) (fun c => absurd c (by decide)))
    (first | refine And.intro (fun c => absurd c (by decide)) (fun _ => ?_) | refine And.intro (fun _ => ?_) (fun c => absurd c (by decide)))
    (first | refine And.intro (fun c => absurd c (by decide)) (fun _ => ?_) | refine And.intro (fun _ => ?_) (fun c => absurd c (by decide)))
    refine And.intro (mG1 hl hn (mls7 (by omega) (by omega) rfl rfl (ms3 (by omega) rfl))) ?_
    refine Exists.intro _ (Exists.intro _ (Exists.intro _ (And.intro c5 ?_)))
    refine And.intro (fun _ => ?_) (fun c => absurd (h4.symm.trans c) (by decide))
    (first | refine And.intro (fun c => absurd c (by decide)) (fun _ => ?_) | refine And.intro (fun _ => ?_) (fun c => absurd c (by decide)))
    (first | refine And.intro (fun c => absurd c (by decide)) (fun _ => ?_) | refine And.intro (fun _ => ?_) (fun c => absurd c (by decide)))
    (first | refine And.intro (fun c => absurd c (by decide)) (fun _ => ?_) | refine And.intro (fun _ => ?_) (fun c => absurd c (by decide)))
    refine And.intro (mG1 hl hn (mls7 (by omega) (by omega) rfl rfl (ms3 (by omega) rfl))) ?_
    refine Exists.intro _ (Exists.intro _ (Exists.intro _ (And.intro c3 ?_)))
    refine And.intro (fun c => absurd (hg.1.symm.trans c) (by decide)) (fun _ => ?_)
    refine And.intro (mG1 hl hn (mls7 (by omega) (by omega) rfl rfl (ms3 (by omega) rfl))) ?_
    refine Exists.intro _ (Exists.intro _ (Exists.intro _ (And.intro c4 ?_)))
    refine And.intro (fun c => absurd (hg.2.symm.trans c) (by decide)) (fun _ => ?_)
    (first | refine And.intro (fun c => absurd c (by decide)) (fun _ => ?_) | refine And.intro (fun _ => ?_) (fun c => absurd c (by decide)))
    refine And.intro (mG1 hl hn (mls7 (by omega) (by omega) rfl rfl (ms3 (by omega) rfl))) ?_
    refine Exists.intro _ (Exists.intro _ (Exists.intro _ (And.intro c7 ?_)))
    refine And.intro (mG1 hl hn (mls7 (by omega) (by omega) rfl rfl (ms3 (by omega) rfl))) ?_
    refine Exists.intro _ (Exists.intro _ (Exists.intro _ (And.intro c1 ?_)))
    refine And.intro (by decide) ?_
    refine And.intro (fun _ => ?_) (fun c => absurd rfl (cF c))
    exact ih
  · refine mVn_P (stop := fun p => p == 12) 120 ?_
    refine And.intro ⟨by decide, fs0, h80⟩ ?_
    refine Exists.intro _ (And.intro ha ?_)
    refine And.intro (fun q => absurd (zgeT q hx hok.1.1 (by omega) (by omega)) (by omega)) (fun _ => ?_)
    refine And.intro (mG1 hl hn (mls7 (by omega) (by omega) mlo_i mlo_i (ms3 (by omega) rfl))) ?_
    refine Exists.intro _ (Exists.intro _ (Exists.intro _ (And.intro c2 ?_)))
    refine And.intro (mG1 hl hn (mls7 (by omega) (by omega) rfl mlo_i (ms3 (by omega) rfl))) ?_
    refine Exists.intro _ (Exists.intro _ (Exists.intro _ (And.intro c6 ?_)))
    refine Exists.intro true (Exists.intro 6 (Exists.intro f (Exists.intro 3 (And.intro (e_at hl) (And.intro hix ?_)))))
    refine Exists.intro 6 (Exists.intro f (Exists.intro 3 (Exists.intro _ (And.intro (e_at hl) (And.intro hix (And.intro (e_set hl) ?_))))))
    (first | refine And.intro (fun c => absurd c (by decide)) (fun _ => ?_) | refine And.intro (fun _ => ?_) (fun c => absurd c (by decide)))
    (first | refine And.intro (fun c => absurd c (by decide)) (fun _ => ?_) | refine And.intro (fun _ => ?_) (fun c => absurd c (by decide)))
    refine And.intro ⟨by decide, fs1, h81⟩ ?_
    refine Exists.intro _ (And.intro cs ?_)
    refine Exists.intro false (Exists.intro [] (And.intro (h6 _) ?_))
    refine And.intro (show (1 : Nat) ≤ 8 by decide) (Exists.intro false (Exists.intro 90 (Exists.intro [] (Exists.intro 3 (And.intro (h6 _) (And.intro ⟨by decide, by decide⟩ (And.intro (show aIx 3 (aStr 90).length = some 3 by decide) ?_)))))))
    (first | refine And.intro (fun c => absurd c (by decide)) (fun _ => ?_) | refine And.intro (fun _ => ?_) (fun c => absurd c (by decide)))
    (first | refine And.intro (fun c => absurd c (by decide)) (fun _ => ?_) | refine And.intro (fun _ => ?_) (fun c => absurd c (by decide)))
    (first | refine And.intro (fun c => absurd c (by decide)) (fun _ => ?_) | refine And.intro (fun _ => ?_) (fun c => absurd c (by decide)))
    (first | refine And.intro (fun c => absurd c (by decide)) (fun _ => ?_) | refine And.intro (fun _ => ?_) (fun c => absurd c (by decide)))
    (first | refine And.intro (fun c => absurd c (by decide)) (fun _ => ?_) | refine And.intro (fun _ => ?_) (fun c => absurd c (by decide)))
    (first | refine And.intro (fun c => absurd c (by decide)) (fun _ => ?_) | refine And.intro (fun _ => ?_) (fun c => absurd c (by decide)))
    (first | refine And.intro (fun c => absurd c (by decide)) (fun _ => ?_) | refine And.intro (fun _ => ?_) (fun c => absurd c (by decide)))
    refine And.intro (mG1 hl hn (mls7 (by omega) (by omega) rfl rfl (ms3 (by omega) rfl))) ?_
    refine Exists.intro _ (Exists.intro _ (Exists.intro _ (And.intro c5 ?_)))
    refine And.intro (fun _ => ?_) (fun c => absurd (h4.symm.trans c) (by decide))
    (first | refine And.intro (fun c => absurd c (by decide)) (fun _ => ?_) | refine And.intro (fun _ => ?_) (fun c => absurd c (by decide)))
    (first | refine And.intro (fun c => absurd c (by decide)) (fun _ => ?_) | refine And.intro (fun _ => ?_) (fun c => absurd c (by decide)))
    (first | refine And.intro (fun c => absurd c (by decide)) (fun _ => ?_) | refine And.intro (fun _ => ?_) (fun c => absurd c (by decide)))
    refine And.intro (mG1 hl hn (mls7 (by omega) (by omega) rfl rfl (ms3 (by omega) rfl))) ?_
    refine Exists.intro _ (Exists.intro _ (Exists.intro _ (And.intro c3 ?_)))
    refine And.intro (fun _ => ?_) (fun c => absurd (hg.1.symm.trans c) (by decide))
    refine And.intro (mG1 hl hn (mls7 (by omega) (by omega) rfl rfl (ms3 (by omega) rfl))) ?_
    refine Exists.intro _ (Exists.intro _ (Exists.intro _ (And.intro c4 ?_)))
    refine And.intro (fun _ => ?_) (fun c => absurd (hg.2.symm.trans c) (by decide))
    (first | refine And.intro (fun c => absurd c (by decide)) (fun _ => ?_) | refine And.intro (fun _ => ?_) (fun c => absurd c (by decide)))
    refine And.intro (mG1 hl hn (mls7 (by omega) (by omega) rfl rfl (ms3 (by omega) rfl))) ?_
    refine Exists.intro _ (Exists.intro _ (Exists.intro _ (And.intro c7 ?_)))
    refine And.intro (mG1 hl hn (mls7 (by omega) (by omega) rfl rfl (ms3 (by omega) rfl))) ?_
    refine Exists.intro _ (Exists.intro _ (Exists.intro _ (And.intro c1 ?_)))
    refine And.intro (by decide) ?_
    refine And.intro (fun _ => ?_) (fun c => absurd rfl (cF c))
    exact ih
theorem l_st_32 (O : OK sn sf w l k H) (hn : n0 ≤ 253 + E.length) (hx : x = Int32.ofNat i) (hi : i < nw w) (h1 : w 1 i = 3) (h5 : w 5 i = 2) (h4 : aCond .lt (w 4 i) 0 = true) (hg : (aCond .ge (w 2 i) 0 = false ∧ aCond .ne (w 3 i) 0 = false) ∨ (aCond .ge (w 2 i) 0 = true ∧ aCond .ne (w 3 i) 0 = true)) (ih : mE (mFs n0 d) (tSt 12 H E (upd f 3 (f 3 + 1)) (a + 0) (b + 1) (x + 1) (some 3) (some 2)) P) : mE (mFs n0 d) (tSt 12 H E f a b x o5 o6) P := by
  have hok : wOk w (nw w) (gw w) (ow w) := ok_okk O
  have hle := hok.1.2.1
  have hl := ok_len O
  have h6 : ∀ E : aH, (H ++ E)[6]? = some (false, .inr (90, [])) := fun E => (ok_lo O (E := E) (q := 6) (by omega)).trans rfl
  have ha := C_account (E := hA6 E f) (d := d + 1) (x := 0) O ⟨by decide, by decide⟩ (acc_0 w _ _ _)
  have c2 := V_ware (E := hA6 E f) (d := d) (x := x) (y := 2) (v := 3) O hx hi ⟨by decide, by decide⟩ (show w 1 i = 3 from h1)
  have c6 := V_ware (E := hA6 E f) (d := d) (x := x) (y := 6) (v := 2) O hx hi ⟨by decide, by decide⟩ (show w 5 i = 2 from h5)
  have cs := C_sign (E := hA6 E (upd f 3 (f 3 + 1))) (d := d + 1) (x := x) O hx hi
  rw [h1] at cs
  have c5 := V_ware (E := hA6 E (upd f 3 (f 3 + 1))) (d := d) (x := x) (y := 5) (v := w 4 i) O hx hi ⟨by decide, by decide⟩ rfl
  have c3 := V_ware (E := hA6 E (upd f 3 (f 3 + 1))) (d := d) (x := x) (y := 3) (v := w 2 i) O hx hi ⟨by decide, by decide⟩ rfl
  have c4 := V_ware (E := hA6 E (upd f 3 (f 3 + 1))) (d := d) (x := x) (y := 4) (v := w 3 i) O hx hi ⟨by decide, by decide⟩ rfl
  have c7 := V_ware (E := hA6 E (upd f 3 (f 3 + 1))) (d := d) (x := x) (y := 7) (v := 1310 - 3 * (w 7 i / 2)) O hx hi ⟨by decide, by decide⟩ rfl
  have c1 := V_ware (E := hA6 E (upd f 3 (f 3 + 1))) (d := d) (x := x) (y := 1) (v := w 7 i) O hx hi ⟨by decide, by decide⟩ rfl
  have hix : aIx 3 6 = some 3 := by decide
  obtain ⟨fs0, h80⟩ := ok_8 O (E := hA6 E f)
  obtain ⟨fs1, h81⟩ := ok_8 O (E := hA6 E (upd f 3 (f 3 + 1)))
  rcases hg with hg | hg
  · refine mVn_P (stop := fun p => p == 12) 120 ?_
    refine And.intro ⟨by decide, fs0, h80⟩ ?_
    refine Exists.intro _ (And.intro ha ?_)
    refine And.intro (fun q => absurd (zgeT q hx hok.1.1 (by omega) (by omega)) (by omega)) (fun _ => ?_)
    refine And.intro (mG1 hl hn (mls7 (by omega) (by omega) mlo_i mlo_i (ms3 (by omega) rfl))) ?_
    refine Exists.intro _ (Exists.intro _ (Exists.intro _ (And.intro c2 ?_)))
    refine And.intro (mG1 hl hn (mls7 (by omega) (by omega) rfl mlo_i (ms3 (by omega) rfl))) ?_
    refine Exists.intro _ (Exists.intro _ (Exists.intro _ (And.intro c6 ?_)))
    refine Exists.intro true (Exists.intro 6 (Exists.intro f (Exists.intro 3 (And.intro (e_at hl) (And.intro hix ?_)))))
    refine Exists.intro 6 (Exists.intro f (Exists.intro 3 (Exists.intro _ (And.intro (e_at hl) (And.intro hix (And.intro (e_set hl) ?_))))))
    (first | refine And.intro (fun c => absurd c (by decide)) (fun _ => ?_) | refine And.intro (fun _ => ?_) (fun c => absurd c (by decide)))
    (first | refine And.intro (fun c => absurd c (by decide)) (fun _ => ?_) | refine And.intro (fun _ => ?_) (fun c => absurd c (by decide)))
    refine And.intro ⟨by decide, fs1, h81⟩ ?_
    refine Exists.intro _ (And.intro cs ?_)
    refine Exists.intro false (Exists.intro [] (And.intro (h6 _) ?_))
    refine And.intro (show (1 : Nat) ≤ 8 by decide) (Exists.intro false (Exists.intro 90 (Exists.intro [] (Exists.intro 3 (And.intro (h6 _) (And.intro ⟨by decide, by decide⟩ (And.intro (show aIx 3 (aStr 90).length = some 3 by decide) ?_)))))))
    (first | refine And.intro (fun c => absurd c (by decide)) (fun _ => ?_) | refine And.intro (fun _ => ?_) (fun c => absurd c (by decide)))
    (first | refine And.intro (fun c => absurd c (by decide)) (fun _ => ?_) | refine And.intro (fun _ => ?_) (fun c => absurd c (by decide)))
    (first | refine And.intro (fun c => absurd c (by decide)) (fun _ => ?_) | refine And.intro (fun _ => ?_) (fun c => absurd c (by decide)))
    (first | refine And.intro (fun c => absurd c (by decide)) (fun _ => ?_) | refine And.intro (fun _ => ?_) (fun c => absurd c (by decide)))
    (first | refine And.intro (fun c => absurd c (by decide)) (fun _ => ?_) | refine And.intro (fun _ => ?_) (fun c => absurd c (by decide)))
    (first | refine And.intro (fun c => absurd c (by decide)) (fun _ => ?_) | refine And.intro (fun _ => ?_) (fun c => absurd c (by decide)))
    (first | refine And.intro (fun c => absurd c (by decide)) (fun _ => ?_) | refine And.intro (fun _ => ?_) (fun c => absurd c (by decide)))
    refine And.intro (mG1 hl hn (mls7 (by omega) (by omega) rfl rfl (ms3 (by omega) rfl))) ?_
    refine Exists.intro _ (Exists.intro _ (Exists.intro _ (And.intro c5 ?_)))
    refine And.intro (fun _ => ?_) (fun c => absurd (h4.symm.trans c) (by decide))
    (first | refine And.intro (fun c => absurd c (by decide)) (fun _ => ?_) | refine And.intro (fun _ => ?_) (fun c => absurd c (by decide)))
    (first | refine And.intro (fun c => absurd c (by decide)) (fun _ => ?_) | refine And.intro (fun _ => ?_) (fun c => absurd c (by decide)))
    (first | refine And.intro (fun c => absurd c (by decide)) (fun _ => ?_) | refine And.intro (fun _ => ?_) (fun c => absurd c (by decide)))
    refine And.intro (mG1 hl hn (mls7 (by omega) (by omega) rfl rfl (ms3 (by omega) rfl))) ?_
    refine Exists.intro _ (Exists.intro _ (Exists.intro _ (And.intro c3 ?_)))
    refine And.intro (fun c => absurd (hg.1.symm.trans c) (by decide)) (fun _ => ?_)
    refine And.intro (mG1 hl hn (mls7 (by omega) (by omega) rfl rfl (ms3 (by omega) rfl))) ?_
    refine Exists.intro _ (Exists.intro _ (Exists.intro _ (And.intro c4 ?_)))
    refine And.intro (fun c => absurd (hg.2.symm.trans c) (by decide)) (fun _ => ?_)
    (first | refine And.intro (fun c => absurd c (by decide)) (fun _ => ?_) | refine And.intro (fun _ => ?_) (fun c => absurd c (by decide)))
    refine And.intro (mG1 hl hn (mls7 (by omega) (by omega) rfl rfl (ms3 (by omega) rfl))) ?_
    refine Exists.intro _ (Exists.intro _ (Exists.intro _ (And.intro c7 ?_)))
    refine And.intro (mG1 hl hn (mls7 (by omega) (by omega) rfl rfl (ms3 (by omega) rfl))) ?_
    refine Exists.intro _ (Exists.intro _ (Exists.intro _ (And.intro c1 ?_)))
    refine And.intro (by decide) ?_
    refine And.intro (fun _ => ?_) (fun c => absurd rfl (cF c))
    exact ih
  · refine mVn_P (stop := fun p => p == 12) 120 ?_
    refine And.intro ⟨by decide, fs0, h80⟩ ?_
    refine Exists.intro _ (And.intro ha ?_)
    refine And.intro (fun q => absurd (zgeT q hx hok.1.1 (by omega) (by omega)) (by omega)) (fun _ => ?_)
    refine And.intro (mG1 hl hn (mls7 (by omega) (by omega) mlo_i mlo_i (ms3 (by omega) rfl))) ?_
    refine Exists.intro _ (Exists.intro _ (Exists.intro _ (And.intro c2 ?_)))
    refine And.intro (mG1 hl hn (mls7 (by omega) (by omega) rfl mlo_i (ms3 (by omega) rfl))) ?_
    refine Exists.intro _ (Exists.intro _ (Exists.intro _ (And.intro c6 ?_)))
    refine Exists.intro true (Exists.intro 6 (Exists.intro f (Exists.intro 3 (And.intro (e_at hl) (And.intro hix ?_)))))
    refine Exists.intro 6 (Exists.intro f (Exists.intro 3 (Exists.intro _ (And.intro (e_at hl) (And.intro hix (And.intro (e_set hl) ?_))))))
    (first | refine And.intro (fun c => absurd c (by decide)) (fun _ => ?_) | refine And.intro (fun _ => ?_) (fun c => absurd c (by decide)))
    (first | refine And.intro (fun c => absurd c (by decide)) (fun _ => ?_) | refine And.intro (fun _ => ?_) (fun c => absurd c (by decide)))
    refine And.intro ⟨by decide, fs1, h81⟩ ?_
    refine Exists.intro _ (And.intro cs ?_)
    refine Exists.intro false (Exists.intro [] (And.intro (h6 _) ?_))
    refine And.intro (show (1 : Nat) ≤ 8 by decide) (Exists.intro false (Exists.intro 90 (Exists.intro [] (Exists.intro 3 (And.intro (h6 _) (And.intro ⟨by decide, by decide⟩ (And.intro (show aIx 3 (aStr 90).length = some 3 by decide) ?_)))))))
    (first | refine And.intro (fun c => absurd c (by decide)) (fun _ => ?_) | refine And.intro (fun _ => ?_) (fun c => absurd c (by decide)))
    (first | refine And.intro (fun c => absurd c (by decide)) (fun _ => ?_) | refine And.intro (fun _ => ?_) (fun c => absurd c (by decide)))
    (first | refine And.intro (fun c => absurd c (by decide)) (fun _ => ?_) | refine And.intro (fun _ => ?_) (fun c => absurd c (by decide)))
    (first | refine And.intro (fun c => absurd c (by decide)) (fun _ => ?_) | refine And.intro (fun _ => ?_) (fun c => absurd c (by decide)))
    (first | refine And.intro (fun c => absurd c (by decide)) (fun _ => ?_) | refine And.intro (fun _ => ?_) (fun c => absurd c (by decide)))
    (first | refine And.intro (fun c => absurd c (by decide)) (fun _ => ?_) | refine And.intro (fun _ => ?_) (fun c => absurd c (by decide)))
    (first | refine And.intro (fun c => absurd c (by decide)) (fun _ => ?_) | refine And.intro (fun _ => ?_) (fun c => absurd c (by decide)))
    refine And.intro (mG1 hl hn (mls7 (by omega) (by omega) rfl rfl (ms3 (by omega) rfl))) ?_
    refine Exists.intro _ (Exists.intro _ (Exists.intro _ (And.intro c5 ?_)))
    refine And.intro (fun _ => ?_) (fun c => absurd (h4.symm.trans c) (by decide))
    (first | refine And.intro (fun c => absurd c (by decide)) (fun _ => ?_) | refine And.intro (fun _ => ?_) (fun c => absurd c (by decide)))
    (first | refine And.intro (fun c => absurd c (by decide)) (fun _ => ?_) | refine And.intro (fun _ => ?_) (fun c => absurd c (by decide)))
    (first | refine And.intro (fun c => absurd c (by decide)) (fun _ => ?_) | refine And.intro (fun _ => ?_) (fun c => absurd c (by decide)))
    refine And.intro (mG1 hl hn (mls7 (by omega) (by omega) rfl rfl (ms3 (by omega) rfl))) ?_
    refine Exists.intro _ (Exists.intro _ (Exists.intro _ (And.intro c3 ?_)))
    refine And.intro (fun _ => ?_) (fun c => absurd (hg.1.symm.trans c) (by decide))
    refine And.intro (mG1 hl hn (mls7 (by omega) (by omega) rfl rfl (ms3 (by omega) rfl))) ?_
    refine Exists.intro _ (Exists.intro _ (Exists.intro _ (And.intro c4 ?_)))
    refine And.intro (fun _ => ?_) (fun c => absurd (hg.2.symm.trans c) (by decide))
    (first | refine And.intro (fun c => absurd c (by decide)) (fun _ => ?_) | refine And.intro (fun _ => ?_) (fun c => absurd c (by decide)))
    refine And.intro (mG1 hl hn (mls7 (by omega) (by omega) rfl rfl (ms3 (by omega) rfl))) ?_
    refine Exists.intro _ (Exists.intro _ (Exists.intro _ (And.intro c7 ?_)))
    refine And.intro (mG1 hl hn (mls7 (by omega) (by omega) rfl rfl (ms3 (by omega) rfl))) ?_
    refine Exists.intro _ (Exists.intro _ (Exists.intro _ (And.intro c1 ?_)))
    refine And.intro (by decide) ?_
    refine And.intro (fun _ => ?_) (fun c => absurd rfl (cF c))
    exact ih
theorem l_st_41 (O : OK sn sf w l k H) (hn : n0 ≤ 253 + E.length) (hx : x = Int32.ofNat i) (hi : i < nw w) (h1 : w 1 i = 4) (h5 : w 5 i = 1) (h4 : aCond .lt (w 4 i) 0 = true) (hg : (aCond .ge (w 2 i) 0 = false ∧ aCond .ne (w 3 i) 0 = false) ∨ (aCond .ge (w 2 i) 0 = true ∧ aCond .ne (w 3 i) 0 = true)) (ih : mE (mFs n0 d) (tSt 12 H E (upd f 4 (f 4 + 1)) (a + 1) (b + 1) (x + 1) (some 4) (some 1)) P) : mE (mFs n0 d) (tSt 12 H E f a b x o5 o6) P := by
  have hok : wOk w (nw w) (gw w) (ow w) := ok_okk O
  have hle := hok.1.2.1
  have hl := ok_len O
  have h6 : ∀ E : aH, (H ++ E)[6]? = some (false, .inr (90, [])) := fun E => (ok_lo O (E := E) (q := 6) (by omega)).trans rfl
  have ha := C_account (E := hA6 E f) (d := d + 1) (x := 0) O ⟨by decide, by decide⟩ (acc_0 w _ _ _)
  have c2 := V_ware (E := hA6 E f) (d := d) (x := x) (y := 2) (v := 4) O hx hi ⟨by decide, by decide⟩ (show w 1 i = 4 from h1)
  have c6 := V_ware (E := hA6 E f) (d := d) (x := x) (y := 6) (v := 1) O hx hi ⟨by decide, by decide⟩ (show w 5 i = 1 from h5)
  have cs := C_sign (E := hA6 E (upd f 4 (f 4 + 1))) (d := d + 1) (x := x) O hx hi
  rw [h1] at cs
  have c5 := V_ware (E := hA6 E (upd f 4 (f 4 + 1))) (d := d) (x := x) (y := 5) (v := w 4 i) O hx hi ⟨by decide, by decide⟩ rfl
  have c3 := V_ware (E := hA6 E (upd f 4 (f 4 + 1))) (d := d) (x := x) (y := 3) (v := w 2 i) O hx hi ⟨by decide, by decide⟩ rfl
  have c4 := V_ware (E := hA6 E (upd f 4 (f 4 + 1))) (d := d) (x := x) (y := 4) (v := w 3 i) O hx hi ⟨by decide, by decide⟩ rfl
  have c7 := V_ware (E := hA6 E (upd f 4 (f 4 + 1))) (d := d) (x := x) (y := 7) (v := 1310 - 3 * (w 7 i / 2)) O hx hi ⟨by decide, by decide⟩ rfl
  have c1 := V_ware (E := hA6 E (upd f 4 (f 4 + 1))) (d := d) (x := x) (y := 1) (v := w 7 i) O hx hi ⟨by decide, by decide⟩ rfl
  have hix : aIx 4 6 = some 4 := by decide
  obtain ⟨fs0, h80⟩ := ok_8 O (E := hA6 E f)
  obtain ⟨fs1, h81⟩ := ok_8 O (E := hA6 E (upd f 4 (f 4 + 1)))
  rcases hg with hg | hg
  · refine mVn_P (stop := fun p => p == 12) 120 ?_
    refine And.intro ⟨by decide, fs0, h80⟩ ?_
    refine Exists.intro _ (And.intro ha ?_)
    refine And.intro (fun q => absurd (zgeT q hx hok.1.1 (by omega) (by omega)) (by omega)) (fun _ => ?_)
    refine And.intro (mG1 hl hn (mls7 (by omega) (by omega) mlo_i mlo_i (ms3 (by omega) rfl))) ?_
    refine Exists.intro _ (Exists.intro _ (Exists.intro _ (And.intro c2 ?_)))
    refine And.intro (mG1 hl hn (mls7 (by omega) (by omega) rfl mlo_i (ms3 (by omega) rfl))) ?_
    refine Exists.intro _ (Exists.intro _ (Exists.intro _ (And.intro c6 ?_)))
    refine Exists.intro true (Exists.intro 6 (Exists.intro f (Exists.intro 4 (And.intro (e_at hl) (And.intro hix ?_)))))
    refine Exists.intro 6 (Exists.intro f (Exists.intro 4 (Exists.intro _ (And.intro (e_at hl) (And.intro hix (And.intro (e_set hl) ?_))))))
    (first | refine And.intro (fun c => absurd c (by decide)) (fun _ => ?_) | refine And.intro (fun _ => ?_) (fun c => absurd c (by decide)))
    (first | refine And.intro (fun c => absurd c (by decide)) (fun _ => ?_) | refine And.intro (fun _ => ?_) (fun c => absurd c (by decide)))
    refine And.intro ⟨by decide, fs1, h81⟩ ?_
    refine Exists.intro _ (And.intro cs ?_)
    refine Exists.intro false (Exists.intro [] (And.intro (h6 _) ?_))
    refine And.intro (show (1 : Nat) ≤ 8 by decide) (Exists.intro false (Exists.intro 90 (Exists.intro [] (Exists.intro 4 (And.intro (h6 _) (And.intro ⟨by decide, by decide⟩ (And.intro (show aIx 4 (aStr 90).length = some 4 by decide) ?_)))))))
    (first | refine And.intro (fun c => absurd c (by decide)) (fun _ => ?_) | refine And.intro (fun _ => ?_) (fun c => absurd c (by decide)))
    (first | refine And.intro (fun c => absurd c (by decide)) (fun _ => ?_) | refine And.intro (fun _ => ?_) (fun c => absurd c (by decide)))
    (first | refine And.intro (fun c => absurd c (by decide)) (fun _ => ?_) | refine And.intro (fun _ => ?_) (fun c => absurd c (by decide)))
    (first | refine And.intro (fun c => absurd c (by decide)) (fun _ => ?_) | refine And.intro (fun _ => ?_) (fun c => absurd c (by decide)))
    (first | refine And.intro (fun c => absurd c (by decide)) (fun _ => ?_) | refine And.intro (fun _ => ?_) (fun c => absurd c (by decide)))
    (first | refine And.intro (fun c => absurd c (by decide)) (fun _ => ?_) | refine And.intro (fun _ => ?_) (fun c => absurd c (by decide)))
    (first | refine And.intro (fun c => absurd c (by decide)) (fun _ => ?_) | refine And.intro (fun _ => ?_) (fun c => absurd c (by decide)))
    refine And.intro (mG1 hl hn (mls7 (by omega) (by omega) rfl rfl (ms3 (by omega) rfl))) ?_
    refine Exists.intro _ (Exists.intro _ (Exists.intro _ (And.intro c5 ?_)))
    refine And.intro (fun _ => ?_) (fun c => absurd (h4.symm.trans c) (by decide))
    (first | refine And.intro (fun c => absurd c (by decide)) (fun _ => ?_) | refine And.intro (fun _ => ?_) (fun c => absurd c (by decide)))
    (first | refine And.intro (fun c => absurd c (by decide)) (fun _ => ?_) | refine And.intro (fun _ => ?_) (fun c => absurd c (by decide)))
    (first | refine And.intro (fun c => absurd c (by decide)) (fun _ => ?_) | refine And.intro (fun _ => ?_) (fun c => absurd c (by decide)))
    refine And.intro (mG1 hl hn (mls7 (by omega) (by omega) rfl rfl (ms3 (by omega) rfl))) ?_
    refine Exists.intro _ (Exists.intro _ (Exists.intro _ (And.intro c3 ?_)))
    refine And.intro (fun c => absurd (hg.1.symm.trans c) (by decide)) (fun _ => ?_)
    refine And.intro (mG1 hl hn (mls7 (by omega) (by omega) rfl rfl (ms3 (by omega) rfl))) ?_
    refine Exists.intro _ (Exists.intro _ (Exists.intro _ (And.intro c4 ?_)))
    refine And.intro (fun c => absurd (hg.2.symm.trans c) (by decide)) (fun _ => ?_)
    (first | refine And.intro (fun c => absurd c (by decide)) (fun _ => ?_) | refine And.intro (fun _ => ?_) (fun c => absurd c (by decide)))
    refine And.intro (mG1 hl hn (mls7 (by omega) (by omega) rfl rfl (ms3 (by omega) rfl))) ?_
    refine Exists.intro _ (Exists.intro _ (Exists.intro _ (And.intro c7 ?_)))
    refine And.intro (mG1 hl hn (mls7 (by omega) (by omega) rfl rfl (ms3 (by omega) rfl))) ?_
    refine Exists.intro _ (Exists.intro _ (Exists.intro _ (And.intro c1 ?_)))
    refine And.intro (by decide) ?_
    refine And.intro (fun _ => ?_) (fun c => absurd rfl (cF c))
    exact ih
  · refine mVn_P (stop := fun p => p == 12) 120 ?_
    refine And.intro ⟨by decide, fs0, h80⟩ ?_
    refine Exists.intro _ (And.intro ha ?_)
    refine And.intro (fun q => absurd (zgeT q hx hok.1.1 (by omega) (by omega)) (by omega)) (fun _ => ?_)
    refine And.intro (mG1 hl hn (mls7 (by omega) (by omega) mlo_i mlo_i (ms3 (by omega) rfl))) ?_
    refine Exists.intro _ (Exists.intro _ (Exists.intro _ (And.intro c2 ?_)))
    refine And.intro (mG1 hl hn (mls7 (by omega) (by omega) rfl mlo_i (ms3 (by omega) rfl))) ?_
    refine Exists.intro _ (Exists.intro _ (Exists.intro _ (And.intro c6 ?_)))
    refine Exists.intro true (Exists.intro 6 (Exists.intro f (Exists.intro 4 (And.intro (e_at hl) (And.intro hix ?_)))))
    refine Exists.intro 6 (Exists.intro f (Exists.intro 4 (Exists.intro _ (And.intro (e_at hl) (And.intro hix (And.intro (e_set hl) ?_))))))
    (first | refine And.intro (fun c => absurd c (by decide)) (fun _ => ?_) | refine And.intro (fun _ => ?_) (fun c => absurd c (by decide)))
    (first | refine And.intro (fun c => absurd c (by decide)) (fun _ => ?_) | refine And.intro (fun _ => ?_) (fun c => absurd c (by decide)))
    refine And.intro ⟨by decide, fs1, h81⟩ ?_
    refine Exists.intro _ (And.intro cs ?_)
    refine Exists.intro false (Exists.intro [] (And.intro (h6 _) ?_))
    refine And.intro (show (1 : Nat) ≤ 8 by decide) (Exists.intro false (Exists.intro 90 (Exists.intro [] (Exists.intro 4 (And.intro (h6 _) (And.intro ⟨by decide, by decide⟩ (And.intro (show aIx 4 (aStr 90).length = some 4 by decide) ?_)))))))
    (first | refine And.intro (fun c => absurd c (by decide)) (fun _ => ?_) | refine And.intro (fun _ => ?_) (fun c => absurd c (by decide)))
    (first | refine And.intro (fun c => absurd c (by decide)) (fun _ => ?_) | refine And.intro (fun _ => ?_) (fun c => absurd c (by decide)))
    (first | refine And.intro (fun c => absurd c (by decide)) (fun _ => ?_) | refine And.intro (fun _ => ?_) (fun c => absurd c (by decide)))
    (first | refine And.intro (fun c => absurd c (by decide)) (fun _ => ?_) | refine And.intro (fun _ => ?_) (fun c => absurd c (by decide)))
    (first | refine And.intro (fun c => absurd c (by decide)) (fun _ => ?_) | refine And.intro (fun _ => ?_) (fun c => absurd c (by decide)))
    (first | refine And.intro (fun c => absurd c (by decide)) (fun _ => ?_) | refine And.intro (fun _ => ?_) (fun c => absurd c (by decide)))
    (first | refine And.intro (fun c => absurd c (by decide)) (fun _ => ?_) | refine And.intro (fun _ => ?_) (fun c => absurd c (by decide)))
    refine And.intro (mG1 hl hn (mls7 (by omega) (by omega) rfl rfl (ms3 (by omega) rfl))) ?_
    refine Exists.intro _ (Exists.intro _ (Exists.intro _ (And.intro c5 ?_)))
    refine And.intro (fun _ => ?_) (fun c => absurd (h4.symm.trans c) (by decide))
    (first | refine And.intro (fun c => absurd c (by decide)) (fun _ => ?_) | refine And.intro (fun _ => ?_) (fun c => absurd c (by decide)))
    (first | refine And.intro (fun c => absurd c (by decide)) (fun _ => ?_) | refine And.intro (fun _ => ?_) (fun c => absurd c (by decide)))
    (first | refine And.intro (fun c => absurd c (by decide)) (fun _ => ?_) | refine And.intro (fun _ => ?_) (fun c => absurd c (by decide)))
    refine And.intro (mG1 hl hn (mls7 (by omega) (by omega) rfl rfl (ms3 (by omega) rfl))) ?_
    refine Exists.intro _ (Exists.intro _ (Exists.intro _ (And.intro c3 ?_)))
    refine And.intro (fun _ => ?_) (fun c => absurd (hg.1.symm.trans c) (by decide))
    refine And.intro (mG1 hl hn (mls7 (by omega) (by omega) rfl rfl (ms3 (by omega) rfl))) ?_
    refine Exists.intro _ (Exists.intro _ (Exists.intro _ (And.intro c4 ?_)))
    refine And.intro (fun _ => ?_) (fun c => absurd (hg.2.symm.trans c) (by decide))
    (first | refine And.intro (fun c => absurd c (by decide)) (fun _ => ?_) | refine And.intro (fun _ => ?_) (fun c => absurd c (by decide)))
    refine And.intro (mG1 hl hn (mls7 (by omega) (by omega) rfl rfl (ms3 (by omega) rfl))) ?_
    refine Exists.intro _ (Exists.intro _ (Exists.intro _ (And.intro c7 ?_)))
    refine And.intro (mG1 hl hn (mls7 (by omega) (by omega) rfl rfl (ms3 (by omega) rfl))) ?_
    refine Exists.intro _ (Exists.intro _ (Exists.intro _ (And.intro c1 ?_)))
    refine And.intro (by decide) ?_
    refine And.intro (fun _ => ?_) (fun c => absurd rfl (cF c))
    exact ih
theorem l_st_42 (O : OK sn sf w l k H) (hn : n0 ≤ 253 + E.length) (hx : x = Int32.ofNat i) (hi : i < nw w) (h1 : w 1 i = 4) (h5 : w 5 i = 2) (h4 : aCond .lt (w 4 i) 0 = true) (hg : (aCond .ge (w 2 i) 0 = false ∧ aCond .ne (w 3 i) 0 = false) ∨ (aCond .ge (w 2 i) 0 = true ∧ aCond .ne (w 3 i) 0 = true)) (ih : mE (mFs n0 d) (tSt 12 H E (upd f 4 (f 4 + 1)) (a + 0) (b + 1) (x + 1) (some 4) (some 2)) P) : mE (mFs n0 d) (tSt 12 H E f a b x o5 o6) P := by
  have hok : wOk w (nw w) (gw w) (ow w) := ok_okk O
  have hle := hok.1.2.1
  have hl := ok_len O
  have h6 : ∀ E : aH, (H ++ E)[6]? = some (false, .inr (90, [])) := fun E => (ok_lo O (E := E) (q := 6) (by omega)).trans rfl
  have ha := C_account (E := hA6 E f) (d := d + 1) (x := 0) O ⟨by decide, by decide⟩ (acc_0 w _ _ _)
  have c2 := V_ware (E := hA6 E f) (d := d) (x := x) (y := 2) (v := 4) O hx hi ⟨by decide, by decide⟩ (show w 1 i = 4 from h1)
  have c6 := V_ware (E := hA6 E f) (d := d) (x := x) (y := 6) (v := 2) O hx hi ⟨by decide, by decide⟩ (show w 5 i = 2 from h5)
  have cs := C_sign (E := hA6 E (upd f 4 (f 4 + 1))) (d := d + 1) (x := x) O hx hi
  rw [h1] at cs
  have c5 := V_ware (E := hA6 E (upd f 4 (f 4 + 1))) (d := d) (x := x) (y := 5) (v := w 4 i) O hx hi ⟨by decide, by decide⟩ rfl
  have c3 := V_ware (E := hA6 E (upd f 4 (f 4 + 1))) (d := d) (x := x) (y := 3) (v := w 2 i) O hx hi ⟨by decide, by decide⟩ rfl
  have c4 := V_ware (E := hA6 E (upd f 4 (f 4 + 1))) (d := d) (x := x) (y := 4) (v := w 3 i) O hx hi ⟨by decide, by decide⟩ rfl
  have c7 := V_ware (E := hA6 E (upd f 4 (f 4 + 1))) (d := d) (x := x) (y := 7) (v := 1310 - 3 * (w 7 i / 2)) O hx hi ⟨by decide, by decide⟩ rfl
  have c1 := V_ware (E := hA6 E (upd f 4 (f 4 + 1))) (d := d) (x := x) (y := 1) (v := w 7 i) O hx hi ⟨by decide, by decide⟩ rfl
  have hix : aIx 4 6 = some 4 := by decide
  obtain ⟨fs0, h80⟩ := ok_8 O (E := hA6 E f)
  obtain ⟨fs1, h81⟩ := ok_8 O (E := hA6 E (upd f 4 (f 4 + 1)))
  rcases hg with hg | hg
  · refine mVn_P (stop := fun p => p == 12) 120 ?_
    refine And.intro ⟨by decide, fs0, h80⟩ ?_
    refine Exists.intro _ (And.intro ha ?_)
    refine And.intro (fun q => absurd (zgeT q hx hok.1.1 (by omega) (by omega)) (by omega)) (fun _ => ?_)
    refine And.intro (mG1 hl hn (mls7 (by omega) (by omega) mlo_i mlo_i (ms3 (by omega) rfl))) ?_
    refine Exists.intro _ (Exists.intro _ (Exists.intro _ (And.intro c2 ?_)))
    refine And.intro (mG1 hl hn (mls7 (by omega) (by omega) rfl mlo_i (ms3 (by omega) rfl))) ?_
    refine Exists.intro _ (Exists.intro _ (Exists.intro _ (And.intro c6 ?_)))
    refine Exists.intro true (Exists.intro 6 (Exists.intro f (Exists.intro 4 (And.intro (e_at hl) (And.intro hix ?_)))))
    refine Exists.intro 6 (Exists.intro f (Exists.intro 4 (Exists.intro _ (And.intro (e_at hl) (And.intro hix (And.intro (e_set hl) ?_))))))
    (first | refine And.intro (fun c => absurd c (by decide)) (fun _ => ?_) | refine And.intro (fun _ => ?_) (fun c => absurd c (by decide)))
    (first | refine And.intro (fun c => absurd c (by decide)) (fun _ => ?_) | refine And.intro (fun _ => ?_) (fun c => absurd c (by decide)))
    refine And.intro ⟨by decide, fs1, h81⟩ ?_
    refine Exists.intro _ (And.intro cs ?_)
    refine Exists.intro false (Exists.intro [] (And.intro (h6 _) ?_))
    refine And.intro (show (1 : Nat) ≤ 8 by decide) (Exists.intro false (Exists.intro 90 (Exists.intro [] (Exists.intro 4 (And.intro (h6 _) (And.intro ⟨by decide, by decide⟩ (And.intro (show aIx 4 (aStr 90).length = some 4 by decide) ?_)))))))
    (first | refine And.intro (fun c => absurd c (by decide)) (fun _ => ?_) | refine And.intro (fun _ => ?_) (fun c => absurd c (by decide)))
    (first | refine And.intro (fun c => absurd c (by decide)) (fun _ => ?_) | refine And.intro (fun _ => ?_) (fun c => absurd c (by decide)))
    (first | refine And.intro (fun c => absurd c (by decide)) (fun _ => ?_) | refine And.intro (fun _ => ?_) (fun c => absurd c (by decide)))
    (first | refine And.intro (fun c => absurd c (by decide)) (fun _ => ?_) | refine And.intro (fun _ => ?_) (fun c => absurd c (by decide)))
    (first | refine And.intro (fun c => absurd c (by decide)) (fun _ => ?_) | refine And.intro (fun _ => ?_) (fun c => absurd c (by decide)))
    (first | refine And.intro (fun c => absurd c (by decide)) (fun _ => ?_) | refine And.intro (fun _ => ?_) (fun c => absurd c (by decide)))
    (first | refine And.intro (fun c => absurd c (by decide)) (fun _ => ?_) | refine And.intro (fun _ => ?_) (fun c => absurd c (by decide)))
    refine And.intro (mG1 hl hn (mls7 (by omega) (by omega) rfl rfl (ms3 (by omega) rfl))) ?_
    refine Exists.intro _ (Exists.intro _ (Exists.intro _ (And.intro c5 ?_)))
    refine And.intro (fun _ => ?_) (fun c => absurd (h4.symm.trans c) (by decide))
    (first | refine And.intro (fun c => absurd c (by decide)) (fun _ => ?_) | refine And.intro (fun _ => ?_) (fun c => absurd c (by decide)))
    (first | refine And.intro (fun c => absurd c (by decide)) (fun _ => ?_) | refine And.intro (fun _ => ?_) (fun c => absurd c (by decide)))
    (first | refine And.intro (fun c => absurd c (by decide)) (fun _ => ?_) | refine And.intro (fun _ => ?_) (fun c => absurd c (by decide)))
    refine And.intro (mG1 hl hn (mls7 (by omega) (by omega) rfl rfl (ms3 (by omega) rfl))) ?_
    refine Exists.intro _ (Exists.intro _ (Exists.intro _ (And.intro c3 ?_)))
    refine And.intro (fun c => absurd (hg.1.symm.trans c) (by decide)) (fun _ => ?_)
    refine And.intro (mG1 hl hn (mls7 (by omega) (by omega) rfl rfl (ms3 (by omega) rfl))) ?_
    refine Exists.intro _ (Exists.intro _ (Exists.intro _ (And.intro c4 ?_)))
    refine And.intro (fun c => absurd (hg.2.symm.trans c) (by decide)) (fun _ => ?_)
    (first | refine And.intro (fun c => absurd c (by decide)) (fun _ => ?_) | refine And.intro (fun _ => ?_) (fun c => absurd c (by decide)))
    refine And.intro (mG1 hl hn (mls7 (by omega) (by omega) rfl rfl (ms3 (by omega) rfl))) ?_
    refine Exists.intro _ (Exists.intro _ (Exists.intro _ (And.intro c7 ?_)))
    refine And.intro (mG1 hl hn (mls7 (by omega) (by omega) rfl rfl (ms3 (by omega) rfl))) ?_
    refine Exists.intro _ (Exists.intro _ (Exists.intro _ (And.intro c1 ?_)))
    refine And.intro (by decide) ?_
    refine And.intro (fun _ => ?_) (fun c => absurd rfl (cF c))
    exact ih
  · refine mVn_P (stop := fun p => p == 12) 120 ?_
    refine And.intro ⟨by decide, fs0, h80⟩ ?_
    refine Exists.intro _ (And.intro ha ?_)
    refine And.intro (fun q => absurd (zgeT q hx hok.1.1 (by omega) (by omega)) (by omega)) (fun _ => ?_)
    refine And.intro (mG1 hl hn (mls7 (by omega) (by omega) mlo_i mlo_i (ms3 (by omega) rfl))) ?_
    refine Exists.intro _ (Exists.intro _ (Exists.intro _ (And.intro c2 ?_)))
    refine And.intro (mG1 hl hn (mls7 (by omega) (by omega) rfl mlo_i (ms3 (by omega) rfl))) ?_
    refine Exists.intro _ (Exists.intro _ (Exists.intro _ (And.intro c6 ?_)))
    refine Exists.intro true (Exists.intro 6 (Exists.intro f (Exists.intro 4 (And.intro (e_at hl) (And.intro hix ?_)))))
    refine Exists.intro 6 (Exists.intro f (Exists.intro 4 (Exists.intro _ (And.intro (e_at hl) (And.intro hix (And.intro (e_set hl) ?_))))))
    (first | refine And.intro (fun c => absurd c (by decide)) (fun _ => ?_) | refine And.intro (fun _ => ?_) (fun c => absurd c (by decide)))
    (first | refine And.intro (fun c => absurd c (by decide)) (fun _ => ?_) | refine And.intro (fun _ => ?_) (fun c => absurd c (by decide)))
    refine And.intro ⟨by decide, fs1, h81⟩ ?_
    refine Exists.intro _ (And.intro cs ?_)
    refine Exists.intro false (Exists.intro [] (And.intro (h6 _) ?_))
    refine And.intro (show (1 : Nat) ≤ 8 by decide) (Exists.intro false (Exists.intro 90 (Exists.intro [] (Exists.intro 4 (And.intro (h6 _) (And.intro ⟨by decide, by decide⟩ (And.intro (show aIx 4 (aStr 90).length = some 4 by decide) ?_)))))))
    (first | refine And.intro (fun c => absurd c (by decide)) (fun _ => ?_) | refine And.intro (fun _ => ?_) (fun c => absurd c (by decide)))
    (first | refine And.intro (fun c => absurd c (by decide)) (fun _ => ?_) | refine And.intro (fun _ => ?_) (fun c => absurd c (by decide)))
    (first | refine And.intro (fun c => absurd c (by decide)) (fun _ => ?_) | refine And.intro (fun _ => ?_) (fun c => absurd c (by decide)))
    (first | refine And.intro (fun c => absurd c (by decide)) (fun _ => ?_) | refine And.intro (fun _ => ?_) (fun c => absurd c (by decide)))
    (first | refine And.intro (fun c => absurd c (by decide)) (fun _ => ?_) | refine And.intro (fun _ => ?_) (fun c => absurd c (by decide)))
    (first | refine And.intro (fun c => absurd c (by decide)) (fun _ => ?_) | refine And.intro (fun _ => ?_) (fun c => absurd c (by decide)))
    (first | refine And.intro (fun c => absurd c (by decide)) (fun _ => ?_) | refine And.intro (fun _ => ?_) (fun c => absurd c (by decide)))
    refine And.intro (mG1 hl hn (mls7 (by omega) (by omega) rfl rfl (ms3 (by omega) rfl))) ?_
    refine Exists.intro _ (Exists.intro _ (Exists.intro _ (And.intro c5 ?_)))
    refine And.intro (fun _ => ?_) (fun c => absurd (h4.symm.trans c) (by decide))
    (first | refine And.intro (fun c => absurd c (by decide)) (fun _ => ?_) | refine And.intro (fun _ => ?_) (fun c => absurd c (by decide)))
    (first | refine And.intro (fun c => absurd c (by decide)) (fun _ => ?_) | refine And.intro (fun _ => ?_) (fun c => absurd c (by decide)))
    (first | refine And.intro (fun c => absurd c (by decide)) (fun _ => ?_) | refine And.intro (fun _ => ?_) (fun c => absurd c (by decide)))
    refine And.intro (mG1 hl hn (mls7 (by omega) (by omega) rfl rfl (ms3 (by omega) rfl))) ?_
    refine Exists.intro _ (Exists.intro _ (Exists.intro _ (And.intro c3 ?_)))
    refine And.intro (fun _ => ?_) (fun c => absurd (hg.1.symm.trans c) (by decide))
    refine And.intro (mG1 hl hn (mls7 (by omega) (by omega) rfl rfl (ms3 (by omega) rfl))) ?_
    refine Exists.intro _ (Exists.intro _ (Exists.intro _ (And.intro c4 ?_)))
    refine And.intro (fun _ => ?_) (fun c => absurd (hg.2.symm.trans c) (by decide))
    (first | refine And.intro (fun c => absurd c (by decide)) (fun _ => ?_) | refine And.intro (fun _ => ?_) (fun c => absurd c (by decide)))
    refine And.intro (mG1 hl hn (mls7 (by omega) (by omega) rfl rfl (ms3 (by omega) rfl))) ?_
    refine Exists.intro _ (Exists.intro _ (Exists.intro _ (And.intro c7 ?_)))
    refine And.intro (mG1 hl hn (mls7 (by omega) (by omega) rfl rfl (ms3 (by omega) rfl))) ?_
    refine Exists.intro _ (Exists.intro _ (Exists.intro _ (And.intro c1 ?_)))
    refine And.intro (by decide) ?_
    refine And.intro (fun _ => ?_) (fun c => absurd rfl (cF c))
    exact ih
theorem l_st_53 (O : OK sn sf w l k H) (hn : n0 ≤ 253 + E.length) (hx : x = Int32.ofNat i) (hi : i < nw w) (h1 : w 1 i = 5) (h5 : w 5 i = 3) (h4 : aCond .lt (w 4 i) 0 = true) (hg : (aCond .ge (w 2 i) 0 = false ∧ aCond .ne (w 3 i) 0 = false) ∨ (aCond .ge (w 2 i) 0 = true ∧ aCond .ne (w 3 i) 0 = true)) (ih : mE (mFs n0 d) (tSt 12 H E (upd f 5 (f 5 + 1)) (a + 0) (b + 1) (x + 1) (some 5) (some 3)) P) : mE (mFs n0 d) (tSt 12 H E f a b x o5 o6) P := by
  have hok : wOk w (nw w) (gw w) (ow w) := ok_okk O
  have hle := hok.1.2.1
  have hl := ok_len O
  have h6 : ∀ E : aH, (H ++ E)[6]? = some (false, .inr (90, [])) := fun E => (ok_lo O (E := E) (q := 6) (by omega)).trans rfl
  have ha := C_account (E := hA6 E f) (d := d + 1) (x := 0) O ⟨by decide, by decide⟩ (acc_0 w _ _ _)
  have c2 := V_ware (E := hA6 E f) (d := d) (x := x) (y := 2) (v := 5) O hx hi ⟨by decide, by decide⟩ (show w 1 i = 5 from h1)
  have c6 := V_ware (E := hA6 E f) (d := d) (x := x) (y := 6) (v := 3) O hx hi ⟨by decide, by decide⟩ (show w 5 i = 3 from h5)
  have cs := C_sign (E := hA6 E (upd f 5 (f 5 + 1))) (d := d + 1) (x := x) O hx hi
  rw [h1] at cs
  have c5 := V_ware (E := hA6 E (upd f 5 (f 5 + 1))) (d := d) (x := x) (y := 5) (v := w 4 i) O hx hi ⟨by decide, by decide⟩ rfl
  have c3 := V_ware (E := hA6 E (upd f 5 (f 5 + 1))) (d := d) (x := x) (y := 3) (v := w 2 i) O hx hi ⟨by decide, by decide⟩ rfl
  have c4 := V_ware (E := hA6 E (upd f 5 (f 5 + 1))) (d := d) (x := x) (y := 4) (v := w 3 i) O hx hi ⟨by decide, by decide⟩ rfl
  have c7 := V_ware (E := hA6 E (upd f 5 (f 5 + 1))) (d := d) (x := x) (y := 7) (v := 1310 - 3 * (w 7 i / 2)) O hx hi ⟨by decide, by decide⟩ rfl
  have c1 := V_ware (E := hA6 E (upd f 5 (f 5 + 1))) (d := d) (x := x) (y := 1) (v := w 7 i) O hx hi ⟨by decide, by decide⟩ rfl
  have hix : aIx 5 6 = some 5 := by decide
  obtain ⟨fs0, h80⟩ := ok_8 O (E := hA6 E f)
  obtain ⟨fs1, h81⟩ := ok_8 O (E := hA6 E (upd f 5 (f 5 + 1)))
  rcases hg with hg | hg
  · refine mVn_P (stop := fun p => p == 12) 120 ?_
    refine And.intro ⟨by decide, fs0, h80⟩ ?_
    refine Exists.intro _ (And.intro ha ?_)
    refine And.intro (fun q => absurd (zgeT q hx hok.1.1 (by omega) (by omega)) (by omega)) (fun _ => ?_)
    refine And.intro (mG1 hl hn (mls7 (by omega) (by omega) mlo_i mlo_i (ms3 (by omega) rfl))) ?_
    refine Exists.intro _ (Exists.intro _ (Exists.intro _ (And.intro c2 ?_)))
    refine And.intro (mG1 hl hn (mls7 (by omega) (by omega) rfl mlo_i (ms3 (by omega) rfl))) ?_
    refine Exists.intro _ (Exists.intro _ (Exists.intro _ (And.intro c6 ?_)))
    refine Exists.intro true (Exists.intro 6 (Exists.intro f (Exists.intro 5 (And.intro (e_at hl) (And.intro hix ?_)))))
    refine Exists.intro 6 (Exists.intro f (Exists.intro 5 (Exists.intro _ (And.intro (e_at hl) (And.intro hix (And.intro (e_set hl) ?_))))))
    (first | refine And.intro (fun c => absurd c (by decide)) (fun _ => ?_) | refine And.intro (fun _ => ?_) (fun c => absurd c (by decide)))
    (first | refine And.intro (fun c => absurd c (by decide)) (fun _ => ?_) | refine And.intro (fun _ => ?_) (fun c => absurd c (by decide)))
    refine And.intro ⟨by decide, fs1, h81⟩ ?_
    refine Exists.intro _ (And.intro cs ?_)
    refine Exists.intro false (Exists.intro [] (And.intro (h6 _) ?_))
    refine And.intro (show (1 : Nat) ≤ 8 by decide) (Exists.intro false (Exists.intro 90 (Exists.intro [] (Exists.intro 5 (And.intro (h6 _) (And.intro ⟨by decide, by decide⟩ (And.intro (show aIx 5 (aStr 90).length = some 5 by decide) ?_)))))))
    (first | refine And.intro (fun c => absurd c (by decide)) (fun _ => ?_) | refine And.intro (fun _ => ?_) (fun c => absurd c (by decide)))
    (first | refine And.intro (fun c => absurd c (by decide)) (fun _ => ?_) | refine And.intro (fun _ => ?_) (fun c => absurd c (by decide)))
    (first | refine And.intro (fun c => absurd c (by decide)) (fun _ => ?_) | refine And.intro (fun _ => ?_) (fun c => absurd c (by decide)))
    (first | refine And.intro (fun c => absurd c (by decide)) (fun _ => ?_) | refine And.intro (fun _ => ?_) (fun c => absurd c (by decide)))
    (first | refine And.intro (fun c => absurd c (by decide)) (fun _ => ?_) | refine And.intro (fun _ => ?_) (fun c => absurd c (by decide)))
    (first | refine And.intro (fun c => absurd c (by decide)) (fun _ => ?_) | refine And.intro (fun _ => ?_) (fun c => absurd c (by decide)))
    (first | refine And.intro (fun c => absurd c (by decide)) (fun _ => ?_) | refine And.intro (fun _ => ?_) (fun c => absurd c (by decide)))
    (first | refine And.intro (fun c => absurd c (by decide)) (fun _ => ?_) | refine And.intro (fun _ => ?_) (fun c => absurd c (by decide)))
    refine And.intro (mG1 hl hn (mls7 (by omega) (by omega) rfl rfl (ms3 (by omega) rfl))) ?_
    refine Exists.intro _ (Exists.intro _ (Exists.intro _ (And.intro c5 ?_)))
    refine And.intro (fun _ => ?_) (fun c => absurd (h4.symm.trans c) (by decide))
    (first | refine And.intro (fun c => absurd c (by decide)) (fun _ => ?_) | refine And.intro (fun _ => ?_) (fun c => absurd c (by decide)))
    (first | refine And.intro (fun c => absurd c (by decide)) (fun _ => ?_) | refine And.intro (fun _ => ?_) (fun c => absurd c (by decide)))
    (first | refine And.intro (fun c => absurd c (by decide)) (fun _ => ?_) | refine And.intro (fun _ => ?_) (fun c => absurd c (by decide)))
    refine And.intro (mG1 hl hn (mls7 (by omega) (by omega) rfl rfl (ms3 (by omega) rfl))) ?_
    refine Exists.intro _ (Exists.intro _ (Exists.intro _ (And.intro c3 ?_)))
    refine And.intro (fun c => absurd (hg.1.symm.trans c) (by decide)) (fun _ => ?_)
    refine And.intro (mG1 hl hn (mls7 (by omega) (by omega) rfl rfl (ms3 (by omega) rfl))) ?_
    refine Exists.intro _ (Exists.intro _ (Exists.intro _ (And.intro c4 ?_)))
    refine And.intro (fun c => absurd (hg.2.symm.trans c) (by decide)) (fun _ => ?_)
    (first | refine And.intro (fun c => absurd c (by decide)) (fun _ => ?_) | refine And.intro (fun _ => ?_) (fun c => absurd c (by decide)))
    refine And.intro (mG1 hl hn (mls7 (by omega) (by omega) rfl rfl (ms3 (by omega) rfl))) ?_
    refine Exists.intro _ (Exists.intro _ (Exists.intro _ (And.intro c7 ?_)))
    refine And.intro (mG1 hl hn (mls7 (by omega) (by omega) rfl rfl (ms3 (by omega) rfl))) ?_
    refine Exists.intro _ (Exists.intro _ (Exists.intro _ (And.intro c1 ?_)))
    refine And.intro (by decide) ?_
    refine And.intro (fun _ => ?_) (fun c => absurd rfl (cF c))
    exact ih
  · refine mVn_P (stop := fun p => p == 12) 120 ?_
    refine And.intro ⟨by decide, fs0, h80⟩ ?_
    refine Exists.intro _ (And.intro ha ?_)
    refine And.intro (fun q => absurd (zgeT q hx hok.1.1 (by omega) (by omega)) (by omega)) (fun _ => ?_)
    refine And.intro (mG1 hl hn (mls7 (by omega) (by omega) mlo_i mlo_i (ms3 (by omega) rfl))) ?_
    refine Exists.intro _ (Exists.intro _ (Exists.intro _ (And.intro c2 ?_)))
    refine And.intro (mG1 hl hn (mls7 (by omega) (by omega) rfl mlo_i (ms3 (by omega) rfl))) ?_
    refine Exists.intro _ (Exists.intro _ (Exists.intro _ (And.intro c6 ?_)))
    refine Exists.intro true (Exists.intro 6 (Exists.intro f (Exists.intro 5 (And.intro (e_at hl) (And.intro hix ?_)))))
    refine Exists.intro 6 (Exists.intro f (Exists.intro 5 (Exists.intro _ (And.intro (e_at hl) (And.intro hix (And.intro (e_set hl) ?_))))))
    (first | refine And.intro (fun c => absurd c (by decide)) (fun _ => ?_) | refine And.intro (fun _ => ?_) (fun c => absurd c (by decide)))
    (first | refine And.intro (fun c => absurd c (by decide)) (fun _ => ?_) | refine And.intro (fun _ => ?_) (fun c => absurd c (by decide)))
    refine And.intro ⟨by decide, fs1, h81⟩ ?_
    refine Exists.intro _ (And.intro cs ?_)
    refine Exists.intro false (Exists.intro [] (And.intro (h6 _) ?_))
    refine And.intro (show (1 : Nat) ≤ 8 by decide) (Exists.intro false (Exists.intro 90 (Exists.intro [] (Exists.intro 5 (And.intro (h6 _) (And.intro ⟨by decide, by decide⟩ (And.intro (show aIx 5 (aStr 90).length = some 5 by decide) ?_)))))))
    (first | refine And.intro (fun c => absurd c (by decide)) (fun _ => ?_) | refine And.intro (fun _ => ?_) (fun c => absurd c (by decide)))
    (first | refine And.intro (fun c => absurd c (by decide)) (fun _ => ?_) | refine And.intro (fun _ => ?_) (fun c => absurd c (by decide)))
    (first | refine And.intro (fun c => absurd c (by decide)) (fun _ => ?_) | refine And.intro (fun _ => ?_) (fun c => absurd c (by decide)))
    (first | refine And.intro (fun c => absurd c (by decide)) (fun _ => ?_) | refine And.intro (fun _ => ?_) (fun c => absurd c (by decide)))
    (first | refine And.intro (fun c => absurd c (by decide)) (fun _ => ?_) | refine And.intro (fun _ => ?_) (fun c => absurd c (by decide)))
    (first | refine And.intro (fun c => absurd c (by decide)) (fun _ => ?_) | refine And.intro (fun _ => ?_) (fun c => absurd c (by decide)))
    (first | refine And.intro (fun c => absurd c (by decide)) (fun _ => ?_) | refine And.intro (fun _ => ?_) (fun c => absurd c (by decide)))
    (first | refine And.intro (fun c => absurd c (by decide)) (fun _ => ?_) | refine And.intro (fun _ => ?_) (fun c => absurd c (by decide)))
    refine And.intro (mG1 hl hn (mls7 (by omega) (by omega) rfl rfl (ms3 (by omega) rfl))) ?_
    refine Exists.intro _ (Exists.intro _ (Exists.intro _ (And.intro c5 ?_)))
    refine And.intro (fun _ => ?_) (fun c => absurd (h4.symm.trans c) (by decide))
    (first | refine And.intro (fun c => absurd c (by decide)) (fun _ => ?_) | refine And.intro (fun _ => ?_) (fun c => absurd c (by decide)))
    (first | refine And.intro (fun c => absurd c (by decide)) (fun _ => ?_) | refine And.intro (fun _ => ?_) (fun c => absurd c (by decide)))
    (first | refine And.intro (fun c => absurd c (by decide)) (fun _ => ?_) | refine And.intro (fun _ => ?_) (fun c => absurd c (by decide)))
    refine And.intro (mG1 hl hn (mls7 (by omega) (by omega) rfl rfl (ms3 (by omega) rfl))) ?_
    refine Exists.intro _ (Exists.intro _ (Exists.intro _ (And.intro c3 ?_)))
    refine And.intro (fun _ => ?_) (fun c => absurd (hg.1.symm.trans c) (by decide))
    refine And.intro (mG1 hl hn (mls7 (by omega) (by omega) rfl rfl (ms3 (by omega) rfl))) ?_
    refine Exists.intro _ (Exists.intro _ (Exists.intro _ (And.intro c4 ?_)))
    refine And.intro (fun _ => ?_) (fun c => absurd (hg.2.symm.trans c) (by decide))
    (first | refine And.intro (fun c => absurd c (by decide)) (fun _ => ?_) | refine And.intro (fun _ => ?_) (fun c => absurd c (by decide)))
    refine And.intro (mG1 hl hn (mls7 (by omega) (by omega) rfl rfl (ms3 (by omega) rfl))) ?_
    refine Exists.intro _ (Exists.intro _ (Exists.intro _ (And.intro c7 ?_)))
    refine And.intro (mG1 hl hn (mls7 (by omega) (by omega) rfl rfl (ms3 (by omega) rfl))) ?_
    refine Exists.intro _ (Exists.intro _ (Exists.intro _ (And.intro c1 ?_)))
    refine And.intro (by decide) ?_
    refine And.intro (fun _ => ?_) (fun c => absurd rfl (cF c))
    exact ih
end STO
