/-! THE LAW: stores -/
/-- glaze and thickness go together -/
def Gt (w : aW) : Prop := ∀ j, j < nw w → (w 2 j < 0 ↔ w 3 j = 0)
theorem aFo_succ {τ : Type} (f : Nat → τ → τ) : ∀ (m i : Nat) (u : τ), aFo f (m + 1) i u = f (i + m) (aFo f m i u)
  | 0, i, u => rfl
  | m + 1, i, u => by
    show aFo f (m + 1) (i + 1) (f i u) = f (i + (m + 1)) (aFo f m (i + 1) (f i u))
    rw [aFo_succ f m (i + 1) (f i u), show i + 1 + m = i + (m + 1) by omega]
section STR
variable {sn : Nat} {sf : Nat → Int32} {w : aW} {l : List aW} {k : aW} {H E : aH} {d n0 i : Nat} {P : aR → Prop} {f : Nat → Int32} {a b x y z u : Int32} {o5 o6 : Option Int32}
theorem gt_c (h : Gt w) (hi : i < nw w) : (aCond .ge (w 2 i) 0 = false ∧ aCond .ne (w 3 i) 0 = false) ∨ (aCond .ge (w 2 i) 0 = true ∧ aCond .ne (w 3 i) 0 = true) := by
  by_cases c : w 2 i < 0
  · exact Or.inl ⟨decide_eq_false (p := 0 ≤ w 2 i) (Int32.not_le.mpr c), decide_eq_false (p := w 3 i ≠ 0) (fun q => q ((h i hi).mp c))⟩
  · exact Or.inr ⟨decide_eq_true (p := 0 ≤ w 2 i) (Int32.not_lt.mp c), decide_eq_true (p := w 3 i ≠ 0) (fun q => c ((h i hi).mpr q))⟩
theorem lt_neg {v : Int32} (h : v = -1) : aCond .lt v 0 = true := by rw [h]; decide
theorem lt_pos {v : Int32} {g : Nat} (h : ∃ k, k < g ∧ v = Int32.ofNat k) (hg : g ≤ 8) : aCond .lt v 0 = false := by
  obtain ⟨k, hk, e⟩ := h
  exact decide_eq_false (p := v < 0) (by rw [e]; exact ofN_lt0 (by omega))
/-- the first loop -/
def stI (w : aW) (i : Nat) (u : (Nat → Int32) × Int32 × Int32 × Option Int32 × Option Int32) : Prop := (∀ s, s < 6 → u.1 s = cSt w s i) ∧ u.2.1 = cFi w i ∧ u.2.2.1 = cFd w i
theorem l_st1 (O : OK sn sf w l k H) (G : Gt w) (hn : n0 ≤ 253 + E.length) (he : ∀ (f : Nat → Int32) (o5 o6 : Option Int32), (∀ s, s < 6 → f s = cSt w s (nw w)) → mE (mFs n0 d) (tSt 255 H E f (cFi w (nw w)) (cFd w (nw w)) 0 (some 0) o6) P) : mE (mFs n0 d) (tSt 12 H E (fun _ => 0) 0 0 0 none none) P := by
  have hok : wOk w (nw w) (gw w) (ow w) := ok_okk O
  have hle := hok.1.2.1
  refine k_inv0 (S := fun (u : (Nat → Int32) × Int32 × Int32 × Option Int32 × Option Int32) x => tSt 12 H E u.1 u.2.1 u.2.2.1 x u.2.2.2.1 u.2.2.2.2) (Inv := stI w) (n := nw w) (u := (fun _ => 0, 0, 0, none, none)) ⟨fun _ _ => rfl, rfl, rfl⟩ (fun i x u hi hx hu ih => ?_) (fun x u hx hu => ?_)
  · obtain ⟨f, a, b, o5, o6⟩ := u
    obtain ⟨hf, ha, hb⟩ := hu
    have ha : a = cFi w i := ha
    have hb : b = cFd w i := hb
    have hf : ∀ s, s < 6 → f s = cSt w s i := hf
    obtain ⟨-, -, hs⟩ := hok.2.1 i hi
    have hg := gt_c G hi
    have fi1 : w 5 i = 1 → a + 1 = cFi w (i + 1) := fun q => by rw [ha]; unfold cFi; rw [aSm_cnt, if_pos q]
    have fi0 : ¬ w 5 i = 1 → a + 0 = cFi w (i + 1) := fun q => by rw [ha]; unfold cFi; rw [aSm_cnt, if_neg q]
    have fd1 : ¬ w 5 i = 0 → b + 1 = cFd w (i + 1) := fun q => by rw [hb]; unfold cFd; rw [aSm_cnt, if_neg q]
    have fd0 : w 5 i = 0 → b + 0 = cFd w (i + 1) := fun q => by rw [hb]; unfold cFd; rw [aSm_cnt, if_pos q]
    show mE (mFs n0 d) (tSt 12 H E f a b x o5 o6) P
    rcases hs with ⟨h1, h5, h4⟩ | ⟨h1, h5, h4⟩ | ⟨h1, h5 | h5 | h5, h4⟩ | ⟨h1, h5 | h5, h4⟩ | ⟨h1, h5 | h5, h4⟩ | ⟨h1, h5, h4⟩
    · exact l_st_00 O hn hx hi h1 h5 (lt_neg h4) hg (ih (_, _, _, some 0, some 0) ⟨cSt_s (S := 0) (by omega) h1 hf, (fi0 (by rw [h5]; decide)), (fd0 h5)⟩)
    · exact l_st_10 O hn hx hi h1 h5 (lt_pos h4 hok.1.2.2.2.1) hg (ih (_, _, _, some 1, some 0) ⟨cSt_s (S := 1) (by omega) h1 hf, (fi0 (by rw [h5]; decide)), (fd0 h5)⟩)
    · exact l_st_21 O hn hx hi h1 h5 (lt_pos h4 hok.1.2.2.2.1) hg (ih (_, _, _, some 2, some 1) ⟨cSt_s (S := 2) (by omega) h1 hf, (fi1 h5), (fd1 (by rw [h5]; decide))⟩)
    · exact l_st_22 O hn hx hi h1 h5 (lt_pos h4 hok.1.2.2.2.1) hg (ih (_, _, _, some 2, some 2) ⟨cSt_s (S := 2) (by omega) h1 hf, (fi0 (by rw [h5]; decide)), (fd1 (by rw [h5]; decide))⟩)
    · exact l_st_23 O hn hx hi h1 h5 (lt_pos h4 hok.1.2.2.2.1) hg (ih (_, _, _, some 2, some 3) ⟨cSt_s (S := 2) (by omega) h1 hf, (fi0 (by rw [h5]; decide)), (fd1 (by rw [h5]; decide))⟩)
    · exact l_st_31 O hn hx hi h1 h5 (lt_neg h4) hg (ih (_, _, _, some 3, some 1) ⟨cSt_s (S := 3) (by omega) h1 hf, (fi1 h5), (fd1 (by rw [h5]; decide))⟩)
    · exact l_st_32 O hn hx hi h1 h5 (lt_neg h4) hg (ih (_, _, _, some 3, some 2) ⟨cSt_s (S := 3) (by omega) h1 hf, (fi0 (by rw [h5]; decide)), (fd1 (by rw [h5]; decide))⟩)
    · exact l_st_41 O hn hx hi h1 h5 (lt_neg h4) hg (ih (_, _, _, some 4, some 1) ⟨cSt_s (S := 4) (by omega) h1 hf, (fi1 h5), (fd1 (by rw [h5]; decide))⟩)
    · exact l_st_42 O hn hx hi h1 h5 (lt_neg h4) hg (ih (_, _, _, some 4, some 2) ⟨cSt_s (S := 4) (by omega) h1 hf, (fi0 (by rw [h5]; decide)), (fd1 (by rw [h5]; decide))⟩)
    · exact l_st_53 O hn hx hi h1 h5 (lt_neg h4) hg (ih (_, _, _, some 5, some 3) ⟨cSt_s (S := 5) (by omega) h1 hf, (fi0 (by rw [h5]; decide)), (fd1 (by rw [h5]; decide))⟩)
  · obtain ⟨f, a, b, o5, o6⟩ := u
    obtain ⟨hf, ha, hb⟩ := hu
    have ha : a = cFi w (nw w) := ha
    have hb : b = cFd w (nw w) := hb
    subst ha hb
    have hc := C_account (E := hA6 E f) (d := d + 1) (x := 0) O ⟨by decide, by decide⟩ (acc_0 w _ _ _)
    obtain ⟨fs, h8⟩ := ok_8 O (E := hA6 E f)
    show mE (mFs n0 d) (tSt 12 H E f (cFi w (nw w)) (cFd w (nw w)) x o5 o6) P
    refine mVn_P (stop := fun p => p == 255) 60 ?_
    refine And.intro ⟨by decide, fs, h8⟩ ?_
    refine Exists.intro _ (And.intro hc ?_)
    refine And.intro (fun _ => ?_) (fun q => absurd (zgeF q hx hok.1.1 (by omega) (by omega)) (by omega))
    exact he f o5 o6 hf
abbrev uSt (pc : Nat) (H E : aH) (f : Nat → Int32) (a b u x y : Int32) : aS := tSt pc H E f a b u (some x) (some y)
/-- a kind's glazes -/
theorem l_st2 (O : OK sn sf w l k H) (hn : n0 ≤ 253 + E.length) {c : Nat} (hx : x = Int32.ofNat c) (hc : c < 4) (he : ∀ y, mE (mFs n0 d) (tSt 255 H E f a b (aFo (fun q u => u + (wInSt w (nw w) (Int32.ofNat c) (Int32.ofNat q - 1) 2 + wInSt w (nw w) (Int32.ofNat c) (Int32.ofNat q - 1) 1)) 5 0 u) (some (x + 1)) (some y)) P) : mE (mFs n0 d) (uSt 264 H E f a b u x (-1)) P := by
  have hl := ok_len O
  have x3 : 0 ≤ x ∧ x ≤ 3 := ⟨(zI_le (x := 0) (i := 0) rfl hx (by omega) (by omega)).mpr (by omega), (zI_le (y := 3) (n := 3) hx rfl (by omega) (by omega)).mpr (by omega)⟩
  have key := k_inv (F := mFs n0 d) (P := P) (S := fun (u : Int32) z => uSt 264 H E f a b u x (z - 1)) (Inv := fun q v => v = aFo (fun q u => u + (wInSt w (nw w) (Int32.ofNat c) (Int32.ofNat q - 1) 2 + wInSt w (nw w) (Int32.ofNat c) (Int32.ofNat q - 1) 1)) q 0 u) (n := 5) (fun q z v hq hz hv ih => ?_) (fun z v hz hv => ?_) 5 0 0 u rfl rfl rfl
  · exact key
  · have y1 : -1 ≤ z - 1 ∧ z - 1 ≤ 3 := by
      have : ∀ q : Fin 5, -1 ≤ Int32.ofNat q.val - 1 ∧ Int32.ofNat q.val - 1 ≤ 3 := by decide
      rw [hz]
      exact this ⟨q, hq⟩
    have c1 := V_store (E := hA6 E f) (d := d) (x := x) (y := z - 1) (z := 1) O x3 y1
    have c0 := V_store (E := hA6 E f) (d := d) (x := x) (y := z - 1) (z := 0) O x3 y1
    have e1 : aFo (fun q u => u + (wInSt w (nw w) (Int32.ofNat c) (Int32.ofNat q - 1) 2 + wInSt w (nw w) (Int32.ofNat c) (Int32.ofNat q - 1) 1)) (q + 1) 0 u = v + (wInSt w (nw w) x (z - 1) 2 + wInSt w (nw w) x (z - 1) 1) := by
      rw [aFo_succ, hv, hx, hz, Nat.zero_add]
    have ih2 := ih _ e1.symm
    have lt : aCond .ge (z - 1) 4 = false := by
      have : ∀ q : Fin 5, aCond .ge (Int32.ofNat q.val - 1) 4 = false := by decide
      rw [hz]
      exact this ⟨q, hq⟩
    have ez : z - 1 + 1 = z + 1 - 1 := by rw [Int32.sub_add_cancel, Int32.add_sub_cancel]
    have ih3 : mE (mFs n0 d) (uSt 264 H E f a b (v + (wInSt w (nw w) x (z - 1) 2 + wInSt w (nw w) x (z - 1) 1)) x (z - 1 + 1)) P := by rw [ez]; exact ih2
    show mE (mFs n0 d) (uSt 264 H E f a b v x (z - 1)) P
    refine mVn_P (stop := fun p => p == 264) 60 ?_
    refine And.intro (fun q => absurd (lt.symm.trans q) (by decide)) (fun _ => ?_)
    refine And.intro (mG1 hl hn (mls7 (by omega) (by omega) rfl rfl (ms4 (by omega) rfl))) ?_
    refine Exists.intro _ (Exists.intro _ (Exists.intro _ (And.intro c1 ?_)))
    refine And.intro (mG1 hl hn (mls7 (by omega) (by omega) rfl rfl (ms4 (by omega) rfl))) ?_
    refine Exists.intro _ (Exists.intro _ (Exists.intro _ (And.intro c0 ?_)))
    exact ih3
  · have hv : v = aFo (fun q u => u + (wInSt w (nw w) (Int32.ofNat c) (Int32.ofNat q - 1) 2 + wInSt w (nw w) (Int32.ofNat c) (Int32.ofNat q - 1) 1)) 5 0 u := hv
    have ge : aCond .ge (z - 1) 4 = true := by rw [hz]; decide
    have h2 := he (z - 1)
    rw [← hv] at h2
    show mE (mFs n0 d) (uSt 264 H E f a b v x (z - 1)) P
    refine mVn_P (stop := fun p => p == 255) 60 ?_
    refine And.intro (fun _ => ?_) (fun q => absurd (ge.symm.trans q) (by decide))
    exact h2
theorem l_st3 (O : OK sn sf w l k H) (hn : n0 ≤ 253 + E.length) (he : ∀ o6 : Option Int32, mE (mFs n0 d) (tSt 309 H E f a b (stF w) (some 0) o6) P) {o6 : Option Int32} : mE (mFs n0 d) (tSt 255 H E f a b 0 (some 0) o6) P := by
  refine k_inv0 (S := fun (u : Int32 × Option Int32) z => tSt 255 H E f a b u.1 (some z) u.2) (Inv := fun c v => v.1 = aFo (fun kd u => aFo (fun q u => u + (wInSt w (nw w) (Int32.ofNat kd) (Int32.ofNat q - 1) 2 + wInSt w (nw w) (Int32.ofNat kd) (Int32.ofNat q - 1) 1)) 5 0 u) c 0 0) (n := 4) (u := (0, o6)) rfl (fun c x u hc hx hu ih => ?_) (fun x u hx hu => ?_)
  · obtain ⟨v, o6⟩ := u
    have hu : v = _ := hu
    have ih2 := fun y => ih (aFo (fun q u => u + (wInSt w (nw w) (Int32.ofNat c) (Int32.ofNat q - 1) 2 + wInSt w (nw w) (Int32.ofNat c) (Int32.ofNat q - 1) 1)) 5 0 v, some y) (by
      have e := aFo_succ (fun kd (u : Int32) => aFo (fun q u => u + (wInSt w (nw w) (Int32.ofNat kd) (Int32.ofNat q - 1) 2 + wInSt w (nw w) (Int32.ofNat kd) (Int32.ofNat q - 1) 1)) 5 0 u) c 0 0
      rw [Nat.zero_add, ← hu] at e
      exact e.symm)
    have h2 := l_st2 (d := d) (f := f) (a := a) (b := b) (u := v) (P := P) O hn hx hc ih2
    show mE (mFs n0 d) (tSt 255 H E f a b v (some x) o6) P
    refine mVn_P (stop := fun p => p == 264) 60 ?_
    refine And.intro (fun q => absurd (zgeT q hx (n := 4) rfl (by omega) (by omega)) (by omega)) (fun _ => ?_)
    exact h2
  · obtain ⟨v, o6⟩ := u
    have hu : v = stF w := hu
    subst hu
    show mE (mFs n0 d) (tSt 255 H E f a b (stF w) (some x) o6) P
    refine mVn_P (stop := fun p => p == 309) 60 ?_
    refine And.intro (fun _ => ?_) (fun q => absurd (zgeF q hx (n := 4) rfl (by omega) (by omega)) (by omega))
    exact he o6
/-- the states' numbers, and the store's; the share -/
theorem l_st4 (O : OK sn sf w l k H) (hn : n0 ≤ 253 + E.length) (hf : ∀ s, s < 6 → f s = cSt w s (nw w)) {o6 : Option Int32} : mE (mFs n0 d) (tSt 309 H E f (cFi w (nw w)) (cFd w (nw w)) (stF w) (some 0) o6) (fun r => r = (.inl (some (.int 1)), H ++ hA6 E f, (1, 6))) := by
  have hok : wOk w (nw w) (gw w) (ow w) := ok_okk O
  have hl := ok_len O
  obtain ⟨fs, h8⟩ := ok_8 O (E := hA6 E f)
  refine k_inv0 (S := fun (_ : Unit) z => tSt 309 H E f (cFi w (nw w)) (cFd w (nw w)) (stF w) (some z) o6) (Inv := fun _ _ => True) (n := 6) (u := ()) trivial (fun i x u hi hx _ ih => ?_) (fun x u hx _ => ?_)
  · have ih2 := ih () trivial
    have r1 : 0 ≤ 1 + x ∧ 1 + x ≤ 16 := by
      have : ∀ q : Fin 6, 0 ≤ 1 + Int32.ofNat q.val ∧ 1 + Int32.ofNat q.val ≤ 16 := by decide
      rw [hx]
      exact this ⟨i, hi⟩
    have hc := C_account (E := hA6 E f) (d := d + 1) (x := 1 + x) (v := f i) O r1 (by rw [hx, acc_st w _ _ _ hi, hf i hi])
    have hix : aIx x 6 = some i := aIx_of hx hi (by omega)
    refine mVn_P (stop := fun p => p == 309) 60 ?_
    refine And.intro (fun q => absurd (zgeT q hx (n := 6) rfl (by omega) (by omega)) (by omega)) (fun _ => ?_)
    refine And.intro ⟨by decide, fs, h8⟩ ?_
    refine Exists.intro _ (And.intro hc ?_)
    refine Exists.intro true (Exists.intro 6 (Exists.intro f (Exists.intro i (And.intro (e_at hl) (And.intro hix ?_)))))
    refine And.intro (fun _ => ?_) (fun q => absurd rfl (cF q))
    exact ih2
  · have e3 : stF w = f 3 := by rw [stF_st hok, hf 3 (by omega)]
    refine mVn_P (stop := fun p => p == 347) 60 ?_
    refine And.intro (fun _ => ?_) (fun q => absurd (zgeF q hx (n := 6) rfl (by omega) (by omega)) (by omega))
    refine Exists.intro true (Exists.intro 6 (Exists.intro f (Exists.intro 3 (And.intro (e_at hl) (And.intro (by decide) ?_)))))
    refine And.intro (fun q => absurd e3 (cT q)) (fun _ => ?_)
    obtain ⟨c, hc, ec⟩ := cFd_n w (nw w)
    by_cases h0 : c = 0
    · subst h0
      refine mVn_P (stop := fun p => false) 60 ?_
      refine And.intro (fun _ => ?_) (fun q => absurd ec (cF q))
      exact And.intro rfl rfl
    · have hle := hok.1.2.1
      have hw : wFired w (nw w) = Int32.ofNat c := (fd_w hok).symm.trans ec
      have hne : ¬ wFired w (nw w) = 0 := fun q => h0 (ofN_ne (by omega) (by omega) (hw.symm.trans q))
      have nn := ddiv_nn (x := wOfGr w (nw w) 1) (y := wFired w (nw w)) hw (by omega) h0
      have hq := bits64 nn
      have hcs := C_firstShare (E := hA6 E f) (d := d + 1) O hne hq
      have e1 : cFi w (nw w) = wOfGr w (nw w) 1 := rfl
      have e2 := fd_w hok
      rw [e1, e2]
      refine mVn_P (stop := fun p => false) 60 ?_
      refine And.intro (fun q => absurd (show wFired w (nw w) = 0 from cT q) hne) (fun _ => ?_)
      refine And.intro ⟨by decide, fs, h8⟩ ?_
      refine Exists.intro _ (And.intro hcs ?_)
      refine And.intro hq ?_
      refine And.intro (fun q => absurd (show Op.cmpValue (FP.dcmp _ _) .l = 0 from dcmp_eq nn) (cT q)) (fun _ => ?_)
      exact And.intro rfl rfl
/-- stores: what is asked of the wares and of the store is so -/
theorem L_stores (O : OK sn sf w l k H) (G : Gt w) (hE : mPl E) : ∃ f, mRun (d + 8) m_L_stores [.ref 8] (H ++ E) = some (.inl (some (.int 1)), H ++ hA6 E f, (1, 6)) := by
  have hl := ok_len O
  have hlen : (H ++ E).length = 252 + E.length := by rw [List.length_append, hl]
  have key : mE (mFs (252 + E.length) d) (tSt 12 H E (fun _ => 0) 0 0 0 none none) (fun r => ∃ f, r = (.inl (some (.int 1)), H ++ hA6 E f, (1, 6))) :=
    l_st1 O G (by omega) (fun f o5 o6 hf => l_st3 O (by omega) (fun o => (l_st4 O (by omega) hf).elim fun r q => ⟨r, q.1, f, q.2⟩))
  have h0 : mE (mStep (H ++ E).length (d + 7) (mRun (d + 7)) [] aB_L_stores (some .boolean)) (0, aIn 7 [.ref 8], [], H ++ E, (0, 0)) (fun r => ∃ f, r = (.inl (some (.int 1)), H ++ hA6 E f, (1, 6))) := by
    refine mVn_P (stop := fun p => p == 12) 60 ?_
    refine And.intro ⟨ok_cl O hE, mG0 O (Nat.le_refl _) rfl⟩ ?_
    refine And.intro ⟨by decide, by decide⟩ ?_
    show mE _ (12, [some (.ref 8), some (.ref (H ++ E).length), some (.int 0), some (.int 0), some (.int 0), none, none], [], (H ++ E) ++ [(true, .inl (.int, 6, .inl fun _ => 0))], (1, 6)) _
    rw [List.append_assoc, hlen]
    exact key
  obtain ⟨r, e1, f, e2⟩ := mRun_P (m := m_L_stores) rfl h0
  subst e2
  exact ⟨f, e1⟩
end STR
