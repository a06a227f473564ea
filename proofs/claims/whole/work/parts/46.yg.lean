/-! THE MODEL GLAZES AND PUTS -/
section YG
variable {sn : Nat} {sf : Nat → Int32} {m m1 w : aW} {n g o i j k f b L : Nat} {x y z v u s t c : Int32}
theorem melt_nn : ∀ a : Fin 4, ∀ b : Fin 10, 0 ≤ 1180 + 20 * Int32.ofNat a.val - 4 * Int32.ofNat b.val := by decide +kernel
theorem y_doGlaze (d : Nat) (R : Rl w (m 0) n g o) (ok : wOkA w n g o) : ∃ m1 v, aRun false (d + 8) m_X8_doGlaze [.ref 8, .int x, .int y, .int z] (aHn sn sf m) = some (.inl (some (.int v)), aHn sn sf m1, (0, 0)) ∧ mDo (fCoat w x y z) cd3 m m1 v := by
  have R0 : Rl w ((upw m 9 2 0) 0) n g o := R
  by_cases c0 : 0 ≤ x ∧ x < w 16 3
  rotate_left
  · refine ⟨upw m 9 2 1, 0, ?_, mDo_x (Or.inl (by rw [fCoat, if_neg c0])) (by rw [fCoat, if_neg c0]; rfl) (by decide)⟩
    refine aRun_of rfl (aVn_end (stop := fun p => false) 60 ?_)
    refine Exists.intro _ (And.intro (y_isWare (d + 5) R ok (if_neg c0).symm) ?_)
    refine And.intro (fun c => absurd (show false = true from c) (by decide)) (fun _ => ?_)
    refine And.intro (fun c => absurd (show false = true from c) (by decide)) (fun _ => ?_)
    exact rfl
  have hxx := aIx_lt c0 ok.1.1 ok.1.2.1 (by omega)
  have hn60 := ok.1.2.1
  by_cases c1 : 0 ≤ y ∧ y ≤ 3
  rotate_left
  · have ef : fCoat w x y z = (-2, w) := by rw [fCoat, if_pos c0, if_neg (fun h => c1 h.1)]
    refine ⟨upw m 9 2 2, 0, ?_, mDo_x (Or.inr (by rw [ef])) (by rw [ef]; rfl) (by decide)⟩
    refine aRun_of rfl (aVn_end (stop := fun p => false) 60 ?_)
    refine Exists.intro _ (And.intro (y_isWare (d + 5) R ok (if_pos c0).symm) ?_)
    refine And.intro (fun _ => ?_) (fun c => absurd (show true = false from c) (by decide))
    refine Exists.intro _ (And.intro (y_in (d + 6) (if_neg c1).symm) ?_)
    refine And.intro (fun _ => ?_) (fun c => absurd (show true = false from c) (by decide))
    refine And.intro (fun c => absurd (show false = true from c) (by decide)) (fun _ => ?_)
    exact rfl
  by_cases c2 : 1 ≤ z ∧ z ≤ 9
  rotate_left
  · have ef : fCoat w x y z = (-2, w) := by rw [fCoat, if_pos c0, if_neg (fun h => c2 h.2)]
    refine ⟨upw m 9 2 2, 0, ?_, mDo_x (Or.inr (by rw [ef])) (by rw [ef]; rfl) (by decide)⟩
    refine aRun_of rfl (aVn_end (stop := fun p => false) 60 ?_)
    refine Exists.intro _ (And.intro (y_isWare (d + 5) R ok (if_pos c0).symm) ?_)
    refine And.intro (fun _ => ?_) (fun c => absurd (show true = false from c) (by decide))
    refine Exists.intro _ (And.intro (y_in (d + 6) (if_pos c1).symm) ?_)
    refine And.intro (fun c => absurd (show false = true from c) (by decide)) (fun _ => ?_)
    refine Exists.intro _ (And.intro (y_in (d + 6) (if_neg c2).symm) ?_)
    refine And.intro (fun c => absurd (show false = true from c) (by decide)) (fun _ => ?_)
    refine And.intro (fun c => absurd (show false = true from c) (by decide)) (fun _ => ?_)
    exact rfl
  by_cases c3 : w 1 (zn x) = 0
  rotate_left
  · refine ⟨mRef (upw m 9 2 0) 3 3 (w 1 (zn x)), 0, ?_, mDo_r (w := w) (by rw [fCoat, if_pos c0, if_pos ⟨c1, c2⟩, if_neg c3]) rfl (by decide)⟩
    refine aRun_of rfl (aVn_end (stop := fun p => false) 60 ?_)
    refine Exists.intro _ (And.intro (y_isWare (d + 5) R ok (if_pos c0).symm) ?_)
    refine And.intro (fun _ => ?_) (fun c => absurd (show true = false from c) (by decide))
    refine Exists.intro _ (And.intro (y_in (d + 6) (if_pos c1).symm) ?_)
    refine And.intro (fun c => absurd (show false = true from c) (by decide)) (fun _ => ?_)
    refine Exists.intro _ (And.intro (y_in (d + 6) (if_pos c2).symm) ?_)
    refine And.intro (fun _ => ?_) (fun c => absurd (show true = false from c) (by decide))
    refine And.intro (fun _ => ?_) (fun c => absurd (show true = false from c) (by decide))
    refine Exists.intro _ (And.intro (y_state (m := upw m 9 2 0) (d + 5) R0 ok hxx.2.2 hxx.2.1) ?_)
    refine And.intro (fun c => absurd (cT c) c3) (fun _ => ?_)
    refine Exists.intro _ (And.intro (y_state (m := upw m 9 2 0) (d + 5) R0 ok hxx.2.2 hxx.2.1) ?_)
    refine Exists.intro _ (And.intro (y_refuse (m := upw m 9 2 0) (d + 6)) ?_)
    exact rfl
  have hy : aIx y 4 = some (zn y) := aIx_le (m := 3) c1.1 c1.2 (by omega)
  have ev : 1180 + 20 * y - 4 * z = fMt y - 4 * z := by rw [fMt_eq hy]
  have hy2 := aIx_lt (x := y) (c := 4) (m := 4) (k := 4) ⟨c1.1, Int32.lt_of_le_of_lt c1.2 (by decide)⟩ rfl (by omega) (by omega)
  have hz2 := aIx_lt (x := z) (c := 10) (m := 10) (k := 10) ⟨Int32.le_trans (by decide) c2.1, Int32.lt_of_le_of_lt c2.2 (by decide)⟩ rfl (by omega) (by omega)
  refine ⟨upw (upw (upw m 9 2 0) 0 (9 + 7 * zn x + 3) y) 0 (9 + 7 * zn x + 4) z, 1180 + 20 * y - 4 * z, ?_, ?_⟩
  · refine aRun_of rfl (aVn_end (stop := fun p => false) 60 ?_)
    refine Exists.intro _ (And.intro (y_isWare (d + 5) R ok (if_pos c0).symm) ?_)
    refine And.intro (fun _ => ?_) (fun c => absurd (show true = false from c) (by decide))
    refine Exists.intro _ (And.intro (y_in (d + 6) (if_pos c1).symm) ?_)
    refine And.intro (fun c => absurd (show false = true from c) (by decide)) (fun _ => ?_)
    refine Exists.intro _ (And.intro (y_in (d + 6) (if_pos c2).symm) ?_)
    refine And.intro (fun _ => ?_) (fun c => absurd (show true = false from c) (by decide))
    refine And.intro (fun _ => ?_) (fun c => absurd (show true = false from c) (by decide))
    refine Exists.intro _ (And.intro (y_state (m := upw m 9 2 0) (d + 5) R0 ok hxx.2.2 hxx.2.1) ?_)
    refine And.intro (fun _ => ?_) (fun c => absurd (cF c) (fun q => q c3))
    refine Exists.intro _ (And.intro (y_at (d + 6)) ?_)
    refine Exists.intro (9 + 7 * zn x + 3) (And.intro (ixW hxx.2.2 (by have := hxx.2.1; omega) (f := 3) rfl (by omega)) ?_)
    refine Exists.intro _ (And.intro (y_at (d + 6)) ?_)
    refine Exists.intro (9 + 7 * zn x + 4) (And.intro (ixW hxx.2.2 (by have := hxx.2.1; omega) (f := 4) rfl (by omega)) ?_)
    refine Exists.intro _ (And.intro (y_meltsAt (d + 6)) ?_)
    exact rfl
  · have ef : fCoat w x y z = (fMt y - 4 * z, upw (upw w 2 (zn x) y) 3 (zn x) z) := by rw [fCoat, if_pos c0, if_pos ⟨c1, c2⟩, if_pos c3]
    rw [ef]
    refine mDo_ok (n := n) (g := g) (o := o) ?_ ev (fun a q0 q9 => ?_) (fun i hi => ?_) ?_ ?_ ?_
    · show 0 ≤ fMt y - 4 * z
      rw [← ev, hy2.2.2, hz2.2.2]
      exact melt_nn ⟨zn y, hy2.2.1⟩ ⟨zn z, hz2.2.1⟩
    · funext j
      rw [upw_ne (by omega), upw_ne (by omega), upw_ne (by omega)]
    · rw [upw_ne (by omega), upw_ne (by omega), upw_ne (by omega)]
    · rw [upw_ne (by omega), upw_ne (by omega), upw_eq]
    · exact Rl_w (f := 4) (Rl_w (f := 3) R ok.1.2.1 ok.1.2.2.2.1 hxx.2.1 (by omega)) ok.1.2.1 ok.1.2.2.2.1 hxx.2.1 (by omega)
    · exact okN_h (okN_h ok.1 (by omega)) (by omega)
theorem wOver_rng : wOver w n g y z v = -1 ∨ ∃ k, k < g ∧ wOver w n g y z v = Int32.ofNat k := by
  unfold wOver
  rcases aFd_cases (fun j => decide (¬ wAt w g y (Int32.ofNat j) = -1 ∧ w 0 2 < wLoad w n g (wAt w g y (Int32.ofNat j)) + v)) (fun j => wAt w g y (Int32.ofNat j)) (-1) (zn z) 0 with ⟨h, -⟩ | ⟨j, -, -, h3, h4, -⟩
  · exact Or.inl h
  · rcases wAt_rng w g y (Int32.ofNat j) with q | ⟨k, hk, q, -⟩
    · exact absurd q (of_decide_eq_true h3).1
    · exact Or.inr ⟨k, hk, h4.trans q⟩
theorem wOver_0 (h : zn z = 0) : wOver w n g y z v = -1 := by
  unfold wOver
  rw [h]
  rfl
theorem y_over (d : Nat) (R : Rl w (m 0) n g o) (ok : wOkA w n g o) (hx : x = Int32.ofNat i) (hi : i < g) : rM sn sf m (d + 7) m_X8_overloaded [.ref 8, .int (wDn w g x), .int v] (wOver w n g (w 8 i) (w 9 i) v) := by
  have hg := ok.1.2.2.2.1
  rcases ok.2.2.1.1 i hi with ⟨q8, q9⟩ | ⟨b, L, hb, hL, p, -⟩
  · rw [hx, wDn_f (by omega) q8, wOver_0 (by rw [q9]; rfl)]
    exact y_overloaded0 d (by decide)
  · cases L with
    | zero =>
      rw [hx, wDn_0 ok.2.2.1 (by omega) hg hb p, wOver_0 (by rw [p.2]; rfl)]
      exact y_overloaded0 d (by decide)
    | succ L =>
      obtain ⟨k, hk, q, e⟩ := wDn_ex ok.2.2.1 hg hi hb p (by omega)
      rw [hx, e, p.1, p.2]
      exact y_overloaded d R ok rfl hk hb (by omega) q
theorem y_doPut (d : Nat) (R : Rl w (m 0) n g o) (ok : wOkA w n g o) (h0 : fSz (w 6 (zn x)) ≤ 6 - wHeld w n y → 0 ≤ 6 - wHeld w n y - fSz (w 6 (zn x))) : ∃ m1 v, aRun false (d + 8) m_X8_doPut [.ref 8, .int x, .int y] (aHn sn sf m) = some (.inl (some (.int v)), aHn sn sf m1, (0, 0)) ∧ mDo (fPut w n g x y) cd2 m m1 v := by
  have R0 : Rl w ((upw m 9 2 0) 0) n g o := R
  have hn60 := ok.1.2.1
  have hg8 := ok.1.2.2.2.1
  by_cases c0 : 0 ≤ x ∧ x < w 16 3
  rotate_left
  · have ef : fPut w n g x y = (-1, w) := by rw [fPut, if_neg (fun h => c0 h.1)]
    refine ⟨upw m 9 2 1, 0, ?_, mDo_x (Or.inl (by rw [ef])) (by rw [ef]; rfl) (by decide)⟩
    refine aRun_of rfl (aVn_end (stop := fun p => false) 60 ?_)
    refine Exists.intro _ (And.intro (y_isWare (d + 5) R ok (if_neg c0).symm) ?_)
    refine And.intro (fun _ => ?_) (fun c => absurd (show true = false from c) (by decide))
    refine And.intro (fun c => absurd (show false = true from c) (by decide)) (fun _ => ?_)
    exact rfl
  have hxx := aIx_lt c0 ok.1.1 ok.1.2.1 (by omega)
  by_cases c1 : 0 ≤ y ∧ y < w 16 4
  rotate_left
  · have ef : fPut w n g x y = (-1, w) := by rw [fPut, if_neg (fun h => c1 h.2)]
    refine ⟨upw m 9 2 1, 0, ?_, mDo_x (Or.inl (by rw [ef])) (by rw [ef]; rfl) (by decide)⟩
    refine aRun_of rfl (aVn_end (stop := fun p => false) 60 ?_)
    refine Exists.intro _ (And.intro (y_isWare (d + 5) R ok (if_pos c0).symm) ?_)
    refine And.intro (fun c => absurd (show false = true from c) (by decide)) (fun _ => ?_)
    refine Exists.intro _ (And.intro (y_isSaggar (d + 5) R ok (if_neg c1).symm) ?_)
    refine And.intro (fun _ => ?_) (fun c => absurd (show true = false from c) (by decide))
    refine And.intro (fun c => absurd (show false = true from c) (by decide)) (fun _ => ?_)
    exact rfl
  have hyy := aIx_lt c1 ok.1.2.2.1 ok.1.2.2.2.1 (by omega)
  have hall : (0 ≤ x ∧ x < w 16 3) ∧ (0 ≤ y ∧ y < w 16 4) := ⟨c0, c1⟩
  by_cases c2 : w 1 (zn x) = 0
  rotate_left
  · refine ⟨mRef (upw m 9 2 0) 2 3 (w 1 (zn x)), 0, ?_, mDo_r (w := w) (by rw [fPut, if_pos hall, if_pos c2]) rfl (by decide)⟩
    refine aRun_of rfl (aVn_end (stop := fun p => false) 60 ?_)
    refine Exists.intro _ (And.intro (y_isWare (d + 5) R ok (if_pos c0).symm) ?_)
    refine And.intro (fun c => absurd (show false = true from c) (by decide)) (fun _ => ?_)
    refine Exists.intro _ (And.intro (y_isSaggar (d + 5) R ok (if_pos c1).symm) ?_)
    refine And.intro (fun c => absurd (show false = true from c) (by decide)) (fun _ => ?_)
    refine And.intro (fun _ => ?_) (fun c => absurd (show true = false from c) (by decide))
    refine Exists.intro _ (And.intro (y_state (m := upw m 9 2 0) (d + 5) R0 ok hxx.2.2 hxx.2.1) ?_)
    refine And.intro (fun c => absurd (cT c) c2) (fun _ => ?_)
    refine Exists.intro _ (And.intro (y_state (m := upw m 9 2 0) (d + 5) R0 ok hxx.2.2 hxx.2.1) ?_)
    refine Exists.intro _ (And.intro (y_refuse (m := upw m 9 2 0) (d + 6)) ?_)
    exact rfl
  have c2n : ¬ ¬ w 1 (zn x) = 0 := fun h => h c2
  by_cases c3 : fSz (w 6 (zn x)) ≤ 6 - wHeld w n y
  rotate_left
  · refine ⟨mRef (upw m 9 2 0) 2 4 (6 - wHeld w n y), 0, ?_, mDo_r (w := w) (by rw [fPut, if_pos hall, if_neg c2n, if_pos c3]) rfl (by decide)⟩
    refine aRun_of rfl (aVn_end (stop := fun p => false) 60 ?_)
    refine Exists.intro _ (And.intro (y_isWare (d + 5) R ok (if_pos c0).symm) ?_)
    refine And.intro (fun c => absurd (show false = true from c) (by decide)) (fun _ => ?_)
    refine Exists.intro _ (And.intro (y_isSaggar (d + 5) R ok (if_pos c1).symm) ?_)
    refine And.intro (fun c => absurd (show false = true from c) (by decide)) (fun _ => ?_)
    refine And.intro (fun _ => ?_) (fun c => absurd (show true = false from c) (by decide))
    refine Exists.intro _ (And.intro (y_state (m := upw m 9 2 0) (d + 5) R0 ok hxx.2.2 hxx.2.1) ?_)
    refine And.intro (fun _ => ?_) (fun c => absurd (cF c) (fun q => q c2))
    refine Exists.intro _ (And.intro (y_heldIn (m := upw m 9 2 0) (d + 3) R0 ok) ?_)
    refine Exists.intro _ (And.intro (y_size (m := upw m 9 2 0) (d + 4) R0 ok hxx.2.2 hxx.2.1) ?_)
    refine And.intro (fun c => absurd (show fSz (w 6 (zn x)) ≤ 6 - wHeld w n y from cT c) c3) (fun _ => ?_)
    refine Exists.intro _ (And.intro (y_refuse (m := upw m 9 2 0) (d + 6)) ?_)
    exact rfl
  have c3n : ¬ ¬ fSz (w 6 (zn x)) ≤ 6 - wHeld w n y := fun h => h c3
  have hov := y_over (sn := sn) (sf := sf) (v := fSz (w 6 (zn x))) d R0 ok hyy.2.2 hyy.2.1
  by_cases c4 : wOver w n g (w 8 (zn y)) (w 9 (zn y)) (fSz (w 6 (zn x))) = -1
  rotate_left
  · have hnl : ¬ wOver w n g (w 8 (zn y)) (w 9 (zn y)) (fSz (w 6 (zn x))) < 0 := by
      obtain ⟨k, hk, e⟩ := wOver_rng.resolve_left c4
      rw [e]
      exact ofN_lt0 (by omega)
    refine ⟨mRef (upw m 9 2 0) 2 7 (wOver w n g (w 8 (zn y)) (w 9 (zn y)) (fSz (w 6 (zn x)))), 0, ?_, mDo_r (w := w) (by rw [fPut, if_pos hall, if_neg c2n, if_neg c3n, if_pos c4]) rfl (by decide)⟩
    refine aRun_of rfl (aVn_end (stop := fun p => false) 60 ?_)
    refine Exists.intro _ (And.intro (y_isWare (d + 5) R ok (if_pos c0).symm) ?_)
    refine And.intro (fun c => absurd (show false = true from c) (by decide)) (fun _ => ?_)
    refine Exists.intro _ (And.intro (y_isSaggar (d + 5) R ok (if_pos c1).symm) ?_)
    refine And.intro (fun c => absurd (show false = true from c) (by decide)) (fun _ => ?_)
    refine And.intro (fun _ => ?_) (fun c => absurd (show true = false from c) (by decide))
    refine Exists.intro _ (And.intro (y_state (m := upw m 9 2 0) (d + 5) R0 ok hxx.2.2 hxx.2.1) ?_)
    refine And.intro (fun _ => ?_) (fun c => absurd (cF c) (fun q => q c2))
    refine Exists.intro _ (And.intro (y_heldIn (m := upw m 9 2 0) (d + 3) R0 ok) ?_)
    refine Exists.intro _ (And.intro (y_size (m := upw m 9 2 0) (d + 4) R0 ok hxx.2.2 hxx.2.1) ?_)
    refine And.intro (fun _ => ?_) (fun c => absurd c3 (cF c))
    refine Exists.intro _ (And.intro (y_below (m := upw m 9 2 0) (d + 5) R0 ok hyy.2.2 hyy.2.1) ?_)
    refine Exists.intro _ (And.intro (y_size (m := upw m 9 2 0) (d + 4) R0 ok hxx.2.2 hxx.2.1) ?_)
    refine Exists.intro _ (And.intro hov ?_)
    refine And.intro (fun c => absurd (cT c) hnl) (fun _ => ?_)
    refine Exists.intro _ (And.intro (y_refuse (m := upw m 9 2 0) (d + 6)) ?_)
    exact rfl
  have c4n : ¬ ¬ wOver w n g (w 8 (zn y)) (w 9 (zn y)) (fSz (w 6 (zn x))) = -1 := fun h => h c4
  rw [c4] at hov
  have R1 := Rl_w (f := 5) (x := y) (Rl_w (f := 2) (x := 1) R ok.1.2.1 ok.1.2.2.2.1 hxx.2.1 (by omega)) ok.1.2.1 ok.1.2.2.2.1 hxx.2.1 (by omega)
  have ks : aIx (w 6 (zn x)) 4 = some (zn (w 6 (zn x))) := fSz_ex ok.kinds hxx.2.1
  have hsz2 : rM sn sf (upw (upw (upw m 9 2 0) 0 (9 + 7 * zn x + 2) 1) 0 (9 + 7 * zn x + 5) y) (d + 7) m_X8_size [.ref 8, .int x] (fSz (w 6 (zn x))) := by
    have q := y_get0 (sn := sn) (sf := sf) (m := upw (upw (upw m 9 2 0) 0 (9 + 7 * zn x + 2) 1) 0 (9 + 7 * zn x + 5) y) (y := 0) (f := 0) (d + 4) hxx.2.2 (by have := hxx.2.1; omega) rfl (by omega)
    have e : (upw (upw (upw m 9 2 0) 0 (9 + 7 * zn x + 2) 1) 0 (9 + 7 * zn x + 5) y) 0 (9 + 7 * zn x + 0) = w 6 (zn x) := by
      rw [upw_ne (by omega), upw_ne (by omega), upw_ne (by omega)]
      exact R.2.1 _ hxx.2.1 0 (by omega)
    rw [e] at q
    refine aRun_of rfl (aVn_end (stop := fun p => false) 60 ?_)
    refine Exists.intro _ (And.intro q ?_)
    refine Exists.intro _ (And.intro (y_sizeOf (d + 5) ks) ?_)
    exact rfl
  refine ⟨upw (upw (upw m 9 2 0) 0 (9 + 7 * zn x + 2) 1) 0 (9 + 7 * zn x + 5) y, 6 - wHeld w n y - fSz (w 6 (zn x)), ?_, ?_⟩
  · refine aRun_of rfl (aVn_end (stop := fun p => false) 90 ?_)
    refine Exists.intro _ (And.intro (y_isWare (d + 5) R ok (if_pos c0).symm) ?_)
    refine And.intro (fun c => absurd (show false = true from c) (by decide)) (fun _ => ?_)
    refine Exists.intro _ (And.intro (y_isSaggar (d + 5) R ok (if_pos c1).symm) ?_)
    refine And.intro (fun c => absurd (show false = true from c) (by decide)) (fun _ => ?_)
    refine And.intro (fun _ => ?_) (fun c => absurd (show true = false from c) (by decide))
    refine Exists.intro _ (And.intro (y_state (m := upw m 9 2 0) (d + 5) R0 ok hxx.2.2 hxx.2.1) ?_)
    refine And.intro (fun _ => ?_) (fun c => absurd (cF c) (fun q => q c2))
    refine Exists.intro _ (And.intro (y_heldIn (m := upw m 9 2 0) (d + 3) R0 ok) ?_)
    refine Exists.intro _ (And.intro (y_size (m := upw m 9 2 0) (d + 4) R0 ok hxx.2.2 hxx.2.1) ?_)
    refine And.intro (fun _ => ?_) (fun c => absurd c3 (cF c))
    refine Exists.intro _ (And.intro (y_below (m := upw m 9 2 0) (d + 5) R0 ok hyy.2.2 hyy.2.1) ?_)
    refine Exists.intro _ (And.intro (y_size (m := upw m 9 2 0) (d + 4) R0 ok hxx.2.2 hxx.2.1) ?_)
    refine Exists.intro _ (And.intro hov ?_)
    refine And.intro (fun _ => ?_) (fun c => absurd (show true = false from c) (by decide))
    refine Exists.intro _ (And.intro (y_at (d + 6)) ?_)
    refine Exists.intro (9 + 7 * zn x + 2) (And.intro (ixW hxx.2.2 (by have := hxx.2.1; omega) (f := 2) rfl (by omega)) ?_)
    refine Exists.intro _ (And.intro (y_at (d + 6)) ?_)
    refine Exists.intro (9 + 7 * zn x + 5) (And.intro (ixW hxx.2.2 (by have := hxx.2.1; omega) (f := 5) rfl (by omega)) ?_)
    refine Exists.intro _ (And.intro hsz2 ?_)
    exact rfl
  · have ef : fPut w n g x y = (6 - wHeld w n y - fSz (w 6 (zn x)), upw (upw w 1 (zn x) 1) 4 (zn x) y) := by rw [fPut, if_pos hall, if_neg c2n, if_neg c3n, if_neg c4n]
    rw [ef]
    refine mDo_ok (n := n) (g := g) (o := o) (h0 c3) rfl (fun a q0 q9 => ?_) (fun i hi => ?_) ?_ R1 ?_
    · funext j
      rw [upw_ne (by omega), upw_ne (by omega), upw_ne (by omega)]
    · rw [upw_ne (by omega), upw_ne (by omega), upw_ne (by omega)]
    · rw [upw_ne (by omega), upw_ne (by omega), upw_eq]
    · exact okN_h (okN_h ok.1 (by omega)) (by omega)
end YG
