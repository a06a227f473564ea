/-! THE MODEL'S OWN CHANGES: a saggar taken down -/
section YR
variable {sn : Nat} {sf : Nat → Int32} {m m1 m2 w v : aW} {s s1 : Nat → Int32} {n g o i j k f b L : Nat} {x y z u t c : Int32}
theorem wUp_lt0 (hg : g ≤ 8) : wUp w g x < 0 ↔ wUp w g x = -1 := by
  rcases wUp_rng w g x with q | ⟨k, hk, q⟩
  · rw [q]
    decide
  · rw [q]
    constructor
    · intro r
      exact absurd r (ofN_lt0 (by omega))
    · intro r
      rw [r]
      decide
theorem o_unstack (d : Nat) {c : Nat} (R : Rl w (m 0) n g o) (ok : wOkA w n g o) (hc : m 9 1 = Int32.ofNat c) (h8 : c ≤ 8) : ∃ m1 v, aRun false (d + 4) m_X8_unstack [.ref 8, .int x] (aHn sn sf m) = some (.inl (some (.int v)), aHn sn sf m1, (0, 0)) ∧ mOp (fDown w g x) cd2 m m1 v := by
  have R0 : Rl w ((upw m 9 2 0) 0) n g o := R
  have Rk : Rl w ((mKeep (upw m 9 2 0)) 0) n g o := R
  by_cases c0 : 0 ≤ x ∧ x < w 16 4
  rotate_left
  · have ef : fDown w g x = (-1, w) := by rw [fDown, if_neg c0]
    refine ⟨upw m 9 2 1, 0, ?_, by rw [ef]; exact mOp_d (mDo_x (Or.inl rfl) rfl (by decide)) (show (-1 : Int32) < 0 by decide)⟩
    refine aRun_of rfl (aVn_end (stop := fun p => false) 60 ?_)
    refine Exists.intro _ (And.intro (y_isSaggar (d + 1) R ok (if_neg c0).symm) ?_)
    refine And.intro (fun _ => ?_) (fun c => absurd (show true = false from c) (by decide))
    refine And.intro (fun c => absurd (show false = true from c) (by decide)) (fun _ => ?_)
    exact rfl
  have hg8 := ok.1.2.2.2.1
  have hxx := aIx_lt c0 ok.1.2.2.1 hg8 (by omega)
  have hi := hxx.2.1
  have hx := hxx.2.2
  have hS := ok.2.2.1
  by_cases c1 : w 8 (zn x) = -1
  · have ef : fDown w g x = (-3, wNote w 5 x) := by rw [fDown, if_pos c0, if_pos c1]
    refine ⟨mRef (upw m 9 2 0) 2 5 x, 0, ?_, by rw [ef]; exact mOp_d (mDo_r rfl rfl (by decide)) (show (-3 : Int32) < 0 by decide)⟩
    refine aRun_of rfl (aVn_end (stop := fun p => false) 60 ?_)
    refine Exists.intro _ (And.intro (y_isSaggar (d + 1) R ok (if_pos c0).symm) ?_)
    refine And.intro (fun c => absurd (show false = true from c) (by decide)) (fun _ => ?_)
    refine And.intro (fun _ => ?_) (fun c => absurd (show true = false from c) (by decide))
    refine Exists.intro _ (And.intro (y_isOnFloor (m := upw m 9 2 0) d R0 ok hx hi (if_pos c1).symm) ?_)
    refine And.intro (fun c => absurd (show false = true from c) (by decide)) (fun _ => ?_)
    refine Exists.intro _ (And.intro (y_refuse (m := upw m 9 2 0) (d + 2)) ?_)
    exact rfl
  have hab := y_above (sn := sn) (sf := sf) (m := upw m 9 2 0) (d + 1) R0 ok hx hi
  by_cases c2 : wUp w g x = -1
  rotate_left
  · have ef : fDown w g x = (-3, wNote w 8 (wUp w g x)) := by rw [fDown, if_pos c0, if_neg c1, if_pos c2]
    refine ⟨mRef (upw m 9 2 0) 2 8 (wUp w g x), 0, ?_, by rw [ef]; exact mOp_d (mDo_r rfl rfl (by decide)) (show (-3 : Int32) < 0 by decide)⟩
    refine aRun_of rfl (aVn_end (stop := fun p => false) 60 ?_)
    refine Exists.intro _ (And.intro (y_isSaggar (d + 1) R ok (if_pos c0).symm) ?_)
    refine And.intro (fun c => absurd (show false = true from c) (by decide)) (fun _ => ?_)
    refine And.intro (fun _ => ?_) (fun c => absurd (show true = false from c) (by decide))
    refine Exists.intro _ (And.intro (y_isOnFloor (m := upw m 9 2 0) d R0 ok hx hi (if_neg c1).symm) ?_)
    refine And.intro (fun _ => ?_) (fun c => absurd (show true = false from c) (by decide))
    refine Exists.intro _ (And.intro hab ?_)
    refine And.intro (fun c => absurd ((wUp_lt0 hg8).mp (cT c)) c2) (fun _ => ?_)
    refine Exists.intro _ (And.intro hab ?_)
    refine Exists.intro _ (And.intro (y_refuse (m := upw m 9 2 0) (d + 2)) ?_)
    exact rfl
  have ef : fDown w g x = (w 9 (zn x), wSt w (zn x) (-1) (-1)) := by
    rw [fDown, if_pos c0, if_neg c1, if_neg (fun q => q c2)]
    rfl
  obtain ⟨b, L, hb, hL, p⟩ := okS_in hS hi c1
  have top : ∀ j, j < g → ¬ okP w j b (L + 1) := fun j hj q => by
    have e := c2
    rw [hx, wUp_of (by omega) hb p, wAt_eq hS hj q.1 q.2 (b_ne hb)] at e
    exact ofN_m1 (by omega) e
  have hlv := y_levelOf (sn := sn) (sf := sf) (m := mKeep (upw m 9 2 0)) d Rk ok hx hi
  have hbl := y_below (sn := sn) (sf := sf) (m := mKeep (upw m 9 2 0)) (d + 1) Rk ok hx hi
  have e9 : wLv w (zn x) = w 9 (zn x) := if_neg c1
  have h09 : 0 ≤ w 9 (zn x) := by rw [p.2]; exact Int32.not_lt.mp (ofN_lt0 (by omega))
  have okv : okN (wSt w (zn x) (-1) (-1)) n g o := okN_h (okN_h ok.1 (by omega)) (by omega)
  have hix : ∀ (f : Nat) (y : Int32), y = Int32.ofNat f → f < 3 → aIx (429 + 3 * x + y) 495 = some (429 + 3 * zn x + f) := fun f y h1 h2 => ixS hx (by omega) h1 h2
  match L, hL, p, top with
  | 0, _, p, top =>
    have e1 : wDn w g x = -1 := by
      have q := wDn_0 hS (by omega) hg8 hb p
      rw [← hx] at q
      exact q
    have R1 := Rl_dw0 Rk ok.1.2.1 hS hg8 hi hb p top
    obtain ⟨m3, u, g1, g2⟩ := y_endR (sn := sn) (sf := sf) (m := upw m 9 2 0) (m2 := upw (upw (mKeep (upw m 9 2 0)) 0 (429 + 3 * zn x + 0) (-1)) 0 (429 + 3 * zn x + 1) (-1)) (v := wLv w (zn x)) (p := (w 9 (zn x), wSt w (zn x) (-1) (-1))) (f := cd2) (n := n) (g := g) (o := o) (d + 2) ((upw_ne (by omega)).trans hc) h8 h09 e9 (fun a ha => funext fun i => by rw [upw_ne (by omega), upw_ne (by omega)]) R1 okv
    refine ⟨m3, u, ?_, by rw [ef]; exact mOp_m g2⟩
    refine aRun_of rfl (aVn_end (stop := fun p => false) 90 ?_)
    refine Exists.intro _ (And.intro (y_isSaggar (d + 1) R ok (if_pos c0).symm) ?_)
    refine And.intro (fun c => absurd (show false = true from c) (by decide)) (fun _ => ?_)
    refine And.intro (fun _ => ?_) (fun c => absurd (show true = false from c) (by decide))
    refine Exists.intro _ (And.intro (y_isOnFloor (m := upw m 9 2 0) d R0 ok hx hi (if_neg c1).symm) ?_)
    refine And.intro (fun _ => ?_) (fun c => absurd (show true = false from c) (by decide))
    refine Exists.intro _ (And.intro hab ?_)
    refine And.intro (fun _ => ?_) (fun c => absurd ((wUp_lt0 hg8).mpr c2) (cF c))
    refine Exists.intro _ (And.intro (y_keep (m := upw m 9 2 0) (d + 2)) ?_)
    refine Exists.intro _ (And.intro hlv ?_)
    refine Exists.intro _ (And.intro hbl ?_)
    refine And.intro (fun _ => ?_) (fun c => absurd (show wDn w g x < 0 from e1 ▸ (show (-1 : Int32) < 0 by decide)) (cF c))
    refine Exists.intro _ (And.intro (y_saggarAt (d + 2)) ?_)
    refine Exists.intro (429 + 3 * zn x + 0) (And.intro (hix 0 _ rfl (by omega)) ?_)
    refine Exists.intro _ (And.intro (y_saggarAt (d + 2)) ?_)
    refine Exists.intro (429 + 3 * zn x + 1) (And.intro (hix 1 _ rfl (by omega)) ?_)
    refine Exists.intro _ (And.intro g1 ?_)
    exact rfl
  | L + 1, hL, p, top =>
    obtain ⟨k, hk, pk, e1⟩ := wDn_ex hS hg8 hi hb p (by omega)
    rw [← hx] at e1
    have R1 := Rl_dws Rk ok.1.2.1 hS hg8 hi hb hL p top hk pk
    have hnl : ¬ wDn w g x < 0 := by rw [e1]; exact ofN_lt0 (by omega)
    have hik : aIx (429 + 3 * wDn w g x + 2) 495 = some (429 + 3 * k + 2) := ixS e1 (by omega) (f := 2) rfl (by omega)
    obtain ⟨m3, u, g1, g2⟩ := y_endR (sn := sn) (sf := sf) (m := upw m 9 2 0) (m2 := upw (upw (upw (mKeep (upw m 9 2 0)) 0 (429 + 3 * k + 2) (-1)) 0 (429 + 3 * zn x + 0) (-1)) 0 (429 + 3 * zn x + 1) (-1)) (v := wLv w (zn x)) (p := (w 9 (zn x), wSt w (zn x) (-1) (-1))) (f := cd2) (n := n) (g := g) (o := o) (d + 2) ((upw_ne (by omega)).trans hc) h8 h09 e9 (fun a ha => funext fun i => by rw [upw_ne (by omega), upw_ne (by omega), upw_ne (by omega)]) R1 okv
    refine ⟨m3, u, ?_, by rw [ef]; exact mOp_m g2⟩
    refine aRun_of rfl (aVn_end (stop := fun p => false) 90 ?_)
    refine Exists.intro _ (And.intro (y_isSaggar (d + 1) R ok (if_pos c0).symm) ?_)
    refine And.intro (fun c => absurd (show false = true from c) (by decide)) (fun _ => ?_)
    refine And.intro (fun _ => ?_) (fun c => absurd (show true = false from c) (by decide))
    refine Exists.intro _ (And.intro (y_isOnFloor (m := upw m 9 2 0) d R0 ok hx hi (if_neg c1).symm) ?_)
    refine And.intro (fun _ => ?_) (fun c => absurd (show true = false from c) (by decide))
    refine Exists.intro _ (And.intro hab ?_)
    refine And.intro (fun _ => ?_) (fun c => absurd ((wUp_lt0 hg8).mpr c2) (cF c))
    refine Exists.intro _ (And.intro (y_keep (m := upw m 9 2 0) (d + 2)) ?_)
    refine Exists.intro _ (And.intro hlv ?_)
    refine Exists.intro _ (And.intro hbl ?_)
    refine And.intro (fun c => absurd (cT c) hnl) (fun _ => ?_)
    refine Exists.intro _ (And.intro (y_saggarAt (d + 2)) ?_)
    refine Exists.intro (429 + 3 * k + 2) (And.intro hik ?_)
    refine Exists.intro _ (And.intro (y_saggarAt (d + 2)) ?_)
    refine Exists.intro (429 + 3 * zn x + 0) (And.intro (hix 0 _ rfl (by omega)) ?_)
    refine Exists.intro _ (And.intro (y_saggarAt (d + 2)) ?_)
    refine Exists.intro (429 + 3 * zn x + 1) (And.intro (hix 1 _ rfl (by omega)) ?_)
    refine Exists.intro _ (And.intro g1 ?_)
    exact rfl
end YR
