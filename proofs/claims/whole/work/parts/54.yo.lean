/-! THE MODEL'S OWN CHANGES: one order more -/
section YO
variable {sn : Nat} {sf : Nat → Int32} {m m1 m2 w : aW} {s : Nat → Int32} {n g o i j k f b L : Nat} {x y z v u t c : Int32}
theorem l_ordT (d : Nat) (h0 : 0 ≤ x ∧ x ≤ 6) (h1 : 0 ≤ y ∧ y ≤ 6) (h2 : 0 ≤ z ∧ z ≤ 6) (h3 : 0 ≤ u ∧ u ≤ 6) (h4 : 0 ≤ v ∧ v ≤ 3) {r : aR} (h : aEnd (aStep (aRun false (d + 1)) aCls [] aB_X8_order (some .int) false) (58, [some (.ref 8), some (.int x), some (.int y), some (.int z), some (.int u), some (.int v), some (.int t), some (.int 1), none, none], [], aHn sn sf m, (0, 0)) r) : aEnd (aStep (aRun false (d + 1)) aCls [] aB_X8_order (some .int) false) (0, [some (.ref 8), some (.int x), some (.int y), some (.int z), some (.int u), some (.int v), some (.int t), none, none, none], [], aHn sn sf m, (0, 0)) r := by
  refine aVn_end (stop := fun p => p == 58) 60 ?_
  refine Exists.intro _ (And.intro (y_in d (if_pos h0).symm) ?_)
  refine And.intro (fun c => absurd (show false = true from c) (by decide)) (fun _ => ?_)
  refine Exists.intro _ (And.intro (y_in d (if_pos h1).symm) ?_)
  refine And.intro (fun c => absurd (show false = true from c) (by decide)) (fun _ => ?_)
  refine Exists.intro _ (And.intro (y_in d (if_pos h2).symm) ?_)
  refine And.intro (fun c => absurd (show false = true from c) (by decide)) (fun _ => ?_)
  refine Exists.intro _ (And.intro (y_in d (if_pos h3).symm) ?_)
  refine And.intro (fun c => absurd (show false = true from c) (by decide)) (fun _ => ?_)
  refine Exists.intro _ (And.intro (y_in d (if_pos h4).symm) ?_)
  refine And.intro (fun c => absurd (show false = true from c) (by decide)) (fun _ => ?_)
  exact h
theorem l_ordF (d : Nat) (hn : ¬ ((0 ≤ x ∧ x ≤ 6) ∧ (0 ≤ y ∧ y ≤ 6) ∧ (0 ≤ z ∧ z ≤ 6) ∧ (0 ≤ u ∧ u ≤ 6) ∧ (0 ≤ v ∧ v ≤ 3))) {r : aR} (h : aEnd (aStep (aRun false (d + 1)) aCls [] aB_X8_order (some .int) false) (58, [some (.ref 8), some (.int x), some (.int y), some (.int z), some (.int u), some (.int v), some (.int t), some (.int 0), none, none], [], aHn sn sf m, (0, 0)) r) : aEnd (aStep (aRun false (d + 1)) aCls [] aB_X8_order (some .int) false) (0, [some (.ref 8), some (.int x), some (.int y), some (.int z), some (.int u), some (.int v), some (.int t), none, none, none], [], aHn sn sf m, (0, 0)) r := by
  by_cases h0 : 0 ≤ x ∧ x ≤ 6
  rotate_left
  · refine aVn_end (stop := fun p => p == 58) 60 ?_
    refine Exists.intro _ (And.intro (y_in d (if_neg h0).symm) ?_)
    refine And.intro (fun _ => ?_) (fun c => absurd (show true = false from c) (by decide))
    exact h
  by_cases h1 : 0 ≤ y ∧ y ≤ 6
  rotate_left
  · refine aVn_end (stop := fun p => p == 58) 60 ?_
    refine Exists.intro _ (And.intro (y_in d (if_pos h0).symm) ?_)
    refine And.intro (fun c => absurd (show false = true from c) (by decide)) (fun _ => ?_)
    refine Exists.intro _ (And.intro (y_in d (if_neg h1).symm) ?_)
    refine And.intro (fun _ => ?_) (fun c => absurd (show true = false from c) (by decide))
    exact h
  by_cases h2 : 0 ≤ z ∧ z ≤ 6
  rotate_left
  · refine aVn_end (stop := fun p => p == 58) 60 ?_
    refine Exists.intro _ (And.intro (y_in d (if_pos h0).symm) ?_)
    refine And.intro (fun c => absurd (show false = true from c) (by decide)) (fun _ => ?_)
    refine Exists.intro _ (And.intro (y_in d (if_pos h1).symm) ?_)
    refine And.intro (fun c => absurd (show false = true from c) (by decide)) (fun _ => ?_)
    refine Exists.intro _ (And.intro (y_in d (if_neg h2).symm) ?_)
    refine And.intro (fun _ => ?_) (fun c => absurd (show true = false from c) (by decide))
    exact h
  by_cases h3 : 0 ≤ u ∧ u ≤ 6
  rotate_left
  · refine aVn_end (stop := fun p => p == 58) 60 ?_
    refine Exists.intro _ (And.intro (y_in d (if_pos h0).symm) ?_)
    refine And.intro (fun c => absurd (show false = true from c) (by decide)) (fun _ => ?_)
    refine Exists.intro _ (And.intro (y_in d (if_pos h1).symm) ?_)
    refine And.intro (fun c => absurd (show false = true from c) (by decide)) (fun _ => ?_)
    refine Exists.intro _ (And.intro (y_in d (if_pos h2).symm) ?_)
    refine And.intro (fun c => absurd (show false = true from c) (by decide)) (fun _ => ?_)
    refine Exists.intro _ (And.intro (y_in d (if_neg h3).symm) ?_)
    refine And.intro (fun _ => ?_) (fun c => absurd (show true = false from c) (by decide))
    exact h
  by_cases h4 : 0 ≤ v ∧ v ≤ 3
  rotate_left
  · refine aVn_end (stop := fun p => p == 58) 60 ?_
    refine Exists.intro _ (And.intro (y_in d (if_pos h0).symm) ?_)
    refine And.intro (fun c => absurd (show false = true from c) (by decide)) (fun _ => ?_)
    refine Exists.intro _ (And.intro (y_in d (if_pos h1).symm) ?_)
    refine And.intro (fun c => absurd (show false = true from c) (by decide)) (fun _ => ?_)
    refine Exists.intro _ (And.intro (y_in d (if_pos h2).symm) ?_)
    refine And.intro (fun c => absurd (show false = true from c) (by decide)) (fun _ => ?_)
    refine Exists.intro _ (And.intro (y_in d (if_pos h3).symm) ?_)
    refine And.intro (fun c => absurd (show false = true from c) (by decide)) (fun _ => ?_)
    refine Exists.intro _ (And.intro (y_in d (if_neg h4).symm) ?_)
    refine And.intro (fun _ => ?_) (fun c => absurd (show true = false from c) (by decide))
    exact h
  exact absurd ⟨h0, h1, h2, h3, h4⟩ hn
theorem zsm {a b : Nat} (ha : x = Int32.ofNat a) (hb : y = Int32.ofNat b) : x + y = Int32.ofNat (a + b) := by rw [ha, hb, Int32.ofNat_add]
theorem sum_0 (h0 : 0 ≤ x ∧ x ≤ 6) (h1 : 0 ≤ y ∧ y ≤ 6) (h2 : 0 ≤ z ∧ z ≤ 6) (h3 : 0 ≤ u ∧ u ≤ 6) : x + y + z + u ≤ 0 ↔ x + y + z + u = 0 := by
  have l0 := (zlv (x := 6) (i := 6) rfl (by omega)).mp h0.2
  have l1 := (zlv (x := 6) (i := 6) rfl (by omega)).mp h1.2
  have l2 := (zlv (x := 6) (i := 6) rfl (by omega)).mp h2.2
  have l3 := (zlv (x := 6) (i := 6) rfl (by omega)).mp h3.2
  have e := zsm (zsm (zsm (zn_nn h0.1) (zn_nn h1.1)) (zn_nn h2.1)) (zn_nn h3.1)
  constructor
  · intro q
    by_cases c : zn x + zn y + zn z + zn u = 0
    · rw [e, c]; rfl
    · rw [e] at q
      exact absurd ((zI_lt (i := 0) (n := zn x + zn y + zn z + zn u) rfl rfl (by omega) (by omega)).mpr (by omega)) (Int32.not_lt.mpr q)
  · intro q
    rw [q]
    decide
def sOrd (s : Nat → Int32) (o : Nat) (x y z u v t c : Int32) : Nat → Int32 := upd (upd (upd (upd (upd (upd (upd (upd s (453 + 7 * o + 0) x) (453 + 7 * o + 1) y) (453 + 7 * o + 2) z) (453 + 7 * o + 3) u) (453 + 7 * o + 4) v) (453 + 7 * o + 5) t) (453 + 7 * o + 6) 0) 8 c
def oC (x y z u v t : Int32) (f : Nat) : Int32 := match f with
  | 0 => x
  | 1 => y
  | 2 => z
  | 3 => u
  | 4 => v
  | 5 => t
  | _ => 0
theorem sOrd_new (ho : o < 6) (hf : f < 7) : sOrd s o x y z u v t c (453 + 7 * o + f) = oC x y z u v t f := by
  unfold sOrd
  match f, hf with
  | 0, _ => rw [upd_ne (by omega), upd_ne (by omega), upd_ne (by omega), upd_ne (by omega), upd_ne (by omega), upd_ne (by omega), upd_ne (by omega)]; exact upd_eq
  | 1, _ => rw [upd_ne (by omega), upd_ne (by omega), upd_ne (by omega), upd_ne (by omega), upd_ne (by omega), upd_ne (by omega)]; exact upd_eq
  | 2, _ => rw [upd_ne (by omega), upd_ne (by omega), upd_ne (by omega), upd_ne (by omega), upd_ne (by omega)]; exact upd_eq
  | 3, _ => rw [upd_ne (by omega), upd_ne (by omega), upd_ne (by omega), upd_ne (by omega)]; exact upd_eq
  | 4, _ => rw [upd_ne (by omega), upd_ne (by omega), upd_ne (by omega)]; exact upd_eq
  | 5, _ => rw [upd_ne (by omega), upd_ne (by omega)]; exact upd_eq
  | 6, _ => rw [upd_ne (by omega)]; exact upd_eq
theorem wOrd_out {a : Nat} (h : ¬ (10 ≤ a ∧ a ≤ 13) ∧ ¬ (a = 16 ∧ j = 5)) : wOrd w o x y z u v t a j = w a j := by
  unfold wOrd wAdd1
  rw [upw_ne (by omega), upw_ne (by omega), upw_ne (by omega), upw_ne (by omega), upw_ne (by omega), upw_ne (by omega), upw_ne (by omega), upw_ne (by omega)]
theorem wOrd_old {a : Nat} (hj : ¬ j = o) (h : a = 10 ∨ a = 11 ∨ a = 12) : wOrd w o x y z u v t a j = w a j := by
  unfold wOrd wAdd1
  rw [upw_ne (by omega), upw_ne (by omega), upw_ne (by omega), upw_ne (by omega), upw_ne (by omega), upw_ne (by omega), upw_ne (by omega), upw_ne (by omega)]
theorem wOrd_old13 (hj : j < o * 4) : wOrd w o x y z u v t 13 j = w 13 j := by
  unfold wOrd wAdd1
  rw [upw_ne (by omega), upw_ne (by omega), upw_ne (by omega), upw_ne (by omega), upw_ne (by omega), upw_ne (by omega), upw_ne (by omega), upw_ne (by omega)]
theorem Rl_ord (R : Rl w s n g o) (hn : n ≤ 60) (hg : g ≤ 8) (ho : o < 6) : Rl (wOrd w o x y z u v t) (sOrd s o x y z u v t (w 16 5 + 1)) n g (o + 1) := by
  obtain ⟨⟨a0, a1, a2, a3, a4, a5, a6, a7, a8⟩, b, c, d⟩ := R
  have e0 : ∀ j, ¬ j = 8 → (j < 453 + 7 * o ∨ 453 + 7 * o + 7 ≤ j) → sOrd s o x y z u v t (w 16 5 + 1) j = s j := fun j h1 h2 => by
    unfold sOrd
    rw [upd_ne h1, upd_ne (by omega), upd_ne (by omega), upd_ne (by omega), upd_ne (by omega), upd_ne (by omega), upd_ne (by omega), upd_ne (by omega)]
  refine ⟨⟨?_, ?_, ?_, ?_, ?_, ?_, ?_, ?_, ?_⟩, fun j hj f hf => ?_, fun j hj => ?_, fun k hk => ?_⟩
  · rw [e0 0 (by omega) (by omega), wOrd_out (by omega)]; exact a0
  · rw [e0 1 (by omega) (by omega), wOrd_out (by omega)]; exact a1
  · rw [e0 2 (by omega) (by omega), wOrd_out (by omega)]; exact a2
  · rw [e0 3 (by omega) (by omega), wOrd_out (by omega)]; exact a3
  · rw [e0 4 (by omega) (by omega), wOrd_out (by omega)]; exact a4
  · rw [e0 5 (by omega) (by omega), wOrd_out (by omega)]; exact a5
  · rw [e0 6 (by omega) (by omega), wOrd_out (by omega)]; exact a6
  · rw [e0 7 (by omega) (by omega), wOrd_out (by omega)]; exact a7
  · unfold sOrd wOrd wAdd1
    rw [upd_eq, upw_ne (by omega), upw_ne (by omega), upw_ne (by omega), upw_ne (by omega), upw_eq]
  · have hr := wfA_r f
    rw [e0 _ (by omega) (by omega), wOrd_out (by omega)]
    exact b j hj f hf
  · have h8 : ∀ j, j < g → wOrd w o x y z u v t 8 j = w 8 j := fun j _ => wOrd_out (by omega)
    have h9 : ∀ j, j < g → wOrd w o x y z u v t 9 j = w 9 j := fun j _ => wOrd_out (by omega)
    refine ⟨?_, ?_, ?_⟩
    · rw [e0 _ (by omega) (by omega), h8 j hj]; exact (c j hj).1
    · rw [e0 _ (by omega) (by omega), wDn_cg h8 h9 hg hj]; exact (c j hj).2.1
    · rw [e0 _ (by omega) (by omega), wUp_cg h8 h9 hg hj]; exact (c j hj).2.2
  · by_cases e : k = o
    · subst e
      have pk := fun f (hf : f < 7) => sOrd_new (s := s) (o := k) (x := x) (y := y) (z := z) (u := u) (v := v) (t := t) (c := w 16 5 + 1) ho hf
      refine ⟨fun f hf => ?_, ?_, ?_, ?_⟩
      · rw [pk f (by omega)]
        unfold wOrd
        match f, hf with
        | 0, _ => rw [upw_ne (by omega), upw_ne (by omega), upw_ne (by omega)]; exact upw_eq.symm
        | 1, _ => rw [upw_ne (by omega), upw_ne (by omega)]; exact upw_eq.symm
        | 2, _ => rw [upw_ne (by omega)]; exact upw_eq.symm
        | 3, _ => exact upw_eq.symm
      · rw [pk 4 (by omega)]
        unfold wOrd wAdd1
        rw [upw_ne (by omega), upw_ne (by omega), upw_ne (by omega), upw_ne (by omega), upw_ne (by omega), upw_ne (by omega), upw_ne (by omega)]
        exact upw_eq.symm
      · rw [pk 5 (by omega)]
        unfold wOrd wAdd1
        rw [upw_ne (by omega), upw_ne (by omega), upw_ne (by omega), upw_ne (by omega), upw_ne (by omega), upw_ne (by omega)]
        exact upw_eq.symm
      · rw [pk 6 (by omega)]
        unfold wOrd wAdd1
        rw [upw_ne (by omega), upw_ne (by omega), upw_ne (by omega), upw_ne (by omega), upw_ne (by omega)]
        exact upw_eq.symm
    · have hk' : k < o := by omega
      refine ⟨fun x hx => ?_, ?_, ?_, ?_⟩
      · rw [e0 _ (by omega) (by omega), wOrd_old13 (by omega)]; exact (d k hk').1 x hx
      · rw [e0 _ (by omega) (by omega), wOrd_old e (by omega)]; exact (d k hk').2.1
      · rw [e0 _ (by omega) (by omega), wOrd_old e (by omega)]; exact (d k hk').2.2.1
      · rw [e0 _ (by omega) (by omega), wOrd_old e (by omega)]; exact (d k hk').2.2.2
theorem okN_ord (h : okN w n g o) (ho : o < 6) : okN (wOrd w o x y z u v t) n g (o + 1) := by
  obtain ⟨h1, h2, h3, h4, h5, h6⟩ := h
  refine ⟨?_, h2, ?_, h4, ?_, by omega⟩
  · rw [wOrd_out (by omega)]; exact h1
  · rw [wOrd_out (by omega)]; exact h3
  · unfold wOrd wAdd1
    rw [upw_ne (by omega), upw_ne (by omega), upw_ne (by omega), upw_ne (by omega), upw_eq]
    exact zI_s h5
theorem o_order (d : Nat) {c : Nat} (R : Rl w (m 0) n g o) (ok : wOkA w n g o) (hc : m 9 1 = Int32.ofNat c) (h8 : c ≤ 8) : ∃ m1 p, aRun false (d + 2) m_X8_order [.ref 8, .int x, .int y, .int z, .int u, .int v, .int t] (aHn sn sf m) = some (.inl (some (.int p)), aHn sn sf m1, (0, 0)) ∧ mOp (fOrd w o x y z u v t) cd2 m m1 p := by
  have e8 : m 0 8 = w 16 5 := R.1.2.2.2.2.2.2.2.2
  have ho := ok.1.2.2.2.2.1
  have ho6 := ok.1.2.2.2.2.2
  have eo := e8.trans ho
  have i8 : aIx 8 495 = some 8 := ixN (f := 8) rfl (by omega)
  have q6 : w 16 5 < 6 ↔ o < 6 := zI_lt (n := 6) ho rfl (by omega) (by omega)
  by_cases q : (0 ≤ x ∧ x ≤ 6) ∧ (0 ≤ y ∧ y ≤ 6) ∧ (0 ≤ z ∧ z ≤ 6) ∧ (0 ≤ u ∧ u ≤ 6) ∧ (0 ≤ v ∧ v ≤ 3)
  rotate_left
  · have ef : fOrd w o x y z u v t = (-2, w) := by rw [fOrd, if_neg (fun r => q ⟨r.1, r.2.1, r.2.2.1, r.2.2.2.1, r.2.2.2.2.1⟩)]
    refine ⟨upw m 9 2 1, 0, ?_, by rw [ef]; exact mOp_d (mDo_x (Or.inr rfl) rfl (by decide)) (show (-2 : Int32) < 0 by decide)⟩
    refine aRun_of rfl (l_ordF d q ?_)
    refine aVn_end (stop := fun p => false) 60 ?_
    refine And.intro (fun _ => ?_) (fun c => absurd (show true = false from c) (by decide))
    refine And.intro (fun c => absurd (show false = true from c) (by decide)) (fun _ => ?_)
    exact rfl
  obtain ⟨q0, q1, q2, q3, q4⟩ := q
  have qs := sum_0 q0 q1 q2 q3
  by_cases qz : x + y + z + u = 0
  · have ef : fOrd w o x y z u v t = (-2, w) := by rw [fOrd, if_neg (fun r => r.2.2.2.2.2 qz)]
    refine ⟨upw m 9 2 1, 0, ?_, by rw [ef]; exact mOp_d (mDo_x (Or.inr rfl) rfl (by decide)) (show (-2 : Int32) < 0 by decide)⟩
    refine aRun_of rfl (l_ordT d q0 q1 q2 q3 q4 ?_)
    refine aVn_end (stop := fun p => false) 60 ?_
    refine And.intro (fun c => absurd (show false = true from c) (by decide)) (fun _ => ?_)
    refine And.intro (fun _ => ?_) (fun c => absurd (qs.mpr qz) (cF c))
    refine And.intro (fun c => absurd (show false = true from c) (by decide)) (fun _ => ?_)
    exact rfl
  have qn : ¬ x + y + z + u ≤ 0 := fun r => qz (qs.mp r)
  have ef0 : fOrd w o x y z u v t = if w 16 5 < 6 then (w 16 5, wOrd w o x y z u v (if t = 0 then 0 else 1)) else (-3, wNote w 1 6) := if_pos ⟨q0, q1, q2, q3, q4, qz⟩
  by_cases c0 : o < 6
  rotate_left
  · have ef : fOrd w o x y z u v t = (-3, wNote w 1 6) := ef0.trans (if_neg (fun q => c0 (q6.mp q)))
    have e8' : m 0 8 = 6 := by rw [eo, show o = 6 by omega]; rfl
    refine ⟨mRef (upw m 9 2 0) 2 1 6, 0, ?_, by rw [ef]; exact mOp_d (mDo_r rfl rfl (by decide)) (show (-3 : Int32) < 0 by decide)⟩
    refine aRun_of rfl (l_ordT d q0 q1 q2 q3 q4 ?_)
    refine aVn_end (stop := fun p => false) 60 ?_
    refine And.intro (fun c => absurd (show false = true from c) (by decide)) (fun _ => ?_)
    refine And.intro (fun c => absurd (cT c) qn) (fun _ => ?_)
    refine And.intro (fun _ => ?_) (fun c => absurd (show true = false from c) (by decide))
    refine Exists.intro 8 (And.intro i8 ?_)
    refine And.intro (fun c => absurd e8' (cT c)) (fun _ => ?_)
    refine Exists.intro _ (And.intro (y_refuse (m := upw m 9 2 0) d) ?_)
    exact rfl
  have ne6 : ¬ m 0 8 = 6 := by rw [eo]; exact fun q => absurd (ofN_ne (j := 6) (by omega) (by omega) q) (by omega)
  have ef := ef0.trans (if_pos (q6.mpr c0))
  have R0 : Rl w (mKeep (upw m 9 2 0) 0) n g o := R
  have R1 := Rl_ord (x := x) (y := y) (z := z) (u := u) (v := v) (t := if t = 0 then 0 else 1) R0 ok.1.2.1 ok.1.2.2.2.1 c0
  have hix : ∀ (f : Nat) (y : Int32), y = Int32.ofNat f → f < 7 → aIx (453 + 7 * m 0 8 + y) 495 = some (453 + 7 * o + f) := fun f y h1 h2 => ixO eo c0 h1 h2
  have hi0 : aIx (453 + 7 * m 0 8) 495 = some (453 + 7 * o + 0) := by
    have := hix 0 0 rfl (by omega)
    rw [Int32.add_zero] at this
    exact this
  obtain ⟨m3, pp, g1, g2⟩ := y_endR (sn := sn) (sf := sf) (m := upw m 9 2 0) (m2 := upw (upw (upw (upw (upw (upw (upw (upw (mKeep (upw m 9 2 0)) 0 (453 + 7 * o + 0) x) 0 (453 + 7 * o + 1) y) 0 (453 + 7 * o + 2) z) 0 (453 + 7 * o + 3) u) 0 (453 + 7 * o + 4) v) 0 (453 + 7 * o + 5) (if t = 0 then 0 else 1)) 0 (453 + 7 * o + 6) 0) 0 8 (m 0 8 + 1)) (v := m 0 8) (p := (w 16 5, wOrd w o x y z u v (if t = 0 then 0 else 1))) (f := cd2) (n := n) (g := g) (o := o + 1) d ((upw_ne (by omega)).trans hc) h8 (by show 0 ≤ w 16 5; rw [ho]; exact Int32.not_lt.mp (ofN_lt0 (by omega))) e8 (fun a ha => funext fun i => by rw [upw_ne (by omega), upw_ne (by omega), upw_ne (by omega), upw_ne (by omega), upw_ne (by omega), upw_ne (by omega), upw_ne (by omega), upw_ne (by omega)]) (by rw [e8]; exact R1) (okN_ord ok.1 c0)
  have e8u : ∀ q : Int32, (upw (upw (upw (upw (upw (upw (upw (mKeep (upw m 9 2 0)) 0 (453 + 7 * o + 0) x) 0 (453 + 7 * o + 1) y) 0 (453 + 7 * o + 2) z) 0 (453 + 7 * o + 3) u) 0 (453 + 7 * o + 4) v) 0 (453 + 7 * o + 5) q) 0 (453 + 7 * o + 6) 0) 0 8 = m 0 8 := fun q => by
    rw [upw_ne (by omega), upw_ne (by omega), upw_ne (by omega), upw_ne (by omega), upw_ne (by omega), upw_ne (by omega), upw_ne (by omega)]
    rfl
  have g1' : ∀ q : Int32, q = (if t = 0 then 0 else 1) → aRun false (d + 1) m_X8_ends [.ref 8, .int (m 0 8)] (aHn sn sf (upw (upw (upw (upw (upw (upw (upw (upw (mKeep (upw m 9 2 0)) 0 (453 + 7 * o + 0) x) 0 (453 + 7 * o + 1) y) 0 (453 + 7 * o + 2) z) 0 (453 + 7 * o + 3) u) 0 (453 + 7 * o + 4) v) 0 (453 + 7 * o + 5) q) 0 (453 + 7 * o + 6) 0) 0 8 ((upw (upw (upw (upw (upw (upw (upw (mKeep (upw m 9 2 0)) 0 (453 + 7 * o + 0) x) 0 (453 + 7 * o + 1) y) 0 (453 + 7 * o + 2) z) 0 (453 + 7 * o + 3) u) 0 (453 + 7 * o + 4) v) 0 (453 + 7 * o + 5) q) 0 (453 + 7 * o + 6) 0) 0 8 + 1))) = some (.inl (some (.int pp)), aHn sn sf m3, (0, 0)) := fun q hq => by
    rw [e8u q, hq]
    exact g1
  refine ⟨m3, pp, ?_, by rw [ef]; exact mOp_m g2⟩
  refine aRun_of rfl (l_ordT d q0 q1 q2 q3 q4 ?_)
  refine aVn_end (stop := fun p => false) 120 ?_
  refine And.intro (fun c => absurd (show false = true from c) (by decide)) (fun _ => ?_)
  refine And.intro (fun c => absurd (cT c) qn) (fun _ => ?_)
  refine And.intro (fun _ => ?_) (fun c => absurd (show true = false from c) (by decide))
  refine Exists.intro 8 (And.intro i8 ?_)
  refine And.intro (fun _ => ?_) (fun c => absurd (cF c) (fun q => q ne6))
  refine Exists.intro _ (And.intro (y_keep (m := upw m 9 2 0) d) ?_)
  refine Exists.intro _ (And.intro (y_orderAt d) ?_)
  refine Exists.intro (453 + 7 * o + 0) (And.intro hi0 ?_)
  refine Exists.intro (453 + 7 * o + 1) (And.intro (hix 1 _ rfl (by omega)) ?_)
  refine Exists.intro (453 + 7 * o + 2) (And.intro (hix 2 _ rfl (by omega)) ?_)
  refine Exists.intro (453 + 7 * o + 3) (And.intro (hix 3 _ rfl (by omega)) ?_)
  refine Exists.intro (453 + 7 * o + 4) (And.intro (hix 4 _ rfl (by omega)) ?_)
  refine And.intro (fun c => ?_) (fun c => ?_)
  · have c5 : t = 0 := cT c
    refine Exists.intro (453 + 7 * o + 5) (And.intro (hix 5 _ rfl (by omega)) ?_)
    refine Exists.intro (453 + 7 * o + 6) (And.intro (hix 6 _ rfl (by omega)) ?_)
    refine Exists.intro 8 (And.intro i8 ?_)
    refine Exists.intro 8 (And.intro i8 ?_)
    refine Exists.intro _ (And.intro (g1' 0 (if_pos c5).symm) ?_)
    exact rfl
  · have c5 : ¬ t = 0 := cF c
    refine Exists.intro (453 + 7 * o + 5) (And.intro (hix 5 _ rfl (by omega)) ?_)
    refine Exists.intro (453 + 7 * o + 6) (And.intro (hix 6 _ rfl (by omega)) ?_)
    refine Exists.intro 8 (And.intro i8 ?_)
    refine Exists.intro 8 (And.intro i8 ?_)
    refine Exists.intro _ (And.intro (g1' 1 (if_neg c5).symm) ?_)
    exact rfl
end YO
