/-! THE MODEL'S ANSWERS -/
/-- the exception's number, and the answer -/
def cW (e : Nat ⊕ Int32) (f : Nat → Int32) : Int32 × Int32 := match e with
  | .inl c => (f c, 0)
  | .inr v => (0, v)
def yRes (sn : Nat) (sf : Nat → Int32) (m : aW) (p : Int32 × Int32) : aR := (.inl (some (.int p.2)), aHn sn sf (upw m 9 2 p.1), (0, 0))
theorem yR {sn : Nat} {sf : Nat → Int32} {m : aW} {p : Int32 × Int32} {c v : Int32} (h : p = (c, v)) : ((.inl (some (.int v)), aHn sn sf (upw m 9 2 c), (0, 0)) : aR) = yRes sn sf m p := by rw [h]; rfl
section YD
variable {sn : Nat} {sf : Nat → Int32} {m w : aW} {n g o i j k f b L : Nat} {x y z v u s t : Int32}
theorem yQ {p : Int32 × Int32} {c u v : Int32} (h : p = (c, v)) (e : u = v) : ((.inl (some (.int u)), aHn sn sf (upw m 9 2 c), (0, 0)) : aR) = yRes sn sf m p := by rw [e]; exact yR h
theorem y_ware (d : Nat) (R : Rl w (m 0) n g o) (ok : wOkA w n g o)  : aRun false (d + 7) m_X8_ware [.ref 8, .int x, .int y] (aHn sn sf m) = some (yRes sn sf m (cW (q_ware w x y) (fun c => if c = 2 then 1 else 2))) := by
  by_cases c0 : 0 ≤ x ∧ x < w 16 3
  rotate_left
  · have e : q_ware w x y = .inl 2 := by rw [q_ware, if_neg c0]
    refine aRun_of rfl (aVn_end (stop := fun p => false) 90 ?_)
    refine Exists.intro _ (And.intro (y_isWare (d + 4) R ok (if_neg c0).symm) ?_)
    refine And.intro (fun c => absurd (show false = true from c) (by decide)) (fun _ => ?_)
    refine And.intro (fun c => absurd (show false = true from c) (by decide)) (fun _ => ?_)
    exact yR (by rw [e]; rfl)
  by_cases c1 : 0 ≤ y ∧ y ≤ 7
  rotate_left
  · have e : q_ware w x y = .inl 0 := by rw [q_ware, if_pos c0, if_neg c1]
    refine aRun_of rfl (aVn_end (stop := fun p => false) 90 ?_)
    refine Exists.intro _ (And.intro (y_isWare (d + 4) R ok (if_pos c0).symm) ?_)
    refine And.intro (fun _ => ?_) (fun c => absurd (show true = false from c) (by decide))
    refine Exists.intro _ (And.intro (y_in (d + 5) (if_neg c1).symm) ?_)
    refine And.intro (fun c => absurd (show false = true from c) (by decide)) (fun _ => ?_)
    refine And.intro (fun c => absurd (show false = true from c) (by decide)) (fun _ => ?_)
    exact yR (by rw [e]; rfl)
  have hxx := aIx_lt c0 ok.1.1 ok.1.2.1 (by omega)
  have e : q_ware w x y = .inr (wNum w (zn x) y) := by rw [q_ware, if_pos c0, if_pos c1]
  by_cases c2 : y = 7
  · subst c2
    refine aRun_of rfl (aVn_end (stop := fun p => false) 90 ?_)
    refine Exists.intro _ (And.intro (y_isWare (d + 4) R ok (if_pos c0).symm) ?_)
    refine And.intro (fun _ => ?_) (fun c => absurd (show true = false from c) (by decide))
    refine Exists.intro _ (And.intro (y_in (d + 5) (if_pos c1).symm) ?_)
    refine And.intro (fun _ => ?_) (fun c => absurd (show true = false from c) (by decide))
    refine And.intro (fun _ => ?_) (fun c => absurd (show true = false from c) (by decide))
    refine And.intro (fun c => absurd (show false = true from c) (by decide)) (fun _ => ?_)
    refine Exists.intro _ (And.intro (y_needOf (m := (upw m 9 2 0)) (d + 3) R ok hxx.2.2 hxx.2.1) ?_)
    exact yQ (by rw [e]; rfl) rfl
  · have hy : y = Int32.ofNat (zn y) := zn_nn c1.1
    have h7 : zn y < 7 := by
      have h8 := (zI_le (x := y) (y := 7) (n := 7) hy rfl (by have := Int32.toInt_lt y; show y.toInt.toNat < _; omega) (by omega)).mp c1.2
      have : ¬ zn y = 7 := fun q => c2 (by rw [hy, q]; rfl)
      omega
    have hg := y_get0 (sn := sn) (sf := sf) (m := (upw m 9 2 0)) (x := x) (y := y) (d + 4) hxx.2.2 (by have := hxx.2.1; have := ok.1.2.1; omega) hy h7
    have hv : m 0 (9 + 7 * zn x + zn y) = wNum w (zn x) y := by
      rw [R.2.1 _ hxx.2.1 _ h7, hy]
      generalize zn y = f at h7
      match f, h7 with
      | 0, _ => rfl
      | 1, _ => rfl
      | 2, _ => rfl
      | 3, _ => rfl
      | 4, _ => rfl
      | 5, _ => rfl
      | 6, _ => rfl
    refine aRun_of rfl (aVn_end (stop := fun p => false) 90 ?_)
    refine Exists.intro _ (And.intro (y_isWare (d + 4) R ok (if_pos c0).symm) ?_)
    refine And.intro (fun _ => ?_) (fun c => absurd (show true = false from c) (by decide))
    refine Exists.intro _ (And.intro (y_in (d + 5) (if_pos c1).symm) ?_)
    refine And.intro (fun _ => ?_) (fun c => absurd (show true = false from c) (by decide))
    refine And.intro (fun _ => ?_) (fun c => absurd (show true = false from c) (by decide))
    refine And.intro (fun _ => ?_) (fun c => absurd (cF c) (fun q => q c2))
    refine Exists.intro _ (And.intro (hg) ?_)
    exact yQ (by rw [e]; rfl) hv
theorem y_load (d : Nat) (R : Rl w (m 0) n g o) (ok : wOkA w n g o)  : aRun false (d + 7) m_X8_load [.ref 8, .int x] (aHn sn sf m) = some (yRes sn sf m (cW (q_load w n g x) (fun c => 1))) := by
  by_cases c0 : 0 ≤ x ∧ x < w 16 4
  rotate_left
  · have e : q_load w n g x = .inl 2 := by rw [q_load, if_neg c0]
    refine aRun_of rfl (aVn_end (stop := fun p => false) 90 ?_)
    refine Exists.intro _ (And.intro (y_isSaggar (d + 4) R ok (if_neg c0).symm) ?_)
    refine And.intro (fun _ => ?_) (fun c => absurd (show true = false from c) (by decide))
    refine And.intro (fun c => absurd (show false = true from c) (by decide)) (fun _ => ?_)
    exact yR (by rw [e]; rfl)
  have hxx := aIx_lt c0 ok.1.2.2.1 ok.1.2.2.2.1 (by omega)
  have e : q_load w n g x = .inr (wLoad w n g x) := by rw [q_load, if_pos c0]
  refine aRun_of rfl (aVn_end (stop := fun p => false) 90 ?_)
  refine Exists.intro _ (And.intro (y_isSaggar (d + 4) R ok (if_pos c0).symm) ?_)
  refine And.intro (fun c => absurd (show false = true from c) (by decide)) (fun _ => ?_)
  refine And.intro (fun _ => ?_) (fun c => absurd (show true = false from c) (by decide))
  refine Exists.intro _ (And.intro (y_loadOf (m := (upw m 9 2 0)) d R ok hxx.2.2 hxx.2.1) ?_)
  exact yQ (by rw [e]; rfl) rfl
theorem y_loadAgain (d : Nat) (R : Rl w (m 0) n g o) (ok : wOkA w n g o) : aRun false (d + 8) m_X8_loadAgain [.ref 8, .int x] (aHn sn sf m) = some (yRes sn sf m (cW (q_load w n g x) (fun c => 1))) := by
  refine aRun_of rfl (aVn_end (stop := fun p => false) 90 ?_)
  refine Exists.intro _ (And.intro (y_load d R ok) ?_)
  exact rfl
theorem y_orderOf (d : Nat) (R : Rl w (m 0) n g o) (ok : wOkA w n g o)  : aRun false (d + 7) m_X8_orderOf [.ref 8, .int x, .int y] (aHn sn sf m) = some (yRes sn sf m (cW (q_orderOf w x y) (fun c => if c = 2 then 1 else 2))) := by
  by_cases c0 : 0 ≤ x ∧ x < w 16 5
  rotate_left
  · have e : q_orderOf w x y = .inl 2 := by rw [q_orderOf, if_neg c0]
    refine aRun_of rfl (aVn_end (stop := fun p => false) 90 ?_)
    refine Exists.intro _ (And.intro (y_isOrder (d + 4) R ok (if_neg c0).symm) ?_)
    refine And.intro (fun c => absurd (show false = true from c) (by decide)) (fun _ => ?_)
    refine And.intro (fun c => absurd (show false = true from c) (by decide)) (fun _ => ?_)
    exact yR (by rw [e]; rfl)
  by_cases c1 : 0 ≤ y ∧ y ≤ 6
  rotate_left
  · have e : q_orderOf w x y = .inl 0 := by rw [q_orderOf, if_pos c0, if_neg c1]
    refine aRun_of rfl (aVn_end (stop := fun p => false) 90 ?_)
    refine Exists.intro _ (And.intro (y_isOrder (d + 4) R ok (if_pos c0).symm) ?_)
    refine And.intro (fun _ => ?_) (fun c => absurd (show true = false from c) (by decide))
    refine Exists.intro _ (And.intro (y_in (d + 5) (if_neg c1).symm) ?_)
    refine And.intro (fun c => absurd (show false = true from c) (by decide)) (fun _ => ?_)
    refine And.intro (fun c => absurd (show false = true from c) (by decide)) (fun _ => ?_)
    exact yR (by rw [e]; rfl)
  have hxx := aIx_lt c0 ok.1.2.2.2.2.1 ok.1.2.2.2.2.2 (by omega)
  have ho6 := ok.1.2.2.2.2.2
  have hx6 := hxx.2.1
  have e : q_orderOf w x y = .inr (wOf w (zn x) y) := by rw [q_orderOf, if_pos c0, if_pos c1]
  have hy : y = Int32.ofNat (zn y) := zn_nn c1.1
  have h7 : zn y < 7 := by
    have h8 := (zI_le (x := y) (y := 6) (n := 6) hy rfl (by have := Int32.toInt_lt y; show y.toInt.toNat < _; omega) (by omega)).mp c1.2
    omega
  have hv : m 0 (453 + 7 * zn x + zn y) = wOf w (zn x) y := by
    have hO := R.2.2.2 _ hxx.2.1
    unfold wOf
    generalize hf : zn y = f at h7 hy ⊢
    rw [hy]
    match f, h7 with
    | 0, _ => exact hO.1 0 (by omega)
    | 1, _ => exact hO.1 1 (by omega)
    | 2, _ => exact hO.1 2 (by omega)
    | 3, _ => exact hO.1 3 (by omega)
    | 4, _ => exact hO.2.1
    | 5, _ => exact hO.2.2.1
    | 6, _ => exact hO.2.2.2
  refine aRun_of rfl (aVn_end (stop := fun p => false) 90 ?_)
  refine Exists.intro _ (And.intro (y_isOrder (d + 4) R ok (if_pos c0).symm) ?_)
  refine And.intro (fun _ => ?_) (fun c => absurd (show true = false from c) (by decide))
  refine Exists.intro _ (And.intro (y_in (d + 5) (if_pos c1).symm) ?_)
  refine And.intro (fun _ => ?_) (fun c => absurd (show true = false from c) (by decide))
  refine And.intro (fun _ => ?_) (fun c => absurd (show true = false from c) (by decide))
  refine Exists.intro _ (And.intro (y_orderAt (d + 5)) ?_)
  refine Exists.intro (453 + 7 * zn x + zn y) (And.intro (ixO hxx.2.2 (by omega) hy h7) ?_)
  exact yQ (by rw [e]; rfl) hv
theorem y_wouldBe (d : Nat) (R : Rl w (m 0) n g o) (ok : wOkA w n g o)  : aRun false (d + 7) m_X8_wouldBe [.ref 8, .int x, .int y] (aHn sn sf m) = some (yRes sn sf m (cW (q_wouldBe w x y) (fun c => if c = 2 then 1 else 2))) := by
  by_cases c0 : 0 ≤ x ∧ x < w 16 3
  rotate_left
  · have e : q_wouldBe w x y = .inl 2 := by rw [q_wouldBe, if_neg c0]
    refine aRun_of rfl (aVn_end (stop := fun p => false) 90 ?_)
    refine Exists.intro _ (And.intro (y_isWare (d + 4) R ok (if_neg c0).symm) ?_)
    refine And.intro (fun c => absurd (show false = true from c) (by decide)) (fun _ => ?_)
    refine And.intro (fun c => absurd (show false = true from c) (by decide)) (fun _ => ?_)
    exact yR (by rw [e]; rfl)
  by_cases c1 : 0 ≤ y ∧ y ≤ 2000
  rotate_left
  · have e : q_wouldBe w x y = .inl 0 := by rw [q_wouldBe, if_pos c0, if_neg c1]
    refine aRun_of rfl (aVn_end (stop := fun p => false) 90 ?_)
    refine Exists.intro _ (And.intro (y_isWare (d + 4) R ok (if_pos c0).symm) ?_)
    refine And.intro (fun _ => ?_) (fun c => absurd (show true = false from c) (by decide))
    refine Exists.intro _ (And.intro (y_in (d + 5) (if_neg c1).symm) ?_)
    refine And.intro (fun c => absurd (show false = true from c) (by decide)) (fun _ => ?_)
    refine And.intro (fun c => absurd (show false = true from c) (by decide)) (fun _ => ?_)
    exact yR (by rw [e]; rfl)
  have hxx := aIx_lt c0 ok.1.1 ok.1.2.1 (by omega)
  have e : q_wouldBe w x y = .inr (wGrade w (zn x) y) := by rw [q_wouldBe, if_pos c0, if_pos c1]
  refine aRun_of rfl (aVn_end (stop := fun p => false) 90 ?_)
  refine Exists.intro _ (And.intro (y_isWare (d + 4) R ok (if_pos c0).symm) ?_)
  refine And.intro (fun _ => ?_) (fun c => absurd (show true = false from c) (by decide))
  refine Exists.intro _ (And.intro (y_in (d + 5) (if_pos c1).symm) ?_)
  refine And.intro (fun _ => ?_) (fun c => absurd (show true = false from c) (by decide))
  refine And.intro (fun _ => ?_) (fun c => absurd (show true = false from c) (by decide))
  refine Exists.intro _ (And.intro (y_classBy (m := (upw m 9 2 0)) (d + 2) R ok hxx.2.2 hxx.2.1) ?_)
  exact yQ (by rw [e]; rfl) rfl
theorem y_heatAt (d : Nat) (R : Rl w (m 0) n g o) (ok : wOkA w n g o)  : aRun false (d + 7) m_X8_heatAt [.ref 8, .int x, .int y] (aHn sn sf m) = some (yRes sn sf m (cW (q_heatAt w x y) (fun c => if c = 2 then 1 else if c = 0 then 2 else 3))) := by
  by_cases c0 : 0 ≤ x ∧ x < w 16 4
  rotate_left
  · have e : q_heatAt w x y = .inl 2 := by rw [q_heatAt, if_neg c0]
    refine aRun_of rfl (aVn_end (stop := fun p => false) 90 ?_)
    refine Exists.intro _ (And.intro (y_isSaggar (d + 4) R ok (if_neg c0).symm) ?_)
    refine And.intro (fun c => absurd (show false = true from c) (by decide)) (fun _ => ?_)
    refine And.intro (fun c => absurd (show false = true from c) (by decide)) (fun _ => ?_)
    exact yR (by rw [e]; rfl)
  by_cases c1 : 1000 ≤ y ∧ y ≤ 1400
  rotate_left
  · have e : q_heatAt w x y = .inl 0 := by rw [q_heatAt, if_pos c0, if_neg c1]
    refine aRun_of rfl (aVn_end (stop := fun p => false) 90 ?_)
    refine Exists.intro _ (And.intro (y_isSaggar (d + 4) R ok (if_pos c0).symm) ?_)
    refine And.intro (fun _ => ?_) (fun c => absurd (show true = false from c) (by decide))
    refine Exists.intro _ (And.intro (y_in (d + 5) (if_neg c1).symm) ?_)
    refine And.intro (fun c => absurd (show false = true from c) (by decide)) (fun _ => ?_)
    refine And.intro (fun c => absurd (show false = true from c) (by decide)) (fun _ => ?_)
    exact yR (by rw [e]; rfl)
  have hxx := aIx_lt c0 ok.1.2.2.1 ok.1.2.2.2.1 (by omega)
  by_cases c2 : ¬ w 8 (zn x) = -1
  rotate_left
  · have e : q_heatAt w x y = .inl 3 := by rw [q_heatAt, if_pos c0, if_pos c1, if_neg c2]
    refine aRun_of rfl (aVn_end (stop := fun p => false) 90 ?_)
    refine Exists.intro _ (And.intro (y_isSaggar (d + 4) R ok (if_pos c0).symm) ?_)
    refine And.intro (fun _ => ?_) (fun c => absurd (show true = false from c) (by decide))
    refine Exists.intro _ (And.intro (y_in (d + 5) (if_pos c1).symm) ?_)
    refine And.intro (fun _ => ?_) (fun c => absurd (show true = false from c) (by decide))
    refine Exists.intro _ (And.intro (y_isOnFloor (d + 3) R ok hxx.2.2 hxx.2.1 (if_pos (Decidable.not_not.mp c2)).symm) ?_)
    refine And.intro (fun c => absurd (show false = true from c) (by decide)) (fun _ => ?_)
    refine And.intro (fun c => absurd (show false = true from c) (by decide)) (fun _ => ?_)
    exact yR (by rw [e]; rfl)
  have e : q_heatAt w x y = .inr (y - 10 * w 9 (zn x) - 5 * w 8 (zn x)) := by rw [q_heatAt, if_pos c0, if_pos c1, if_pos c2]
  have el : wLv w (zn x) = w 9 (zn x) := if_neg c2
  refine aRun_of rfl (aVn_end (stop := fun p => false) 90 ?_)
  refine Exists.intro _ (And.intro (y_isSaggar (d + 4) R ok (if_pos c0).symm) ?_)
  refine And.intro (fun _ => ?_) (fun c => absurd (show true = false from c) (by decide))
  refine Exists.intro _ (And.intro (y_in (d + 5) (if_pos c1).symm) ?_)
  refine And.intro (fun _ => ?_) (fun c => absurd (show true = false from c) (by decide))
  refine Exists.intro _ (And.intro (y_isOnFloor (d + 3) R ok hxx.2.2 hxx.2.1 (if_neg c2).symm) ?_)
  refine And.intro (fun _ => ?_) (fun c => absurd (show true = false from c) (by decide))
  refine And.intro (fun _ => ?_) (fun c => absurd (show true = false from c) (by decide))
  refine Exists.intro _ (And.intro (y_heatBy (m := (upw m 9 2 0)) (d + 2) R ok hxx.2.2 hxx.2.1) ?_)
  exact yQ (by rw [e]; rfl) (by rw [el])
theorem y_saggarOf0 (d : Nat) (R : Rl w (m 0) n g o) (ok : wOkA w n g o) (c0 : 0 ≤ x ∧ x < w 16 4) (c1 : 0 ≤ y ∧ y ≤ 6) : aEnd (aStep (aRun false (d + 6)) aCls [] aB_X8_saggarOf (some .int) false) (40, [some (.ref 8), some (.int x), some (.int y)], [], aHn sn sf (upw m 9 2 0), (0, 0)) (.inl (some (.int (wSag w n g x y))), aHn sn sf (upw m 9 2 0), (0, 0)) := by
  have hxx := aIx_lt c0 ok.1.2.2.1 ok.1.2.2.2.1 (by omega)
  have hg8 := ok.1.2.2.2.1
  have h0 : ¬ y.toInt < 0 := fun h => absurd c1.1 (Int32.not_le.mpr (Int32.lt_iff_toInt_lt.mpr h))
  have R0 : Rl w ((upw m 9 2 0) 0) n g o := R
  refine aVn_end (stop := fun p => false) 90 ?_
  refine And.intro (fun c => ?_) ?_
  · have h5 : 5 < y.toInt := c.resolve_left h0
    have h6 := Int32.le_iff_toInt_le.mp c1.2
    have e6 : (6 : Int32).toInt = 6 := rfl
    have hk : y = 6 := Int32.toInt_inj.mp (by omega)
    refine Exists.intro _ (And.intro (y_manyIn (d + 3) R0 ok) ?_)
    exact aRi (by rw [hk]; rfl)
  refine And.intro (fun c => ?_) ?_
  · have hk : y = 0 := Int32.toInt_inj.mp c
    refine Exists.intro _ (And.intro (y_heldIn (d + 2) R0 ok) ?_)
    exact aRi (by rw [hk]; rfl)
  refine And.intro (fun c => ?_) ?_
  · have hk : y = 1 := Int32.toInt_inj.mp c
    refine Exists.intro _ (And.intro (y_isOnFloor (d + 3) R0 ok hxx.2.2 hxx.2.1 rfl) ?_)
    refine And.intro (fun c => ?_) (fun c => ?_)
    · have c2 := bEqT c
      have el : wLv w (zn x) = w 9 (zn x) := if_neg c2
      refine Exists.intro _ (And.intro (y_levelOf (d + 3) R0 ok hxx.2.2 hxx.2.1) ?_)
      exact aRi (by rw [hk, el]; rfl)
    · have c2 := bEqF c
      have e9 : w 9 (zn x) = -1 := by
        rcases ok.2.2.1.1 _ hxx.2.1 with ⟨-, q⟩ | ⟨b, L, hb, -, p, -⟩
        · exact q
        · exact absurd c2 (okP_k hb p)
      exact aRi (by rw [hk]; exact e9.symm)
  refine And.intro (fun c => ?_) ?_
  · have hk : y = 2 := Int32.toInt_inj.mp c
    refine Exists.intro _ (And.intro (y_bung (d + 4) R0 ok hxx.2.2 hxx.2.1) ?_)
    exact aRi (by rw [hk]; rfl)
  refine And.intro (fun c => ?_) ?_
  · have hk : y = 3 := Int32.toInt_inj.mp c
    refine Exists.intro _ (And.intro (y_above (d + 4) R0 ok hxx.2.2 hxx.2.1) ?_)
    exact aRi (by rw [hk]; rfl)
  refine And.intro (fun c => ?_) ?_
  · have hk : y = 4 := Int32.toInt_inj.mp c
    refine Exists.intro _ (And.intro (y_below (d + 4) R0 ok hxx.2.2 hxx.2.1) ?_)
    exact aRi (by rw [hk]; rfl)
  refine And.intro (fun c => ?_) trivial
  have hk : y = 5 := Int32.toInt_inj.mp c
  refine Exists.intro _ (And.intro (y_weightOf (d + 1) R0 ok) ?_)
  exact aRi (by rw [hk]; rfl)
theorem y_saggarOf (d : Nat) (R : Rl w (m 0) n g o) (ok : wOkA w n g o)  : aRun false (d + 7) m_X8_saggarOf [.ref 8, .int x, .int y] (aHn sn sf m) = some (yRes sn sf m (cW (q_saggarOf w n g x y) (fun c => if c = 2 then 1 else 2))) := by
  by_cases c0 : 0 ≤ x ∧ x < w 16 4
  rotate_left
  · have e : q_saggarOf w n g x y = .inl 2 := by rw [q_saggarOf, if_neg c0]
    refine aRun_of rfl (aVn_end (stop := fun p => false) 90 ?_)
    refine Exists.intro _ (And.intro (y_isSaggar (d + 4) R ok (if_neg c0).symm) ?_)
    refine And.intro (fun c => absurd (show false = true from c) (by decide)) (fun _ => ?_)
    refine And.intro (fun c => absurd (show false = true from c) (by decide)) (fun _ => ?_)
    exact yR (by rw [e]; rfl)
  by_cases c1 : 0 ≤ y ∧ y ≤ 6
  rotate_left
  · have e : q_saggarOf w n g x y = .inl 0 := by rw [q_saggarOf, if_pos c0, if_neg c1]
    refine aRun_of rfl (aVn_end (stop := fun p => false) 90 ?_)
    refine Exists.intro _ (And.intro (y_isSaggar (d + 4) R ok (if_pos c0).symm) ?_)
    refine And.intro (fun _ => ?_) (fun c => absurd (show true = false from c) (by decide))
    refine Exists.intro _ (And.intro (y_in (d + 5) (if_neg c1).symm) ?_)
    refine And.intro (fun c => absurd (show false = true from c) (by decide)) (fun _ => ?_)
    refine And.intro (fun c => absurd (show false = true from c) (by decide)) (fun _ => ?_)
    exact yR (by rw [e]; rfl)
  have e : q_saggarOf w n g x y = .inr (wSag w n g x y) := by rw [q_saggarOf, if_pos c0, if_pos c1]
  have fin := aEnd_eq (y_saggarOf0 (sn := sn) (sf := sf) d R ok c0 c1) (yR (m := m) (p := cW (q_saggarOf w n g x y) (fun c => if c = 2 then 1 else 2)) (by rw [e]; rfl))
  refine aRun_of rfl (aVn_end (stop := fun p => p == 40) 90 ?_)
  refine Exists.intro _ (And.intro (y_isSaggar (d + 4) R ok (if_pos c0).symm) ?_)
  refine And.intro (fun _ => ?_) (fun c => absurd (show true = false from c) (by decide))
  refine Exists.intro _ (And.intro (y_in (d + 5) (if_pos c1).symm) ?_)
  refine And.intro (fun _ => ?_) (fun c => absurd (show true = false from c) (by decide))
  refine And.intro (fun _ => ?_) (fun c => absurd (show true = false from c) (by decide))
  exact fin
end YD
