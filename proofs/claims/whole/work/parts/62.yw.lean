/-! THE MODEL'S ANSWERS: the account -/
def mAcc (w m : aW) (n g o : Nat) (x : Int32) : Int32 := if x = 17 then m 9 4 else if x = 18 then m 9 1 else wAcc w n g o x
section YW
variable {sn : Nat} {sf : Nat → Int32} {m m1 m2 w v : aW} {n g o i j k f b L : Nat} {x y z u t c : Int32}
theorem y_accountX (d : Nat) (c0 : ¬ (0 ≤ x ∧ x ≤ 18)) : aRun false (d + 7) m_X8_account [.ref 8, .int x] (aHn sn sf m) = some (.inl (some (.int 0)), aHn sn sf (upw m 9 2 1), (0, 0)) := by
  refine aRun_of rfl (aVn_end (stop := fun p => false) 60 ?_)
  refine Exists.intro _ (And.intro (y_in (d + 5) (if_neg c0).symm) ?_)
  refine And.intro (fun _ => ?_) (fun c => absurd (show true = false from c) (by decide))
  refine And.intro (fun c => absurd (show false = true from c) (by decide)) (fun _ => ?_)
  exact rfl
set_option maxRecDepth 20000 in
theorem y_account (d : Nat) (R : Rl w (m 0) n g o) (ok : wOkA w n g o) (c0 : 0 ≤ x ∧ x ≤ 18) : aRun false (d + 7) m_X8_account [.ref 8, .int x] (aHn sn sf m) = some (.inl (some (.int (mAcc w m n g o x))), aHn sn sf (upw m 9 2 0), (0, 0)) := by
  have h0 : ¬ x.toInt < 0 := fun h => absurd c0.1 (Int32.not_le.mpr (Int32.lt_iff_toInt_lt.mpr h))
  have h18 := Int32.le_iff_toInt_le.mp c0.2
  have e18 : (18 : Int32).toInt = 18 := rfl
  have R0 : Rl w ((upw m 9 2 0) 0) n g o := R
  obtain ⟨a0, a1, a2, a3, a4, a5, a6, a7, a8⟩ := R.1
  refine aRun_of rfl (aVn_end (stop := fun p => false) 90 ?_)
  refine Exists.intro _ (And.intro (y_in (d + 5) (if_pos c0).symm) ?_)
  refine And.intro (fun c => absurd (show false = true from c) (by decide)) (fun _ => ?_)
  refine And.intro (fun _ => ?_) (fun c => absurd (show true = false from c) (by decide))
  refine And.intro (fun c => ?_) ?_
  · exact absurd c (fun q => by omega)
  refine And.intro (fun c => ?_) ?_
  · have hk : x = 0 := Int32.toInt_inj.mp c
    refine Exists.intro 6 (And.intro (ixN (f := 6) rfl (by omega)) ?_)
    exact aRi (by rw [hk]; exact a6)
  refine And.intro (fun c => ?_) ?_
  · have hk : x = 1 := Int32.toInt_inj.mp c
    refine Exists.intro _ (And.intro (y_inState (m := upw m 9 2 0) (d + 3) R0 ok) ?_)
    exact aRi (by rw [hk]; rfl)
  refine And.intro (fun c => ?_) ?_
  · have hk : x = 2 := Int32.toInt_inj.mp c
    refine Exists.intro _ (And.intro (y_inState (m := upw m 9 2 0) (d + 3) R0 ok) ?_)
    exact aRi (by rw [hk]; rfl)
  refine And.intro (fun c => ?_) ?_
  · have hk : x = 3 := Int32.toInt_inj.mp c
    refine Exists.intro _ (And.intro (y_inState (m := upw m 9 2 0) (d + 3) R0 ok) ?_)
    exact aRi (by rw [hk]; rfl)
  refine And.intro (fun c => ?_) ?_
  · have hk : x = 4 := Int32.toInt_inj.mp c
    refine Exists.intro _ (And.intro (y_inState (m := upw m 9 2 0) (d + 3) R0 ok) ?_)
    exact aRi (by rw [hk]; rfl)
  refine And.intro (fun c => ?_) ?_
  · have hk : x = 5 := Int32.toInt_inj.mp c
    refine Exists.intro _ (And.intro (y_inState (m := upw m 9 2 0) (d + 3) R0 ok) ?_)
    exact aRi (by rw [hk]; rfl)
  refine And.intro (fun c => ?_) ?_
  · have hk : x = 6 := Int32.toInt_inj.mp c
    refine Exists.intro _ (And.intro (y_inState (m := upw m 9 2 0) (d + 3) R0 ok) ?_)
    exact aRi (by rw [hk]; rfl)
  refine And.intro (fun c => ?_) ?_
  · have hk : x = 7 := Int32.toInt_inj.mp c
    refine Exists.intro 7 (And.intro (ixN (f := 7) rfl (by omega)) ?_)
    exact aRi (by rw [hk]; exact a7)
  refine And.intro (fun c => ?_) ?_
  · have hk : x = 8 := Int32.toInt_inj.mp c
    refine Exists.intro _ (And.intro (y_inKiln (m := upw m 9 2 0) (d + 2) R0 ok) ?_)
    exact aRi (by rw [hk]; rfl)
  refine And.intro (fun c => ?_) ?_
  · have hk : x = 9 := Int32.toInt_inj.mp c
    refine Exists.intro 8 (And.intro (ixN (f := 8) rfl (by omega)) ?_)
    exact aRi (by rw [hk]; exact a8)
  refine And.intro (fun c => ?_) ?_
  · have hk : x = 10 := Int32.toInt_inj.mp c
    refine Exists.intro _ (And.intro (y_setsSold (m := upw m 9 2 0) (d + 4) R0 ok) ?_)
    exact aRi (by rw [hk]; rfl)
  refine And.intro (fun c => ?_) ?_
  · have hk : x = 11 := Int32.toInt_inj.mp c
    refine Exists.intro 5 (And.intro (ixN (f := 5) rfl (by omega)) ?_)
    exact aRi (by rw [hk]; exact a5)
  refine And.intro (fun c => ?_) ?_
  · have hk : x = 12 := Int32.toInt_inj.mp c
    refine Exists.intro 4 (And.intro (ixN (f := 4) rfl (by omega)) ?_)
    exact aRi (by rw [hk]; exact a4)
  refine And.intro (fun c => ?_) ?_
  · have hk : x = 13 := Int32.toInt_inj.mp c
    refine Exists.intro 3 (And.intro (ixN (f := 3) rfl (by omega)) ?_)
    exact aRi (by rw [hk]; exact a3)
  refine And.intro (fun c => ?_) ?_
  · have hk : x = 14 := Int32.toInt_inj.mp c
    refine Exists.intro 0 (And.intro (by rw [hk]; decide) ?_)
    exact aRi (by rw [hk]; exact a0)
  refine And.intro (fun c => ?_) ?_
  · have hk : x = 15 := Int32.toInt_inj.mp c
    refine Exists.intro 1 (And.intro (by rw [hk]; decide) ?_)
    exact aRi (by rw [hk]; exact a1)
  refine And.intro (fun c => ?_) ?_
  · have hk : x = 16 := Int32.toInt_inj.mp c
    refine Exists.intro 2 (And.intro (by rw [hk]; decide) ?_)
    exact aRi (by rw [hk]; exact a2)
  refine And.intro (fun c => ?_) ?_
  · have hk : x = 17 := Int32.toInt_inj.mp c
    exact aRi (by rw [hk]; rfl)
  refine And.intro (fun c => ?_) trivial
  · have hk : x = 18 := Int32.toInt_inj.mp c
    exact aRi (by rw [hk]; rfl)
end YW
