/-! THE MODEL READS: one sign -/
section YZ
variable {sn : Nat} {sf : Nat → Int32} {m m1 m2 w : aW} {n g o i j k f b L p : Nat} {x y z u v t c : Int32}
theorem y_isHereW (d : Nat) (hw : ¬ m 9 6 = 0) : rM sn sf m (d + 2) m_X8_isHere [.ref 8, .int x, .int y] 0 := by
  refine aRun_of rfl (aVn_end (stop := fun p => false) 60 ?_)
  refine And.intro (fun _ => ?_) (fun c => absurd (cF c) (fun q => q hw))
  exact And.intro rfl rfl
theorem y_isHere (d : Nat) (hw : m 9 6 = 0) (hp : m 9 5 = Int32.ofNat p) (hl : m 9 4 = Int32.ofNat L) (hL : L ≤ 60) (hpL : p ≤ L) (hv : v = if p < L ∧ x ≤ m 7 p ∧ m 7 p ≤ y then 1 else 0) : rM sn sf m (d + 2) m_X8_isHere [.ref 8, .int x, .int y] v := by
  by_cases c0 : p < L
  rotate_left
  · have e : v = 0 := by rw [hv, if_neg (fun q => c0 q.1)]
    refine aRun_of rfl (aVn_end (stop := fun p => false) 60 ?_)
    refine And.intro (fun c => absurd hw (cT c)) (fun _ => ?_)
    refine And.intro (fun _ => ?_) (fun c => absurd (zgeF c hp hl (by omega) (by omega)) (by omega))
    exact And.intro rfl (aRi e.symm)
  have ix : aIx (m 9 5) 60 = some p := aIx_of hp (by omega) (by omega)
  by_cases c1 : x ≤ m 7 p ∧ m 7 p ≤ y
  · have e : v = 1 := by rw [hv, if_pos ⟨c0, c1⟩]
    refine aRun_of rfl (aVn_end (stop := fun p => false) 60 ?_)
    refine And.intro (fun c => absurd hw (cT c)) (fun _ => ?_)
    refine And.intro (fun c => absurd (zgeT c hp hl (by omega) (by omega)) (by omega)) (fun _ => ?_)
    refine Exists.intro p (And.intro ix ?_)
    refine Exists.intro _ (And.intro (y_in d (if_pos c1).symm) ?_)
    refine And.intro (fun c => absurd (show false = true from c) (by decide)) (fun _ => ?_)
    exact And.intro rfl (aRi e.symm)
  · have e : v = 0 := by rw [hv, if_neg (fun q => c1 q.2)]
    refine aRun_of rfl (aVn_end (stop := fun p => false) 60 ?_)
    refine And.intro (fun c => absurd hw (cT c)) (fun _ => ?_)
    refine And.intro (fun c => absurd (zgeT c hp hl (by omega) (by omega)) (by omega)) (fun _ => ?_)
    refine Exists.intro p (And.intro ix ?_)
    refine Exists.intro _ (And.intro (y_in d (if_neg c1).symm) ?_)
    refine And.intro (fun _ => ?_) (fun c => absurd (show true = false from c) (by decide))
    exact And.intro rfl (aRi e.symm)
end YZ
