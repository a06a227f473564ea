/-! THE MODEL READS: a sign is taken -/
/-- the model at place p, wrong or not -/
def mPl (m : aW) (p : Nat) (b : Int32) : aW := upw (upw m 9 5 (Int32.ofNat p)) 9 6 b
section ZA
variable {sn : Nat} {sf : Nat → Int32} {m m1 m2 w : aW} {n g o i j k f L p : Nat} {x y z u v t c b : Int32}
theorem mPl_1 : upw (mPl m p b) 9 6 c = mPl m p c := by
  unfold mPl
  exact upw_upw
theorem mPl_2 : upw (mPl m p b) 9 5 (Int32.ofNat i) = mPl m i b := by
  unfold mPl
  rw [upw_com (a := 9) (b := 9) (i := 6) (j := 5) (by omega), upw_upw]
theorem y_signN (d : Nat) (h : ¬ (b = 0 ∧ p < L ∧ x ≤ m 7 p ∧ m 7 p ≤ y)) (hl : m 9 4 = Int32.ofNat L) (hL : L ≤ 60) (hpL : p ≤ L) : aRun false (d + 3) m_X8_sign_ [.ref 8, .int x, .int y] (aHn sn sf (mPl m p b)) = some (.inl (some (.int 0)), aHn sn sf (mPl m p 1), (0, 0)) := by
  have hh : rM sn sf (mPl m p b) (d + 2) m_X8_isHere [.ref 8, .int x, .int y] 0 := by
    by_cases hb : b = 0
    · exact y_isHere (m := mPl m p b) d hb (p := p) (L := L) rfl hl hL hpL (if_neg (fun q => h ⟨hb, q⟩)).symm
    · exact y_isHereW (m := mPl m p b) d hb
  rw [← mPl_1 (m := m) (p := p) (b := b) (c := 1)]
  refine aRun_of rfl (aVn_end (stop := fun p => false) 60 ?_)
  refine Exists.intro _ (And.intro hh ?_)
  refine And.intro (fun c => absurd (show false = true from c) (by decide)) (fun _ => ?_)
  refine And.intro (fun c => absurd (show false = true from c) (by decide)) (fun _ => ?_)
  exact rfl
theorem y_signY (d : Nat) (h : p < L ∧ x ≤ m 7 p ∧ m 7 p ≤ y) (hl : m 9 4 = Int32.ofNat L) (hL : L ≤ 60) : aRun false (d + 3) m_X8_sign_ [.ref 8, .int x, .int y] (aHn sn sf (mPl m p 0)) = some (.inl (some (.int (m 7 p - x))), aHn sn sf (mPl m (p + 1) 0), (0, 0)) := by
  have hh : rM sn sf (mPl m p 0) (d + 2) m_X8_isHere [.ref 8, .int x, .int y] 1 := y_isHere (m := mPl m p 0) d rfl (p := p) (L := L) rfl hl hL (by omega) (if_pos h).symm
  have e0 : mPl m (p + 1) 0 = upw (upw (mPl m p 0) 9 6 0) 9 5 (Int32.ofNat p + 1) := by
    rw [mPl_1, zI_s rfl, mPl_2]
  have ix : aIx (Int32.ofNat p + 1 - 1) 60 = some p := by
    rw [Int32.add_sub_cancel]
    exact aIx_of rfl (by omega) (by omega)
  rw [e0]
  refine aRun_of rfl (aVn_end (stop := fun p => false) 60 ?_)
  refine Exists.intro _ (And.intro hh ?_)
  refine And.intro (fun _ => ?_) (fun c => absurd (show true = false from c) (by decide))
  refine And.intro (fun _ => ?_) (fun c => absurd (show true = false from c) (by decide))
  refine Exists.intro p (And.intro ix ?_)
  exact rfl
end ZA
