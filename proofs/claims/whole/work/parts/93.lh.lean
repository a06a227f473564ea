/-! THE LAW'S BODY: each call's part -/
section LS
variable {sn i k1 k2 : Nat} {sf : Nat → Int32} {lo lo1 : Nat → Int64} {dd dd1 : Nat → UInt64} {m m1 : aW} {X0 X1 : aH} {xi c b : Int32} {kk : aK} {B : aK} {l6 l7 l8 : Option Value}
set_option maxRecDepth 40000 in
theorem s_sets (hx : xi = Int32.ofNat i) (hi : i + 7 ≤ sn) (hsn : sn ≤ 3584) (hL : aRun false 10 m_L_sets [.ref 20, .int (sf (i + 1)), .ref 8] (aLh sn sf lo dd m X0) = some (.inl (some (.int c)), aLh sn sf lo1 dd m X1, kk)) (hM : aRun false 10 m_X8_sets [.ref 10, .int (sf (i + 1))] (aLh sn sf lo1 dd m X1) = some (.inl (some (.int b)), aLh sn sf lo1 dd m1 X1, (0, 0))) (hT : m1 9 2 = c) (hO : c = 0 → lo1 0 = b.toInt64) (K : ∀ l6 l7, aFn FL B (2322, [some (.ref 5), some (.ref 20), some (.ref 10), some (.ref 8), some (.ref 9), some (.int xi), l6, l7, l8], [], aLh sn sf lo1 dd m1 X1, (k1 + kk.1, k2 + kk.2))) : aFn FL B (1710, [some (.ref 5), some (.ref 20), some (.ref 10), some (.ref 8), some (.ref 9), some (.int xi), l6, l7, l8], [], aLh sn sf lo dd m X0, (k1, k2)) := by
  have i1 : aIx (xi + 1) sn = some (i + 1) := aIx_of (by rw [hx, Int32.ofNat_add]; rfl) (by omega) (by omega)
  refine aVn_fn (stop := fun p => p == 2322) 120 ?_
  refine Exists.intro (i + 1) (And.intro i1 ?_)
  refine Exists.intro _ (And.intro hL ?_)
  refine Exists.intro (i + 1) (And.intro i1 ?_)
  refine Exists.intro _ (And.intro hM ?_)
  refine Exists.intro _ (And.intro lift_thr ?_)
  refine And.intro (fun _ => ?_) (fun q => absurd hT (cF q))
  refine And.intro (fun _ => ?_) (fun q => ?_)
  · exact K _ _
  have hc : c = 0 := Decidable.not_not.mp (cF q)
  have hz : lg_cmp (lo1 0) b.toInt64 = 0 := by rw [hO hc]; exact lcmp_0 _
  refine And.intro (fun _ => ?_) (fun q => absurd hz (cF q))
  exact K _ _
set_option maxRecDepth 40000 in
theorem s_setsAgain (hx : xi = Int32.ofNat i) (hi : i + 7 ≤ sn) (hsn : sn ≤ 3584) (hL : aRun false 10 m_L_setsAgain [.ref 20, .int (sf (i + 1)), .ref 8] (aLh sn sf lo dd m X0) = some (.inl (some (.int c)), aLh sn sf lo1 dd m X1, kk)) (hM : aRun false 10 m_X8_setsAgain [.ref 10, .int (sf (i + 1))] (aLh sn sf lo1 dd m X1) = some (.inl (some (.int b)), aLh sn sf lo1 dd m1 X1, (0, 0))) (hT : m1 9 2 = c) (hO : c = 0 → lo1 0 = b.toInt64) (K : ∀ l6 l7, aFn FL B (2322, [some (.ref 5), some (.ref 20), some (.ref 10), some (.ref 8), some (.ref 9), some (.int xi), l6, l7, l8], [], aLh sn sf lo1 dd m1 X1, (k1 + kk.1, k2 + kk.2))) : aFn FL B (1766, [some (.ref 5), some (.ref 20), some (.ref 10), some (.ref 8), some (.ref 9), some (.int xi), l6, l7, l8], [], aLh sn sf lo dd m X0, (k1, k2)) := by
  have i1 : aIx (xi + 1) sn = some (i + 1) := aIx_of (by rw [hx, Int32.ofNat_add]; rfl) (by omega) (by omega)
  refine aVn_fn (stop := fun p => p == 2322) 120 ?_
  refine Exists.intro (i + 1) (And.intro i1 ?_)
  refine Exists.intro _ (And.intro hL ?_)
  refine Exists.intro (i + 1) (And.intro i1 ?_)
  refine Exists.intro _ (And.intro hM ?_)
  refine Exists.intro _ (And.intro lift_thr ?_)
  refine And.intro (fun _ => ?_) (fun q => absurd hT (cF q))
  refine And.intro (fun _ => ?_) (fun q => ?_)
  · exact K _ _
  have hc : c = 0 := Decidable.not_not.mp (cF q)
  have hz : lg_cmp (lo1 0) b.toInt64 = 0 := by rw [hO hc]; exact lcmp_0 _
  refine And.intro (fun _ => ?_) (fun q => absurd hz (cF q))
  exact K _ _
set_option maxRecDepth 40000 in
theorem s_append (hx : xi = Int32.ofNat i) (hi : i + 7 ≤ sn) (hsn : sn ≤ 3584) (hL : aRun false 10 m_L_append [.ref 20, .int ((sf (i + 1)).toUInt32 % 65536).toInt32, .ref 8] (aLh sn sf lo dd m X0) = some (.inl (some (.int c)), aLh sn sf lo1 dd m X1, kk)) (hM : aRun false 10 m_X8_append [.ref 10, .int ((sf (i + 1)).toUInt32 % 65536).toInt32] (aLh sn sf lo1 dd m X1) = some (.inl (some (.int b)), aLh sn sf lo1 dd m1 X1, (0, 0))) (hT : m1 9 2 = c) (hO : c = 0 → lo1 0 = b.toInt64) (K : ∀ l6 l7, aFn FL B (2322, [some (.ref 5), some (.ref 20), some (.ref 10), some (.ref 8), some (.ref 9), some (.int xi), l6, l7, l8], [], aLh sn sf lo1 dd m1 X1, (k1 + kk.1, k2 + kk.2))) : aFn FL B (1822, [some (.ref 5), some (.ref 20), some (.ref 10), some (.ref 8), some (.ref 9), some (.int xi), l6, l7, l8], [], aLh sn sf lo dd m X0, (k1, k2)) := by
  have i1 : aIx (xi + 1) sn = some (i + 1) := aIx_of (by rw [hx, Int32.ofNat_add]; rfl) (by omega) (by omega)
  refine aVn_fn (stop := fun p => p == 2322) 120 ?_
  refine Exists.intro (i + 1) (And.intro i1 ?_)
  refine Exists.intro _ (And.intro hL ?_)
  refine Exists.intro (i + 1) (And.intro i1 ?_)
  refine Exists.intro _ (And.intro hM ?_)
  refine Exists.intro _ (And.intro lift_thr ?_)
  refine And.intro (fun _ => ?_) (fun q => absurd hT (cF q))
  refine And.intro (fun _ => ?_) (fun q => ?_)
  · exact K _ _
  have hc : c = 0 := Decidable.not_not.mp (cF q)
  have hz : lg_cmp (lo1 0) b.toInt64 = 0 := by rw [hO hc]; exact lcmp_0 _
  refine And.intro (fun _ => ?_) (fun q => absurd hz (cF q))
  exact K _ _
set_option maxRecDepth 40000 in
theorem s_read (hx : xi = Int32.ofNat i) (hi : i + 7 ≤ sn) (hsn : sn ≤ 3584) (hL : aRun false 10 m_L_read [.ref 20, .ref 8] (aLh sn sf lo dd m X0) = some (.inl (some (.int c)), aLh sn sf lo1 dd m X1, kk)) (hM : aRun false 10 m_X8_read [.ref 10] (aLh sn sf lo1 dd m X1) = some (.inl (some (.int b)), aLh sn sf lo1 dd m1 X1, (0, 0))) (hT : m1 9 2 = c) (hO : c = 0 → lo1 0 = b.toInt64) (K : ∀ l6 l7, aFn FL B (2322, [some (.ref 5), some (.ref 20), some (.ref 10), some (.ref 8), some (.ref 9), some (.int xi), l6, l7, l8], [], aLh sn sf lo1 dd m1 X1, (k1 + kk.1, k2 + kk.2))) : aFn FL B (1880, [some (.ref 5), some (.ref 20), some (.ref 10), some (.ref 8), some (.ref 9), some (.int xi), l6, l7, l8], [], aLh sn sf lo dd m X0, (k1, k2)) := by
  refine aVn_fn (stop := fun p => p == 2322) 120 ?_
  refine Exists.intro _ (And.intro hL ?_)
  refine Exists.intro _ (And.intro hM ?_)
  refine Exists.intro _ (And.intro lift_thr ?_)
  refine And.intro (fun _ => ?_) (fun q => absurd hT (cF q))
  refine And.intro (fun _ => ?_) (fun q => ?_)
  · exact K _ _
  have hc : c = 0 := Decidable.not_not.mp (cF q)
  have hz : lg_cmp (lo1 0) b.toInt64 = 0 := by rw [hO hc]; exact lcmp_0 _
  refine And.intro (fun _ => ?_) (fun q => absurd hz (cF q))
  exact K _ _
set_option maxRecDepth 40000 in
theorem s_refusal_0 (hx : xi = Int32.ofNat i) (hi : i + 7 ≤ sn) (hsn : sn ≤ 3584) (hb :  sf (i + 2) = 0) (hL : aRun false 10 m_L_refusal [.ref 20, .int (sf (i + 1)), .int 0, .ref 8] (aLh sn sf lo dd m X0) = some (.inl (some (.int c)), aLh sn sf lo1 dd m X1, kk)) (hM : aRun false 10 m_X8_refusal [.ref 10, .int (sf (i + 1)), .int 0] (aLh sn sf lo1 dd m X1) = some (.inl (some (.int b)), aLh sn sf lo1 dd m1 X1, (0, 0))) (hT : m1 9 2 = c) (hO : c = 0 → lo1 0 = b.toInt64) (K : ∀ l6 l7, aFn FL B (2322, [some (.ref 5), some (.ref 20), some (.ref 10), some (.ref 8), some (.ref 9), some (.int xi), l6, l7, l8], [], aLh sn sf lo1 dd m1 X1, (k1 + kk.1, k2 + kk.2))) : aFn FL B (1937, [some (.ref 5), some (.ref 20), some (.ref 10), some (.ref 8), some (.ref 9), some (.int xi), l6, l7, l8], [], aLh sn sf lo dd m X0, (k1, k2)) := by
  have i1 : aIx (xi + 1) sn = some (i + 1) := aIx_of (by rw [hx, Int32.ofNat_add]; rfl) (by omega) (by omega)
  have i2 : aIx (xi + 2) sn = some (i + 2) := aIx_of (by rw [hx, Int32.ofNat_add]; rfl) (by omega) (by omega)
  refine aVn_fn (stop := fun p => p == 2322) 120 ?_
  refine Exists.intro (i + 1) (And.intro i1 ?_)
  refine Exists.intro (i + 2) (And.intro i2 ?_)
  refine And.intro (fun _ => ?_) (fun q => absurd hb (cF q))
  refine Exists.intro _ (And.intro hL ?_)
  refine Exists.intro (i + 1) (And.intro i1 ?_)
  refine Exists.intro (i + 2) (And.intro i2 ?_)
  refine And.intro (fun _ => ?_) (fun q => absurd hb (cF q))
  refine Exists.intro _ (And.intro hM ?_)
  refine Exists.intro _ (And.intro lift_thr ?_)
  refine And.intro (fun _ => ?_) (fun q => absurd hT (cF q))
  refine And.intro (fun _ => ?_) (fun q => ?_)
  · exact K _ _
  have hc : c = 0 := Decidable.not_not.mp (cF q)
  have hz : lg_cmp (lo1 0) b.toInt64 = 0 := by rw [hO hc]; exact lcmp_0 _
  refine And.intro (fun _ => ?_) (fun q => absurd hz (cF q))
  exact K _ _
set_option maxRecDepth 40000 in
theorem s_refusal_1 (hx : xi = Int32.ofNat i) (hi : i + 7 ≤ sn) (hsn : sn ≤ 3584) (hb : ¬ sf (i + 2) = 0) (hL : aRun false 10 m_L_refusal [.ref 20, .int (sf (i + 1)), .int 1, .ref 8] (aLh sn sf lo dd m X0) = some (.inl (some (.int c)), aLh sn sf lo1 dd m X1, kk)) (hM : aRun false 10 m_X8_refusal [.ref 10, .int (sf (i + 1)), .int 1] (aLh sn sf lo1 dd m X1) = some (.inl (some (.int b)), aLh sn sf lo1 dd m1 X1, (0, 0))) (hT : m1 9 2 = c) (hO : c = 0 → lo1 0 = b.toInt64) (K : ∀ l6 l7, aFn FL B (2322, [some (.ref 5), some (.ref 20), some (.ref 10), some (.ref 8), some (.ref 9), some (.int xi), l6, l7, l8], [], aLh sn sf lo1 dd m1 X1, (k1 + kk.1, k2 + kk.2))) : aFn FL B (1937, [some (.ref 5), some (.ref 20), some (.ref 10), some (.ref 8), some (.ref 9), some (.int xi), l6, l7, l8], [], aLh sn sf lo dd m X0, (k1, k2)) := by
  have i1 : aIx (xi + 1) sn = some (i + 1) := aIx_of (by rw [hx, Int32.ofNat_add]; rfl) (by omega) (by omega)
  have i2 : aIx (xi + 2) sn = some (i + 2) := aIx_of (by rw [hx, Int32.ofNat_add]; rfl) (by omega) (by omega)
  refine aVn_fn (stop := fun p => p == 2322) 120 ?_
  refine Exists.intro (i + 1) (And.intro i1 ?_)
  refine Exists.intro (i + 2) (And.intro i2 ?_)
  refine And.intro (fun q => absurd (cT q) hb) (fun _ => ?_)
  refine Exists.intro _ (And.intro hL ?_)
  refine Exists.intro (i + 1) (And.intro i1 ?_)
  refine Exists.intro (i + 2) (And.intro i2 ?_)
  refine And.intro (fun q => absurd (cT q) hb) (fun _ => ?_)
  refine Exists.intro _ (And.intro hM ?_)
  refine Exists.intro _ (And.intro lift_thr ?_)
  refine And.intro (fun _ => ?_) (fun q => absurd hT (cF q))
  refine And.intro (fun _ => ?_) (fun q => ?_)
  · exact K _ _
  have hc : c = 0 := Decidable.not_not.mp (cF q)
  have hz : lg_cmp (lo1 0) b.toInt64 = 0 := by rw [hO hc]; exact lcmp_0 _
  refine And.intro (fun _ => ?_) (fun q => absurd hz (cF q))
  exact K _ _
end LS
