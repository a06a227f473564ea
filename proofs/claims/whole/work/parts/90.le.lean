/-! THE LAW'S BODY: each call's part -/
noncomputable abbrev FL : aS → Option (aS ⊕ aR) := aStep (aRun false 10) aCls [] aB_L_law (some .boolean) false
section LS
variable {sn i k1 k2 : Nat} {sf : Nat → Int32} {lo lo1 : Nat → Int64} {dd dd1 : Nat → UInt64} {m m1 : aW} {X0 X1 : aH} {xi c b : Int32} {kk : aK} {B : aK} {l6 l7 l8 : Option Value}
theorem lcmp_0 (a : Int64) : lg_cmp a a = 0 := by
  unfold lg_cmp
  rw [if_neg Int64.lt_irrefl, if_pos rfl]
theorem lift_thr : aRun false 10 m_X8_thrown [.ref 10] (aLh sn sf lo dd m X0) = some (.inl (some (.int (m 9 2))), aLh sn sf lo dd m X0, (0, 0)) := lift_m (y_thrown 9)
set_option maxRecDepth 40000 in
theorem s_set (hx : xi = Int32.ofNat i) (hi : i + 7 ≤ sn) (hsn : sn ≤ 3584) (hL : aRun false 10 m_L_set [.ref 20, .int (sf (i + 1)), .int (sf (i + 2)), .ref 8] (aLh sn sf lo dd m X0) = some (.inl (some (.int c)), aLh sn sf lo1 dd m X1, kk)) (hM : aRun false 10 m_X8_set [.ref 10, .int (sf (i + 1)), .int (sf (i + 2))] (aLh sn sf lo1 dd m X1) = some (.inl (some (.int b)), aLh sn sf lo1 dd m1 X1, (0, 0))) (hT : m1 9 2 = c) (hO : c = 0 → lo1 0 = b.toInt64) (K : ∀ l6 l7, aFn FL B (2322, [some (.ref 5), some (.ref 20), some (.ref 10), some (.ref 8), some (.ref 9), some (.int xi), l6, l7, l8], [], aLh sn sf lo1 dd m1 X1, (k1 + kk.1, k2 + kk.2))) : aFn FL B (200, [some (.ref 5), some (.ref 20), some (.ref 10), some (.ref 8), some (.ref 9), some (.int xi), l6, l7, l8], [], aLh sn sf lo dd m X0, (k1, k2)) := by
  have i1 : aIx (xi + 1) sn = some (i + 1) := aIx_of (by rw [hx, Int32.ofNat_add]; rfl) (by omega) (by omega)
  have i2 : aIx (xi + 2) sn = some (i + 2) := aIx_of (by rw [hx, Int32.ofNat_add]; rfl) (by omega) (by omega)
  refine aVn_fn (stop := fun p => p == 2322) 120 ?_
  refine Exists.intro (i + 1) (And.intro i1 ?_)
  refine Exists.intro (i + 2) (And.intro i2 ?_)
  refine Exists.intro _ (And.intro hL ?_)
  refine Exists.intro (i + 1) (And.intro i1 ?_)
  refine Exists.intro (i + 2) (And.intro i2 ?_)
  refine Exists.intro _ (And.intro hM ?_)
  refine Exists.intro _ (And.intro lift_thr ?_)
  refine And.intro (fun _ => ?_) (fun q => absurd hT (cF q))
  refine And.intro (fun _ => ?_) (fun q => ?_)
  · exact K _ _
  have hc : c = 0 := Decidable.not_not.mp (cF q)
  have hz : lg_cmp (lo1 0) b.toInt64 = 0 := by rw [hO hc]; exact lcmp_0 _
  refine And.intro (fun _ => ?_) (fun q => absurd hz (cF q))
  exact K _ _
set_option maxRecDepth 40000 in
theorem s_clay (hx : xi = Int32.ofNat i) (hi : i + 7 ≤ sn) (hsn : sn ≤ 3584) (hL : aRun false 10 m_L_clay [.ref 20, .int (sf (i + 1)), .ref 8] (aLh sn sf lo dd m X0) = some (.inl (some (.int c)), aLh sn sf lo1 dd m X1, kk)) (hM : aRun false 10 m_X8_clay [.ref 10, .int (sf (i + 1))] (aLh sn sf lo1 dd m X1) = some (.inl (some (.int b)), aLh sn sf lo1 dd m1 X1, (0, 0))) (hT : m1 9 2 = c) (hO : c = 0 → lo1 0 = b.toInt64) (K : ∀ l6 l7, aFn FL B (2322, [some (.ref 5), some (.ref 20), some (.ref 10), some (.ref 8), some (.ref 9), some (.int xi), l6, l7, l8], [], aLh sn sf lo1 dd m1 X1, (k1 + kk.1, k2 + kk.2))) : aFn FL B (268, [some (.ref 5), some (.ref 20), some (.ref 10), some (.ref 8), some (.ref 9), some (.int xi), l6, l7, l8], [], aLh sn sf lo dd m X0, (k1, k2)) := by
  have i1 : aIx (xi + 1) sn = some (i + 1) := aIx_of (by rw [hx, Int32.ofNat_add]; rfl) (by omega) (by omega)
  refine aVn_fn (stop := fun p => p == 2322) 120 ?_
  refine Exists.intro (i + 1) (And.intro i1 ?_)
  refine Exists.intro _ (And.intro hL ?_)
  refine Exists.intro (i + 1) (And.intro i1 ?_)
  refine Exists.intro _ (And.intro hM ?_)
  refine Exists.intro _ (And.intro lift_thr ?_)
  refine And.intro (fun _ => ?_) (fun q => absurd hT (cF q))
  refine And.intro (fun _ => ?_) (fun q => ?_)
  · exact K _ _
  have hc : c = 0 := Decidable.not_not.mp (cF q)
  have hz : lg_cmp (lo1 0) b.toInt64 = 0 := by rw [hO hc]; exact lcmp_0 _
  refine And.intro (fun _ => ?_) (fun q => absurd hz (cF q))
  exact K _ _
set_option maxRecDepth 40000 in
theorem s_cast (hx : xi = Int32.ofNat i) (hi : i + 7 ≤ sn) (hsn : sn ≤ 3584) (hL : aRun false 10 m_L_cast [.ref 20, .int (sf (i + 1)), .int (sf (i + 2)), .int (sf (i + 3)), .ref 8] (aLh sn sf lo dd m X0) = some (.inl (some (.int c)), aLh sn sf lo1 dd m X1, kk)) (hM : aRun false 10 m_X8_cast [.ref 10, .int (sf (i + 1)), .int (sf (i + 2)), .int (sf (i + 3))] (aLh sn sf lo1 dd m X1) = some (.inl (some (.int b)), aLh sn sf lo1 dd m1 X1, (0, 0))) (hT : m1 9 2 = c) (hO : c = 0 → lo1 0 = b.toInt64) (K : ∀ l6 l7, aFn FL B (2322, [some (.ref 5), some (.ref 20), some (.ref 10), some (.ref 8), some (.ref 9), some (.int xi), l6, l7, l8], [], aLh sn sf lo1 dd m1 X1, (k1 + kk.1, k2 + kk.2))) : aFn FL B (324, [some (.ref 5), some (.ref 20), some (.ref 10), some (.ref 8), some (.ref 9), some (.int xi), l6, l7, l8], [], aLh sn sf lo dd m X0, (k1, k2)) := by
  have i1 : aIx (xi + 1) sn = some (i + 1) := aIx_of (by rw [hx, Int32.ofNat_add]; rfl) (by omega) (by omega)
  have i2 : aIx (xi + 2) sn = some (i + 2) := aIx_of (by rw [hx, Int32.ofNat_add]; rfl) (by omega) (by omega)
  have i3 : aIx (xi + 3) sn = some (i + 3) := aIx_of (by rw [hx, Int32.ofNat_add]; rfl) (by omega) (by omega)
  refine aVn_fn (stop := fun p => p == 2322) 120 ?_
  refine Exists.intro (i + 1) (And.intro i1 ?_)
  refine Exists.intro (i + 2) (And.intro i2 ?_)
  refine Exists.intro (i + 3) (And.intro i3 ?_)
  refine Exists.intro _ (And.intro hL ?_)
  refine Exists.intro (i + 1) (And.intro i1 ?_)
  refine Exists.intro (i + 2) (And.intro i2 ?_)
  refine Exists.intro (i + 3) (And.intro i3 ?_)
  refine Exists.intro _ (And.intro hM ?_)
  refine Exists.intro _ (And.intro lift_thr ?_)
  refine And.intro (fun _ => ?_) (fun q => absurd hT (cF q))
  refine And.intro (fun _ => ?_) (fun q => ?_)
  · exact K _ _
  have hc : c = 0 := Decidable.not_not.mp (cF q)
  have hz : lg_cmp (lo1 0) b.toInt64 = 0 := by rw [hO hc]; exact lcmp_0 _
  refine And.intro (fun _ => ?_) (fun q => absurd hz (cF q))
  exact K _ _
set_option maxRecDepth 40000 in
theorem s_glaze (hx : xi = Int32.ofNat i) (hi : i + 7 ≤ sn) (hsn : sn ≤ 3584) (hL : aRun false 10 m_L_glaze [.ref 20, .int (sf (i + 1)), .int (sf (i + 2)), .int (sf (i + 3)), .ref 8] (aLh sn sf lo dd m X0) = some (.inl (some (.int c)), aLh sn sf lo1 dd m X1, kk)) (hM : aRun false 10 m_X8_glaze [.ref 10, .int (sf (i + 1)), .int (sf (i + 2)), .int (sf (i + 3))] (aLh sn sf lo1 dd m X1) = some (.inl (some (.int b)), aLh sn sf lo1 dd m1 X1, (0, 0))) (hT : m1 9 2 = c) (hO : c = 0 → lo1 0 = b.toInt64) (K : ∀ l6 l7, aFn FL B (2322, [some (.ref 5), some (.ref 20), some (.ref 10), some (.ref 8), some (.ref 9), some (.int xi), l6, l7, l8], [], aLh sn sf lo1 dd m1 X1, (k1 + kk.1, k2 + kk.2))) : aFn FL B (404, [some (.ref 5), some (.ref 20), some (.ref 10), some (.ref 8), some (.ref 9), some (.int xi), l6, l7, l8], [], aLh sn sf lo dd m X0, (k1, k2)) := by
  have i1 : aIx (xi + 1) sn = some (i + 1) := aIx_of (by rw [hx, Int32.ofNat_add]; rfl) (by omega) (by omega)
  have i2 : aIx (xi + 2) sn = some (i + 2) := aIx_of (by rw [hx, Int32.ofNat_add]; rfl) (by omega) (by omega)
  have i3 : aIx (xi + 3) sn = some (i + 3) := aIx_of (by rw [hx, Int32.ofNat_add]; rfl) (by omega) (by omega)
  refine aVn_fn (stop := fun p => p == 2322) 120 ?_
  refine Exists.intro (i + 1) (And.intro i1 ?_)
  refine Exists.intro (i + 2) (And.intro i2 ?_)
  refine Exists.intro (i + 3) (And.intro i3 ?_)
  refine Exists.intro _ (And.intro hL ?_)
  refine Exists.intro (i + 1) (And.intro i1 ?_)
  refine Exists.intro (i + 2) (And.intro i2 ?_)
  refine Exists.intro (i + 3) (And.intro i3 ?_)
  refine Exists.intro _ (And.intro hM ?_)
  refine Exists.intro _ (And.intro lift_thr ?_)
  refine And.intro (fun _ => ?_) (fun q => absurd hT (cF q))
  refine And.intro (fun _ => ?_) (fun q => ?_)
  · exact K _ _
  have hc : c = 0 := Decidable.not_not.mp (cF q)
  have hz : lg_cmp (lo1 0) b.toInt64 = 0 := by rw [hO hc]; exact lcmp_0 _
  refine And.intro (fun _ => ?_) (fun q => absurd hz (cF q))
  exact K _ _
set_option maxRecDepth 40000 in
theorem s_saggar (hx : xi = Int32.ofNat i) (hi : i + 7 ≤ sn) (hsn : sn ≤ 3584) (hL : aRun false 10 m_L_saggar [.ref 20, .ref 8] (aLh sn sf lo dd m X0) = some (.inl (some (.int c)), aLh sn sf lo1 dd m X1, kk)) (hM : aRun false 10 m_X8_saggar [.ref 10] (aLh sn sf lo1 dd m X1) = some (.inl (some (.int b)), aLh sn sf lo1 dd m1 X1, (0, 0))) (hT : m1 9 2 = c) (hO : c = 0 → lo1 0 = b.toInt64) (K : ∀ l6 l7, aFn FL B (2322, [some (.ref 5), some (.ref 20), some (.ref 10), some (.ref 8), some (.ref 9), some (.int xi), l6, l7, l8], [], aLh sn sf lo1 dd m1 X1, (k1 + kk.1, k2 + kk.2))) : aFn FL B (484, [some (.ref 5), some (.ref 20), some (.ref 10), some (.ref 8), some (.ref 9), some (.int xi), l6, l7, l8], [], aLh sn sf lo dd m X0, (k1, k2)) := by
  refine aVn_fn (stop := fun p => p == 2322) 120 ?_
  refine Exists.intro _ (And.intro hL ?_)
  refine Exists.intro _ (And.intro hM ?_)
  refine Exists.intro _ (And.intro lift_thr ?_)
  refine And.intro (fun _ => ?_) (fun q => absurd hT (cF q))
  refine And.intro (fun _ => ?_) (fun q => ?_)
  · exact K _ _
  have hc : c = 0 := Decidable.not_not.mp (cF q)
  have hz : lg_cmp (lo1 0) b.toInt64 = 0 := by rw [hO hc]; exact lcmp_0 _
  refine And.intro (fun _ => ?_) (fun q => absurd hz (cF q))
  exact K _ _
set_option maxRecDepth 40000 in
theorem s_stack (hx : xi = Int32.ofNat i) (hi : i + 7 ≤ sn) (hsn : sn ≤ 3584) (hL : aRun false 10 m_L_stack [.ref 20, .int (sf (i + 1)), .int (sf (i + 2)), .int (sf (i + 3)), .ref 8] (aLh sn sf lo dd m X0) = some (.inl (some (.int c)), aLh sn sf lo1 dd m X1, kk)) (hM : aRun false 10 m_X8_stack [.ref 10, .int (sf (i + 1)), .int (sf (i + 2)), .int (sf (i + 3))] (aLh sn sf lo1 dd m X1) = some (.inl (some (.int b)), aLh sn sf lo1 dd m1 X1, (0, 0))) (hT : m1 9 2 = c) (hO : c = 0 → lo1 0 = b.toInt64) (K : ∀ l6 l7, aFn FL B (2322, [some (.ref 5), some (.ref 20), some (.ref 10), some (.ref 8), some (.ref 9), some (.int xi), l6, l7, l8], [], aLh sn sf lo1 dd m1 X1, (k1 + kk.1, k2 + kk.2))) : aFn FL B (528, [some (.ref 5), some (.ref 20), some (.ref 10), some (.ref 8), some (.ref 9), some (.int xi), l6, l7, l8], [], aLh sn sf lo dd m X0, (k1, k2)) := by
  have i1 : aIx (xi + 1) sn = some (i + 1) := aIx_of (by rw [hx, Int32.ofNat_add]; rfl) (by omega) (by omega)
  have i2 : aIx (xi + 2) sn = some (i + 2) := aIx_of (by rw [hx, Int32.ofNat_add]; rfl) (by omega) (by omega)
  have i3 : aIx (xi + 3) sn = some (i + 3) := aIx_of (by rw [hx, Int32.ofNat_add]; rfl) (by omega) (by omega)
  refine aVn_fn (stop := fun p => p == 2322) 120 ?_
  refine Exists.intro (i + 1) (And.intro i1 ?_)
  refine Exists.intro (i + 2) (And.intro i2 ?_)
  refine Exists.intro (i + 3) (And.intro i3 ?_)
  refine Exists.intro _ (And.intro hL ?_)
  refine Exists.intro (i + 1) (And.intro i1 ?_)
  refine Exists.intro (i + 2) (And.intro i2 ?_)
  refine Exists.intro (i + 3) (And.intro i3 ?_)
  refine Exists.intro _ (And.intro hM ?_)
  refine Exists.intro _ (And.intro lift_thr ?_)
  refine And.intro (fun _ => ?_) (fun q => absurd hT (cF q))
  refine And.intro (fun _ => ?_) (fun q => ?_)
  · exact K _ _
  have hc : c = 0 := Decidable.not_not.mp (cF q)
  have hz : lg_cmp (lo1 0) b.toInt64 = 0 := by rw [hO hc]; exact lcmp_0 _
  refine And.intro (fun _ => ?_) (fun q => absurd hz (cF q))
  exact K _ _
set_option maxRecDepth 40000 in
theorem s_unstack (hx : xi = Int32.ofNat i) (hi : i + 7 ≤ sn) (hsn : sn ≤ 3584) (hL : aRun false 10 m_L_unstack [.ref 20, .int (sf (i + 1)), .ref 8] (aLh sn sf lo dd m X0) = some (.inl (some (.int c)), aLh sn sf lo1 dd m X1, kk)) (hM : aRun false 10 m_X8_unstack [.ref 10, .int (sf (i + 1))] (aLh sn sf lo1 dd m X1) = some (.inl (some (.int b)), aLh sn sf lo1 dd m1 X1, (0, 0))) (hT : m1 9 2 = c) (hO : c = 0 → lo1 0 = b.toInt64) (K : ∀ l6 l7, aFn FL B (2322, [some (.ref 5), some (.ref 20), some (.ref 10), some (.ref 8), some (.ref 9), some (.int xi), l6, l7, l8], [], aLh sn sf lo1 dd m1 X1, (k1 + kk.1, k2 + kk.2))) : aFn FL B (608, [some (.ref 5), some (.ref 20), some (.ref 10), some (.ref 8), some (.ref 9), some (.int xi), l6, l7, l8], [], aLh sn sf lo dd m X0, (k1, k2)) := by
  have i1 : aIx (xi + 1) sn = some (i + 1) := aIx_of (by rw [hx, Int32.ofNat_add]; rfl) (by omega) (by omega)
  refine aVn_fn (stop := fun p => p == 2322) 120 ?_
  refine Exists.intro (i + 1) (And.intro i1 ?_)
  refine Exists.intro _ (And.intro hL ?_)
  refine Exists.intro (i + 1) (And.intro i1 ?_)
  refine Exists.intro _ (And.intro hM ?_)
  refine Exists.intro _ (And.intro lift_thr ?_)
  refine And.intro (fun _ => ?_) (fun q => absurd hT (cF q))
  refine And.intro (fun _ => ?_) (fun q => ?_)
  · exact K _ _
  have hc : c = 0 := Decidable.not_not.mp (cF q)
  have hz : lg_cmp (lo1 0) b.toInt64 = 0 := by rw [hO hc]; exact lcmp_0 _
  refine And.intro (fun _ => ?_) (fun q => absurd hz (cF q))
  exact K _ _
set_option maxRecDepth 40000 in
theorem s_put (hx : xi = Int32.ofNat i) (hi : i + 7 ≤ sn) (hsn : sn ≤ 3584) (hL : aRun false 10 m_L_put [.ref 20, .int (sf (i + 1)), .int (sf (i + 2)), .ref 8] (aLh sn sf lo dd m X0) = some (.inl (some (.int c)), aLh sn sf lo1 dd m X1, kk)) (hM : aRun false 10 m_X8_put [.ref 10, .int (sf (i + 1)), .int (sf (i + 2))] (aLh sn sf lo1 dd m X1) = some (.inl (some (.int b)), aLh sn sf lo1 dd m1 X1, (0, 0))) (hT : m1 9 2 = c) (hO : c = 0 → lo1 0 = b.toInt64) (K : ∀ l6 l7, aFn FL B (2322, [some (.ref 5), some (.ref 20), some (.ref 10), some (.ref 8), some (.ref 9), some (.int xi), l6, l7, l8], [], aLh sn sf lo1 dd m1 X1, (k1 + kk.1, k2 + kk.2))) : aFn FL B (664, [some (.ref 5), some (.ref 20), some (.ref 10), some (.ref 8), some (.ref 9), some (.int xi), l6, l7, l8], [], aLh sn sf lo dd m X0, (k1, k2)) := by
  have i1 : aIx (xi + 1) sn = some (i + 1) := aIx_of (by rw [hx, Int32.ofNat_add]; rfl) (by omega) (by omega)
  have i2 : aIx (xi + 2) sn = some (i + 2) := aIx_of (by rw [hx, Int32.ofNat_add]; rfl) (by omega) (by omega)
  refine aVn_fn (stop := fun p => p == 2322) 120 ?_
  refine Exists.intro (i + 1) (And.intro i1 ?_)
  refine Exists.intro (i + 2) (And.intro i2 ?_)
  refine Exists.intro _ (And.intro hL ?_)
  refine Exists.intro (i + 1) (And.intro i1 ?_)
  refine Exists.intro (i + 2) (And.intro i2 ?_)
  refine Exists.intro _ (And.intro hM ?_)
  refine Exists.intro _ (And.intro lift_thr ?_)
  refine And.intro (fun _ => ?_) (fun q => absurd hT (cF q))
  refine And.intro (fun _ => ?_) (fun q => ?_)
  · exact K _ _
  have hc : c = 0 := Decidable.not_not.mp (cF q)
  have hz : lg_cmp (lo1 0) b.toInt64 = 0 := by rw [hO hc]; exact lcmp_0 _
  refine And.intro (fun _ => ?_) (fun q => absurd hz (cF q))
  exact K _ _
set_option maxRecDepth 40000 in
theorem s_fire (hx : xi = Int32.ofNat i) (hi : i + 7 ≤ sn) (hsn : sn ≤ 3584) (hL : aRun false 10 m_L_fire [.ref 20, .int (sf (i + 1)), .ref 8] (aLh sn sf lo dd m X0) = some (.inl (some (.int c)), aLh sn sf lo1 dd m X1, kk)) (hM : aRun false 10 m_X8_fire [.ref 10, .int (sf (i + 1))] (aLh sn sf lo1 dd m X1) = some (.inl (some (.int b)), aLh sn sf lo1 dd m1 X1, (0, 0))) (hT : m1 9 2 = c) (hO : c = 0 → lo1 0 = b.toInt64) (K : ∀ l6 l7, aFn FL B (2322, [some (.ref 5), some (.ref 20), some (.ref 10), some (.ref 8), some (.ref 9), some (.int xi), l6, l7, l8], [], aLh sn sf lo1 dd m1 X1, (k1 + kk.1, k2 + kk.2))) : aFn FL B (732, [some (.ref 5), some (.ref 20), some (.ref 10), some (.ref 8), some (.ref 9), some (.int xi), l6, l7, l8], [], aLh sn sf lo dd m X0, (k1, k2)) := by
  have i1 : aIx (xi + 1) sn = some (i + 1) := aIx_of (by rw [hx, Int32.ofNat_add]; rfl) (by omega) (by omega)
  refine aVn_fn (stop := fun p => p == 2322) 120 ?_
  refine Exists.intro (i + 1) (And.intro i1 ?_)
  refine Exists.intro _ (And.intro hL ?_)
  refine Exists.intro (i + 1) (And.intro i1 ?_)
  refine Exists.intro _ (And.intro hM ?_)
  refine Exists.intro _ (And.intro lift_thr ?_)
  refine And.intro (fun _ => ?_) (fun q => absurd hT (cF q))
  refine And.intro (fun _ => ?_) (fun q => ?_)
  · exact K _ _
  have hc : c = 0 := Decidable.not_not.mp (cF q)
  have hz : lg_cmp (lo1 0) b.toInt64 = 0 := by rw [hO hc]; exact lcmp_0 _
  refine And.intro (fun _ => ?_) (fun q => absurd hz (cF q))
  exact K _ _
end LS
