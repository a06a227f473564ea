/-! THE LAW'S BODY: each call's part -/
section LS
variable {sn i k1 k2 : Nat} {sf : Nat → Int32} {lo lo1 : Nat → Int64} {dd dd1 : Nat → UInt64} {m m1 : aW} {X0 X1 : aH} {xi c b : Int32} {kk : aK} {B : aK} {l6 l7 l8 : Option Value}
set_option maxRecDepth 40000 in
theorem s_empty (hx : xi = Int32.ofNat i) (hi : i + 7 ≤ sn) (hsn : sn ≤ 3584) (hL : aRun false 10 m_L_empty [.ref 20, .int (sf (i + 1)), .ref 8] (aLh sn sf lo dd m X0) = some (.inl (some (.int c)), aLh sn sf lo1 dd m X1, kk)) (hM : aRun false 10 m_X8_empty [.ref 10, .int (sf (i + 1))] (aLh sn sf lo1 dd m X1) = some (.inl (some (.int b)), aLh sn sf lo1 dd m1 X1, (0, 0))) (hT : m1 9 2 = c) (hO : c = 0 → lo1 0 = b.toInt64) (K : ∀ l6 l7, aFn FL B (2322, [some (.ref 5), some (.ref 20), some (.ref 10), some (.ref 8), some (.ref 9), some (.int xi), l6, l7, l8], [], aLh sn sf lo1 dd m1 X1, (k1 + kk.1, k2 + kk.2))) : aFn FL B (788, [some (.ref 5), some (.ref 20), some (.ref 10), some (.ref 8), some (.ref 9), some (.int xi), l6, l7, l8], [], aLh sn sf lo dd m X0, (k1, k2)) := by
  have i1 : aIx (xi + 1) sn = some (i + 1) := aIx_of (by rw [hx, Int32.ofNat_add]; rfl) (by omega) (by omega)
  refine aVn_fn (stop := fun p => p == 2322) 120 ?_
  refine Exists.intro (i + 1) (And.intro i1 ?_)
  refine Exists.intro _ (And.intro hL ?_)
  refine Exists.intro (i + 1) (And.intro i1 ?_)
  refine Exists.intro _ (And.intro hM ?_)
  refine Exists.intro _ (And.intro lift_thr ?_)
  refine And.intro (fun _ => ?_) (fun q => absurd hT (cF q))
  refine And.intro (fun _ => ?_) (fun q => ?_)
  · exact K _ _
  have hc : c = 0 := Decidable.not_not.mp (cF q)
  have hz : lg_cmp (lo1 0) b.toInt64 = 0 := by rw [hO hc]; exact lcmp_0 _
  refine And.intro (fun _ => ?_) (fun q => absurd hz (cF q))
  exact K _ _
set_option maxRecDepth 40000 in
theorem s_order_0 (hx : xi = Int32.ofNat i) (hi : i + 7 ≤ sn) (hsn : sn ≤ 3584) (hb :  sf (i + 6) = 0) (hL : aRun false 10 m_L_order [.ref 20, .int (sf (i + 1)), .int (sf (i + 2)), .int (sf (i + 3)), .int (sf (i + 4)), .int (sf (i + 5)), .int 0, .ref 8] (aLh sn sf lo dd m X0) = some (.inl (some (.int c)), aLh sn sf lo1 dd m X1, kk)) (hM : aRun false 10 m_X8_order [.ref 10, .int (sf (i + 1)), .int (sf (i + 2)), .int (sf (i + 3)), .int (sf (i + 4)), .int (sf (i + 5)), .int 0] (aLh sn sf lo1 dd m X1) = some (.inl (some (.int b)), aLh sn sf lo1 dd m1 X1, (0, 0))) (hT : m1 9 2 = c) (hO : c = 0 → lo1 0 = b.toInt64) (K : ∀ l6 l7, aFn FL B (2322, [some (.ref 5), some (.ref 20), some (.ref 10), some (.ref 8), some (.ref 9), some (.int xi), l6, l7, l8], [], aLh sn sf lo1 dd m1 X1, (k1 + kk.1, k2 + kk.2))) : aFn FL B (844, [some (.ref 5), some (.ref 20), some (.ref 10), some (.ref 8), some (.ref 9), some (.int xi), l6, l7, l8], [], aLh sn sf lo dd m X0, (k1, k2)) := by
  have i1 : aIx (xi + 1) sn = some (i + 1) := aIx_of (by rw [hx, Int32.ofNat_add]; rfl) (by omega) (by omega)
  have i2 : aIx (xi + 2) sn = some (i + 2) := aIx_of (by rw [hx, Int32.ofNat_add]; rfl) (by omega) (by omega)
  have i3 : aIx (xi + 3) sn = some (i + 3) := aIx_of (by rw [hx, Int32.ofNat_add]; rfl) (by omega) (by omega)
  have i4 : aIx (xi + 4) sn = some (i + 4) := aIx_of (by rw [hx, Int32.ofNat_add]; rfl) (by omega) (by omega)
  have i5 : aIx (xi + 5) sn = some (i + 5) := aIx_of (by rw [hx, Int32.ofNat_add]; rfl) (by omega) (by omega)
  have i6 : aIx (xi + 6) sn = some (i + 6) := aIx_of (by rw [hx, Int32.ofNat_add]; rfl) (by omega) (by omega)
  refine aVn_fn (stop := fun p => p == 2322) 120 ?_
  refine Exists.intro (i + 1) (And.intro i1 ?_)
  refine Exists.intro (i + 2) (And.intro i2 ?_)
  refine Exists.intro (i + 3) (And.intro i3 ?_)
  refine Exists.intro (i + 4) (And.intro i4 ?_)
  refine Exists.intro (i + 5) (And.intro i5 ?_)
  refine Exists.intro (i + 6) (And.intro i6 ?_)
  refine And.intro (fun _ => ?_) (fun q => absurd hb (cF q))
  refine Exists.intro _ (And.intro hL ?_)
  refine Exists.intro (i + 1) (And.intro i1 ?_)
  refine Exists.intro (i + 2) (And.intro i2 ?_)
  refine Exists.intro (i + 3) (And.intro i3 ?_)
  refine Exists.intro (i + 4) (And.intro i4 ?_)
  refine Exists.intro (i + 5) (And.intro i5 ?_)
  refine Exists.intro (i + 6) (And.intro i6 ?_)
  refine And.intro (fun _ => ?_) (fun q => absurd hb (cF q))
  refine Exists.intro _ (And.intro hM ?_)
  refine Exists.intro _ (And.intro lift_thr ?_)
  refine And.intro (fun _ => ?_) (fun q => absurd hT (cF q))
  refine And.intro (fun _ => ?_) (fun q => ?_)
  · exact K _ _
  have hc : c = 0 := Decidable.not_not.mp (cF q)
  have hz : lg_cmp (lo1 0) b.toInt64 = 0 := by rw [hO hc]; exact lcmp_0 _
  refine And.intro (fun _ => ?_) (fun q => absurd hz (cF q))
  exact K _ _
set_option maxRecDepth 40000 in
theorem s_order_1 (hx : xi = Int32.ofNat i) (hi : i + 7 ≤ sn) (hsn : sn ≤ 3584) (hb : ¬ sf (i + 6) = 0) (hL : aRun false 10 m_L_order [.ref 20, .int (sf (i + 1)), .int (sf (i + 2)), .int (sf (i + 3)), .int (sf (i + 4)), .int (sf (i + 5)), .int 1, .ref 8] (aLh sn sf lo dd m X0) = some (.inl (some (.int c)), aLh sn sf lo1 dd m X1, kk)) (hM : aRun false 10 m_X8_order [.ref 10, .int (sf (i + 1)), .int (sf (i + 2)), .int (sf (i + 3)), .int (sf (i + 4)), .int (sf (i + 5)), .int 1] (aLh sn sf lo1 dd m X1) = some (.inl (some (.int b)), aLh sn sf lo1 dd m1 X1, (0, 0))) (hT : m1 9 2 = c) (hO : c = 0 → lo1 0 = b.toInt64) (K : ∀ l6 l7, aFn FL B (2322, [some (.ref 5), some (.ref 20), some (.ref 10), some (.ref 8), some (.ref 9), some (.int xi), l6, l7, l8], [], aLh sn sf lo1 dd m1 X1, (k1 + kk.1, k2 + kk.2))) : aFn FL B (844, [some (.ref 5), some (.ref 20), some (.ref 10), some (.ref 8), some (.ref 9), some (.int xi), l6, l7, l8], [], aLh sn sf lo dd m X0, (k1, k2)) := by
  have i1 : aIx (xi + 1) sn = some (i + 1) := aIx_of (by rw [hx, Int32.ofNat_add]; rfl) (by omega) (by omega)
  have i2 : aIx (xi + 2) sn = some (i + 2) := aIx_of (by rw [hx, Int32.ofNat_add]; rfl) (by omega) (by omega)
  have i3 : aIx (xi + 3) sn = some (i + 3) := aIx_of (by rw [hx, Int32.ofNat_add]; rfl) (by omega) (by omega)
  have i4 : aIx (xi + 4) sn = some (i + 4) := aIx_of (by rw [hx, Int32.ofNat_add]; rfl) (by omega) (by omega)
  have i5 : aIx (xi + 5) sn = some (i + 5) := aIx_of (by rw [hx, Int32.ofNat_add]; rfl) (by omega) (by omega)
  have i6 : aIx (xi + 6) sn = some (i + 6) := aIx_of (by rw [hx, Int32.ofNat_add]; rfl) (by omega) (by omega)
  refine aVn_fn (stop := fun p => p == 2322) 120 ?_
  refine Exists.intro (i + 1) (And.intro i1 ?_)
  refine Exists.intro (i + 2) (And.intro i2 ?_)
  refine Exists.intro (i + 3) (And.intro i3 ?_)
  refine Exists.intro (i + 4) (And.intro i4 ?_)
  refine Exists.intro (i + 5) (And.intro i5 ?_)
  refine Exists.intro (i + 6) (And.intro i6 ?_)
  refine And.intro (fun q => absurd (cT q) hb) (fun _ => ?_)
  refine Exists.intro _ (And.intro hL ?_)
  refine Exists.intro (i + 1) (And.intro i1 ?_)
  refine Exists.intro (i + 2) (And.intro i2 ?_)
  refine Exists.intro (i + 3) (And.intro i3 ?_)
  refine Exists.intro (i + 4) (And.intro i4 ?_)
  refine Exists.intro (i + 5) (And.intro i5 ?_)
  refine Exists.intro (i + 6) (And.intro i6 ?_)
  refine And.intro (fun q => absurd (cT q) hb) (fun _ => ?_)
  refine Exists.intro _ (And.intro hM ?_)
  refine Exists.intro _ (And.intro lift_thr ?_)
  refine And.intro (fun _ => ?_) (fun q => absurd hT (cF q))
  refine And.intro (fun _ => ?_) (fun q => ?_)
  · exact K _ _
  have hc : c = 0 := Decidable.not_not.mp (cF q)
  have hz : lg_cmp (lo1 0) b.toInt64 = 0 := by rw [hO hc]; exact lcmp_0 _
  refine And.intro (fun _ => ?_) (fun q => absurd hz (cF q))
  exact K _ _
set_option maxRecDepth 40000 in
theorem s_sell (hx : xi = Int32.ofNat i) (hi : i + 7 ≤ sn) (hsn : sn ≤ 3584) (hL : aRun false 10 m_L_sell [.ref 20, .int (sf (i + 1)), .ref 8] (aLh sn sf lo dd m X0) = some (.inl (some (.int c)), aLh sn sf lo1 dd m X1, kk)) (hM : aRun false 10 m_X8_sell [.ref 10, .int (sf (i + 1))] (aLh sn sf lo1 dd m X1) = some (.inl (some (.int b)), aLh sn sf lo1 dd m1 X1, (0, 0))) (hT : m1 9 2 = c) (hO : c = 0 → lo1 0 = b.toInt64) (K : ∀ l6 l7, aFn FL B (2322, [some (.ref 5), some (.ref 20), some (.ref 10), some (.ref 8), some (.ref 9), some (.int xi), l6, l7, l8], [], aLh sn sf lo1 dd m1 X1, (k1 + kk.1, k2 + kk.2))) : aFn FL B (978, [some (.ref 5), some (.ref 20), some (.ref 10), some (.ref 8), some (.ref 9), some (.int xi), l6, l7, l8], [], aLh sn sf lo dd m X0, (k1, k2)) := by
  have i1 : aIx (xi + 1) sn = some (i + 1) := aIx_of (by rw [hx, Int32.ofNat_add]; rfl) (by omega) (by omega)
  refine aVn_fn (stop := fun p => p == 2322) 120 ?_
  refine Exists.intro (i + 1) (And.intro i1 ?_)
  refine Exists.intro _ (And.intro hL ?_)
  refine Exists.intro (i + 1) (And.intro i1 ?_)
  refine Exists.intro _ (And.intro hM ?_)
  refine Exists.intro _ (And.intro lift_thr ?_)
  refine And.intro (fun _ => ?_) (fun q => absurd hT (cF q))
  refine And.intro (fun _ => ?_) (fun q => ?_)
  · exact K _ _
  have hc : c = 0 := Decidable.not_not.mp (cF q)
  have hz : lg_cmp (lo1 0) b.toInt64 = 0 := by rw [hO hc]; exact lcmp_0 _
  refine And.intro (fun _ => ?_) (fun q => absurd hz (cF q))
  exact K _ _
set_option maxRecDepth 40000 in
theorem s_ware (hx : xi = Int32.ofNat i) (hi : i + 7 ≤ sn) (hsn : sn ≤ 3584) (hL : aRun false 10 m_L_ware [.ref 20, .int (sf (i + 1)), .int (sf (i + 2)), .ref 8] (aLh sn sf lo dd m X0) = some (.inl (some (.int c)), aLh sn sf lo1 dd m X1, kk)) (hM : aRun false 10 m_X8_ware [.ref 10, .int (sf (i + 1)), .int (sf (i + 2))] (aLh sn sf lo1 dd m X1) = some (.inl (some (.int b)), aLh sn sf lo1 dd m1 X1, (0, 0))) (hT : m1 9 2 = c) (hO : c = 0 → lo1 0 = b.toInt64) (K : ∀ l6 l7, aFn FL B (2322, [some (.ref 5), some (.ref 20), some (.ref 10), some (.ref 8), some (.ref 9), some (.int xi), l6, l7, l8], [], aLh sn sf lo1 dd m1 X1, (k1 + kk.1, k2 + kk.2))) : aFn FL B (1034, [some (.ref 5), some (.ref 20), some (.ref 10), some (.ref 8), some (.ref 9), some (.int xi), l6, l7, l8], [], aLh sn sf lo dd m X0, (k1, k2)) := by
  have i1 : aIx (xi + 1) sn = some (i + 1) := aIx_of (by rw [hx, Int32.ofNat_add]; rfl) (by omega) (by omega)
  have i2 : aIx (xi + 2) sn = some (i + 2) := aIx_of (by rw [hx, Int32.ofNat_add]; rfl) (by omega) (by omega)
  refine aVn_fn (stop := fun p => p == 2322) 120 ?_
  refine Exists.intro (i + 1) (And.intro i1 ?_)
  refine Exists.intro (i + 2) (And.intro i2 ?_)
  refine Exists.intro _ (And.intro hL ?_)
  refine Exists.intro (i + 1) (And.intro i1 ?_)
  refine Exists.intro (i + 2) (And.intro i2 ?_)
  refine Exists.intro _ (And.intro hM ?_)
  refine Exists.intro _ (And.intro lift_thr ?_)
  refine And.intro (fun _ => ?_) (fun q => absurd hT (cF q))
  refine And.intro (fun _ => ?_) (fun q => ?_)
  · exact K _ _
  have hc : c = 0 := Decidable.not_not.mp (cF q)
  have hz : lg_cmp (lo1 0) b.toInt64 = 0 := by rw [hO hc]; exact lcmp_0 _
  refine And.intro (fun _ => ?_) (fun q => absurd hz (cF q))
  exact K _ _
set_option maxRecDepth 40000 in
theorem s_saggarOf (hx : xi = Int32.ofNat i) (hi : i + 7 ≤ sn) (hsn : sn ≤ 3584) (hL : aRun false 10 m_L_saggarOf [.ref 20, .int (sf (i + 1)), .int (sf (i + 2)), .ref 8] (aLh sn sf lo dd m X0) = some (.inl (some (.int c)), aLh sn sf lo1 dd m X1, kk)) (hM : aRun false 10 m_X8_saggarOf [.ref 10, .int (sf (i + 1)), .int (sf (i + 2))] (aLh sn sf lo1 dd m X1) = some (.inl (some (.int b)), aLh sn sf lo1 dd m1 X1, (0, 0))) (hT : m1 9 2 = c) (hO : c = 0 → lo1 0 = b.toInt64) (K : ∀ l6 l7, aFn FL B (2322, [some (.ref 5), some (.ref 20), some (.ref 10), some (.ref 8), some (.ref 9), some (.int xi), l6, l7, l8], [], aLh sn sf lo1 dd m1 X1, (k1 + kk.1, k2 + kk.2))) : aFn FL B (1102, [some (.ref 5), some (.ref 20), some (.ref 10), some (.ref 8), some (.ref 9), some (.int xi), l6, l7, l8], [], aLh sn sf lo dd m X0, (k1, k2)) := by
  have i1 : aIx (xi + 1) sn = some (i + 1) := aIx_of (by rw [hx, Int32.ofNat_add]; rfl) (by omega) (by omega)
  have i2 : aIx (xi + 2) sn = some (i + 2) := aIx_of (by rw [hx, Int32.ofNat_add]; rfl) (by omega) (by omega)
  refine aVn_fn (stop := fun p => p == 2322) 120 ?_
  refine Exists.intro (i + 1) (And.intro i1 ?_)
  refine Exists.intro (i + 2) (And.intro i2 ?_)
  refine Exists.intro _ (And.intro hL ?_)
  refine Exists.intro (i + 1) (And.intro i1 ?_)
  refine Exists.intro (i + 2) (And.intro i2 ?_)
  refine Exists.intro _ (And.intro hM ?_)
  refine Exists.intro _ (And.intro lift_thr ?_)
  refine And.intro (fun _ => ?_) (fun q => absurd hT (cF q))
  refine And.intro (fun _ => ?_) (fun q => ?_)
  · exact K _ _
  have hc : c = 0 := Decidable.not_not.mp (cF q)
  have hz : lg_cmp (lo1 0) b.toInt64 = 0 := by rw [hO hc]; exact lcmp_0 _
  refine And.intro (fun _ => ?_) (fun q => absurd hz (cF q))
  exact K _ _
set_option maxRecDepth 40000 in
theorem s_load (hx : xi = Int32.ofNat i) (hi : i + 7 ≤ sn) (hsn : sn ≤ 3584) (hL : aRun false 10 m_L_load [.ref 20, .int (sf (i + 1)), .ref 8] (aLh sn sf lo dd m X0) = some (.inl (some (.int c)), aLh sn sf lo1 dd m X1, kk)) (hM : aRun false 10 m_X8_load [.ref 10, .int (sf (i + 1))] (aLh sn sf lo1 dd m X1) = some (.inl (some (.int b)), aLh sn sf lo1 dd m1 X1, (0, 0))) (hT : m1 9 2 = c) (hO : c = 0 → lo1 0 = b.toInt64) (K : ∀ l6 l7, aFn FL B (2322, [some (.ref 5), some (.ref 20), some (.ref 10), some (.ref 8), some (.ref 9), some (.int xi), l6, l7, l8], [], aLh sn sf lo1 dd m1 X1, (k1 + kk.1, k2 + kk.2))) : aFn FL B (1170, [some (.ref 5), some (.ref 20), some (.ref 10), some (.ref 8), some (.ref 9), some (.int xi), l6, l7, l8], [], aLh sn sf lo dd m X0, (k1, k2)) := by
  have i1 : aIx (xi + 1) sn = some (i + 1) := aIx_of (by rw [hx, Int32.ofNat_add]; rfl) (by omega) (by omega)
  refine aVn_fn (stop := fun p => p == 2322) 120 ?_
  refine Exists.intro (i + 1) (And.intro i1 ?_)
  refine Exists.intro _ (And.intro hL ?_)
  refine Exists.intro (i + 1) (And.intro i1 ?_)
  refine Exists.intro _ (And.intro hM ?_)
  refine Exists.intro _ (And.intro lift_thr ?_)
  refine And.intro (fun _ => ?_) (fun q => absurd hT (cF q))
  refine And.intro (fun _ => ?_) (fun q => ?_)
  · exact K _ _
  have hc : c = 0 := Decidable.not_not.mp (cF q)
  have hz : lg_cmp (lo1 0) b.toInt64 = 0 := by rw [hO hc]; exact lcmp_0 _
  refine And.intro (fun _ => ?_) (fun q => absurd hz (cF q))
  exact K _ _
set_option maxRecDepth 40000 in
theorem s_loadAgain (hx : xi = Int32.ofNat i) (hi : i + 7 ≤ sn) (hsn : sn ≤ 3584) (hL : aRun false 10 m_L_loadAgain [.ref 20, .int (sf (i + 1)), .ref 8] (aLh sn sf lo dd m X0) = some (.inl (some (.int c)), aLh sn sf lo1 dd m X1, kk)) (hM : aRun false 10 m_X8_loadAgain [.ref 10, .int (sf (i + 1))] (aLh sn sf lo1 dd m X1) = some (.inl (some (.int b)), aLh sn sf lo1 dd m1 X1, (0, 0))) (hT : m1 9 2 = c) (hO : c = 0 → lo1 0 = b.toInt64) (K : ∀ l6 l7, aFn FL B (2322, [some (.ref 5), some (.ref 20), some (.ref 10), some (.ref 8), some (.ref 9), some (.int xi), l6, l7, l8], [], aLh sn sf lo1 dd m1 X1, (k1 + kk.1, k2 + kk.2))) : aFn FL B (1226, [some (.ref 5), some (.ref 20), some (.ref 10), some (.ref 8), some (.ref 9), some (.int xi), l6, l7, l8], [], aLh sn sf lo dd m X0, (k1, k2)) := by
  have i1 : aIx (xi + 1) sn = some (i + 1) := aIx_of (by rw [hx, Int32.ofNat_add]; rfl) (by omega) (by omega)
  refine aVn_fn (stop := fun p => p == 2322) 120 ?_
  refine Exists.intro (i + 1) (And.intro i1 ?_)
  refine Exists.intro _ (And.intro hL ?_)
  refine Exists.intro (i + 1) (And.intro i1 ?_)
  refine Exists.intro _ (And.intro hM ?_)
  refine Exists.intro _ (And.intro lift_thr ?_)
  refine And.intro (fun _ => ?_) (fun q => absurd hT (cF q))
  refine And.intro (fun _ => ?_) (fun q => ?_)
  · exact K _ _
  have hc : c = 0 := Decidable.not_not.mp (cF q)
  have hz : lg_cmp (lo1 0) b.toInt64 = 0 := by rw [hO hc]; exact lcmp_0 _
  refine And.intro (fun _ => ?_) (fun q => absurd hz (cF q))
  exact K _ _
end LS
