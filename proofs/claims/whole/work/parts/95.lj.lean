/-! FACTS: shares and means are numbers -/
theorem rr_nn {f : FP.Core.Fmt} {s : Bool} {a b : Nat} {e : Int} : FP.Core.roundRatio f s a b e ≠ .nan := by
  unfold FP.Core.roundRatio FP.Core.roundAt FP.Core.settle FP.Core.bound
  repeat' split
  all_goals exact fun q => by cases q
theorem rd_nn {f : FP.Core.Fmt} {d : FP.Core.Datum} (h : d ≠ .nan) : FP.Core.round f d ≠ .nan := by
  cases d with
  | nan => exact absurd rfl h
  | inf s => exact fun q => by cases q
  | fin s c q => exact rr_nn
theorem qt_nn {f : FP.Core.Fmt} {d1 : FP.Core.Datum} {t : Bool} {d : Nat} {r : Int} (h : d1 ≠ .nan) (hd : d ≠ 0) : FP.Core.quotient f d1 (.fin t d r) ≠ .nan := by
  cases d1 with
  | nan => exact absurd rfl h
  | inf s => exact fun q => by cases q
  | fin s c q =>
    show (if d = 0 then _ else FP.Core.roundRatio f (s != t) c d (q - r)) ≠ _
    rw [if_neg hd]
    exact rr_nn
theorem bits64 {a : UInt64} (h : FP.Core.val64 a ≠ .nan) : a &&& 0x7fffffffffffffff ≤ 0x7ff0000000000000 := by
  refine Decidable.byContradiction fun c => h ?_
  have hn : a.toNat < 2 ^ 64 := a.toNat_lt
  have e1 : (a &&& 0x7fffffffffffffff).toNat = a.toNat % 2 ^ 63 := by
    rw [UInt64.toNat_and]
    exact Nat.and_two_pow_sub_one_eq_mod a.toNat 63
  have c1 : ¬ a.toNat % 2 ^ 63 ≤ 0x7ff0000000000000 := fun q => c (UInt64.le_iff_toNat_le.mpr (by rw [e1]; exact q))
  unfold FP.Core.val64 FP.Core.decode
  have eE : FP.Core.fieldE FP.Core.b64 a.toNat = FP.Core.b64.exps - 1 := by
    show a.toNat / 2 ^ 52 % 2 ^ 11 = 2047
    omega
  have eT : ¬ FP.Core.fieldT FP.Core.b64 a.toNat = 0 := by
    show ¬ a.toNat % 2 ^ 52 = 0
    omega
  rw [if_pos eE, if_neg eT]
theorem bits32 {a : UInt32} (h : FP.Core.val32 a ≠ .nan) : a &&& 0x7fffffff ≤ 0x7f800000 := by
  refine Decidable.byContradiction fun c => h ?_
  have hn : a.toNat < 2 ^ 32 := a.toNat_lt
  have e1 : (a &&& 0x7fffffff).toNat = a.toNat % 2 ^ 31 := by
    rw [UInt32.toNat_and]
    exact Nat.and_two_pow_sub_one_eq_mod a.toNat 31
  have c1 : ¬ a.toNat % 2 ^ 31 ≤ 0x7f800000 := fun q => c (UInt32.le_iff_toNat_le.mpr (by rw [e1]; exact q))
  unfold FP.Core.val32 FP.Core.decode
  have eE : FP.Core.fieldE FP.Core.b32 a.toNat = FP.Core.b32.exps - 1 := by
    show a.toNat / 2 ^ 23 % 2 ^ 8 = 255
    omega
  have eT : ¬ FP.Core.fieldT FP.Core.b32 a.toNat = 0 := by
    show ¬ a.toNat % 2 ^ 23 = 0
    omega
  rw [if_pos eE, if_neg eT]
theorem od_eq {d : FP.Core.Datum} (h : d ≠ .nan) : FP.Core.order d d = some .eq := by
  cases d with
  | nan => exact absurd rfl h
  | inf s => exact congrArg some (Std.ReflOrd.compare_self)
  | fin s c q => exact congrArg some (Std.ReflOrd.compare_self)
theorem dcmp_eq {a : UInt64} (h : FP.Core.val64 a ≠ .nan) : Op.cmpValue (FP.dcmp a a) .l = 0 := by
  have e : FP.dcmp a a = some .eq := od_eq h
  rw [e]
  rfl
def finP (d : FP.Core.Datum) : Bool := match d with
  | .fin _ c _ => c != 0
  | _ => false
theorem i64_dec : ∀ b : Fin 61, b.val = 0 ∨ finP (FP.Core.round FP.Core.b64 (FP.Core.ofInt (b.val : Int))) = true := by decide +kernel
theorem i32_dec : ∀ b : Fin 9, b.val = 0 ∨ finP (FP.Core.round FP.Core.b32 (FP.Core.ofInt (b.val : Int))) = true := by decide +kernel
theorem finP_ex {d : FP.Core.Datum} (h : finP d = true) : ∃ t c r, d = .fin t c r ∧ c ≠ 0 := by
  cases d with
  | nan => cases h
  | inf s => cases h
  | fin s c q => exact ⟨s, c, q, rfl, by simpa [finP] using h⟩
theorem ofI_nn {i : Int} : FP.Core.ofInt i ≠ .nan := fun q => by cases q
theorem ddiv_nn {x y : Int32} {b : Nat} (hy : y = Int32.ofNat b) (hb : b ≤ 60) (h0 : b ≠ 0) : FP.Core.val64 (FP.ddiv (FP.i2d x) (FP.i2d y)) ≠ .nan := by
  have e : y.toInt = (b : Int) := by rw [hy, Int32.toInt_ofNat_of_lt (by omega)]
  have e1 : FP.Core.val64 (FP.ddiv (FP.i2d x) (FP.i2d y)) = FP.Core.quotient FP.Core.b64 (FP.Core.round FP.Core.b64 (FP.Core.ofInt x.toInt)) (FP.Core.round FP.Core.b64 (FP.Core.ofInt (b : Int))) := by
    show FP.Core.val64 (FP.Core.ddiv (FP.Core.i2d x) (FP.Core.i2d y)) = _
    rw [FP.Core.val64_ddiv, FP.Core.val64_i2d, FP.Core.val64_i2d, e]
  obtain ⟨t, c, r, q, hc⟩ := finP_ex ((i64_dec ⟨b, by omega⟩).resolve_left h0)
  rw [e1, show FP.Core.round FP.Core.b64 (FP.Core.ofInt (b : Int)) = .fin t c r from q]
  exact qt_nn (rd_nn ofI_nn) hc
theorem fdiv_nn {x y : Int32} {b : Nat} (hy : y = Int32.ofNat b) (hb : b ≤ 8) (h0 : b ≠ 0) : FP.Core.val32 (FP.fdiv (FP.i2f x) (FP.i2f y)) ≠ .nan := by
  have e : y.toInt = (b : Int) := by rw [hy, Int32.toInt_ofNat_of_lt (by omega)]
  have e1 : FP.Core.val32 (FP.fdiv (FP.i2f x) (FP.i2f y)) = FP.Core.quotient FP.Core.b32 (FP.Core.round FP.Core.b32 (FP.Core.ofInt x.toInt)) (FP.Core.round FP.Core.b32 (FP.Core.ofInt (b : Int))) := by
    show FP.Core.val32 (FP.Core.fdiv (FP.Core.i2f x) (FP.Core.i2f y)) = _
    rw [FP.Core.val32_fdiv, FP.Core.val32_i2f, FP.Core.val32_i2f, e]
  obtain ⟨t, c, r, q, hc⟩ := finP_ex ((i32_dec ⟨b, by omega⟩).resolve_left h0)
  rw [e1, show FP.Core.round FP.Core.b32 (FP.Core.ofInt (b : Int)) = .fin t c r from q]
  exact qt_nn (rd_nn ofI_nn) hc
theorem f2d_nn {a : UInt32} (h : FP.Core.val32 a ≠ .nan) : FP.Core.val64 (FP.f2d a) ≠ .nan := by
  have e0 : FP.Core.fIsNaN a = false := decide_eq_false h
  have e : FP.f2d a = FP.Core.f2d a := by
    unfold FP.f2d
    rw [e0]
    rfl
  rw [e, FP.Core.val64_f2d]
  exact rd_nn h
/-! THE LAW'S BODY: the calls that are unlike the others -/
section LT
variable {sn i k1 k2 : Nat} {sf : Nat → Int32} {lo lo1 : Nat → Int64} {dd dd1 : Nat → UInt64} {m m1 k wn wd ws : aW} {R X0 X1 : aH} {xi c b : Int32} {kk : aK} {B : aK} {l6 l7 l8 : Option Value} {bd : UInt64} {bf : UInt32}

set_option maxRecDepth 40000 in
theorem s_faultPosition (hC : aRun false 10 m_X7_faultPosition [.ref 20] (aLh sn sf lo dd m (aKl 21 42 aRg k wn wd ws ++ R)) = some (.inl (some (.int b)), aLh sn sf lo dd m X1, (0, 0))) (hM : aRun false 10 m_X8_faultPosition [.ref 10] (aLh sn sf lo dd m X1) = some (.inl (some (.int b)), aLh sn sf lo dd m1 X1, (0, 0))) (K : aFn FL B (2322, [some (.ref 5), some (.ref 20), some (.ref 10), some (.ref 8), some (.ref 9), some (.int xi), l6, l7, l8], [], aLh sn sf lo dd m1 X1, (k1, k2))) : aFn FL B (1924, [some (.ref 5), some (.ref 20), some (.ref 10), some (.ref 8), some (.ref 9), some (.int xi), l6, l7, l8], [], (aLh sn sf lo dd m (aKl 21 42 aRg k wn wd ws ++ R)), (k1, k2)) := by
  refine aVn_fn (stop := fun p => p == 2322) 120 ?_
  refine Exists.intro _ (And.intro hC ?_)
  refine Exists.intro _ (And.intro hM ?_)
  refine And.intro (fun _ => ?_) (fun q => absurd rfl (cF q))
  exact K
set_option maxRecDepth 40000 in
theorem s_isBalanced (hC : aRun false 10 m_X7_isBalanced [.ref 20] (aLh sn sf lo dd m (aKl 21 42 aRg k wn wd ws ++ R)) = some (.inl (some (.int b)), aLh sn sf lo dd m X1, (0, 0))) (hM : aRun false 10 m_X8_isBalanced [.ref 10] (aLh sn sf lo dd m X1) = some (.inl (some (.int b)), aLh sn sf lo dd m1 X1, (0, 0))) (K : aFn FL B (2322, [some (.ref 5), some (.ref 20), some (.ref 10), some (.ref 8), some (.ref 9), some (.int xi), l6, l7, l8], [], aLh sn sf lo dd m1 X1, (k1, k2))) : aFn FL B (2077, [some (.ref 5), some (.ref 20), some (.ref 10), some (.ref 8), some (.ref 9), some (.int xi), l6, l7, l8], [], (aLh sn sf lo dd m (aKl 21 42 aRg k wn wd ws ++ R)), (k1, k2)) := by
  refine aVn_fn (stop := fun p => p == 2322) 120 ?_
  refine Exists.intro _ (And.intro hC ?_)
  refine Exists.intro _ (And.intro hM ?_)
  refine And.intro (fun _ => ?_) (fun q => absurd rfl (cF q))
  exact K
set_option maxRecDepth 40000 in
theorem s_save (hC : aRun false 10 m_X7_save [.ref 20] (aLh sn sf lo dd m (aKl 21 42 aRg k wn wd ws ++ R)) = some (.inl (some (.int b)), aLh sn sf lo dd m X1, (0, 0))) (hM : aRun false 10 m_X8_save [.ref 10] (aLh sn sf lo dd m X1) = some (.inl (some (.int b)), aLh sn sf lo dd m1 X1, (0, 0))) (K : aFn FL B (2322, [some (.ref 5), some (.ref 20), some (.ref 10), some (.ref 8), some (.ref 9), some (.int xi), l6, l7, l8], [], aLh sn sf lo dd m1 X1, (k1, k2))) : aFn FL B (2265, [some (.ref 5), some (.ref 20), some (.ref 10), some (.ref 8), some (.ref 9), some (.int xi), l6, l7, l8], [], (aLh sn sf lo dd m (aKl 21 42 aRg k wn wd ws ++ R)), (k1, k2)) := by
  refine aVn_fn (stop := fun p => p == 2322) 120 ?_
  refine Exists.intro _ (And.intro hC ?_)
  refine Exists.intro _ (And.intro hM ?_)
  refine And.intro (fun _ => ?_) (fun q => absurd rfl (cF q))
  exact K
set_option maxRecDepth 40000 in
theorem s_firstShare (hL : aRun false 10 m_L_firstShare [.ref 20, .ref 9] (aLh sn sf lo dd m X0) = some (.inl (some (.int c)), aLh sn sf lo dd1 m X1, kk)) (hM : aRun false 10 m_X8_firstShare [.ref 10] (aLh sn sf lo dd1 m X1) = some (.inl (some (.double bd)), aLh sn sf lo dd1 m1 X1, (0, 0))) (hT : m1 9 2 = c) (hO : c = 0 → dd1 0 = bd ∧ Op.cmpValue (FP.dcmp bd bd) .l = 0) (K : ∀ l6 l7 l8, aFn FL B (2322, [some (.ref 5), some (.ref 20), some (.ref 10), some (.ref 8), some (.ref 9), some (.int xi), l6, l7, l8], [], aLh sn sf lo dd1 m1 X1, (k1 + kk.1, k2 + kk.2))) : aFn FL B (2090, [some (.ref 5), some (.ref 20), some (.ref 10), some (.ref 8), some (.ref 9), some (.int xi), l6, l7, l8], [], aLh sn sf lo dd m X0, (k1, k2)) := by
  refine aVn_fn (stop := fun p => p == 2322) 120 ?_
  refine Exists.intro _ (And.intro hL ?_)
  refine Exists.intro _ (And.intro hM ?_)
  refine Exists.intro _ (And.intro lift_thr ?_)
  refine And.intro (fun _ => ?_) (fun q => absurd hT (cF q))
  refine And.intro (fun _ => ?_) (fun q => ?_)
  · exact K _ _ _
  have hc : c = 0 := Decidable.not_not.mp (cF q)
  have hz : Op.cmpValue (FP.dcmp (dd1 0) bd) .l = 0 := by rw [(hO hc).1]; exact (hO hc).2
  refine And.intro (fun _ => ?_) (fun q => absurd hz (cF q))
  exact K _ _ _
set_option maxRecDepth 40000 in
theorem s_meanLoad (hL : aRun false 10 m_L_meanLoad [.ref 20, .ref 9] (aLh sn sf lo dd m X0) = some (.inl (some (.int c)), aLh sn sf lo dd1 m X1, kk)) (hM : aRun false 10 m_X8_meanLoad [.ref 10] (aLh sn sf lo dd1 m X1) = some (.inl (some (.float bf)), aLh sn sf lo dd1 m1 X1, (0, 0))) (hT : m1 9 2 = c) (hO : c = 0 → (dd1 0 = FP.f2d bf ∧ Op.cmpValue (FP.dcmp (FP.f2d bf) (FP.f2d bf)) .l = 0) ∧ FP.f2d bf &&& 0x7fffffffffffffff ≤ 0x7ff0000000000000) (K : ∀ l6 l7 l8, aFn FL B (2322, [some (.ref 5), some (.ref 20), some (.ref 10), some (.ref 8), some (.ref 9), some (.int xi), l6, l7, l8], [], aLh sn sf lo dd1 m1 X1, (k1 + kk.1, k2 + kk.2))) : aFn FL B (2155, [some (.ref 5), some (.ref 20), some (.ref 10), some (.ref 8), some (.ref 9), some (.int xi), l6, l7, l8], [], aLh sn sf lo dd m X0, (k1, k2)) := by
  refine aVn_fn (stop := fun p => p == 2322) 120 ?_
  refine Exists.intro _ (And.intro hL ?_)
  refine Exists.intro _ (And.intro hM ?_)
  refine Exists.intro _ (And.intro lift_thr ?_)
  refine And.intro (fun _ => ?_) (fun q => absurd hT (cF q))
  refine And.intro (fun _ => ?_) (fun q => ?_)
  · exact K _ _ _
  have hc : c = 0 := Decidable.not_not.mp (cF q)
  have hz : Op.cmpValue (FP.dcmp (dd1 0) (FP.f2d bf)) .l = 0 := by rw [(hO hc).1.1]; exact (hO hc).1.2
  refine And.intro (hO hc).2 ?_
  refine And.intro (fun _ => ?_) (fun q => absurd hz (cF q))
  exact K _ _ _
end LT
