/-! String.charAt, joined -/
theorem j_inN {i : Int32} {n : Nat} (hn : n ≤ 13) (h : vp_in i n) : ¬ i < 0 ∧ i < Int32.ofNat n ∧ i.toNatClampNeg < n := by
  have h0 : ¬ i < 0 := fun q => h (Or.inl q)
  have h1 : i.toNatClampNeg < n := Nat.not_le.mp fun q => h (Or.inr q)
  refine ⟨h0, ?_, h1⟩
  rw [Int32.lt_iff_toInt_lt, Int32.toInt_ofNat_of_lt (by omega)]
  have e : i.toNatClampNeg = i.toInt.toNat := rfl
  omega
section SJ3
variable {l : Launch} {ci a v : Nat} {i w : Int32}
theorem j_chL (hc : 90 ≤ ci ∧ ci < 400) (hi : vp_in i (aStr ci).length) : jCon l jyChL prog_29_method_2_code 2 (some .char) 2 [.ref v, .int i] (some (.int ((aStr ci).getD i.toNatClampNeg 0))) ci a v := by
  obtain ⟨h0, h1, h2⟩ := j_inN (aStr_len hc) hi
  obtain ⟨b1, b2⟩ := aStr_b hc h2
  refine j_of (by decide) (fun p e s m below meth c hx hb hml hown hts hlk hret hJ => ?_)
  have hS : va_S jN s.heap s.heap [] := va_S.rf
  have hT : va_T .byte v (aStr ci).length (fun j => .int ((aStr ci).getD j 0)) jN s s.heap := (hJ.2.2.1 0 (by decide)).2.2.2
  refine lv_iload_n hx hb (k := 1) (i := 1) (x := i) (by decide +kernel) rfl rfl ?_
  refine lv_aload_n hx hb (k := 0) (i := 0) (x := v) (by decide +kernel) rfl rfl ?_
  refine va_tlen hx hb hT hS (v := Int32.ofNat (aStr ci).length) rfl (by decide +kernel) ?_
  refine j_callS (vs := [.int i, .int (Int32.ofNat (aStr ci).length)]) (rest := []) (own := "java/lang/StringLatin1") hx hb hml hown hts hJ hS (j_chk h0 h1) jmChk jl_L9 js_Chk ⟨by decide, by decide⟩ rfl rfl (by decide) ⟨by decide, by decide⟩ (by decide +kernel) ?_
  refine lv_aload_n hx hb (k := 0) (i := 0) (x := v) (by decide +kernel) rfl rfl ?_
  refine lv_iload_n hx hb (k := 1) (i := 1) (x := i) (by decide +kernel) rfl rfl ?_
  refine va_tb hx hb hT hS hi rfl (by decide +kernel) ?_
  refine lv_sipush hx hb (n := 255) (v := 255) (by decide +kernel) (by decide) ?_
  refine lv_iand hx hb (by decide +kernel) ?_
  refine lv_i2c hx hb (by decide +kernel) b1 ?_
  exact j_zret hx hb hret b2 hlk (by decide +kernel)
theorem j_chr (hc : 90 ≤ ci ∧ ci < 400) (hi : vp_in i (aStr ci).length) : jCon l jyChr prog_27_method_56_code 2 (some .char) 3 [.ref a, .int i] (some (.int ((aStr ci).getD i.toNatClampNeg 0))) ci a v := by
  obtain ⟨h0, h1, h2⟩ := j_inN (aStr_len hc) hi
  obtain ⟨b1, b2⟩ := aStr_b hc h2
  refine j_of (by decide) (fun p e s m below meth c hx hb hml hown hts hlk hret hJ => ?_)
  have hS : va_S jN s.heap s.heap [] := va_S.rf
  refine lv_aload_n hx hb (k := 0) (i := 0) (x := a) (by decide +kernel) rfl rfl ?_
  refine j_callV (vs := []) (rest := []) (own := "java/lang/String") hx hb hml hown hts hJ hS j_isL rfl jmIsL jl_492 ji_IsL.1 ji_IsL.2 ⟨by decide, by decide⟩ rfl rfl (by decide) ⟨by decide, by decide⟩ (by decide +kernel) ?_
  refine lv_if_eq hx hb (x := 1) (off := 12) (tgt := 16) (by decide +kernel) (by decide) (fun h => absurd h (by decide)) (fun _ => ?_)
  refine lv_aload_n hx hb (k := 0) (i := 0) (x := a) (by decide +kernel) rfl rfl ?_
  refine vk_getf hx hb (hJ.2.2.1 0 (by decide)).2.2.1 hS hown (hts _ jl_9) (fun _ z => z) (by decide +kernel) ?_
  refine lv_iload_n hx hb (k := 1) (i := 1) (x := i) (by decide +kernel) rfl rfl ?_
  refine j_callS (vs := [.ref v, .int i]) (rest := []) (own := "java/lang/String") hx hb hml hown hts hJ hS (j_chL hc hi) jmChL jl_495 js_ChL ⟨by decide, by decide⟩ rfl rfl (by decide) ⟨by decide, by decide⟩ (by decide +kernel) ?_
  exact j_zret hx hb hret b2 hlk (by decide +kernel)
end SJ3
