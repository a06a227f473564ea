/-! String.length -/
def jyCod : MethodName := ⟨"java/lang/String", "coder", "()B"⟩
def jyLen : MethodName := ⟨"java/lang/String", "length", "()I"⟩
def jVs : List Cond := [.code jyCod prog_27_method_152_code 1 (some .byte), .code jyLen prog_27_method_54_code 1 (some .int),
  .methodLink "java/lang/String" 335 jyCod, .instanceMethod jyCod, .selects "java/lang/String" jyCod jyCod, .instanceMethod jyLen, .selects "java/lang/String" jyLen jyLen, .initialized "java/lang/String"]
set_option maxRecDepth 100000 in
theorem jVs_ok : (jVs.all fun w => decide (w ∈ aWg)) = true := by decide +kernel
theorem jv {w : Cond} (h : w ∈ jVs) : w ∈ aWg := of_decide_eq_true (List.all_eq_true.mp jVs_ok w h)
theorem jmCod : aMy jyCod prog_27_method_152_code 1 (some .byte) 0 := ⟨jv (by decide +kernel), jv (by decide +kernel), by decide, by decide, by decide +kernel, by decide⟩
theorem jmLen : aMy jyLen prog_27_method_54_code 1 (some .int) 0 := ⟨jv (by decide +kernel), jv (by decide +kernel), by decide, by decide, by decide +kernel, by decide⟩
theorem jl_335 : Cond.methodLink "java/lang/String" 335 jyCod ∈ aWg := jv (by decide +kernel)
theorem ji_Cod : Cond.instanceMethod jyCod ∈ aWg ∧ Cond.selects jyCod.cls jyCod jyCod ∈ aWg := ⟨jv (by decide +kernel), jv (by decide +kernel)⟩
theorem ji_Len : Cond.instanceMethod jyLen ∈ aWg ∧ Cond.selects jyLen.cls jyLen jyLen ∈ aWg := ⟨jv (by decide +kernel), jv (by decide +kernel)⟩
section SJ4
variable {l : Launch} {ci a v : Nat} {x : Int32}
theorem j_cod : jCon l jyCod prog_27_method_152_code 1 (some .byte) 0 [.ref a] (some (.int 0)) ci a v := by
  refine j_of (by decide) (fun p e s m below meth c hx hb hml hown hts hlk hret hJ => ?_)
  have hS : va_S jN s.heap s.heap [] := va_S.rf
  refine va_gets hx hb hJ.1 hS hown (hts _ jl_38) (fun _ z => z) (by decide +kernel) ?_
  refine lv_if_eq hx hb (off := 10) (tgt := 13) (by decide +kernel) (by decide) (fun h => absurd h (by decide)) (fun _ => ?_)
  refine lv_aload_n hx hb (k := 0) (i := 0) (x := a) (by decide +kernel) rfl rfl ?_
  refine vk_getf hx hb (hJ.2.2.1 0 (by decide)).2.1 hS hown (hts _ jl_15) (fun _ z => z) (by decide +kernel) ?_
  refine lv_goto hx hb (off := 4) (tgt := 14) (by decide +kernel) (by decide) ?_
  exact j_zret hx hb hret rfl hlk (by decide +kernel)
theorem j_len : jCon l jyLen prog_27_method_54_code 1 (some .int) 1 [.ref a] (some (.int (Int32.ofNat (aStr ci).length))) ci a v := by
  refine j_of (by decide) (fun p e s m below meth c hx hb hml hown hts hlk hret hJ => ?_)
  have hS : va_S jN s.heap s.heap [] := va_S.rf
  have hT : va_T .byte v (aStr ci).length (fun j => .int ((aStr ci).getD j 0)) jN s s.heap := (hJ.2.2.1 0 (by decide)).2.2.2
  refine lv_aload_n hx hb (k := 0) (i := 0) (x := a) (by decide +kernel) rfl rfl ?_
  refine vk_getf hx hb (hJ.2.2.1 0 (by decide)).2.2.1 hS hown (hts _ jl_9) (fun _ z => z) (by decide +kernel) ?_
  refine va_tlen hx hb hT hS (v := Int32.ofNat (aStr ci).length) rfl (by decide +kernel) ?_
  refine lv_aload_n hx hb (k := 0) (i := 0) (x := a) (by decide +kernel) rfl rfl ?_
  refine j_callV (vs := []) (rest := [.int (Int32.ofNat (aStr ci).length)]) (own := "java/lang/String") hx hb hml hown hts hJ hS j_cod rfl jmCod jl_335 ji_Cod.1 ji_Cod.2 ⟨by decide, by decide⟩ rfl rfl (by show 1 ≤ 8; decide) ⟨by decide, by decide⟩ (by decide +kernel) ?_
  refine lv_ishr hx hb (by decide +kernel) ?_
  have e9 : (Int32.ofNat (aStr ci).length) >>> ((0 : Int32) &&& 31) = Int32.ofNat (aStr ci).length := by
    rw [show (0 : Int32) &&& 31 = 0 from by decide]
    exact Int32.shiftRight_zero
  rw [e9]
  exact j_zret hx hb hret rfl hlk (by decide +kernel)
end SJ4
