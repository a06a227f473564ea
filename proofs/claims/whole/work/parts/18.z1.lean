/-! String.indexOf -/
def jyCod : MethodName := ⟨"java/lang/String", "coder", "()B"⟩
def jyLen : MethodName := ⟨"java/lang/String", "length", "()I"⟩
def jyCan : MethodName := ⟨"java/lang/StringLatin1", "canEncode", "(I)Z"⟩
def jyIxC : MethodName := ⟨"java/lang/StringLatin1", "indexOfChar", "([BIII)I"⟩
def jyIxL : MethodName := ⟨"java/lang/StringLatin1", "indexOf", "([BIII)I"⟩
def jyIx2 : MethodName := ⟨"java/lang/String", "indexOf", "(II)I"⟩
def jyIx : MethodName := ⟨"java/lang/String", "indexOf", "(I)I"⟩
def jVs : List Cond := [.code jyCod prog_23_method_152_code 1 (some .byte), .code jyLen prog_23_method_54_code 1 (some .int), .code jyCan prog_24_method_4_code 1 (some .boolean), .code jyIxC prog_24_method_23_code 6 (some .int), .code jyIxL prog_24_method_22_code 4 (some .int), .code jyIx2 prog_23_method_80_code 3 (some .int), .code jyIx prog_23_method_79_code 2 (some .int),
  .methodLink "java/lang/String" 335 jyCod, .methodLink "java/lang/String" 505 jyLen, .methodLink "java/lang/String" 637 jyIxL, .methodLink "java/lang/String" 633 jyIx2, .methodLink "java/lang/StringLatin1" 88 jyCan, .methodLink "java/lang/StringLatin1" 95 jyIxC, .methodLink "java/lang/StringLatin1" 92 Lib.Math.max.name, .methodLink "java/lang/StringLatin1" 38 Lib.Math.min.name,
  .instanceMethod jyCod, .selects "java/lang/String" jyCod jyCod, .instanceMethod jyLen, .selects "java/lang/String" jyLen jyLen, .instanceMethod jyIx2, .selects "java/lang/String" jyIx2 jyIx2, .instanceMethod jyIx, .selects "java/lang/String" jyIx jyIx, .static jyCan, .static jyIxC, .static jyIxL,
  .static Lib.Math.max.name, .static Lib.Math.min.name, .initialized "java/lang/Math", .code Lib.Math.max.name Lib.Math.max.code 2 (some .int), .code Lib.Math.min.name Lib.Math.min.code 2 (some .int), .initialized "java/lang/String", .initialized "java/lang/StringLatin1"]
set_option maxRecDepth 100000 in
theorem jVs_ok : (jVs.all fun w => decide (w ∈ aWg)) = true := by decide +kernel
theorem jv {w : Cond} (h : w ∈ jVs) : w ∈ aWg := of_decide_eq_true (List.all_eq_true.mp jVs_ok w h)
theorem jmCod : aMy jyCod prog_23_method_152_code 1 (some .byte) 0 := ⟨jv (by decide +kernel), jv (by decide +kernel), by decide, by decide, by decide +kernel, by decide⟩
theorem jmLen : aMy jyLen prog_23_method_54_code 1 (some .int) 0 := ⟨jv (by decide +kernel), jv (by decide +kernel), by decide, by decide, by decide +kernel, by decide⟩
theorem jmCan : aMy jyCan prog_24_method_4_code 1 (some .boolean) 1 := ⟨jv (by decide +kernel), jv (by decide +kernel), by decide, by decide, by decide +kernel, by decide⟩
theorem jmIxC : aMy jyIxC prog_24_method_23_code 6 (some .int) 4 := ⟨jv (by decide +kernel), jv (by decide +kernel), by decide, by decide, by decide +kernel, by decide⟩
theorem jmIxL : aMy jyIxL prog_24_method_22_code 4 (some .int) 4 := ⟨jv (by decide +kernel), jv (by decide +kernel), by decide, by decide, by decide +kernel, by decide⟩
theorem jmIx2 : aMy jyIx2 prog_23_method_80_code 3 (some .int) 2 := ⟨jv (by decide +kernel), jv (by decide +kernel), by decide, by decide, by decide +kernel, by decide⟩
theorem jmIx : aMy jyIx prog_23_method_79_code 2 (some .int) 1 := ⟨jv (by decide +kernel), jv (by decide +kernel), by decide, by decide, by decide +kernel, by decide⟩
theorem jl_335 : Cond.methodLink "java/lang/String" 335 jyCod ∈ aWg := jv (by decide +kernel)
theorem jl_505 : Cond.methodLink "java/lang/String" 505 jyLen ∈ aWg := jv (by decide +kernel)
theorem jl_637 : Cond.methodLink "java/lang/String" 637 jyIxL ∈ aWg := jv (by decide +kernel)
theorem jl_633 : Cond.methodLink "java/lang/String" 633 jyIx2 ∈ aWg := jv (by decide +kernel)
theorem jl_88 : Cond.methodLink "java/lang/StringLatin1" 88 jyCan ∈ aWg := jv (by decide +kernel)
theorem jl_95 : Cond.methodLink "java/lang/StringLatin1" 95 jyIxC ∈ aWg := jv (by decide +kernel)
theorem jl_max : Cond.methodLink "java/lang/StringLatin1" 92 Lib.Math.max.name ∈ aWg ∧ Cond.static Lib.Math.max.name ∈ aWg ∧ Cond.initialized "java/lang/Math" ∈ aWg ∧ Cond.code Lib.Math.max.name Lib.Math.max.code 2 (some .int) ∈ aWg := ⟨jv (by decide +kernel), jv (by decide +kernel), jv (by decide +kernel), jv (by decide +kernel)⟩
theorem jl_min : Cond.methodLink "java/lang/StringLatin1" 38 Lib.Math.min.name ∈ aWg ∧ Cond.static Lib.Math.min.name ∈ aWg ∧ Cond.initialized "java/lang/Math" ∈ aWg ∧ Cond.code Lib.Math.min.name Lib.Math.min.code 2 (some .int) ∈ aWg := ⟨jv (by decide +kernel), jv (by decide +kernel), jv (by decide +kernel), jv (by decide +kernel)⟩
theorem ji_Cod : Cond.instanceMethod jyCod ∈ aWg ∧ Cond.selects jyCod.cls jyCod jyCod ∈ aWg := ⟨jv (by decide +kernel), jv (by decide +kernel)⟩
theorem ji_Len : Cond.instanceMethod jyLen ∈ aWg ∧ Cond.selects jyLen.cls jyLen jyLen ∈ aWg := ⟨jv (by decide +kernel), jv (by decide +kernel)⟩
theorem ji_Ix2 : Cond.instanceMethod jyIx2 ∈ aWg ∧ Cond.selects jyIx2.cls jyIx2 jyIx2 ∈ aWg := ⟨jv (by decide +kernel), jv (by decide +kernel)⟩
theorem ji_Ix : Cond.instanceMethod jyIx ∈ aWg ∧ Cond.selects jyIx.cls jyIx jyIx ∈ aWg := ⟨jv (by decide +kernel), jv (by decide +kernel)⟩
theorem js_Can : Cond.static jyCan ∈ aWg := jv (by decide +kernel)
theorem js_IxC : Cond.static jyIxC ∈ aWg := jv (by decide +kernel)
theorem js_IxL : Cond.static jyIxL ∈ aWg := jv (by decide +kernel)
section SJ4
variable {l : Launch} {ci a v : Nat} {x : Int32}
theorem j_cod : jCon l jyCod prog_23_method_152_code 1 (some .byte) 0 [.ref a] (some (.int 0)) ci a v := by
  refine j_of (by decide) (fun p e s m below meth c hx hb hml hown hts hlk hret hJ => ?_)
  have hS : va_S jN s.heap s.heap [] := va_S.rf
  refine va_gets hx hb hJ.1 hS hown (hts _ jl_38) (fun _ z => z) (by decide +kernel) ?_
  refine lv_if_eq hx hb (off := 10) (tgt := 13) (by decide +kernel) (by decide) (fun h => absurd h (by decide)) (fun _ => ?_)
  refine lv_aload_n hx hb (k := 0) (i := 0) (x := a) (by decide +kernel) rfl rfl ?_
  refine vk_getf hx hb (hJ.2.2.1 0 (by decide)).2.1 hS hown (hts _ jl_15) (fun _ z => z) (by decide +kernel) ?_
  refine lv_goto hx hb (off := 4) (tgt := 14) (by decide +kernel) (by decide) ?_
  exact j_zret hx hb hret rfl hlk (by decide +kernel)
theorem j_len : jCon l jyLen prog_23_method_54_code 1 (some .int) 1 [.ref a] (some (.int 6)) ci a v := by
  refine j_of (by decide) (fun p e s m below meth c hx hb hml hown hts hlk hret hJ => ?_)
  have hS : va_S jN s.heap s.heap [] := va_S.rf
  have hT : va_T .byte v 6 (fun j => .int ((aStr ci).getD j 0)) jN s s.heap := (hJ.2.2.1 0 (by decide)).2.2.2
  refine lv_aload_n hx hb (k := 0) (i := 0) (x := a) (by decide +kernel) rfl rfl ?_
  refine vk_getf hx hb (hJ.2.2.1 0 (by decide)).2.2.1 hS hown (hts _ jl_9) (fun _ z => z) (by decide +kernel) ?_
  refine va_tlen hx hb hT hS (v := 6) rfl (by decide +kernel) ?_
  refine lv_aload_n hx hb (k := 0) (i := 0) (x := a) (by decide +kernel) rfl rfl ?_
  refine j_callV (vs := []) (rest := [.int 6]) (own := "java/lang/String") hx hb hml hown hts hJ hS j_cod rfl jmCod jl_335 ji_Cod.1 ji_Cod.2 ⟨by decide, by decide⟩ rfl rfl (by decide) ⟨by decide, by decide⟩ (by decide +kernel) ?_
  refine lv_ishr hx hb (by decide +kernel) ?_
  have e9 : (6 : Int32) >>> ((0 : Int32) &&& 31) = 6 := by decide
  rw [e9]
  exact j_zret hx hb hret rfl hlk (by decide +kernel)
theorem j_canY (h0 : ¬ x < 0) (h1 : ¬ 255 < x) : jCon l jyCan prog_24_method_4_code 1 (some .boolean) 0 [.int x] (some (.int 1)) ci a v := by
  refine j_of (by decide) (fun p e s m below meth c hx hb hml hown hts hlk hret hJ => ?_)
  refine lv_iload_n hx hb (k := 0) (i := 0) (x := x) (by decide +kernel) rfl rfl ?_
  refine lv_if_lt hx hb (off := 14) (tgt := 15) (by decide +kernel) (by decide) (fun h => absurd h h0) (fun _ => ?_)
  refine lv_iload_n hx hb (k := 0) (i := 0) (x := x) (by decide +kernel) rfl rfl ?_
  refine lv_sipush hx hb (n := 255) (v := 255) (by decide +kernel) (by decide) ?_
  refine lv_icmp_gt hx hb (off := 7) (tgt := 15) (by decide +kernel) (by decide) (fun h => absurd h h1) (fun _ => ?_)
  refine lv_iconst hx hb (n := 1) (v := 1) (by decide +kernel) rfl ?_
  refine lv_goto hx hb (off := 4) (tgt := 16) (by decide +kernel) (by decide) ?_
  exact j_zret hx hb hret rfl hlk (by decide +kernel)
theorem j_canN (h0 : ¬ x < 0) (h1 : 255 < x) : jCon l jyCan prog_24_method_4_code 1 (some .boolean) 0 [.int x] (some (.int 0)) ci a v := by
  refine j_of (by decide) (fun p e s m below meth c hx hb hml hown hts hlk hret hJ => ?_)
  refine lv_iload_n hx hb (k := 0) (i := 0) (x := x) (by decide +kernel) rfl rfl ?_
  refine lv_if_lt hx hb (off := 14) (tgt := 15) (by decide +kernel) (by decide) (fun h => absurd h h0) (fun _ => ?_)
  refine lv_iload_n hx hb (k := 0) (i := 0) (x := x) (by decide +kernel) rfl rfl ?_
  refine lv_sipush hx hb (n := 255) (v := 255) (by decide +kernel) (by decide) ?_
  refine lv_icmp_gt hx hb (off := 7) (tgt := 15) (by decide +kernel) (by decide) (fun _ => ?_) (fun h => absurd h1 h)
  refine lv_iconst hx hb (n := 0) (v := 0) (by decide +kernel) rfl ?_
  exact j_zret hx hb hret rfl hlk (by decide +kernel)
end SJ4
