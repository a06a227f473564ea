/-! String.charAt -/
def jyIsL : MethodName := ⟨"java/lang/String", "isLatin1", "()Z"⟩
def jyChk : MethodName := ⟨"java/lang/String", "checkIndex", "(II)V"⟩
def jyPre : MethodName := ⟨"jdk/internal/util/Preconditions", "checkIndex", "(IILjava/util/function/BiFunction;)I"⟩
def jyChL : MethodName := ⟨"java/lang/StringLatin1", "charAt", "([BI)C"⟩
def jyChr : MethodName := ⟨"java/lang/String", "charAt", "(I)C"⟩
def jWs : List Cond := [.initialized "java/lang/String", .initialized "java/lang/StringLatin1", .initialized "jdk/internal/util/Preconditions",
  .code jyIsL prog_23_method_154_code 1 (some .boolean), .code jyChk prog_23_method_155_code 2 none, .code jyPre prog_32_method_11_code 3 (some .int), .code jyChL prog_24_method_2_code 2 (some .char), .code jyChr prog_23_method_56_code 2 (some .char),
  .fieldLink "java/lang/String" 38 "java/lang/String" "COMPACT_STRINGS" "Z", .fieldLink "java/lang/String" 15 "java/lang/String" "coder" "B", .fieldLink "java/lang/String" 9 "java/lang/String" "value" "[B", .fieldLink "java/lang/String" 1053 "jdk/internal/util/Preconditions" "SIOOBE_FORMATTER" "Ljava/util/function/BiFunction;",
  .methodLink "java/lang/String" 492 jyIsL, .methodLink "java/lang/String" 495 jyChL, .methodLink "java/lang/StringLatin1" 9 jyChk, .methodLink "java/lang/String" 1059 jyPre,
  .instanceMethod jyIsL, .selects "java/lang/String" jyIsL jyIsL, .instanceMethod jyChr, .selects "java/lang/String" jyChr jyChr, .static jyChL, .static jyChk, .static jyPre]
set_option maxRecDepth 100000 in
theorem jWs_ok : (jWs.all fun w => decide (w ∈ aWg)) = true := by decide +kernel
theorem jw {w : Cond} (h : w ∈ jWs) : w ∈ aWg := of_decide_eq_true (List.all_eq_true.mp jWs_ok w h)
theorem jmIsL : aMy jyIsL prog_23_method_154_code 1 (some .boolean) 0 := ⟨jw (by decide +kernel), jw (by decide +kernel), by decide, by decide, by decide +kernel, by decide⟩
theorem jmChk : aMy jyChk prog_23_method_155_code 2 none 2 := ⟨jw (by decide +kernel), jw (by decide +kernel), by decide, by decide, by decide +kernel, by decide⟩
theorem jmPre : aMy jyPre prog_32_method_11_code 3 (some .int) 3 := ⟨jw (by decide +kernel), jw (by decide +kernel), by decide, by decide, by decide +kernel, by decide⟩
theorem jmChL : aMy jyChL prog_24_method_2_code 2 (some .char) 2 := ⟨jw (by decide +kernel), jw (by decide +kernel), by decide, by decide, by decide +kernel, by decide⟩
theorem jmChr : aMy jyChr prog_23_method_56_code 2 (some .char) 1 := ⟨jw (by decide +kernel), jw (by decide +kernel), by decide, by decide, by decide +kernel, by decide⟩
theorem jl_38 : Cond.fieldLink "java/lang/String" 38 "java/lang/String" "COMPACT_STRINGS" "Z" ∈ aWg := jw (by decide +kernel)
theorem jl_15 : Cond.fieldLink "java/lang/String" 15 "java/lang/String" "coder" "B" ∈ aWg := jw (by decide +kernel)
theorem jl_9 : Cond.fieldLink "java/lang/String" 9 "java/lang/String" "value" "[B" ∈ aWg := jw (by decide +kernel)
theorem jl_1053 : Cond.fieldLink "java/lang/String" 1053 "jdk/internal/util/Preconditions" "SIOOBE_FORMATTER" "Ljava/util/function/BiFunction;" ∈ aWg := jw (by decide +kernel)
theorem jl_492 : Cond.methodLink "java/lang/String" 492 jyIsL ∈ aWg := jw (by decide +kernel)
theorem jl_495 : Cond.methodLink "java/lang/String" 495 jyChL ∈ aWg := jw (by decide +kernel)
theorem jl_L9 : Cond.methodLink "java/lang/StringLatin1" 9 jyChk ∈ aWg := jw (by decide +kernel)
theorem jl_1059 : Cond.methodLink "java/lang/String" 1059 jyPre ∈ aWg := jw (by decide +kernel)
theorem ji_IsL : Cond.instanceMethod jyIsL ∈ aWg ∧ Cond.selects jyIsL.cls jyIsL jyIsL ∈ aWg := ⟨jw (by decide +kernel), jw (by decide +kernel)⟩
theorem ji_Chr : Cond.instanceMethod jyChr ∈ aWg ∧ Cond.selects jyChr.cls jyChr jyChr ∈ aWg := ⟨jw (by decide +kernel), jw (by decide +kernel)⟩
theorem js_ChL : Cond.static jyChL ∈ aWg := jw (by decide +kernel)
theorem js_Chk : Cond.static jyChk ∈ aWg := jw (by decide +kernel)
theorem js_Pre : Cond.static jyPre ∈ aWg := jw (by decide +kernel)
theorem aStr_b {ci : Nat} (hc : ci = 90 ∨ ci = 91) {j : Nat} (hj : j < 6) : (((aStr ci).getD j 0 &&& 255).toUInt32 % 65536).toInt32 = (aStr ci).getD j 0 ∧ narrow .char (.int ((aStr ci).getD j 0)) = .int ((aStr ci).getD j 0) := by
  have k0 : ∀ j : Fin 6, (((aStr 90).getD j.val 0 &&& 255).toUInt32 % 65536).toInt32 = (aStr 90).getD j.val 0 ∧ narrow .char (.int ((aStr 90).getD j.val 0)) = .int ((aStr 90).getD j.val 0) := by decide +kernel
  have k1 : ∀ j : Fin 6, (((aStr 91).getD j.val 0 &&& 255).toUInt32 % 65536).toInt32 = (aStr 91).getD j.val 0 ∧ narrow .char (.int ((aStr 91).getD j.val 0)) = .int ((aStr 91).getD j.val 0) := by decide +kernel
  rcases hc with rfl | rfl
  · exact k0 ⟨j, hj⟩
  · exact k1 ⟨j, hj⟩
section SJ2
variable {l : Launch} {ci a v : Nat} {i w : Int32}
theorem j_isL : jCon l jyIsL prog_23_method_154_code 1 (some .boolean) 0 [.ref a] (some (.int 1)) ci a v := by
  refine j_of (by decide) (fun p e s m below meth c hx hb hml hown hts hlk hret hJ => ?_)
  have hS : va_S jN s.heap s.heap [] := va_S.rf
  refine va_gets hx hb hJ.1 hS hown (hts _ jl_38) (fun _ z => z) (by decide +kernel) ?_
  refine lv_if_eq hx hb (off := 14) (tgt := 17) (by decide +kernel) (by decide) (fun h => absurd h (by decide)) (fun _ => ?_)
  refine lv_aload_n hx hb (k := 0) (i := 0) (x := a) (by decide +kernel) rfl rfl ?_
  refine vk_getf hx hb (hJ.2.2.1 0 (by decide)).2.1 hS hown (hts _ jl_15) (fun _ z => z) (by decide +kernel) ?_
  refine lv_if_ne hx hb (off := 7) (tgt := 17) (by decide +kernel) (by decide) (fun h => absurd rfl h) (fun _ => ?_)
  refine lv_iconst hx hb (n := 1) (v := 1) (by decide +kernel) rfl ?_
  refine lv_goto hx hb (off := 4) (tgt := 18) (by decide +kernel) (by decide) ?_
  exact j_zret hx hb hret rfl hlk (by decide +kernel)
theorem j_preN (h0 : ¬ i < 0) (h1 : i < w) : jCon l jyPre prog_32_method_11_code 3 (some .int) 0 [.int i, .int w, .null] (some (.int i)) ci a v := by
  refine j_of (by decide) (fun p e s m below meth c hx hb hml hown hts hlk hret hJ => ?_)
  refine lv_iload_n hx hb (k := 0) (i := 0) (x := i) (by decide +kernel) rfl rfl ?_
  refine lv_if_lt hx hb (off := 8) (tgt := 9) (by decide +kernel) (by decide) (fun h => absurd h h0) (fun _ => ?_)
  refine lv_iload_n hx hb (k := 0) (i := 0) (x := i) (by decide +kernel) rfl rfl ?_
  refine lv_iload_n hx hb (k := 1) (i := 1) (x := w) (by decide +kernel) rfl rfl ?_
  refine lv_icmp_lt hx hb (off := 10) (tgt := 16) (by decide +kernel) (by decide) (fun _ => ?_) (fun h => absurd h1 h)
  refine lv_iload_n hx hb (k := 0) (i := 0) (x := i) (by decide +kernel) rfl rfl ?_
  exact j_zret hx hb hret rfl hlk (by decide +kernel)
theorem j_preR {t : Nat} (h0 : ¬ i < 0) (h1 : i < w) : jCon l jyPre prog_32_method_11_code 3 (some .int) 0 [.int i, .int w, .ref t] (some (.int i)) ci a v := by
  refine j_of (by decide) (fun p e s m below meth c hx hb hml hown hts hlk hret hJ => ?_)
  refine lv_iload_n hx hb (k := 0) (i := 0) (x := i) (by decide +kernel) rfl rfl ?_
  refine lv_if_lt hx hb (off := 8) (tgt := 9) (by decide +kernel) (by decide) (fun h => absurd h h0) (fun _ => ?_)
  refine lv_iload_n hx hb (k := 0) (i := 0) (x := i) (by decide +kernel) rfl rfl ?_
  refine lv_iload_n hx hb (k := 1) (i := 1) (x := w) (by decide +kernel) rfl rfl ?_
  refine lv_icmp_lt hx hb (off := 10) (tgt := 16) (by decide +kernel) (by decide) (fun _ => ?_) (fun h => absurd h1 h)
  refine lv_iload_n hx hb (k := 0) (i := 0) (x := i) (by decide +kernel) rfl rfl ?_
  exact j_zret hx hb hret rfl hlk (by decide +kernel)
theorem j_chk (h0 : ¬ i < 0) (h1 : i < w) : jCon l jyChk prog_23_method_155_code 2 none 1 [.int i, .int w] none ci a v := by
  refine j_of (by decide) (fun p e s m below meth c hx hb hml hown hts hlk hret hJ => ?_)
  have hS : va_S jN s.heap s.heap [] := va_S.rf
  refine lv_iload_n hx hb (k := 0) (i := 0) (x := i) (by decide +kernel) rfl rfl ?_
  refine lv_iload_n hx hb (k := 1) (i := 1) (x := w) (by decide +kernel) rfl rfl ?_
  rcases hJ.2.1 with hz | ⟨t, hz⟩
  · refine va_gets hx hb hz hS hown (hts _ jl_1053) (fun _ z => z) (by decide +kernel) ?_
    refine j_callS (vs := [.int i, .int w, .null]) (rest := []) (own := "java/lang/String") hx hb hml hown hts hJ hS (j_preN h0 h1) jmPre jl_1059 js_Pre ⟨by decide, by decide⟩ rfl rfl (by decide) ⟨by decide, by decide⟩ (by decide +kernel) ?_
    refine lv_pop hx hb (by decide +kernel) rfl ?_
    exact j_vret hx hb hret hlk (by decide +kernel)
  · refine va_gets hx hb hz hS hown (hts _ jl_1053) (fun _ z => z) (by decide +kernel) ?_
    refine j_callS (vs := [.int i, .int w, .ref t]) (rest := []) (own := "java/lang/String") hx hb hml hown hts hJ hS (j_preR h0 h1) jmPre jl_1059 js_Pre ⟨by decide, by decide⟩ rfl rfl (by decide) ⟨by decide, by decide⟩ (by decide +kernel) ?_
    refine lv_pop hx hb (by decide +kernel) rfl ?_
    exact j_vret hx hb hret hlk (by decide +kernel)
end SJ2
