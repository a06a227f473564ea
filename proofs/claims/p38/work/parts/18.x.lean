/-! String.charAt -/
def jyIsL : MethodName := ⟨"java/lang/String", "isLatin1", "()Z"⟩
def jyChk : MethodName := ⟨"java/lang/String", "checkIndex", "(II)V"⟩
def jyPre : MethodName := ⟨"jdk/internal/util/Preconditions", "checkIndex", "(IILjava/util/function/BiFunction;)I"⟩
def jyChL : MethodName := ⟨"java/lang/StringLatin1", "charAt", "([BI)C"⟩
def jyChr : MethodName := ⟨"java/lang/String", "charAt", "(I)C"⟩
def jWs : List Cond := [.initialized "java/lang/String", .initialized "java/lang/StringLatin1", .initialized "jdk/internal/util/Preconditions",
  .code jyIsL prog_27_method_154_code 1 (some .boolean), .code jyChk prog_27_method_155_code 2 none, .code jyPre prog_39_method_11_code 3 (some .int), .code jyChL prog_29_method_2_code 2 (some .char), .code jyChr prog_27_method_56_code 2 (some .char),
  .fieldLink "java/lang/String" 38 "java/lang/String" "COMPACT_STRINGS" "Z", .fieldLink "java/lang/String" 15 "java/lang/String" "coder" "B", .fieldLink "java/lang/String" 9 "java/lang/String" "value" "[B", .fieldLink "java/lang/String" 1053 "jdk/internal/util/Preconditions" "SIOOBE_FORMATTER" "Ljava/util/function/BiFunction;",
  .methodLink "java/lang/String" 492 jyIsL, .methodLink "java/lang/String" 495 jyChL, .methodLink "java/lang/StringLatin1" 9 jyChk, .methodLink "java/lang/String" 1059 jyPre,
  .instanceMethod jyIsL, .selects "java/lang/String" jyIsL jyIsL, .instanceMethod jyChr, .selects "java/lang/String" jyChr jyChr, .static jyChL, .static jyChk, .static jyPre]
set_option maxRecDepth 100000 in
theorem jWs_ok : (jWs.all fun w => decide (w ∈ aWg)) = true := by decide +kernel
theorem jw {w : Cond} (h : w ∈ jWs) : w ∈ aWg := of_decide_eq_true (List.all_eq_true.mp jWs_ok w h)
theorem jmIsL : aMy jyIsL prog_27_method_154_code 1 (some .boolean) 0 := ⟨jw (by decide +kernel), jw (by decide +kernel), by decide, by decide, by decide +kernel, by decide⟩
theorem jmChk : aMy jyChk prog_27_method_155_code 2 none 2 := ⟨jw (by decide +kernel), jw (by decide +kernel), by decide, by decide, by decide +kernel, by decide⟩
theorem jmPre : aMy jyPre prog_39_method_11_code 3 (some .int) 3 := ⟨jw (by decide +kernel), jw (by decide +kernel), by decide, by decide, by decide +kernel, by decide⟩
theorem jmChL : aMy jyChL prog_29_method_2_code 2 (some .char) 2 := ⟨jw (by decide +kernel), jw (by decide +kernel), by decide, by decide, by decide +kernel, by decide⟩
theorem jmChr : aMy jyChr prog_27_method_56_code 2 (some .char) 1 := ⟨jw (by decide +kernel), jw (by decide +kernel), by decide, by decide, by decide +kernel, by decide⟩
theorem jl_38 : Cond.fieldLink "java/lang/String" 38 "java/lang/String" "COMPACT_STRINGS" "Z" ∈ aWg := jw (by decide +kernel)
theorem jl_15 : Cond.fieldLink "java/lang/String" 15 "java/lang/String" "coder" "B" ∈ aWg := jw (by decide +kernel)
theorem jl_9 : Cond.fieldLink "java/lang/String" 9 "java/lang/String" "value" "[B" ∈ aWg := jw (by decide +kernel)
theorem jl_1053 : Cond.fieldLink "java/lang/String" 1053 "jdk/internal/util/Preconditions" "SIOOBE_FORMATTER" "Ljava/util/function/BiFunction;" ∈ aWg := jw (by decide +kernel)
theorem jl_492 : Cond.methodLink "java/lang/String" 492 jyIsL ∈ aWg := jw (by decide +kernel)
theorem jl_495 : Cond.methodLink "java/lang/String" 495 jyChL ∈ aWg := jw (by decide +kernel)
theorem jl_L9 : Cond.methodLink "java/lang/StringLatin1" 9 jyChk ∈ aWg := jw (by decide +kernel)
theorem jl_1059 : Cond.methodLink "java/lang/String" 1059 jyPre ∈ aWg := jw (by decide +kernel)
theorem ji_IsL : Cond.instanceMethod jyIsL ∈ aWg ∧ Cond.selects jyIsL.cls jyIsL jyIsL ∈ aWg := ⟨jw (by decide +kernel), jw (by decide +kernel)⟩
theorem ji_Chr : Cond.instanceMethod jyChr ∈ aWg ∧ Cond.selects jyChr.cls jyChr jyChr ∈ aWg := ⟨jw (by decide +kernel), jw (by decide +kernel)⟩
theorem js_ChL : Cond.static jyChL ∈ aWg := jw (by decide +kernel)
theorem js_Chk : Cond.static jyChk ∈ aWg := jw (by decide +kernel)
theorem js_Pre : Cond.static jyPre ∈ aWg := jw (by decide +kernel)
theorem j_nar {x : Int32} (h0 : 0 ≤ x) (h1 : x < 128) : (x.toUInt32 % 65536).toInt32 = x := by
  have e0 : (0 : Int32).toInt = 0 := rfl
  have e1 : (128 : Int32).toInt = 128 := rfl
  rw [Int32.le_iff_toInt_le, e0] at h0
  rw [Int32.lt_iff_toInt_lt, e1] at h1
  obtain ⟨n, hn, rfl⟩ : ∃ n : Nat, n < 128 ∧ x = Int32.ofNat n := by
    refine ⟨x.toInt.toNat, by omega, Int32.toInt_inj.mp ?_⟩
    rw [Int32.toInt_ofNat_of_lt (by omega)]
    omega
  have : ∀ k : Fin 128, ((Int32.ofNat k.val).toUInt32 % 65536).toInt32 = Int32.ofNat k.val := by decide +kernel
  exact this ⟨n, hn⟩
set_option maxRecDepth 100000 in
theorem aStr_a : ((List.range 310).all fun c => ((List.range 13).all fun j => ((((aStr (90 + c)).getD j 0 &&& 255).toUInt32 % 65536).toInt32 == (aStr (90 + c)).getD j 0 && (decide (0 ≤ (aStr (90 + c)).getD j 0) && decide ((aStr (90 + c)).getD j 0 < 128)))) && decide ((aStr (90 + c)).length ≤ 13)) = true := by decide +kernel
theorem aStr_len {ci : Nat} (h : 90 ≤ ci ∧ ci < 400) : (aStr ci).length ≤ 13 := by
  have h1 := List.all_eq_true.mp aStr_a (ci - 90) (List.mem_range.mpr (by omega))
  rw [show 90 + (ci - 90) = ci by omega, Bool.and_eq_true] at h1
  exact of_decide_eq_true h1.2
theorem aStr_r {ci : Nat} (h : 90 ≤ ci ∧ ci < 400) {j : Nat} (hj : j < 13) : (((aStr ci).getD j 0 &&& 255).toUInt32 % 65536).toInt32 = (aStr ci).getD j 0 ∧ 0 ≤ (aStr ci).getD j 0 ∧ (aStr ci).getD j 0 < 128 := by
  have h1 := List.all_eq_true.mp aStr_a (ci - 90) (List.mem_range.mpr (by omega))
  rw [show 90 + (ci - 90) = ci by omega, Bool.and_eq_true] at h1
  have h2 := List.all_eq_true.mp h1.1 j (List.mem_range.mpr hj)
  rw [Bool.and_eq_true, Bool.and_eq_true] at h2
  exact ⟨eq_of_beq h2.1, of_decide_eq_true h2.2.1, of_decide_eq_true h2.2.2⟩
theorem aStr_b {ci : Nat} (hc : 90 ≤ ci ∧ ci < 400) {j : Nat} (hj : j < (aStr ci).length) : (((aStr ci).getD j 0 &&& 255).toUInt32 % 65536).toInt32 = (aStr ci).getD j 0 ∧ narrow .char (.int ((aStr ci).getD j 0)) = .int ((aStr ci).getD j 0) := by
  obtain ⟨a1, a2, a3⟩ := aStr_r hc (Nat.lt_of_lt_of_le hj (aStr_len hc))
  exact ⟨a1, congrArg Value.int (j_nar a2 a3)⟩
section SJ2
variable {l : Launch} {ci a v : Nat} {i w : Int32}
theorem j_isL : jCon l jyIsL prog_27_method_154_code 1 (some .boolean) 0 [.ref a] (some (.int 1)) ci a v := by
  refine j_of (by decide) (fun p e s m below meth c hx hb hml hown hts hlk hret hJ => ?_)
  have hS : va_S jN s.heap s.heap [] := va_S.rf
  refine va_gets hx hb hJ.1 hS hown (hts _ jl_38) (fun _ z => z) (by decide +kernel) ?_
  refine lv_if_eq hx hb (off := 14) (tgt := 17) (by decide +kernel) (by decide) (fun h => absurd h (by decide)) (fun _ => ?_)
  refine lv_aload_n hx hb (k := 0) (i := 0) (x := a) (by decide +kernel) rfl rfl ?_
  refine vk_getf hx hb (hJ.2.2.1 0 (by decide)).2.1 hS hown (hts _ jl_15) (fun _ z => z) (by decide +kernel) ?_
  refine lv_if_ne hx hb (off := 7) (tgt := 17) (by decide +kernel) (by decide) (fun h => absurd rfl h) (fun _ => ?_)
  refine lv_iconst hx hb (n := 1) (v := 1) (by decide +kernel) rfl ?_
  refine lv_goto hx hb (off := 4) (tgt := 18) (by decide +kernel) (by decide) ?_
  exact j_zret hx hb hret rfl hlk (by decide +kernel)
theorem j_preN (h0 : ¬ i < 0) (h1 : i < w) : jCon l jyPre prog_39_method_11_code 3 (some .int) 0 [.int i, .int w, .null] (some (.int i)) ci a v := by
  refine j_of (by decide) (fun p e s m below meth c hx hb hml hown hts hlk hret hJ => ?_)
  refine lv_iload_n hx hb (k := 0) (i := 0) (x := i) (by decide +kernel) rfl rfl ?_
  refine lv_if_lt hx hb (off := 8) (tgt := 9) (by decide +kernel) (by decide) (fun h => absurd h h0) (fun _ => ?_)
  refine lv_iload_n hx hb (k := 0) (i := 0) (x := i) (by decide +kernel) rfl rfl ?_
  refine lv_iload_n hx hb (k := 1) (i := 1) (x := w) (by decide +kernel) rfl rfl ?_
  refine lv_icmp_lt hx hb (off := 10) (tgt := 16) (by decide +kernel) (by decide) (fun _ => ?_) (fun h => absurd h1 h)
  refine lv_iload_n hx hb (k := 0) (i := 0) (x := i) (by decide +kernel) rfl rfl ?_
  exact j_zret hx hb hret rfl hlk (by decide +kernel)
theorem j_preR {t : Nat} (h0 : ¬ i < 0) (h1 : i < w) : jCon l jyPre prog_39_method_11_code 3 (some .int) 0 [.int i, .int w, .ref t] (some (.int i)) ci a v := by
  refine j_of (by decide) (fun p e s m below meth c hx hb hml hown hts hlk hret hJ => ?_)
  refine lv_iload_n hx hb (k := 0) (i := 0) (x := i) (by decide +kernel) rfl rfl ?_
  refine lv_if_lt hx hb (off := 8) (tgt := 9) (by decide +kernel) (by decide) (fun h => absurd h h0) (fun _ => ?_)
  refine lv_iload_n hx hb (k := 0) (i := 0) (x := i) (by decide +kernel) rfl rfl ?_
  refine lv_iload_n hx hb (k := 1) (i := 1) (x := w) (by decide +kernel) rfl rfl ?_
  refine lv_icmp_lt hx hb (off := 10) (tgt := 16) (by decide +kernel) (by decide) (fun _ => ?_) (fun h => absurd h1 h)
  refine lv_iload_n hx hb (k := 0) (i := 0) (x := i) (by decide +kernel) rfl rfl ?_
  exact j_zret hx hb hret rfl hlk (by decide +kernel)
theorem j_chk (h0 : ¬ i < 0) (h1 : i < w) : jCon l jyChk prog_27_method_155_code 2 none 1 [.int i, .int w] none ci a v := by
  refine j_of (by decide) (fun p e s m below meth c hx hb hml hown hts hlk hret hJ => ?_)
  have hS : va_S jN s.heap s.heap [] := va_S.rf
  refine lv_iload_n hx hb (k := 0) (i := 0) (x := i) (by decide +kernel) rfl rfl ?_
  refine lv_iload_n hx hb (k := 1) (i := 1) (x := w) (by decide +kernel) rfl rfl ?_
  rcases hJ.2.1 with hz | ⟨t, hz⟩
  · refine va_gets hx hb hz hS hown (hts _ jl_1053) (fun _ z => z) (by decide +kernel) ?_
    refine j_callS (vs := [.int i, .int w, .null]) (rest := []) (own := "java/lang/String") hx hb hml hown hts hJ hS (j_preN h0 h1) jmPre jl_1059 js_Pre ⟨by decide, by decide⟩ rfl rfl (by decide) ⟨by decide, by decide⟩ (by decide +kernel) ?_
    refine lv_pop hx hb (by decide +kernel) rfl ?_
    exact j_vret hx hb hret hlk (by decide +kernel)
  · refine va_gets hx hb hz hS hown (hts _ jl_1053) (fun _ z => z) (by decide +kernel) ?_
    refine j_callS (vs := [.int i, .int w, .ref t]) (rest := []) (own := "java/lang/String") hx hb hml hown hts hJ hS (j_preR h0 h1) jmPre jl_1059 js_Pre ⟨by decide, by decide⟩ rfl rfl (by decide) ⟨by decide, by decide⟩ (by decide +kernel) ?_
    refine lv_pop hx hb (by decide +kernel) rfl ?_
    exact j_vret hx hb hret hlk (by decide +kernel)
end SJ2
