/-! Arrays.copyOfRange, over a builder's bytes -/
def RAS : String := "java/util/Arrays"
def kyChk : MethodName := ⟨RAS, "checkLength", "(II)V"⟩
def kyByt : MethodName := ⟨RAS, "copyOfRangeByte", "([BII)[B"⟩
def kyRng : MethodName := ⟨RAS, "copyOfRange", "([BII)[B"⟩
def bW6 : List Cond := [.code kyChk prog_36_method_131_code 2 none, .code kyByt prog_36_method_133_code 5 (some (.array .byte)), .code kyRng prog_36_method_132_code 3 (some (.array .byte)), .code Lib.Math.min.name Lib.Math.min.code 2 (some .int), .static kyChk, .static kyByt, .static kyRng, .static Lib.Math.min.name, .initialized RAS, .initialized "java/lang/Math",
  .methodLink RAS 343 kyChk, .methodLink RAS 339 kyByt, .methodLink RAS 304 Lib.Math.min.name, .methodLink RAS 150 arraycopyName, .methodLink "java/lang/String" 54 kyRng]
set_option maxRecDepth 100000 in
theorem bW6_ok : (bW6.all fun w => decide (w ∈ aWg)) = true := by decide +kernel
theorem bw6 {w : Cond} (h : w ∈ bW6) : w ∈ bWg := bWg_a (of_decide_eq_true (List.all_eq_true.mp bW6_ok w h))
abbrev bMs (y : MethodName) (b : ByteArray) (nl : Nat) (rt : Option FieldType) (np : Nat) : Prop := Cond.code y b nl rt ∈ bWg ∧ Cond.initialized y.cls ∈ bWg ∧ y.cls ≠ "java/lang/invoke/MethodHandle" ∧ y.cls ≠ "java/lang/invoke/VarHandle" ∧ (parseMethodDescriptor y.desc).map (fun d => d.parameters.length) = some np
theorem kmChk : bMs kyChk prog_36_method_131_code 2 none 2 := ⟨bw6 (by decide +kernel), bw6 (by decide +kernel), by decide, by decide, by decide +kernel⟩
theorem kmByt : bMs kyByt prog_36_method_133_code 5 (some (.array .byte)) 3 := ⟨bw6 (by decide +kernel), bw6 (by decide +kernel), by decide, by decide, by decide +kernel⟩
theorem kmRng : bMs kyRng prog_36_method_132_code 3 (some (.array .byte)) 3 := ⟨bw6 (by decide +kernel), bw6 (by decide +kernel), by decide, by decide, by decide +kernel⟩
theorem kmMin : bMs Lib.Math.min.name Lib.Math.min.code 2 (some .int) 2 := ⟨bw6 (by decide +kernel), bw6 (by decide +kernel), by decide, by decide, by decide +kernel⟩
theorem kl_343 : Cond.methodLink RAS 343 kyChk ∈ bWg ∧ Cond.static kyChk ∈ bWg := ⟨bw6 (by decide +kernel), bw6 (by decide +kernel)⟩
theorem kl_339 : Cond.methodLink RAS 339 kyByt ∈ bWg ∧ Cond.static kyByt ∈ bWg := ⟨bw6 (by decide +kernel), bw6 (by decide +kernel)⟩
theorem kl_304 : Cond.methodLink RAS 304 Lib.Math.min.name ∈ bWg ∧ Cond.static Lib.Math.min.name ∈ bWg := ⟨bw6 (by decide +kernel), bw6 (by decide +kernel)⟩
theorem kl_54 : Cond.methodLink "java/lang/String" 54 kyRng ∈ bWg ∧ Cond.static kyRng ∈ bWg := ⟨bw6 (by decide +kernel), bw6 (by decide +kernel)⟩
theorem kl_150 : Cond.methodLink RAS 150 arraycopyName ∈ bWg := bw6 (by decide +kernel)
section SBK
variable {l : Launch} {n sb v : Nat} {D : va_G} {cA : ClassId} {f : Nat → Int32} {tx : Option (List Int32 × Nat × Nat)} {i j : Int32}
theorem k_chk (h : i ≤ j) : bCon l kyChk prog_36_method_131_code 2 none 0 [.int i, .int j] none D cA sb v n f n f tx := by
  refine b_of (by decide) (fun p e s m below meth c hx hb hml hown hts hlk hret hP hK => ?_)
  have hS : va_S (bA sb v) s.heap s.heap [] := va_S.rf
  refine lv_iload_n hx hb (k := 1) (i := 1) (x := j) (by decide +kernel) rfl rfl ?_
  refine lv_iload_n hx hb (k := 0) (i := 0) (x := i) (by decide +kernel) rfl rfl ?_
  refine lv_icmp_ge hx hb (off := 35) (tgt := 37) (by decide +kernel) (by decide) (fun _ => ?_) (fun q => absurd h q)
  exact b_vret hx hb hret hlk hP hS (by decide +kernel)
end SBK
