/-! FROM THE START: what the tables and the premises say -/
theorem va_RAof {args : Array Value} {s : State} {ty : FieldType} (h : (Cond.arrayClass ty).before args s = true) (hn : ∀ C, ty ≠ .object C) : ∃ cA : ClassId, ArrOfT s cA ty ∧ va_RA s cA ty := by
  obtain ⟨c, k, comp, h1, h2, h3⟩ := Cond.arrayClass_spec h
  refine ⟨c, fun n z => ⟨fun k h => (by cases h), k, h2, comp, h3⟩, ?_⟩
  cases ty with
  | object C => exact absurd rfl (hn C)
  | _ => exact h1
theorem va_RAofO {s : State} {C : String} (h : va_AO C s) : ∃ cA : ClassId, ArrOfT s cA (.object C) ∧ va_RA s cA (.object C) := by
  obtain ⟨comp, c, k, h1, h2, h3, h4, h5⟩ := Cond.arrayOver_spec h
  exact ⟨c, fun n z => ⟨fun k h => (by cases h), k, h3, comp, h4⟩, k, comp, h3, h4, h1, h5⟩
theorem va_RAofA {s : State} {t : FieldType} (h : va_AOA t s) : ∃ cA : ClassId, ArrOfT s cA (.array t) ∧ va_RA s cA (.array t) := by
  obtain ⟨comp, c, k, h1, h2, h3, h4, h5⟩ := arrayOverA_spec h
  exact ⟨c, fun n z => ⟨fun k h => (by cases h), k, h3, comp, h4⟩, h5⟩
/-- all the words of the premises -/
def lw_gv : List Cond := flatC (Cond.and given_1 narrow_1)
set_option maxRecDepth 100000 in
theorem gv_nc : ((List.range 6).all fun x => (List.range 5).all fun y => x == y || decide (Cond.not (.castable (aExc x) (aExc y)) ∈ lw_gv)) = true := by decide +kernel
set_option maxRecDepth 100000 in
theorem tb_ca : ((List.range 6).all fun x => decide (Cond.castable (aExc x) (aExc x) ∈ lw_tbl)) = true := by decide +kernel
set_option maxRecDepth 100000 in
theorem tb_dc : (aDecl.all fun y => decide (Cond.declares y ∈ lw_tbl)) = true := by decide +kernel
set_option maxRecDepth 100000 in
theorem tb_nf : (aNestF.all fun q => decide (Cond.fieldLinkNest q.1 q.2.1 RX7 q.2.2.1 q.2.2.2 RX7 ∈ lw_tbl)) = true := by decide +kernel
set_option maxRecDepth 100000 in
theorem tb_nm : (aNestM.all fun q => decide (Cond.methodLinkNest q.1 q.2.1 q.2.2 RX7 ∈ lw_tbl)) = true := by decide +kernel
set_option maxRecDepth 100000 in
theorem tb_st : (aStrs.all fun q => decide (Cond.stringRef RX7 q.1 q.2 ∈ lw_tbl ∧ Cond.exactly (.string RX7 q.1) "java/lang/String" ∈ lw_gv)) = true := by decide +kernel
set_option maxRecDepth 100000 in
theorem tb_s2 : Cond.stringRef RL 198 "gsfiox" ∈ lw_tbl := by decide +kernel
set_option maxRecDepth 100000 in
theorem tb_tx : (aTxt.all fun q => decide (Cond.stringRef RL q.1 q.2.1 ∈ lw_tbl)) = true := by decide +kernel
set_option maxRecDepth 100000 in
theorem tb_ar : Cond.arrayClass .int ∈ lw_tbl ∧ Cond.arrayClass .char ∈ lw_tbl ∧ Cond.arrayClass .long ∈ lw_tbl ∧ Cond.arrayOver (.object RX6) ∈ lw_tbl ∧ Cond.arrayOver (.array .int) ∈ lw_tbl := by decide +kernel
set_option maxRecDepth 100000 in
theorem tb_zs : Cond.initialized RX7 ∈ lw_tbl ∧ Cond.initialized Bundle.tN ∈ lw_tbl ∧ Cond.laysStatic Bundle.tN "UNASSIGNED_STACK" Bundle.steD ∈ lw_tbl ∧ Cond.laysStatic Bundle.tN "SUPPRESSED_SENTINEL" Bundle.listD ∈ lw_tbl ∧ Cond.isRef (.static Bundle.tN "UNASSIGNED_STACK" Bundle.steD) ∈ lw_gv ∧ Cond.isRef (.static Bundle.tN "SUPPRESSED_SENTINEL" Bundle.listD) ∈ lw_gv := by decide +kernel
set_option maxRecDepth 100000 in
theorem tb_z5 : ((List.range 5).all fun i => decide (Cond.laysStatic RX7 (aGs i).1 (aGs i).2 ∈ lw_tbl)) = true := by decide +kernel
set_option maxRecDepth 100000 in
theorem tb_cl : (aCl.all fun r => decide (Cond.instantiable r.1 r.2.2 ∈ lw_tbl)) = true := by decide +kernel
/-- the premises' words by their places (wip/p38/gv.py prints them) -/
theorem gv_at {i : Nat} {c : Cond} (h : decide (lw_gv[i]? = some c) = true) : c ∈ lw_gv := List.mem_of_getElem? (of_decide_eq_true h)
def jSw (k ci b : Nat) : Bool := decide (lw_gv[b]? = some (Cond.exactly (.string RL k) "java/lang/String")) && (decide (lw_gv[b + 1]? = some (Cond.eq (.field (.string RL k) "java/lang/String" "coder" "B") (.int 0))) && (decide (lw_gv[b + 2]? = some (Cond.arrayOf (.field (.string RL k) "java/lang/String" "value" "[B") .byte)) && (decide (lw_gv[b + 3]? = some (Cond.eq (.length (.field (.string RL k) "java/lang/String" "value" "[B")) (.int (Int32.ofNat (aStr ci).length)))) && (List.range (aStr ci).length).all fun j => decide (lw_gv[b + 4 + j]? = some (Cond.eq (.elem (.field (.string RL k) "java/lang/String" "value" "[B") (.int (Int32.ofNat j))) (.int ((aStr ci).getD j 0)))))))
def aTxp (k : Nat) : Nat := if k = 247 then 830 else if k = 255 then 849 else if k = 257 then 872 else if k = 259 then 896 else 943
set_option maxRecDepth 100000 in
theorem jSw_ok : jSw 198 90 658 = true ∧ (aTxt.all fun q => jSw q.1 q.2.2 (aTxp q.1)) = true := by decide +kernel
set_option maxRecDepth 100000 in
theorem tb_dg : Cond.laysStatic "java/lang/Integer" "DigitOnes" "[B" ∈ lw_tbl ∧ Cond.initialized "java/lang/Integer" ∈ lw_tbl := by decide +kernel
set_option maxRecDepth 100000 in
theorem tb_d2 : decide (lw_gv[47]? = some (Cond.arrayOf (.static "java/lang/Integer" "DigitOnes" "[B") .byte)) = true ∧ decide (lw_gv[48]? = some (Cond.eq (.length (.static "java/lang/Integer" "DigitOnes" "[B")) (.int (Int32.ofNat 100)))) = true := by decide +kernel
set_option maxRecDepth 100000 in
theorem tb_d5 : ((List.range 100).all fun j => decide (lw_gv[49 + j]? = some (Cond.eq (.elem (.static "java/lang/Integer" "DigitOnes" "[B") (.int (Int32.ofNat j))) (.int (dg1 j))))) = true := by decide +kernel
set_option maxRecDepth 100000 in
theorem jSz : Cond.laysStatic "java/lang/String" "COMPACT_STRINGS" "Z" ∈ lw_tbl ∧ Cond.initialized "java/lang/String" ∈ lw_tbl ∧ Cond.eq (.static "java/lang/String" "COMPACT_STRINGS" "Z") (.int 1) ∈ lw_gv ∧ Cond.laysStatic "jdk/internal/util/Preconditions" "SIOOBE_FORMATTER" "Ljava/util/function/BiFunction;" ∈ lw_tbl ∧ Cond.initialized "jdk/internal/util/Preconditions" ∈ lw_tbl ∧ Cond.isRef (.static "jdk/internal/util/Preconditions" "SIOOBE_FORMATTER" "Ljava/util/function/BiFunction;") ∈ lw_gv := by decide +kernel
theorem st_js {args : Array Value} {s : State} (hts : ∀ w ∈ lw_tbl, w.before args s = true) (hg : ∀ w ∈ lw_gv, w.before args s = true) {A : Nat → Prop} (hA : ∀ a : Nat, a < s.heap.size → ¬ A a) {k ci b : Nat} {tx : String} (h1 : (Cond.stringRef RL k tx).before args s = true) (hw : jSw k ci b = true) (h13 : (aStr ci).length ≤ 13) : ∃ a v, vk_R RL k tx a s ∧ jStr ci a v A s s.heap := by
  unfold jSw at hw
  rw [Bool.and_eq_true, Bool.and_eq_true, Bool.and_eq_true, Bool.and_eq_true] at hw
  have h2 := hg _ (gv_at hw.1)
  have w1 := gv_at hw.2.1
  have w2 := gv_at hw.2.2.1
  have w3 := gv_at hw.2.2.2.1
  have w4 : ∀ j : Nat, j < (aStr ci).length → Cond.eq (.elem (.field (.string RL k) "java/lang/String" "value" "[B") (.int (Int32.ofNat j))) (.int ((aStr ci).getD j 0)) ∈ lw_gv := fun j hj => gv_at (List.all_eq_true.mp hw.2.2.2.2 j (List.mem_range.mpr hj))
  obtain ⟨z1, z2, z3, z4, z5, z6⟩ := jSz
  obtain ⟨adK, adV, hS, he⟩ := vk_Sof (args := args) (s := s) (N := 1) (tm := fun _ => .string RL k) (len := [(aStr ci).length]) (byt := [aStr ci]) (A := A)
    (fun i hi => by
      obtain rfl : i = 0 := by omega
      show (aStr ci).length < 2 ^ 31
      omega) (fun i _ => h2) (fun i _ => hg _ w1) (fun i _ => hg _ w2)
    (fun i hi => by
      obtain rfl : i = 0 := by omega
      exact hg _ w3)
    (fun i hi j hj => by
      obtain rfl : i = 0 := by omega
      exact hg _ (w4 j hj)) (fun i j hi hj hij => absurd (by omega) hij) hA
  refine ⟨adK 0, adV 0, vk_R.of h1 (he 0 (by decide)), va_Zof (hts _ z1) (hts _ z2) (va_eqi (hg _ z3)) hA, va_Zqof (hts _ z4) (hts _ z5) (hg _ z6) hA, fun i hi => ?_, fun i j hi hj _ => by omega⟩
  obtain rfl : i = 0 := by omega
  exact hS.1 0 (by decide)
/-- a private method's selection by a class below its own -/
theorem sel_priv {C : String} {y : MethodName} {s : State} {args : Array Value} {n : Nat} (hy : y.cls ≠ "java/lang/invoke/MethodHandle" ∧ y.cls ≠ "java/lang/invoke/VarHandle")
    (hins : (Cond.instantiable C n).before args s = true) (hpriv : (Cond.privateMethod y).before args s = true) (hinst : (Cond.instanceMethod y).before args s = true) (hsame : (Cond.sameMethod y.cls y.cls y.name y.desc).before args s = true) :
    (Cond.selects C y y).before args s = true := by
  obtain ⟨c, k, hc, hk, -, hniab, -, -⟩ := Cond.instantiable_spec hins
  have hni : k.isInterface = false := (Bool.or_eq_false_iff.mp hniab).1
  obtain ⟨mk, methM, hnamed, hmethM, -, -⟩ := Cond.instanceMethod_spec hinst
  have hfound : s.methodFound? y.cls y.name y.desc = some mk := State.methodFound?_of_named hnamed hy
  have hsel : selectMethod {} s.vm c mk = .method mk := selectMethod_private hmethM (Cond.privateMethod_at hpriv mk methM hnamed hmethM)
  obtain ⟨-, kM, hkM, hiM⟩ := Cond.sameMethod_spec (findClass_of_methodNamed hnamed) hfound hsame
  simp only [Cond.before, Cond.holds, Cond.value, hc, hfound, hnamed, hsel, hk, hkM, hiM, hni]
  simp [hk, hkM, hiM, hni]
set_option maxRecDepth 100000 in
theorem tb_pv : ((aPvB.all fun y => decide (Cond.privateMethod y ∈ lw_tbl) && decide (Cond.instanceMethod y ∈ lw_tbl) && decide (Cond.sameMethod y.cls y.cls y.name y.desc ∈ lw_tbl)) && decide (Cond.instantiable "java/lang/StringBuilder" 4 ∈ lw_tbl)) = true := by decide +kernel
theorem st_pv {s : State} {args : Array Value} (hts : ∀ w ∈ lw_tbl, w.before args s = true) : ∀ y, y ∈ aPvB → va_Nw (.selects "java/lang/StringBuilder" y y) s := fun y hy => by
  have hk := tb_pv
  rw [Bool.and_eq_true] at hk
  have h := List.all_eq_true.mp hk.1 y hy
  rw [Bool.and_eq_true, Bool.and_eq_true] at h
  refine va_Nw.of rfl (sel_priv (n := 4) ?_ (hts _ (of_decide_eq_true hk.2)) (hts _ (of_decide_eq_true h.1.1)) (hts _ (of_decide_eq_true h.1.2)) (hts _ (of_decide_eq_true h.2)))
  have hc : y.cls = "java/lang/AbstractStringBuilder" := by
    simp only [List.mem_cons, List.not_mem_nil, or_false] at hy
    rcases hy with rfl | rfl | rfl <;> rfl
  rw [hc]
  decide
