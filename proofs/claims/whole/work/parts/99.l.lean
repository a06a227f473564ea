/-! FROM THE START: what the tables and the premises say -/
section SGT
variable {p : Program} {l : Launch} {e : Env} {R : Room} {s : State} {m : MethodId} {args : Array Value} {below : List Frame} {meth : Method} {c : Code} {D : va_G} {ka : FieldType → ClassId} {sg : Nat → Nat} {A : Nat → Prop} {nL o d : Nat} {cc : ByteArray} {al ini : Bool} {call : aF} {hd : aD} {cd : List aI} {rt : Option FieldType} {hh : List (Nat × Nat × Nat × Nat)}
theorem g_to (B : aBd p l R s m args meth c D ka sg A nL o d cc al ini call hd cd rt hh) : ∀ (n : Nat) (t u : aS), aIt (aStep call aCls hd cd rt al) n t = some (.inl u) → (t.2.2.2.2.1 ≤ u.2.2.2.2.1 ∧ t.2.2.2.2.2 ≤ u.2.2.2.2.2) ∧ (u.2.2.2.2.1 ≤ R.cells → u.2.2.2.2.2 ≤ R.slots → ∀ Q, aSim p l e R s m args below meth c Q D ka sg A nL al u → aSim p l e R s m args below meth c Q D ka sg A nL al t)
  | 0, t, u, h => by
    cases h
    exact ⟨⟨Nat.le_refl _, Nat.le_refl _⟩, fun _ _ _ K => K⟩
  | n + 1, t, u, h => by
    cases hf : aStep call aCls hd cd rt al t with
    | none => rw [aIt_non hf] at h; cases h
    | some x =>
      cases x with
      | inl v =>
        rw [aIt_inl hf] at h
        obtain ⟨⟨k1, k2⟩, k3⟩ := g_one (e := e) (below := below) B hf
        obtain ⟨⟨k4, k5⟩, k6⟩ := g_to B n v u h
        exact ⟨⟨Nat.le_trans k1 k4, Nat.le_trans k2 k5⟩, fun g1 g2 Q K => k3 (Nat.le_trans k4 g1) (Nat.le_trans k5 g2) Q (k6 g1 g2 Q K)⟩
      | inr q =>
        rw [aIt_inr hf] at h
        cases h
end SGT
theorem va_RAof {args : Array Value} {s : State} {ty : FieldType} (h : (Cond.arrayClass ty).before args s = true) (hn : ∀ C, ty ≠ .object C) : ∃ cA : ClassId, ArrOfT s cA ty ∧ va_RA s cA ty := by
  obtain ⟨c, k, comp, h1, h2, h3⟩ := Cond.arrayClass_spec h
  refine ⟨c, fun n z => ⟨fun k h => (by cases h), k, h2, comp, h3⟩, ?_⟩
  cases ty with
  | object C => exact absurd rfl (hn C)
  | _ => exact h1
theorem va_RAofO {s : State} {C : String} (h : va_AO C s) : ∃ cA : ClassId, ArrOfT s cA (.object C) ∧ va_RA s cA (.object C) := by
  obtain ⟨comp, c, k, h1, h2, h3, h4, h5⟩ := Cond.arrayOver_spec h
  exact ⟨c, fun n z => ⟨fun k h => (by cases h), k, h3, comp, h4⟩, k, comp, h3, h4, h1, h5⟩
theorem va_RAofA {s : State} {t : FieldType} (h : va_AOA t s) : ∃ cA : ClassId, ArrOfT s cA (.array t) ∧ va_RA s cA (.array t) := by
  obtain ⟨comp, c, k, h1, h2, h3, h4, h5⟩ := arrayOverA_spec h
  exact ⟨c, fun n z => ⟨fun k h => (by cases h), k, h3, comp, h4⟩, h5⟩
/-- all the words of the premises -/
def lw_gv : List Cond := flatC (Cond.and given_1 narrow_1)
set_option maxRecDepth 100000 in
theorem gv_nc : ((List.range 6).all fun x => (List.range 6).all fun y => x == y || decide (Cond.not (.castable (aExc x) (aExc y)) ∈ lw_gv)) = true := by decide +kernel
set_option maxRecDepth 100000 in
theorem tb_ca : ((List.range 6).all fun x => decide (Cond.castable (aExc x) (aExc x) ∈ lw_tbl)) = true := by decide +kernel
set_option maxRecDepth 100000 in
theorem tb_dc : (aDecl.all fun y => decide (Cond.declares y ∈ lw_tbl)) = true := by decide +kernel
set_option maxRecDepth 100000 in
theorem tb_nf : (aNestF.all fun q => decide (Cond.fieldLinkNest q.1 q.2.1 RX7 q.2.2.1 q.2.2.2 RX7 ∈ lw_tbl)) = true := by decide +kernel
set_option maxRecDepth 100000 in
theorem tb_nm : (aNestM.all fun q => decide (Cond.methodLinkNest q.1 q.2.1 q.2.2 RX7 ∈ lw_tbl)) = true := by decide +kernel
set_option maxRecDepth 100000 in
theorem tb_st : (aStrs.all fun q => decide (Cond.stringRef RX7 q.1 q.2 ∈ lw_tbl ∧ Cond.exactly (.string RX7 q.1) "java/lang/String" ∈ lw_gv)) = true := by decide +kernel
set_option maxRecDepth 100000 in
theorem tb_s2 : Cond.stringRef RX8 193 "gsfiox" ∈ lw_tbl ∧ Cond.exactly (.string RX8 193) "java/lang/String" ∈ lw_gv ∧ Cond.stringRef RX8 229 "tgpfes" ∈ lw_tbl ∧ Cond.exactly (.string RX8 229) "java/lang/String" ∈ lw_gv := by decide +kernel
set_option maxRecDepth 100000 in
theorem tb_ar : Cond.arrayClass .int ∈ lw_tbl ∧ Cond.arrayClass .char ∈ lw_tbl ∧ Cond.arrayClass .long ∈ lw_tbl ∧ Cond.arrayClass .double ∈ lw_tbl ∧ Cond.arrayOver (.object RX6) ∈ lw_tbl ∧ Cond.arrayOver (.array .int) ∈ lw_tbl := by decide +kernel
set_option maxRecDepth 100000 in
theorem tb_zs : Cond.initialized RX7 ∈ lw_tbl ∧ Cond.initialized Bundle.tN ∈ lw_tbl ∧ Cond.laysStatic Bundle.tN "UNASSIGNED_STACK" Bundle.steD ∈ lw_tbl ∧ Cond.laysStatic Bundle.tN "SUPPRESSED_SENTINEL" Bundle.listD ∈ lw_tbl ∧ Cond.isRef (.static Bundle.tN "UNASSIGNED_STACK" Bundle.steD) ∈ lw_gv ∧ Cond.isRef (.static Bundle.tN "SUPPRESSED_SENTINEL" Bundle.listD) ∈ lw_gv := by decide +kernel
set_option maxRecDepth 100000 in
theorem tb_z5 : ((List.range 5).all fun i => decide (Cond.laysStatic RX7 (aGs i).1 (aGs i).2 ∈ lw_tbl)) = true := by decide +kernel
set_option maxRecDepth 100000 in
theorem tb_cl : (aCl.all fun r => decide (Cond.instantiable r.1 r.2.2 ∈ lw_tbl)) = true := by decide +kernel
def jSw (k ci : Nat) : Bool := decide (Cond.eq (.field (.string RX8 k) "java/lang/String" "coder" "B") (.int 0) ∈ lw_gv ∧ Cond.arrayOf (.field (.string RX8 k) "java/lang/String" "value" "[B") .byte ∈ lw_gv ∧ Cond.eq (.length (.field (.string RX8 k) "java/lang/String" "value" "[B")) (.int (Int32.ofNat 6)) ∈ lw_gv) && (List.range 6).all fun j => decide (Cond.eq (.elem (.field (.string RX8 k) "java/lang/String" "value" "[B") (.int (Int32.ofNat j))) (.int ((aStr ci).getD j 0)) ∈ lw_gv)
set_option maxRecDepth 100000 in
theorem jSw_ok : jSw 193 90 = true ∧ jSw 229 91 = true := by decide +kernel
set_option maxRecDepth 100000 in
theorem jSz : Cond.laysStatic "java/lang/String" "COMPACT_STRINGS" "Z" ∈ lw_tbl ∧ Cond.initialized "java/lang/String" ∈ lw_tbl ∧ Cond.eq (.static "java/lang/String" "COMPACT_STRINGS" "Z") (.int 1) ∈ lw_gv ∧ Cond.laysStatic "jdk/internal/util/Preconditions" "SIOOBE_FORMATTER" "Ljava/util/function/BiFunction;" ∈ lw_tbl ∧ Cond.initialized "jdk/internal/util/Preconditions" ∈ lw_tbl ∧ Cond.isRef (.static "jdk/internal/util/Preconditions" "SIOOBE_FORMATTER" "Ljava/util/function/BiFunction;") ∈ lw_gv := by decide +kernel
theorem st_js {args : Array Value} {s : State} (hts : ∀ w ∈ lw_tbl, w.before args s = true) (hg : ∀ w ∈ lw_gv, w.before args s = true) {A : Nat → Prop} (hA : ∀ a : Nat, a < s.heap.size → ¬ A a) {k ci : Nat} {tx : String} (h1 : (Cond.stringRef RX8 k tx).before args s = true) (h2 : (Cond.exactly (.string RX8 k) "java/lang/String").before args s = true) (hw : jSw k ci = true) : ∃ a v, vk_R RX8 k tx a s ∧ jStr ci a v A s s.heap := by
  unfold jSw at hw
  rw [Bool.and_eq_true] at hw
  obtain ⟨w1, w2, w3⟩ := of_decide_eq_true hw.1
  have w4 : ∀ j : Nat, j < 6 → Cond.eq (.elem (.field (.string RX8 k) "java/lang/String" "value" "[B") (.int (Int32.ofNat j))) (.int ((aStr ci).getD j 0)) ∈ lw_gv := fun j hj => of_decide_eq_true (List.all_eq_true.mp hw.2 j (List.mem_range.mpr hj))
  obtain ⟨z1, z2, z3, z4, z5, z6⟩ := jSz
  obtain ⟨adK, adV, hS, he⟩ := vk_Sof (args := args) (s := s) (N := 1) (tm := fun _ => .string RX8 k) (len := [6]) (byt := [aStr ci]) (A := A)
    (fun i hi => by
      obtain rfl : i = 0 := by omega
      decide) (fun i _ => h2) (fun i _ => hg _ w1) (fun i _ => hg _ w2)
    (fun i hi => by
      obtain rfl : i = 0 := by omega
      exact hg _ w3)
    (fun i hi j hj => by
      obtain rfl : i = 0 := by omega
      exact hg _ (w4 j hj)) (fun i j hi hj hij => absurd (by omega) hij) hA
  refine ⟨adK 0, adV 0, vk_R.of h1 (he 0 (by decide)), va_Zof (hts _ z1) (hts _ z2) (va_eqi (hg _ z3)) hA, va_Zqof (hts _ z4) (hts _ z5) (hg _ z6) hA, fun i hi => ?_, fun i j hi hj _ => by omega⟩
  obtain rfl : i = 0 := by omega
  exact hS.1 0 (by decide)
