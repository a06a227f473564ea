/-! FROM THE START: what the tables and the premises say -/
section SGT
variable {p : Program} {l : Launch} {e : Env} {R : Room} {s : State} {m : MethodId} {args : Array Value} {below : List Frame} {meth : Method} {c : Code} {D : va_G} {ka : FieldType → ClassId} {sg : Nat → Nat} {A : Nat → Prop} {nL o d : Nat} {cc : ByteArray} {al ini : Bool} {call : aF} {hd : aD} {cd : List aI} {rt : Option FieldType} {hh : List (Nat × Nat × Nat × Nat)}
theorem g_to (B : aBd p l R s m args meth c D ka sg A nL o d cc al ini call hd cd rt hh) : ∀ (n : Nat) (t u : aS), aIt (aStep call aCls hd cd rt al) n t = some (.inl u) → (t.2.2.2.2.1 ≤ u.2.2.2.2.1 ∧ t.2.2.2.2.2 ≤ u.2.2.2.2.2) ∧ (u.2.2.2.2.1 ≤ R.cells → u.2.2.2.2.2 ≤ R.slots → ∀ Q, aSim p l e R s m args below meth c Q D ka sg A nL al u → aSim p l e R s m args below meth c Q D ka sg A nL al t)
  | 0, t, u, h => by
    cases h
    exact ⟨⟨Nat.le_refl _, Nat.le_refl _⟩, fun _ _ _ K => K⟩
  | n + 1, t, u, h => by
    cases hf : aStep call aCls hd cd rt al t with
    | none => rw [aIt_non hf] at h; cases h
    | some x =>
      cases x with
      | inl v =>
        rw [aIt_inl hf] at h
        obtain ⟨⟨k1, k2⟩, k3⟩ := g_one (e := e) (below := below) B hf
        obtain ⟨⟨k4, k5⟩, k6⟩ := g_to B n v u h
        exact ⟨⟨Nat.le_trans k1 k4, Nat.le_trans k2 k5⟩, fun g1 g2 Q K => k3 (Nat.le_trans k4 g1) (Nat.le_trans k5 g2) Q (k6 g1 g2 Q K)⟩
      | inr q =>
        rw [aIt_inr hf] at h
        cases h
end SGT
theorem va_RAof {args : Array Value} {s : State} {ty : FieldType} (h : (Cond.arrayClass ty).before args s = true) (hn : ∀ C, ty ≠ .object C) : ∃ cA : ClassId, ArrOfT s cA ty ∧ va_RA s cA ty := by
  obtain ⟨c, k, comp, h1, h2, h3⟩ := Cond.arrayClass_spec h
  refine ⟨c, fun n z => ⟨fun k h => (by cases h), k, h2, comp, h3⟩, ?_⟩
  cases ty with
  | object C => exact absurd rfl (hn C)
  | _ => exact h1
theorem va_RAofO {s : State} {C : String} (h : va_AO C s) : ∃ cA : ClassId, ArrOfT s cA (.object C) ∧ va_RA s cA (.object C) := by
  obtain ⟨comp, c, k, h1, h2, h3, h4, h5⟩ := Cond.arrayOver_spec h
  exact ⟨c, fun n z => ⟨fun k h => (by cases h), k, h3, comp, h4⟩, k, comp, h3, h4, h1, h5⟩
theorem va_RAofA {s : State} {t : FieldType} (h : va_AOA t s) : ∃ cA : ClassId, ArrOfT s cA (.array t) ∧ va_RA s cA (.array t) := by
  obtain ⟨comp, c, k, h1, h2, h3, h4, h5⟩ := arrayOverA_spec h
  exact ⟨c, fun n z => ⟨fun k h => (by cases h), k, h3, comp, h4⟩, h5⟩
/-- all the words of the premises -/
def lw_gv : List Cond := flatC (Cond.and given_1 narrow_1)
set_option maxRecDepth 100000 in
theorem gv_nc : ((List.range 6).all fun x => (List.range 6).all fun y => x == y || decide (Cond.not (.castable (aExc x) (aExc y)) ∈ lw_gv)) = true := by decide +kernel
set_option maxRecDepth 100000 in
theorem tb_ca : ((List.range 6).all fun x => decide (Cond.castable (aExc x) (aExc x) ∈ lw_tbl)) = true := by decide +kernel
set_option maxRecDepth 100000 in
theorem tb_dc : (aDecl.all fun y => decide (Cond.declares y ∈ lw_tbl)) = true := by decide +kernel
set_option maxRecDepth 100000 in
theorem tb_nf : (aNestF.all fun q => decide (Cond.fieldLinkNest q.1 q.2.1 RX7 q.2.2.1 q.2.2.2 RX7 ∈ lw_tbl)) = true := by decide +kernel
set_option maxRecDepth 100000 in
theorem tb_nm : (aNestM.all fun q => decide (Cond.methodLinkNest q.1 q.2.1 q.2.2 RX7 ∈ lw_tbl)) = true := by decide +kernel
set_option maxRecDepth 100000 in
theorem tb_st : (aStrs.all fun q => decide (Cond.stringRef RX7 q.1 q.2 ∈ lw_tbl ∧ Cond.exactly (.string RX7 q.1) "java/lang/String" ∈ lw_gv)) = true := by decide +kernel
set_option maxRecDepth 100000 in
theorem tb_s2 : Cond.stringRef RX8 193 "gsfiox" ∈ lw_tbl ∧ Cond.exactly (.string RX8 193) "java/lang/String" ∈ lw_gv ∧ Cond.stringRef RX8 229 "tgpfes" ∈ lw_tbl ∧ Cond.exactly (.string RX8 229) "java/lang/String" ∈ lw_gv := by decide +kernel
set_option maxRecDepth 100000 in
theorem tb_ar : Cond.arrayClass .int ∈ lw_tbl ∧ Cond.arrayClass .char ∈ lw_tbl ∧ Cond.arrayClass .long ∈ lw_tbl ∧ Cond.arrayClass .double ∈ lw_tbl ∧ Cond.arrayOver (.object RX6) ∈ lw_tbl ∧ Cond.arrayOver (.array .int) ∈ lw_tbl := by decide +kernel
set_option maxRecDepth 100000 in
theorem tb_zs : Cond.initialized RX7 ∈ lw_tbl ∧ Cond.initialized Bundle.tN ∈ lw_tbl ∧ Cond.laysStatic Bundle.tN "UNASSIGNED_STACK" Bundle.steD ∈ lw_tbl ∧ Cond.laysStatic Bundle.tN "SUPPRESSED_SENTINEL" Bundle.listD ∈ lw_tbl ∧ Cond.isRef (.static Bundle.tN "UNASSIGNED_STACK" Bundle.steD) ∈ lw_gv ∧ Cond.isRef (.static Bundle.tN "SUPPRESSED_SENTINEL" Bundle.listD) ∈ lw_gv := by decide +kernel
set_option maxRecDepth 100000 in
theorem tb_z5 : ((List.range 5).all fun i => decide (Cond.laysStatic RX7 (aGs i).1 (aGs i).2 ∈ lw_tbl)) = true := by decide +kernel
set_option maxRecDepth 100000 in
theorem tb_cl : (aCl.all fun r => decide (Cond.instantiable r.1 r.2.2 ∈ lw_tbl)) = true := by decide +kernel
