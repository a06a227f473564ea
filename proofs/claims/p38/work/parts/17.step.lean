/-! ONE STEP IS SOUND -/
def aLen : Instr → Nat
  | .bipush _ | .ldc _ | .iload _ | .aload _ | .fload _ | .dload _ | .istore _ | .astore _ | .fstore _ | .dstore _ | .newarray _ => 2
  | .sipush _ | .iinc _ _ | .ifCond _ _ | .if_icmp _ _ | .goto _ | .getfield _ | .putfield _ | .getstatic _ | .anewarray _ | .new _ | .invokevirtual _ | .invokestatic _ | .invokespecial _ | .ldc_w _ | .ldc2_w _ | .ifnull _ => 3
  | .multianewarray _ _ => 4
  | .tableswitch _ _ _ _ | .lookupswitch _ _ => 0
  | _ => 1
def aDec (cc : ByteArray) (pc : Nat) (i : Instr) : Bool := match decode cc pc with
  | .ok (j, n) => decide (j = i) && (aLen i == 0 || n == aLen i)
  | .error _ => false
theorem aDec_ex {cc : ByteArray} {pc : Nat} {i : Instr} (h : aDec cc pc i = true) : ∃ n, decode cc pc = .ok (i, n) ∧ (aLen i = 0 ∨ n = aLen i) := by
  unfold aDec at h
  split at h
  · rename_i j n hd
    rw [Bool.and_eq_true, Bool.or_eq_true] at h
    have e := of_decide_eq_true h.1
    subst e
    exact ⟨n, hd, h.2.imp eq_of_beq eq_of_beq⟩
  · cases h
theorem aDec_n {cc : ByteArray} {pc n : Nat} {i : Instr} (h : aDec cc pc i = true) (hn : aLen i = n + 1) : decode cc pc = .ok (i, n + 1) := by
  obtain ⟨k, h1, h2⟩ := aDec_ex h
  rcases h2 with h2 | h2
  · rw [h2] at hn
    cases hn
  · rw [h1, h2, hn]
theorem aD1 {cc : ByteArray} {pc : Nat} {i : Instr} (h : aDec cc pc i = true) (hn : aLen i = 1) : decode cc pc = .ok (i, 1) := aDec_n h hn
theorem aD2 {cc : ByteArray} {pc : Nat} {i : Instr} (h : aDec cc pc i = true) (hn : aLen i = 2) : decode cc pc = .ok (i, 2) := aDec_n h hn
theorem aD3 {cc : ByteArray} {pc : Nat} {i : Instr} (h : aDec cc pc i = true) (hn : aLen i = 3) : decode cc pc = .ok (i, 3) := aDec_n h hn
theorem aD4 {cc : ByteArray} {pc : Nat} {i : Instr} (h : aDec cc pc i = true) (hn : aLen i = 4) : decode cc pc = .ok (i, 4) := aDec_n h hn
def aF4 (o idx a b : Nat) : Bool := aFtab.any fun e => e.1 == o && (e.2.1 == idx && (e.2.2.1 == a && e.2.2.2.1 == b))
def aL4 (o idx kind a : Nat) : Bool := aLtab.any fun e => e.1 == o && (e.2.1 == idx && (e.2.2.1 == kind && e.2.2.2.1 == a))
def aN3 (o idx a : Nat) : Bool := aNtab.any fun e => e.1 == o && (e.2.1 == idx && e.2.2.1 == a)
def aG3 (o idx a : Nat) : Bool := aGtab.any fun e => e.1 == o && (e.2.1 == idx && e.2.2.1 == a)
/-- a call's number of arguments, and whether it has handlers; st: is the method static -/
def aArg (a b st : Nat) (wh ini : Bool) : Bool := decide (a < 165) && (match aMtab[a]?, aProg[a]?, aYs[a]? with
  | some (_, _, _, _, np, s), some (o, _, hd, rt, _), some (y, _) => s == st && (b == np + (1 - st) && (hd.isEmpty == !wh && (if st = 1 then true else decide (o < 8) && (if ini then y.name == "<init>" && rt.isNone else y.name != "<init>"))))
  | _, _, _ => false)
def aThw (cc : ByteArray) (pc a b : Nat) (v : Int32) : Bool := decide (100 ≤ a ∧ a < 106) && (aStrs.any (fun q => q.1 == b) && (aDec cc (pc + 3) .dup && (if v = 0 then aDec cc (pc + 4) (.ldc b) && (aDec cc (pc + 6) (.invokespecial (aIc (a - 100))) && aDec cc (pc + 9) .athrow) else aDec cc (pc + 4) (.ldc_w b) && (aDec cc (pc + 7) (.invokespecial (aIc (a - 100))) && aDec cc (pc + 10) .athrow))))
def aI4t (o idx : Nat) (v : Int32) : Bool := aItab.any fun e => e.1 == o && (e.2.1 == idx && e.2.2.1 == v)
def aJ4t (o idx : Nat) (v : Int32) : Bool := aJtab.any fun e => e.1 == o && (e.2.1 == idx && e.2.2.1 == v)
/-- is the instruction at a place the one that the bytes hold, and do its numbers stand in the tables -/
def aOkI (o : Nat) (ini : Bool) (cc : ByteArray) (pc : Nat) (i : Instr) (a b : Nat) (v : Int32) : Bool := match i with
  | .nop => true
  | .iconst n => aDec cc pc i && decide (Int32.ofInt n = v)
  | .bipush n => aDec cc pc i && decide ((Int8.ofInt n).toInt32 = v)
  | .sipush n => aDec cc pc i && decide ((Int16.ofInt n).toInt32 = v)
  | .ldc idx => aDec cc pc i && ((b == 1 && aI4t o idx v) || (b != 1 && (o == 9 && (idx == 198 && a == 6))))
  | .ldc2_w idx => aDec cc pc i && aJ4t o idx v
  | .iinc _ z => aDec cc pc i && decide (Int32.ofInt z = v)
  | .ifCond _ off => aDec cc pc i && decide ((pc : Int) + off = (a : Int))
  | .if_icmp _ off => aDec cc pc i && decide ((pc : Int) + off = (a : Int))
  | .goto off => aDec cc pc i && decide ((pc : Int) + off = (a : Int))
  | .tableswitch off _ _ _ => aDec cc pc i && decide ((pc : Int) + off = (a : Int))
  | .lookupswitch _ ps => aDec cc pc i && (ps.toList.zip (ps.toList.drop 1)).all (fun (a, next) => a.1 < next.1)
  | .getfield idx => aDec cc pc i && aF4 o idx a b
  | .putfield idx => aDec cc pc i && (aF4 o idx a b && (match aCl[a]? with
    | some rc => !(rc.2.1 b).2.2.2 || (ini && decide ((rc.2.1 b).1 = aOwn o))
    | none => false))
  | .getstatic idx => aDec cc pc i && aG3 o idx a
  | .anewarray idx => aDec cc pc i && (o == 0 && idx == 9)
  | .multianewarray idx d => aDec cc pc i && (o == 4 && (idx == 15 && d == 2))
  | .new idx => aDec cc pc i && (a == 999 || aN3 o idx a && (decide (a < 100) || (o == 7 && aThw cc pc a b v)))
  | .invokevirtual idx => aDec cc pc i && ((a == 503 && aL4 o idx 10 503) || ((a == 505 && aL4 o idx 11 505) || (aL4 o idx 0 a && aArg a b 0 false false)))
  | .invokestatic idx => aDec cc pc i && ((a == 500 && aL4 o idx 6 500) || ((a == 501 && aL4 o idx 7 501) || ((a == 502 && aL4 o idx 8 502) || ((aL4 o idx 1 a && aArg a b 1 false false) || (v == 1 && ((aL4 o idx 4 a && aArg a b 1 false false) || (aL4 o idx 5 a && aArg a b 1 true false)))))))
  | .invokespecial idx => aDec cc pc i && ((a == 600 && aL4 o idx 9 600) || (v == 1 && ((aL4 o idx 2 a && aArg a b 0 false true) || (aL4 o idx 3 a && aArg a b 0 false true))))
  | _ => aDec cc pc i
theorem aF4_ok {o idx a b : Nat} (h : aF4 o idx a b = true) : ∃ rc : vw_C, aCl[a]? = some rc ∧ b < rc.2.2 ∧ Cond.fieldLink (aOwn o) idx (rc.2.1 b).1 (rc.2.1 b).2.1 (rc.2.1 b).2.2.1 ∈ aWg := by
  obtain ⟨e, he, h⟩ := List.any_eq_true.mp h
  simp only [Bool.and_eq_true, beq_iff_eq] at h
  obtain ⟨e1, e2, e3, e4, e5⟩ := e
  obtain ⟨rfl, rfl, rfl, rfl⟩ := h
  have h2 := List.all_eq_true.mp aFtab_ok _ he
  unfold aFok at h2
  dsimp only at h2
  split at h2
  · rename_i rc hrc
    rw [Bool.and_eq_true] at h2
    exact ⟨rc, hrc, of_decide_eq_true h2.1, aIs_in h2.2⟩
  · cases h2
theorem aG3_ok {o idx a : Nat} (h : aG3 o idx a = true) : a < 5 ∧ ((aOwn o, idx, (aGs a).1, (aGs a).2) ∈ aNestF ∨ Cond.fieldLink (aOwn o) idx RX7 (aGs a).1 (aGs a).2 ∈ aWg) := by
  obtain ⟨e, he, h⟩ := List.any_eq_true.mp h
  simp only [Bool.and_eq_true, beq_iff_eq] at h
  obtain ⟨e1, e2, e3, e4⟩ := e
  obtain ⟨rfl, rfl, rfl⟩ := h
  have h2 := List.all_eq_true.mp aGtab_ok _ he
  unfold aGok at h2
  dsimp only at h2
  rw [Bool.and_eq_true] at h2
  refine ⟨of_decide_eq_true h2.1, ?_⟩
  have h3 := h2.2
  split at h3
  · exact Or.inl (of_decide_eq_true h3)
  · exact Or.inr (aIs_in h3)
theorem aN3_ok {o idx a : Nat} (h : aN3 o idx a = true) (ha : a < 100) : ∃ rc : vw_C, aCl[a]? = some rc ∧ Cond.classLink (aOwn o) idx rc.1 ∈ aWg ∧ Cond.initialized rc.1 ∈ aWg ∧ Cond.instantiable rc.1 rc.2.2 ∈ aWg := by
  obtain ⟨e, he, h⟩ := List.any_eq_true.mp h
  simp only [Bool.and_eq_true, beq_iff_eq] at h
  obtain ⟨e1, e2, e3, e4, e5, e6⟩ := e
  obtain ⟨rfl, rfl, rfl⟩ := h
  have h2 := List.all_eq_true.mp aNtab_ok _ he
  unfold aNok at h2
  dsimp only at h2
  rw [if_neg (Nat.not_le.mpr ha)] at h2
  split at h2
  · rename_i rc hrc
    rw [Bool.and_eq_true, Bool.and_eq_true] at h2
    exact ⟨rc, hrc, aIs_in h2.1, aIs_in h2.2.1, aIs_in h2.2.2⟩
  · cases h2
theorem aN3_ex {o idx a : Nat} (h : aN3 o idx a = true) (ha : 100 ≤ a) : o = 7 ∧ a < 106 ∧ Cond.classLink (aOwn o) idx (aExc (a - 100)) ∈ aWg ∧ Cond.initialized (aExc (a - 100)) ∈ aWg := by
  obtain ⟨e, he, h⟩ := List.any_eq_true.mp h
  simp only [Bool.and_eq_true, beq_iff_eq] at h
  obtain ⟨e1, e2, e3, e4, e5, e6⟩ := e
  obtain ⟨rfl, rfl, rfl⟩ := h
  have h2 := List.all_eq_true.mp aNtab_ok _ he
  unfold aNok at h2
  dsimp only at h2
  rw [if_pos ha, Bool.and_eq_true, Bool.and_eq_true] at h2
  obtain ⟨q1, q2⟩ := of_decide_eq_true h2.1
  exact ⟨q1, q2, aIs_in h2.2.1, aIs_in h2.2.2⟩
theorem aI4t_ok {o idx : Nat} {v : Int32} (h : aI4t o idx v = true) : Cond.constant (aOwn o) idx v ∈ aWg := by
  obtain ⟨e, he, h⟩ := List.any_eq_true.mp h
  simp only [Bool.and_eq_true, beq_iff_eq] at h
  obtain ⟨e1, e2, e3, e4⟩ := e
  obtain ⟨rfl, rfl, rfl⟩ := h
  exact aIs_in (List.all_eq_true.mp aItab_ok _ he)
theorem aJ4t_ok {o idx : Nat} {v : Int32} (h : aJ4t o idx v = true) : Cond.constantLong (aOwn o) idx v.toInt64 ∈ aWg := by
  obtain ⟨e, he, h⟩ := List.any_eq_true.mp h
  simp only [Bool.and_eq_true, beq_iff_eq] at h
  obtain ⟨e1, e2, e3, e4⟩ := e
  obtain ⟨rfl, rfl, rfl⟩ := h
  exact aIs_in (List.all_eq_true.mp aJtab_ok _ he)
theorem aL4_ok {o idx kind a : Nat} (h : aL4 o idx kind a = true) : ∃ p, aLok (o, idx, kind, a, p) = true := by
  obtain ⟨e, he, h⟩ := List.any_eq_true.mp h
  simp only [Bool.and_eq_true, beq_iff_eq] at h
  obtain ⟨e1, e2, e3, e4, e5⟩ := e
  obtain ⟨rfl, rfl, rfl, rfl⟩ := h
  exact ⟨e5, List.all_eq_true.mp aLtab_ok _ he⟩
/-- what the tables say of a method -/
theorem aMok_spec {m : Nat} (h : m < 165) : ∃ (o : Nat) (cd : List aI) (hd : aD) (rt : Option FieldType) (n : Nat) (y : MethodName) (b : ByteArray) (np st : Nat), aProg[m]? = some (o, cd, hd, rt, n) ∧ aYs[m]? = some (y, b) ∧ (∃ q1 q2 q3 q4, aMtab[m]? = some (q1, q2, q3, q4, np, st)) ∧ y.cls = aOwn o ∧ plainName y.cls = true ∧ n ≤ 40 ∧ (parseMethodDescriptor y.desc).map (fun d => d.parameters.length) = some np ∧ np + (1 - st) ≤ n ∧
    (if hd.isEmpty = true then Cond.code y b n rt ∈ aWg else Cond.codeWith y b n rt (aHh m) ∈ aWg ∧ aHm (aOwn o) (aHh m) hd = true) ∧ Cond.initialized y.cls ∈ aWg ∧ (if st = 1 then Cond.static y ∈ aWg else Cond.instanceMethod y ∈ aWg ∧ (y.name ≠ "<init>" → Cond.selects y.cls y y ∈ aWg)) := by
  have h1 := aMok_all m h
  unfold aMok at h1
  split at h1
  · rename_i o cd hd rt n y b q1 q2 q3 q4 np st e1 e2 e3
    simp only [Bool.and_eq_true, decide_eq_true_eq] at h1
    obtain ⟨g1, g2, ⟨g3, g5⟩, g4, g6, g7, g8⟩ := h1
    refine ⟨o, cd, hd, rt, n, y, b, np, st, e1, e2, ⟨q1, q2, q3, q4, e3⟩, g1, g2, g3, g4, g5, ?_, aIs_in g7, ?_⟩
    · cases hd with
      | nil => exact aIs_in g6
      | cons z r =>
        rw [Bool.and_eq_true] at g6
        exact ⟨aIs_in g6.1, g6.2⟩
    · by_cases hs : st = 1
      · rw [if_pos hs] at g8 ⊢
        exact aIs_in g8
      · rw [if_neg hs] at g8 ⊢
        rw [Bool.and_eq_true, Bool.or_eq_true] at g8
        refine ⟨aIs_in g8.1, fun hn => ?_⟩
        rcases g8.2 with q | q
        · exact absurd (eq_of_beq q) hn
        · exact aIs_in q
  · cases h1
theorem aOwn_ne (o : Nat) : aOwn o ≠ "java/lang/invoke/MethodHandle" ∧ aOwn o ≠ "java/lang/invoke/VarHandle" := by
  match o with
  | 0 => decide
  | 1 => decide
  | 2 => decide
  | 3 => decide
  | 4 => decide
  | 5 => decide
  | 6 => decide
  | 7 => decide
  | 8 => decide
  | n + 9 => exact (by decide : RL ≠ "java/lang/invoke/MethodHandle" ∧ RL ≠ "java/lang/invoke/VarHandle")
/-- all of a method's instructions stand in the tables -/
def aOkM (a : Nat) : Bool := match aProg[a]?, aYs[a]? with
  | some (o, cd, _, _, _), some (y, b) => cd.zipIdx.all fun q => aOkI o (y.name == "<init>") b q.2 q.1.1 q.1.2.1 q.1.2.2.1 q.1.2.2.2
  | _, _ => false
