/-! THE TABLES' WORDS, AND WHAT IS KNOWN OF A STATE -/
def aWg : List Cond := lw_tbl.filter goodWord
abbrev aTys : List FieldType := [.int, .char, .long, .object RX6, .array .int]
def aExc (x : Nat) : String := match x with
  | 0 => "java/lang/IllegalArgumentException"
  | 1 => "java/lang/UnsupportedOperationException"
  | 2 => "java/lang/IndexOutOfBoundsException"
  | 3 => "java/util/NoSuchElementException"
  | 4 => "java/lang/IllegalStateException"
  | _ => "java/lang/ArithmeticException"
/-- static arrays: the place of each in the heap -/
def aGs (i : Nat) : String × String := match i with
  | 0 => ("SIZES", "[I")
  | 1 => ("MELTING_HEATS", "[I")
  | 2 => ("LEAST_VALUES", "[I")
  | 3 => ("MOST_VALUES", "[I")
  | _ => ("SIGNS", "[C")
/-- reads of a static of the host's, by a nest mate: class, number, name, descriptor -/
abbrev aNestF : List (String × Nat × String × String) := [(RX5, 43, "SIZES", "[I"), (RX5, 46, "MELTING_HEATS", "[I"), (RX6, 73, "LEAST_VALUES", "[I"), (RX6, 76, "MOST_VALUES", "[I"), (RX6, 86, "SIZES", "[I")]
abbrev aNestM : List (String × Nat × MethodName) := [(RX7, 9, yX2_init), (RX6, 17, yX5_init), (RX6, 24, yX3_init), (RX6, 31, yX1_init), (RX6, 38, yX2_init), (RX7, 25, yX4_init), (RX6, 69, yX7_isFrom)]
abbrev aStrs : List (Nat × String) := [(157, "the saggar is on the floor"), (172, "there is nothing to fire"), (188, "the text buffer is full"), (206, "the text has a fault"), (223, "there is no such reason"), (249, "no ware was fired"), (258, "there is no saggar in the kiln"), (263, "there is no change to undo"), (285, "there is no such ware, saggar, bung or order"), (288, "an argument is out of range"), (298, "it is refused; refusal tells the reason"), (314, "there is no such ware"), (317, "there is no such saggar"), (320, "there is no such order"), (326, "a number is out of range")]
/-- the texts' parts: number, text, which -/
abbrev aTxt : List (Nat × String × Nat) := [(247, "t", 91), (255, "*2;e", 92), (257, ";f12", 93), (259, "0", 94), (265, "", 95)]
abbrev aDecl : List MethodName := [Bundle.initS "java/lang/RuntimeException", Bundle.initS "java/lang/Exception", Bundle.initS Bundle.tN]
/-- private methods of the builders, as a builder's own calls find them -/
abbrev aPvB : List MethodName := [⟨"java/lang/AbstractStringBuilder", "ensureCapacityInternal", "(I)V"⟩, ⟨"java/lang/AbstractStringBuilder", "putStringAt", "(ILjava/lang/String;)V"⟩, ⟨"java/lang/AbstractStringBuilder", "inflateIfNeededFor", "(Ljava/lang/String;)V"⟩]
/-- what the tables say (it stays when the machine goes on) -/
def aKt (D : va_G) (ka : FieldType → ClassId) (sg : Nat → Nat) (U : State) : Prop :=
  (∀ (ci : Nat) (r : vw_C), aCl[ci]? = some r → u_Kn U r.1 r.2.1 r.2.2 (D.1 ci) (D.2 ci)) ∧
  (∀ ty, ty ∈ aTys → ArrOfT U (ka ty) ty ∧ va_RA U (ka ty) ty) ∧
  (∀ q, q ∈ aNestF → va_Nw (.fieldLinkNest q.1 q.2.1 RX7 q.2.2.1 q.2.2.2 RX7) U) ∧
  (∀ q, q ∈ aNestM → va_Nw (.methodLinkNest q.1 q.2.1 q.2.2 RX7) U) ∧
  (∀ q, q ∈ aStrs → ∃ a, vk_R RX7 q.1 q.2 a U) ∧
  vk_R RL 198 "gsfiox" (sg 6) U ∧ (∀ y, y ∈ aPvB → va_Nw (.selects "java/lang/StringBuilder" y y) U) ∧
  (∀ x y : Nat, x < 6 → y < 5 → x ≠ y → va_Nc (aExc x) (aExc y) U) ∧ va_AO RX6 U ∧ va_AOA .int U ∧ (∀ x : Nat, x < 6 → va_Nw (.castable (aExc x) (aExc x)) U) ∧ (∀ y, y ∈ aDecl → va_Nw (.declares y) U)
/-- digits as letters: a static array of the JDK's -/
def dg1 (j : Nat) : Int32 := Int32.ofNat (48 + j % 10)
def aDg (A : Nat → Prop) (U : State) (H : Heap) : Prop := ∃ t : Nat, va_Z "java/lang/Integer" "DigitOnes" "[B" (.ref t) A U H ∧ va_T .byte t 100 (fun j => .int (dg1 j)) A U H
theorem aDg.moved {A : Nat → Prop} {u U : State} {H : Heap} (hvm : u.vm.Alike U.vm) (h : aDg A u H) : aDg A U H := h.elim fun t q => ⟨t, q.1.moved hvm, q.2.moved hvm⟩
theorem aDg.kept {A : Nat → Prop} {U : State} {H H1 : Heap} (h : aDg A U H) (hq : ∀ a : Nat, a < H.size → ¬ A a → H1[a]? = H[a]?) : aDg A U H1 := h.elim fun t q => ⟨t, q.1.kept hq, q.2.kept hq⟩
/-- what the heap says of statics, all where nothing may be written -/
def aKh (sg : Nat → Nat) (A : Nat → Prop) (U : State) (H : Heap) : Prop :=
  (∀ i : Nat, i < 5 → va_Z RX7 (aGs i).1 (aGs i).2 (.ref (sg i)) A U H) ∧
  vx_Zq Bundle.tN "UNASSIGNED_STACK" Bundle.steD A U H ∧ vx_Zq Bundle.tN "SUPPRESSED_SENTINEL" Bundle.listD A U H ∧
  (∀ q, q ∈ aTxt → ∃ a v, vk_R RL q.1 q.2.1 a U ∧ jStr q.2.2 a v A U H) ∧ aDg A U H
def aKn (D : va_G) (ka : FieldType → ClassId) (sg : Nat → Nat) (A : Nat → Prop) (U : State) : Prop := aKt D ka sg U ∧ aKh sg A U U.heap
theorem aYc_moved {C T : String} {u U : State} (hvm : u.vm.Alike U.vm) (h : va_Nw (.castable C T) u) : va_Nw (.castable C T) U := by
  obtain ⟨c, t, h1, h2, h3⟩ := Cond.castable_spec (args := #[]) h
  have f1 : U.vm.findClass C = some c := by rw [hvm.findClass]; exact h1
  have f2 : U.vm.findClass T = some t := by rw [hvm.findClass]; exact h2
  have f3 : U.vm.assignable c t = true := by rw [hvm.assignable]; exact h3
  unfold va_Nw
  simp [Cond.before, Cond.holds, Cond.value, f1, f2, f3]
theorem aKt.warm {D : va_G} {ka : FieldType → ClassId} {sg : Nat → Nat} {s U : State} (hW : s.WarmedH U.vm) (h : aKt D ka sg s) : aKt D ka sg U := by
  obtain ⟨h1, h2, h3, h4, h5, h6, h7, h8, h9, h10, h11, h12⟩ := h
  refine ⟨fun ci r hc => u_Kn_moved hW.alike (h1 ci r hc), fun ty ht => ⟨arrOfT_moved hW.alike (h2 ty ht).1, (h2 ty ht).2.moved hW.alike⟩, fun q hq => va_Nw.warmF hW (h3 q hq), fun q hq => va_Nw.warmM hW (h4 q hq), fun q hq => ?_, vk_R.warm hW h6, fun y hy => Cond.onTables_warm (args' := #[]) (T := U) hW rfl rfl (h7 y hy), fun x y hx hy hn => va_Nc.moved hW.alike (h8 x y hx hy hn), va_AO.moved hW.alike h9, va_AOA.moved hW.alike h10, fun x hx => aYc_moved hW.alike (h11 x hx), fun y hy => va_Nw.warmD hW (h12 y hy)⟩
  obtain ⟨a, ha⟩ := h5 q hq
  exact ⟨a, vk_R.warm hW ha⟩
theorem aKt.same {D : va_G} {ka : FieldType → ClassId} {sg : Nat → Nat} {s U : State} (hv : U.vm = s.vm) (h : aKt D ka sg s) : aKt D ka sg U := by
  obtain ⟨h1, h2, h3, h4, h5, h6, h7, h8, h9, h10, h11, h12⟩ := h
  have hW : s.vm.Alike U.vm := by rw [hv]; exact Vm.Alike.refl _
  refine ⟨fun ci r hc => u_Kn_moved hW (h1 ci r hc), fun ty ht => ⟨arrOfT_moved hW (h2 ty ht).1, (h2 ty ht).2.moved hW⟩, fun q hq => va_Nw.same rfl hv.symm (h3 q hq), fun q hq => va_Nw.same rfl hv.symm (h4 q hq), fun q hq => ?_, vk_R.same hv h6, fun y hy => va_Nw.same rfl hv.symm (h7 y hy), fun x y hx hy hn => va_Nc.moved hW (h8 x y hx hy hn), va_AO.moved hW h9, va_AOA.moved hW h10, fun x hx => aYc_moved hW (h11 x hx), fun y hy => va_Nw.same rfl hv.symm (h12 y hy)⟩
  obtain ⟨a, ha⟩ := h5 q hq
  exact ⟨a, vk_R.same hv ha⟩
theorem aKh.moved {sg : Nat → Nat} {A : Nat → Prop} {s U : State} {H H1 : Heap} (hvm : s.vm.Alike U.vm) (hR : ∀ k tx a, vk_R RL k tx a s → vk_R RL k tx a U) (hq : ∀ a : Nat, a < H.size → ¬ A a → H1[a]? = H[a]?) (h : aKh sg A s H) : aKh sg A U H1 :=
  ⟨fun i hi => ((h.1 i hi).kept hq).moved hvm, vx_Zq.moved hvm (h.2.1.kept hq), vx_Zq.moved hvm (h.2.2.1.kept hq), fun q hm => (h.2.2.2.1 q hm).elim fun a ha => ha.elim fun v hv => ⟨a, v, hR _ _ _ hv.1, (hv.2.kept hq).moved hvm⟩, (h.2.2.2.2.kept hq).moved hvm⟩
/-- a call's start -/
def aPc (D : va_G) (ka : FieldType → ClassId) (sg : Nat → Nat) (A : Nat → Prop) (al : Bool) (args : List Value) (h : aH) : Array Value → State → Prop := fun v U =>
  v = (args.map (aCv sg)).toArray ∧ aRel D ka sg A U h U.heap ∧ aKn D ka sg A U ∧ (∀ q : Nat, U.heap.size ≤ q → A q) ∧ (al = true → ∀ j : Nat, sg (h.length + j) = U.heap.size + j)
/-- its end, returned -/
def aQc (D : va_G) (ka : FieldType → ClassId) (sg : Nat → Nat) (A : Nat → Prop) (al : Bool) (r : aR) : Array Value → State → Outcome → State → Prop := fun _ st o t =>
  ∃ v, r.1 = .inl v ∧ o = .returned (v.map (aCv sg)) ∧ aRel D ka sg A t r.2.1 t.heap ∧ va_F A st t ∧ (al = true → ∀ j : Nat, sg (r.2.1.length + j) = t.heap.size + j)
/-- and thrown -/
def aXC (D : va_G) (ka : FieldType → ClassId) (sg : Nat → Nat) (A : Nat → Prop) (al : Bool) (r : aR) : String → State → State → Prop := fun E st t =>
  ∃ x, r.1 = .inr x ∧ x < 6 ∧ E = aExc x ∧ aRel D ka sg A t r.2.1 t.heap ∧ va_F A st t ∧ (al = true → ∀ j : Nat, sg (r.2.1.length + j) = t.heap.size + j)
theorem aPc.blind {D : va_G} {ka : FieldType → ClassId} {sg : Nat → Nat} {A : Nat → Prop} {al : Bool} {args : List Value} {h : aH} : FrameBlind (aPc D ka sg A al args h) := by
  intro a U g mk q
  obtain ⟨q1, q2, q3, q4, q5⟩ := q
  exact ⟨q1, aRel.moved (U := U.calling g mk a) (Vm.Alike.refl U.vm) q2, ⟨aKt.same (U := U.calling g mk a) rfl q3.1, aKh.moved (U := U.calling g mk a) (Vm.Alike.refl U.vm) (fun k tx a h => vk_R.same rfl h) (fun _ _ _ => rfl) q3.2⟩, q4, q5⟩
/-- methods: their names and bytes -/
abbrev aYs : List (MethodName × ByteArray) := [(yX0_init, cX0_init), (yX0_keep, cX0_keep), (yX0_exchangeLatest, cX0_exchangeLatest), (yX1_init, cX1_init), (yX1_copyFrom, cX1_copyFrom), (yX1_has, cX1_has), (yX1_add, cX1_add), (yX1_ask, cX1_ask), (yX1_askedOf, cX1_askedOf), (yX1_countSold, cX1_countSold), (yX1_countSoldOf, cX1_countSoldOf), (yX1_numberOf, cX1_numberOf), (yX2_init, cX2_init), (yX2_copyFrom, cX2_copyFrom), (yX2_refuse, cX2_refuse), (yX2_note, cX2_note), (yX2_noteAhead, cX2_noteAhead), (yX3_init, cX3_init), (yX3_copyFrom, cX3_copyFrom), (yX3_has, cX3_has), (yX3_add, cX3_add), (yX3_place, cX3_place), (yX3_isInKiln, cX3_isInKiln), (yX3_at, cX3_at), (yX3_above, cX3_above), (yX3_below, cX3_below), (yX3_heatThere, cX3_heatThere), (yX3_countInKiln, cX3_countInKiln), (yX4_init, cX4_init), (yX4_isFull, cX4_isFull), (yX4_add, cX4_add), (yX4_clear, cX4_clear), (yX4_parse, cX4_parse), (yX4_passStep, cX4_passStep), (yX4_passSign, cX4_passSign), (yX4_passNumber, cX4_passNumber), (yX5_init, cX5_init), (yX5_copyFrom, cX5_copyFrom), (yX5_has, cX5_has), (yX5_add, cX5_add), (yX5_sizeOf, cX5_sizeOf), (yX5_needOf, cX5_needOf), (yX5_isGlazed, cX5_isGlazed), (yX5_meltingHeatOf, cX5_meltingHeatOf), (yX5_flowAt, cX5_flowAt), (yX5_takeOut, cX5_takeOut), (yX5_isInStore, cX5_isInStore), (yX5_countInStore, cX5_countInStore), (yX5_countInState, cX5_countInState), (yX5_countSold, cX5_countSold), (yX5_countOfGrade, cX5_countOfGrade), (yX5_countFired, cX5_countFired), (yX5_countIn, cX5_countIn), (yX5_sizeIn, cX5_sizeIn), (yX5_sizeOfAll, cX5_sizeOfAll), (yX5_numberOf, cX5_numberOf), (yX6_init, cX6_init), (yX6_copyFrom, cX6_copyFrom), (yX6_changeSetting, cX6_changeSetting), (yX6_buyClay, cX6_buyClay), (yX6_throwWares, cX6_throwWares), (yX6_coatWare, cX6_coatWare), (yX6_addSaggar, cX6_addSaggar), (yX6_standInKiln, cX6_standInKiln), (yX6_standOnFloor, cX6_standOnFloor), (yX6_putWare, cX6_putWare), (yX6_fireWares, cX6_fireWares), (yX6_emptySaggar, cX6_emptySaggar), (yX6_addOrder, cX6_addOrder), (yX6_sellSet, cX6_sellSet), (yX6_noteFailedStep, cX6_noteFailedStep), (yX6_sellAllSets, cX6_sellAllSets), (yX6_setsByDivision, cX6_setsByDivision), (yX6_lackingKind, cX6_lackingKind), (yX6_countFor, cX6_countFor), (yX6_takeSet, cX6_takeSet), (yX6_isThereToFire, cX6_isThereToFire), (yX6_firstsBy, cX6_firstsBy), (yX6_isToFire, cX6_isToFire), (yX6_gradeByFiring, cX6_gradeByFiring), (yX6_gradeAt, cX6_gradeAt), (yX6_weightOf, cX6_weightOf), (yX6_roomIn, cX6_roomIn), (yX6_overloadedBelow, cX6_overloadedBelow), (yX6_weightAbove, cX6_weightAbove), (yX6_weightOfRestOfBung, cX6_weightOfRestOfBung), (yX6_sumOfLoads, cX6_sumOfLoads), (yX6_numberOfSaggar, cX6_numberOfSaggar), (yX6_accountOf, cX6_accountOf), (yX6_isClayBalanced, cX6_isClayBalanced), (yX6_areSalesBalanced, cX6_areSalesBalanced), (yX6_areLoadsBalanced, cX6_areLoadsBalanced), (yX7_init, cX7_init), (yX7_set, cX7_set), (yX7_clay, cX7_clay), (yX7_cast, cX7_cast), (yX7_glaze, cX7_glaze), (yX7_saggar, cX7_saggar), (yX7_stack, cX7_stack), (yX7_unstack, cX7_unstack), (yX7_put, cX7_put), (yX7_fire, cX7_fire), (yX7_empty, cX7_empty), (yX7_order, cX7_order), (yX7_sell, cX7_sell), (yX7_ware, cX7_ware), (yX7_saggarOf, cX7_saggarOf), (yX7_load, cX7_load), (yX7_loadAgain, cX7_loadAgain), (yX7_orderOf, cX7_orderOf), (yX7_sign, cX7_sign), (yX7_store, cX7_store), (yX7_heatAt, cX7_heatAt), (yX7_wouldBe, cX7_wouldBe), (yX7_bestHeat, cX7_bestHeat), (yX7_sets, cX7_sets), (yX7_setsAgain, cX7_setsAgain), (yX7_append, cX7_append), (yX7_read, cX7_read), (yX7_refusal, cX7_refusal), (yX7_account, cX7_account), (yX7_isBalanced, cX7_isBalanced), (yX7_firstShare, cX7_firstShare), (yX7_meanLoad, cX7_meanLoad), (yX7_undo, cX7_undo), (yX7_freshDraft, cX7_freshDraft), (yX7_settle, cX7_settle), (yX7_doStep, cX7_doStep), (yX7_needWare, cX7_needWare), (yX7_needSaggar, cX7_needSaggar), (yX7_needOrder, cX7_needOrder), (yX7_needRange, cX7_needRange), (yX7_isFrom, cX7_isFrom), (yL_cell, cL_cell), (yL_set, cL_set), (yL_clay, cL_clay), (yL_cast, cL_cast), (yL_glaze, cL_glaze), (yL_saggar, cL_saggar), (yL_stack, cL_stack), (yL_unstack, cL_unstack), (yL_put, cL_put), (yL_fire, cL_fire), (yL_empty, cL_empty), (yL_order, cL_order), (yL_sell, cL_sell), (yL_ware, cL_ware), (yL_of, cL_of), (yL_heatAt, cL_heatAt), (yL_wouldBe, cL_wouldBe), (yL_best, cL_best), (yL_append, cL_append), (yL_reads, cL_reads), (yL_read, cL_read), (yL_refusal, cL_refusal), (yL_undo, cL_undo), (yL_drawn, cL_drawn), (yL_stacks, cL_stacks), (yL_store, cL_store), (yL_stores, cL_stores), (yL_sets, cL_sets), (yL_sells, cL_sells), (yL_fires, cL_fires), (yL_sum, cL_sum), (yL_undone, cL_undone)]
/-- handlers as the tables have them -/
def aHh (m : Nat) : List (Nat × Nat × Nat × Nat) := match m with
  | 134 => [(0, 6, 7, 14)]
  | 135 => [(0, 5, 6, 14), (0, 5, 9, 20)]
  | 136 => [(0, 7, 8, 14), (0, 7, 12, 20)]
  | 137 => [(0, 7, 8, 29), (0, 7, 12, 14), (0, 7, 17, 20)]
  | 138 => [(0, 4, 5, 20)]
  | 139 => [(0, 7, 8, 29), (0, 7, 12, 14), (0, 7, 17, 20)]
  | 140 => [(0, 5, 6, 29), (0, 5, 9, 20)]
  | 141 => [(0, 6, 7, 29), (0, 6, 10, 20)]
  | 142 => [(0, 5, 6, 14), (0, 5, 9, 20)]
  | 143 => [(0, 5, 6, 29), (0, 5, 9, 20)]
  | 144 => [(0, 13, 14, 14), (0, 13, 18, 20)]
  | 145 => [(0, 5, 6, 29), (0, 5, 9, 20)]
  | 146 => [(0, 6, 7, 29), (0, 6, 11, 14)]
  | 147 => [(0, 6, 7, 29), (0, 6, 11, 14)]
  | 148 => [(0, 6, 7, 29), (0, 6, 10, 14), (0, 6, 14, 66)]
  | 149 => [(0, 6, 7, 29), (0, 6, 10, 14)]
  | 150 => [(0, 5, 6, 66)]
  | 151 => [(0, 5, 6, 79)]
  | 152 => [(0, 4, 5, 14), (0, 4, 8, 20)]
  | 154 => [(0, 6, 7, 14), (0, 6, 10, 66)]
  | 155 => [(0, 4, 5, 79)]
  | 158 => [(0, 7, 8, 14)]
  | 160 => [(0, 17, 18, 29)]
  | _ => []
/-- the room of a method that calls d deep -/
def aRm (d : Nat) (k : aK) : Room := { frames := d + 6, cells := k.1, slots := k.2, locals := 60 * d + 160 }
def aWs (m : Nat) : List Cond := match aProg[m]?, aYs[m]? with
  | some (_, _, [], rt, n), some (y, b) => Cond.code y b n rt :: aWg
  | some (_, _, hd, rt, n), some (y, b) => Cond.codeWith y b n rt (aHh m) :: aWg
  | _, _ => []
