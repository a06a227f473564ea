/-! A TEXT IS MADE, in 'undone': what is known there, and step by step -/
def xW : List Cond := [.code byI0 prog_28_method_1_code 1 none, .instanceMethod byI0, .initialized RSB, .methodLink RL 246 byI0, .classLink RL 244 RSB, .instantiable RSB 4,
  .code byAp1 prog_28_method_7_code 2 (some (.object RSB)), .methodLink RL 249 byAp1, .instanceMethod byAp1, .selects RSB byAp1 byAp1,
  .code byAp2 prog_28_method_15_code 2 (some (.object RSB)), .methodLink RL 252 byAp2, .instanceMethod byAp2, .selects RSB byAp2 byAp2,
  .methodLink RL 261 syTo, .methodLink RL 267 yL_read, .static yL_read, .initialized RL, .code yL_read cL_read 3 (some .int)]
set_option maxRecDepth 100000 in
theorem xW_ok : (xW.all fun w => decide (w ∈ aWg)) = true := by decide +kernel
theorem xw {w : Cond} (h : w ∈ xW) : w ∈ bWg := bWg_a (of_decide_eq_true (List.all_eq_true.mp xW_ok w h))
theorem xwa {w : Cond} (h : w ∈ xW) : w ∈ aWg := of_decide_eq_true (List.all_eq_true.mp xW_ok w h)
theorem xm_I0 : Cond.code byI0 prog_28_method_1_code 1 none ∈ bWg ∧ Cond.instanceMethod byI0 ∈ bWg ∧ Cond.initialized byI0.cls ∈ bWg ∧ Cond.methodLink RL 246 byI0 ∈ bWg := ⟨xw (by decide +kernel), xw (by decide +kernel), xw (by decide +kernel), xw (by decide +kernel)⟩
theorem xl_n : Cond.classLink RL 244 RSB ∈ bWg ∧ Cond.instantiable RSB 4 ∈ bWg ∧ Cond.initialized RSB ∈ bWg := ⟨xw (by decide +kernel), xw (by decide +kernel), xw (by decide +kernel)⟩
theorem xm_1 : bMs byAp1 prog_28_method_7_code 2 (some (.object RSB)) 1 := ⟨xw (by decide +kernel), xw (by decide +kernel), by decide, by decide, by decide +kernel⟩
theorem xl_1 : Cond.methodLink RL 249 byAp1 ∈ bWg ∧ Cond.instanceMethod byAp1 ∈ bWg ∧ Cond.selects byAp1.cls byAp1 byAp1 ∈ bWg := ⟨xw (by decide +kernel), xw (by decide +kernel), xw (by decide +kernel)⟩
theorem xm_2 : bMs byAp2 prog_28_method_15_code 2 (some (.object RSB)) 1 := ⟨xw (by decide +kernel), xw (by decide +kernel), by decide, by decide, by decide +kernel⟩
theorem xl_2 : Cond.methodLink RL 252 byAp2 ∈ bWg ∧ Cond.instanceMethod byAp2 ∈ bWg ∧ Cond.selects byAp2.cls byAp2 byAp2 ∈ bWg := ⟨xw (by decide +kernel), xw (by decide +kernel), xw (by decide +kernel)⟩
theorem xm_t : bMs syTo prog_28_method_42_code 1 (some (.object RST)) 0 := ⟨bw7 (by decide +kernel), bw7 (by decide +kernel), by decide, by decide, by decide +kernel⟩
theorem xl_t : Cond.methodLink RL 261 syTo ∈ bWg ∧ Cond.instanceMethod syTo ∈ bWg ∧ Cond.selects syTo.cls syTo syTo ∈ bWg := ⟨xw (by decide +kernel), bw7 (by decide +kernel), bw7 (by decide +kernel)⟩
/-- the builder at sb holds those letters -/
def bLt (D : va_G) (cA : ClassId) (sb v : Nat) (tl : List Int32) (H : Heap) : Prop := ∃ f, va_P D bCl (bWs cA sb v tl.length f) H ∧ ∀ i, i < tl.length → f i = tl.getD i 0
theorem bLt.kept {D : va_G} {cA : ClassId} {sb v : Nat} {tl : List Int32} {H H1 : Heap} (h : bLt D cA sb v tl H) (hs : H1[sb]? = H[sb]?) (hv : H1[v]? = H[v]?) : bLt D cA sb v tl H1 := by
  obtain ⟨f, hP, hf⟩ := h
  refine ⟨f, hP.kept (fun k q hq => ?_), hf⟩
  match k, hq with
  | 0, hq => cases hq; exact hs
  | 1, hq => cases hq; exact hv
  | k + 2, hq => cases hq
theorem bLt.lt {D : va_G} {cA : ClassId} {sb v : Nat} {tl : List Int32} {H : Heap} (h : bLt D cA sb v tl H) : sb < H.size ∧ v < H.size := by
  obtain ⟨f, hP, -⟩ := h
  exact ⟨(hP 0 _ rfl).lt, (hP 1 _ rfl).lt⟩
theorem let_s {tl t : List Int32} {f : Nat → Int32} (hf : ∀ i, i < tl.length → f i = tl.getD i 0) : ∀ i, i < (tl ++ t).length → va_cpy (fun j => t.getD j 0) f 0 tl.length t.length i = (tl ++ t).getD i 0 := by
  intro i hi
  rw [List.length_append] at hi
  unfold va_cpy
  rw [List.getD_eq_getElem?_getD]
  by_cases c : i < tl.length
  · rw [if_neg (by omega), hf i c, List.getElem?_append_left c, List.getD_eq_getElem?_getD]
  · rw [if_pos (by omega), List.getElem?_append_right (by omega), Nat.zero_add]
    show t.getD (i - tl.length) 0 = _
    rw [List.getD_eq_getElem?_getD]
theorem let_d {tl : List Int32} {x : Int32} {f : Nat → Int32} (hf : ∀ i, i < tl.length → f i = tl.getD i 0) : ∀ i, i < (tl ++ [x]).length → upd f tl.length x i = (tl ++ [x]).getD i 0 := by
  intro i hi
  rw [List.length_append] at hi
  have hi : i < tl.length + 1 := hi
  unfold upd
  rw [List.getD_eq_getElem?_getD]
  by_cases c : i < tl.length
  · rw [if_neg (by omega), hf i c, List.getElem?_append_left c, List.getD_eq_getElem?_getD]
  · obtain rfl : i = tl.length := by omega
    rw [if_pos rfl, List.getElem?_append_right (Nat.le_refl _), Nat.sub_self]
    rfl
theorem fit_at {t : List Int32} (h : ∀ x ∈ t, fits .byte (.int x) = true) : ∀ i, i < t.length → fits .byte (.int (t.getD i 0)) = true := fun i hi => by
  rw [List.getD_eq_getElem?_getD, List.getElem?_eq_getElem hi]
  exact h _ (List.getElem_mem hi)
/-- what is known of 'undone' -/
def xCx (p : Program) (s : State) (m : MethodId) (args : Array Value) (c : Code) (D : va_G) (cA : ClassId) (A : Nat → Prop) (R : Room) : Prop :=
  p.tables.exec = Jvm.exec ∧ c.code = cL_undone ∧ s.vm.findClass RL = some m.cls ∧ (∀ w ∈ bWg, w.before args s = true) ∧ va_K D sCl [(cA, .byte)] s ∧ s.vm.findClass "[B" = some cA ∧
  va_Z "java/lang/String" "COMPACT_STRINGS" "Z" (.int 1) A s s.heap ∧ va_Zq "jdk/internal/util/Preconditions" "SIOOBE_FORMATTER" "Ljava/util/function/BiFunction;" A s s.heap ∧ aDg A s s.heap ∧ (∀ q : Nat, s.heap.size ≤ q → A q) ∧ 7 ≤ R.frames ∧ 220 ≤ R.locals
section XST
variable {p : Program} {l : Launch} {e : Env} {R : Room} {s : State} {m : MethodId} {args : Array Value} {below : List Frame} {meth : Method} {c : Code} {H : Heap} {locs : List Loc} {Q : State → Prop} {A B : Nat → Prop}
variable {pc k1 k2 sb v a w x q o : Nat} {L : Array Slot} {rest : List Value} {D : va_G} {cA : ClassId} {tl t : List Int32} {tx : Option (List Int32 × Nat × Nat)} {f : Nat → Int32}
theorem x_kn (X : xCx p s m args c D cA A R) (hS : va_S A s.heap H locs) (hB : ∀ q, B q → A q) (ht : ∀ x, tx = some x → gStr x.1 x.2.1 x.2.2 B s H) : bKn D cA B tx s H := by
  obtain ⟨-, -, -, -, hKs, -, hZ, -, hdg, -⟩ := X
  refine ⟨⟨fun k q hq => ?_, hKs.2⟩, (hZ.kept hS.2.1).narrow hB, (hdg.kept hS.2.1).elim (fun t q => ⟨t, q.1.narrow hB, q.2.narrow hB⟩), ht⟩
  match k, hq with
  | 0, hq => cases hq; exact hKs.1 0 _ rfl
  | k + 1, hq => cases hq
/-- a String's cells hold those letters -/
theorem x_g (X : xCx p s m args c D cA A R) (hS : va_S A s.heap H locs) (hO : va_P D sCl [sO q (.ref w), sB cA w tl.length f] H) (hf : ∀ i, i < tl.length → f i = tl.getD i 0) (hB : ∀ q, B q → A q) (hq : ¬ B q) (hw : ¬ B w) : gStr tl q w B s H := by
  obtain ⟨-, -, -, hts, hKs, -, hZ, hZq, -⟩ := X
  refine ⟨(hZ.kept hS.2.1).narrow hB, (hZq.kept hS.2.1).narrow hB, fun i hi => ?_, fun i j hi hj _ => by omega⟩
  obtain rfl : i = 0 := by omega
  have hKn := hKs.1 1 _ rfl
  obtain ⟨hsl, hfc, kC, hkC, hkind⟩ := hKn
  obtain ⟨r, hr, cell, g1, g2, g3, g4⟩ := hO 0 _ rfl
  cases hr
  have fld : ∀ k : Nat, k < 4 → ∃ (cf : ClassId) (kk : Class) (i : Nat) (fd : Field) (cell : Cell), s.fieldFound? (TST k).1 (TST k).2.1 (TST k).2.2.1 = some (cf, kk, i, fd) ∧ fd.isStatic = false ∧ H[q]? = some cell ∧ cell.vm ≠ .unknown ∧ cell.slots[fd.slot]? = some (vp_V [.ref w, .int 0, .int 0, .int 0] k) ∧ ¬ B q := by
    intro k hk
    obtain ⟨cf, kk, fi, fd, hi, he⟩ := hsl k hk
    refine ⟨cf, kk, fi, fd, cell, hi, (u_facts hfc hkC (u_lays hts sLay hk) hi).1, g1, by rw [g3]; exact fun h => (by cases h), ?_, hq⟩
    rw [he]
    exact g4 k hk
  refine ⟨⟨cell, g1, by rw [g3]; rfl, by rw [g2]; exact hfc, hq⟩, fld 1 (by decide), fld 0 (by decide), ?_⟩
  have h1 : H[w]? = some (vp_cell cA (tl.length, .inl (va_cpy f (fun _ => 0) 0 0 tl.length))) := hO 1 _ rfl
  refine ⟨_, h1, (hKs.2 0 _ rfl).1 _ _, fun h => (by cases h), ?_, ?_, fun j hj => ?_, hw⟩
  · show tl.length ≤ (arrV cA tl.length (fun j => .int (va_cpy f (fun _ => 0) 0 0 tl.length j))).slots.size
    rw [arrV_size]
    exact Nat.le_refl _
  · show (arrV cA tl.length (fun j => .int (va_cpy f (fun _ => 0) 0 0 tl.length j))).slots.size.toInt32 = _
    rw [arrV_size]
    rfl
  · have hj : j < tl.length := hj
    show (arrV cA tl.length (fun j => .int (va_cpy f (fun _ => 0) 0 0 tl.length j))).slots[j]? = some (.int (tl.getD j 0))
    rw [arrV_read _ _ hj]
    show some (Value.int (if 0 ≤ j ∧ j < 0 + tl.length then f (0 + (j - 0)) else 0)) = _
    rw [if_pos ⟨Nat.zero_le _, by omega⟩, Nat.zero_add, Nat.sub_zero, hf j hj]
/-- new StringBuilder() -/
theorem x_new (X : xCx p s m args c D cA A R) (hS : va_S A s.heap H locs) (hk : k1 + 2 ≤ R.cells ∧ k2 + 20 ≤ R.slots) (hsz : L.size = c.maxLocals) (hr : (rest.map fun v => v.category).sum ≤ 6) (d0 : decode cL_undone pc = .ok (.new 244, 3)) (d3 : decode cL_undone (pc + 3) = .ok (.dup, 1)) (d4 : decode cL_undone (pc + 3 + 1) = .ok (.invokespecial 246, 3))
    (K : ∀ (H1 : Heap) (locs1 : List Loc), bLt D cA H.size (H.size + 1) [] H1 → H.size + 2 ≤ H1.size → (∀ q : Nat, q < H.size → H1[q]? = H[q]?) → va_S A s.heap H1 locs1 → W p l e R s m args below meth c H1 locs1 (k1 + 2) (k2 + 20) Q (F0 m (pc + 7) L (.ref H.size :: rest))) : W p l e R s m args below meth c H locs k1 k2 Q (F0 m pc L rest) := by
  obtain ⟨hx, hb, hown, hts, hKs, hf, hZ, hZq, hdg, hA, hR1, hR2⟩ := id X
  have hKn := hKs.1 0 _ rfl
  refine W.newcK hx hb hown (hts _ xl_n.1) (hts _ xl_n.2.1) (hts _ xl_n.2.2) rfl d0 (by omega) (by omega) hKn.2.1 rfl fun H1 kC hkC e1 z1 o1 => ?_
  show W p l e R s m args below meth c H1 locs (k1 + 1) (k2 + 4) Q (F0 m (pc + 3) L (.ref H.size :: rest))
  have hP1 : va_P D bCl (iW0 H.size) H1 := fun k x hx => by
    match k, hx with
    | 0, hx =>
      cases hx
      refine ⟨_, rfl, (u_born tySB hts bLay hKn hkC e1 tSB_ok).to (fun j hj => ?_)⟩
      match j, hj with
      | 0, _ => rfl
      | 1, _ => rfl
      | 2, _ => rfl
      | 3, _ => rfl
      | j + 4, hj => exact absurd hj (by show ¬ j + 4 < 4; omega)
    | k + 1, hx => cases hx
  have hS1 : va_S A s.heap H1 locs := ⟨Nat.le_trans hS.1 (by omega), fun q g1 g2 => (o1 q (Nat.lt_of_lt_of_le g1 hS.1)).trans (hS.2.1 q g1 g2), hS.2.2⟩
  have hsz0 := hS.1
  have hB : ∀ q, bA H.size (H.size + 1) q → A q := fun q g => by
    rcases g with rfl | rfl
    · exact hA _ hsz0
    · exact hA _ (by omega)
  refine lv_dup hx hb d3 rfl ?_
  refine i_call (np := 0) (vs := []) (rest := .ref H.size :: rest) (own := RL) (A0 := A) (H0 := s.heap) (sb := H.size) (z := H.size + 1) hx hb rfl hown hts hP1 z1 (x_kn X hS1 hB (fun x h => by cases h)) hf hS1 hB i_sb xm_I0 ⟨by decide, by decide, by decide, by decide +kernel⟩ ⟨by omega, by omega⟩ rfl hsz (by show 1 + (rest.map fun v => v.category).sum ≤ 8; omega) ⟨by omega, by omega⟩ d4 (fun H2 locs2 hP2 hq2 hS2 => ?_)
  have h2 : H.size + 1 < H2.size := (hP2 1 _ rfl).lt
  exact K H2 locs2 ⟨fun _ => 0, hP2, fun i hi => absurd hi (Nat.not_lt_zero i)⟩ (by omega) (fun q hq => (hq2.2 q (by omega) (fun g => by rcases g with g | g <;> omega)).trans (o1 q hq)) hS2
/-- append(String) -/
theorem x_aps (X : xCx p s m args c D cA A R) (hS : va_S A s.heap H locs) (hb : bLt D cA sb v tl H) (hv : sb ≠ v) (hB : ∀ q, bA sb v q → A q) (hG : gStr t a w (bA sb v) s H) (hft : ∀ x ∈ t, fits .byte (.int x) = true) (h5 : tl.length + t.length ≤ 16) (hk : k1 ≤ R.cells ∧ k2 ≤ R.slots) (hsz : L.size = c.maxLocals) (hr : (rest.map fun v => v.category).sum ≤ 8) (d0 : decode cL_undone pc = .ok (.invokevirtual 249, 3))
    (K : ∀ (H1 : Heap) (locs1 : List Loc), bLt D cA sb v (tl ++ t) H1 → (H.size ≤ H1.size ∧ ∀ q : Nat, q < H.size → ¬ bA sb v q → H1[q]? = H[q]?) → va_S A s.heap H1 locs1 → W p l e R s m args below meth c H1 locs1 k1 k2 Q (F0 m (pc + 3) L (.ref sb :: rest))) : W p l e R s m args below meth c H locs k1 k2 Q (F0 m pc L (.ref a :: .ref sb :: rest)) := by
  obtain ⟨hx, hbc, hown, hts, hKs, hf, hZ, hZq, hdg, hA, hR1, hR2⟩ := id X
  obtain ⟨f, hP, hfl⟩ := hb
  refine b_callB (np := 1) (vs := [.ref a]) (rest := rest) (own := RL) (A0 := A) (H0 := s.heap) hx hbc rfl hown hts hP (x_kn (tx := some (t, a, w)) X hS hB (fun x h => by cases h; exact hG)) hS hB (b_ap1 hv (fit_at hft) h5) rfl xm_1 xl_1.1 xl_1.2.1 xl_1.2.2 ⟨by omega, by omega⟩ rfl hsz hr hk d0 (fun H1 locs1 hP1 hq1 hS1 => ?_)
  exact K H1 locs1 ⟨_, by rw [List.length_append]; exact hP1, let_s hfl⟩ hq1 hS1
/-- append(int), a digit -/
theorem x_dig (X : xCx p s m args c D cA A R) (hS : va_S A s.heap H locs) (hb : bLt D cA sb v tl H) (hv : sb ≠ v) (hB : ∀ q, bA sb v q → A q) (h9 : x ≤ 9) (h5 : tl.length < 16) (hk : k1 ≤ R.cells ∧ k2 ≤ R.slots) (hsz : L.size = c.maxLocals) (hr : (rest.map fun v => v.category).sum ≤ 8) (d0 : decode cL_undone pc = .ok (.invokevirtual 252, 3))
    (K : ∀ (H1 : Heap) (locs1 : List Loc), bLt D cA sb v (tl ++ [dg1 x]) H1 → (H.size ≤ H1.size ∧ ∀ q : Nat, q < H.size → ¬ bA sb v q → H1[q]? = H[q]?) → va_S A s.heap H1 locs1 → W p l e R s m args below meth c H1 locs1 k1 k2 Q (F0 m (pc + 3) L (.ref sb :: rest))) : W p l e R s m args below meth c H locs k1 k2 Q (F0 m pc L (.int (Int32.ofNat x) :: .ref sb :: rest)) := by
  obtain ⟨hx, hbc, hown, hts, hKs, hf, hZ, hZq, hdg, hA, hR1, hR2⟩ := id X
  obtain ⟨f, hP, hfl⟩ := hb
  refine b_callB (np := 1) (vs := [.int (Int32.ofNat x)]) (rest := rest) (own := RL) (A0 := A) (H0 := s.heap) hx hbc rfl hown hts hP (x_kn (tx := none) X hS hB (fun x h => by cases h)) hS hB (b_ap2 hv h9 h5) rfl xm_2 xl_2.1 xl_2.2.1 xl_2.2.2 ⟨by omega, by omega⟩ rfl hsz hr hk d0 (fun H1 locs1 hP1 hq1 hS1 => ?_)
  exact K H1 locs1 ⟨_, by rw [List.length_append]; exact hP1, let_d hfl⟩ hq1 hS1
/-- toString -/
theorem x_tos (X : xCx p s m args c D cA A R) (hS : va_S A s.heap H locs) (hb : bLt D cA sb v tl H) (hv : sb ≠ v) (hB : ∀ q, bA sb v q → A q) (h15 : tl.length ≤ 15) (hft : ∀ x ∈ tl, fits .byte (.int x) = true) (hk : k1 + 2 ≤ R.cells ∧ k2 + (4 + tl.length) ≤ R.slots) (hsz : L.size = c.maxLocals) (hr : (rest.map fun v => v.category).sum ≤ 8) (d0 : decode cL_undone pc = .ok (.invokevirtual 261, 3))
    (K : ∀ (H1 : Heap) (locs1 : List Loc) (q w : Nat), H.size ≤ q → H.size ≤ w → q < H1.size → w < H1.size → (∀ B : Nat → Prop, (∀ x, B x → A x) → ¬ B q → ¬ B w → gStr tl q w B s H1) → (H.size ≤ H1.size ∧ ∀ x : Nat, x < H.size → ¬ bA sb v x → H1[x]? = H[x]?) → va_S A s.heap H1 locs1 → W p l e R s m args below meth c H1 locs1 (k1 + 2) (k2 + (4 + tl.length)) Q (F0 m (pc + 3) L (.ref q :: rest))) : W p l e R s m args below meth c H locs k1 k2 Q (F0 m pc L (.ref sb :: rest)) := by
  obtain ⟨hx, hbc, hown, hts, hKs, hf, hZ, hZq, hdg, hA, hR1, hR2⟩ := id X
  obtain ⟨f, hP, hfl⟩ := hb
  have hB3 : ∀ q, bA3 sb v H.size q → A q := fun q g => by
    rcases g with g | g | g
    · exact hB _ (Or.inl g)
    · exact hB _ (Or.inr g)
    · exact hA _ (Nat.le_trans hS.1 g)
  have hfi : ∀ i, i < tl.length → fits .byte (.int (f i)) = true := fun i hi => by
    rw [hfl i hi]
    exact fit_at hft i hi
  refine t_call (own := RL) (A0 := A) (H0 := s.heap) (z := H.size) hx hbc rfl hown hts hP rfl (x_kn X hS hB3 (fun x h => by cases h)) hKs hf hS hB3 (t_to hv h15 hfi) xm_t xl_t.1 xl_t.2.1 xl_t.2.2 ⟨hR1, by omega⟩ hsz hr hk d0 (fun H1 locs1 q w hq hw hO hq1 hS1 => ?_)
  exact K H1 locs1 q w hq hw (hO 0 _ rfl).lt (hO 1 _ rfl).lt (fun B hBA h1 h2 => x_g X hS1 hO hfl hBA h1 h2) ⟨hq1.1, fun x g1 g2 => hq1.2 x g1 (fun g => by
    rcases g with g | g | g
    · exact g2 (Or.inl g)
    · exact g2 (Or.inr g)
    · omega)⟩ hS1
theorem x_ldcw {own tx0 : String} {index z : Nat} {cc : ByteArray} (hexec : p.tables.exec = Jvm.exec) (hb : c.code = cc) (hown : s.vm.findClass own = some m.cls) (hZ : vk_R own index tx0 z s) (hdg : decode cc pc = .ok (.ldc_w index, 3))
    (k : W p l e R s m args below meth c H locs k1 k2 Q (F0 m (pc + 3) L (.ref z :: rest))) : W p l e R s m args below meth c H locs k1 k2 Q (F0 m pc L rest) := by
  intro T hT X
  obtain ⟨t, a1, b1⟩ := k T hT X
  exact ⟨t, X.ldcStringW hexec hown (text := tx0) (a := z) hZ.1 hZ.2 (g := F0 m pc L rest) rfl (by rw [hb]; exact hdg) t a1, b1⟩
end XST
