/-! append(String) -/
def byAp1 : MethodName := ⟨RSB, "append", "(Ljava/lang/String;)Ljava/lang/StringBuilder;"⟩
def bW3 : List Cond := [.code byApS prog_12_method_22_code 3 (some (.object RAB)), .instanceMethod byApS, .sameMethod RAB RAB byApS.name byApS.desc, .initialized RAB, .methodLink RSB 29 byApS, .superclass RSB RAB]
set_option maxRecDepth 100000 in
theorem bW3_ok : (bW3.all fun w => decide (w ∈ aWg)) = true := by decide +kernel
theorem bw3 {w : Cond} (h : w ∈ bW3) : w ∈ bWg := bWg_a (of_decide_eq_true (List.all_eq_true.mp bW3_ok w h))
/-- the words of a call of the superclass's method -/
def bSU (idx : Nat) (y : MethodName) (b : ByteArray) (nl : Nat) (rt : Option FieldType) (np : Nat) : Prop :=
  (Cond.methodLink RSB idx y ∈ bWg ∧ Cond.sameMethod y.cls y.cls y.name y.desc ∈ bWg ∧ Cond.superclass RSB y.cls ∈ bWg ∧ Cond.instanceMethod y ∈ bWg ∧ Cond.initialized y.cls ∈ bWg ∧ Cond.code y b nl rt ∈ bWg) ∧ y.name ≠ "<init>" ∧ (parseMethodDescriptor y.desc).map (fun d => d.parameters.length) = some np
theorem bSU_ApS : bSU 29 byApS prog_12_method_22_code 3 (some (.object RAB)) 1 := ⟨⟨bw3 (by decide +kernel), bw3 (by decide +kernel), bw3 (by decide +kernel), bw3 (by decide +kernel), bw3 (by decide +kernel), bw3 (by decide +kernel)⟩, by decide, by decide +kernel⟩
theorem bl_79 : Cond.fieldLink RAB 79 RAB "count" "I" ∈ bWg := bw (by decide +kernel)
section SB5
variable {p : Program} {l : Launch} {e : Env} {R : Room} {s : State} {m : MethodId} {args : Array Value} {below : List Frame} {meth : Method} {c : Code} {H : Heap} {locs : List Loc} {Q : State → Prop} {A0 : Nat → Prop} {H0 : Heap} {nL : Nat} {own : String} {cc : ByteArray}
variable {pc k1 k2 d idx nl np sb v n n1 a w dp : Nat} {L : Array Slot} {rest st0 vs : List Value} {r : Option Value} {y : MethodName} {b : ByteArray} {rt : Option FieldType} {D : va_G} {cA : ClassId} {f f1 : Nat → Int32} {tx : Option (List Int32 × Nat × Nat)} {t : List Int32}
theorem b_callSU (hx : p.tables.exec = Jvm.exec) (hb : c.code = cc) (hml : c.maxLocals = nL) (hown : s.vm.findClass RSB = some m.cls) (hts : ∀ w ∈ bWg, w.before args s = true) (hP : va_P D bCl (bWs cA sb v n f) H) (hK : bKn D cA (bA sb v) tx s H) (hS : va_S A0 H0 H locs) (hAA : ∀ q, bA sb v q → A0 q)
    (hcon : bCon l y b nl rt d (.ref sb :: vs) r D cA sb v n f n1 f1 tx) (hU : bSU idx y b nl rt np) (hR : d + 2 ≤ R.frames ∧ 8 + (nl + 11) + (30 * d + 40) ≤ R.locals) (hn : vs.length = np) (hsz : L.size = nL) (hr : (rest.map fun v => v.category).sum ≤ 8) (hk : k1 ≤ R.cells ∧ k2 ≤ R.slots) (hd : decode cc pc = .ok (.invokespecial idx, 3))
    (K : ∀ (H1 : Heap) (locs1 : List Loc), va_P D bCl (bWs cA sb v n1 f1) H1 → (H.size ≤ H1.size ∧ ∀ q : Nat, q < H.size → ¬ bA sb v q → H1[q]? = H[q]?) → va_S A0 H0 H1 locs1 → W p l e R s m args below meth c H1 locs1 k1 k2 Q (F0 m (pc + 3) L (r.toList ++ rest))) : W p l e R s m args below meth c H locs k1 k2 Q (F0 m pc L (vs.reverse ++ .ref sb :: rest)) := by
  obtain ⟨⟨u1, u2, u3, u4, u5, u6⟩, u7⟩ := hU
  have hcw : va_CS R s args RSB idx y b nl rt (Cond.code y b nl rt :: bWg) (bRm d) 0 0 np := va_cwSU np hts (bWg_good (fun w hw => by
    simp only [va_wsSU, List.cons_append, List.nil_append, List.mem_cons] at hw
    rcases hw with rfl | rfl | rfl | rfl | rfl | rfl | hw
    · exact u1
    · exact u2
    · exact u3
    · exact u4
    · exact u5
    · exact u6
    · exact hw)) rfl rfl rfl u7 hR
  have hrun := va_runSU (C := RSB) (cC := D.1 0) (As := vs) (b := sb) (rest := rest) (g := F0 m pc L (vs.reverse ++ .ref sb :: rest)) (locs := locs) (cells := k1) (slots := k2) (below := below) (meth := meth) (e := e) (hK.1.1 0 _ rfl).2 ⟨hx, hb, hml, hown, hts⟩ hcon hcw ⟨bPc.blind, b_recv hP hK, (b_pre hP hK (vs := .ref sb :: vs)).2⟩ rfl hn hsz rfl (by show 2 * 0 + _ ≤ 8; omega) hd hk
  exact b_ret hS hAA hrun K
/-- the count, written -/
theorem b_putn {x : Nat} (hx : p.tables.exec = Jvm.exec) (hb : c.code = cc) (hts : ∀ w ∈ bWg, w.before args s = true) (hown : s.vm.findClass RAB = some m.cls) (hK : bKn D cA (bA sb v) tx s s.heap) (hP : va_P D bCl (bWs cA sb v n f) H) (hv : sb ≠ v) (hS : va_S (bA sb v) s.heap H locs) (hd : decode cc pc = .ok (.putfield 79, 3))
    (K : ∀ (H1 : Heap) (locs1 : List Loc), va_P D bCl (bWs cA sb v x f) H1 → va_S (bA sb v) s.heap H1 locs1 → W p l e R s m args below meth c H1 locs1 k1 k2 Q (F0 m (pc + 3) L rest)) : W p l e R s m args below meth c H locs k1 k2 Q (F0 m pc L (.int (Int32.ofNat x) :: .ref sb :: rest)) :=
  va_put (v := .int (Int32.ofNat x)) (ty := .int) hx hb hts bLay tySB tSB_ok nSB hown hK.1 hP (bD hv) hS 0 rfl rfl 3 (by decide) (hts _ bl_79) (fun _ z => z) rfl rfl rfl rfl (Nat.lt_succ_self 3) hd (fun H1 locs1 q1 _ q3 => K H1 locs1 q1 q3)
theorem b_room {k : Nat} (h : k ≤ 16) : Int32.ofNat k - 16 ≤ 0 := by
  have : ∀ k : Fin 17, Int32.ofNat k.val - 16 ≤ 0 := by decide +kernel
  exact this ⟨k, by omega⟩
theorem b_apS (hv : sb ≠ v) (hfit : ∀ i, i < t.length → fits .byte (.int (t.getD i 0)) = true) (h5 : n + t.length ≤ 16) : bCon l byApS prog_12_method_22_code 3 (some (.object RAB)) 3 [.ref sb, .ref a] (some (.ref sb)) D cA sb v n f (n + t.length) (va_cpy (fun j => t.getD j 0) f 0 n t.length) (some (t, a, w)) := by
  refine b_of (by decide) (fun p e s m below meth c hx hb hml hown hts hlk hret hP hK => ?_)
  have hS : va_S (bA sb v) s.heap s.heap [] := va_S.rf
  have hG : gStr t a w (bA sb v) s s.heap := hK.2.2.2 (t, a, w) rfl
  have ea : Int32.ofNat n + Int32.ofNat t.length = Int32.ofNat (n + t.length) := (Int32.ofNat_add n t.length).symm
  have hL := lv_entry [.ref sb, .ref a] (n := 3) (Nat.le_of_ble_eq_true rfl)
  generalize ((lg_sl [.ref sb, .ref a] ++ List.replicate (3 - (lg_sl [.ref sb, .ref a]).length) Slot.unset).toArray) = L at hL ⊢
  have hL : lv_has L 3 [(0, .ref sb), (1, .ref a)] := hL
  refine lv_aload_n hx hb (k := 1) (i := 1) (x := a) (by decide +kernel) rfl (lv_at hL 1 rfl) ?_
  refine lv_ifnonnull hx hb (off := 8) (tgt := 9) (by decide +kernel) (by decide) ?_
  refine lv_aload_n hx hb (k := 1) (i := 1) (x := a) (by decide +kernel) rfl (lv_at hL 1 rfl) ?_
  refine gs_callV (vs := []) (rest := []) (own := RAB) hx hb hml hown (fun w h => hts w (bWg_a h)) hG hS gs_len rfl jmLen bl_32 ji_Len.1 ji_Len.2 ⟨by decide, by decide⟩ rfl hL.1 (by decide) ⟨by decide, by decide⟩ (by decide +kernel) ?_
  refine lv_istore_n hx hb (k := 2) (i := 2) (nL := 3) (by decide +kernel) rfl hL (by decide) rfl (fun L1 hL1 => ?_)
  have hL1 : lv_has L1 3 [(2, .int (Int32.ofNat t.length)), (0, .ref sb), (1, .ref a)] := hL1
  refine lv_aload_n hx hb (k := 0) (i := 0) (x := sb) (by decide +kernel) rfl (lv_at hL1 1 rfl) ?_
  refine lv_aload_n hx hb (k := 0) (i := 0) (x := sb) (by decide +kernel) rfl (lv_at hL1 1 rfl) ?_
  refine b_getn hx hb hts hown hK hP (by decide +kernel) ?_
  refine lv_iload_n hx hb (k := 2) (i := 2) (x := Int32.ofNat t.length) (by decide +kernel) rfl (lv_at hL1 0 rfl) ?_
  refine lv_iadd hx hb (by decide +kernel) ?_
  rw [ea]
  refine b_callU (vs := [.int (Int32.ofNat (n + t.length))]) (rest := []) (own := RAB) (A0 := bA sb v) (H0 := s.heap) hx hb hml hown hts hP hK hS (fun _ z => z) (b_ens (b_room h5)) bU_Ens ⟨by decide, by decide⟩ rfl hL1.1 (by decide) ⟨by decide, by decide⟩ (by decide +kernel) (fun H1 locs1 hP1 hq1 hS1 => ?_)
  refine lv_aload_n hx hb (k := 0) (i := 0) (x := sb) (by decide +kernel) rfl (lv_at hL1 1 rfl) ?_
  refine lv_aload_n hx hb (k := 0) (i := 0) (x := sb) (by decide +kernel) rfl (lv_at hL1 1 rfl) ?_
  refine b_getn hx hb hts hown hK hP1 (by decide +kernel) ?_
  refine lv_aload_n hx hb (k := 1) (i := 1) (x := a) (by decide +kernel) rfl (lv_at hL1 2 rfl) ?_
  refine b_callU (vs := [.int (Int32.ofNat n), .ref a]) (rest := []) (own := RAB) (A0 := bA sb v) (H0 := s.heap) hx hb hml hown hts hP1 (hK.at hS1) hS1 (fun _ z => z) (b_put hv hfit h5) bU_Put ⟨by decide, by decide⟩ rfl hL1.1 (by decide) ⟨by decide, by decide⟩ (by decide +kernel) (fun H2 locs2 hP2 hq2 hS2 => ?_)
  refine lv_aload_n hx hb (k := 0) (i := 0) (x := sb) (by decide +kernel) rfl (lv_at hL1 1 rfl) ?_
  refine lv_dup hx hb (by decide +kernel) rfl ?_
  refine b_getn hx hb hts hown hK hP2 (by decide +kernel) ?_
  refine lv_iload_n hx hb (k := 2) (i := 2) (x := Int32.ofNat t.length) (by decide +kernel) rfl (lv_at hL1 0 rfl) ?_
  refine lv_iadd hx hb (by decide +kernel) ?_
  rw [ea]
  refine b_putn hx hb hts hown hK hP2 hv hS2 (by decide +kernel) (fun H3 locs3 hP3 hS3 => ?_)
  refine lv_aload_n hx hb (k := 0) (i := 0) (x := sb) (by decide +kernel) rfl (lv_at hL1 1 rfl) ?_
  exact b_aret hx hb hret (Or.inl ⟨_, rfl⟩) hlk hP3 hS3 (by decide +kernel)
theorem b_ap1 (hv : sb ≠ v) (hfit : ∀ i, i < t.length → fits .byte (.int (t.getD i 0)) = true) (h5 : n + t.length ≤ 16) : bCon l byAp1 prog_28_method_7_code 2 (some (.object RSB)) 4 [.ref sb, .ref a] (some (.ref sb)) D cA sb v n f (n + t.length) (va_cpy (fun j => t.getD j 0) f 0 n t.length) (some (t, a, w)) := by
  refine b_of (by decide) (fun p e s m below meth c hx hb hml hown hts hlk hret hP hK => ?_)
  have hS : va_S (bA sb v) s.heap s.heap [] := va_S.rf
  refine lv_aload_n hx hb (k := 0) (i := 0) (x := sb) (by decide +kernel) rfl rfl ?_
  refine lv_aload_n hx hb (k := 1) (i := 1) (x := a) (by decide +kernel) rfl rfl ?_
  refine b_callSU (vs := [.ref a]) (rest := []) (A0 := bA sb v) (H0 := s.heap) hx hb hml hown hts hP hK hS (fun _ z => z) (b_apS hv hfit h5) bSU_ApS ⟨by decide, by decide⟩ rfl rfl (by decide) ⟨by decide, by decide⟩ (by decide +kernel) (fun H1 locs1 hP1 hq1 hS1 => ?_)
  refine lv_pop hx hb (by decide +kernel) rfl ?_
  refine lv_aload_n hx hb (k := 0) (i := 0) (x := sb) (by decide +kernel) rfl rfl ?_
  exact b_aret hx hb hret (Or.inl ⟨_, rfl⟩) hlk hP1 hS1 (by decide +kernel)
end SB5
