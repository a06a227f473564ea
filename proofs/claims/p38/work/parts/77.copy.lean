/-! A TEXT'S LETTERS INTO THE BUILDER: String.getBytes, putStringAt, append(String) -/
section SB3
variable {p : Program} {l : Launch} {e : Env} {R : Room} {s : State} {m : MethodId} {args : Array Value} {below : List Frame} {meth : Method} {c : Code} {H : Heap} {locs : List Loc} {Q : State → Prop} {A0 : Nat → Prop} {H0 : Heap} {nL : Nat} {own : String} {cc : ByteArray}
variable {pc k1 k2 d idx nl np sb v n n1 a w : Nat} {L : Array Slot} {rest st0 vs : List Value} {r : Option Value} {y : MethodName} {b : ByteArray} {rt : Option FieldType} {D : va_G} {cA : ClassId} {f f1 : Nat → Int32} {tx : Option (List Int32 × Nat × Nat)} {t : List Int32}
theorem bKn.at (hK : bKn D cA (bA sb v) tx s s.heap) (hS : va_S (bA sb v) s.heap H locs) : bKn D cA (bA sb v) tx s H := hK.kept hS.2.1
/-- a copy out of an array of bytes that stays as it is -/
theorem b_copy (hx : p.tables.exec = Jvm.exec) (hb : c.code = cc) (hml : c.maxLocals = L.size) (hown : s.vm.findClass own = some m.cls) (hlink : (Cond.methodLink own idx arraycopyName).before args s = true) (hnat : (Cond.native arraycopyName).before args s = true) (hstat : (Cond.static arraycopyName).before args s = true) (hini : (Cond.initialized "java/lang/System").before args s = true)
    (hK : va_K D bCl [(cA, .byte)] s) (hP : va_P D bCl (bWs cA sb v n f) H) (hv : sb ≠ v) (hS : va_S (bA sb v) s.heap H locs) {N : Nat} {g : Nat → Int32} (hT : va_T .byte w N (fun j => .int (g j)) (bA sb v) s s.heap)
    {dp k : Int32} (h2 : ¬ dp < 0) (h3 : ¬ k < 0) (h4 : k.toNatClampNeg ≤ N) (h5 : dp.toNatClampNeg + k.toNatClampNeg ≤ 16) (hfit : ∀ i, i < k.toNatClampNeg → fits .byte (.int (g i)) = true)
    (hframes : 1 ≤ R.frames) (hlocals : (rest.map fun v => v.category).sum + (nativeFrameWords "java/lang/System" "arraycopy" 5 + 11) ≤ R.locals) (hd : decode cc pc = .ok (.invokestatic idx, 3))
    (kk : ∀ (H1 : Heap) (locs1 : List Loc), va_P D bCl (bWs cA sb v n (va_cpy g f 0 dp.toNatClampNeg k.toNatClampNeg)) H1 → va_S (bA sb v) s.heap H1 locs1 → W p l e R s m args below meth c H1 locs1 k1 k2 Q (F0 m (pc + 3) L rest)) : W p l e R s m args below meth c H locs k1 k2 Q (F0 m pc L (.int k :: .int dp :: .ref v :: .int 0 :: .ref w :: rest)) := by
  have hD : va_D (bA sb v) (bWs cA sb v n f) := bD hv
  have nn : ∀ z : Int32, ¬ z < 0 → z.toInt = (z.toNatClampNeg : Int) := by
    intro z hz
    have hz0 : (0 : Int) ≤ z.toInt := by
      have := Int32.not_lt.mp hz
      simpa using Int32.le_iff_toInt_le.mp this
    show z.toInt = ((z.toInt.toNat : Nat) : Int)
    omega
  have z0 : (0 : Int32).toInt = 0 := rfl
  have z1 : (0 : Int32).toNatClampNeg = 0 := rfl
  intro T hH X
  obtain ⟨src, q1, q2, q3, q4, -, q6, q7⟩ := hT
  have hc0 : H[w]? = some src := by rw [hS.2.1 w (Array.getElem?_eq_some_iff.mp q1).1 q7]; exact q1
  have hc1 : H[v]? = some (vp_cell cA (16, .inl f)) := hP 1 (v, .inl (cA, 16, .inl f)) rfl
  obtain ⟨q8, k0, hk0, cm0, hkk0⟩ := q2
  obtain ⟨-, kd, hkd, cmd, hkkd⟩ := (hK.2 0 (cA, .byte) rfl).1 16 (fun j => .int (f j))
  obtain ⟨vm', X', step⟩ := X.arraycopy hx hown hlink hnat hstat hini (src := w) (dst := v) (cs := src) (cd := vp_cell cA (16, .inl f)) (srcPos := 0) (destPos := dp) (n := k) (by rw [hH]; exact hc0) (by rw [hH]; exact hc1)
    q8 (fun _ h => by cases h) q3 (fun h => by cases h) hk0 hkd hkk0 hkkd (by simp [refKind]) (by decide) h2 h3
    (by rw [nn k h3, z0]; omega)
    (by rw [nn dp h2, nn k h3]; show ¬ _ > ((arrV cA 16 (fun j => .int (f j))).slots.size : Int); rw [arrV_size]; omega)
    (fun vm₁ _ i hi => by
      have e : src.slots.getD ((0 : Int32).toNatClampNeg + i) .null = .int (g i) := by
        rw [z1, Nat.zero_add, Array.getD_eq_getD_getElem?, q6 _ (by omega)]
        rfl
      refine ⟨?_, ?_⟩
      · rw [e]
        exact hfit i hi
      · rw [e]
        exact trivial)
    (g := F0 m pc L (.int k :: .int dp :: .ref v :: .int 0 :: .ref w :: rest)) rfl (by rw [hml]) (rest := rest) rfl (by rw [hb]; exact hd) hframes (by show 2 * 0 + _ + _ ≤ _; omega)
  have e1 : copied src (vp_cell cA (16, .inl f)) 0 dp k = vp_cell cA (16, .inl (va_cpy g f 0 dp.toNatClampNeg k.toNatClampNeg)) := va_copiedX (fun z => .int z) src cA g f q6 (by omega)
  rw [e1] at X' step
  have hl : v < H.size := (Array.getElem?_eq_some_iff.mp hc1).1
  have oq : ∀ q : Nat, q ≠ v → (H.setIfInBounds v (vp_cell cA (16, .inl (va_cpy g f 0 dp.toNatClampNeg k.toNatClampNeg))))[q]? = H[q]? := fun q hq => by simp [Array.getElem?_setIfInBounds, Ne.symm hq]
  have hheap : ((T.setVm vm').setCell v (vp_cell cA (16, .inl (va_cpy g f 0 dp.toNatClampNeg k.toNatClampNeg)))).heap = H.setIfInBounds v (vp_cell cA (16, .inl (va_cpy g f 0 dp.toNatClampNeg k.toNatClampNeg))) := by rw [← hH]; rfl
  have hP1 : va_P D bCl (bWs cA sb v n (va_cpy g f 0 dp.toNatClampNeg k.toNatClampNeg)) (H.setIfInBounds v (vp_cell cA (16, .inl (va_cpy g f 0 dp.toNatClampNeg k.toNatClampNeg)))) :=
    va_P.set (p := 1) (a := v) (e0 := .inl (cA, 16, .inl f)) (e := .inl (cA, 16, .inl (va_cpy g f 0 dp.toNatClampNeg k.toNatClampNeg))) hP hD rfl (show (H.setIfInBounds v (vp_cell cA (16, .inl (va_cpy g f 0 dp.toNatClampNeg k.toNatClampNeg))))[v]? = some (vp_cell cA (16, .inl (va_cpy g f 0 dp.toNatClampNeg k.toNatClampNeg))) by simp [Array.getElem?_setIfInBounds, hl]) oq
  obtain ⟨t2, a1, b1⟩ := kk _ _ hP1 ⟨by simp; exact hS.1, fun q g1 g2 => by
      rw [oq q (fun e => g2 (Or.inr e))]
      exact hS.2.1 q g1 g2, fun q hq => by
      rcases List.mem_append.mp hq with h | h
      · exact hS.2.2 q h
      · obtain ⟨z, -, hz⟩ := List.mem_map.mp h
        rw [← hz]
        exact Or.inr rfl⟩ _ hheap X'
  exact ⟨t2, step t2 a1, b1⟩
end SB3
def byGet : MethodName := ⟨"java/lang/String", "getBytes", "([BIB)V"⟩
def bW2 : List Cond := [.code byGet prog_27_method_147_code 4 none, .instanceMethod byGet, .selects "java/lang/String" byGet byGet, .initialized "java/lang/String", .methodLink RAB 399 byGet, .methodLink RAB 40 jyCod, .methodLink RAB 32 jyLen,
  .methodLink "java/lang/String" 212 arraycopyName, .native arraycopyName, .static arraycopyName, .initialized "java/lang/System"]
set_option maxRecDepth 100000 in
theorem bW2_ok : (bW2.all fun w => decide (w ∈ aWg)) = true := by decide +kernel
theorem bw2 {w : Cond} (h : w ∈ bW2) : w ∈ aWg := of_decide_eq_true (List.all_eq_true.mp bW2_ok w h)
theorem bmGet : aMy byGet prog_27_method_147_code 4 none 3 := ⟨bw2 (by decide +kernel), bw2 (by decide +kernel), by decide, by decide, by decide +kernel, by decide⟩
theorem bl_40 : Cond.methodLink RAB 40 jyCod ∈ aWg := bw2 (by decide +kernel)
theorem bl_32 : Cond.methodLink RAB 32 jyLen ∈ aWg := bw2 (by decide +kernel)
theorem bl_399 : Cond.methodLink RAB 399 byGet ∈ aWg := bw2 (by decide +kernel)
theorem bi_Get : Cond.instanceMethod byGet ∈ aWg ∧ Cond.selects byGet.cls byGet byGet ∈ aWg := ⟨bw2 (by decide +kernel), bw2 (by decide +kernel)⟩
theorem bl_212 : Cond.methodLink "java/lang/String" 212 arraycopyName ∈ aWg := bw2 (by decide +kernel)
theorem bl_nat : Cond.native arraycopyName ∈ aWg := bw2 (by decide +kernel)
theorem bl_sta : Cond.static arraycopyName ∈ aWg := bw2 (by decide +kernel)
theorem bl_sys : Cond.initialized "java/lang/System" ∈ aWg := bw2 (by decide +kernel)
theorem b_nat {k : Nat} (h : k < 2 ^ 31) : (Int32.ofNat k).toNatClampNeg = k := by
  show (Int32.ofNat k).toInt.toNat = k
  rw [Int32.toInt_ofNat_of_lt h]
  omega
theorem b_neg {k : Nat} (h : k < 2 ^ 31) : ¬ Int32.ofNat k < 0 := by
  rw [Int32.lt_iff_toInt_lt, Int32.toInt_ofNat_of_lt h, show (0 : Int32).toInt = 0 from rfl]
  omega
section SB4
variable {p : Program} {l : Launch} {e : Env} {R : Room} {s : State} {m : MethodId} {args : Array Value} {below : List Frame} {meth : Method} {c : Code} {H : Heap} {locs : List Loc} {Q : State → Prop} {A0 : Nat → Prop} {H0 : Heap} {nL : Nat} {own : String} {cc : ByteArray}
variable {pc k1 k2 d idx nl np sb v n n1 a w dp : Nat} {L : Array Slot} {rest st0 vs : List Value} {r : Option Value} {y : MethodName} {b : ByteArray} {rt : Option FieldType} {D : va_G} {cA : ClassId} {f f1 : Nat → Int32} {tx : Option (List Int32 × Nat × Nat)} {t : List Int32}
/-- a String's method that writes the builder's cells -/
theorem b_callV (hx : p.tables.exec = Jvm.exec) (hb : c.code = cc) (hml : c.maxLocals = nL) (hown : s.vm.findClass own = some m.cls) (hts : ∀ w ∈ bWg, w.before args s = true) (hP : va_P D bCl (bWs cA sb v n f) H) (hK : bKn D cA (bA sb v) tx s H) (hS : va_S A0 H0 H locs) (hAA : ∀ q, bA sb v q → A0 q) (hG : gStr t a w (bA sb v) s H)
    (hcon : bCon l y b nl rt d (.ref a :: vs) r D cA sb v n f n1 f1 tx) (hc : y.cls = "java/lang/String") (hy : aMy y b nl rt np) (hl : Cond.methodLink own idx y ∈ aWg) (hi : Cond.instanceMethod y ∈ aWg) (hs : Cond.selects y.cls y y ∈ aWg) (hR : d + 2 ≤ R.frames ∧ 8 + (nl + 11) + (30 * d + 40) ≤ R.locals) (hn : vs.length = np) (hsz : L.size = nL) (hr : (rest.map fun v => v.category).sum ≤ 8) (hk : k1 ≤ R.cells ∧ k2 ≤ R.slots) (hd : decode cc pc = .ok (.invokevirtual idx, 3))
    (K : ∀ (H1 : Heap) (locs1 : List Loc), va_P D bCl (bWs cA sb v n1 f1) H1 → (H.size ≤ H1.size ∧ ∀ q : Nat, q < H.size → ¬ bA sb v q → H1[q]? = H[q]?) → va_S A0 H0 H1 locs1 → W p l e R s m args below meth c H1 locs1 k1 k2 Q (F0 m (pc + 3) L (r.toList ++ rest))) : W p l e R s m args below meth c H locs k1 k2 Q (F0 m pc L (vs.reverse ++ .ref a :: rest)) := by
  have hcw : CallW R s args own y.cls idx y b nl rt (Cond.code y b nl rt :: bWg) (bRm d) 0 0 np := cwV np hts (bWg_good (fun w hw => by
    simp only [wsV, List.cons_append, List.nil_append, List.mem_cons] at hw
    rcases hw with rfl | rfl | rfl | rfl | rfl | hw
    · exact bWg_a hl
    · exact bWg_a hi
    · exact bWg_a hs
    · exact bWg_a hy.2.1
    · exact bWg_a hy.1
    · exact hw)) rfl rfl rfl ⟨rfl, hy.2.2.1, hy.2.2.2.1, hy.2.2.2.2.1⟩ hR
  have hrun := va_runV (As := vs) (b := a) (rest := rest) (g := F0 m pc L (vs.reverse ++ .ref a :: rest)) (locs := locs) (cells := k1) (slots := k2) (below := below) (meth := meth) (e := e) ⟨hx, hb, hml, hown, hts⟩ hcon hcw ⟨bPc.blind, by rw [hc]; exact gs_recv hG, (b_pre hP hK (vs := .ref a :: vs)).2⟩ rfl hn hsz rfl (by show 2 * 0 + _ ≤ 8; omega) hd hk
  exact b_ret hS hAA hrun K
theorem b_get (hv : sb ≠ v) (hfit : ∀ i, i < t.length → fits .byte (.int (t.getD i 0)) = true) (h5 : dp + t.length ≤ 16) : bCon l byGet prog_27_method_147_code 4 none 1 [.ref a, .ref v, .int (Int32.ofNat dp), .int 0] none D cA sb v n f n (va_cpy (fun j => t.getD j 0) f 0 dp t.length) (some (t, a, w)) := by
  refine b_of (by decide) (fun p e s m below meth c hx hb hml hown hts hlk hret hP hK => ?_)
  have hS : va_S (bA sb v) s.heap s.heap [] := va_S.rf
  have hG : gStr t a w (bA sb v) s s.heap := hK.2.2.2 (t, a, w) rfl
  have hT : va_T .byte w t.length (fun j => .int (t.getD j 0)) (bA sb v) s s.heap := (hG.2.2.1 0 (by decide)).2.2.2
  have hta : ∀ w ∈ aWg, w.before #[.ref a, .ref v, .int (Int32.ofNat dp), .int 0] s = true := fun w h => hts w (bWg_a h)
  refine lv_aload_n hx hb (k := 0) (i := 0) (x := a) (by decide +kernel) rfl rfl ?_
  refine gs_callV (vs := []) (rest := []) (own := "java/lang/String") hx hb hml hown hta hG hS gs_cod rfl jmCod jl_335 ji_Cod.1 ji_Cod.2 ⟨by decide, by decide⟩ rfl rfl (by decide) ⟨by decide, by decide⟩ (by decide +kernel) ?_
  refine lv_iload_n hx hb (k := 3) (i := 3) (x := 0) (by decide +kernel) rfl rfl ?_
  refine lv_icmp_ne hx hb (off := 23) (tgt := 28) (by decide +kernel) (by decide) (fun h => absurd rfl h) (fun _ => ?_)
  refine lv_aload_n hx hb (k := 0) (i := 0) (x := a) (by decide +kernel) rfl rfl ?_
  refine vk_getf hx hb (hG.2.2.1 0 (by decide)).2.2.1 hS hown (hta _ jl_9) (fun _ z => z) (by decide +kernel) ?_
  refine lv_iconst hx hb (n := 0) (v := 0) (by decide +kernel) rfl ?_
  refine lv_aload_n hx hb (k := 1) (i := 1) (x := v) (by decide +kernel) rfl rfl ?_
  refine lv_iload_n hx hb (k := 2) (i := 2) (x := Int32.ofNat dp) (by decide +kernel) rfl rfl ?_
  refine lv_iload_n hx hb (k := 3) (i := 3) (x := 0) (by decide +kernel) rfl rfl ?_
  refine lv_ishl hx hb (by decide +kernel) ?_
  have e9 : (Int32.ofNat dp) <<< ((0 : Int32) &&& 31) = Int32.ofNat dp := by
    rw [show (0 : Int32) &&& 31 = 0 from by decide]
    exact Int32.shiftLeft_zero
  rw [e9]
  refine lv_aload_n hx hb (k := 0) (i := 0) (x := a) (by decide +kernel) rfl rfl ?_
  refine vk_getf hx hb (hG.2.2.1 0 (by decide)).2.2.1 hS hown (hta _ jl_9) (fun _ z => z) (by decide +kernel) ?_
  refine va_tlen hx hb hT hS (v := Int32.ofNat t.length) rfl (by decide +kernel) ?_
  have en : (Int32.ofNat t.length).toNatClampNeg = t.length := b_nat (by omega)
  have ed : (Int32.ofNat dp).toNatClampNeg = dp := b_nat (by omega)
  refine b_copy hx hb (by rw [hml]; rfl) hown (hta _ bl_212) (hta _ bl_nat) (hta _ bl_sta) (hta _ bl_sys) hK.1 hP hv hS hT (b_neg (by omega)) (b_neg (by omega)) (by rw [en]; omega) (by rw [en, ed]; exact h5) (fun i hi => hfit i (by rw [en] at hi; exact hi)) (by decide) (by decide) (by decide +kernel) (fun H1 locs1 hP1 hS1 => ?_)
  rw [en, ed] at hP1
  refine lv_goto hx hb (off := 18) (tgt := 43) (by decide +kernel) (by decide) ?_
  exact b_vret hx hb hret hlk hP1 hS1 (by decide +kernel)
theorem b_inf : bCon l byInf prog_12_method_71_code 2 none 1 [.ref sb, .ref a] none D cA sb v n f n f (some (t, a, w)) := by
  refine b_of (by decide) (fun p e s m below meth c hx hb hml hown hts hlk hret hP hK => ?_)
  have hS : va_S (bA sb v) s.heap s.heap [] := va_S.rf
  have hG : gStr t a w (bA sb v) s s.heap := hK.2.2.2 (t, a, w) rfl
  refine va_gets hx hb hK.2.1 hS hown (hts _ bl_18) (fun _ z => z) (by decide +kernel) ?_
  refine lv_if_eq hx hb (off := 18) (tgt := 21) (by decide +kernel) (by decide) (fun h => absurd h (by decide)) (fun _ => ?_)
  refine lv_aload_n hx hb (k := 0) (i := 0) (x := sb) (by decide +kernel) rfl rfl ?_
  refine b_getc hx hb hts hown hK hP (by decide +kernel) ?_
  refine lv_aload_n hx hb (k := 1) (i := 1) (x := a) (by decide +kernel) rfl rfl ?_
  refine gs_callV (vs := []) (rest := [.int 0]) (own := RAB) hx hb hml hown (fun w h => hts w (bWg_a h)) hG hS gs_cod rfl jmCod bl_40 ji_Cod.1 ji_Cod.2 ⟨by decide, by decide⟩ rfl rfl (by decide) ⟨by decide, by decide⟩ (by decide +kernel) ?_
  refine lv_icmp_eq hx hb (off := 7) (tgt := 21) (by decide +kernel) (by decide) (fun _ => ?_) (fun h => absurd rfl h)
  exact b_vret hx hb hret hlk hP hS (by decide +kernel)
theorem b_put (hv : sb ≠ v) (hfit : ∀ i, i < t.length → fits .byte (.int (t.getD i 0)) = true) (h5 : dp + t.length ≤ 16) : bCon l byPut prog_12_method_73_code 3 none 2 [.ref sb, .int (Int32.ofNat dp), .ref a] none D cA sb v n f n (va_cpy (fun j => t.getD j 0) f 0 dp t.length) (some (t, a, w)) := by
  refine b_of (by decide) (fun p e s m below meth c hx hb hml hown hts hlk hret hP hK => ?_)
  have hS : va_S (bA sb v) s.heap s.heap [] := va_S.rf
  refine lv_aload_n hx hb (k := 0) (i := 0) (x := sb) (by decide +kernel) rfl rfl ?_
  refine lv_aload_n hx hb (k := 2) (i := 2) (x := a) (by decide +kernel) rfl rfl ?_
  refine b_callU (vs := [.ref a]) (rest := []) (own := RAB) (A0 := bA sb v) (H0 := s.heap) hx hb hml hown hts hP hK hS (fun _ z => z) b_inf bU_Inf ⟨by decide, by decide⟩ rfl rfl (by decide) ⟨by decide, by decide⟩ (by decide +kernel) (fun H1 locs1 hP1 hq1 hS1 => ?_)
  refine lv_aload_n hx hb (k := 2) (i := 2) (x := a) (by decide +kernel) rfl rfl ?_
  refine lv_aload_n hx hb (k := 0) (i := 0) (x := sb) (by decide +kernel) rfl rfl ?_
  refine b_getv hx hb hts hown hK hP1 (by decide +kernel) ?_
  refine lv_iload_n hx hb (k := 1) (i := 1) (x := Int32.ofNat dp) (by decide +kernel) rfl rfl ?_
  refine lv_aload_n hx hb (k := 0) (i := 0) (x := sb) (by decide +kernel) rfl rfl ?_
  refine b_getc hx hb hts hown hK hP1 (by decide +kernel) ?_
  refine b_callV (vs := [.ref v, .int (Int32.ofNat dp), .int 0]) (rest := []) (own := RAB) (A0 := bA sb v) (H0 := s.heap) hx hb hml hown hts hP1 (hK.at hS1) hS1 (fun _ z => z) ((hK.at hS1).2.2.2 (t, a, w) rfl) (b_get hv hfit h5) rfl bmGet bl_399 bi_Get.1 bi_Get.2 ⟨by decide, by decide⟩ rfl rfl (by decide) ⟨by decide, by decide⟩ (by decide +kernel) (fun H2 locs2 hP2 hq2 hS2 => ?_)
  exact b_vret hx hb hret hlk hP2 hS2 (by decide +kernel)
end SB4
