/-! append(int), of one digit -/
def RIN : String := "java/lang/Integer"
def byDsz : MethodName := ⟨RIN, "stringSize", "(I)I"⟩
def byChs : MethodName := ⟨RIN, "getChars", "(II[B)I"⟩
def byAp2 : MethodName := ⟨RSB, "append", "(I)Ljava/lang/StringBuilder;"⟩
def bW4 : List Cond := [.code byDsz prog_23_method_13_code 4 (some .int), .static byDsz, .initialized RIN, .methodLink RAB 245 byDsz, .code byChs prog_23_method_12_code 7 (some .int), .static byChs, .methodLink RAB 248 byChs, .fieldLink RIN 83 RIN "DigitOnes" "[B",
  .code byApI prog_12_method_32_code 4 (some (.object RAB)), .instanceMethod byApI, .sameMethod RAB RAB byApI.name byApI.desc, .initialized RAB, .methodLink RSB 53 byApI, .superclass RSB RAB]
set_option maxRecDepth 100000 in
theorem bW4_ok : (bW4.all fun w => decide (w ∈ aWg)) = true := by decide +kernel
theorem bw4 {w : Cond} (h : w ∈ bW4) : w ∈ bWg := bWg_a (of_decide_eq_true (List.all_eq_true.mp bW4_ok w h))
theorem bSU_ApI : bSU 53 byApI prog_12_method_32_code 4 (some (.object RAB)) 1 := ⟨⟨bw4 (by decide +kernel), bw4 (by decide +kernel), bw4 (by decide +kernel), bw4 (by decide +kernel), bw4 (by decide +kernel), bw4 (by decide +kernel)⟩, by decide, by decide +kernel⟩
theorem bmDsz : Cond.code byDsz prog_23_method_13_code 4 (some .int) ∈ bWg ∧ Cond.initialized byDsz.cls ∈ bWg ∧ byDsz.cls ≠ "java/lang/invoke/MethodHandle" ∧ byDsz.cls ≠ "java/lang/invoke/VarHandle" ∧ (parseMethodDescriptor byDsz.desc).map (fun d => d.parameters.length) = some 1 := ⟨bw4 (by decide +kernel), bw4 (by decide +kernel), by decide, by decide, by decide +kernel⟩
theorem bmChs : Cond.code byChs prog_23_method_12_code 7 (some .int) ∈ bWg ∧ Cond.initialized byChs.cls ∈ bWg ∧ byChs.cls ≠ "java/lang/invoke/MethodHandle" ∧ byChs.cls ≠ "java/lang/invoke/VarHandle" ∧ (parseMethodDescriptor byChs.desc).map (fun d => d.parameters.length) = some 3 := ⟨bw4 (by decide +kernel), bw4 (by decide +kernel), by decide, by decide, by decide +kernel⟩
theorem bl_245 : Cond.methodLink RAB 245 byDsz ∈ bWg ∧ Cond.static byDsz ∈ bWg := ⟨bw4 (by decide +kernel), bw4 (by decide +kernel)⟩
theorem bl_248 : Cond.methodLink RAB 248 byChs ∈ bWg ∧ Cond.static byChs ∈ bWg := ⟨bw4 (by decide +kernel), bw4 (by decide +kernel)⟩
theorem bl_I83 : Cond.fieldLink RIN 83 RIN "DigitOnes" "[B" ∈ bWg := bw4 (by decide +kernel)
theorem b_dig {x : Nat} (h : x ≤ 9) : ¬ Int32.ofNat x < 0 ∧ 0 ≤ Int32.ofNat x ∧ ¬ -Int32.ofNat x ≤ -10 ∧ -100 < -Int32.ofNat x ∧ -9 ≤ -Int32.ofNat x ∧ -(-Int32.ofNat x) = Int32.ofNat x ∧ vp_nar .byte (dg1 x) = dg1 x := by
  have : ∀ x : Fin 10, ¬ Int32.ofNat x.val < 0 ∧ 0 ≤ Int32.ofNat x.val ∧ ¬ -Int32.ofNat x.val ≤ -10 ∧ -100 < -Int32.ofNat x.val ∧ -9 ≤ -Int32.ofNat x.val ∧ -(-Int32.ofNat x.val) = Int32.ofNat x.val ∧ vp_nar .byte (dg1 x.val) = dg1 x.val := by decide +kernel
  exact this ⟨x, by omega⟩
theorem b_pred {k : Nat} (h : k < 16) : Int32.ofNat (k + 1) + Int32.ofInt (-1) = Int32.ofNat k := by
  have : ∀ k : Fin 16, Int32.ofNat (k.val + 1) + Int32.ofInt (-1) = Int32.ofNat k.val := by decide +kernel
  exact this ⟨k, h⟩
theorem b_vin {k N : Nat} (h : k < N) (hN : N < 2 ^ 31) : vp_in (Int32.ofNat k) N := fun q => by
  rcases q with q | q
  · exact b_neg (by omega) q
  · rw [b_nat (by omega)] at q
    omega
section SB6
variable {l : Launch} {n sb v x k : Nat} {D : va_G} {cA : ClassId} {f : Nat → Int32} {tx : Option (List Int32 × Nat × Nat)}
theorem b_dsz (h9 : x ≤ 9) : bCon l byDsz prog_23_method_13_code 4 (some .int) 0 [.int (Int32.ofNat x)] (some (.int 1)) D cA sb v n f n f tx := by
  obtain ⟨d1, d2, d3, d4, d5, d6, d7⟩ := b_dig h9
  refine b_of (by decide) (fun p e s m below meth c hx hb hml hown hts hlk hret hP hK => ?_)
  have hS : va_S (bA sb v) s.heap s.heap [] := va_S.rf
  generalize Int32.ofNat x = X at d1 d2 d3 d4 d5 d6 hts ⊢
  have hL := lv_entry [.int X] (n := 4) (Nat.le_of_ble_eq_true rfl)
  generalize ((lg_sl [.int X] ++ List.replicate (4 - (lg_sl [.int X]).length) Slot.unset).toArray) = L at hL ⊢
  have hL : lv_has L 4 [(0, .int X)] := hL
  refine lv_iconst hx hb (n := 1) (v := 1) (by decide +kernel) rfl ?_
  refine lv_istore_n hx hb (k := 1) (i := 1) (nL := 4) (by decide +kernel) rfl hL (by decide) rfl (fun L1 hL1 => ?_)
  have hL1 : lv_has L1 4 [(1, .int 1), (0, .int X)] := hL1
  refine lv_iload_n hx hb (k := 0) (i := 0) (x := X) (by decide +kernel) rfl (lv_at hL1 1 rfl) ?_
  refine lv_if_lt hx hb (off := 8) (tgt := 11) (by decide +kernel) (by decide) (fun h => absurd h d1) (fun _ => ?_)
  refine lv_iconst hx hb (n := 0) (v := 0) (by decide +kernel) rfl ?_
  refine lv_istore_n hx hb (k := 1) (i := 1) (nL := 4) (by decide +kernel) rfl hL1 (by decide) rfl (fun L2 hL2 => ?_)
  have hL2 : lv_has L2 4 [(1, .int 0), (0, .int X)] := hL2
  refine lv_iload_n hx hb (k := 0) (i := 0) (x := X) (by decide +kernel) rfl (lv_at hL2 1 rfl) ?_
  refine lv_ineg hx hb (by decide +kernel) ?_
  refine lv_istore_n hx hb (k := 0) (i := 0) (nL := 4) (by decide +kernel) rfl hL2 (by decide) rfl (fun L3 hL3 => ?_)
  have hL3 : lv_has L3 4 [(0, .int (-X)), (1, .int 0)] := hL3
  refine lv_bipush hx hb (n := -10) (v := -10) (by decide +kernel) (by decide) ?_
  refine lv_istore_n hx hb (k := 2) (i := 2) (nL := 4) (by decide +kernel) rfl hL3 (by decide) rfl (fun L4 hL4 => ?_)
  have hL4 : lv_has L4 4 [(2, .int (-10)), (0, .int (-X)), (1, .int 0)] := hL4
  refine lv_iconst hx hb (n := 1) (v := 1) (by decide +kernel) rfl ?_
  refine lv_istore_n hx hb (k := 3) (i := 3) (nL := 4) (by decide +kernel) rfl hL4 (by decide) rfl (fun L5 hL5 => ?_)
  have hL5 : lv_has L5 4 [(3, .int 1), (2, .int (-10)), (0, .int (-X)), (1, .int 0)] := hL5
  refine lv_iload_n hx hb (k := 3) (i := 3) (x := 1) (by decide +kernel) rfl (lv_at hL5 0 rfl) ?_
  refine lv_bipush hx hb (n := 10) (v := 10) (by decide +kernel) (by decide) ?_
  refine lv_icmp_ge hx hb (off := 23) (tgt := 42) (by decide +kernel) (by decide) (fun h => absurd h (by decide)) (fun _ => ?_)
  refine lv_iload_n hx hb (k := 0) (i := 0) (x := -X) (by decide +kernel) rfl (lv_at hL5 2 rfl) ?_
  refine lv_iload_n hx hb (k := 2) (i := 2) (x := -10) (by decide +kernel) rfl (lv_at hL5 1 rfl) ?_
  refine lv_icmp_le hx hb (off := 7) (tgt := 31) (by decide +kernel) (by decide) (fun h => absurd h d3) (fun _ => ?_)
  refine lv_iload_n hx hb (k := 3) (i := 3) (x := 1) (by decide +kernel) rfl (lv_at hL5 0 rfl) ?_
  refine lv_iload_n hx hb (k := 1) (i := 1) (x := 0) (by decide +kernel) rfl (lv_at hL5 3 rfl) ?_
  refine lv_iadd hx hb (by decide +kernel) ?_
  exact b_zret hx hb hret rfl hlk hP hS (by decide +kernel)
theorem b_chs (hv : sb ≠ v) (h9 : x ≤ 9) (hk : k < 16) : bCon l byChs prog_23_method_12_code 7 (some .int) 0 [.int (Int32.ofNat x), .int (Int32.ofNat (k + 1)), .ref v] (some (.int (Int32.ofNat k))) D cA sb v n f n (upd f k (dg1 x)) tx := by
  obtain ⟨d1, d2, d3, d4, d5, d6, d7⟩ := b_dig h9
  have d8 : vp_in (Int32.ofNat x) 100 := b_vin (by omega) (by decide)
  have d9 : (Int32.ofNat x).toNatClampNeg = x := b_nat (by omega)
  refine b_of (by decide) (fun p e s m below meth c hx hb hml hown hts hlk hret hP hK => ?_)
  have hS : va_S (bA sb v) s.heap s.heap [] := va_S.rf
  obtain ⟨tb, hZ, hT⟩ := hK.2.2.1
  generalize Int32.ofNat x = X at d1 d2 d3 d4 d5 d6 d8 d9 hts ⊢
  have hL := lv_entry [.int X, .int (Int32.ofNat (k + 1)), .ref v] (n := 7) (Nat.le_of_ble_eq_true rfl)
  generalize ((lg_sl [.int X, .int (Int32.ofNat (k + 1)), .ref v] ++ List.replicate (7 - (lg_sl [.int X, .int (Int32.ofNat (k + 1)), .ref v]).length) Slot.unset).toArray) = L at hL ⊢
  have hL : lv_has L 7 [(0, .int X), (1, .int (Int32.ofNat (k + 1))), (2, .ref v)] := hL
  refine lv_iload_n hx hb (k := 1) (i := 1) (x := Int32.ofNat (k + 1)) (by decide +kernel) rfl (lv_at hL 1 rfl) ?_
  refine lv_istore hx hb (i := 5) (nL := 7) (by decide +kernel) hL (by decide) rfl (fun L1 hL1 => ?_)
  have hL1 : lv_has L1 7 [(5, .int (Int32.ofNat (k + 1))), (0, .int X), (1, .int (Int32.ofNat (k + 1))), (2, .ref v)] := hL1
  refine lv_iload_n hx hb (k := 0) (i := 0) (x := X) (by decide +kernel) rfl (lv_at hL1 1 rfl) ?_
  refine lv_if_ge hx hb (off := 7) (tgt := 11) (by decide +kernel) (by decide) (fun _ => ?_) (fun h => absurd d2 h)
  refine lv_iconst hx hb (n := 0) (v := 0) (by decide +kernel) rfl ?_
  refine lv_istore hx hb (i := 6) (nL := 7) (by decide +kernel) hL1 (by decide) rfl (fun L2 hL2 => ?_)
  have hL2 : lv_has L2 7 [(6, .int 0), (5, .int (Int32.ofNat (k + 1))), (0, .int X), (1, .int (Int32.ofNat (k + 1))), (2, .ref v)] := hL2
  refine lv_iload hx hb (i := 6) (x := 0) (by decide +kernel) (lv_at hL2 0 rfl) ?_
  refine lv_if_ne hx hb (off := 6) (tgt := 22) (by decide +kernel) (by decide) (fun h => absurd rfl h) (fun _ => ?_)
  refine lv_iload_n hx hb (k := 0) (i := 0) (x := X) (by decide +kernel) rfl (lv_at hL2 2 rfl) ?_
  refine lv_ineg hx hb (by decide +kernel) ?_
  refine lv_istore_n hx hb (k := 0) (i := 0) (nL := 7) (by decide +kernel) rfl hL2 (by decide) rfl (fun L3 hL3 => ?_)
  have hL3 : lv_has L3 7 [(0, .int (-X)), (6, .int 0), (5, .int (Int32.ofNat (k + 1))), (1, .int (Int32.ofNat (k + 1))), (2, .ref v)] := hL3
  refine lv_iload_n hx hb (k := 0) (i := 0) (x := -X) (by decide +kernel) rfl (lv_at hL3 0 rfl) ?_
  refine lv_bipush hx hb (n := -100) (v := -100) (by decide +kernel) (by decide) ?_
  refine lv_icmp_gt hx hb (off := 47) (tgt := 72) (by decide +kernel) (by decide) (fun _ => ?_) (fun h => absurd d4 h)
  refine lv_aload_n hx hb (k := 2) (i := 2) (x := v) (by decide +kernel) rfl (lv_at hL3 4 rfl) ?_
  refine lv_iinc hx hb (i := 5) (nL := 7) (k := 2) (n := -1) (x := Int32.ofNat (k + 1)) (v := Int32.ofNat k) (by decide +kernel) hL3 rfl (b_pred hk) (by decide) rfl (fun L4 hL4 => ?_)
  have hL4 : lv_has L4 7 [(5, .int (Int32.ofNat k)), (0, .int (-X)), (6, .int 0), (1, .int (Int32.ofNat (k + 1))), (2, .ref v)] := hL4
  refine lv_iload hx hb (i := 5) (x := Int32.ofNat k) (by decide +kernel) (lv_at hL4 0 rfl) ?_
  refine va_gets hx hb hZ hS hown (hts _ bl_I83) (fun _ z => z) (by decide +kernel) ?_
  refine lv_iload_n hx hb (k := 0) (i := 0) (x := -X) (by decide +kernel) rfl (lv_at hL4 1 rfl) ?_
  refine lv_ineg hx hb (by decide +kernel) ?_
  rw [d6]
  refine va_tb hx hb hT hS d8 (v := .int (dg1 x)) (by show Value.int (dg1 X.toNatClampNeg) = _; rw [d9]) (by decide +kernel) ?_
  refine va_bast hx hb hK.1 hP (bD hv) hS 1 0 rfl rfl (b_vin hk (by decide)) (by decide +kernel) (fun H1 locs1 hP1 _ hS1 => ?_)
  rw [d7, b_nat (by omega)] at hP1
  have hP1 : va_P D bCl (bWs cA sb v n (upd f k (dg1 x))) H1 := hP1
  refine lv_iload_n hx hb (k := 0) (i := 0) (x := -X) (by decide +kernel) rfl (lv_at hL4 1 rfl) ?_
  refine lv_bipush hx hb (n := -9) (v := -9) (by decide +kernel) (by decide) ?_
  refine lv_icmp_ge hx hb (off := 16) (tgt := 104) (by decide +kernel) (by decide) (fun _ => ?_) (fun h => absurd d5 h)
  refine lv_iload hx hb (i := 6) (x := 0) (by decide +kernel) (lv_at hL4 2 rfl) ?_
  refine lv_if_eq hx hb (off := 12) (tgt := 118) (by decide +kernel) (by decide) (fun _ => ?_) (fun h => absurd rfl h)
  refine lv_iload hx hb (i := 5) (x := Int32.ofNat k) (by decide +kernel) (lv_at hL4 0 rfl) ?_
  exact b_zret hx hb hret rfl hlk hP1 hS1 (by decide +kernel)
theorem b_apI (hv : sb ≠ v) (h9 : x ≤ 9) (h5 : n < 16) : bCon l byApI prog_12_method_32_code 4 (some (.object RAB)) 3 [.ref sb, .int (Int32.ofNat x)] (some (.ref sb)) D cA sb v n f (n + 1) (upd f n (dg1 x)) tx := by
  refine b_of (by decide) (fun p e s m below meth c hx hb hml hown hts hlk hret hP hK => ?_)
  have hS : va_S (bA sb v) s.heap s.heap [] := va_S.rf
  have ea : Int32.ofNat n + 1 = Int32.ofNat (n + 1) := (Int32.ofNat_add n 1).symm
  have hL := lv_entry [.ref sb, .int (Int32.ofNat x)] (n := 4) (Nat.le_of_ble_eq_true rfl)
  generalize ((lg_sl [.ref sb, .int (Int32.ofNat x)] ++ List.replicate (4 - (lg_sl [.ref sb, .int (Int32.ofNat x)]).length) Slot.unset).toArray) = L at hL ⊢
  have hL : lv_has L 4 [(0, .ref sb), (1, .int (Int32.ofNat x))] := hL
  refine lv_aload_n hx hb (k := 0) (i := 0) (x := sb) (by decide +kernel) rfl (lv_at hL 0 rfl) ?_
  refine b_getn hx hb hts hown hK hP (by decide +kernel) ?_
  refine lv_istore_n hx hb (k := 2) (i := 2) (nL := 4) (by decide +kernel) rfl hL (by decide) rfl (fun L1 hL1 => ?_)
  have hL1 : lv_has L1 4 [(2, .int (Int32.ofNat n)), (0, .ref sb), (1, .int (Int32.ofNat x))] := hL1
  refine lv_iload_n hx hb (k := 2) (i := 2) (x := Int32.ofNat n) (by decide +kernel) rfl (lv_at hL1 0 rfl) ?_
  refine lv_iload_n hx hb (k := 1) (i := 1) (x := Int32.ofNat x) (by decide +kernel) rfl (lv_at hL1 2 rfl) ?_
  refine b_callS (vs := [.int (Int32.ofNat x)]) (rest := [.int (Int32.ofNat n)]) (own := RAB) (A0 := bA sb v) (H0 := s.heap) hx hb hml hown hts hP hK hS (fun _ z => z) (b_dsz h9) bmDsz bl_245.1 bl_245.2 ⟨by decide, by decide⟩ rfl hL1.1 (by show 1 ≤ 8; decide) ⟨by decide, by decide⟩ (by decide +kernel) (fun H1 locs1 hP1 hq1 hS1 => ?_)
  refine lv_iadd hx hb (by decide +kernel) ?_
  rw [ea]
  refine lv_istore_n hx hb (k := 3) (i := 3) (nL := 4) (by decide +kernel) rfl hL1 (by decide) rfl (fun L2 hL2 => ?_)
  have hL2 : lv_has L2 4 [(3, .int (Int32.ofNat (n + 1))), (2, .int (Int32.ofNat n)), (0, .ref sb), (1, .int (Int32.ofNat x))] := hL2
  refine lv_aload_n hx hb (k := 0) (i := 0) (x := sb) (by decide +kernel) rfl (lv_at hL2 2 rfl) ?_
  refine lv_iload_n hx hb (k := 3) (i := 3) (x := Int32.ofNat (n + 1)) (by decide +kernel) rfl (lv_at hL2 0 rfl) ?_
  refine b_callU (vs := [.int (Int32.ofNat (n + 1))]) (rest := []) (own := RAB) (A0 := bA sb v) (H0 := s.heap) hx hb hml hown hts hP1 (hK.at hS1) hS1 (fun _ z => z) (b_ens (b_room h5)) bU_Ens ⟨by decide, by decide⟩ rfl hL2.1 (by decide) ⟨by decide, by decide⟩ (by decide +kernel) (fun H2 locs2 hP2 hq2 hS2 => ?_)
  refine lv_aload_n hx hb (k := 0) (i := 0) (x := sb) (by decide +kernel) rfl (lv_at hL2 2 rfl) ?_
  refine b_callU (vs := []) (rest := []) (own := RAB) (A0 := bA sb v) (H0 := s.heap) hx hb hml hown hts hP2 (hK.at hS2) hS2 (fun _ z => z) b_isL bU_IsL ⟨by decide, by decide⟩ rfl hL2.1 (by decide) ⟨by decide, by decide⟩ (by decide +kernel) (fun H3 locs3 hP3 hq3 hS3 => ?_)
  refine lv_if_eq hx hb (x := 1) (off := 16) (tgt := 37) (by decide +kernel) (by decide) (fun h => absurd h (by decide)) (fun _ => ?_)
  refine lv_iload_n hx hb (k := 1) (i := 1) (x := Int32.ofNat x) (by decide +kernel) rfl (lv_at hL2 3 rfl) ?_
  refine lv_iload_n hx hb (k := 3) (i := 3) (x := Int32.ofNat (n + 1)) (by decide +kernel) rfl (lv_at hL2 0 rfl) ?_
  refine lv_aload_n hx hb (k := 0) (i := 0) (x := sb) (by decide +kernel) rfl (lv_at hL2 2 rfl) ?_
  refine b_getv hx hb hts hown hK hP3 (by decide +kernel) ?_
  refine b_callS (vs := [.int (Int32.ofNat x), .int (Int32.ofNat (n + 1)), .ref v]) (rest := []) (own := RAB) (A0 := bA sb v) (H0 := s.heap) hx hb hml hown hts hP3 (hK.at hS3) hS3 (fun _ z => z) (b_chs hv h9 h5) bmChs bl_248.1 bl_248.2 ⟨by decide, by decide⟩ rfl hL2.1 (by decide) ⟨by decide, by decide⟩ (by decide +kernel) (fun H4 locs4 hP4 hq4 hS4 => ?_)
  refine lv_pop hx hb (by decide +kernel) rfl ?_
  refine lv_goto hx hb (off := 14) (tgt := 48) (by decide +kernel) (by decide) ?_
  refine lv_aload_n hx hb (k := 0) (i := 0) (x := sb) (by decide +kernel) rfl (lv_at hL2 2 rfl) ?_
  refine lv_iload_n hx hb (k := 3) (i := 3) (x := Int32.ofNat (n + 1)) (by decide +kernel) rfl (lv_at hL2 0 rfl) ?_
  refine b_putn hx hb hts hown hK hP4 hv hS4 (by decide +kernel) (fun H5 locs5 hP5 hS5 => ?_)
  refine lv_aload_n hx hb (k := 0) (i := 0) (x := sb) (by decide +kernel) rfl (lv_at hL2 2 rfl) ?_
  exact b_aret hx hb hret (Or.inl ⟨_, rfl⟩) hlk hP5 hS5 (by decide +kernel)
theorem b_ap2 (hv : sb ≠ v) (h9 : x ≤ 9) (h5 : n < 16) : bCon l byAp2 prog_28_method_15_code 2 (some (.object RSB)) 4 [.ref sb, .int (Int32.ofNat x)] (some (.ref sb)) D cA sb v n f (n + 1) (upd f n (dg1 x)) tx := by
  refine b_of (by decide) (fun p e s m below meth c hx hb hml hown hts hlk hret hP hK => ?_)
  have hS : va_S (bA sb v) s.heap s.heap [] := va_S.rf
  refine lv_aload_n hx hb (k := 0) (i := 0) (x := sb) (by decide +kernel) rfl rfl ?_
  refine lv_iload_n hx hb (k := 1) (i := 1) (x := Int32.ofNat x) (by decide +kernel) rfl rfl ?_
  refine b_callSU (vs := [.int (Int32.ofNat x)]) (rest := []) (A0 := bA sb v) (H0 := s.heap) hx hb hml hown hts hP hK hS (fun _ z => z) (b_apI hv h9 h5) bSU_ApI ⟨by decide, by decide⟩ rfl rfl (by decide) ⟨by decide, by decide⟩ (by decide +kernel) (fun H1 locs1 hP1 hq1 hS1 => ?_)
  refine lv_pop hx hb (by decide +kernel) rfl ?_
  refine lv_aload_n hx hb (k := 0) (i := 0) (x := sb) (by decide +kernel) rfl rfl ?_
  exact b_aret hx hb hret (Or.inl ⟨_, rfl⟩) hlk hP1 hS1 (by decide +kernel)
end SB6
