/-! String.indexOf, joined -/
theorem j_findN {x : Int32} : ∀ (l : List Int32) (i : Int32), (∀ b ∈ l, b ≠ x) → aFind l x i = -1
  | [], _, _ => rfl
  | b :: r, i, h => by
    show (if b = x then i else aFind r x (i + 1)) = -1
    rw [if_neg (h b List.mem_cons_self)]
    exact j_findN r (i + 1) (fun q hq => h q (List.mem_cons_of_mem _ hq))
theorem j_findB {ci : Nat} (hc : ci = 90 ∨ ci = 91) {x : Int32} (h : 255 < x) : aFind (aStr ci) x 0 = -1 := by
  have k0 : ∀ b ∈ aStr 90, ¬ 255 < b := by decide
  have k1 : ∀ b ∈ aStr 91, ¬ 255 < b := by decide
  refine j_findN _ _ (fun b hb e => ?_)
  subst e
  rcases hc with rfl | rfl
  · exact k0 b hb h
  · exact k1 b hb h
section SJ6
variable {l : Launch} {ci a v : Nat} {x : Int32}
theorem j_ixL (hc : ci = 90 ∨ ci = 91) (h0 : ¬ x < 0) : jCon l jyIxL prog_24_method_22_code 4 (some .int) 1 [.ref v, .int x, .int 0, .int 6] (some (.int (aFind (aStr ci) x 0))) ci a v := by
  refine j_of (by decide) (fun p e s m below meth c hx hb hml hown hts hlk hret hJ => ?_)
  have hS : va_S jN s.heap s.heap [] := va_S.rf
  have hT : va_T .byte v 6 (fun j => .int ((aStr ci).getD j 0)) jN s s.heap := (hJ.2.2.1 0 (by decide)).2.2.2
  have hL := lv_entry [.ref v, .int x, .int 0, .int 6] (n := 4) (Nat.le_of_ble_eq_true rfl)
  generalize ((lg_sl [.ref v, .int x, .int 0, .int 6] ++ List.replicate (4 - (lg_sl [.ref v, .int x, .int 0, .int 6]).length) Slot.unset).toArray) = L at hL ⊢
  have hL : lv_has L 4 [(0, .ref v), (1, .int x), (2, .int 0), (3, .int 6)] := hL
  refine lv_iload_n hx hb (k := 1) (i := 1) (by decide +kernel) rfl (lv_at hL 1 rfl) ?_
  by_cases h1 : 255 < x
  · refine j_callS (vs := [.int x]) (rest := []) (own := "java/lang/StringLatin1") hx hb hml hown hts hJ hS (j_canN h0 h1) jmCan jl_88 js_Can ⟨by decide, by decide⟩ rfl hL.1 (by decide) ⟨by decide, by decide⟩ (by decide +kernel) ?_
    refine lv_if_ne hx hb (x := 0) (off := 5) (tgt := 9) (by decide +kernel) (by decide) (fun h => absurd rfl h) (fun _ => ?_)
    refine lv_iconst hx hb (n := -1) (v := -1) (by decide +kernel) rfl ?_
    rw [j_findB hc h1]
    exact j_zret hx hb hret rfl hlk (by decide +kernel)
  · refine j_callS (vs := [.int x]) (rest := []) (own := "java/lang/StringLatin1") hx hb hml hown hts hJ hS (j_canY h0 h1) jmCan jl_88 js_Can ⟨by decide, by decide⟩ rfl hL.1 (by decide) ⟨by decide, by decide⟩ (by decide +kernel) ?_
    refine lv_if_ne hx hb (x := 1) (off := 5) (tgt := 9) (by decide +kernel) (by decide) (fun _ => ?_) (fun h => absurd h (by decide))
    refine lv_iload_n hx hb (k := 2) (i := 2) (by decide +kernel) rfl (lv_at hL 2 rfl) ?_
    refine lv_iconst hx hb (n := 0) (v := 0) (by decide +kernel) rfl ?_
    refine va_mmax (own := "java/lang/StringLatin1") hx hb (by rw [hml]; exact hL.1.symm) hown (hts _ jl_max.1) (hts _ jl_max.2.1) (hts _ jl_max.2.2.1) (hts _ jl_max.2.2.2) (by decide) (by decide) (by decide) (by decide) (by decide +kernel) ?_
    refine lv_istore_n hx hb (k := 2) (i := 2) (nL := 4) (x := 0) (by decide +kernel) rfl hL (by decide) rfl (fun L1 hL1 => ?_)
    have hL1 : lv_has L1 4 [(2, .int 0), (0, .ref v), (1, .int x), (3, .int 6)] := hL1
    refine lv_iload_n hx hb (k := 3) (i := 3) (by decide +kernel) rfl (lv_at hL1 3 rfl) ?_
    refine lv_aload_n hx hb (k := 0) (i := 0) (by decide +kernel) rfl (lv_at hL1 1 rfl) ?_
    refine va_tlen hx hb hT hS (v := 6) rfl (by decide +kernel) ?_
    refine va_mmin (own := "java/lang/StringLatin1") hx hb (by rw [hml]; exact hL1.1.symm) hown (hts _ jl_min.1) (hts _ jl_min.2.1) (hts _ jl_min.2.2.1) (hts _ jl_min.2.2.2) (by decide) (by decide) (by decide) (by decide) (by decide +kernel) ?_
    refine lv_istore_n hx hb (k := 3) (i := 3) (nL := 4) (x := 6) (by decide +kernel) rfl hL1 (by decide) rfl (fun L2 hL2 => ?_)
    have hL2 : lv_has L2 4 [(3, .int 6), (2, .int 0), (0, .ref v), (1, .int x)] := hL2
    refine lv_iload_n hx hb (k := 2) (i := 2) (by decide +kernel) rfl (lv_at hL2 1 rfl) ?_
    refine lv_iload_n hx hb (k := 3) (i := 3) (by decide +kernel) rfl (lv_at hL2 0 rfl) ?_
    refine lv_icmp_lt hx hb (off := 5) (tgt := 29) (by decide +kernel) (by decide) (fun _ => ?_) (fun h => absurd (by decide) h)
    refine lv_aload_n hx hb (k := 0) (i := 0) (by decide +kernel) rfl (lv_at hL2 2 rfl) ?_
    refine lv_iload_n hx hb (k := 1) (i := 1) (by decide +kernel) rfl (lv_at hL2 3 rfl) ?_
    refine lv_iload_n hx hb (k := 2) (i := 2) (by decide +kernel) rfl (lv_at hL2 1 rfl) ?_
    refine lv_iload_n hx hb (k := 3) (i := 3) (by decide +kernel) rfl (lv_at hL2 0 rfl) ?_
    refine j_callS (vs := [.ref v, .int x, .int 0, .int 6]) (rest := []) (own := "java/lang/StringLatin1") hx hb hml hown hts hJ hS (j_ixC hc h0 h1) jmIxC jl_95 js_IxC ⟨by decide, by decide⟩ rfl hL2.1 (by decide) ⟨by decide, by decide⟩ (by decide +kernel) ?_
    exact j_zret hx hb hret rfl hlk (by decide +kernel)
theorem j_ix2 (hc : ci = 90 ∨ ci = 91) (h0 : ¬ x < 0) : jCon l jyIx2 prog_23_method_80_code 3 (some .int) 2 [.ref a, .int x, .int 0] (some (.int (aFind (aStr ci) x 0))) ci a v := by
  refine j_of (by decide) (fun p e s m below meth c hx hb hml hown hts hlk hret hJ => ?_)
  have hS : va_S jN s.heap s.heap [] := va_S.rf
  refine lv_aload_n hx hb (k := 0) (i := 0) (x := a) (by decide +kernel) rfl rfl ?_
  refine j_callV (vs := []) (rest := []) (own := "java/lang/String") hx hb hml hown hts hJ hS j_isL rfl jmIsL jl_492 ji_IsL.1 ji_IsL.2 ⟨by decide, by decide⟩ rfl rfl (by decide) ⟨by decide, by decide⟩ (by decide +kernel) ?_
  refine lv_if_eq hx hb (x := 1) (off := 19) (tgt := 23) (by decide +kernel) (by decide) (fun h => absurd h (by decide)) (fun _ => ?_)
  refine lv_aload_n hx hb (k := 0) (i := 0) (x := a) (by decide +kernel) rfl rfl ?_
  refine vk_getf hx hb (hJ.2.2.1 0 (by decide)).2.2.1 hS hown (hts _ jl_9) (fun _ z => z) (by decide +kernel) ?_
  refine lv_iload_n hx hb (k := 1) (i := 1) (x := x) (by decide +kernel) rfl rfl ?_
  refine lv_iload_n hx hb (k := 2) (i := 2) (x := 0) (by decide +kernel) rfl rfl ?_
  refine lv_aload_n hx hb (k := 0) (i := 0) (x := a) (by decide +kernel) rfl rfl ?_
  refine j_callV (vs := []) (rest := [.int 0, .int x, .ref v]) (own := "java/lang/String") hx hb hml hown hts hJ hS j_len rfl jmLen jl_505 ji_Len.1 ji_Len.2 ⟨by decide, by decide⟩ rfl rfl (Nat.le_of_ble_eq_true rfl) ⟨by decide, by decide⟩ (by decide +kernel) ?_
  refine j_callS (vs := [.ref v, .int x, .int 0, .int 6]) (rest := []) (own := "java/lang/String") hx hb hml hown hts hJ hS (j_ixL hc h0) jmIxL jl_637 js_IxL ⟨by decide, by decide⟩ rfl rfl (by decide) ⟨by decide, by decide⟩ (by decide +kernel) ?_
  refine lv_goto hx hb (off := 16) (tgt := 36) (by decide +kernel) (by decide) ?_
  exact j_zret hx hb hret rfl hlk (by decide +kernel)
theorem j_ix (hc : ci = 90 ∨ ci = 91) (h0 : ¬ x < 0) : jCon l jyIx prog_23_method_79_code 2 (some .int) 3 [.ref a, .int x] (some (.int (aFind (aStr ci) x 0))) ci a v := by
  refine j_of (by decide) (fun p e s m below meth c hx hb hml hown hts hlk hret hJ => ?_)
  have hS : va_S jN s.heap s.heap [] := va_S.rf
  refine lv_aload_n hx hb (k := 0) (i := 0) (x := a) (by decide +kernel) rfl rfl ?_
  refine lv_iload_n hx hb (k := 1) (i := 1) (x := x) (by decide +kernel) rfl rfl ?_
  refine lv_iconst hx hb (n := 0) (v := 0) (by decide +kernel) rfl ?_
  refine j_callV (vs := [.int x, .int 0]) (rest := []) (own := "java/lang/String") hx hb hml hown hts hJ hS (j_ix2 hc h0) rfl jmIx2 jl_633 ji_Ix2.1 ji_Ix2.2 ⟨by decide, by decide⟩ rfl rfl (by decide) ⟨by decide, by decide⟩ (by decide +kernel) ?_
  exact j_zret hx hb hret rfl hlk (by decide +kernel)
end SJ6
