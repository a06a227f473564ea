/-! THE START: the tables' words, the statics, the strings -/
def aTb (i : Nat) : FieldType × Nat × (Nat → Int32) := match i with
  | 0 => (.int, 4, aI4 2 1 3 4)
  | 1 => (.int, 4, aI4 1180 1200 1220 1240)
  | 2 => (.int, 3, aI4 0 10 5 5)
  | 3 => (.int, 3, aI4 9 99 40 40)
  | _ => (.char, 6, aSg5)
set_option maxRecDepth 100000 in
theorem gv_t : ((List.range 5).all fun i => decide (Cond.arrayOf (.static RX7 (aGs i).1 (aGs i).2) (aTb i).1 ∈ lw_gv ∧ Cond.eq (.length (.static RX7 (aGs i).1 (aGs i).2)) (.int (Int32.ofNat (aTb i).2.1)) ∈ lw_gv ∧ (aTb i).2.1 < 8) && (List.range (aTb i).2.1).all fun j => decide (Cond.eq (.elem (.static RX7 (aGs i).1 (aGs i).2) (.int (Int32.ofNat j))) (.int ((aTb i).2.2 j)) ∈ lw_gv)) = true := by decide +kernel
theorem all_lt {n : Nat} {f : Nat → Bool} (h : ((List.range n).all f) = true) {i : Nat} (hi : i < n) : f i = true := List.all_eq_true.mp h i (List.mem_range.mpr hi)
section SGK
variable {s : State} {args : Array Value}
theorem st_t (hg : ∀ w ∈ lw_gv, w.before args s = true) {A : Nat → Prop} (hA : ∀ a : Nat, a < s.heap.size → ¬ A a) {i : Nat} (hi : i < 5) : ∃ t : Nat, (Term.static RX7 (aGs i).1 (aGs i).2).eval args s none [] s = some (.ref t) ∧ va_T (aTb i).1 t (aTb i).2.1 (fun j => .int ((aTb i).2.2 j)) A s s.heap := by
  have h := all_lt gv_t hi
  rw [Bool.and_eq_true] at h
  obtain ⟨h1, h2, h3⟩ := of_decide_eq_true h.1
  exact va_Tof (Nat.lt_trans h3 (by decide)) (hg _ h1) (va_eqt (hg _ h2)) (fun j hj => va_eqt (hg _ (of_decide_eq_true (all_lt h.2 hj)))) hA
theorem st_str {own tx : String} {k : Nat} (h1 : (Cond.stringRef own k tx).before args s = true) (h2 : (Cond.exactly (.string own k) "java/lang/String").before args s = true) : ∃ a, vk_R own k tx a s := by
  obtain ⟨a, c, cell, kk, ha, -⟩ := Cond.exactly_spec h2
  exact ⟨a, vk_R.of h1 ha⟩
/-- what is known at the start -/
theorem st_kn (hts : ∀ w ∈ lw_tbl, w.before args s = true) (hg : ∀ w ∈ lw_gv, w.before args s = true) (b : Nat) : ∃ (D : va_G) (ka : FieldType → ClassId) (sg : Nat → Nat), (∀ j, sg (8 + j) = s.heap.size + j) ∧ sg 5 = b ∧ aKn D ka sg (fun q => s.heap.size ≤ q) s ∧ (∀ i, i < 5 → va_T (aTb i).1 (sg i) (aTb i).2.1 (fun j => .int ((aTb i).2.2 j)) (fun q => s.heap.size ≤ q) s s.heap) ∧ ∃ v, jStr 90 (sg 6) v (fun q => s.heap.size ≤ q) s s.heap := by
  have hA : ∀ a : Nat, a < s.heap.size → ¬ s.heap.size ≤ a := fun a h => by omega
  have hwg : ∀ w ∈ aWg, w.before args s = true := fun w hw => hts w (List.mem_filter.mp hw).1
  have hD : ∀ ci : Nat, ∃ x : ClassId × (Nat → Nat), ∀ r : vw_C, aCl[ci]? = some r → u_Kn s r.1 r.2.1 r.2.2 x.1 x.2 := by
    intro ci
    cases hr : aCl[ci]? with
    | none => exact ⟨(default, fun _ => 0), fun r h => by cases h⟩
    | some r =>
      obtain ⟨cC, iS, h⟩ := u_known (n := r.2.2) hwg (aCl_in ci r hr) (hts _ (of_decide_eq_true (List.all_eq_true.mp tb_cl r (List.mem_of_getElem? hr))))
      exact ⟨(cC, iS), fun r1 h1 => by cases h1; exact h⟩
  obtain ⟨D, hD⟩ := Classical.axiomOfChoice hD
  have hK : ∀ ty : FieldType, ∃ cA : ClassId, ty ∈ aTys → ArrOfT s cA ty ∧ va_RA s cA ty := by
    intro ty
    by_cases ht : ty ∈ aTys
    · obtain ⟨a1, a2, a3, a5, a6⟩ := tb_ar
      have key : ∃ cA : ClassId, ArrOfT s cA ty ∧ va_RA s cA ty := by
        simp only [List.mem_cons, List.not_mem_nil, or_false] at ht
        rcases ht with rfl | rfl | rfl | rfl | rfl
        · exact va_RAof (hts _ a1) (fun C h => by cases h)
        · exact va_RAof (hts _ a2) (fun C h => by cases h)
        · exact va_RAof (hts _ a3) (fun C h => by cases h)
        · exact va_RAofO (va_AO.of (hts _ a5))
        · exact va_RAofA (va_AOA.of (hts _ a6))
      obtain ⟨cA, h⟩ := key
      exact ⟨cA, fun _ => h⟩
    · exact ⟨default, fun h => absurd h ht⟩
  obtain ⟨ka, hK⟩ := Classical.axiomOfChoice hK
  have hT : ∀ i : Nat, ∃ t : Nat, i < 5 → (Term.static RX7 (aGs i).1 (aGs i).2).eval args s none [] s = some (.ref t) ∧ va_T (aTb i).1 t (aTb i).2.1 (fun j => .int ((aTb i).2.2 j)) (fun q => s.heap.size ≤ q) s s.heap := by
    intro i
    by_cases hi : i < 5
    · obtain ⟨t, h⟩ := st_t hg hA hi
      exact ⟨t, fun _ => h⟩
    · exact ⟨0, fun h => absurd h hi⟩
  obtain ⟨tt, hT⟩ := Classical.axiomOfChoice hT
  obtain ⟨a6, v6, h6, j6⟩ := st_js hts hg hA (hts _ tb_s2) jSw_ok.1 (aStr_len (by decide))
  have htx : ∀ q, q ∈ aTxt → ∃ a v, vk_R RL q.1 q.2.1 a s ∧ jStr q.2.2 a v (fun q => s.heap.size ≤ q) s s.heap := fun q hq => by
    have h := of_decide_eq_true (List.all_eq_true.mp tb_tx q hq)
    have hr : 90 ≤ q.2.2 ∧ q.2.2 < 400 := by
      simp only [List.mem_cons, List.not_mem_nil, or_false] at hq
      rcases hq with rfl | rfl | rfl | rfl | rfl <;> decide
    exact st_js hts hg hA (hts _ h) (List.all_eq_true.mp jSw_ok.2 q hq) (aStr_len hr)
  have hdg : aDg (fun q => s.heap.size ≤ q) s s.heap := by
    obtain ⟨t, e1, e2⟩ := va_Tof (ty := .byte) (N := 100) (f := fun j => .int (dg1 j)) (by decide) (hg _ (gv_at tb_d2.1)) (va_eqt (hg _ (gv_at tb_d2.2))) (fun j hj => va_eqt (hg _ (gv_at (all_lt tb_d5 hj)))) hA
    exact ⟨t, va_Zref (hts _ tb_dg.1) (hts _ tb_dg.2) e1 hA, e2⟩
  obtain ⟨z1, z2, z3, z4, z5, z6⟩ := tb_zs
  refine ⟨(fun ci => (D ci).1, fun ci => (D ci).2), ka, fun j => if j < 5 then tt j else if j = 5 then b else if j = 6 then a6 else if j = 7 then a6 else s.heap.size + (j - 8), fun j => ?_, rfl, ⟨⟨fun ci r h => hD ci r h, hK, fun q hq => ?_, fun q hq => ?_, fun q hq => ?_, h6, st_pv hts, fun x y hx hy hn => ?_, va_AO.of (hts _ tb_ar.2.2.2.1), va_AOA.of (hts _ tb_ar.2.2.2.2), fun x hx => ?_, fun y hy => ?_⟩, fun i hi => ?_, ?_, ?_, htx, hdg⟩, fun i hi => ?_, ⟨v6, j6⟩⟩
  · show (if 8 + j < 5 then _ else _) = _
    rw [if_neg (by omega), if_neg (by omega), if_neg (by omega), if_neg (by omega)]
    omega
  · exact va_Nw.of rfl (hts _ (of_decide_eq_true (List.all_eq_true.mp tb_nf q hq)))
  · exact va_Nw.of rfl (hts _ (of_decide_eq_true (List.all_eq_true.mp tb_nm q hq)))
  · have h := of_decide_eq_true (List.all_eq_true.mp tb_st q hq)
    exact st_str (hts _ h.1) (hg _ h.2)
  · have h := all_lt (all_lt gv_nc hx) hy
    rw [Bool.or_eq_true] at h
    rcases h with h | h
    · exact absurd (eq_of_beq h) hn
    · exact va_Nc.of (hg _ (of_decide_eq_true h))
  · exact va_Nw.of rfl (hts _ (of_decide_eq_true (all_lt tb_ca hx)))
  · exact va_Nw.of rfl (hts _ (of_decide_eq_true (List.all_eq_true.mp tb_dc y hy)))
  · show va_Z RX7 _ _ (.ref (if i < 5 then tt i else _)) _ s s.heap
    rw [if_pos hi]
    exact va_Zref (hts _ (of_decide_eq_true (all_lt tb_z5 hi))) (hts _ z1) (hT i hi).1 hA
  · exact vx_Zqof (hts _ z3) (hts _ z2) (hg _ z5) hA
  · exact vx_Zqof (hts _ z4) (hts _ z2) (hg _ z6) hA
  · show va_T _ (if i < 5 then tt i else _) _ _ _ s s.heap
    rw [if_pos hi]
    exact (hT i hi).2
end SGK
