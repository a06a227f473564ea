/-! MAKING CELLS: runs -/
def aUall : Bool := [m_X0_init, m_X1_init, m_X2_init, m_X3_init, m_X4_init, m_X5_init, m_X6_init, m_X7_init].all fun a => match aProg[a]? with
  | some (_, cd, _, _, _) => cd.all fun q => aUs q.1 q.2.1 q.2.2.2
  | none => false
theorem aUall_ok : aUall = true := by decide +kernel
section RUX
variable {u : Nat → Nat}
theorem x_it {call : aF} {hd : aD} {cd : List aI} {rt : Option FieldType} (hst : (cd.all fun q => aUs q.1 q.2.1 q.2.2.2) = true) (hcall : ∀ (h H : aH), aIso u h H → (∀ j, u (h.length + j) = H.length + j) → ∀ a as r, aIni a = true → call a as h = some r → ∃ H1, call a (as.map (aCv u)) H = some (aRv u r.1, H1, r.2.2) ∧ aFx u H r.2.1 H1) : ∀ (n : Nat) (t : aS) (H : aH) (r : aR), aIso u t.2.2.2.1 H → (∀ j, u (t.2.2.2.1.length + j) = H.length + j) → aIt (aStep call aCls hd cd rt true) n t = some (.inr r) → ∃ H1, aIt (aStep call aCls hd cd rt true) n (t.1, aLm u t.2.1, t.2.2.1.map (aCv u), H, t.2.2.2.2) = some (.inr (aRv u r.1, H1, r.2.2)) ∧ aFx u H r.2.1 H1
  | 0, t, H, r, I, hu, h => by cases h
  | n + 1, t, H, r, I, hu, h => by
    have key : aRx u H (aStep call aCls hd cd rt true t) (aStep call aCls hd cd rt true (t.1, aLm u t.2.1, t.2.2.1.map (aCv u), H, t.2.2.2.2)) := by
      unfold aStep
      dsimp only
      cases hc : cd[t.1]? with
      | none => exact x_none
      | some q =>
        obtain ⟨i, a, b, v⟩ := q
        exact x_ex I hu (hcall _ _ I hu) (List.all_eq_true.mp hst _ (List.mem_of_getElem? hc))
    cases hf : aStep call aCls hd cd rt true t with
    | none => rw [aIt_non hf] at h; cases h
    | some x =>
      cases x with
      | inl w =>
        rw [aIt_inl hf] at h
        obtain ⟨H1, e1, F1⟩ := key _ hf
        obtain ⟨H2, e2, F2⟩ := x_it hst hcall n w H1 r F1.1 F1.2.1 h
        exact ⟨H2, by rw [aIt_inl e1]; exact e2, F2.1, F2.2.1, fun j hj => (F2.2.2 j hj).trans (F1.2.2 j hj)⟩
      | inr q =>
        rw [aIt_inr hf] at h
        cases h
        obtain ⟨H1, e1, F1⟩ := key _ hf
        exact ⟨H1, by rw [aIt_inr e1], F1⟩
theorem aUs_at {a : Nat} (hi : aIni a = true) {o : Nat} {cd : List aI} {hd : aD} {rt : Option FieldType} {n : Nat} (hm : aProg[a]? = some (o, cd, hd, rt, n)) : (cd.all fun q => aUs q.1 q.2.1 q.2.2.2) = true := by
  have h1 := List.all_eq_true.mp aUall_ok a (List.contains_iff_mem.mp hi)
  rw [hm] at h1
  exact h1
theorem aRun_renX : ∀ (d m : Nat) (as : List Value) (h H : aH) (r : aR), aIni m = true → aIso u h H → (∀ j, u (h.length + j) = H.length + j) → aRun true d m as h = some r → ∃ H1, aRun true d m (as.map (aCv u)) H = some (aRv u r.1, H1, r.2.2) ∧ aFx u H r.2.1 H1
  | 0, m, as, h, H, r, hi, I, hu, hr => by cases hr
  | d + 1, m, as, h, H, r, hi, I, hu, hr => by
    obtain ⟨o, cd, hd, rt, n, hm, N, hit⟩ := aRun_ex hr
    obtain ⟨H1, e1, F1⟩ := x_it (u := u) (call := aRun true d) (hd := hd) (cd := cd) (rt := rt) (aUs_at hi hm) (fun h H I hu a as r hi hr => aRun_renX d a as h H r hi I hu hr) N (0, aIn n as, [], h, (0, 0)) H r I hu hit
    refine ⟨H1, aRun_of hm ⟨N, ?_⟩, F1⟩
    rw [← e1]
    show aIt _ N (0, aIn n (as.map (aCv u)), [], H, (0, 0)) = aIt _ N (0, aLm u (aIn n as), [].map (aCv u), H, (0, 0))
    have e : aLm u (aIn n as) = aIn n (as.map (aCv u)) := by
      unfold aLm aIn
      rw [List.map_append, List.map_map, List.map_map, List.map_replicate, List.length_map]
      rfl
    rw [e]
    rfl
end RUX
section LA
variable {b : Nat} {S M L0 L2 : aH}
theorem iso_g (hS : S.length = 8) (hb : 8 + L0.length = b) (hSc : S.map (aCc (uW b)) = S) : aIso (uW b) (S ++ M) (S ++ (L0 ++ (M.map (aCc (uW b)) ++ L2))) := by
  refine ⟨fun q c hq => ?_, fun q q1 h1 h2 e => ?_, fun q hq => uW_lo hq⟩
  · by_cases h : q < 8
    · have e1 : S[q]? = some c := by rw [← hq]; exact (List.getElem?_append_left (by omega)).symm
      have e2 : S[q]? = some (aCc (uW b) c) := by
        have e3 : (S.map (aCc (uW b)))[q]? = some (aCc (uW b) c) := by rw [List.getElem?_map, e1]; rfl
        rw [hSc] at e3
        exact e3
      rw [uW_lo h, List.getElem?_append_left (by omega), e2]
    · obtain ⟨i, rfl⟩ : ∃ i, q = 8 + i := ⟨q - 8, by omega⟩
      rw [List.getElem?_append_right (by omega), hS, Nat.add_sub_cancel_left] at hq
      have hl : i < M.length := (List.getElem?_eq_some_iff.mp hq).1
      rw [uW_hi, ← List.append_assoc, show b + i = (S ++ L0).length + i by rw [List.length_append, hS, hb], at_app _ _ _ _ (by rw [List.length_map]; exact hl), List.getElem?_map, hq]
      rfl
  · by_cases g1 : q < 8
    · rw [uW_lo g1] at e
      by_cases g2 : q1 < 8
      · rw [uW_lo g2] at e
        exact e
      · obtain ⟨i, rfl⟩ : ∃ i, q1 = 8 + i := ⟨q1 - 8, by omega⟩
        rw [uW_hi] at e
        omega
    · obtain ⟨i, rfl⟩ : ∃ i, q = 8 + i := ⟨q - 8, by omega⟩
      rw [uW_hi] at e
      by_cases g2 : q1 < 8
      · rw [uW_lo g2] at e
        omega
      · obtain ⟨j, rfl⟩ : ∃ j, q1 = 8 + j := ⟨q1 - 8, by omega⟩
        rw [uW_hi] at e
        omega
end LA
section LX
variable {d m b : Nat} {as : List Value} {x : Option Value ⊕ Nat} {kk : aK} {S T T1 Q : aH}
/-- what a constructor does behind the statics, it does behind any cells -/
theorem lift_x (hi : aIni m = true) (hS : S.length = 8) (hb : 8 + Q.length = b) (hSc : S.map (aCc (uW b)) = S) (hr : aRun true d m as (S ++ T) = some (x, S ++ T1, kk)) : aRun true d m (as.map (aCv (uW b))) (S ++ (Q ++ T.map (aCc (uW b)))) = some (aRv (uW b) x, S ++ (Q ++ T1.map (aCc (uW b))), kk) := by
  have I := iso_g (M := T) (L0 := Q) (L2 := []) hS hb hSc
  have I1 := iso_g (M := T1) (L0 := Q) (L2 := []) hS hb hSc
  rw [List.append_nil] at I I1
  obtain ⟨H1, e1, J, e3, e4⟩ := aRun_renX d m as _ _ _ hi I (fun j => by
    rw [List.length_append, hS, show 8 + T.length + j = 8 + (T.length + j) by omega, uW_hi, List.length_append, List.length_append, List.length_map, hS]
    omega) hr
  have hl := e3 0
  rw [List.length_append, hS, Nat.add_zero, Nat.add_zero, uW_hi] at hl
  have eH : H1 = S ++ (Q ++ T1.map (aCc (uW b))) := by
    refine List.ext_getElem? fun j => ?_
    by_cases hj : ∃ q, q < 8 + T1.length ∧ uW b q = j
    · obtain ⟨q, hq, rfl⟩ := hj
      obtain ⟨c, hc⟩ : ∃ c, (S ++ T1)[q]? = some c := ⟨_, List.getElem?_eq_getElem (by rw [List.length_append, hS]; exact hq)⟩
      rw [J.1 q c hc, I1.1 q c hc]
    · by_cases hjb : j < b
      · have h8 : ¬ j < 8 := fun q => hj ⟨j, by omega, uW_lo q⟩
        rw [e4 j (fun q e => by
          by_cases q8 : q < 8
          · rw [uW_lo q8] at e
            omega
          · obtain ⟨i, rfl⟩ : ∃ i, q = 8 + i := ⟨q - 8, by omega⟩
            rw [uW_hi] at e
            omega)]
        have e : ∀ Z : aH, (S ++ (Q ++ Z))[j]? = (S ++ Q)[j]? := fun Z => by
          rw [← List.append_assoc]
          exact List.getElem?_append_left (by rw [List.length_append, hS]; omega)
        rw [e, e]
      · have hge : b + T1.length ≤ j := Decidable.byContradiction fun q => hj ⟨8 + (j - b), by omega, by rw [uW_hi]; omega⟩
        rw [List.getElem?_eq_none (by omega), List.getElem?_eq_none (by rw [List.length_append, List.length_append, List.length_map, hS]; omega)]
  rw [e1, eH]
end LX
/-! MAKING CELLS: what must hold for a run to come to an end -/
def aU (call : aF) (hd : aD) (cd : List aI) (rt : Option FieldType) (i : Instr) (a b : Nat) (v : Int32) (pc : Nat) (ls : List (Option Value)) (st : List Value) (h : aH) (k : aK) (K : aS ⊕ aR → Prop) : Prop := match i with
  | .invokespecial _ => match decide (a = 600) with
    | true => aVs (aEx call aCls hd cd rt true i a b v pc ls st h k) K
    | false => match aRecv aCls a b st h with
      | true => aVc (v == 1) call hd cd a b pc ls st h k K
      | false => False
  | .newarray t => match st with
    | .int n :: r => ∃ N q, n = Int32.ofNat N ∧ N ≤ 50000 ∧ h.length = q ∧ (match t with
      | .int => K (.inl (pc + 2, ls, .ref q :: r, h ++ [(true, .inl (.int, N, .inl fun _ => 0))], (k.1 + 1, k.2 + N)))
      | .char => K (.inl (pc + 2, ls, .ref q :: r, h ++ [(true, .inl (.char, N, .inl fun _ => 0))], (k.1 + 1, k.2 + N)))
      | .long => K (.inl (pc + 2, ls, .ref q :: r, h ++ [(true, .inl (.long, N, .inr (.inl fun _ => 0)))], (k.1 + 1, k.2 + N)))
      | _ => False)
    | _ => False
  | .new _ => match decide (100 ≤ a) with
    | true => False
    | false => ∃ q, h.length = q ∧ K (.inl (pc + 3, ls, .ref q :: st, h ++ [(true, .inr (a, (List.range (aNf a)).map fun j => defaultValue (aTy a j)))], (k.1 + 1, k.2 + aNf a)))
  | .iastore => match st with
    | .int x :: .int i :: .ref q :: r => match h[q]? with
      | some (true, .inl (.int, n, .inl f)) => ∃ j, aIx i n = some j ∧ K (.inl (pc + 1, ls, r, h.set q (true, .inl (.int, n, .inl (upd f j x))), k))
      | _ => False
    | _ => False
  | .anewarray _ => match st with
    | .int n :: r => ∃ N q, n = Int32.ofNat N ∧ N ≤ 50000 ∧ h.length = q ∧ K (.inl (pc + 3, ls, .ref q :: r, h ++ [(true, .inl (.object RX6, N, .inr (.inr (.inr (.inr fun _ => none)))))], (k.1 + 1, k.2 + N)))
    | _ => False
  | _ => aVs (aEx call aCls hd cd rt true i a b v pc ls st h k) K
def aUn (call : aF) (hd : aD) (cd : List aI) (rt : Option FieldType) (stop : Nat → Bool) : Nat → aS → (aS ⊕ aR → Prop) → Prop
  | 0, s, K => K (.inl s)
  | n + 1, s, K => match cd[s.1]? with
    | none => False
    | some (i, a, b, v) => aU call hd cd rt i a b v s.1 s.2.1 s.2.2.1 s.2.2.2.1 s.2.2.2.2 (fun z => match z with
      | .inl t => match stop t.1 with
        | true => K (.inl t)
        | false => aUn call hd cd rt stop n t K
      | .inr r => K (.inr r))
section UN
variable {call : aF} {hd : aD} {cd : List aI} {rt : Option FieldType} {a b : Nat} {v : Int32} {pc : Nat} {ls : List (Option Value)} {st r : List Value} {h : aH} {k : aK} {K : aS ⊕ aR → Prop}
theorem aU_ok {i : Instr} (w : aU call hd cd rt i a b v pc ls st h k K) : ∃ z, aEx call aCls hd cd rt true i a b v pc ls st h k = some z ∧ K z := by
  unfold aU at w
  split at w
  · rename_i n
    split at w
    · exact aVs_ok w
    · rename_i g
      split at w
      · rename_i g2
        obtain ⟨z, e, w⟩ := aVc_ok w
        exact ⟨z, by show (if a = 600 then _ else (if _ then _ else _)) = _; rw [if_neg (of_decide_eq_false g), if_pos g2]; exact e, w⟩
      · cases w
  · rename_i t
    split at w
    · rename_i n r
      obtain ⟨N, q, hN, hl, rfl, w⟩ := w
      have e : n.toNatClampNeg = N := zn_of hN (by omega)
      have h0 : 0 ≤ n := by rw [hN]; exact Int32.not_lt.mp (ofN_lt0 (by omega))
      have hc : true = true ∧ 0 ≤ n ∧ n.toNatClampNeg ≤ 100000 := ⟨rfl, h0, by rw [e]; omega⟩
      split at w
      · refine ⟨_, ?_, w⟩
        show (if true = true ∧ 0 ≤ n ∧ n.toNatClampNeg ≤ 100000 then _ else none) = _
        rw [if_pos hc, e]
        rfl
      · refine ⟨_, ?_, w⟩
        show (if true = true ∧ 0 ≤ n ∧ n.toNatClampNeg ≤ 100000 then _ else none) = _
        rw [if_pos hc, e]
        rfl
      · refine ⟨_, ?_, w⟩
        show (if true = true ∧ 0 ≤ n ∧ n.toNatClampNeg ≤ 100000 then _ else none) = _
        rw [if_pos hc, e]
        rfl
      · cases w
    · cases w
  · split at w
    · cases w
    · rename_i g
      obtain ⟨q, rfl, w⟩ := w
      refine ⟨_, ?_, w⟩
      have g := of_decide_eq_false g
      show (if a = 999 then _ else if 100 ≤ a then _ else if true = true then _ else none) = _
      rw [if_neg (by omega), if_neg g, if_pos rfl]
      rfl
  · split at w
    · rename_i x i q r
      split at w
      · rename_i n f hq
        obtain ⟨j, hj, w⟩ := w
        exact ⟨_, by show aAr h q _ = _; unfold aAr aAt; rw [hq]; dsimp only; rw [if_pos rfl, hj]; rfl, w⟩
      · cases w
    · cases w
  · split at w
    · rename_i n r
      obtain ⟨N, q, hN, hl, rfl, w⟩ := w
      have e : n.toNatClampNeg = N := zn_of hN (by omega)
      have h0 : 0 ≤ n := by rw [hN]; exact Int32.not_lt.mp (ofN_lt0 (by omega))
      have hc : true = true ∧ 0 ≤ n ∧ n.toNatClampNeg ≤ 100000 := ⟨rfl, h0, by rw [e]; omega⟩
      refine ⟨_, ?_, w⟩
      show (if true = true ∧ 0 ≤ n ∧ n.toNatClampNeg ≤ 100000 then _ else none) = _
      rw [if_pos hc, e]
      rfl
    · cases w
  · exact aVs_ok w
theorem aUn_ok {stop : Nat → Bool} : ∀ (n : Nat) (s : aS), aUn call hd cd rt stop n s K → ∃ z, (match z with | .inl t => aTo (aStep call aCls hd cd rt true) s t | .inr r => aEnd (aStep call aCls hd cd rt true) s r) ∧ K z
  | 0, s, w => ⟨.inl s, aTo.rf, w⟩
  | n + 1, s, w => by
    unfold aUn at w
    split at w
    · cases w
    · rename_i i a b v hc
      obtain ⟨z, e, w⟩ := aU_ok w
      have e1 : aStep call aCls hd cd rt true s = some z := by
        unfold aStep
        rw [hc]
        exact e
      cases z with
      | inl t =>
        dsimp only at w
        split at w
        · exact ⟨.inl t, aTo.one e1, w⟩
        · obtain ⟨z2, q1, q2⟩ := aUn_ok n t w
          refine ⟨z2, ?_, q2⟩
          cases z2 with
          | inl t2 => exact (aTo.one e1).trans q1
          | inr r2 => exact (aTo.one e1).fin q1
      | inr r => exact ⟨.inr r, aEnd.one e1, w⟩
theorem aUn_end {stop : Nat → Bool} {s : aS} {r : aR} (n : Nat) (w : aUn call hd cd rt stop n s (aKe (aStep call aCls hd cd rt true) r)) : aEnd (aStep call aCls hd cd rt true) s r := by
  obtain ⟨z, h1, h2⟩ := aUn_ok n s w
  cases z with
  | inl t => exact aTo.fin h1 h2
  | inr q =>
    have h3 : q = r := h2
    subst h3
    exact h1
end UN
