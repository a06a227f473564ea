/-! THE START: cells that are the same where it counts -/
def eqC (c c1 : aC) : Prop := c = c1 ∨ ∃ w ty n f f1, c = (w, .inl (ty, n, .inr (.inr (.inr (.inr f))))) ∧ c1 = (w, .inl (ty, n, .inr (.inr (.inr (.inr f1))))) ∧ ∀ j, j < n → f j = f1 j
def eqHs : aH → aH → Prop
  | [], [] => True
  | c :: r, c1 :: r1 => eqC c c1 ∧ eqHs r r1
  | _, _ => False
section EQ
variable {h h1 g g1 : aH} {c c1 : aC} {q : Nat}
theorem eqHs.rf : ∀ h, eqHs h h
  | [] => trivial
  | c :: r => ⟨Or.inl rfl, eqHs.rf r⟩
theorem eqHs.app : ∀ {h h1 : aH}, eqHs h h1 → eqHs g g1 → eqHs (h ++ g) (h1 ++ g1)
  | [], [], _, k => k
  | c :: r, c1 :: r1, e, k => ⟨e.1, eqHs.app e.2 k⟩
  | [], _ :: _, e, _ => e.elim
  | _ :: _, [], e, _ => e.elim
theorem eqHs.at : ∀ {h h1 : aH} {q : Nat}, eqHs h h1 → h1[q]? = some c1 → ∃ c, h[q]? = some c ∧ eqC c c1
  | [], [], q, _, k => by simp at k
  | c :: r, d :: r1, 0, e, k => by
    cases k
    exact ⟨c, rfl, e.1⟩
  | c :: r, d :: r1, q + 1, e, k => eqHs.at (h := r) (h1 := r1) (q := q) e.2 k
  | [], _ :: _, _, e, _ => e.elim
  | _ :: _, [], _, e, _ => e.elim
theorem arrV_cg {cA : ClassId} {n : Nat} {z z1 : Nat → Value} (h : ∀ j, j < n → z j = z1 j) : arrV cA n z = arrV cA n z1 := by
  have e : (fun j : Fin n => z j.val) = fun j => z1 j.val := funext fun j => h j.val j.isLt
  unfold arrV
  rw [e]
theorem aRel.eq {D : va_G} {ka : FieldType → ClassId} {s : Nat → Nat} {A : Nat → Prop} {U : State} {H : Heap} (e : eqHs h h1) (r : aRel D ka s A U h H) : aRel D ka s A U h1 H := by
  have tr : ∀ {c c1 : aC}, eqC c c1 → ∀ q, aOn D ka s A U H q c → aOn D ka s A U H q c1 := by
    intro c c1 e q k
    rcases e with rfl | ⟨w, ty, n, f, f1, rfl, rfl, hf⟩
    · exact k
    · cases w with
      | true =>
        obtain ⟨k1, k2⟩ := k
        refine ⟨k1, k2.trans (congrArg some ?_)⟩
        show arrV (ka ty) n (fun j => va_rf ((f j).map s)) = arrV (ka ty) n (fun j => va_rf ((f1 j).map s))
        exact arrV_cg fun j hj => by rw [hf j hj]
      | false =>
        obtain ⟨g, k1, -⟩ := k
        cases k1
  refine ⟨fun q c1 hq => ?_, fun q q1 d d1 h2 h3 hs => ?_⟩
  · obtain ⟨c, hc, ec⟩ := e.at hq
    exact tr ec q (r.1 q c hc)
  · have key : ∀ {q : Nat} {d : aE}, h1[q]? = some (true, d) → ∃ d0, h[q]? = some (true, d0) := by
      intro q d hq
      obtain ⟨c, hc, ec⟩ := e.at hq
      rcases ec with rfl | ⟨w, ty, n, f, f1, rfl, e2, -⟩
      · exact ⟨_, hc⟩
      · cases e2
        exact ⟨_, hc⟩
    obtain ⟨a, ha⟩ := key h2
    obtain ⟨b, hb⟩ := key h3
    exact r.2 q q1 a b ha hb hs
theorem eqHs.len : ∀ {h h1 : aH}, eqHs h h1 → h.length = h1.length
  | [], [], _ => rfl
  | c :: r, c1 :: r1, e => congrArg (· + 1) (eqHs.len e.2)
  | [], _ :: _, e => e.elim
  | _ :: _, [], e => e.elim
end EQ
/-! THE START: the law's heap as it is made, against the one with all in their places -/
def uS (q : Nat) : Nat := if q < 8 then q else if q < 10 then q + 254 else if q < 20 then q + 242 else if q < 26 then q - 12 else if q < 96 then q + 156 else if q < 264 then q - 82 else q
section ST
variable {S O M K1 K2 K3 : aH} {q i : Nat}
theorem uS_0 (h : i < 8) : uS i = i := if_pos h
theorem uS_1 (h : i < 2) : uS (8 + i) = 262 + i := by
  unfold uS
  rw [if_neg (by omega), if_pos (by omega)]
  omega
theorem uS_2 (h : i < 10) : uS (10 + i) = 252 + i := by
  unfold uS
  rw [if_neg (by omega), if_neg (by omega), if_pos (by omega)]
  omega
theorem uS_3 (h : i < 6) : uS (20 + i) = 8 + i := by
  unfold uS
  rw [if_neg (by omega), if_neg (by omega), if_neg (by omega), if_pos (by omega)]
  omega
theorem uS_4 (h : i < 70) : uS (26 + i) = 182 + i := by
  unfold uS
  rw [if_neg (by omega), if_neg (by omega), if_neg (by omega), if_neg (by omega), if_pos (by omega)]
  omega
theorem uS_5 (h : i < 168) : uS (96 + i) = 14 + i := by
  unfold uS
  rw [if_neg (by omega), if_neg (by omega), if_neg (by omega), if_neg (by omega), if_neg (by omega), if_pos (by omega)]
  omega
theorem seg_at {P X R L : aH} {n : Nat} (e : L = P ++ (X ++ R)) (hP : P.length = n) (hi : i < X.length) : L[n + i]? = X[i]? := by
  rw [e, ← hP]
  exact at_app P X R i hi
theorem iso_seg (l0 : S.length = 8) (l1 : O.length = 2) (l2 : M.length = 10) (l3 : K1.length = 6) (l4 : K2.length = 70) (l5 : K3.length = 168) (hS : S.map (aCc uS) = S) : aIso uS (S ++ (O ++ (M ++ (K1 ++ (K2 ++ K3))))) (S ++ (K1.map (aCc uS) ++ (K3.map (aCc uS) ++ (K2.map (aCc uS) ++ (M.map (aCc uS) ++ O.map (aCc uS)))))) := by
  have lm : ∀ X : aH, (X.map (aCc uS)).length = X.length := fun X => List.length_map ..
  have split : ∀ q, q < 264 → (q < 8) ∨ (∃ i, i < 2 ∧ q = 8 + i) ∨ (∃ i, i < 10 ∧ q = 10 + i) ∨ (∃ i, i < 6 ∧ q = 20 + i) ∨ (∃ i, i < 70 ∧ q = 26 + i) ∨ (∃ i, i < 168 ∧ q = 96 + i) := by
    intro q hq
    by_cases c0 : q < 8
    · exact Or.inl c0
    by_cases c1 : q < 10
    · exact Or.inr (Or.inl ⟨q - 8, by omega, by omega⟩)
    by_cases c2 : q < 20
    · exact Or.inr (Or.inr (Or.inl ⟨q - 10, by omega, by omega⟩))
    by_cases c3 : q < 26
    · exact Or.inr (Or.inr (Or.inr (Or.inl ⟨q - 20, by omega, by omega⟩)))
    by_cases c4 : q < 96
    · exact Or.inr (Or.inr (Or.inr (Or.inr (Or.inl ⟨q - 26, by omega, by omega⟩))))
    · exact Or.inr (Or.inr (Or.inr (Or.inr (Or.inr ⟨q - 96, by omega, by omega⟩))))
  have hlen : (S ++ (O ++ (M ++ (K1 ++ (K2 ++ K3))))).length = 264 := by
    simp only [List.length_append, l0, l1, l2, l3, l4, l5]
  have mp : ∀ {X : aH} {i : Nat} {c : aC}, X[i]? = some c → (X.map (aCc uS))[i]? = some (aCc uS c) := fun {X i c} h => by rw [List.getElem?_map, h]; rfl
  refine ⟨fun q c hq => ?_, fun q q1 g1 g2 e => ?_, fun q hq => uS_0 hq⟩
  · have hl : q < 264 := by
      rw [← hlen]
      exact (List.getElem?_eq_some_iff.mp hq).1
    rcases split q hl with h | ⟨i, hi, rfl⟩ | ⟨i, hi, rfl⟩ | ⟨i, hi, rfl⟩ | ⟨i, hi, rfl⟩ | ⟨i, hi, rfl⟩
    · rw [List.getElem?_append_left (by omega)] at hq
      rw [uS_0 h, List.getElem?_append_left (by omega), ← hS]
      exact mp hq
    · rw [seg_at (P := S) (X := O) (R := M ++ (K1 ++ (K2 ++ K3))) (n := 8) rfl l0 (by omega)] at hq
      rw [uS_1 hi, seg_at (P := S ++ (K1.map (aCc uS) ++ (K3.map (aCc uS) ++ (K2.map (aCc uS) ++ M.map (aCc uS))))) (X := O.map (aCc uS)) (R := []) (n := 262) (by simp only [List.append_assoc, List.append_nil]) (by simp only [List.length_append, lm, l0, l1, l2, l3, l4, l5]) (by rw [lm]; omega)]
      exact mp hq
    · rw [seg_at (P := S ++ O) (X := M) (R := K1 ++ (K2 ++ K3)) (n := 10) (by simp only [List.append_assoc]) (by simp only [List.length_append, l0, l1]) (by omega)] at hq
      rw [uS_2 hi, seg_at (P := S ++ (K1.map (aCc uS) ++ (K3.map (aCc uS) ++ K2.map (aCc uS)))) (X := M.map (aCc uS)) (R := O.map (aCc uS)) (n := 252) (by simp only [List.append_assoc]) (by simp only [List.length_append, lm, l0, l1, l2, l3, l4, l5]) (by rw [lm]; omega)]
      exact mp hq
    · rw [seg_at (P := S ++ (O ++ M)) (X := K1) (R := K2 ++ K3) (n := 20) (by simp only [List.append_assoc]) (by simp only [List.length_append, l0, l1, l2]) (by omega)] at hq
      rw [uS_3 hi, seg_at (P := S) (X := K1.map (aCc uS)) (R := K3.map (aCc uS) ++ (K2.map (aCc uS) ++ (M.map (aCc uS) ++ O.map (aCc uS)))) (n := 8) rfl l0 (by rw [lm]; omega)]
      exact mp hq
    · rw [seg_at (P := S ++ (O ++ (M ++ K1))) (X := K2) (R := K3) (n := 26) (by simp only [List.append_assoc]) (by simp only [List.length_append, l0, l1, l2, l3]) (by omega)] at hq
      rw [uS_4 hi, seg_at (P := S ++ (K1.map (aCc uS) ++ K3.map (aCc uS))) (X := K2.map (aCc uS)) (R := M.map (aCc uS) ++ O.map (aCc uS)) (n := 182) (by simp only [List.append_assoc]) (by simp only [List.length_append, lm, l0, l1, l2, l3, l4, l5]) (by rw [lm]; omega)]
      exact mp hq
    · rw [seg_at (P := S ++ (O ++ (M ++ (K1 ++ K2)))) (X := K3) (R := []) (n := 96) (by simp only [List.append_assoc, List.append_nil]) (by simp only [List.length_append, l0, l1, l2, l3, l4]) (by omega)] at hq
      rw [uS_5 hi, seg_at (P := S ++ K1.map (aCc uS)) (X := K3.map (aCc uS)) (R := K2.map (aCc uS) ++ (M.map (aCc uS) ++ O.map (aCc uS))) (n := 14) (by simp only [List.append_assoc]) (by simp only [List.length_append, lm, l0, l1, l2, l3, l4, l5]) (by rw [lm]; omega)]
      exact mp hq
  · rw [hlen] at g1 g2
    unfold uS at e
    repeat' split at e
    all_goals omega
end ST
