/-! A NEW KILN -/
def k0 : aW := fun a => match a with
  | 7 => fun i => match i with
    | 1 => -1
    | _ => 0
  | _ => zr0
def W0 : Nat → aW := fun _ => w0
theorem ok0 : wOk w0 0 0 0 := by
  refine ⟨⟨rfl, by omega, rfl, by omega, rfl, by omega⟩, fun j hj => by omega, ⟨fun j hj => by omega, fun i j hi => by omega⟩, fun i hi => by omega, ⟨rfl, fun i hi => by omega, fun k hk => rfl⟩, fun i hi => ?_, by decide, by decide⟩
  match i, hi with
  | 0, _ => decide
  | 1, _ => decide
  | 2, _ => decide
/-- where the new kiln's cells lie -/
def uI (q : Nat) : Nat := if q < 14 then q else if q < 84 then q + 168 else if q < 252 then q - 70 else q
theorem uI_0 {i : Nat} (h : i < 14) : uI i = i := if_pos h
theorem uI_1 {i : Nat} (h : i < 70) : uI (14 + i) = 182 + i := by
  unfold uI
  rw [if_neg (by omega), if_pos (by omega)]
  omega
theorem uI_2 {i : Nat} (h : i < 168) : uI (84 + i) = 14 + i := by
  unfold uI
  rw [if_neg (by omega), if_neg (by omega), if_pos (by omega)]
  omega
theorem seg_at {P X R L : aH} {n i : Nat} (e : L = P ++ (X ++ R)) (hP : P.length = n) (hi : i < X.length) : L[n + i]? = X[i]? := by
  subst hP
  rw [e, List.getElem?_append_right (by omega), Nat.add_sub_cancel_left, List.getElem?_append_left hi]
theorem iso_seg {S A B C : aH} (l0 : S.length = 8) (l1 : A.length = 6) (l2 : B.length = 70) (l3 : C.length = 168) (hS : S.map (aCc uI) = S) : aIso uI (S ++ (A ++ (B ++ C))) (S ++ (A.map (aCc uI) ++ (C.map (aCc uI) ++ B.map (aCc uI)))) := by
  have lm : ∀ X : aH, (X.map (aCc uI)).length = X.length := fun X => List.length_map _
  have hlen : (S ++ (A ++ (B ++ C))).length = 252 := by rw [List.length_append, List.length_append, List.length_append, l0, l1, l2, l3]
  refine ⟨fun q c hq => ?_, fun q q1 g1 g2 e => ?_, fun q hq => uI_0 (by omega)⟩
  · have hq2 : q < 252 := by
      have := (List.getElem?_eq_some_iff.mp hq).1
      rw [hlen] at this
      exact this
    by_cases c0 : q < 8
    · rw [List.getElem?_append_left (by omega)] at hq
      rw [uI_0 (by omega), List.getElem?_append_left (by omega)]
      have e3 : (S.map (aCc uI))[q]? = some (aCc uI c) := by rw [List.getElem?_map, hq]; rfl
      rw [hS] at e3
      exact e3
    by_cases c1 : q < 14
    · obtain ⟨i, rfl⟩ : ∃ i, q = 8 + i := ⟨q - 8, by omega⟩
      rw [seg_at (P := S) (X := A) (R := B ++ C) rfl l0 (by omega)] at hq
      rw [uI_0 (by omega), seg_at (P := S) (X := A.map (aCc uI)) rfl l0 (by rw [lm]; omega), List.getElem?_map, hq]
      rfl
    by_cases c2 : q < 84
    · obtain ⟨i, rfl⟩ : ∃ i, q = 14 + i := ⟨q - 14, by omega⟩
      rw [seg_at (P := S ++ A) (X := B) (R := C) (by simp only [List.append_assoc]) (by rw [List.length_append, l0, l1]) (by omega)] at hq
      rw [uI_1 (by omega), seg_at (P := S ++ (A.map (aCc uI) ++ C.map (aCc uI))) (X := B.map (aCc uI)) (R := []) (by simp only [List.append_assoc, List.append_nil]) (by rw [List.length_append, List.length_append, lm, lm, l0, l1, l3]) (by rw [lm]; omega), List.getElem?_map, hq]
      rfl
    · obtain ⟨i, rfl⟩ : ∃ i, q = 84 + i := ⟨q - 84, by omega⟩
      rw [seg_at (P := S ++ (A ++ B)) (X := C) (R := []) (by simp only [List.append_assoc, List.append_nil]) (by rw [List.length_append, List.length_append, l0, l1, l2]) (by omega)] at hq
      rw [uI_2 (by omega), seg_at (P := S ++ A.map (aCc uI)) (X := C.map (aCc uI)) (R := B.map (aCc uI)) (by simp only [List.append_assoc]) (by rw [List.length_append, lm, l0, l1]) (by rw [lm]; omega), List.getElem?_map, hq]
      rfl
  · rw [hlen] at g1 g2
    unfold uI at e
    repeat' split at e
    all_goals omega
def Ka : aH := [aOj 7 [.ref 9, .ref 12, .ref 14, .ref 21, .ref 42, .ref 63, .int (k0 7 0), .int (k0 7 1)],
  aOj 2 [.int (k0 7 2), .ref 10, .ref 11], aAi 3 (k0 0), aAi 3 (k0 1),
  aOj 0 [.int (k0 7 3), .int (k0 7 4), .ref 13], (true, .inl (.object RX6, 8, .inr (.inr (.inr (.inr aRg)))))]
def Kb : aH := [aOj 4 [.int (k0 7 5), .int (k0 7 6), .ref 15, .ref 16, .ref 20, .int (k0 7 7)], (true, .inl (.char, 20, .inl (k0 2))),
  (true, .inl (.array .int, 3, .inr (.inr (.inr (.inr fun i => if i < 3 then some (17 + i) else none))))), aAi 20 (k0 3), aAi 20 (k0 4), aAi 20 (k0 5), (true, .inl (.char, 60, .inl (k0 6)))]
section INI
variable {sn : Nat} {sf : Nat → Int32}
set_option maxRecDepth 40000 in
theorem KV_seg : KV sn sf k0 W0 = aS0 sn sf ++ (Ka ++ ((Kb ++ (aWk 21 w0 ++ (aWk 42 w0 ++ aWk 63 w0))) ++ Rg W0)) := by
  show aS0 sn sf ++ KB 21 42 aRg k0 W0 = _
  rw [KB_split]
  show aS0 sn sf ++ (((Ka ++ Kb) ++ (aWk 21 w0 ++ (aWk 42 w0 ++ aWk 63 w0))) ++ Rg W0) = _
  simp only [List.append_assoc]
theorem rg_8 : (fun j => (aRg j).map uI) = rgU 8 := funext fun j => by
  match j with
  | 0 => rfl
  | 1 => rfl
  | 2 => rfl
  | 3 => rfl
  | 4 => rfl
  | 5 => rfl
  | 6 => rfl
  | 7 => rfl
  | j + 8 =>
    have e1 : aRg (j + 8) = none := if_neg (by omega)
    have e2 : ∀ n, n ≤ 8 → rgU n (j + 8) = none := fun n => by
      induction n with
      | zero => exact fun _ => rfl
      | succ n ih =>
        intro hn
        show va_up (rgU n) n _ (j + 8) = none
        unfold va_up
        rw [if_neg (by omega)]
        exact ih (by omega)
    rw [e1, e2 8 (by omega)]
    rfl
set_option maxRecDepth 40000 in
theorem Ka_mv : Ka.map (aCc uI) = kh [.ref 9, .ref 12, .ref 182, .ref 189, .ref 210, .ref 231, .int 0, .int (-1)] 8 := by
  show [_, _, _, _, _, (true, Sum.inl (FieldType.object RX6, 8, Sum.inr (Sum.inr (Sum.inr (Sum.inr fun j => (aRg j).map uI)))))] = _
  rw [rg_8]
  rfl
set_option maxRecDepth 40000 in
theorem Kb_mv : Kb.map (aCc uI) = t4 182 := by
  have e : (fun j => (if j < 3 then some (17 + j) else none : Option Nat).map uI) = fun i => if i < 3 then some (182 + 3 + i) else none := funext fun j => by
    by_cases c : j < 3
    · rw [if_pos c, if_pos c]
      show some (uI (17 + j)) = _
      rw [show 17 + j = 14 + (3 + j) by omega, uI_1 (by omega)]
      congr 1
      omega
    · rw [if_neg c, if_neg c]
      rfl
  show [_, _, (true, Sum.inl (FieldType.array FieldType.int, 3, Sum.inr (Sum.inr (Sum.inr (Sum.inr fun j => (if j < 3 then some (17 + j) else none : Option Nat).map uI))))), _, _, _, _] = _
  rw [e]
  rfl
theorem wk_mv {b c : Nat} (h : ∀ i, i < 21 → uI (b + i) = c + i) (w : aW) : (aWk b w).map (aCc uI) = aWk c w := by
  simp only [aWk, aOj, aAi, List.map, aCc, aCv, aCa, h 1 (by omega), h 2 (by omega), h 3 (by omega), h 4 (by omega), h 5 (by omega), h 6 (by omega), h 7 (by omega), h 8 (by omega), h 9 (by omega), h 10 (by omega), h 11 (by omega), h 12 (by omega), h 13 (by omega), h 14 (by omega), h 15 (by omega), h 16 (by omega), h 17 (by omega), h 18 (by omega), h 19 (by omega), h 20 (by omega)]
theorem uk1 {b : Nat} (hb : 14 ≤ b) (h : b + 21 ≤ 84) : ∀ i, i < 21 → uI (b + i) = b + 168 + i := fun i hi => by
  rw [show b + i = 14 + (b - 14 + i) by omega, uI_1 (by omega)]
  omega
theorem uk2 {b : Nat} (hb : 84 ≤ b) (h : b + 21 ≤ 252) : ∀ i, i < 21 → uI (b + i) = b - 70 + i := fun i hi => by
  rw [show b + i = 84 + (b - 84 + i) by omega, uI_2 (by omega)]
  omega
theorem Rg_mv : (Rg W0).map (aCc uI) = bk 8 := by
  unfold Rg W0
  simp only [List.flatten_cons, List.flatten_nil, List.map_append, List.map_nil, List.append_nil]
  rw [wk_mv (c := 14) (uk2 (by omega) (by omega)), wk_mv (c := 35) (uk2 (by omega) (by omega)), wk_mv (c := 56) (uk2 (by omega) (by omega)), wk_mv (c := 77) (uk2 (by omega) (by omega)), wk_mv (c := 98) (uk2 (by omega) (by omega)), wk_mv (c := 119) (uk2 (by omega) (by omega)), wk_mv (c := 140) (uk2 (by omega) (by omega)), wk_mv (c := 161) (uk2 (by omega) (by omega))]
  show _ = ((((((([] ++ aWk 14 w0) ++ aWk 35 w0) ++ aWk 56 w0) ++ aWk 77 w0) ++ aWk 98 w0) ++ aWk 119 w0) ++ aWk 140 w0) ++ aWk 161 w0
  simp only [List.append_assoc, List.nil_append]
set_option maxRecDepth 40000 in
theorem K0_at : KAt sn sf k0 W0 (aS0 sn sf ++ T7) := by
  have I := iso_seg (S := aS0 sn sf) (A := Ka) (B := Kb ++ (aWk 21 w0 ++ (aWk 42 w0 ++ aWk 63 w0))) (C := Rg W0) rfl rfl rfl rfl (aS0_c uI)
  rw [← KV_seg, Ka_mv, Rg_mv, List.map_append, List.map_append, List.map_append, Kb_mv, wk_mv (c := 189) (uk1 (by omega) (by omega)), wk_mv (c := 210) (uk1 (by omega) (by omega)), wk_mv (c := 231) (uk1 (by omega) (by omega))] at I
  refine ⟨uI, I, rfl, rfl, fun j hj => ?_⟩
  by_cases c1 : j < 14
  · exact ⟨j, hj, uI_0 c1⟩
  by_cases c2 : j < 182
  · exact ⟨84 + (j - 14), by omega, by rw [uI_2 (by omega)]; omega⟩
  · exact ⟨14 + (j - 182), by omega, by rw [uI_1 (by omega)]; omega⟩
theorem OK0 : OK sn sf w0 [] k0 (aS0 sn sf ++ T7) := ⟨W0, K0_at, rfl, okk_of ok0, ⟨0, 0, by omega, by omega, rfl, rfl, Nat.le_refl _, fun e x hx => by cases hx⟩, rfl, fun x hx => by cases hx⟩
end INI
