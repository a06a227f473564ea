/-! THE LAW: a part of the heap anywhere -/
section LA
variable {d m b : Nat} {as : List Value} {x : Option Value ⊕ Nat} {kk : aK} {S M M1 L0 L2 h H : aH} {u : Nat → Nat}
theorem iso_g (hS : S.length = 8) (hb : 8 + L0.length = b) (hSc : S.map (aCc (uW b)) = S) : aIso (uW b) (S ++ M) (S ++ (L0 ++ (M.map (aCc (uW b)) ++ L2))) := by
  refine ⟨fun q c hq => ?_, fun q q1 h1 h2 e => ?_, fun q hq => uW_lo hq⟩
  · by_cases h : q < 8
    · have e1 : S[q]? = some c := by rw [← hq]; exact (List.getElem?_append_left (by omega)).symm
      have e2 : S[q]? = some (aCc (uW b) c) := by
        have e3 : (S.map (aCc (uW b)))[q]? = some (aCc (uW b) c) := by rw [List.getElem?_map, e1]; rfl
        rw [hSc] at e3
        exact e3
      rw [uW_lo h, List.getElem?_append_left (by omega), e2]
    · obtain ⟨i, rfl⟩ : ∃ i, q = 8 + i := ⟨q - 8, by omega⟩
      rw [List.getElem?_append_right (by omega), hS, Nat.add_sub_cancel_left] at hq
      have hl : i < M.length := (List.getElem?_eq_some_iff.mp hq).1
      rw [uW_hi, ← List.append_assoc, show b + i = (S ++ L0).length + i by rw [List.length_append, hS, hb], at_app _ _ _ _ (by rw [List.length_map]; exact hl), List.getElem?_map, hq]
      rfl
  · by_cases g1 : q < 8
    · rw [uW_lo g1] at e
      by_cases g2 : q1 < 8
      · rw [uW_lo g2] at e
        exact e
      · obtain ⟨i, rfl⟩ : ∃ i, q1 = 8 + i := ⟨q1 - 8, by omega⟩
        rw [uW_hi] at e
        omega
    · obtain ⟨i, rfl⟩ : ∃ i, q = 8 + i := ⟨q - 8, by omega⟩
      rw [uW_hi] at e
      by_cases g2 : q1 < 8
      · rw [uW_lo g2] at e
        omega
      · obtain ⟨j, rfl⟩ : ∃ j, q1 = 8 + j := ⟨q1 - 8, by omega⟩
        rw [uW_hi] at e
        omega
/-- what a run does on a small heap, it does anywhere -/
theorem lift_g (hS : S.length = 8) (hM : M1.length = M.length) (hb : 8 + L0.length = b) (hSc : S.map (aCc (uW b)) = S) (hr : aRun false d m as (S ++ M) = some (x, S ++ M1, kk)) : aRun false d m (as.map (aCv (uW b))) (S ++ (L0 ++ (M.map (aCc (uW b)) ++ L2))) = some (aRv (uW b) x, S ++ (L0 ++ (M1.map (aCc (uW b)) ++ L2)), kk) := by
  obtain ⟨H1, e1, J, -, e3, e4⟩ := aRun_ren aSt8_ok d m as _ _ _ (iso_g (L2 := L2) hS hb hSc) hr
  have I1 := iso_g (M := M1) (L2 := L2) hS hb hSc
  have hlen : (S ++ M).length = 8 + M.length := by rw [List.length_append, hS]
  have eH : H1 = S ++ (L0 ++ (M1.map (aCc (uW b)) ++ L2)) := by
    refine List.ext_getElem? fun j => ?_
    by_cases hj : ∃ q, q < 8 + M.length ∧ uW b q = j
    · obtain ⟨q, hq, rfl⟩ := hj
      obtain ⟨c, hc⟩ : ∃ c, (S ++ M1)[q]? = some c := ⟨_, List.getElem?_eq_getElem (by rw [List.length_append, hS, hM]; exact hq)⟩
      rw [J.1 q c hc, I1.1 q c hc]
    · have f := e4 j (fun q hq e => hj ⟨q, by rw [← hlen]; exact hq, e⟩)
      rw [f]
      have h8 : ¬ j < 8 := fun q => hj ⟨j, by omega, uW_lo q⟩
      refine at_mid3 S L0 (M.map (aCc (uW b))) (M1.map (aCc (uW b))) L2 (by rw [List.length_map, List.length_map, hM]) j (fun q => hj ⟨8 + (j - b), ?_, ?_⟩)
      · have q2 := q.2
        rw [hS, hb, List.length_map] at q2
        have q1 := q.1
        rw [hS, hb] at q1
        omega
      · have q1 := q.1
        rw [hS, hb] at q1
        rw [uW_hi]
        omega
  rw [e1, eH]
end LA
/-! THE LAW'S HEAP: statics; the two arrays of answers at 8 and 9; the model at 10; the kiln at 20 -/
def aO (lo : Nat → Int64) (dd : Nat → UInt64) : aH := [(true, .inl (.long, 1, .inr (.inl lo))), (true, .inl (.double, 1, .inr (.inr (.inr (.inl dd)))))]
def aMl (m : aW) : aH := [aOj 8 [.ref 11, .ref 12, .ref 13, .ref 14, .int (m 9 0), .ref 15, .int (m 9 1), .int (m 9 2), .ref 16, .ref 17, .int (m 9 3), .ref 18, .int (m 9 4), .int (m 9 5), .int (m 9 6), .int (m 9 7), .ref 19, .int (m 9 8)],
  aAi 495 (m 0), aAi 495 (m 1), aAi 495 (m 2), aAi 495 (m 3), aAi 3960 (m 4), aAi 3 (m 5), aAi 3 (m 6), (true, .inl (.char, 60, .inl (m 7))), aAi 240 (m 8)]
def aLh (sn : Nat) (sf : Nat → Int32) (lo : Nat → Int64) (dd : Nat → UInt64) (m : aW) (X : aH) : aH := aS0 sn sf ++ (aO lo dd ++ (aMl m ++ X))
/-- the kiln's part of the heap, moved -/
def aKl (pn pd : Nat) (rg : Nat → Option Nat) (k wn wd ws : aW) : aH := (aKn0 pn pd rg k ++ (aWk 21 wn ++ (aWk 42 wd ++ aWk 63 ws))).map (aCc (uW 20))
section LB
variable {sn : Nat} {sf : Nat → Int32} {lo : Nat → Int64} {dd : Nat → UInt64} {m m1 k k1 wn wd ws wn1 wd1 ws1 : aW} {X : aH} {d mm pn pd pn1 pd1 : Nat} {rg rg1 : Nat → Option Nat} {as : List Value} {x : Option Value ⊕ Nat} {kk : aK}
theorem aS0_c (u : Nat → Nat) : (aS0 sn sf).map (aCc u) = aS0 sn sf := rfl
theorem lift_m (hr : aRun false d mm as (aHn sn sf m) = some (x, aHn sn sf m1, kk)) : aRun false d mm (as.map (aCv (uW 10))) (aLh sn sf lo dd m X) = some (aRv (uW 10) x, aLh sn sf lo dd m1 X, kk) :=
  lift_g (S := aS0 sn sf) (M := aMd m) (M1 := aMd m1) (L0 := aO lo dd) (L2 := X) (b := 10) rfl rfl rfl (aS0_c _) hr
theorem lift_k {R : aH} (hr : aRun false d mm as (aHk sn sf pn pd rg k wn wd ws) = some (x, aHk sn sf pn1 pd1 rg1 k1 wn1 wd1 ws1, kk)) : aRun false d mm (as.map (aCv (uW 20))) (aLh sn sf lo dd m (aKl pn pd rg k wn wd ws ++ R)) = some (aRv (uW 20) x, aLh sn sf lo dd m (aKl pn1 pd1 rg1 k1 wn1 wd1 ws1 ++ R), kk) :=
  lift_g (S := aS0 sn sf) (M := aKn0 pn pd rg k ++ (aWk 21 wn ++ (aWk 42 wd ++ aWk 63 ws))) (M1 := aKn0 pn1 pd1 rg1 k1 ++ (aWk 21 wn1 ++ (aWk 42 wd1 ++ aWk 63 ws1))) (L0 := aO lo dd ++ aMl m) (L2 := R) (b := 20) rfl rfl rfl (aS0_c _) hr
end LB
