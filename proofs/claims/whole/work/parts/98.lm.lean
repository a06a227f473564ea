/-! THE LAW: now, draft and ring brought back to their places -/
def RgL (W : Nat → aW) : aH := (Rg W).map (aCc (uW 20))
abbrev KL (k : aW) (W : Nat → aW) : aH := aKl 21 42 aRg k (W 0) (W 1) (W 2) ++ RgL W
def rotP (j B : Nat) : Nat := if B = 0 then 1 else if B = 1 then 3 + j else if B = 3 + j then 0 else B
def rotQ (j B : Nat) : Nat := if B = 1 then 0 else if B = 3 + j then 1 else if B = 0 then 3 + j else B
def swpP (j B : Nat) : Nat := if B = 0 then 3 + j else if B = 3 + j then 0 else B
section LD
variable {sn : Nat} {sf : Nat → Int32} {lo : Nat → Int64} {dd : Nat → UInt64} {m k w1 : aW} {W : Nat → aW} {j B pn pd pc q : Nat} {rg : Nat → Option Nat} {π σ : Nat → Nat} {xi : Int32} {l6 l7 l8 : Option Value} {kk BB : aK}
theorem KB_l : (KB pn pd rg k W).map (aCc (uW 20)) = aKl pn pd rg k (W 0) (W 1) (W 2) ++ RgL W := by
  rw [KB_split, List.map_append]
  rfl
theorem uB_inv (h : ∀ B, π (σ B) = B) : uB π (uB σ q) = q := by
  by_cases c : q < 21
  · rw [uB_lo c, uB_lo c]
  · obtain ⟨B, i, hi, rfl⟩ : ∃ B i, i < 21 ∧ q = 21 + 21 * B + i := ⟨(q - 21) / 21, (q - 21) % 21, by omega, by omega⟩
    rw [uB_at hi, uB_at hi, h]
theorem uL_inv (h : ∀ B, π (σ B) = B) : uL π (uL σ q) = q := by
  by_cases c : q < 20
  · have e : ∀ π, uL π q = q := fun π => if_pos c
    rw [e, e]
  · have e : uL σ q = uW 20 (uB σ (q - 12)) := if_neg c
    rw [e, uL_w, uB_inv h, uW20 (by omega)]
    omega
theorem loc_inv (h : ∀ B, π (σ B) = B) (l : Option Value) : (l.map (aCv (uL σ))).map (aCv (uL π)) = l := by
  cases l with
  | none => rfl
  | some v => cases v with
    | ref q => exact congrArg (fun x => some (Value.ref x)) (uL_inv h)
    | _ => rfl
/-- a run from the heap with its blocks in their places is one from the heap as it is -/
theorem fn_perm (h2 : π 2 = 2) (h11 : ∀ B, B < 11 → π B < 11) (hinj : ∀ B C, B < 11 → C < 11 → π B = π C → B = C) (hi : ∀ B, π (σ B) = B) (h : ∀ l6 l7 l8, aFn FL BB (2322, [some (.ref 5), some (.ref 20), some (.ref 10), some (.ref 8), some (.ref 9), some (.int xi), l6, l7, l8], [], aLh sn sf lo dd m (KL k (fun B => W (π B))), kk)) : aFn FL BB (2322, [some (.ref 5), some (.ref 20), some (.ref 10), some (.ref 8), some (.ref 9), some (.int xi), l6, l7, l8], [], aLh sn sf lo dd m (aKl (21 + 21 * π 0) (21 + 21 * π 1) (rgB π) k (W 0) (W 1) (W 2) ++ RgL W), kk) := by
  have I := iso_l (sn := sn) (sf := sf) (lo := lo) (dd := dd) (m := m) (k := k) (W := W) h2 h11 hinj
  rw [KB_l, KB_l] at I
  have r := fn_ren (u := uL π) law_st8 I (h (l6.map (aCv (uL σ))) (l7.map (aCv (uL σ))) (l8.map (aCv (uL σ))))
  have e : aLm (uL π) [some (.ref 5), some (.ref 20), some (.ref 10), some (.ref 8), some (.ref 9), some (.int xi), l6.map (aCv (uL σ)), l7.map (aCv (uL σ)), l8.map (aCv (uL σ))] = [some (.ref 5), some (.ref 20), some (.ref 10), some (.ref 8), some (.ref 9), some (.int xi), l6, l7, l8] := by
    have e20 : uL π 20 = 20 := by
      show (if 20 < 20 then 20 else uW 20 (uB π (20 - 12))) = 20
      rw [if_neg (by omega), uB_lo (by omega), uW20 (by omega)]
    show [some (Value.ref (uL π 5)), some (Value.ref (uL π 20)), some (Value.ref (uL π 10)), some (Value.ref (uL π 8)), some (Value.ref (uL π 9)), some (Value.int xi), (l6.map (aCv (uL σ))).map (aCv (uL π)), (l7.map (aCv (uL σ))).map (aCv (uL π)), (l8.map (aCv (uL σ))).map (aCv (uL π))] = _
    rw [loc_inv hi, loc_inv hi, loc_inv hi, e20]
    rfl
  rw [e] at r
  exact r
theorem fn_rot (hj8 : j < 8) (h : ∀ l6 l7 l8, aFn FL BB (2322, [some (.ref 5), some (.ref 20), some (.ref 10), some (.ref 8), some (.ref 9), some (.int xi), l6, l7, l8], [], aLh sn sf lo dd m (KL k (rotW W j w1)), kk)) : aFn FL BB (2322, [some (.ref 5), some (.ref 20), some (.ref 10), some (.ref 8), some (.ref 9), some (.int xi), l6, l7, l8], [], aLh sn sf lo dd m (aKl 42 (84 + 21 * j) (va_up aRg j (some 21)) k (W 0) w1 (W 2) ++ RgL W), kk) := by
  have r2 : rotP j 2 = 2 := by unfold rotP; rw [if_neg (by omega), if_neg (by omega), if_neg (by omega)]
  have eW : (fun B => (fun C => if C = 1 then w1 else W C) (rotP j B)) = rotW W j w1 := by
    funext B
    unfold rotP rotW
    by_cases c0 : B = 0
    · subst c0; rfl
    by_cases c1 : B = 1
    · subst c1
      show (fun C => if C = 1 then w1 else W C) (3 + j) = W (3 + j)
      exact if_neg (by omega)
    by_cases c2 : B = 3 + j
    · subst c2
      rw [if_neg (by omega), if_neg (by omega), if_pos rfl, if_neg (by omega), if_neg (by omega), if_pos rfl]
      rfl
    · rw [if_neg c0, if_neg c1, if_neg c2, if_neg c0, if_neg c1, if_neg c2]
      exact if_neg c1
  have eg : rgB (rotP j) = va_up aRg j (some 21) := by
    funext i
    show some (21 + 21 * rotP j (3 + i)) = if i = j then some 21 else some (84 + 21 * i)
    unfold rotP
    by_cases c : i = j
    · subst c
      rw [if_neg (by omega), if_neg (by omega), if_pos rfl, if_pos rfl]
    · rw [if_neg (by omega), if_neg (by omega), if_neg (by omega), if_neg c]
      congr 1
      omega
  have e0 : 21 + 21 * rotP j 0 = 42 := rfl
  have e1 : 21 + 21 * rotP j 1 = 84 + 21 * j := by
    show 21 + 21 * (3 + j) = _
    omega
  have r := fn_perm (π := rotP j) (σ := rotQ j) (W := fun C => if C = 1 then w1 else W C) (sn := sn) (sf := sf) (lo := lo) (dd := dd) (m := m) (k := k) (kk := kk) (BB := BB) (xi := xi) (l6 := l6) (l7 := l7) (l8 := l8) r2 (fun B hB => by unfold rotP; split <;> (try split) <;> (try split) <;> omega) (fun B C hB hC e => by
    unfold rotP at e
    by_cases b0 : B = 0
    · rw [if_pos b0] at e
      by_cases d0 : C = 0
      · omega
      · rw [if_neg d0] at e
        by_cases d1 : C = 1
        · rw [if_pos d1] at e; omega
        · rw [if_neg d1] at e
          by_cases d2 : C = 3 + j
          · rw [if_pos d2] at e; omega
          · rw [if_neg d2] at e; omega
    · rw [if_neg b0] at e
      by_cases b1 : B = 1
      · rw [if_pos b1] at e
        by_cases d0 : C = 0
        · rw [if_pos d0] at e; omega
        · rw [if_neg d0] at e
          by_cases d1 : C = 1
          · omega
          · rw [if_neg d1] at e
            by_cases d2 : C = 3 + j
            · rw [if_pos d2] at e; omega
            · rw [if_neg d2] at e; omega
      · rw [if_neg b1] at e
        by_cases b2 : B = 3 + j
        · rw [if_pos b2] at e
          by_cases d0 : C = 0
          · rw [if_pos d0] at e; omega
          · rw [if_neg d0] at e
            by_cases d1 : C = 1
            · rw [if_pos d1] at e; omega
            · rw [if_neg d1] at e
              by_cases d2 : C = 3 + j
              · omega
              · rw [if_neg d2] at e; omega
        · rw [if_neg b2] at e
          by_cases d0 : C = 0
          · rw [if_pos d0] at e; omega
          · rw [if_neg d0] at e
            by_cases d1 : C = 1
            · rw [if_pos d1] at e; omega
            · rw [if_neg d1] at e
              by_cases d2 : C = 3 + j
              · rw [if_pos d2] at e; omega
              · rw [if_neg d2] at e; omega) (fun B => by
    unfold rotQ rotP
    by_cases b1 : B = 1
    · subst b1; rfl
    by_cases b2 : B = 3 + j
    · subst b2
      rw [if_neg b1, if_pos rfl, if_neg (by omega), if_pos rfl]
    by_cases b0 : B = 0
    · subst b0
      rw [if_neg b1, if_neg b2, if_pos rfl, if_neg (by omega), if_neg (by omega), if_pos rfl]
    · rw [if_neg b1, if_neg b2, if_neg b0, if_neg b0, if_neg b1, if_neg b2]) (fun l6 l7 l8 => by rw [eW]; exact h l6 l7 l8)
  rw [eg, e0, e1] at r
  exact r
theorem fn_swp (hj8 : j < 8) (h : ∀ l6 l7 l8, aFn FL BB (2322, [some (.ref 5), some (.ref 20), some (.ref 10), some (.ref 8), some (.ref 9), some (.int xi), l6, l7, l8], [], aLh sn sf lo dd m (KL k (swpW W j)), kk)) : aFn FL BB (2322, [some (.ref 5), some (.ref 20), some (.ref 10), some (.ref 8), some (.ref 9), some (.int xi), l6, l7, l8], [], aLh sn sf lo dd m (aKl (84 + 21 * j) 42 (va_up aRg j (some 21)) k (W 0) (W 1) (W 2) ++ RgL W), kk) := by
  have r2 : swpP j 2 = 2 := by unfold swpP; rw [if_neg (by omega), if_neg (by omega)]
  have eW : (fun B => W (swpP j B)) = swpW W j := by
    funext B
    unfold swpP swpW
    by_cases c0 : B = 0
    · subst c0; rfl
    by_cases c2 : B = 3 + j
    · rw [if_neg c0, if_pos c2, if_neg c0, if_pos c2]
    · rw [if_neg c0, if_neg c2, if_neg c0, if_neg c2]
  have eg : rgB (swpP j) = va_up aRg j (some 21) := by
    funext i
    show some (21 + 21 * swpP j (3 + i)) = if i = j then some 21 else some (84 + 21 * i)
    unfold swpP
    by_cases c : i = j
    · subst c
      rw [if_neg (by omega), if_pos rfl, if_pos rfl]
    · rw [if_neg (by omega), if_neg (by omega), if_neg c]
      congr 1
      omega
  have e0 : 21 + 21 * swpP j 0 = 84 + 21 * j := by
    show 21 + 21 * (3 + j) = _
    omega
  have e1 : 21 + 21 * swpP j 1 = 42 := by
    unfold swpP
    rw [if_neg (by omega), if_neg (by omega)]
  have hh : ∀ B, swpP j (swpP j B) = B := fun B => by
    unfold swpP
    by_cases b0 : B = 0
    · rw [if_pos b0, if_neg (by omega), if_pos rfl]
      exact b0.symm
    by_cases b2 : B = 3 + j
    · rw [if_neg b0, if_pos b2, if_pos rfl]
      exact b2.symm
    · rw [if_neg b0, if_neg b2, if_neg b0, if_neg b2]
  have r := fn_perm (π := swpP j) (σ := swpP j) (W := W) (sn := sn) (sf := sf) (lo := lo) (dd := dd) (m := m) (k := k) (kk := kk) (BB := BB) (xi := xi) (l6 := l6) (l7 := l7) (l8 := l8) r2 (fun B hB => by unfold swpP; split <;> (try split) <;> omega) (fun B C _ _ e => by rw [← hh B, e, hh C]) hh (fun l6 l7 l8 => by rw [eW]; exact h l6 l7 l8)
  rw [eg, e0, e1] at r
  exact r
end LD
