/-! THE KILN WHEREVER ITS CELLS LIE -/
def bL (W : Nat → aW) : List aH := [aWk 21 (W 0), aWk 42 (W 1), aWk 63 (W 2), aWk 84 (W 3), aWk 105 (W 4), aWk 126 (W 5), aWk 147 (W 6), aWk 168 (W 7), aWk 189 (W 8), aWk 210 (W 9), aWk 231 (W 10)]
def KB (pn pd : Nat) (rg : Nat → Option Nat) (k : aW) (W : Nat → aW) : aH := aKn0 pn pd rg k ++ (bL W).flatten
def Rg (W : Nat → aW) : aH := ([aWk 84 (W 3), aWk 105 (W 4), aWk 126 (W 5), aWk 147 (W 6), aWk 168 (W 7), aWk 189 (W 8), aWk 210 (W 9), aWk 231 (W 10)] : List aH).flatten
def uB (π : Nat → Nat) (q : Nat) : Nat := if q < 21 then q else 21 + 21 * π ((q - 21) / 21) + (q - 21) % 21
section LC
variable {sn : Nat} {sf : Nat → Int32} {k : aW} {W : Nat → aW} {pn pd B i q : Nat} {rg : Nat → Option Nat} {π σ : Nat → Nat}
theorem aS0_c (u : Nat → Nat) : (aS0 sn sf).map (aCc u) = aS0 sn sf := rfl
theorem KB_split : KB pn pd rg k W = (aKn0 pn pd rg k ++ (aWk 21 (W 0) ++ (aWk 42 (W 1) ++ aWk 63 (W 2)))) ++ Rg W := by
  show aKn0 pn pd rg k ++ (aWk 21 (W 0) ++ (aWk 42 (W 1) ++ (aWk 63 (W 2) ++ Rg W))) = _
  simp only [List.append_assoc]
theorem uB_lo (h : q < 21) : uB π q = q := if_pos h
theorem uB_at (hi : i < 21) : uB π (21 + 21 * B + i) = 21 + 21 * π B + i := by
  unfold uB
  rw [if_neg (by omega), show 21 + 21 * B + i - 21 = 21 * B + i by omega, Nat.mul_add_div (by omega), Nat.mul_add_mod, Nat.div_eq_of_lt hi, Nat.mod_eq_of_lt hi]
  rfl
theorem fl_at : ∀ (l : List aH), (∀ x ∈ l, x.length = 21) → ∀ (B i : Nat), i < 21 → l.flatten[21 * B + i]? = (l[B]?).bind (fun x => x[i]?)
  | [], _, B, i, _ => by simp
  | x :: r, h, 0, i, hi => by
    have hx := h x List.mem_cons_self
    show (x ++ r.flatten)[21 * 0 + i]? = x[i]?
    rw [Nat.mul_zero, Nat.zero_add, List.getElem?_append_left (by omega)]
  | x :: r, h, B + 1, i, hi => by
    have hx := h x List.mem_cons_self
    show (x ++ r.flatten)[21 * (B + 1) + i]? = (r[B]?).bind _
    rw [List.getElem?_append_right (by omega), hx, show 21 * (B + 1) + i - 21 = 21 * B + i by omega]
    exact fl_at r (fun y hy => h y (List.mem_cons_of_mem _ hy)) B i hi
theorem bL_len : ∀ x ∈ bL W, x.length = 21 := by
  intro x hx
  simp only [bL, List.mem_cons, List.not_mem_nil, or_false] at hx
  rcases hx with rfl | rfl | rfl | rfl | rfl | rfl | rfl | rfl | rfl | rfl | rfl <;> rfl
theorem bL_at (hB : B < 11) : (bL W)[B]? = some (aWk (21 + 21 * B) (W B)) := by
  match B, hB with
  | 0, _ => rfl
  | 1, _ => rfl
  | 2, _ => rfl
  | 3, _ => rfl
  | 4, _ => rfl
  | 5, _ => rfl
  | 6, _ => rfl
  | 7, _ => rfl
  | 8, _ => rfl
  | 9, _ => rfl
  | 10, _ => rfl
theorem bL_all (hi : i < 21) (hB : B < 11) : (bL W).flatten[21 * B + i]? = (aWk (21 + 21 * B) (W B))[i]? := by
  rw [fl_at _ bL_len _ _ hi, bL_at hB]
  rfl
set_option maxRecDepth 40000 in
theorem bL_flen : (bL W).flatten.length = 231 := rfl
theorem aWk_mv (w : aW) : (aWk (21 + 21 * B) w).map (aCc (uB π)) = aWk (21 + 21 * π B) w := by
  have e : ∀ i, i < 21 → uB π (21 + 21 * B + i) = 21 + 21 * π B + i := fun i hi => uB_at hi
  simp only [aWk, aOj, aAi, List.map, aCc, aCv, aCa, e 1 (by omega), e 2 (by omega), e 3 (by omega), e 4 (by omega), e 5 (by omega), e 6 (by omega), e 7 (by omega), e 8 (by omega), e 9 (by omega), e 10 (by omega), e 11 (by omega), e 12 (by omega), e 13 (by omega), e 14 (by omega), e 15 (by omega), e 16 (by omega), e 17 (by omega), e 18 (by omega), e 19 (by omega), e 20 (by omega)]
/-- the ring by blocks -/
def rgB (π : Nat → Nat) : Nat → Option Nat := fun j => if j < 8 then some (21 + 21 * π (3 + j)) else none
theorem aKn0_mv (h2 : π 2 = 2) : (aKn0 21 42 aRg k).map (aCc (uB π)) = aKn0 (21 + 21 * π 0) (21 + 21 * π 1) (rgB π) k := by
  have e0 : uB π 21 = 21 + 21 * π 0 := uB_at (B := 0) (i := 0) (by omega)
  have e1 : uB π 42 = 21 + 21 * π 1 := uB_at (B := 1) (i := 0) (by omega)
  have e2 : uB π 63 = 63 := (uB_at (B := 2) (i := 0) (by omega)).trans (by rw [h2])
  have l : ∀ q, q < 21 → uB π q = q := fun q h => uB_lo h
  have er : (fun j => (aRg j).map (uB π)) = rgB π := funext fun j => by
    show (if j < 8 then some (84 + 21 * j) else none : Option Nat).map (uB π) = if j < 8 then some (21 + 21 * π (3 + j)) else none
    by_cases c : j < 8
    · rw [if_pos c, if_pos c]
      show some (uB π (84 + 21 * j)) = some (21 + 21 * π (3 + j))
      rw [show 84 + 21 * j = 21 + 21 * (3 + j) + 0 by omega, uB_at (by omega)]
      rfl
    · rw [if_neg c, if_neg c]
      rfl
  have en : (fun j => (if j < 3 then some (17 + j) else none : Option Nat).map (uB π)) = fun i => if i < 3 then some (17 + i) else none := funext fun j => by
    by_cases c : j < 3
    · rw [if_pos c]
      show some (uB π (17 + j)) = _
      rw [l _ (by omega)]
    · rw [if_neg c]
      rfl
  simp only [aKn0, aOj, aAi, List.map, aCc, aCv, aCa, e0, e1, e2, l 9 (by omega), l 10 (by omega), l 11 (by omega), l 12 (by omega), l 13 (by omega), l 14 (by omega), l 15 (by omega), l 16 (by omega), l 20 (by omega), er, en]
set_option maxRecDepth 40000 in
/-- blocks changed about -/
theorem iso_b (h2 : π 2 = 2) (h11 : ∀ B, B < 11 → π B < 11) (hinj : ∀ B C, B < 11 → C < 11 → π B = π C → B = C) : aIso (uB π) (aS0 sn sf ++ KB 21 42 aRg k (fun B => W (π B))) (aS0 sn sf ++ KB (21 + 21 * π 0) (21 + 21 * π 1) (rgB π) k W) := by
  have hl : ∀ (pn pd : Nat) (rg : Nat → Option Nat) (W : Nat → aW), (aS0 sn sf ++ KB pn pd rg k W).length = 252 := fun _ _ _ _ => rfl
  have lo : ∀ (pn pd : Nat) (rg : Nat → Option Nat) (W : Nat → aW) (q : Nat), q < 21 → (aS0 sn sf ++ KB pn pd rg k W)[q]? = (aS0 sn sf ++ aKn0 pn pd rg k)[q]? := by
    intro pn pd rg W q hq
    unfold KB
    rw [← List.append_assoc]
    exact List.getElem?_append_left hq
  have hi : ∀ (pn pd : Nat) (rg : Nat → Option Nat) (W : Nat → aW) (B i : Nat), B < 11 → i < 21 → (aS0 sn sf ++ KB pn pd rg k W)[21 + 21 * B + i]? = (aWk (21 + 21 * B) (W B))[i]? := by
    intro pn pd rg W B i hB hi
    unfold KB
    rw [← List.append_assoc, List.getElem?_append_right (by show 21 ≤ _; omega), show 21 + 21 * B + i - (aS0 sn sf ++ aKn0 pn pd rg k).length = 21 * B + i from by show 21 + 21 * B + i - 21 = _; omega]
    exact bL_all hi hB
  have dec : ∀ q, 21 ≤ q → q < 252 → ∃ B i, B < 11 ∧ i < 21 ∧ q = 21 + 21 * B + i := fun q h1 h2 => ⟨(q - 21) / 21, (q - 21) % 21, by omega, by omega, by omega⟩
  refine ⟨fun q c hq => ?_, fun q q1 g1 g2 e => ?_, fun q hq => uB_lo (by omega)⟩
  · have hq2 : q < 252 := by
      have := (List.getElem?_eq_some_iff.mp hq).1
      rw [hl] at this
      exact this
    by_cases c21 : q < 21
    · rw [lo _ _ _ _ q c21] at hq
      rw [uB_lo c21, lo _ _ _ _ q c21, ← aKn0_mv h2]
      have e : (aS0 sn sf ++ (aKn0 21 42 aRg k).map (aCc (uB π))) = (aS0 sn sf ++ aKn0 21 42 aRg k).map (aCc (uB π)) := by
        rw [List.map_append, aS0_c]
      rw [e, List.getElem?_map, hq]
      rfl
    · obtain ⟨B, i, hB, hi21, rfl⟩ := dec q (by omega) hq2
      rw [hi _ _ _ _ B i hB hi21] at hq
      rw [uB_at hi21, hi _ _ _ _ (π B) i (h11 B hB) hi21, ← aWk_mv, List.getElem?_map, hq]
      rfl
  · rw [hl] at g1 g2
    by_cases c1 : q < 21
    · rw [uB_lo c1] at e
      by_cases c2 : q1 < 21
      · rw [uB_lo c2] at e
        exact e
      · obtain ⟨B, i, hB, hi21, rfl⟩ := dec q1 (by omega) g2
        rw [uB_at hi21] at e
        omega
    · obtain ⟨B, i, hB, hi21, rfl⟩ := dec q (by omega) g1
      rw [uB_at hi21] at e
      by_cases c2 : q1 < 21
      · rw [uB_lo c2] at e
        omega
      · obtain ⟨C, j, hC, hj21, rfl⟩ := dec q1 (by omega) g2
        rw [uB_at hj21] at e
        have hh : π B = π C ∧ i = j := by omega
        rw [hinj B C hB hC hh.1, hh.2]
theorem uB_8 : q < 8 → uB π q = q := fun h => uB_lo (by omega)
theorem cc_cc {u v : Nat → Nat} {c : aC} : aCc u (aCc v c) = aCc (fun q => u (v q)) c := by
  obtain ⟨w, x⟩ := c
  cases x with
  | inl x =>
    obtain ⟨ty, n, y⟩ := x
    rcases y with f | f | f | f | f
    · rfl
    · rfl
    · rfl
    · rfl
    · show (w, Sum.inl (ty, n, Sum.inr (Sum.inr (Sum.inr (Sum.inr fun j => ((f j).map v).map u))))) = _
      have e : (fun j => ((f j).map v).map u) = fun j => (f j).map (fun q => u (v q)) := funext fun j => by cases f j <;> rfl
      rw [e]
      rfl
  | inr x =>
    obtain ⟨ci, fs⟩ := x
    show (w, Sum.inr (ci, (fs.map (aCv v)).map (aCv u))) = (w, Sum.inr (ci, fs.map (aCv fun q => u (v q))))
    rw [List.map_map]
    have e : aCv u ∘ aCv v = aCv fun q => u (v q) := funext fun y => by cases y <;> rfl
    rw [e]
theorem uB_inv (h : ∀ B, π (σ B) = B) : uB π (uB σ q) = q := by
  by_cases c : q < 21
  · rw [uB_lo c, uB_lo c]
  · obtain ⟨B, i, hi, rfl⟩ : ∃ B i, i < 21 ∧ q = 21 + 21 * B + i := ⟨(q - 21) / 21, (q - 21) % 21, by omega, by omega⟩
    rw [uB_at hi, uB_at hi, h]
end LC
def rotP (j B : Nat) : Nat := if B = 0 then 1 else if B = 1 then 3 + j else if B = 3 + j then 0 else B
def rotQ (j B : Nat) : Nat := if B = 1 then 0 else if B = 3 + j then 1 else if B = 0 then 3 + j else B
def swpP (j B : Nat) : Nat := if B = 0 then 3 + j else if B = 3 + j then 0 else B
/-- now, draft and the ring's place j change about; w1: the draft as it has become -/
def rotW (W : Nat → aW) (j : Nat) (w1 : aW) : Nat → aW := fun B => if B = 0 then w1 else if B = 1 then W (3 + j) else if B = 3 + j then W 0 else W B
/-- now and the ring's place j change about -/
def swpW (W : Nat → aW) (j : Nat) : Nat → aW := fun B => if B = 0 then W (3 + j) else if B = 3 + j then W 0 else W B
theorem rot_0 {W : Nat → aW} {j B : Nat} {w1 : aW} : rotW W j w1 0 = w1 := rfl
theorem rot_2 {W : Nat → aW} {j B : Nat} {w1 : aW} : rotW W j w1 2 = W 2 := by
  unfold rotW
  rw [if_neg (by omega), if_neg (by omega), if_neg (by omega)]
theorem rot_j {W : Nat → aW} {j B : Nat} {w1 : aW} : rotW W j w1 (3 + j) = W 0 := by
  unfold rotW
  rw [if_neg (by omega), if_neg (by omega), if_pos rfl]
theorem rot_o {W : Nat → aW} {j B : Nat} {w1 : aW} (h : 2 ≤ B) (hj : ¬ B = 3 + j) : rotW W j w1 B = W B := by
  unfold rotW
  rw [if_neg (by omega), if_neg (by omega), if_neg hj]
theorem swp_j {W : Nat → aW} {j B : Nat} : swpW W j (3 + j) = W 0 := by
  unfold swpW
  rw [if_neg (by omega), if_pos rfl]
theorem swp_o {W : Nat → aW} {j B : Nat} (h : 1 ≤ B) (hj : ¬ B = 3 + j) : swpW W j B = W B := by
  unfold swpW
  rw [if_neg (by omega), if_neg hj]
def updW (W : Nat → aW) (w1 : aW) : Nat → aW := fun B => if B = 1 then w1 else W B
abbrev KV (sn : Nat) (sf : Nat → Int32) (k : aW) (V : Nat → aW) : aH := aS0 sn sf ++ KB 21 42 aRg k V
/-- the kiln with those contents, its cells lying somewhere in H -/
def KAt (sn : Nat) (sf : Nat → Int32) (k : aW) (V : Nat → aW) (H : aH) : Prop := ∃ u, aIso u (KV sn sf k V) H ∧ u 8 = 8 ∧ H.length = 252 ∧ ∀ j, j < 252 → ∃ q, q < 252 ∧ u q = j
section KAS
variable {sn : Nat} {sf : Nat → Int32} {k k1 : aW} {V : Nat → aW} {H H1 E h g : aH} {u v : Nat → Nat} {d m j : Nat} {as : List Value} {x : Option Value ⊕ Nat} {kk : aK} {w1 : aW}
set_option maxRecDepth 40000 in
theorem KV_len : (KV sn sf k V).length = 252 := rfl
set_option maxRecDepth 40000 in
theorem KBg_len {pn pd : Nat} {rg : Nat → Option Nat} : (aS0 sn sf ++ KB pn pd rg k V).length = 252 := rfl
theorem iso_app (I : aIso u h H) : aIso u h (H ++ E) := ⟨fun q c hq => by
  have := I.1 q c hq
  rw [List.getElem?_append_left (List.getElem?_eq_some_iff.mp this).1]
  exact this, I.2⟩
theorem iso_id : aIso (fun q => q) h h := by
  refine ⟨fun q c hq => ?_, fun _ _ _ _ e => e, fun _ _ => rfl⟩
  rw [hq]
  obtain ⟨w, x⟩ := c
  cases x with
  | inl x =>
    obtain ⟨ty, n, y⟩ := x
    rcases y with f | f | f | f | f
    · rfl
    · rfl
    · rfl
    · rfl
    · show some (w, Sum.inl (ty, n, Sum.inr (Sum.inr (Sum.inr (Sum.inr f))))) = some (w, Sum.inl (ty, n, Sum.inr (Sum.inr (Sum.inr (Sum.inr fun j => (f j).map fun q => q)))))
      have e : (fun j => (f j).map fun q => q) = f := funext fun j => by cases f j <;> rfl
      rw [e]
  | inr x =>
    obtain ⟨ci, fs⟩ := x
    show some (w, Sum.inr (ci, fs)) = some (w, Sum.inr (ci, fs.map (aCv fun q => q)))
    have e : (aCv fun q => q) = id := funext fun y => by cases y <;> rfl
    rw [e, List.map_id]
theorem iso_comp (I : aIso u h H) (J : aIso v g h) : aIso (fun q => u (v q)) g H := by
  have hv : ∀ q, q < g.length → v q < h.length := fun q hq => J.lt (List.getElem?_eq_getElem hq)
  refine ⟨fun q c hq => ?_, fun q q1 h1 h2 e => ?_, fun q hq => ?_⟩
  · have := I.1 _ _ (J.1 q c hq)
    rw [cc_cc] at this
    exact this
  · exact J.2.1 q q1 h1 h2 (I.2.1 _ _ (hv q h1) (hv q1 h2) e)
  · show u (v q) = q
    rw [J.2.2 q hq, I.2.2 q hq]
/-- what a run does on cells, it does wherever they lie, and to nothing else -/
theorem run_iso (I : aIso u h H) (hr : aRun false d m as h = some (x, g, kk)) (ha : as.map (aCv u) = as) : ∃ H1, aRun false d m as (H ++ E) = some (aRv u x, H1 ++ E, kk) ∧ aIso u g H1 ∧ g.length = h.length ∧ H1.length = H.length ∧ ∀ j, (∀ q, q < h.length → u q ≠ j) → H1[j]? = H[j]? := by
  obtain ⟨H9, e1, J, e2, e3, e4⟩ := aRun_ren (u := u) aSt8_ok d m as h (H ++ E) _ (iso_app I) hr
  rw [ha] at e1
  have hlt : ∀ q, q < h.length → u q < H.length := fun q hq => I.lt (List.getElem?_eq_getElem hq)
  have e3 : H9.length = (H ++ E).length := e3
  have e2 : g.length = h.length := e2
  rw [List.length_append] at e3
  have eH : H9 = H9.take H.length ++ E := by
    refine List.ext_getElem? fun j => ?_
    have ht : (H9.take H.length).length = H.length := by rw [List.length_take]; omega
    by_cases hj : j < H.length
    · rw [List.getElem?_append_left (by omega), List.getElem?_take, if_pos hj]
    · rw [List.getElem?_append_right (by omega), ht, e4 j (fun q hq e => hj (by rw [← e]; exact hlt q hq)), List.getElem?_append_right (by omega)]
  refine ⟨H9.take H.length, by rw [e1]; exact congrArg (fun z => some (aRv u x, z, kk)) eH, ⟨fun q c hq => ?_, J.2⟩, e2, by rw [List.length_take]; omega, fun j hj => ?_⟩
  · have hq2 : q < h.length := by rw [← e2]; exact (List.getElem?_eq_some_iff.mp hq).1
    rw [List.getElem?_take, if_pos (hlt q hq2)]
    exact J.1 q c hq
  · rw [List.getElem?_take]
    by_cases hl : j < H.length
    · rw [if_pos hl, e4 j hj, List.getElem?_append_left hl]
    · rw [if_neg hl]
      exact (List.getElem?_eq_none (by omega)).symm
theorem as_id : as.map (aCv fun q => q) = as := by
  have e : (aCv fun q => q) = id := funext fun y => by cases y <;> rfl
  rw [e, List.map_id]
theorem rv_id : aRv (fun q => q) x = x := by
  rcases x with v | e
  · have e : (aCv fun q => q) = id := funext fun y => by cases y <;> rfl
    show Sum.inl (v.map (aCv fun q => q)) = _
    rw [e, Option.map_id]
    rfl
  · rfl
/-- .. with more behind -/
theorem run_app (hr : aRun false d m as h = some (x, g, kk)) : aRun false d m as (h ++ E) = some (x, g ++ E, kk) := by
  obtain ⟨H1, e1, J, e2, e3, e4⟩ := run_iso (E := E) iso_id hr as_id
  have eH : H1 = g := by
    refine List.ext_getElem? fun j => ?_
    by_cases hj : j < g.length
    · have h1 := J.1 j _ (List.getElem?_eq_getElem hj)
      have h2 := (iso_id (h := g)).1 j _ (List.getElem?_eq_getElem hj)
      exact h1.trans h2.symm
    · rw [List.getElem?_eq_none (by omega), List.getElem?_eq_none (by omega)]
  rw [rv_id, eH] at e1
  exact e1
theorem KV_k : KV sn sf k V = aHk sn sf 21 42 aRg k (V 0) (V 1) (V 2) ++ Rg V := by
  show aS0 sn sf ++ KB 21 42 aRg k V = _
  rw [KB_split]
  unfold aHk
  simp only [List.append_assoc]
theorem KB_k {pn pd : Nat} {rg : Nat → Option Nat} {wn wd ws : aW} : aHk sn sf pn pd rg k wn wd ws ++ Rg V = aS0 sn sf ++ KB pn pd rg k (fun B => if B = 0 then wn else if B = 1 then wd else if B = 2 then ws else V B) := by
  rw [KB_split]
  unfold aHk
  simp only [List.append_assoc]
  rfl
/-- a run of the kiln's, wherever its cells lie -/
theorem run_k {wn wd ws : aW} {pn pd : Nat} {rg : Nat → Option Nat} (hr : aRun false d m as (aHk sn sf 21 42 aRg k (V 0) (V 1) (V 2)) = some (x, aHk sn sf pn pd rg k1 wn wd ws, kk)) (I : aIso u (KV sn sf k V) H) (ha : as.map (aCv u) = as) : ∃ H1, aRun false d m as (H ++ E) = some (aRv u x, H1 ++ E, kk) ∧ aIso u (aS0 sn sf ++ KB pn pd rg k1 (fun B => if B = 0 then wn else if B = 1 then wd else if B = 2 then ws else V B)) H1 ∧ H1.length = H.length ∧ ∀ j, (∀ q, q < 252 → u q ≠ j) → H1[j]? = H[j]? := by
  have hr2 := run_app (E := Rg V) hr
  rw [← KV_k, KB_k] at hr2
  obtain ⟨H1, e1, J, e2, e3, e4⟩ := run_iso (E := E) I hr2 ha
  exact ⟨H1, e1, J, e3, fun j hj => e4 j (fun q hq => hj q (by rw [KV_len] at hq; exact hq))⟩
theorem KAt_same (I : aIso u (KV sn sf k V) H) (J : aIso u (KV sn sf k V) H1) (hl : H.length = 252) (hl1 : H1.length = H.length) (hs : ∀ j, j < 252 → ∃ q, q < 252 ∧ u q = j) : H1 = H := by
  refine List.ext_getElem? fun j => ?_
  by_cases hj : j < 252
  · obtain ⟨q, hq, rfl⟩ := hs j hj
    have hq2 : q < (KV sn sf k V).length := by rw [KV_len]; exact hq
    rw [I.1 q _ (List.getElem?_eq_getElem hq2), J.1 q _ (List.getElem?_eq_getElem hq2)]
  · rw [List.getElem?_eq_none (by omega), List.getElem?_eq_none (by omega)]
/-- a question: nothing changed -/
theorem at_ask (A : KAt sn sf k V H) (hr : aRun false d m as (aHk sn sf 21 42 aRg k (V 0) (V 1) (V 2)) = some (x, aHk sn sf 21 42 aRg k (V 0) (V 1) (V 2), kk)) (ha : ∀ u : Nat → Nat, u 8 = 8 → as.map (aCv u) = as) (hx : ∀ u, aRv u x = x) : aRun false d m as (H ++ E) = some (x, H ++ E, kk) := by
  obtain ⟨u, I, h8, hl, hs⟩ := A
  obtain ⟨H1, e1, J, e3, -⟩ := run_k (E := E) hr I (ha u h8)
  have eV : (fun B => if B = 0 then V 0 else if B = 1 then V 1 else if B = 2 then V 2 else V B) = V := funext fun B => by
    by_cases c0 : B = 0
    · rw [if_pos c0, c0]
    by_cases c1 : B = 1
    · rw [if_neg c0, if_pos c1, c1]
    by_cases c2 : B = 2
    · rw [if_neg c0, if_neg c1, if_pos c2, c2]
    · rw [if_neg c0, if_neg c1, if_neg c2]
  rw [eV] at J
  rw [hx, KAt_same I J hl e3 hs] at e1
  exact e1
/-- a change that is not done: the draft alone, and the reasons -/
theorem at_no (A : KAt sn sf k V H) (hr : aRun false d m as (aHk sn sf 21 42 aRg k (V 0) (V 1) (V 2)) = some (x, aHk sn sf 21 42 aRg k1 (V 0) w1 (V 2), kk)) (ha : ∀ u : Nat → Nat, u 8 = 8 → as.map (aCv u) = as) (hx : ∀ u, aRv u x = x) : ∃ H1, aRun false d m as (H ++ E) = some (x, H1 ++ E, kk) ∧ KAt sn sf k1 (updW V w1) H1 := by
  obtain ⟨u, I, h8, hl, hs⟩ := A
  obtain ⟨H1, e1, J, e3, -⟩ := run_k (E := E) hr I (ha u h8)
  have eV : (fun B => if B = 0 then V 0 else if B = 1 then w1 else if B = 2 then V 2 else V B) = updW V w1 := funext fun B => by
    unfold updW
    by_cases c0 : B = 0
    · rw [if_pos c0, c0]; rfl
    by_cases c1 : B = 1
    · rw [if_neg c0, if_pos c1, if_pos c1]
    by_cases c2 : B = 2
    · rw [if_neg c0, if_neg c1, if_pos c2, if_neg c1, c2]
    · rw [if_neg c0, if_neg c1, if_neg c2, if_neg c1]
  rw [eV] at J
  rw [hx] at e1
  exact ⟨H1, e1, u, J, h8, by omega, hs⟩
theorem rotP_11 (hj8 : j < 8) : ∀ B, B < 11 → rotP j B < 11 := fun B hB => by unfold rotP; split <;> (try split) <;> (try split) <;> omega
theorem rot_inv (B : Nat) : rotP j (rotQ j B) = B := by
  unfold rotQ rotP
  by_cases b1 : B = 1
  · subst b1; rfl
  by_cases b2 : B = 3 + j
  · subst b2
    rw [if_neg b1, if_pos rfl, if_neg (by omega), if_pos rfl]
  by_cases b0 : B = 0
  · subst b0
    rw [if_neg b1, if_neg b2, if_pos rfl, if_neg (by omega), if_neg (by omega), if_pos rfl]
  · rw [if_neg b1, if_neg b2, if_neg b0, if_neg b0, if_neg b1, if_neg b2]
theorem rot_vni (B : Nat) : rotQ j (rotP j B) = B := by
  unfold rotQ rotP
  by_cases b0 : B = 0
  · subst b0
    rw [if_pos rfl, if_pos rfl]
  by_cases b1 : B = 1
  · subst b1
    rw [if_neg b0, if_pos rfl, if_neg (by omega), if_pos rfl]
  by_cases b2 : B = 3 + j
  · subst b2
    rw [if_neg b0, if_neg b1, if_pos rfl, if_neg (by omega), if_neg (by omega), if_pos rfl]
  · rw [if_neg b0, if_neg b1, if_neg b2, if_neg b1, if_neg b2, if_neg b0]
theorem swp_inv (B : Nat) : swpP j (swpP j B) = B := by
  unfold swpP
  by_cases b0 : B = 0
  · rw [if_pos b0, if_neg (by omega), if_pos rfl]
    exact b0.symm
  by_cases b2 : B = 3 + j
  · rw [if_neg b0, if_pos b2, if_pos rfl]
    exact b2.symm
  · rw [if_neg b0, if_neg b2, if_neg b0, if_neg b2]
theorem uB_252 {π : Nat → Nat} (h11 : ∀ B, B < 11 → π B < 11) {q : Nat} (hq : q < 252) : uB π q < 252 := by
  by_cases c : q < 21
  · rw [uB_lo c]; exact hq
  · obtain ⟨B, i, hi, rfl⟩ : ∃ B i, i < 21 ∧ q = 21 + 21 * B + i := ⟨(q - 21) / 21, (q - 21) % 21, by omega, by omega⟩
    rw [uB_at hi]
    have := h11 B (by omega)
    omega
/-- blocks changed about: the same kiln -/
theorem KAt_perm {π σ : Nat → Nat} {W : Nat → aW} (I : aIso u (aS0 sn sf ++ KB (21 + 21 * π 0) (21 + 21 * π 1) (rgB π) k W) H) (h8 : u 8 = 8) (hl : H.length = 252) (hs : ∀ j, j < 252 → ∃ q, q < 252 ∧ u q = j) (h2 : π 2 = 2) (h11 : ∀ B, B < 11 → π B < 11) (s11 : ∀ B, B < 11 → σ B < 11) (hps : ∀ B, π (σ B) = B) (hsp : ∀ B, σ (π B) = B) : KAt sn sf k (fun B => W (π B)) H := by
  have J := iso_b (sn := sn) (sf := sf) (k := k) (W := W) h2 h11 (fun B C _ _ e => by rw [← hsp B, e, hsp C])
  refine ⟨fun q => u (uB π q), iso_comp I J, by show u (uB π 8) = 8; rw [uB_lo (by omega), h8], hl, fun j hj => ?_⟩
  obtain ⟨q, hq, e⟩ := hs j hj
  refine ⟨uB σ q, uB_252 s11 hq, ?_⟩
  show u (uB π (uB σ q)) = j
  rw [uB_inv hps, e]
theorem rotQ_11 (hj8 : j < 8) : ∀ B, B < 11 → rotQ j B < 11 := fun B hB => by unfold rotQ; split <;> (try split) <;> (try split) <;> omega
theorem swpP_11 (hj8 : j < 8) : ∀ B, B < 11 → swpP j B < 11 := fun B hB => by unfold swpP; split <;> (try split) <;> omega
/-- a change that is done -/
theorem at_ok (A : KAt sn sf k V H) (hj8 : j < 8) (hr : aRun false d m as (aHk sn sf 21 42 aRg k (V 0) (V 1) (V 2)) = some (x, aHk sn sf 42 (84 + 21 * j) (va_up aRg j (some 21)) k1 (V 0) w1 (V 2), kk)) (ha : ∀ u : Nat → Nat, u 8 = 8 → as.map (aCv u) = as) (hx : ∀ u, aRv u x = x) : ∃ H1, aRun false d m as (H ++ E) = some (x, H1 ++ E, kk) ∧ KAt sn sf k1 (rotW V j w1) H1 := by
  obtain ⟨u, I, h8, hl, hs⟩ := A
  obtain ⟨H1, e1, J, e3, -⟩ := run_k (E := E) hr I (ha u h8)
  have r2 : rotP j 2 = 2 := by unfold rotP; rw [if_neg (by omega), if_neg (by omega), if_neg (by omega)]
  have eg : rgB (rotP j) = va_up aRg j (some 21) := by
    funext i
    show (if i < 8 then some (21 + 21 * rotP j (3 + i)) else none) = if i = j then some 21 else (if i < 8 then some (84 + 21 * i) else none)
    unfold rotP
    by_cases c : i = j
    · subst c
      rw [if_pos hj8, if_neg (by omega), if_neg (by omega), if_pos rfl, if_pos rfl]
    · rw [if_neg c]
      by_cases c8 : i < 8
      · rw [if_pos c8, if_pos c8, if_neg (by omega), if_neg (by omega), if_neg (by omega)]
        congr 1
        omega
      · rw [if_neg c8, if_neg c8]
  have e0 : 21 + 21 * rotP j 0 = 42 := rfl
  have e1' : 21 + 21 * rotP j 1 = 84 + 21 * j := by
    show 21 + 21 * (3 + j) = _
    omega
  rw [← eg, ← e0, ← e1'] at J
  have K := KAt_perm (π := rotP j) (σ := rotQ j) J h8 (by omega) hs r2 (rotP_11 hj8) (rotQ_11 hj8) rot_inv rot_vni
  rw [hx] at e1
  refine ⟨H1, e1, ?_⟩
  have eW : (fun B => (fun B => if B = 0 then V 0 else if B = 1 then w1 else if B = 2 then V 2 else V B) (rotP j B)) = rotW V j w1 := by
    funext B
    unfold rotP rotW
    by_cases c0 : B = 0
    · subst c0; rfl
    by_cases c1 : B = 1
    · subst c1
      show (if 3 + j = 0 then V 0 else if 3 + j = 1 then w1 else if 3 + j = 2 then V 2 else V (3 + j)) = V (3 + j)
      rw [if_neg (by omega), if_neg (by omega), if_neg (by omega)]
    by_cases c2 : B = 3 + j
    · subst c2
      rw [if_neg (by omega), if_neg (by omega), if_pos rfl, if_neg (by omega), if_neg (by omega), if_pos rfl]
      rfl
    · rw [if_neg c0, if_neg c1, if_neg c2, if_neg c0, if_neg c1, if_neg c2]
      show (if B = 0 then V 0 else if B = 1 then w1 else if B = 2 then V 2 else V B) = V B
      rw [if_neg c0, if_neg c1]
      by_cases c3 : B = 2
      · rw [if_pos c3, c3]
      · rw [if_neg c3]
  rw [eW] at K
  exact K
/-- undone -/
theorem at_un (A : KAt sn sf k V H) (hj8 : j < 8) (hr : aRun false d m as (aHk sn sf 21 42 aRg k (V 0) (V 1) (V 2)) = some (x, aHk sn sf (84 + 21 * j) 42 (va_up aRg j (some 21)) k1 (V 0) (V 1) (V 2), kk)) (ha : ∀ u : Nat → Nat, u 8 = 8 → as.map (aCv u) = as) (hx : ∀ u, aRv u x = x) : ∃ H1, aRun false d m as (H ++ E) = some (x, H1 ++ E, kk) ∧ KAt sn sf k1 (swpW V j) H1 := by
  obtain ⟨u, I, h8, hl, hs⟩ := A
  obtain ⟨H1, e1, J, e3, -⟩ := run_k (E := E) hr I (ha u h8)
  have r2 : swpP j 2 = 2 := by unfold swpP; rw [if_neg (by omega), if_neg (by omega)]
  have eg : rgB (swpP j) = va_up aRg j (some 21) := by
    funext i
    show (if i < 8 then some (21 + 21 * swpP j (3 + i)) else none) = if i = j then some 21 else (if i < 8 then some (84 + 21 * i) else none)
    unfold swpP
    by_cases c : i = j
    · subst c
      rw [if_pos hj8, if_neg (by omega), if_pos rfl, if_pos rfl]
    · rw [if_neg c]
      by_cases c8 : i < 8
      · rw [if_pos c8, if_pos c8, if_neg (by omega), if_neg (by omega)]
        congr 1
        omega
      · rw [if_neg c8, if_neg c8]
  have e0 : 21 + 21 * swpP j 0 = 84 + 21 * j := by
    show 21 + 21 * (3 + j) = _
    omega
  have e1' : 21 + 21 * swpP j 1 = 42 := by
    unfold swpP
    rw [if_neg (by omega), if_neg (by omega)]
  rw [← eg, ← e0, show (42 : Nat) = 21 + 21 * swpP j 1 from e1'.symm] at J
  have eV : (fun B => if B = 0 then V 0 else if B = 1 then V 1 else if B = 2 then V 2 else V B) = V := funext fun B => by
    by_cases c0 : B = 0
    · rw [if_pos c0, c0]
    by_cases c1 : B = 1
    · rw [if_neg c0, if_pos c1, c1]
    by_cases c2 : B = 2
    · rw [if_neg c0, if_neg c1, if_pos c2, c2]
    · rw [if_neg c0, if_neg c1, if_neg c2]
  rw [eV] at J
  have K := KAt_perm (π := swpP j) (σ := swpP j) J h8 (by omega) hs r2 (swpP_11 hj8) (swpP_11 hj8) swp_inv swp_inv
  rw [hx] at e1
  refine ⟨H1, e1, ?_⟩
  have eW : (fun B => V (swpP j B)) = swpW V j := by
    funext B
    unfold swpP swpW
    by_cases c0 : B = 0
    · rw [if_pos c0, if_pos c0]
    by_cases c2 : B = 3 + j
    · rw [if_neg c0, if_pos c2, if_neg c0, if_pos c2]
    · rw [if_neg c0, if_neg c2, if_neg c0, if_neg c2]
  rw [eW] at K
  exact K
/-- the kiln's own cell -/
theorem at_8 (A : KAt sn sf k V H) : ∃ fs, (H ++ E)[8]? = some (true, .inr (7, fs)) := by
  obtain ⟨u, I, h8, hl, hs⟩ := A
  have h1 := I.1 8 _ (show (KV sn sf k V)[8]? = some (aOj 7 [.ref 9, .ref 12, .ref 14, .ref 21, .ref 42, .ref 63, .int (k 7 0), .int (k 7 1)]) from rfl)
  rw [h8] at h1
  rw [List.getElem?_append_left (by omega), h1]
  exact ⟨_, rfl⟩
theorem at_lo (A : KAt sn sf k V H) {q : Nat} (hq : q < 8) : (H ++ E)[q]? = (aS0 sn sf)[q]? := by
  obtain ⟨u, I, h8, hl, hs⟩ := A
  obtain ⟨c, hc⟩ : ∃ c, (aS0 sn sf)[q]? = some c := ⟨_, List.getElem?_eq_getElem (show q < 8 from hq)⟩
  have h0 : (KV sn sf k V)[q]? = some c := by rw [List.getElem?_append_left (show q < 8 from hq)]; exact hc
  have h1 := I.1 q c h0
  rw [I.2.2 q hq] at h1
  have h2 : ((aS0 sn sf).map (aCc u))[q]? = some (aCc u c) := by rw [List.getElem?_map, hc]; rfl
  rw [aS0_c, hc] at h2
  rw [List.getElem?_append_left (by omega), h1, hc, ← h2]
theorem at_len (A : KAt sn sf k V H) : H.length = 252 := A.elim fun u q => q.2.2.1
def mPc (c : aC) : Prop := (∃ n f, c = (true, .inl (.int, n, .inl f))) ∨ ∃ n f, c = (true, .inl (.long, n, .inr (.inl f)))
/-- numbers alone -/
def mPl (E : aH) : Prop := ∀ c, c ∈ E → mPc c
theorem mV1_le {a b : Nat} (h : a ≤ b) {x : Value} (hx : mV1 a x = true) : mV1 b x = true := by
  cases x with
  | ref q => exact decide_eq_true (Nat.lt_of_lt_of_le (of_decide_eq_true hx) h)
  | _ => rfl
theorem mCell_le {a b : Nat} (h : a ≤ b) {e : aE} (he : mCell a e) : mCell b e := by
  rcases e with ⟨ty, m, x⟩ | ⟨ci, fs⟩
  · rcases x with f | f | f | f | f
    · trivial
    · trivial
    · trivial
    · trivial
    · exact fun j p hj hf => Nat.lt_of_lt_of_le (he j p hj hf) h
  · exact fun v hv => mV1_le h (he v hv)
theorem mV1_b {b i : Nat} (h : b + i < 252) : mV1 252 (.ref (b + i)) = true := decide_eq_true h
theorem wk_cl {b : Nat} (hb : b + 21 ≤ 252) (w : aW) : ∀ c, c ∈ aWk b w → mCell 252 c.2 := by
  intro c hc
  simp only [aWk, aOj, aAi, List.mem_cons, List.not_mem_nil, or_false] at hc
  rcases hc with rfl | rfl | rfl | rfl | rfl | rfl | rfl | rfl | rfl | rfl | rfl | rfl | rfl | rfl | rfl | rfl | rfl | rfl | rfl | rfl | rfl
  all_goals first
    | trivial
    | (intro v hv
       simp only [List.mem_cons, List.not_mem_nil, or_false] at hv
       rcases hv with rfl | rfl | rfl | rfl | rfl | rfl | rfl | rfl <;> first | rfl | exact mV1_b (by omega))
    | (intro v hv
       simp only [List.mem_cons, List.not_mem_nil, or_false] at hv
       rcases hv with rfl | rfl | rfl | rfl | rfl | rfl <;> first | rfl | exact mV1_b (by omega))
    | (intro v hv
       simp only [List.mem_cons, List.not_mem_nil, or_false] at hv
       rcases hv with rfl | rfl | rfl | rfl | rfl <;> first | rfl | exact mV1_b (by omega))
    | (intro v hv
       simp only [List.mem_cons, List.not_mem_nil, or_false] at hv
       rcases hv with rfl | rfl | rfl <;> first | rfl | exact mV1_b (by omega))
theorem kn_cl (k : aW) : ∀ c, c ∈ aKn0 21 42 aRg k → mCell 252 c.2 := by
  intro c hc
  simp only [aKn0, aOj, aAi, List.mem_cons, List.not_mem_nil, or_false] at hc
  rcases hc with rfl | rfl | rfl | rfl | rfl | rfl | rfl | rfl | rfl | rfl | rfl | rfl | rfl
  all_goals first
    | trivial
    | (intro j p hj hf
       have hj : j < 8 := hj
       have hf : (if j < 8 then some (84 + 21 * j) else none) = some p := hf
       rw [if_pos hj] at hf
       cases hf
       omega)
    | (intro j p hj hf
       have hj : j < 3 := hj
       have hf : (if j < 3 then some (17 + j) else none) = some p := hf
       rw [if_pos hj] at hf
       cases hf
       omega)
    | (intro v hv
       simp only [List.mem_cons, List.not_mem_nil, or_false] at hv
       rcases hv with rfl | rfl | rfl | rfl | rfl | rfl | rfl | rfl <;> first | rfl | exact mV1_b (by omega))
    | (intro v hv
       simp only [List.mem_cons, List.not_mem_nil, or_false] at hv
       rcases hv with rfl | rfl | rfl | rfl | rfl | rfl <;> first | rfl | exact mV1_b (by omega))
    | (intro v hv
       simp only [List.mem_cons, List.not_mem_nil, or_false] at hv
       rcases hv with rfl | rfl | rfl | rfl | rfl <;> first | rfl | exact mV1_b (by omega))
    | (intro v hv
       simp only [List.mem_cons, List.not_mem_nil, or_false] at hv
       rcases hv with rfl | rfl | rfl <;> first | rfl | exact mV1_b (by omega))
theorem kv_cl : ∀ c, c ∈ KB 21 42 aRg k V → mCell 252 c.2 := by
  intro c hc
  rcases List.mem_append.mp hc with hc | hc
  · exact kn_cl k c hc
  · obtain ⟨x, hx, hc⟩ := List.mem_flatten.mp hc
    simp only [bL, List.mem_cons, List.not_mem_nil, or_false] at hx
    rcases hx with rfl | rfl | rfl | rfl | rfl | rfl | rfl | rfl | rfl | rfl | rfl <;> exact wk_cl (by omega) _ c hc
theorem s0_cl (c : aE) : (true, c) ∉ aS0 sn sf := by
  intro h
  simp [aS0, aRo] at h
theorem at_cl (A : KAt sn sf k V H) (hE : mPl E) : mCl (H ++ E) := by
  obtain ⟨u, I, h8, hl, hs⟩ := A
  have hu : ∀ q, q < 252 → u q < 252 := fun q hq => by rw [← hl]; exact I.lt (List.getElem?_eq_getElem (show q < (KV sn sf k V).length by rw [KV_len]; exact hq))
  intro j e hj
  rw [List.length_append, hl]
  by_cases h : j < 252
  · rw [List.getElem?_append_left (by omega)] at hj
    obtain ⟨q, hq, rfl⟩ := hs j h
    obtain ⟨c, hc⟩ : ∃ c, (KV sn sf k V)[q]? = some c := ⟨_, List.getElem?_eq_getElem (show q < (KV sn sf k V).length by rw [KV_len]; exact hq)⟩
    rw [I.1 q c hc] at hj
    obtain ⟨w, x⟩ := c
    have ew : w = true := congrArg (fun z : Option aC => match z with | some (b, _) => b | none => true) hj
    subst ew
    have hx : mCell 252 x := by
      rcases List.mem_append.mp (List.mem_of_getElem? hc) with hm | hm
      · exact absurd hm (s0_cl x)
      · exact kv_cl _ hm
    refine mCell_le (Nat.le_add_right 252 E.length) ?_
    rcases x with ⟨ty, m, x⟩ | ⟨ci, fs⟩
    · rcases x with f | f | f | f | f <;> cases hj
      · trivial
      · trivial
      · trivial
      · trivial
      · intro i p hi hf
        have hf : (f i).map u = some p := hf
        cases hq : f i with
        | none => rw [hq] at hf; cases hf
        | some p0 =>
          rw [hq] at hf
          cases hf
          exact hu p0 (hx i p0 hi hq)
    · cases hj
      intro v hv
      obtain ⟨v0, hv0, rfl⟩ := List.mem_map.mp hv
      have := hx v0 hv0
      cases v0 with
      | ref p => exact decide_eq_true (hu p (of_decide_eq_true this))
      | _ => rfl
  · rw [List.getElem?_append_right (by omega)] at hj
    rcases hE _ (List.mem_of_getElem? hj) with ⟨n, f, q⟩ | ⟨n, f, q⟩ <;> (cases q; trivial)
end KAS
