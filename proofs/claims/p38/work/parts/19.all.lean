/-! ONE STEP IS SOUND: all instructions -/
theorem aP1_ex {st : List Value} {f : Int32 → List Value → Option (aS ⊕ aR)} {z : aS ⊕ aR} (h : aP1 st f = some z) : ∃ x r, st = .int x :: r ∧ f x r = some z := by
  unfold aP1 at h
  split at h
  · exact ⟨_, _, rfl, h⟩
  · cases h
theorem aP2_ex {st : List Value} {f : Int32 → Int32 → List Value → Option (aS ⊕ aR)} {z : aS ⊕ aR} (h : aP2 st f = some z) : ∃ x y r, st = .int y :: .int x :: r ∧ f x y r = some z := by
  unfold aP2 at h
  split at h
  · exact ⟨_, _, _, rfl, h⟩
  · cases h
theorem aPr_ex {st : List Value} {f : Nat → List Value → Option (aS ⊕ aR)} {z : aS ⊕ aR} (h : aPr st f = some z) : ∃ x r, st = .ref x :: r ∧ f x r = some z := by
  unfold aPr at h
  split at h
  · exact ⟨_, _, rfl, h⟩
  · cases h
theorem aPir_ex {st : List Value} {f : Int32 → Nat → List Value → Option (aS ⊕ aR)} {z : aS ⊕ aR} (h : aPir st f = some z) : ∃ i q r, st = .int i :: .ref q :: r ∧ f i q r = some z := by
  unfold aPir at h
  split at h
  · exact ⟨_, _, _, rfl, h⟩
  · cases h
theorem aPvir_ex {st : List Value} {f : Value → Int32 → Nat → List Value → Option (aS ⊕ aR)} {z : aS ⊕ aR} (h : aPvir st f = some z) : ∃ x i q r, st = x :: .int i :: .ref q :: r ∧ f x i q r = some z := by
  unfold aPvir at h
  split at h
  · exact ⟨_, _, _, _, rfl, h⟩
  · cases h
theorem aOb_ex {h : aH} {q : Nat} {f : Bool → Nat → List Value → Option (aS ⊕ aR)} {z : aS ⊕ aR} (g : aOb h q f = some z) : ∃ w ci fs, h[q]? = some (w, .inr (ci, fs)) ∧ f w ci fs = some z := by
  unfold aOb at g
  split at g
  · rename_i hq
    exact ⟨_, _, _, hq, g⟩
  · cases g
theorem aAr_ex {h : aH} {q : Nat} {f : Bool → FieldType → vp_A → Option (aS ⊕ aR)} {z : aS ⊕ aR} (g : aAr h q f = some z) : ∃ w ty x, h[q]? = some (w, .inl (ty, x)) ∧ f w ty x = some z := by
  unfold aAr at g
  split at g
  · rename_i hq
    exact ⟨_, _, _, hq, g⟩
  · cases g
theorem aAt_ex {i : Int32} {n : Nat} {f : Nat → Option (aS ⊕ aR)} {z : aS ⊕ aR} (g : aAt i n f = some z) : ∃ j, aIx i n = some j ∧ f j = some z := by
  unfold aAt at g
  split at g
  · rename_i hq
    exact ⟨_, hq, g⟩
  · cases g
theorem aTk_in {ty : FieldType} (h : aTk ty = true) : ty ∈ aTys := by
  unfold aTk at h
  split at h
  · simp
  · simp
  · simp
  · rename_i n
    rw [eq_of_beq h]
    simp
  · simp
  · cases h
section STA
variable {p : Program} {l : Launch} {e : Env} {R : Room} {s : State} {m : MethodId} {args : Array Value} {below : List Frame} {meth : Method} {c : Code} {D : va_G} {ka : FieldType → ClassId} {sg : Nat → Nat} {A : Nat → Prop} {nL o d : Nat} {cc : ByteArray} {al ini : Bool} {call : aF} {hd : aD} {cd : List aI} {rt : Option FieldType} {hh : List (Nat × Nat × Nat × Nat)}
variable {pc : Nat} {ls : List (Option Value)} {st r : List Value} {h : aH} {k : aK} {x y : Int32} {z : aS ⊕ aR}
theorem a_str {H : Heap} {q ci : Nat} {w : Bool} {fs : List Value} (h1 : aRel D ka sg A s h H) (hq : h[q]? = some (w, .inr (ci, fs))) (hc : 90 ≤ ci) : ∃ v, jStr ci (sg q) v A s H := by
  have h2 := h1.1 q _ hq
  cases w with
  | false => exact h2 hc
  | true =>
    obtain ⟨-, r, hr, -⟩ := h2
    have := (aCl_ok ci r hr).2.2.2
    omega
theorem g_text (B : aBd p l R s m args meth c D ka sg A nL o d cc al ini call hd cd rt hh) {idx a : Nat} (hdg : decode cc pc = .ok (.invokevirtual idx, 3)) (ha : (a = 503 ∧ aL4 o idx 10 503 = true) ∨ (a = 505 ∧ aL4 o idx 11 505 = true)) (hz : aText a pc ls st h k = some z) : aGl p l e R s m args below meth c D ka sg A nL al (pc, ls, st, h, k) z := by
  have C := B.1
  rcases ha with ⟨rfl, hL⟩ | ⟨rfl, hL⟩
  · obtain ⟨p9, hp⟩ := aL4_ok hL
    obtain ⟨i, q, r, he, hz1⟩ := aPir_ex hz
    clear hz
    subst he
    have hz := hz1
    clear hz1
    split at hz
    · rename_i hs
      obtain ⟨w, ci, fs, hq, hz1⟩ := aOb_ex hz
      clear hz
      have hz := hz1
      clear hz1
      split at hz
      · rename_i hc
        obtain ⟨j, hj, hz1⟩ := aAt_ex hz
        have hin : vp_in i (aStr ci).length ∧ j = i.toNatClampNeg := by
          unfold aIx at hj
          split at hj
          · cases hj
          · rename_i hn
            cases hj
            exact ⟨hn, rfl⟩
        obtain ⟨hin, rfl⟩ := hin
        refine aGl.go hz1 ⟨Nat.le_refl _, Nat.le_refl _⟩ (fun g1 g2 Q K H locs L h1 h2 h3 h4 => ?_)
        obtain ⟨v, hv⟩ := a_str h1 hq hc.1
        exact j_callV (vs := [.int i]) (rest := r.map (aCv sg)) C.1 C.2.1 C.2.2.1 C.2.2.2.1 C.2.2.2.2.1 hv h2 (j_chr hc hin) rfl jmChr (aIs_in hp) ji_Chr.1 ji_Chr.2 ⟨by have := B.2.1.1; omega, by have := B.2.1.2; omega⟩ rfl h3.1 (by rw [a_sum]; exact hs) ⟨g1, g2⟩ hdg (K H locs L h1 h2 h3 h4)
      · cases hz
    · cases hz
  · obtain ⟨p9, hp⟩ := aL4_ok hL
    obtain ⟨q, r, he, hz1⟩ := aPr_ex hz
    clear hz
    subst he
    have hz := hz1
    clear hz1
    split at hz
    · rename_i hs
      obtain ⟨w, ci, fs, hq, hz1⟩ := aOb_ex hz
      clear hz
      have hz := hz1
      clear hz1
      split at hz
      · rename_i hc
        refine aGl.go hz ⟨Nat.le_refl _, Nat.le_refl _⟩ (fun g1 g2 Q K H locs L h1 h2 h3 h4 => ?_)
        obtain ⟨v, hv⟩ := a_str h1 hq hc.1
        exact j_callV (vs := []) (rest := r.map (aCv sg)) C.1 C.2.1 C.2.2.1 C.2.2.2.1 C.2.2.2.2.1 hv h2 j_len rfl jmLen (aIs_in hp) ji_Len.1 ji_Len.2 ⟨by have := B.2.1.1; omega, by have := B.2.1.2; omega⟩ rfl h3.1 (by rw [a_sum]; exact hs) ⟨g1, g2⟩ hdg (K H locs L h1 h2 h3 h4)
      · cases hz
    · cases hz
theorem e_thrown3 (B : aBd p l R s m args meth c D ka sg A nL o d cc al ini call hd cd rt hh) {idx b : Nat} {v : Int32} (h7 : o = 7) (hal : al = false) (h0 : hd = []) (hs : aSum st ≤ 8) (hN : aN3 o idx 103 = true) (hT : aThw cc pc 103 b v = true) (hdg : decode cc pc = .ok (.new idx, 3)) (hc : k.1 + 1 ≤ R.cells) (hsl : k.2 + 6 ≤ R.slots) : aSim p l e R s m args below meth c (aEq below D ka sg A al args s (.inr 3, h, (k.1 + 1, k.2 + 6))) D ka sg A nL al (pc, ls, st, h, k) := by
  obtain ⟨-, -, n1, n2⟩ := aN3_ex hN (by decide)
  have C := B.1
  subst h7
  unfold aThw at hT
  simp only [Bool.and_eq_true] at hT
  obtain ⟨-, t2, t3, t4⟩ := hT
  obtain ⟨⟨i9, tx⟩, hq1, hq2⟩ := List.any_eq_true.mp t2
  obtain rfl : i9 = b := eq_of_beq hq2
  by_cases hv : v = 0
  · rw [if_pos hv] at t4
    simp only [Bool.and_eq_true] at t4
    exact e_throw3 (n := 2) C hal n1 n2 hq1 (by have := B.2.1.1; omega) (by have := B.2.1.2; omega) hc hsl hs B.2.2.2.2.1 (B.out h0) hdg (aD1 t3 rfl) (Or.inl ⟨rfl, aD2 t4.1 rfl⟩) (aD3 t4.2.1 rfl) (aD1 t4.2.2 rfl)
  · rw [if_neg hv] at t4
    simp only [Bool.and_eq_true] at t4
    exact e_throw3 (n := 3) C hal n1 n2 hq1 (by have := B.2.1.1; omega) (by have := B.2.1.2; omega) hc hsl hs B.2.2.2.2.1 (B.out h0) hdg (aD1 t3 rfl) (Or.inr ⟨rfl, aD3 t4.1 rfl⟩) (aD3 t4.2.1 rfl) (aD1 t4.2.2 rfl)
theorem g_thrown (B : aBd p l R s m args meth c D ka sg A nL o d cc al ini call hd cd rt hh) {idx a b : Nat} {v : Int32} (h7 : o = 7) (ha : 100 ≤ a) (hal : al = false) (h0 : hd = []) (hs : aSum st ≤ 8) (hN : aN3 o idx a = true) (hT : aThw cc pc a b v = true) (hdg : decode cc pc = .ok (.new idx, 3)) : aGl p l e R s m args below meth c D ka sg A nL al (pc, ls, st, h, k) (.inr (.inr (a - 100), h, (k.1 + 1, k.2 + 6))) := by
  refine ⟨⟨Nat.le_add_right _ _, Nat.le_add_right _ _⟩, fun g1 g2 => ?_⟩
  by_cases h3 : a = 103
  · subst h3
    exact e_thrown3 B h7 hal h0 hs hN hT hdg g1 g2
  obtain ⟨-, a6, n1, n2⟩ := aN3_ex hN ha
  have C := B.1
  subst h7
  unfold aThw at hT
  simp only [Bool.and_eq_true] at hT
  obtain ⟨-, t2, t3, t4⟩ := hT
  obtain ⟨⟨i9, tx⟩, hq1, hq2⟩ := List.any_eq_true.mp t2
  obtain rfl : i9 = b := eq_of_beq hq2
  by_cases hv : v = 0
  · rw [if_pos hv] at t4
    simp only [Bool.and_eq_true] at t4
    exact e_throwS C (by omega) (by omega) hal n1 n2 hq1 (by have := B.2.1.1; omega) (by have := B.2.1.2; omega) g1 g2 hs B.2.2.2.2.1 (B.out h0) hdg (aD1 t3 rfl) (aD2 t4.1 rfl) (aD3 t4.2.1 rfl) (aD1 t4.2.2 rfl)
  · rw [if_neg hv] at t4
    simp only [Bool.and_eq_true] at t4
    exact e_throwSW C (by omega) (by omega) hal n1 n2 hq1 (by have := B.2.1.1; omega) (by have := B.2.1.2; omega) g1 g2 hs B.2.2.2.2.1 (B.out h0) hdg (aD1 t3 rfl) (aD3 t4.1 rfl) (aD3 t4.2.1 rfl) (aD1 t4.2.2 rfl)
theorem aWp (i : Nat) (w : Cond) (h : aIs (aWpos.getD i 0) w = true) : w ∈ aWg := aIs_in h
theorem g_nat (B : aBd p l R s m args meth c D ka sg A nL o d cc al ini call hd cd rt hh) {idx a : Nat} (hdg : decode cc pc = .ok (.invokestatic idx, 3)) (ha : (a = 500 ∧ aL4 o idx 6 500 = true) ∨ ((a = 501 ∧ aL4 o idx 7 501 = true) ∨ (a = 502 ∧ aL4 o idx 8 502 = true))) (hz : aNat a pc ls st h k = some z) : aGl p l e R s m args below meth c D ka sg A nL al (pc, ls, st, h, k) z := by
  have C := B.1
  obtain ⟨w0, w1, w2, w3, w4, w5, w6, w7, -⟩ := aWpos_ok
  have hf : 1 ≤ R.frames := by have := B.2.1.1; omega
  have hlo : 100 ≤ R.locals := by have := B.2.1.2; omega
  rcases ha with ⟨rfl, hL⟩ | ⟨rfl, hL⟩ | ⟨rfl, hL⟩
  · obtain ⟨p9, hp⟩ := aL4_ok hL
    obtain ⟨x, y, r, he0, hz1⟩ := aP2_ex hz
    clear hz
    subst he0
    have hz := hz1
    split at hz
    · rename_i hs
      exact aGl.go hz ⟨Nat.le_refl _, Nat.le_refl _⟩ (fun g1 g2 Q K => s_max C (aIs_in hp) (aIs_in w0) (aIs_in w4) (aIs_in w1) hf hlo hs g1 g2 hdg K)
    · cases hz
  · obtain ⟨p9, hp⟩ := aL4_ok hL
    obtain ⟨x, y, r, he0, hz1⟩ := aP2_ex hz
    clear hz
    subst he0
    have hz := hz1
    split at hz
    · rename_i hs
      exact aGl.go hz ⟨Nat.le_refl _, Nat.le_refl _⟩ (fun g1 g2 Q K => s_min C (aIs_in hp) (aIs_in w2) (aIs_in w4) (aIs_in w3) hf hlo hs g1 g2 hdg K)
    · cases hz
  · obtain ⟨p9, hp⟩ := aL4_ok hL
    have hz1 : (match (generalizing := false) st with
      | .int n :: .int dp :: .ref d :: .int sp :: .ref q :: r =>
        if n < 0 ∨ dp < 0 ∨ sp < 0 ∨ 8 < aSum r then none else
        aAr h q fun w0 ty0 x0 => aAr h d fun w1 ty1 x1 => match x0.2, x1.2 with
          | .inl f, .inl g => if w0 = true ∧ w1 = true ∧ ty0 = .int ∧ ty1 = .int ∧ sp.toNatClampNeg + n.toNatClampNeg ≤ x0.1 ∧ dp.toNatClampNeg + n.toNatClampNeg ≤ x1.1 then
              aGo (pc + 3) ls r (h.set d (true, .inl (.int, x1.1, .inl (va_cpy f g sp.toNatClampNeg dp.toNatClampNeg n.toNatClampNeg)))) k else none
          | _, _ => none
      | _ => none) = some z := hz
    clear hz
    have hz := hz1
    clear hz1
    split at hz
    · split at hz
      · cases hz
      rename_i hn
      simp only [not_or, Nat.not_lt] at hn
      obtain ⟨n1, n2, n3, n4⟩ := hn
      obtain ⟨wq, ty0, x0, q1, hz⟩ := aAr_ex hz
      obtain ⟨wd, ty1, x1, q2, hz⟩ := aAr_ex hz
      split at hz
      · rename_i f g f1 f2
        split at hz
        · rename_i hc
          obtain ⟨rfl, rfl, rfl, rfl, c1, c2⟩ := hc
          obtain ⟨n0, x0⟩ := x0
          obtain ⟨m0, x1⟩ := x1
          dsimp only at f1 f2 c1 c2
          subst f1
          subst f2
          exact aGl.go hz ⟨Nat.le_refl _, Nat.le_refl _⟩ (fun g1 g2 Q K => s_copy C (aIs_in hp) (aIs_in w5) (aIs_in w6) (aIs_in w7) hf hlo n4 q1 q2 n3 n2 n1 c1 c2 hdg K)
        · cases hz
      · cases hz
    · cases hz
theorem g_step (B : aBd p l R s m args meth c D ka sg A nL o d cc al ini call hd cd rt hh) {i : Instr} {a b : Nat} {v : Int32} (hok : aOkI o ini cc pc i a b v = true) (hz : aEx call aCls hd cd rt al i a b v pc ls st h k = some z) : aGl p l e R s m args below meth c D ka sg A nL al (pc, ls, st, h, k) z := by
  have C := B.1
  have hf7 := B.2.1.1
  have hl7 := B.2.1.2
  cases i with
  | iconst n =>
    obtain ⟨h1, h2⟩ := (Bool.and_eq_true _ _).mp hok
    exact aGl.go hz ⟨Nat.le_refl _, Nat.le_refl _⟩ (fun g1 g2 Q K => s_iconst C (of_decide_eq_true h2) (aD1 h1 rfl) K)
  | bipush n =>
    obtain ⟨h1, h2⟩ := (Bool.and_eq_true _ _).mp hok
    exact aGl.go hz ⟨Nat.le_refl _, Nat.le_refl _⟩ (fun g1 g2 Q K => s_bipush C (of_decide_eq_true h2) (aD2 h1 rfl) K)
  | sipush n =>
    obtain ⟨h1, h2⟩ := (Bool.and_eq_true _ _).mp hok
    exact aGl.go hz ⟨Nat.le_refl _, Nat.le_refl _⟩ (fun g1 g2 Q K => s_sipush C (of_decide_eq_true h2) (aD3 h1 rfl) K)
  | ldc idx =>
    obtain ⟨h1, h2⟩ := (Bool.and_eq_true _ _).mp hok
    simp only [Bool.and_eq_true, Bool.or_eq_true, beq_iff_eq, bne_iff_ne, ne_eq] at h2
    unfold aEx at hz
    dsimp only at hz
    rcases h2 with ⟨rfl, h2⟩ | ⟨hb9, rfl, rfl, rfl⟩
    · rw [if_pos rfl] at hz
      exact aGl.go hz ⟨Nat.le_refl _, Nat.le_refl _⟩ (fun g1 g2 Q K => s_ldci C (aI4t_ok h2) (aD2 h1 rfl) K)
    · split at hz
      · rename_i hb1
        exact absurd hb1 hb9
      · split at hz
        · split at hz
          · exact aGl.go hz ⟨Nat.le_refl _, Nat.le_refl _⟩ (fun g1 g2 Q K => s_ldc C C.2.2.2.2.2.1.1.2.2.2.2.2.1 (aD2 h1 rfl) K)
          · cases hz
        · cases hz
  | ldc2_w idx =>
    obtain ⟨h1, h2⟩ := (Bool.and_eq_true _ _).mp hok
    exact aGl.go hz ⟨Nat.le_refl _, Nat.le_refl _⟩ (fun g1 g2 Q K => s_ldc2 C (aJ4t_ok h2) (aD3 h1 rfl) K)
  | lload_n n =>
    unfold aEx at hz
    dsimp only at hz
    split at hz
    · rename_i hl
      exact aGl.go hz ⟨Nat.le_refl _, Nat.le_refl _⟩ (fun g1 g2 Q K => s_lload_n C hl (aD1 hok rfl) K)
    · cases hz
  | lstore_n n =>
    unfold aEx at hz
    dsimp only at hz
    split at hz
    · split at hz
      · rename_i hm
        exact aGl.go hz ⟨Nat.le_refl _, Nat.le_refl _⟩ (fun g1 g2 Q K => s_lstore_n C hm.1 hm.2 (aD1 hok rfl) K)
      · cases hz
    · cases hz
  | ladd =>
    unfold aEx at hz
    dsimp only at hz
    split at hz
    · exact aGl.go hz ⟨Nat.le_refl _, Nat.le_refl _⟩ (fun g1 g2 Q K => s_ladd C (aD1 hok rfl) K)
    · cases hz
  | lmul =>
    unfold aEx at hz
    dsimp only at hz
    split at hz
    · exact aGl.go hz ⟨Nat.le_refl _, Nat.le_refl _⟩ (fun g1 g2 Q K => s_lmul C (aD1 hok rfl) K)
    · cases hz
  | iushr =>
    obtain ⟨x, y, r, he0, hz1⟩ := aP2_ex hz
    clear hz
    subst he0
    have hz := hz1
    exact aGl.go hz ⟨Nat.le_refl _, Nat.le_refl _⟩ (fun g1 g2 Q K => s_iushr C (aD1 hok rfl) K)
  | ifnull off =>
    obtain ⟨q, r, he0, hz1⟩ := aPr_ex hz
    clear hz
    subst he0
    have hz := hz1
    exact aGl.go hz ⟨Nat.le_refl _, Nat.le_refl _⟩ (fun g1 g2 Q K => s_ifnull C (aD3 hok rfl) K)
  | iload_n n =>
    unfold aEx at hz
    dsimp only at hz
    split at hz
    · rename_i hl
      exact aGl.go hz ⟨Nat.le_refl _, Nat.le_refl _⟩ (fun g1 g2 Q K => s_iload_n C hl (aD1 hok rfl) K)
    · cases hz
  | iload n =>
    unfold aEx at hz
    dsimp only at hz
    split at hz
    · rename_i hl
      exact aGl.go hz ⟨Nat.le_refl _, Nat.le_refl _⟩ (fun g1 g2 Q K => s_iload C hl (aD2 hok rfl) K)
    · cases hz
  | aload_n n =>
    unfold aEx at hz
    dsimp only at hz
    split at hz
    · rename_i hl
      exact aGl.go hz ⟨Nat.le_refl _, Nat.le_refl _⟩ (fun g1 g2 Q K => s_aload_n C hl (aD1 hok rfl) K)
    · cases hz
  | aload n =>
    unfold aEx at hz
    dsimp only at hz
    split at hz
    · rename_i hl
      exact aGl.go hz ⟨Nat.le_refl _, Nat.le_refl _⟩ (fun g1 g2 Q K => s_aload C hl (aD2 hok rfl) K)
    · cases hz
  | fload n =>
    unfold aEx at hz
    dsimp only at hz
    split at hz
    · rename_i hl
      exact aGl.go hz ⟨Nat.le_refl _, Nat.le_refl _⟩ (fun g1 g2 Q K => s_fload C hl (aD2 hok rfl) K)
    · cases hz
  | dload n =>
    unfold aEx at hz
    dsimp only at hz
    split at hz
    · rename_i hl
      exact aGl.go hz ⟨Nat.le_refl _, Nat.le_refl _⟩ (fun g1 g2 Q K => s_dload C hl (aD2 hok rfl) K)
    · cases hz
  | istore_n n =>
    obtain ⟨x, r, he0, hz1⟩ := aP1_ex hz
    clear hz
    subst he0
    have hz := hz1
    split at hz
    · rename_i hm
      exact aGl.go hz ⟨Nat.le_refl _, Nat.le_refl _⟩ (fun g1 g2 Q K => s_istore_n C hm (aD1 hok rfl) K)
    · cases hz
  | istore n =>
    obtain ⟨x, r, he0, hz1⟩ := aP1_ex hz
    clear hz
    subst he0
    have hz := hz1
    split at hz
    · rename_i hm
      exact aGl.go hz ⟨Nat.le_refl _, Nat.le_refl _⟩ (fun g1 g2 Q K => s_istore C hm (aD2 hok rfl) K)
    · cases hz
  | astore_n n =>
    obtain ⟨x, r, he0, hz1⟩ := aPr_ex hz
    clear hz
    subst he0
    have hz := hz1
    split at hz
    · rename_i hm
      exact aGl.go hz ⟨Nat.le_refl _, Nat.le_refl _⟩ (fun g1 g2 Q K => s_astore_n C hm (aD1 hok rfl) K)
    · cases hz
  | astore n =>
    obtain ⟨x, r, he0, hz1⟩ := aPr_ex hz
    clear hz
    subst he0
    have hz := hz1
    split at hz
    · rename_i hm
      exact aGl.go hz ⟨Nat.le_refl _, Nat.le_refl _⟩ (fun g1 g2 Q K => s_astore C hm (aD2 hok rfl) K)
    · cases hz
  | fstore n =>
    unfold aEx at hz
    dsimp only at hz
    split at hz
    · split at hz
      · rename_i hm
        exact aGl.go hz ⟨Nat.le_refl _, Nat.le_refl _⟩ (fun g1 g2 Q K => s_fstore C hm (aD2 hok rfl) K)
      · cases hz
    · cases hz
  | dstore n =>
    unfold aEx at hz
    dsimp only at hz
    split at hz
    · split at hz
      · rename_i hm
        exact aGl.go hz ⟨Nat.le_refl _, Nat.le_refl _⟩ (fun g1 g2 Q K => s_dstore C hm.1 hm.2 (aD2 hok rfl) K)
      · cases hz
    · cases hz
  | iinc n w =>
    obtain ⟨h1, h2⟩ := (Bool.and_eq_true _ _).mp hok
    unfold aEx at hz
    dsimp only at hz
    split at hz
    · rename_i hl
      split at hz
      · rename_i hm
        exact aGl.go hz ⟨Nat.le_refl _, Nat.le_refl _⟩ (fun g1 g2 Q K => s_iinc C (of_decide_eq_true h2) hl hm (aD3 h1 rfl) K)
      · cases hz
    · cases hz
  | iadd =>
    obtain ⟨x, y, r, he0, hz1⟩ := aP2_ex hz
    clear hz
    subst he0
    have hz := hz1
    exact aGl.go hz ⟨Nat.le_refl _, Nat.le_refl _⟩ (fun g1 g2 Q K => s_iadd C (aD1 hok rfl) K)
  | isub =>
    obtain ⟨x, y, r, he0, hz1⟩ := aP2_ex hz
    clear hz
    subst he0
    have hz := hz1
    exact aGl.go hz ⟨Nat.le_refl _, Nat.le_refl _⟩ (fun g1 g2 Q K => s_isub C (aD1 hok rfl) K)
  | imul =>
    obtain ⟨x, y, r, he0, hz1⟩ := aP2_ex hz
    clear hz
    subst he0
    have hz := hz1
    exact aGl.go hz ⟨Nat.le_refl _, Nat.le_refl _⟩ (fun g1 g2 Q K => s_imul C (aD1 hok rfl) K)
  | iand =>
    obtain ⟨x, y, r, he0, hz1⟩ := aP2_ex hz
    clear hz
    subst he0
    have hz := hz1
    exact aGl.go hz ⟨Nat.le_refl _, Nat.le_refl _⟩ (fun g1 g2 Q K => s_iand C (aD1 hok rfl) K)
  | idiv =>
    obtain ⟨x, y, r, he0, hz1⟩ := aP2_ex hz
    clear hz
    subst he0
    have hz := hz1
    split at hz
    · cases hz
    · rename_i hn
      exact aGl.go hz ⟨Nat.le_refl _, Nat.le_refl _⟩ (fun g1 g2 Q K => s_idiv C hn (aD1 hok rfl) K)
  | irem =>
    obtain ⟨x, y, r, he0, hz1⟩ := aP2_ex hz
    clear hz
    subst he0
    have hz := hz1
    split at hz
    · cases hz
    · rename_i hn
      exact aGl.go hz ⟨Nat.le_refl _, Nat.le_refl _⟩ (fun g1 g2 Q K => s_irem C hn (aD1 hok rfl) K)
  | i2l =>
    obtain ⟨x, r, he0, hz1⟩ := aP1_ex hz
    clear hz
    subst he0
    have hz := hz1
    exact aGl.go hz ⟨Nat.le_refl _, Nat.le_refl _⟩ (fun g1 g2 Q K => s_i2l C (aD1 hok rfl) K)
  | i2c =>
    obtain ⟨x, r, he0, hz1⟩ := aP1_ex hz
    clear hz
    subst he0
    have hz := hz1
    exact aGl.go hz ⟨Nat.le_refl _, Nat.le_refl _⟩ (fun g1 g2 Q K => s_i2c C (aD1 hok rfl) K)
  | i2f =>
    obtain ⟨x, r, he0, hz1⟩ := aP1_ex hz
    clear hz
    subst he0
    have hz := hz1
    exact aGl.go hz ⟨Nat.le_refl _, Nat.le_refl _⟩ (fun g1 g2 Q K => s_i2f C (aD1 hok rfl) K)
  | i2d =>
    obtain ⟨x, r, he0, hz1⟩ := aP1_ex hz
    clear hz
    subst he0
    have hz := hz1
    exact aGl.go hz ⟨Nat.le_refl _, Nat.le_refl _⟩ (fun g1 g2 Q K => s_i2d C (aD1 hok rfl) K)
  | f2d =>
    unfold aEx at hz
    dsimp only at hz
    split at hz
    · split at hz
      · rename_i hn
        exact aGl.go hz ⟨Nat.le_refl _, Nat.le_refl _⟩ (fun g1 g2 Q K => s_f2d C hn (aD1 hok rfl) K)
      · cases hz
    · cases hz
  | fdiv =>
    unfold aEx at hz
    dsimp only at hz
    split at hz
    · split at hz
      · rename_i hn
        exact aGl.go hz ⟨Nat.le_refl _, Nat.le_refl _⟩ (fun g1 g2 Q K => s_fdiv C hn (aD1 hok rfl) K)
      · cases hz
    · cases hz
  | ddiv =>
    unfold aEx at hz
    dsimp only at hz
    split at hz
    · split at hz
      · rename_i hn
        exact aGl.go hz ⟨Nat.le_refl _, Nat.le_refl _⟩ (fun g1 g2 Q K => s_ddiv C hn (aD1 hok rfl) K)
      · cases hz
    · cases hz
  | fconst n =>
    unfold aEx at hz
    dsimp only at hz
    split at hz
    · rename_i hn
      subst hn
      exact aGl.go hz ⟨Nat.le_refl _, Nat.le_refl _⟩ (fun g1 g2 Q K => s_fconst C (aD1 hok rfl) K)
    · cases hz
  | dconst n =>
    unfold aEx at hz
    dsimp only at hz
    split at hz
    · rename_i hn
      subst hn
      exact aGl.go hz ⟨Nat.le_refl _, Nat.le_refl _⟩ (fun g1 g2 Q K => s_dconst C (aD1 hok rfl) K)
    · cases hz
  | lcmp =>
    unfold aEx at hz
    dsimp only at hz
    split at hz
    · exact aGl.go hz ⟨Nat.le_refl _, Nat.le_refl _⟩ (fun g1 g2 Q K => s_lcmp C (aD1 hok rfl) K)
    · cases hz
  | fcmp op =>
    unfold aEx at hz
    dsimp only at hz
    split at hz
    · exact aGl.go hz ⟨Nat.le_refl _, Nat.le_refl _⟩ (fun g1 g2 Q K => s_fcmp C (aD1 hok rfl) K)
    · cases hz
  | dcmp op =>
    unfold aEx at hz
    dsimp only at hz
    split at hz
    · exact aGl.go hz ⟨Nat.le_refl _, Nat.le_refl _⟩ (fun g1 g2 Q K => s_dcmp C (aD1 hok rfl) K)
    · cases hz
  | dup =>
    unfold aEx at hz
    dsimp only at hz
    split at hz
    · split at hz
      · rename_i hc
        exact aGl.go hz ⟨Nat.le_refl _, Nat.le_refl _⟩ (fun g1 g2 Q K => s_dup C hc (aD1 hok rfl) K)
      · cases hz
    · cases hz
  | dup2 =>
    unfold aEx at hz
    dsimp only at hz
    split at hz
    · split at hz
      · rename_i hc
        exact aGl.go hz ⟨Nat.le_refl _, Nat.le_refl _⟩ (fun g1 g2 Q K => s_dup2 C hc.1 hc.2 (aD1 hok rfl) K)
      · cases hz
    · cases hz
  | ifCond q off =>
    obtain ⟨h1, h2⟩ := (Bool.and_eq_true _ _).mp hok
    obtain ⟨x, r, he0, hz1⟩ := aP1_ex hz
    clear hz
    subst he0
    have hz := hz1
    exact aGl.go hz ⟨Nat.le_refl _, Nat.le_refl _⟩ (fun g1 g2 Q K => s_if C (of_decide_eq_true h2) (aD3 h1 rfl) K)
  | if_icmp q off =>
    obtain ⟨h1, h2⟩ := (Bool.and_eq_true _ _).mp hok
    obtain ⟨x, y, r, he0, hz1⟩ := aP2_ex hz
    clear hz
    subst he0
    have hz := hz1
    exact aGl.go hz ⟨Nat.le_refl _, Nat.le_refl _⟩ (fun g1 g2 Q K => s_icmp C (of_decide_eq_true h2) (aD3 h1 rfl) K)
  | goto off =>
    obtain ⟨h1, h2⟩ := (Bool.and_eq_true _ _).mp hok
    exact aGl.go hz ⟨Nat.le_refl _, Nat.le_refl _⟩ (fun g1 g2 Q K => s_goto C (of_decide_eq_true h2) (aD3 h1 rfl) K)
  | tableswitch dflt lo hi offs =>
    obtain ⟨h1, h2⟩ := (Bool.and_eq_true _ _).mp hok
    obtain ⟨n, hdg, -⟩ := aDec_ex h1
    obtain ⟨x, r, he0, hz1⟩ := aP1_ex hz
    clear hz
    subst he0
    have hz := hz1
    split at hz
    · rename_i ho
      exact aGl.go hz ⟨Nat.le_refl _, Nat.le_refl _⟩ (fun g1 g2 Q K => s_tableOut C ho (of_decide_eq_true h2) hdg K)
    · rename_i ho
      split at hz
      · rename_i hq
        split at hz
        · rename_i ht
          exact aGl.go hz ⟨Nat.le_refl _, Nat.le_refl _⟩ (fun g1 g2 Q K => s_tableIn C ho hq ht hdg K)
        · cases hz
      · cases hz
  | lookupswitch dflt ps =>
    obtain ⟨h1, h2⟩ := (Bool.and_eq_true _ _).mp hok
    obtain ⟨n, hdg, -⟩ := aDec_ex h1
    obtain ⟨x, r, he0, hz1⟩ := aP1_ex hz
    clear hz
    subst he0
    have hz := hz1
    split at hz
    · rename_i ht
      exact aGl.go hz ⟨Nat.le_refl _, Nat.le_refl _⟩ (fun g1 g2 Q K => s_lookup C h2 ht hdg K)
    · cases hz
  | getfield idx =>
    obtain ⟨h1, h2⟩ := (Bool.and_eq_true _ _).mp hok
    obtain ⟨rc, f1, f2, f3⟩ := aF4_ok h2
    obtain ⟨q, r, he0, hz1⟩ := aPr_ex hz
    clear hz
    subst he0
    obtain ⟨w, ci, fs, hq, hz2⟩ := aOb_ex hz1
    clear hz1
    split at hz2
    · rename_i hc
      obtain ⟨rfl, rfl⟩ := hc
      split at hz2
      · rename_i hv
        exact aGl.go hz2 ⟨Nat.le_refl _, Nat.le_refl _⟩ (fun g1 g2 Q K => s_getfield C hq f1 f2 f3 hv (aD3 h1 rfl) K)
      · cases hz2
    · cases hz2
  | putfield idx =>
    obtain ⟨h1, h2⟩ := (Bool.and_eq_true _ _).mp hok
    obtain ⟨h2, h3⟩ := (Bool.and_eq_true _ _).mp h2
    obtain ⟨rc, f1, f2, f3⟩ := aF4_ok h2
    rw [f1] at h3
    have hfin : (rc.2.1 b).2.2.2 = false ∨ (meth.name = "<init>" ∧ (rc.2.1 b).1 = aOwn o) := by
      have h4 := (Bool.or_eq_true _ _).mp h3
      rcases h4 with h4 | h4
      · exact Or.inl (by simpa using h4)
      · obtain ⟨g1, g2⟩ := (Bool.and_eq_true _ _).mp h4
        exact Or.inr ⟨B.2.2.1 g1, of_decide_eq_true g2⟩
    unfold aEx at hz
    dsimp only at hz
    split at hz
    · obtain ⟨w, ci, fs, hq, hz2⟩ := aOb_ex hz
      clear hz
      split at hz2
      · rename_i hc
        obtain ⟨rfl, rfl, c3, c4⟩ := hc
        exact aGl.go hz2 ⟨Nat.le_refl _, Nat.le_refl _⟩ (fun g1 g2 Q K => s_putfield C hq f1 f2 f3 hfin c4 c3 (aD3 h1 rfl) K)
      · cases hz2
    · cases hz
  | getstatic idx =>
    obtain ⟨h1, h2⟩ := (Bool.and_eq_true _ _).mp hok
    obtain ⟨f1, f2 | f2⟩ := aG3_ok h2
    · exact aGl.go hz ⟨Nat.le_refl _, Nat.le_refl _⟩ (fun g1 g2 Q K => s_getstaticN C f1 f2 (aD3 h1 rfl) K)
    · exact aGl.go hz ⟨Nat.le_refl _, Nat.le_refl _⟩ (fun g1 g2 Q K => s_getstatic C f1 f2 (aD3 h1 rfl) K)
  | iaload =>
    obtain ⟨i, q, r, he0, hz1⟩ := aPir_ex hz
    clear hz
    subst he0
    have hz := hz1
    obtain ⟨w, ty, x, hq, hz⟩ := aAr_ex hz
    obtain ⟨n, x⟩ := x
    dsimp only at hz
    split at hz
    · obtain ⟨j, hj, hz⟩ := aAt_ex hz
      exact aGl.go hz ⟨Nat.le_refl _, Nat.le_refl _⟩ (fun g1 g2 Q K => s_iaload C hq hj (aD1 hok rfl) K)
    · cases hz
  | caload =>
    obtain ⟨i, q, r, he0, hz1⟩ := aPir_ex hz
    clear hz
    subst he0
    have hz := hz1
    obtain ⟨w, ty, x, hq, hz⟩ := aAr_ex hz
    obtain ⟨n, x⟩ := x
    dsimp only at hz
    split at hz
    · obtain ⟨j, hj, hz⟩ := aAt_ex hz
      exact aGl.go hz ⟨Nat.le_refl _, Nat.le_refl _⟩ (fun g1 g2 Q K => s_caload C hq hj (aD1 hok rfl) K)
    · cases hz
  | laload =>
    obtain ⟨i, q, r, he0, hz1⟩ := aPir_ex hz
    clear hz
    subst he0
    have hz := hz1
    obtain ⟨w, ty, x, hq, hz⟩ := aAr_ex hz
    obtain ⟨n, x⟩ := x
    dsimp only at hz
    split at hz
    · obtain ⟨j, hj, hz⟩ := aAt_ex hz
      exact aGl.go hz ⟨Nat.le_refl _, Nat.le_refl _⟩ (fun g1 g2 Q K => s_laload C hq hj (aD1 hok rfl) K)
    · cases hz
  | aaload =>
    obtain ⟨i, q, r, he0, hz1⟩ := aPir_ex hz
    clear hz
    subst he0
    have hz := hz1
    obtain ⟨w, ty, x, hq, hz⟩ := aAr_ex hz
    obtain ⟨n, x⟩ := x
    dsimp only at hz
    split at hz
    · split at hz
      · rename_i hc
        obtain ⟨rfl, c1, c2⟩ := hc
        obtain ⟨j, hj, hz⟩ := aAt_ex hz
        split at hz
        · rename_i hy
          exact aGl.go hz ⟨Nat.le_refl _, Nat.le_refl _⟩ (fun g1 g2 Q K => s_aaload C hq ⟨aTk_in c2, c1⟩ hj hy (aD1 hok rfl) K)
        · cases hz
      · cases hz
    · cases hz
  | iastore =>
    obtain ⟨x, i, q, r, he0, hz1⟩ := aPvir_ex hz
    clear hz
    subst he0
    have hz := hz1
    obtain ⟨w, ty, y, hq, hz⟩ := aAr_ex hz
    obtain ⟨n, y⟩ := y
    dsimp only at hz
    split at hz
    · split at hz
      · rename_i hc
        subst hc
        obtain ⟨j, hj, hz⟩ := aAt_ex hz
        exact aGl.go hz ⟨Nat.le_refl _, Nat.le_refl _⟩ (fun g1 g2 Q K => s_iastore C hq hj (aD1 hok rfl) K)
      · cases hz
    · cases hz
  | lastore =>
    obtain ⟨x, i, q, r, he0, hz1⟩ := aPvir_ex hz
    clear hz
    subst he0
    have hz := hz1
    obtain ⟨w, ty, y, hq, hz⟩ := aAr_ex hz
    obtain ⟨n, y⟩ := y
    dsimp only at hz
    split at hz
    · split at hz
      · rename_i hc
        subst hc
        obtain ⟨j, hj, hz⟩ := aAt_ex hz
        exact aGl.go hz ⟨Nat.le_refl _, Nat.le_refl _⟩ (fun g1 g2 Q K => s_lastore C hq hj (aD1 hok rfl) K)
      · cases hz
    · cases hz
  | castore =>
    obtain ⟨x, i, q, r, he0, hz1⟩ := aPvir_ex hz
    clear hz
    subst he0
    have hz := hz1
    obtain ⟨w, ty, y, hq, hz⟩ := aAr_ex hz
    obtain ⟨n, y⟩ := y
    dsimp only at hz
    split at hz
    · split at hz
      · rename_i hc
        obtain ⟨rfl, hc⟩ := hc
        obtain ⟨j, hj, hz⟩ := aAt_ex hz
        exact aGl.go hz ⟨Nat.le_refl _, Nat.le_refl _⟩ (fun g1 g2 Q K => s_castore C hq hc hj (aD1 hok rfl) K)
      · cases hz
    · cases hz
  | aastore =>
    obtain ⟨x, i, q, r, he0, hz1⟩ := aPvir_ex hz
    clear hz
    subst he0
    have hz := hz1
    obtain ⟨w, ty, y, hq, hz⟩ := aAr_ex hz
    obtain ⟨n, y⟩ := y
    dsimp only at hz
    split at hz
    · obtain ⟨w1, ci, fs, hy, hz2⟩ := aOb_ex hz
      clear hz
      split at hz2
      · rename_i hc
        obtain ⟨rfl, rfl, rfl, rfl⟩ := hc
        obtain ⟨j, hj, hz3⟩ := aAt_ex hz2
        exact aGl.go hz3 ⟨Nat.le_refl _, Nat.le_refl _⟩ (fun g1 g2 Q K => s_aastore C hq hy hj (aD1 hok rfl) K)
      · cases hz2
    · cases hz
  | arraylength =>
    obtain ⟨q, r, he0, hz1⟩ := aPr_ex hz
    clear hz
    subst he0
    have hz := hz1
    obtain ⟨w, ty, x, hq, hz⟩ := aAr_ex hz
    split at hz
    · rename_i ht
      exact aGl.go hz ⟨Nat.le_refl _, Nat.le_refl _⟩ (fun g1 g2 Q K => s_arraylength C hq (aTk_in ht) (aD1 hok rfl) K)
    · cases hz
  | newarray t =>
    obtain ⟨n, r, he0, hz1⟩ := aP1_ex hz
    clear hz
    subst he0
    have hz := hz1
    obtain ⟨-, -, -, -, -, -, -, -, -, -, w10, w11, w12, -⟩ := aWpos_ok
    split at hz
    · rename_i hc
      obtain ⟨c1, c2, c3⟩ := hc
      split at hz
      · exact aGl.go hz ⟨Nat.le_add_right _ _, Nat.le_add_right _ _⟩ (fun g1 g2 Q K => s_newInt C c1 (aIs_in w10) c2 c3 g1 g2 (aD2 hok rfl) K)
      · exact aGl.go hz ⟨Nat.le_add_right _ _, Nat.le_add_right _ _⟩ (fun g1 g2 Q K => s_newChar C c1 (aIs_in w11) c2 c3 g1 g2 (aD2 hok rfl) K)
      · exact aGl.go hz ⟨Nat.le_add_right _ _, Nat.le_add_right _ _⟩ (fun g1 g2 Q K => s_newLong C c1 (aIs_in w12) c2 c3 g1 g2 (aD2 hok rfl) K)
      · cases hz
    · cases hz
  | anewarray idx =>
    obtain ⟨h1, h2⟩ := (Bool.and_eq_true _ _).mp hok
    obtain ⟨h2, h3⟩ := (Bool.and_eq_true _ _).mp h2
    obtain rfl : o = 0 := eq_of_beq h2
    obtain rfl : idx = 9 := eq_of_beq h3
    obtain ⟨n, r, he0, hz1⟩ := aP1_ex hz
    clear hz
    subst he0
    have hz := hz1
    obtain ⟨-, -, -, -, -, -, -, -, -, -, -, -, -, w14, -⟩ := aWpos_ok
    split at hz
    · rename_i hc
      obtain ⟨c1, c2, c3⟩ := hc
      exact aGl.go hz ⟨Nat.le_add_right _ _, Nat.le_add_right _ _⟩ (fun g1 g2 Q K => s_anewarray C c1 (aIs_in w14) c2 c3 g1 g2 (aD3 h1 rfl) K)
    · cases hz
  | multianewarray idx dd =>
    obtain ⟨h1, h2⟩ := (Bool.and_eq_true _ _).mp hok
    obtain ⟨h2, h3⟩ := (Bool.and_eq_true _ _).mp h2
    obtain ⟨h3, h4⟩ := (Bool.and_eq_true _ _).mp h3
    obtain rfl : o = 4 := eq_of_beq h2
    obtain rfl : idx = 15 := eq_of_beq h3
    obtain rfl : dd = 2 := eq_of_beq h4
    obtain ⟨-, -, -, -, -, -, -, -, -, -, w10, -, -, -, w15⟩ := aWpos_ok
    unfold aEx at hz
    dsimp only at hz
    split at hz
    · split at hz
      · rename_i hc
        obtain ⟨c1, rfl, rfl⟩ := hc
        exact aGl.go hz ⟨Nat.le_add_right _ _, Nat.le_add_right _ _⟩ (fun g1 g2 Q K => s_multi C c1 (aIs_in w15) (aIs_in w10) g1 g2 (aD4 h1 rfl) K)
      · cases hz
    · cases hz
  | new idx =>
    obtain ⟨h1, h2⟩ := (Bool.and_eq_true _ _).mp hok
    unfold aEx at hz
    dsimp only at hz
    split at hz
    · cases hz
    rename_i h999
    have h2 := (Bool.or_eq_true _ _).mp h2
    rcases h2 with h2 | h2
    · exact absurd (eq_of_beq h2) h999
    obtain ⟨h2, h3⟩ := (Bool.and_eq_true _ _).mp h2
    split at hz
    · rename_i h100
      split at hz
      · rename_i hc
        obtain ⟨c1, c2, c3⟩ := hc
        cases hz
        have h4 := (Bool.or_eq_true _ _).mp h3
        rcases h4 with h4 | h4
        · exact absurd (of_decide_eq_true h4) (by omega)
        · obtain ⟨h4, h5⟩ := (Bool.and_eq_true _ _).mp h4
          exact g_thrown B (eq_of_beq h4) h100 c1 c2 c3 h2 h5 (aD3 h1 rfl)
      · cases hz
    · rename_i h100
      obtain ⟨rc, f1, f2, f3, f4⟩ := aN3_ok h2 (Nat.not_le.mp h100)
      split at hz
      · rename_i hal
        exact aGl.go hz ⟨Nat.le_add_right _ _, Nat.le_add_right _ _⟩ (fun g1 g2 Q K => s_new C hal f1 f2 f4 f3 g1 g2 (aD3 h1 rfl) K)
      · cases hz
  | invokevirtual idx =>
    obtain ⟨h1, h2⟩ := (Bool.and_eq_true _ _).mp hok
    simp only [Bool.and_eq_true, Bool.or_eq_true, beq_iff_eq] at h2
    unfold aEx at hz
    dsimp only at hz
    rcases h2 with ⟨rfl, h2⟩ | ⟨rfl, h2⟩ | ⟨h2, h3⟩
    · exact g_text B (aD3 h1 rfl) (Or.inl ⟨rfl, h2⟩) hz
    · exact g_text B (aD3 h1 rfl) (Or.inr ⟨rfl, h2⟩) hz
    · rw [if_neg (by have := (aArg_ok h3).1; omega)] at hz
      split at hz
      · rename_i hr
        exact g_callV B h2 h3 (aD3 h1 rfl) hr hz
      · cases hz
  | invokestatic idx =>
    obtain ⟨h1, h2⟩ := (Bool.and_eq_true _ _).mp hok
    simp only [Bool.and_eq_true, Bool.or_eq_true, beq_iff_eq] at h2
    unfold aEx at hz
    dsimp only at hz
    rcases h2 with ⟨rfl, h2⟩ | ⟨rfl, h2⟩ | ⟨rfl, h2⟩ | ⟨h2, h3⟩ | ⟨rfl, ⟨h2, h3⟩ | ⟨h2, h3⟩⟩
    · exact g_nat B (aD3 h1 rfl) (Or.inl ⟨rfl, h2⟩) hz
    · exact g_nat B (aD3 h1 rfl) (Or.inr (Or.inl ⟨rfl, h2⟩)) hz
    · exact g_nat B (aD3 h1 rfl) (Or.inr (Or.inr ⟨rfl, h2⟩)) hz
    · rw [if_neg (by have := (aArg_ok h3).1; omega)] at hz
      exact g_callS B h2 h3 (aD3 h1 rfl) hz
    · rw [if_neg (by have := (aArg_ok h3).1; omega)] at hz
      exact g_callSN B h2 h3 (aD3 h1 rfl) hz
    · rw [if_neg (by have := (aArg_ok h3).1; omega)] at hz
      exact g_callSW B h2 h3 (aD3 h1 rfl) hz
  | invokespecial idx =>
    obtain ⟨h1, h2⟩ := (Bool.and_eq_true _ _).mp hok
    simp only [Bool.and_eq_true, Bool.or_eq_true, beq_iff_eq] at h2
    unfold aEx at hz
    dsimp only at hz
    rcases h2 with ⟨rfl, h2⟩ | ⟨rfl, ⟨h2, h3⟩ | ⟨h2, h3⟩⟩
    · rw [if_pos rfl] at hz
      obtain ⟨q, r, he0, hz1⟩ := aPr_ex hz
      clear hz
      subst he0
      have hz := hz1
      obtain ⟨p9, hp⟩ := aL4_ok h2
      obtain ⟨-, -, -, -, -, -, -, -, w8, w9, -⟩ := aWpos_ok
      split at hz
      · rename_i hs
        exact aGl.go hz ⟨Nat.le_refl _, Nat.le_refl _⟩ (fun g1 g2 Q K => s_objInit C (aIs_in hp) (aIs_in w8) (aIs_in w9) (by omega) (by omega) hs (aD3 h1 rfl) K)
      · cases hz
    · rw [if_neg (by have := (aArg_ok h3).1; omega)] at hz
      split at hz
      · rename_i hr
        exact g_callI B (Or.inl rfl) h2 h3 (aD3 h1 rfl) hr hz
      · cases hz
    · rw [if_neg (by have := (aArg_ok h3).1; omega)] at hz
      split at hz
      · rename_i hr
        exact g_callI B (Or.inr rfl) h2 h3 (aD3 h1 rfl) hr hz
      · cases hz
  | ireturn =>
    unfold aEx at hz
    dsimp only at hz
    split at hz
    · split at hz
      · split at hz
        · rename_i hfit
          cases hz
          exact ⟨⟨Nat.le_refl _, Nat.le_refl _⟩, fun _ _ => e_ireturn C B.2.2.2.2.2.1 hfit B.2.2.2.2.1 (aD1 hok rfl)⟩
        · cases hz
      · cases hz
    · cases hz
  | freturn =>
    unfold aEx at hz
    dsimp only at hz
    split at hz
    · split at hz
      · rename_i hrt
        cases hz
        exact ⟨⟨Nat.le_refl _, Nat.le_refl _⟩, fun _ _ => e_freturn C (B.2.2.2.2.2.1.trans hrt) B.2.2.2.2.1 (aD1 hok rfl)⟩
      · cases hz
    · cases hz
  | dreturn =>
    unfold aEx at hz
    dsimp only at hz
    split at hz
    · split at hz
      · rename_i hrt
        cases hz
        exact ⟨⟨Nat.le_refl _, Nat.le_refl _⟩, fun _ _ => e_dreturn C (B.2.2.2.2.2.1.trans hrt) B.2.2.2.2.1 (aD1 hok rfl)⟩
      · cases hz
    · cases hz
  | lreturn =>
    unfold aEx at hz
    dsimp only at hz
    split at hz
    · split at hz
      · rename_i hrt
        cases hz
        exact ⟨⟨Nat.le_refl _, Nat.le_refl _⟩, fun _ _ => e_lreturn C (B.2.2.2.2.2.1.trans hrt) B.2.2.2.2.1 (aD1 hok rfl)⟩
      · cases hz
    · cases hz
  | areturn =>
    unfold aEx at hz
    dsimp only at hz
    split at hz
    · split at hz
      · rename_i hrt
        cases hz
        refine ⟨⟨Nat.le_refl _, Nat.le_refl _⟩, fun _ _ => ?_⟩
        rcases hrt with hrt | hrt
        · exact e_areturn C (B.2.2.2.2.2.1.trans hrt) B.2.2.2.2.1 (aD1 hok rfl)
        · exact e_areturn C (B.2.2.2.2.2.1.trans hrt) B.2.2.2.2.1 (aD1 hok rfl)
      · cases hz
    · cases hz
  | return_ =>
    unfold aEx at hz
    dsimp only at hz
    split at hz
    · split at hz
      · rename_i hrt
        cases hz
        exact ⟨⟨Nat.le_refl _, Nat.le_refl _⟩, fun _ _ => e_return C (B.2.2.2.2.2.1.trans hrt) B.2.2.2.2.1 (aD1 hok rfl)⟩
      · cases hz
    · cases hz
  | _ => cases hz
end STA
