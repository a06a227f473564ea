/-! A TEXT IS MADE: its numbers, its letters -/
theorem nn_c {c : Int32} (h : 0 ≤ c) : ∃ N, N < 2147483648 ∧ c.toNatClampNeg = N ∧ c = Int32.ofNat N := by
  have e : c = Int32.ofNat c.toNatClampNeg := zn_nn h
  refine ⟨c.toNatClampNeg, ?_, rfl, e⟩
  have h1 := c.toInt_lt
  show c.toInt.toNat < _
  omega
theorem xsh_n {N t : Nat} (s : Int32) (hN : N < 2147483648) (hs : (s.toUInt32 &&& Int32.toUInt32 31).toNat = t) (h2 : t < 32) : ((Int32.ofNat N).toUInt32 >>> (s.toUInt32 &&& Int32.toUInt32 31)).toInt32 = Int32.ofNat (N / 2 ^ t) := by
  have e0 : (Int32.ofNat N).toUInt32.toNat = N := by
    show N % 2 ^ 32 = N
    exact Nat.mod_eq_of_lt (by omega)
  have e : ((Int32.ofNat N).toUInt32 >>> (s.toUInt32 &&& Int32.toUInt32 31)).toNat = N / 2 ^ t := by
    rw [UInt32.toNat_shiftRight, hs, Nat.mod_eq_of_lt h2, e0, Nat.shiftRight_eq_div_pow]
  have e2 : (Int32.ofNat N).toUInt32 >>> (s.toUInt32 &&& Int32.toUInt32 31) = UInt32.ofNat (N / 2 ^ t) := by
    rw [← e, UInt32.ofNat_toNat]
  rw [e2]
  rfl
theorem dg_fit {x : Nat} (h : x ≤ 9) : fits .byte (.int (dg1 x)) = true := by
  have : ∀ x : Fin 10, fits .byte (.int (dg1 x.val)) = true := by decide +kernel
  exact this ⟨x, by omega⟩
theorem tx_ok : ((List.range 4).all fun a => (List.range 5).all fun b => decide (aStr (100 + (a * 5 + b) * 11 + 0) = [116, dg1 a, 42, 50, 59, 101, dg1 b] ++ aStr 95) && (List.range 10).all fun f => decide (aStr (100 + (a * 5 + b) * 11 + (1 + f)) = [116, dg1 a, 42, 50, 59, 101, dg1 b] ++ [59, 102, 49, 50, dg1 f, 48])) = true := by decide +kernel
theorem tx_0 {c : Int32} {N : Nat} (hN : c.toNatClampNeg = N) (h : ¬ N % 3 = 0) : aStr (mTx c) = [116, dg1 (N / 16 % 4), 42, 50, 59, 101, dg1 (N / 64 % 5)] ++ aStr 95 := by
  have h1 := all_lt (all_lt tx_ok (Nat.mod_lt (N / 16) (show 4 > 0 by omega))) (Nat.mod_lt (N / 64) (show 5 > 0 by omega))
  rw [Bool.and_eq_true] at h1
  unfold mTx
  rw [hN, if_neg h]
  exact of_decide_eq_true h1.1
theorem tx_1 {c : Int32} {N : Nat} (hN : c.toNatClampNeg = N) (h : N % 3 = 0) : aStr (mTx c) = [116, dg1 (N / 16 % 4), 42, 50, 59, 101, dg1 (N / 64 % 5)] ++ [59, 102, 49, 50, dg1 (N / 512 % 10), 48] := by
  have h1 := all_lt (all_lt tx_ok (Nat.mod_lt (N / 16) (show 4 > 0 by omega))) (Nat.mod_lt (N / 64) (show 5 > 0 by omega))
  rw [Bool.and_eq_true] at h1
  unfold mTx
  rw [hN, if_pos h]
  exact of_decide_eq_true (all_lt h1.2 (Nat.mod_lt (N / 512) (show 10 > 0 by omega)))
theorem fit_7 {a b : Nat} (ha : a ≤ 9) (hb : b ≤ 9) : ∀ x ∈ [116, dg1 a, 42, 50, 59, 101, dg1 b], fits .byte (.int x) = true := by
  intro x hx
  simp only [List.mem_cons, List.not_mem_nil, or_false] at hx
  rcases hx with rfl | rfl | rfl | rfl | rfl | rfl | rfl
  · rfl
  · exact dg_fit ha
  · rfl
  · rfl
  · rfl
  · rfl
  · exact dg_fit hb
theorem fit_6 {f : Nat} (hf : f ≤ 9) : ∀ x ∈ [59, 102, 49, 50, dg1 f, 48], fits .byte (.int x) = true := by
  intro x hx
  simp only [List.mem_cons, List.not_mem_nil, or_false] at hx
  rcases hx with rfl | rfl | rfl | rfl | rfl | rfl
  · rfl
  · rfl
  · rfl
  · rfl
  · exact dg_fit hf
  · rfl
theorem fit_c : ((List.range 6).all fun i => (aStr (90 + i)).all fun x => fits .byte (.int x)) = true := by decide +kernel
theorem fit_cs {i : Nat} (hi : i < 6) : ∀ x ∈ aStr (90 + i), fits .byte (.int x) = true := fun x hx => List.all_eq_true.mp (all_lt fit_c hi) x hx
section XTX
set_option maxRecDepth 8000
variable {p : Program} {l : Launch} {e : Env} {R : Room} {s : State} {m : MethodId} {args : Array Value} {below : List Frame} {meth : Method} {c : Code} {H : Heap} {locs : List Loc} {Q : State → Prop} {A : Nat → Prop}
variable {k1 k2 sb v a w o N : Nat} {L : Array Slot} {D : va_G} {cA : ClassId} {tl t : List Int32} {x : Int32}
/-- from 457: the last part, toString -/
theorem x_end (X : xCx p s m args c D cA A R) (hS : va_S A s.heap H locs) (hb : bLt D cA sb v tl H) (hv : sb ≠ v) (hB : ∀ q, bA sb v q → A q) (hG : gStr t a w (bA sb v) s H) (hfl : ∀ x ∈ tl, fits .byte (.int x) = true) (hft : ∀ x ∈ t, fits .byte (.int x) = true) (h15 : tl.length + t.length ≤ 15) (hk : k1 + 2 ≤ R.cells ∧ k2 + (4 + (tl ++ t).length) ≤ R.slots) (hsz : L.size = c.maxLocals)
    (K : ∀ (H1 : Heap) (locs1 : List Loc) (q w : Nat), H.size ≤ q → H.size ≤ w → q < H1.size → w < H1.size → (∀ B : Nat → Prop, (∀ x, B x → A x) → ¬ B q → ¬ B w → gStr (tl ++ t) q w B s H1) → (H.size ≤ H1.size ∧ ∀ x : Nat, x < H.size → ¬ bA sb v x → H1[x]? = H[x]?) → va_S A s.heap H1 locs1 → W p l e R s m args below meth c H1 locs1 (k1 + 2) (k2 + (4 + (tl ++ t).length)) Q (F0 m 463 L [.ref q, .ref o])) : W p l e R s m args below meth c H locs k1 k2 Q (F0 m 457 L [.ref a, .ref sb, .ref o]) := by
  refine x_aps X hS hb hv hB hG hft (by omega) ⟨by omega, by omega⟩ hsz (Nat.le_of_ble_eq_true rfl) (by decide +kernel) (fun H1 locs1 b1 q1 S1 => ?_)
  refine x_tos X S1 b1 hv hB (by rw [List.length_append]; exact h15) (fun x hx => (List.mem_append.mp hx).elim (hfl x) (hft x)) hk hsz (Nat.le_of_ble_eq_true rfl) (by decide +kernel) (fun H2 locs2 q w hq hw hq2 hw2 hG2 q2 S2 => ?_)
  have hz := q1.1
  exact K H2 locs2 q w (Nat.le_trans hz hq) (Nat.le_trans hz hw) hq2 hw2 hG2 ⟨Nat.le_trans hz q2.1, fun x g1 g2 => (q2.2 x (Nat.lt_of_lt_of_le g1 hz) g2).trans (q1.2 x g1 g2)⟩ S2
/-- the text's first part, to 411 -/
theorem x_beg (X : xCx p s m args c D cA A R) (hT : ∀ q, q ∈ aTxt → ∃ a v, vk_R RL q.1 q.2.1 a s ∧ jStr q.2.2 a v A s s.heap) (hS : va_S A s.heap H locs) (hN : N < 2147483648) (hL : L[5]? = some (.val (.int (Int32.ofNat N)))) (hk : k1 + 2 ≤ R.cells ∧ k2 + 20 ≤ R.slots) (hsz : L.size = c.maxLocals)
    (K : ∀ (H1 : Heap) (locs1 : List Loc), bLt D cA H.size (H.size + 1) [116, dg1 (N / 16 % 4), 42, 50, 59, 101, dg1 (N / 64 % 5)] H1 → H.size + 2 ≤ H1.size → (∀ q : Nat, q < H.size → H1[q]? = H[q]?) → va_S A s.heap H1 locs1 → W p l e R s m args below meth c H1 locs1 (k1 + 2) (k2 + 20) Q (F0 m 411 L [.ref H.size, .ref o])) : W p l e R s m args below meth c H locs k1 k2 Q (F0 m 375 L [.ref o]) := by
  obtain ⟨hx, hb, hown, hts, hKs, hf, hZ, hZq, hdg, hA, hR1, hR2⟩ := id X
  obtain ⟨a1, v1, r1, j1⟩ := hT (247, "t", 91) (by decide +kernel)
  obtain ⟨a2, v2, r2, j2⟩ := hT (255, "*2;e", 92) (by decide +kernel)
  have hsz0 := hS.1
  have hB : ∀ q, bA H.size (H.size + 1) q → A q := fun q g => by
    rcases g with rfl | rfl
    · exact hA _ hsz0
    · exact hA _ (by omega)
  have hv : H.size ≠ H.size + 1 := by omega
  have nb : ∀ q, q < H.size → ¬ bA H.size (H.size + 1) q := fun q h g => by rcases g with g | g <;> omega
  have gk : ∀ {i a v : Nat} {H1 : Heap} {locs1 : List Loc}, jStr i a v A s s.heap → va_S A s.heap H1 locs1 → gStr (aStr i) a v (bA H.size (H.size + 1)) s H1 := fun j S => (j.g.kept S.2.1).narrow hB
  refine x_new X hS hk hsz (Nat.le_of_ble_eq_true rfl) (by decide +kernel) (by decide +kernel) (by decide +kernel) (fun H1 locs1 b1 z1 o1 S1 => ?_)
  refine va_ldcS hx hb hown r1 (by decide +kernel) ?_
  refine x_aps X S1 b1 hv hB (gk j1 S1) (fit_cs (i := 1) (by decide)) (Nat.le_of_ble_eq_true rfl) hk hsz (Nat.le_of_ble_eq_true rfl) (by decide +kernel) (fun H2 locs2 b2 q2 S2 => ?_)
  refine lv_iload hx hb (i := 5) (x := Int32.ofNat N) (by decide +kernel) hL ?_
  refine lv_iconst hx hb (n := 4) (v := 4) (by decide +kernel) rfl ?_
  refine lv_iushr hx hb (v := Int32.ofNat (N / 2 ^ 4)) (by decide +kernel) (xsh_n 4 hN (by decide) (by decide)) ?_
  refine lv_iconst hx hb (n := 4) (v := 4) (by decide +kernel) rfl ?_
  refine lv_irem hx hb (by decide +kernel) (by decide) ?_
  rw [rem_n (x := Int32.ofNat (N / 2 ^ 4)) (y := 4) (a := N / 2 ^ 4) (m := 4) rfl rfl (by omega) (by decide)]
  refine x_dig X S2 b2 hv hB (by omega) (Nat.le_of_ble_eq_true rfl) hk hsz (Nat.le_of_ble_eq_true rfl) (by decide +kernel) (fun H3 locs3 b3 q3 S3 => ?_)
  refine va_ldcS hx hb hown r2 (by decide +kernel) ?_
  refine x_aps X S3 b3 hv hB (gk j2 S3) (fit_cs (i := 2) (by decide)) (Nat.le_of_ble_eq_true rfl) hk hsz (Nat.le_of_ble_eq_true rfl) (by decide +kernel) (fun H4 locs4 b4 q4 S4 => ?_)
  refine lv_iload hx hb (i := 5) (x := Int32.ofNat N) (by decide +kernel) hL ?_
  refine lv_bipush hx hb (n := 6) (v := 6) (by decide +kernel) (by decide) ?_
  refine lv_iushr hx hb (v := Int32.ofNat (N / 2 ^ 6)) (by decide +kernel) (xsh_n 6 hN (by decide) (by decide)) ?_
  refine lv_iconst hx hb (n := 5) (v := 5) (by decide +kernel) rfl ?_
  refine lv_irem hx hb (by decide +kernel) (by decide) ?_
  rw [rem_n (x := Int32.ofNat (N / 2 ^ 6)) (y := 5) (a := N / 2 ^ 6) (m := 5) rfl rfl (by omega) (by decide)]
  refine x_dig X S4 b4 hv hB (by omega) (Nat.le_of_ble_eq_true rfl) hk hsz (Nat.le_of_ble_eq_true rfl) (by decide +kernel) (fun H5 locs5 b5 q5 S5 => ?_)
  have g2 := q2.1
  have g3 := q3.1
  have g4 := q4.1
  have g5 := q5.1
  exact K H5 locs5 b5 (by omega) (fun q hq => (q5.2 q (by omega) (nb q hq)).trans ((q4.2 q (by omega) (nb q hq)).trans ((q3.2 q (by omega) (nb q hq)).trans ((q2.2 q (by omega) (nb q hq)).trans (o1 q hq))))) S5
/-- the second builder, from 418 to 457 -/
theorem x_mid (X : xCx p s m args c D cA A R) (hT : ∀ q, q ∈ aTxt → ∃ a v, vk_R RL q.1 q.2.1 a s ∧ jStr q.2.2 a v A s s.heap) (hS : va_S A s.heap H locs) (hN : N < 2147483648) (hL : L[5]? = some (.val (.int (Int32.ofNat N)))) (hk : k1 + 4 ≤ R.cells ∧ k2 + 30 ≤ R.slots) (hsz : L.size = c.maxLocals)
    (K : ∀ (H1 : Heap) (locs1 : List Loc) (q w : Nat), H.size ≤ q → H.size ≤ w → q < H1.size → w < H1.size → (∀ B : Nat → Prop, (∀ x, B x → A x) → ¬ B q → ¬ B w → gStr [59, 102, 49, 50, dg1 (N / 512 % 10), 48] q w B s H1) → H.size ≤ H1.size → (∀ x : Nat, x < H.size → H1[x]? = H[x]?) → va_S A s.heap H1 locs1 → W p l e R s m args below meth c H1 locs1 (k1 + 4) (k2 + 30) Q (F0 m 457 L [.ref q, .ref sb, .ref o])) : W p l e R s m args below meth c H locs k1 k2 Q (F0 m 418 L [.ref sb, .ref o]) := by
  obtain ⟨hx, hb, hown, hts, hKs, hf, hZ, hZq, hdg, hA, hR1, hR2⟩ := id X
  obtain ⟨a1, v1, r1, j1⟩ := hT (257, ";f12", 93) (by decide +kernel)
  obtain ⟨a2, v2, r2, j2⟩ := hT (259, "0", 94) (by decide +kernel)
  have hsz0 := hS.1
  have hB : ∀ q, bA H.size (H.size + 1) q → A q := fun q g => by
    rcases g with rfl | rfl
    · exact hA _ hsz0
    · exact hA _ (by omega)
  have hv : H.size ≠ H.size + 1 := by omega
  have nb : ∀ q, q < H.size → ¬ bA H.size (H.size + 1) q := fun q h g => by rcases g with g | g <;> omega
  have gk : ∀ {i a v : Nat} {H1 : Heap} {locs1 : List Loc}, jStr i a v A s s.heap → va_S A s.heap H1 locs1 → gStr (aStr i) a v (bA H.size (H.size + 1)) s H1 := fun j S => (j.g.kept S.2.1).narrow hB
  have hk1 : k1 + 2 ≤ R.cells ∧ k2 + 20 ≤ R.slots := ⟨by omega, by omega⟩
  refine x_new X hS hk1 hsz (Nat.le_of_ble_eq_true rfl) (by decide +kernel) (by decide +kernel) (by decide +kernel) (fun H1 locs1 b1 z1 o1 S1 => ?_)
  refine x_ldcw hx hb hown r1 (by decide +kernel) ?_
  refine x_aps X S1 b1 hv hB (gk j1 S1) (fit_cs (i := 3) (by decide)) (Nat.le_of_ble_eq_true rfl) hk1 hsz (Nat.le_of_ble_eq_true rfl) (by decide +kernel) (fun H2 locs2 b2 q2 S2 => ?_)
  refine lv_iload hx hb (i := 5) (x := Int32.ofNat N) (by decide +kernel) hL ?_
  refine lv_bipush hx hb (n := 9) (v := 9) (by decide +kernel) (by decide) ?_
  refine lv_iushr hx hb (v := Int32.ofNat (N / 2 ^ 9)) (by decide +kernel) (xsh_n 9 hN (by decide) (by decide)) ?_
  refine lv_bipush hx hb (n := 10) (v := 10) (by decide +kernel) (by decide) ?_
  refine lv_irem hx hb (by decide +kernel) (by decide) ?_
  rw [rem_n (x := Int32.ofNat (N / 2 ^ 9)) (y := 10) (a := N / 2 ^ 9) (m := 10) rfl rfl (by omega) (by decide)]
  refine x_dig X S2 b2 hv hB (by omega) (Nat.le_of_ble_eq_true rfl) hk1 hsz (Nat.le_of_ble_eq_true rfl) (by decide +kernel) (fun H3 locs3 b3 q3 S3 => ?_)
  refine x_ldcw hx hb hown r2 (by decide +kernel) ?_
  refine x_aps X S3 b3 hv hB (gk j2 S3) (fit_cs (i := 4) (by decide)) (Nat.le_of_ble_eq_true rfl) hk1 hsz (Nat.le_of_ble_eq_true rfl) (by decide +kernel) (fun H4 locs4 b4 q4 S4 => ?_)
  have b4 : bLt D cA H.size (H.size + 1) [59, 102, 49, 50, dg1 (N / 512 % 10), 48] H4 := b4
  refine x_tos X S4 b4 hv hB (Nat.le_of_ble_eq_true rfl) (fit_6 (by omega)) ⟨by omega, by show k2 + 20 + (4 + 6) ≤ _; omega⟩ hsz (Nat.le_of_ble_eq_true rfl) (by decide +kernel) (fun H5 locs5 q w hq hw hq5 hw5 hG5 q5 S5 => ?_)
  refine lv_goto hx hb (off := 6) (tgt := 457) (by decide +kernel) (by decide) ?_
  have g2 := q2.1
  have g3 := q3.1
  have g4 := q4.1
  have g5 := q5.1
  refine W.widen (k := k1 + 4) (n := k2 + 30) (by omega) (by show k2 + 20 + (4 + 6) ≤ k2 + 30; omega) ?_
  exact K H5 locs5 q w (by omega) (by omega) hq5 hw5 hG5 (by omega) (fun q hq => (q5.2 q (by omega) (nb q hq)).trans ((q4.2 q (by omega) (nb q hq)).trans ((q3.2 q (by omega) (nb q hq)).trans ((q2.2 q (by omega) (nb q hq)).trans (o1 q hq))))) S5
/-- the whole text -/
theorem x_text (X : xCx p s m args c D cA A R) (hT : ∀ q, q ∈ aTxt → ∃ a v, vk_R RL q.1 q.2.1 a s ∧ jStr q.2.2 a v A s s.heap) (hS : va_S A s.heap H locs) (hx0 : 0 ≤ x) (hL : L[5]? = some (.val (.int x))) (hk : k1 + 8 ≤ R.cells ∧ k2 + 100 ≤ R.slots) (hsz : L.size = c.maxLocals)
    (K : ∀ (H1 : Heap) (locs1 : List Loc) (q w : Nat), H.size ≤ q → H.size ≤ w → q < H1.size → w < H1.size → (∀ B : Nat → Prop, (∀ x, B x → A x) → ¬ B q → ¬ B w → gStr (aStr (mTx x)) q w B s H1) → H.size ≤ H1.size → (∀ x : Nat, x < H.size → H1[x]? = H[x]?) → va_S A s.heap H1 locs1 → W p l e R s m args below meth c H1 locs1 (k1 + 8) (k2 + 100) Q (F0 m 463 L [.ref q, .ref o])) : W p l e R s m args below meth c H locs k1 k2 Q (F0 m 375 L [.ref o]) := by
  obtain ⟨hx, hb, hown, hts, hKs, hf, hZ, hZq, hdg, hA, hR1, hR2⟩ := id X
  obtain ⟨N, hN, e1, rfl⟩ := nn_c hx0
  obtain ⟨a5, v5, r5, j5⟩ := hT (265, "", 95) (by decide +kernel)
  have hsz0 := hS.1
  have hB : ∀ q, bA H.size (H.size + 1) q → A q := fun q g => by
    rcases g with rfl | rfl
    · exact hA _ hsz0
    · exact hA _ (by omega)
  have hv : H.size ≠ H.size + 1 := by omega
  have nb : ∀ q, q < H.size → ¬ bA H.size (H.size + 1) q := fun q h g => by rcases g with g | g <;> omega
  refine x_beg X hT hS hN hL ⟨by omega, by omega⟩ hsz (fun H1 locs1 b1 z1 o1 S1 => ?_)
  refine lv_iload hx hb (i := 5) (x := Int32.ofNat N) (by decide +kernel) hL ?_
  refine lv_iconst hx hb (n := 3) (v := 3) (by decide +kernel) rfl ?_
  refine lv_irem hx hb (by decide +kernel) (by decide) ?_
  rw [rem_n (x := Int32.ofNat N) (y := 3) (a := N) (m := 3) rfl rfl hN (by decide)]
  have hz3 : N % 3 = 0 → Int32.ofNat (N % 3) = 0 := fun h => by rw [h]; rfl
  have hn3 : ¬ N % 3 = 0 → Int32.ofNat (N % 3) ≠ 0 := fun h q => h (ofN_ne (by omega) (by omega) q)
  by_cases c3 : N % 3 = 0
  · refine lv_if_ne hx hb (off := 39) (tgt := 454) (by decide +kernel) (by decide) (fun h => absurd (hz3 c3) h) (fun _ => ?_)
    refine x_mid X hT S1 hN hL ⟨by omega, by omega⟩ hsz (fun H2 locs2 q w hq hw hq2 hw2 hG2 z2 o2 S2 => ?_)
    have hsl := b1.lt
    have b2 := b1.kept (o2 _ hsl.1) (o2 _ hsl.2)
    refine x_end X S2 b2 hv hB (hG2 _ hB (fun g => by rcases g with g | g <;> omega) (fun g => by rcases g with g | g <;> omega)) (fit_7 (by omega) (by omega)) (fit_6 (by omega)) (Nat.le_of_ble_eq_true rfl) ⟨by omega, by show k2 + 20 + 30 + (4 + 13) ≤ _; omega⟩ hsz (fun H3 locs3 q w hq hw hq3 hw3 hG3 q3 S3 => ?_)
    refine W.widen (k := k1 + 8) (n := k2 + 100) (by omega) (by show k2 + 20 + 30 + (4 + 13) ≤ k2 + 100; omega) ?_
    have g3 := q3.1
    exact K H3 locs3 q w (by omega) (by omega) hq3 hw3 (fun B h1 h2 h3 => by rw [tx_1 e1 c3]; exact hG3 B h1 h2 h3) (by omega) (fun x h => (q3.2 x (by omega) (nb x h)).trans ((o2 x (by omega)).trans (o1 x h))) S3
  · refine lv_if_ne hx hb (off := 39) (tgt := 454) (by decide +kernel) (by decide) (fun _ => ?_) (fun h => absurd h (hn3 c3))
    refine x_ldcw hx hb hown r5 (by decide +kernel) ?_
    refine x_end X S1 b1 hv hB ((j5.g.kept S1.2.1).narrow hB) (fit_7 (by omega) (by omega)) (fit_cs (i := 5) (by decide)) (Nat.le_of_ble_eq_true rfl) ⟨by omega, by show k2 + 20 + (4 + 7) ≤ _; omega⟩ hsz (fun H3 locs3 q w hq hw hq3 hw3 hG3 q3 S3 => ?_)
    refine W.widen (k := k1 + 8) (n := k2 + 100) (by omega) (by show k2 + 20 + (4 + 7) ≤ k2 + 100; omega) ?_
    have g3 := q3.1
    exact K H3 locs3 q w (by omega) (by omega) hq3 hw3 (fun B h1 h2 h3 => by rw [tx_0 e1 c3]; exact hG3 B h1 h2 h3) (by omega) (fun x h => (q3.2 x (by omega) (nb x h)).trans (o1 x h)) S3
end XTX
