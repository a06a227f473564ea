/-! StringLatin1.indexOfChar: its loop -/
theorem j_ofNat {x : Int32} (h0 : ¬ x < 0) : Int32.ofNat x.toNatClampNeg = x := by
  have h1 : (0 : Int) ≤ x.toInt := by
    have := Int32.not_lt.mp h0
    simpa using Int32.le_iff_toInt_le.mp this
  have e : x.toNatClampNeg = x.toInt.toNat := rfl
  have h2 : x.toInt < 2 ^ 31 := Int32.toInt_lt x
  apply Int32.toInt_inj.mp
  rw [Int32.toInt_ofNat_of_lt (by omega)]
  omega
theorem j_eq {ci : Nat} (hc : ci = 90 ∨ ci = 91) {x : Int32} (h0 : ¬ x < 0) (h1 : ¬ 255 < x) {k : Nat} (hk : k < 6) : (aStr ci).getD k 0 = x.toInt8.toInt32 ↔ (aStr ci).getD k 0 = x := by
  have k0 : ∀ n : Fin 256, ∀ j : Fin 6, ((aStr 90).getD j.val 0 = (Int32.ofNat n.val).toInt8.toInt32 ↔ (aStr 90).getD j.val 0 = Int32.ofNat n.val) := by decide +kernel
  have k1 : ∀ n : Fin 256, ∀ j : Fin 6, ((aStr 91).getD j.val 0 = (Int32.ofNat n.val).toInt8.toInt32 ↔ (aStr 91).getD j.val 0 = Int32.ofNat n.val) := by decide +kernel
  have hn : x.toNatClampNeg < 256 := by
    have e : x.toNatClampNeg = x.toInt.toNat := rfl
    have h2 := Int32.not_lt.mp h1
    rw [Int32.le_iff_toInt_le] at h2
    have h3 : x.toInt ≤ 255 := h2
    omega
  rw [← j_ofNat h0]
  rcases hc with rfl | rfl
  · exact k0 ⟨_, hn⟩ ⟨k, hk⟩
  · exact k1 ⟨_, hn⟩ ⟨k, hk⟩
theorem j_drop {ci : Nat} (hc : ci = 90 ∨ ci = 91) : (∀ k : Nat, k < 6 → (aStr ci).drop k = (aStr ci).getD k 0 :: (aStr ci).drop (k + 1)) ∧ (aStr ci).drop 6 = [] := by
  have k0 : ∀ k : Fin 6, (aStr 90).drop k.val = (aStr 90).getD k.val 0 :: (aStr 90).drop (k.val + 1) := by decide
  have k1 : ∀ k : Fin 6, (aStr 91).drop k.val = (aStr 91).getD k.val 0 :: (aStr 91).drop (k.val + 1) := by decide
  rcases hc with rfl | rfl
  · exact ⟨fun k hk => k0 ⟨k, hk⟩, rfl⟩
  · exact ⟨fun k hk => k1 ⟨k, hk⟩, rfl⟩
theorem j_k6 : ∀ k : Fin 6, ¬ (6 : Int32) ≤ Int32.ofNat k.val ∧ Int32.ofNat k.val + Int32.ofInt 1 = Int32.ofNat (k.val + 1) ∧ Int32.ofNat k.val + 1 = Int32.ofNat (k.val + 1) ∧ (Int32.ofNat k.val).toNatClampNeg = k.val ∧ ¬ Int32.ofNat k.val < 0 := by decide
section SJ5
variable {p : Program} {l : Launch} {e : Env} {R : Room} {s : State} {m : MethodId} {below : List Frame} {meth : Method} {c : Code} {ci a v : Nat} {x z : Int32} {st : Array Value}
theorem j_loop (hx : p.tables.exec = Jvm.exec) (hb : c.code = prog_24_method_23_code) (hlk : meth.locks = false) (hret : meth.sig.returnType = some .int) (hT : va_T .byte v 6 (fun j => .int ((aStr ci).getD j 0)) jN s s.heap) (hc : ci = 90 ∨ ci = 91) (h0 : ¬ x < 0) (h1 : ¬ 255 < x) : ∀ (r k : Nat), r + k = 6 → aFind ((aStr ci).drop k) x (Int32.ofNat k) = z → ∀ L : Array Slot, lv_has L 6 [(5, .int (Int32.ofNat k)), (4, .int x.toInt8.toInt32), (3, .int 6), (0, .ref v)] →
    W p l e R s m st below meth c s.heap [] 0 0 (vx_MQ below (jQ (some (.int z))) (fun _ _ _ => False) st s 0 0 jN) (F0 m 7 L [])
  | 0, k, hk, hz, L, hL => by
    obtain rfl : k = 6 := by omega
    rw [(j_drop hc).2] at hz
    have hz : (-1 : Int32) = z := hz
    subst hz
    refine lv_iload hx hb (i := 5) (by decide +kernel) (lv_at hL 0 rfl) ?_
    refine lv_iload_n hx hb (k := 3) (i := 3) (by decide +kernel) rfl (lv_at hL 2 rfl) ?_
    refine lv_icmp_ge hx hb (off := 21) (tgt := 31) (by decide +kernel) (by decide) (fun _ => ?_) (fun h => absurd (by decide) h)
    refine lv_iconst hx hb (n := -1) (v := -1) (by decide +kernel) rfl ?_
    exact j_zret hx hb hret rfl hlk (by decide +kernel)
  | r + 1, k, hk, hz, L, hL => by
    have hk6 : k < 6 := by omega
    have hS : va_S jN s.heap s.heap [] := va_S.rf
    obtain ⟨n1, n2, n3, n4, n5⟩ := j_k6 ⟨k, hk6⟩
    dsimp only at n1 n2 n3 n4 n5
    rw [(j_drop hc).1 k hk6] at hz
    have hz : (if (aStr ci).getD k 0 = x then Int32.ofNat k else aFind ((aStr ci).drop (k + 1)) x (Int32.ofNat k + 1)) = z := hz
    refine lv_iload hx hb (i := 5) (by decide +kernel) (lv_at hL 0 rfl) ?_
    refine lv_iload_n hx hb (k := 3) (i := 3) (by decide +kernel) rfl (lv_at hL 2 rfl) ?_
    refine lv_icmp_ge hx hb (off := 21) (tgt := 31) (by decide +kernel) (by decide) (fun h => absurd h n1) (fun _ => ?_)
    refine lv_aload_n hx hb (k := 0) (i := 0) (by decide +kernel) rfl (lv_at hL 3 rfl) ?_
    refine lv_iload hx hb (i := 5) (by decide +kernel) (lv_at hL 0 rfl) ?_
    refine va_tb hx hb hT hS (fun q => q.elim n5 (fun q => by rw [n4] at q; omega)) (v := .int ((aStr ci).getD k 0)) (by rw [n4]) (by decide +kernel) ?_
    refine lv_iload hx hb (i := 4) (by decide +kernel) (lv_at hL 1 rfl) ?_
    refine lv_icmp_ne hx hb (off := 6) (tgt := 25) (by decide +kernel) (by decide) (fun hn => ?_) (fun he => ?_)
    · rw [if_neg (fun q => hn ((j_eq hc h0 h1 hk6).mpr q)), n3] at hz
      refine lv_iinc hx hb (i := 5) (nL := 6) (k := 0) (n := 1) (by decide +kernel) hL rfl n2 (by decide) rfl (fun L1 hL1 => ?_)
      refine lv_goto hx hb (off := -21) (tgt := 7) (by decide +kernel) (by decide) ?_
      exact j_loop hx hb hlk hret hT hc h0 h1 r (k + 1) (by omega) hz L1 hL1
    · rw [if_pos ((j_eq hc h0 h1 hk6).mp he)] at hz
      refine lv_iload hx hb (i := 5) (by decide +kernel) (lv_at hL 0 rfl) ?_
      rw [hz]
      exact j_zret hx hb hret rfl hlk (by decide +kernel)
theorem j_ixC (hc : ci = 90 ∨ ci = 91) (h0 : ¬ x < 0) (h1 : ¬ 255 < x) : jCon l jyIxC prog_24_method_23_code 6 (some .int) 0 [.ref v, .int x, .int 0, .int 6] (some (.int (aFind (aStr ci) x 0))) ci a v := by
  refine j_of (by decide) (fun p e s m below meth c hx hb hml hown hts hlk hret hJ => ?_)
  have hT : va_T .byte v 6 (fun j => .int ((aStr ci).getD j 0)) jN s s.heap := (hJ.2.2.1 0 (by decide)).2.2.2
  have hL := lv_entry [.ref v, .int x, .int 0, .int 6] (n := 6) (Nat.le_of_ble_eq_true rfl)
  generalize ((lg_sl [.ref v, .int x, .int 0, .int 6] ++ List.replicate (6 - (lg_sl [.ref v, .int x, .int 0, .int 6]).length) Slot.unset).toArray) = L at hL ⊢
  have hL : lv_has L 6 [(0, .ref v), (1, .int x), (2, .int 0), (3, .int 6)] := hL
  refine lv_iload_n hx hb (k := 1) (i := 1) (by decide +kernel) rfl (lv_at hL 1 rfl) ?_
  refine lv_i2b hx hb (by decide +kernel) rfl ?_
  refine lv_istore hx hb (i := 4) (nL := 6) (by decide +kernel) hL (by decide) rfl (fun L1 hL1 => ?_)
  have hL1 : lv_has L1 6 [(4, .int x.toInt8.toInt32), (0, .ref v), (1, .int x), (2, .int 0), (3, .int 6)] := hL1
  refine lv_iload_n hx hb (k := 2) (i := 2) (by decide +kernel) rfl (lv_at hL1 3 rfl) ?_
  refine lv_istore hx hb (i := 5) (nL := 6) (by decide +kernel) hL1 (by decide) rfl (fun L2 hL2 => ?_)
  have hL2 : lv_has L2 6 [(5, .int 0), (4, .int x.toInt8.toInt32), (0, .ref v), (1, .int x), (2, .int 0), (3, .int 6)] := hL2
  exact j_loop hx hb hlk hret hT hc h0 h1 6 0 rfl rfl L2 (lv_sub hL2 [0, 1, 5, 2] rfl)
end SJ5
