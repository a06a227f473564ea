/-! FACTS: what holds of a Works is kept by its changes -/
/-- how a change ends -/
def PK (p : aZ) : Prop := (p.1 = -1 ∨ p.1 = -2) ∨ (p.1 = -3 ∧ (p.2 16 6 = 1 ∨ p.2 16 6 = 2)) ∨ (0 ≤ p.1 ∧ ∃ n g o, wOk p.2 n g o)
section FB
variable {w v : aW} {n g o i j k : Nat} {x y z u s t : Int32}
theorem PK1 {p : aZ} (h : p = (-1, w)) : PK p := by rw [h]; exact Or.inl (Or.inl rfl)
theorem PK2 {p : aZ} (h : p = (-2, w)) : PK p := by rw [h]; exact Or.inl (Or.inr rfl)
theorem PK3 {p : aZ} (h : p = (-3, wNote w x y)) : PK p := by rw [h]; exact Or.inr (Or.inl ⟨rfl, Or.inl rfl⟩)
theorem PK0 {p : aZ} (h : p = (x, v)) (h0 : 0 ≤ x) (ok : wOk v n g o) : PK p := by rw [h]; exact Or.inr (Or.inr ⟨h0, n, g, o, ok⟩)
theorem wOk.mk (A : wOkA w n g o) (B : okB w n o) (T : okT w) : wOk w n g o := ⟨A.1, A.2.1, A.2.2.1, A.2.2.2, B, T⟩
theorem wOk.B (k : wOk w n g o) : okB w n o := k.2.2.2.2.1
theorem wOk.T (k : wOk w n g o) : okT w := k.2.2.2.2.2
theorem okB_cg (h16 : v 16 1 = w 16 1 ∧ v 16 0 = w 16 0) (h6 : ∀ j, j < n → v 6 j = w 6 j) (h1 : ∀ j, j < n → (v 1 j = 4 ↔ w 1 j = 4)) (h12 : ∀ i, v 12 i = w 12 i) (h13 : ∀ i, v 13 i = w 13 i) (b : okB w n o) : okB v n o := by
  obtain ⟨b1, b2, b3⟩ := b
  refine ⟨?_, fun i hi => by rw [h12]; exact b2 i hi, fun k hk => ?_⟩
  · rw [h16.1, h16.2, b1, aSm_congr (f := fun j => fSz (v 6 j)) (g := fun j => fSz (w 6 j)) n 0 fun j _ hj => by rw [h6 j (by omega)]]
  · have e1 : nSold v n k = nSold w n k := nSm_congr n 0 fun j _ hj => by
      rw [h6 j (by omega)]
      by_cases c : w 1 j = 4
      · rw [(h1 j (by omega)).mpr c, c]
      · rw [if_neg (fun q => c ((h1 j (by omega)).mp q.1)), if_neg (fun q => c q.1)]
    have e2 : nSoldOf v o k = nSoldOf w o k := nSm_congr o 0 fun j _ hj => by rw [h12, h13]
    rw [e1, e2, b3 k hk]
theorem okT_cg (h0 : ∀ i, i < 3 → v 0 i = w 0 i) (h16 : v 16 0 = w 16 0) (t : okT w) : okT v := ⟨fun i hi => by rw [h0 i hi]; exact t.1 i hi, by rw [h16]; exact t.2.1, by rw [h16]; exact t.2.2⟩
theorem nn_add {a b : Nat} (ha : a < 40000) (hb : b < 40000) : (0 : Int32) ≤ Int32.ofNat a + Int32.ofNat b := by
  rw [← Int32.ofNat_add]
  exact Int32.not_lt.mp (ofN_lt0 (by omega))
theorem zn_lt {a : Nat} (h0 : 0 ≤ x) (h : x ≤ Int32.ofNat a) (ha : a < 100000) : zn x ≤ a := zn_le h h0 ha
theorem wOkA_up {a l : Nat} (ok : wOkA w n g o) (h : a = 0 ∨ (a = 16 ∧ l < 3)) : wOkA (upw w a l x) n g o := by
  refine ⟨okN_h ok.1 (by omega), fun j hj => ?_, ?_, fun i hi => ?_⟩
  · have q := ok.2.1 j hj
    unfold okW at q ⊢
    rw [upw_ne (by omega), upw_ne (by omega), upw_ne (by omega), upw_ne (by omega), upw_ne (by omega)]
    exact q
  · exact okS_eq (v := upw w a l x) (w := w) (funext fun j => upw_ne (by omega)) (funext fun j => upw_ne (by omega)) ok.2.2.1
  · exact okO_eq (v := upw w a l x) (w := w) (funext fun j => upw_ne (by omega)) (funext fun j => upw_ne (by omega)) (funext fun j => upw_ne (by omega)) (ok.2.2.2 i hi)
theorem pk_set (ok : wOk w n g o) : PK (fSet w x y) := by
  by_cases c0 : 0 ≤ x ∧ x ≤ 2
  rotate_left
  · exact PK2 (if_neg c0)
  by_cases c1 : aI4 0 10 5 5 (zn x) ≤ y ∧ y ≤ aI4 9 99 40 40 (zn x)
  rotate_left
  · exact PK2 ((if_pos c0).trans (if_neg c1))
  have hx : zn x ≤ 2 := zn_le (a := 2) c0.2 c0.1 (by omega)
  have hy : 0 ≤ y := by
    refine Int32.le_trans ?_ c1.1
    match zn x, hx with
    | 0, _ => decide
    | 1, _ => decide
    | 2, _ => decide
  refine PK0 ((if_pos c0).trans (if_pos c1)) (ok.T.1 _ (by omega)) (wOk.mk (n := n) (g := g) (o := o) ?_ ?_ ?_)
  · exact wOkA_up ok.A (Or.inl rfl)
  · exact okB_cg ⟨rfl, rfl⟩ (fun _ _ => rfl) (fun _ _ => Iff.rfl) (fun _ => rfl) (fun _ => rfl) ok.B
  · refine ⟨fun i hi => ?_, ok.T.2⟩
    by_cases e : i = zn x
    · subst e
      rw [upw_eq]
      exact hy
    · rw [upw_ne (by omega)]
      exact ok.T.1 i hi
theorem pk_clay (ok : wOk w n g o) : PK (fClay w x) := by
  by_cases c0 : 1 ≤ x ∧ x ≤ 99
  rotate_left
  · exact PK2 (if_neg c0)
  by_cases c1 : w 16 0 + x ≤ 999
  rotate_left
  · exact PK3 ((if_pos c0).trans (if_neg c1))
  have x0 : 0 ≤ x := Int32.le_trans (by decide) c0.1
  have hx : zn x ≤ 99 := zn_le (a := 99) c0.2 x0 (by omega)
  have hs : zn (w 16 0) ≤ 999 := zn_le (a := 999) ok.T.2.2 ok.T.2.1 (by omega)
  have h0 : 0 ≤ w 16 0 + x := by
    rw [zn_nn ok.T.2.1, zn_nn x0]
    exact nn_add (by omega) (by omega)
  refine PK0 ((if_pos c0).trans (if_pos c1)) h0 (wOk.mk (n := n) (g := g) (o := o) ?_ ?_ ?_)
  · exact wOkA_up (wOkA_up ok.A (Or.inr ⟨rfl, by omega⟩)) (Or.inr ⟨rfl, by omega⟩)
  · obtain ⟨b1, b2, b3⟩ := ok.B
    refine ⟨?_, b2, b3⟩
    have e : w 16 1 + x = w 16 0 + x + aSm (fun j => fSz (w 6 j)) n 0 := by
      rw [b1, Int32.add_assoc, Int32.add_comm (aSm (fun j => fSz (w 6 j)) n 0) x, ← Int32.add_assoc]
    exact e
  · exact ⟨ok.T.1, h0, c1⟩
theorem okA_add (ok : wOkA w n g o) (hn : n < 60) (hx : ∃ k, aIx x 4 = some k) : wOkA (wAdd w n x y) (n + 1) g o := by
  refine ⟨okN_add ok.1 hn, fun j hj => ?_, ?_, fun i hi => ?_⟩
  · by_cases e : j = n
    · subst e
      refine ⟨?_, Or.inl ?_, Or.inl ⟨?_, ?_, ?_⟩⟩
      · have : wAdd w j x y 6 j = x := by
          unfold wAdd
          rw [upw_ne (by omega), upw_ne (by omega), upw_ne (by omega), upw_ne (by omega), upw_ne (by omega), upw_ne (by omega), upw_ne (by omega), upw_eq]
        rw [this]
        exact hx
      · unfold wAdd
        rw [upw_ne (by omega), upw_ne (by omega), upw_ne (by omega), upw_ne (by omega), upw_eq]
      · unfold wAdd
        rw [upw_ne (by omega), upw_ne (by omega), upw_ne (by omega), upw_ne (by omega), upw_ne (by omega), upw_eq]
      · unfold wAdd
        rw [upw_ne (by omega), upw_eq]
      · unfold wAdd
        rw [upw_ne (by omega), upw_ne (by omega), upw_eq]
    · have e1 : ∀ a, ¬ a = 16 → wAdd w n x y a j = w a j := fun a ha => by
        unfold wAdd
        rw [upw_ne (by omega), upw_ne (by omega), upw_ne (by omega), upw_ne (by omega), upw_ne (by omega), upw_ne (by omega), upw_ne (by omega), upw_ne (by omega)]
      have q := ok.2.1 j (by omega)
      unfold okW at q ⊢
      rw [e1 6 (by omega), e1 2 (by omega), e1 1 (by omega), e1 5 (by omega), e1 4 (by omega)]
      exact q
  · exact okS_eq (v := wAdd w n x y) (w := w) rfl rfl ok.2.2.1
  · exact okO_eq (v := wAdd w n x y) (w := w) rfl rfl rfl (ok.2.2.2 i hi)
theorem wAdd_6 : wAdd w n x y 6 n = x := by
  unfold wAdd
  rw [upw_ne (by omega), upw_ne (by omega), upw_ne (by omega), upw_ne (by omega), upw_ne (by omega), upw_ne (by omega), upw_ne (by omega), upw_eq]
theorem wAdd_1 : wAdd w n x y 1 n = 0 := by
  unfold wAdd
  rw [upw_ne (by omega), upw_ne (by omega), upw_ne (by omega), upw_ne (by omega), upw_ne (by omega), upw_eq]
theorem wAdd_o {a : Nat} (ha : ¬ (a = 16 ∧ j = 3)) (hj : ¬ j = n ∨ ¬ (1 ≤ a ∧ a ≤ 7)) : wAdd w n x y a j = w a j := by
  unfold wAdd
  rw [upw_ne (by omega), upw_ne (by omega), upw_ne (by omega), upw_ne (by omega), upw_ne (by omega), upw_ne (by omega), upw_ne (by omega), upw_ne (by omega)]
/-- wares more: the balance -/
def okC (w : aW) (n o : Nat) (b s : Int32) : Prop := w 16 1 = b ∧ w 16 0 = s ∧ (∀ i, i < o → 0 ≤ w 12 i) ∧ ∀ k, k < 4 → nSold w n k = nSoldOf w o k
theorem okC_add {b s : Int32} (c : okC w n o b s) : okC (wAdd w n x y) (n + 1) o b s := by
  obtain ⟨c1, c2, c3, c4⟩ := c
  refine ⟨?_, ?_, fun i hi => ?_, fun k hk => ?_⟩
  · rw [wAdd_o (by omega) (by omega)]
    exact c1
  · rw [wAdd_o (by omega) (by omega)]
    exact c2
  · rw [wAdd_o (by omega) (by omega)]
    exact c3 i hi
  · have e1 : nSold (wAdd w n x y) (n + 1) k = nSold w n k := by
      unfold nSold
      rw [nSm_snoc, nSm_congr (f := fun j => if wAdd w n x y 1 j = 4 ∧ wAdd w n x y 6 j = Int32.ofNat k then 1 else 0) (g := fun j => if w 1 j = 4 ∧ w 6 j = Int32.ofNat k then 1 else 0) n 0 fun j _ hj => by rw [wAdd_o (a := 1) (by omega) (by omega), wAdd_o (a := 6) (by omega) (by omega)]]
      rw [Nat.zero_add, wAdd_1, if_neg (fun q => absurd q.1 (by decide))]
      rfl
    have e2 : nSoldOf (wAdd w n x y) o k = nSoldOf w o k := nSm_congr o 0 fun j _ hj => by rw [wAdd_o (a := 12) (by omega) (by omega), wAdd_o (a := 13) (by omega) (by omega)]
    rw [e1, e2, c4 k hk]
theorem sum_add : aSm (fun j => fSz (wAdd w n x y 6 j)) (n + 1) 0 = aSm (fun j => fSz (w 6 j)) n 0 + fSz x := by
  rw [aSm_succ, Nat.zero_add, wAdd_6, aSm_congr (f := fun j => fSz (wAdd w n x y 6 j)) (g := fun j => fSz (w 6 j)) n 0 fun j _ hj => by rw [wAdd_o (by omega) (by omega)]]
theorem okA_adds (ok : wOkA w n g o) (hx : ∃ k, aIx x 4 = some k) : ∀ k, n + k ≤ 60 → wOkA (wAdds w n x y k) (n + k) g o
  | 0, _ => ok
  | k + 1, h => okA_add (okA_adds ok hx k (by omega)) (by omega) hx
theorem okC_adds {b s : Int32} (c : okC w n o b s) : ∀ k, okC (wAdds w n x y k) (n + k) o b s
  | 0 => c
  | k + 1 => okC_add (okC_adds c k)
theorem sum_adds : ∀ k, aSm (fun j => fSz (wAdds w n x y k 6 j)) (n + k) 0 = aSm (fun j => fSz (w 6 j)) n 0 + Int32.ofNat k * fSz x
  | 0 => by
    have e : Int32.ofNat 0 * fSz x = 0 := by rw [show Int32.ofNat 0 = 0 from rfl, Int32.zero_mul]
    rw [e, Int32.add_zero]
    rfl
  | k + 1 => by
    have h := sum_add (w := wAdds w n x y k) (n := n + k) (x := x) (y := y)
    show aSm (fun j => fSz (wAdd (wAdds w n x y k) (n + k) x y 6 j)) (n + k + 1) 0 = _
    rw [h, sum_adds k, Int32.ofNat_add]
    show _ = _ + (Int32.ofNat k + 1) * fSz x
    grind
theorem adds_0 {i : Nat} : ∀ k, wAdds w n x y k 0 i = w 0 i
  | 0 => rfl
  | k + 1 => (wAdd_o (by omega) (by omega)).trans (adds_0 k)
theorem pk_cast (ok : wOk w n g o) : PK (fCast w n x y z) := by
  by_cases c0 : (0 ≤ x ∧ x ≤ 3) ∧ (1 ≤ y ∧ y ≤ 20) ∧ (30 ≤ z ∧ z ≤ 60)
  rotate_left
  · exact PK2 (if_neg c0)
  by_cases c1 : w 16 3 + y ≤ 60
  rotate_left
  · exact PK3 ((if_pos c0).trans (if_neg c1))
  by_cases c2 : y * fSz x ≤ w 16 0
  rotate_left
  · exact PK3 ((if_pos c0).trans ((if_pos c1).trans (if_neg c2)))
  have y0 : 0 ≤ y := Int32.le_trans (by decide) c0.2.1.1
  have hy : zn y ≤ 20 := zn_le (a := 20) c0.2.1.2 y0 (by omega)
  have ey := zn_nn y0
  have hs : zn (w 16 0) ≤ 999 := zn_le (a := 999) ok.T.2.2 ok.T.2.1 (by omega)
  have es := zn_nn ok.T.2.1
  have hxk : ∃ k, aIx x 4 = some k := ⟨_, aIx_le (m := 3) c0.1.1 c0.1.2 (by omega)⟩
  obtain ⟨f1, f4, ef⟩ := fSz_n hxk
  have hn := ok.1.2.1
  have e1 : w 16 3 + y = Int32.ofNat (n + zn y) := by rw [ok.1.1, Int32.ofNat_add, ← ey]
  have hnk : n + zn y ≤ 60 := (zI_le (i := n + zn y) (n := 60) e1 rfl (by omega) (by omega)).mp c1
  have ep : y * fSz x = Int32.ofNat (zn y * zn (fSz x)) := by rw [Int32.ofNat_mul, ← ey, ← ef]
  have hp : zn y * zn (fSz x) ≤ 80 := by
    have := Nat.mul_le_mul hy f4
    omega
  have hps : zn y * zn (fSz x) ≤ zn (w 16 0) := (zI_le ep es (by omega) (by omega)).mp c2
  have e2 : w 16 0 - y * fSz x = Int32.ofNat (zn (w 16 0) - zn y * zn (fSz x)) := by
    have h : w 16 0 = Int32.ofNat (zn (w 16 0) - zn y * zn (fSz x)) + y * fSz x := by
      rw [ep, ← Int32.ofNat_add, Nat.sub_add_cancel hps]
      exact es
    rw [h, Int32.add_sub_cancel]
    rw [← h]
  have h0 : 0 ≤ w 16 3 + y := by
    rw [e1]
    exact Int32.not_lt.mp (ofN_lt0 (by omega))
  have C0 : okC (upw w 16 0 (w 16 0 - y * fSz x)) n o (w 16 1) (w 16 0 - y * fSz x) := ⟨rfl, rfl, ok.B.2.1, ok.B.2.2⟩
  obtain ⟨k1, k2, k3, k4⟩ := okC_adds (x := x) (y := z) C0 (zn y)
  refine PK0 ((if_pos c0).trans ((if_pos c1).trans (if_pos c2))) h0 (wOk.mk (n := n + zn y) (g := g) (o := o) ?_ ⟨?_, k3, k4⟩ ⟨fun i hi => ?_, ?_, ?_⟩)
  · exact okA_adds (wOkA_up ok.A (Or.inr ⟨rfl, by omega⟩)) hxk (zn y) hnk
  · have e := sum_adds (w := upw w 16 0 (w 16 0 - y * fSz x)) (n := n) (x := x) (y := z) (zn y)
    have e9 : aSm (fun j => fSz (upw w 16 0 (w 16 0 - y * fSz x) 6 j)) n 0 = aSm (fun j => fSz (w 6 j)) n 0 := rfl
    have b1 := ok.B.1
    rw [k1, k2, e, e9, ← ey]
    generalize aSm (fun j => fSz (w 6 j)) n 0 = S at *
    generalize y * fSz x = Y at *
    rw [b1]
    grind
  · rw [adds_0]
    exact ok.T.1 i hi
  · rw [k2, e2]
    exact Int32.not_lt.mp (ofN_lt0 (by omega))
  · rw [k2, e2]
    exact (zI_le (x := Int32.ofNat (zn (w 16 0) - zn y * zn (fSz x))) (y := 999) (n := 999) rfl rfl (by omega) (by omega)).mpr (by omega)
theorem pk_coat (ok : wOk w n g o) : PK (fCoat w x y z) := by
  by_cases c0 : 0 ≤ x ∧ x < w 16 3
  rotate_left
  · exact PK1 (if_neg c0)
  by_cases c1 : (0 ≤ y ∧ y ≤ 3) ∧ (1 ≤ z ∧ z ≤ 9)
  rotate_left
  · exact PK2 ((if_pos c0).trans (if_neg c1))
  by_cases c2 : w 1 (zn x) = 0
  rotate_left
  · exact PK3 ((if_pos c0).trans ((if_pos c1).trans (if_neg c2)))
  have hyk : aIx y 4 = some (zn y) := aIx_le (m := 3) c1.1.1 c1.1.2 (by omega)
  have z0 : 0 ≤ z := Int32.le_trans (by decide) c1.2.1
  have h0 : 0 ≤ fMt y - 4 * z := by
    rw [fMt_eq hyk, zn_nn c1.1.1, zn_nn z0]
    have h1 : zn y ≤ 3 := zn_le (a := 3) c1.1.2 c1.1.1 (by omega)
    have h2 : zn z ≤ 9 := zn_le (a := 9) c1.2.2 z0 (by omega)
    exact melt_nn ⟨zn y, by omega⟩ ⟨zn z, by omega⟩
  refine PK0 ((if_pos c0).trans ((if_pos c1).trans (if_pos c2))) h0 (wOk.mk (n := n) (g := g) (o := o) ?_ ?_ ?_)
  · refine wOkA_cg (w := w) (fun a j h => (upw_ne (by omega)).trans (upw_ne (by omega))) (fun j hj => ?_) ok.A
    have q := ok.2.1 j hj
    have e : ∀ a, ¬ (a = 2 ∨ a = 3) → upw (upw w 2 (zn x) y) 3 (zn x) z a j = w a j := fun a ha => (upw_ne (by omega)).trans (upw_ne (by omega))
    unfold okW at q ⊢
    rw [e 6 (by omega), e 1 (by omega), e 5 (by omega), e 4 (by omega)]
    refine ⟨q.1, ?_, q.2.2⟩
    rw [upw_ne (by omega)]
    by_cases c : j = zn x
    · rw [c, upw_eq]
      exact Or.inr ⟨_, hyk⟩
    · rw [upw_ne (by omega)]
      exact q.2.1
  · exact okB_cg ⟨rfl, rfl⟩ (fun _ _ => rfl) (fun _ _ => Iff.rfl) (fun _ => rfl) (fun _ => rfl) ok.B
  · exact okT_cg (fun _ _ => rfl) rfl ok.T
end FB
