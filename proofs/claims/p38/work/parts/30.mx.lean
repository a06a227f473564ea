/-! THE CLASS: emptying, orders, sales, accounts -/
section MX
variable {sn : Nat} {sf : Nat → Int32} {w w1 : aW} {n g i o : Nat} {x y z v u : Int32}
def wTo (w : aW) (j : Nat) : Int32 := if w 1 j = 2 then (if w 5 j = 3 then 5 else 3) else 0
def wOutK (w : aW) (y : Int32) (k : Nat) : aW := fun a j => if (a = 1 ∨ a = 4) ∧ j < k ∧ w 4 j = y then (if a = 1 then wTo w j else -1) else w a j
theorem wOutK_out {a j k : Nat} (h : ¬ j < k ∨ ¬ (a = 1 ∨ a = 4)) : wOutK w y k a j = w a j := by
  unfold wOutK
  rw [if_neg (fun q => by rcases h with h | h; exact h q.2.1; exact h q.1)]
theorem wOutK_1 {k : Nat} (h : w 4 k = y) : upw (upw (wOutK w y k) 4 k (-1)) 1 k (wTo w k) = wOutK w y (k + 1) := by
  funext a j
  by_cases e : j = k
  · subst e
    by_cases e1 : a = 1
    · subst e1
      show upd _ j _ j = _
      unfold wOutK
      rw [if_pos ⟨Or.inl rfl, Nat.lt_succ_self _, h⟩, if_pos rfl]
      exact if_pos rfl
    · by_cases e4 : a = 4
      · subst e4
        show upd _ j _ j = _
        unfold wOutK
        rw [if_pos ⟨Or.inr rfl, Nat.lt_succ_self _, h⟩, if_neg (by decide)]
        exact if_pos rfl
      · have e2 : ¬ (a = 1 ∨ a = 4) := by omega
        rw [wOutK_out (Or.inr e2)]
        show (if a = 1 then _ else (if a = 4 then _ else wOutK w y j a)) j = _
        rw [if_neg e1, if_neg e4, wOutK_out (Or.inr e2)]
  · have e3 : wOutK w y (k + 1) a j = wOutK w y k a j := by
      unfold wOutK
      by_cases q : j < k
      · have q2 : j < k + 1 := by omega
        simp only [q, q2]
      · have q2 : ¬ j < k + 1 := by omega
        simp only [q, q2, false_and, and_false, if_false]
    rw [e3]
    show (if a = 1 then upd _ k _ else (if a = 4 then upd _ k _ else wOutK w y k a)) j = _
    by_cases e1 : a = 1
    · rw [if_pos e1]
      show (if j = k then _ else _) = _
      rw [if_neg e]
      show (if (1 : Nat) = 4 then _ else wOutK w y k 1) j = _
      rw [if_neg (by decide), e1]
    · rw [if_neg e1]
      by_cases e4 : a = 4
      · rw [if_pos e4]
        show (if j = k then _ else _) = _
        rw [if_neg e, e4]
      · rw [if_neg e4]
theorem wOutK_0 {k : Nat} (h : ¬ w 4 k = y) : wOutK w y (k + 1) = wOutK w y k := by
  funext a j
  unfold wOutK
  by_cases e : j = k
  · subst e
    rw [if_neg (fun q => h q.2.2), if_neg (fun q => absurd q.2.1 (Nat.lt_irrefl _))]
  · by_cases q : j < k
    · have q2 : j < k + 1 := by omega
      simp only [q, q2]
    · have q2 : ¬ j < k + 1 := by omega
      simp only [q, q2, false_and, and_false, if_false]
theorem wOutK_z : wOutK w y 0 = w := by
  funext a j
  exact wOutK_out (Or.inl (Nat.not_lt_zero _))
def wIn (w : aW) (n : Nat) (y : Int32) : Int32 := aSm (fun j => if w 4 j = y then 1 else 0) n 0
def wStored (w : aW) (n : Nat) (y : Int32) : Int32 := aSm (fun j => if w 4 j = y ∧ wTo w j = 3 then 1 else 0) n 0
def fEmpty (w : aW) (n : Nat) (x : Int32) : aZ := if 0 ≤ x ∧ x < w 16 4 then if wIn w n x = 0 then (-3, wNote w 9 0) else (wStored w n x, wOutK w x n) else (-1, w)
theorem r_emptySaggar (d : Nat) (hn : w 16 3 = Int32.ofNat n) (hle : n ≤ 60) : rZ sn sf w (d + 3) m_X6_emptySaggar [.ref 8, .int x] (fEmpty w n x) := by
  have main : aEnd (aStep (aRun false (d + 2)) aCls [] aB_X6_emptySaggar (some .int) false) (39, [some (.ref 8), some (.int x), some (.int 0), some (.int 0)], [], aHw sn sf (wOutK w x 0), (0, 0)) (.inl (some (.int (wStored w n x))), aHw sn sf (wOutK w x n), (0, 0)) := by
    refine k_ind (τ := Unit) (n := n) (T := fun u i x1 => (39, [some (.ref 8), some (.int x), some (.int (aSm (fun j => if w 4 j = x ∧ wTo w j = 3 then 1 else 0) i 0)), some (.int x1)], [], aHw sn sf (wOutK w x i), (0, 0))) (fun i x1 u hi hx1 r ih => ?_) (fun x1 u hx1 => ?_) n 0 0 () (by omega) rfl
    · have key : ∀ f w1, f = aSm (fun j => if w 4 j = x ∧ wTo w j = 3 then 1 else 0) i 0 + (if w 4 i = x ∧ wTo w i = 3 then 1 else 0) → w1 = wOutK w x (i + 1) → aEnd (aStep (aRun false (d + 2)) aCls [] aB_X6_emptySaggar (some .int) false) (39, [some (.ref 8), some (.int x), some (.int f), some (.int (x1 + 1))], [], aHw sn sf w1, (0, 0)) r := by
        intro f w1 e1 e2
        have ih := ih ()
        rw [aSm_succ, Nat.zero_add] at ih
        rw [e1, e2]
        exact ih
      have hi1 : aIx x1 60 = some i := aIx_of hx1 (by omega) (by omega)
      have f1 : ∀ a, wOutK w x i a i = w a i := fun a => wOutK_out (Or.inl (Nat.lt_irrefl _))
      have hn' : wOutK w x i 16 3 = Int32.ofNat n := (wOutK_out (Or.inr (by decide))).trans hn
      have ht : wTo w i = (if wOutK w x i 1 i = 2 then (if wOutK w x i 5 i = 3 then 5 else 3) else 0) := by rw [f1, f1]; rfl
      refine aVn_end (stop := fun p => p == 39) 60 ?_
      refine And.intro (fun c => absurd (zgeT c hx1 hn' (by omega) (by omega)) (by omega)) (fun _ => ?_)
      refine Exists.intro i (And.intro hi1 ?_)
      refine And.intro (fun c => ?_) (fun c => ?_)
      · have h3' : ¬ wOutK w x i 4 i = x := cT c
        have h3 : ¬ w 4 i = x := fun q => h3' ((f1 4).trans q)
        exact key _ _ (by rw [if_neg (fun q => h3 q.1), Int32.add_zero]) (wOutK_0 h3).symm
      have h3' : wOutK w x i 4 i = x := Decidable.not_not.mp (cF c)
      have h3 : w 4 i = x := (f1 4).symm.trans h3'
      refine Exists.intro _ (And.intro (r_takeOut (w := wOutK w x i) (v := wTo w i) (d + 1) hi1 ht) ?_)
      have hW := wOutK_1 h3
      have e5 : upw (upw (wOutK w x i) 4 i (-1)) 1 i (wTo w i) 1 i = wTo w i := if_pos rfl
      refine Exists.intro i (And.intro hi1 ?_)
      refine And.intro (fun c => ?_) (fun c => ?_)
      · have h4' : ¬ upw (upw (wOutK w x i) 4 i (-1)) 1 i (wTo w i) 1 i = 3 := cT c
        have h4 : ¬ wTo w i = 3 := fun q => h4' (e5.trans q)
        exact key _ _ (by rw [if_neg (fun q => h4 q.2)]) hW
      · have h4' : upw (upw (wOutK w x i) 4 i (-1)) 1 i (wTo w i) 1 i = 3 := Decidable.not_not.mp (cF c)
        have h4 : wTo w i = 3 := e5.symm.trans h4'
        exact key _ _ (by rw [if_pos ⟨h3, h4⟩]) hW
    · have hn' : wOutK w x n 16 3 = Int32.ofNat n := (wOutK_out (Or.inr (by decide))).trans hn
      refine aVn_end (stop := fun p => p == 39) 60 ?_
      exact And.intro (fun c => rfl) (fun c => absurd (zgeF c hx1 hn' (by omega) (by omega)) (by omega))
  rw [wOutK_z] at main
  refine aRun_of rfl (aVn_end (stop := fun p => p == 39) 60 ?_)
  refine Exists.intro _ (And.intro (r_has3 (d + 1) rfl) ?_)
  refine And.intro (fun c => ?_) (fun c => ?_)
  rotate_left
  · have h0 := bNeF c
    exact aRz (p := (-1, w)) (by rw [fEmpty, if_neg h0])
  have h1 := bNeT c
  refine Exists.intro _ (And.intro (r_countIn (d + 1) hn hle) ?_)
  refine And.intro (fun c => ?_) (fun c => ?_)
  rotate_left
  · have h2 : wIn w n x = 0 := Decidable.not_not.mp (cF c)
    refine Exists.intro _ (And.intro (r_refuse d) ?_)
    exact aRz (p := (-3, wNote w 9 0)) (by rw [fEmpty, if_pos h1, if_pos h2])
  have h2 : ¬ wIn w n x = 0 := cT c
  have e : ((wStored w n x, wOutK w x n) : aZ) = fEmpty w n x := by rw [fEmpty, if_pos h1, if_neg h2]
  exact aEnd_eq main (aRz e)
def oOk (x y z u v : Int32) : Prop := (0 ≤ x ∧ x ≤ 6) ∧ (0 ≤ y ∧ y ≤ 6) ∧ (0 ≤ z ∧ z ≤ 6) ∧ (0 ≤ u ∧ u ≤ 6) ∧ (0 ≤ v ∧ v ≤ 3)
def wOrd (w : aW) (o : Nat) (x y z u v s : Int32) : aW := upw (upw (upw (upw (wAdd1 w o v s) 13 (o * 4) x) 13 (o * 4 + 1) y) 13 (o * 4 + 2) z) 13 (o * 4 + 3) u
theorem r_addOrderBad {s : Int32} (d : Nat) (h : ¬ (oOk x y z u v ∧ ¬ x + y + z + u = 0)) : rZ sn sf w (d + 3) m_X6_addOrder [.ref 8, .int x, .int y, .int z, .int u, .int v, .int s] (-2, w) := by
  refine aRun_of rfl (aVn_end (stop := fun p => false) 60 ?_)
  refine Exists.intro _ (And.intro (r_isFrom (d + 1) rfl) ?_)
  refine And.intro (fun c => rfl) (fun c => ?_)
  have h1 := bEqF c
  refine Exists.intro _ (And.intro (r_isFrom (d + 1) rfl) ?_)
  refine And.intro (fun c => rfl) (fun c => ?_)
  have h2 := bEqF c
  refine Exists.intro _ (And.intro (r_isFrom (d + 1) rfl) ?_)
  refine And.intro (fun c => rfl) (fun c => ?_)
  have h3 := bEqF c
  refine Exists.intro _ (And.intro (r_isFrom (d + 1) rfl) ?_)
  refine And.intro (fun c => rfl) (fun c => ?_)
  have h4 := bEqF c
  refine Exists.intro _ (And.intro (r_isFrom (d + 1) rfl) ?_)
  refine And.intro (fun c => rfl) (fun c => ?_)
  have h5 := bEqF c
  refine And.intro (fun c => ?_) (fun c => rfl)
  have h6 : ¬ x + y + z + u = 0 := cT c
  exact absurd ⟨⟨h1, h2, h3, h4, h5⟩, h6⟩ h
theorem oAs {k : Nat} {v : Int32} (hv : v = Int32.ofNat o) (ho : o < 6) (hk : k < 4) : aIx (v * 4 + Int32.ofNat k) 24 = some (o * 4 + k) := aIx_of (by rw [hv, Int32.ofNat_add, Int32.ofNat_mul]; rfl) (by omega) (by omega)
theorem r_addOrder {s t : Int32} (d : Nat) (ho : w 16 5 = Int32.ofNat o) (ho6 : o ≤ 6) (h : oOk x y z u v ∧ ¬ x + y + z + u = 0) (ht : t = if s = 0 then 0 else 1) : rZ sn sf w (d + 3) m_X6_addOrder [.ref 8, .int x, .int y, .int z, .int u, .int v, .int s] (if w 16 5 < 6 then (w 16 5, wOrd w o x y z u v t) else (-3, wNote w 1 6)) := by
  obtain ⟨⟨h1, h2, h3, h4, h5⟩, h6⟩ := h
  have e1 : w 16 5 + 1 - 1 = w 16 5 := by rw [Int32.add_sub_cancel]
  have hh : w 16 5 < 6 → 0 ≤ w 16 5 ∧ w 16 5 < (wAdd1 w o v t) 16 5 := by
    intro h7
    have ho5 : o < 6 := (zI_lt (n := 6) ho rfl (by omega) (by omega)).mp h7
    have e2 : (wAdd1 w o v t) 16 5 = w 16 5 + 1 := rfl
    rw [e2]
    exact ⟨(zI_le (x := 0) (i := 0) rfl ho (by omega) (by omega)).mpr (by omega), (zI_lt ho (zI_s ho) (by omega) (by omega)).mpr (by omega)⟩
  have radd : o < 6 → rX sn sf w (wAdd1 w o v t) (d + 2) m_X1_add [.ref 21, .int v, .int s] (w 16 5) := by
    intro ho5
    have q := r_add1 (sn := sn) (sf := sf) (x := v) (v := t) (d + 1) ho ho5 ht
    rw [e1] at q
    exact q
  refine aRun_of rfl (aVn_end (stop := fun p => false) 90 ?_)
  refine Exists.intro _ (And.intro (r_isFrom (d + 1) rfl) ?_)
  refine And.intro (fun c => absurd h1 (bEqT c)) (fun c => ?_)
  refine Exists.intro _ (And.intro (r_isFrom (d + 1) rfl) ?_)
  refine And.intro (fun c => absurd h2 (bEqT c)) (fun c => ?_)
  refine Exists.intro _ (And.intro (r_isFrom (d + 1) rfl) ?_)
  refine And.intro (fun c => absurd h3 (bEqT c)) (fun c => ?_)
  refine Exists.intro _ (And.intro (r_isFrom (d + 1) rfl) ?_)
  refine And.intro (fun c => absurd h4 (bEqT c)) (fun c => ?_)
  refine Exists.intro _ (And.intro (r_isFrom (d + 1) rfl) ?_)
  refine And.intro (fun c => absurd h5 (bEqT c)) (fun c => ?_)
  refine And.intro (fun c => ?_) (fun c => absurd h6 (cF c))
  refine And.intro (fun c => ?_) (fun c => ?_)
  · have h7 : w 16 5 < 6 := cT c
    have ho5 : o < 6 := (zI_lt (n := 6) ho rfl (by omega) (by omega)).mp h7
    have hh := hh h7
    refine Exists.intro _ (And.intro (radd ho5) ?_)
    refine Exists.intro _ (And.intro (r_ask (w := wAdd1 w o v t) d hh (oAs (k := 0) ho ho5 (by omega))) ?_)
    refine Exists.intro _ (And.intro (r_ask (w := upw (wAdd1 w o v t) 13 (o * 4) x) d hh (oAs (k := 1) ho ho5 (by omega))) ?_)
    refine Exists.intro _ (And.intro (r_ask (w := upw (upw (wAdd1 w o v t) 13 (o * 4) x) 13 (o * 4 + 1) y) d hh (oAs (k := 2) ho ho5 (by omega))) ?_)
    refine Exists.intro _ (And.intro (r_ask (w := upw (upw (upw (wAdd1 w o v t) 13 (o * 4) x) 13 (o * 4 + 1) y) 13 (o * 4 + 2) z) d hh (oAs (k := 3) ho ho5 (by omega))) ?_)
    exact aRz (p := (w 16 5, wOrd w o x y z u v t)) (by rw [if_pos h7])
  · have h7 : ¬ w 16 5 < 6 := cF c
    refine Exists.intro _ (And.intro (r_refuse d) ?_)
    exact aRz (p := (-3, wNote w 1 6)) (by rw [if_neg h7])
theorem r_noteFailed1 (d : Nat) (hy : ¬ y = -3) : rV sn sf w (wAhead1 (wNote w 13 0) 11 x) (d + 2) m_X6_noteFailedStep [.ref 8, .int x, .int y] := by
  refine aRun_of rfl (aVn_end (stop := fun p => false) 60 ?_)
  refine And.intro (fun c => absurd (cT c) hy) (fun _ => ?_)
  refine Exists.intro _ (And.intro (r_note d) ?_)
  refine Exists.intro _ (And.intro (r_noteAhead1 (w := wNote w 13 0) d rfl) ?_)
  exact rfl
theorem r_noteFailed2 (d : Nat) (hy : y = -3) (hc : w 16 6 = 1) : rV sn sf w (wAhead1 w 11 x) (d + 2) m_X6_noteFailedStep [.ref 8, .int x, .int y] := by
  refine aRun_of rfl (aVn_end (stop := fun p => false) 60 ?_)
  refine And.intro (fun _ => ?_) (fun c => absurd hy (cF c))
  refine Exists.intro _ (And.intro (r_noteAhead1 d hc) ?_)
  exact rfl
theorem r_noteFailed3 (d : Nat) (hy : y = -3) (hc : w 16 6 = 2) : rV sn sf w (wAhead2 w 11 x) (d + 2) m_X6_noteFailedStep [.ref 8, .int x, .int y] := by
  refine aRun_of rfl (aVn_end (stop := fun p => false) 60 ?_)
  refine And.intro (fun _ => ?_) (fun c => absurd hy (cF c))
  refine Exists.intro _ (And.intro (r_noteAhead2 d hc) ?_)
  exact rfl
/-- may a ware be sold: of that kind, that glaze, no worse -/
def wMay (w : aW) (o k j : Nat) : Prop := (w 1 j = 3 ∧ w 6 j = Int32.ofNat k ∧ w 2 j = w 10 o) ∧ w 5 j ≤ (if w 11 o = 1 then 2 else 1)
def wSellB (w : aW) (o k j : Nat) : Bool := decide ((w 1 j = 3 ∧ w 6 j = Int32.ofNat k ∧ w 2 j = w 10 o) ∧ w 5 j ≤ (if w 11 o = 1 then 2 else 1))
theorem wSellB_t (h : wMay w o i g) : wSellB w o i g = true := decide_eq_true (p := (w 1 g = 3 ∧ w 6 g = Int32.ofNat i ∧ w 2 g = w 10 o) ∧ w 5 g ≤ (if w 11 o = 1 then 2 else 1)) h
theorem wSellB_f (h : ¬ wMay w o i g) : wSellB w o i g = false := decide_eq_false (p := (w 1 g = 3 ∧ w 6 g = Int32.ofNat i ∧ w 2 g = w 10 o) ∧ w 5 g ≤ (if w 11 o = 1 then 2 else 1)) h
/-- the first wares that may be sold, so many: from place i on, of m -/
def wSellI (o k : Nat) : Nat → Nat → Int32 → aW → aW
  | 0, _, _, w => w
  | m + 1, i, l, w => if 0 < l then (if wSellB w o k i = true then wSellI o k m (i + 1) (l - 1) (upw w 1 i 4) else wSellI o k m (i + 1) l w) else w
def wSellK (n o : Nat) : Nat → aW → aW
  | 0, w => w
  | k + 1, w => wSellI o k n 0 (wSellK n o k w 13 (o * 4 + k)) (wSellK n o k w)
def wTake (n o : Nat) (w : aW) : aW := upw (wSellK n o 4 w) 12 o (wSellK n o 4 w 12 o + 1)
theorem wSellI_o (a j : Nat) (ha : ¬ a = 1) (k : Nat) : ∀ (m i : Nat) (l : Int32) (w : aW), wSellI o k m i l w a j = w a j
  | 0, _, _, _ => rfl
  | m + 1, i, l, w => by
    show (if 0 < l then (if wSellB w o k i = true then wSellI o k m (i + 1) (l - 1) (upw w 1 i 4) else wSellI o k m (i + 1) l w) else w) a j = _
    split
    · split
      · rw [wSellI_o a j ha k m]
        show (if a = 1 then _ else w a) j = _
        rw [if_neg ha]
      · exact wSellI_o a j ha k m _ _ _
    · rfl
theorem wSellK_o (a j : Nat) (ha : ¬ a = 1) : ∀ (k : Nat) (w : aW), wSellK n o k w a j = w a j
  | 0, _ => rfl
  | k + 1, w => by
    show wSellI o k n 0 _ (wSellK n o k w) a j = _
    rw [wSellI_o a j ha, wSellK_o a j ha k w]
theorem l_takeSet {F : aF} {lo : Int32} {K : Nat} {X : Int32} (hn : w 16 3 = Int32.ofNat n) (hle : n ≤ 60) (hy : y = Int32.ofNat o) (ho : o < 6) (hX : X = Int32.ofNat K) (hlo : lo = if w 11 o = 1 then 2 else 1)
    (hst : ∀ (w1 : aW) (x1 : Int32) (i : Nat), aIx x1 60 = some i → w1 10 o = w 10 o → F m_X5_isInStore [.ref 10, .int x1, .int X, .int (w 10 o)] (aHw sn sf w1) = some (.inl (some (.int (if w1 1 i = 3 ∧ w1 6 i = X ∧ w1 2 i = w 10 o then 1 else 0))), aHw sn sf w1, (0, 0))) (r : aR)
    (he : ∀ (w1 : aW) (l x1 : Int32), w1 = wSellI o K n 0 (w 13 (o * 4 + K)) w → aEnd (aStep F aCls [] aB_X6_takeSet none false) (113, [some (.ref 8), some (.int y), some (.int lo), some (.int X), some (.int l), some (.int x1)], [], aHw sn sf w1, (0, 0)) r) :
    ∀ (m i : Nat) (w1 : aW) (l x1 : Int32), i + m = n → x1 = Int32.ofNat i → wSellI o K m i l w1 = wSellI o K n 0 (w 13 (o * 4 + K)) w → (∀ a j, ¬ a = 1 → w1 a j = w a j) →
    aEnd (aStep F aCls [] aB_X6_takeSet none false) (40, [some (.ref 8), some (.int y), some (.int lo), some (.int X), some (.int l), some (.int x1)], [], aHw sn sf w1, (0, 0)) r
  | 0, i, w1, l, x1, h, hx, hw, hs => by
    have hn1 : w1 16 3 = Int32.ofNat n := (hs 16 3 (by decide)).trans hn
    refine aVn_end (stop := fun p => p == 113 || p == 40) 60 ?_
    refine And.intro (fun _ => ?_) (fun c => absurd (zgeF c hx hn1 (by omega) (by omega)) (by omega))
    exact he w1 l x1 hw
  | m + 1, i, w1, l, x1, h, hx, hw, hs => by
    have hn1 : w1 16 3 = Int32.ofNat n := (hs 16 3 (by decide)).trans hn
    have hi1 : aIx x1 60 = some i := aIx_of hx (by omega) (by omega)
    have hoi : aIx y 6 = some o := aIx_of hy ho (by omega)
    have e10 : w1 10 o = w 10 o := hs 10 o (by decide)
    have e11 : w1 11 o = w 11 o := hs 11 o (by decide)
    have hw : (if 0 < l then (if wSellB w1 o K i = true then wSellI o K m (i + 1) (l - 1) (upw w1 1 i 4) else wSellI o K m (i + 1) l w1) else w1) = wSellI o K n 0 (w 13 (o * 4 + K)) w := hw
    refine aVn_end (stop := fun p => p == 113 || p == 40) 60 ?_
    refine And.intro (fun c => absurd (zgeT c hx hn1 (by omega) (by omega)) (by omega)) (fun _ => ?_)
    refine And.intro (fun c => ?_) (fun c => ?_)
    · rw [if_neg (Int32.not_lt.mpr (cT c))] at hw
      exact he w1 l x1 hw
    have h0 : 0 < l := Int32.not_le.mp (cF c)
    rw [if_pos h0] at hw
    refine Exists.intro o (And.intro hoi ?_)
    have hst1 := hst w1 x1 i hi1 e10
    rw [← e10] at hst1
    refine Exists.intro _ (And.intro hst1 ?_)
    refine And.intro (fun c => ?_) (fun c => ?_)
    · have h1 := bEqT c
      rw [if_neg (by rw [wSellB_f (fun q => h1 ⟨q.1.1, by rw [hX]; exact q.1.2.1, q.1.2.2⟩)]; decide)] at hw
      exact l_takeSet hn hle hy ho hX hlo hst r he m (i + 1) w1 l _ (by omega) (zI_s hx) hw hs
    have h1 := bEqF c
    refine Exists.intro i (And.intro hi1 ?_)
    refine And.intro (fun c => ?_) (fun c => ?_)
    · have h2 : lo < w1 5 i := cT c
      rw [if_neg (by rw [wSellB_f (fun q => absurd q.2 (by rw [e11, ← hlo]; exact Int32.not_le.mpr h2))]; decide)] at hw
      exact l_takeSet hn hle hy ho hX hlo hst r he m (i + 1) w1 l _ (by omega) (zI_s hx) hw hs
    · have h2 : ¬ lo < w1 5 i := cF c
      rw [if_pos (wSellB_t ⟨⟨h1.1, by rw [← hX]; exact h1.2.1, h1.2.2⟩, by rw [e11, ← hlo]; exact Int32.not_lt.mp h2⟩)] at hw
      rw [show l - 1 = l + -1 from Int32.sub_eq_add_neg l 1] at hw
      refine Exists.intro i (And.intro hi1 ?_)
      refine l_takeSet hn hle hy ho hX hlo hst r he m (i + 1) (upw w1 1 i 4) _ _ (by omega) (zI_s hx) ?_ (fun a j ha => ?_)
      · exact hw
      · show (if a = 1 then _ else w1 a) j = _
        rw [if_neg ha]
        exact hs a j ha
theorem r_takeSet (d : Nat) (hn : w 16 3 = Int32.ofNat n) (hle : n ≤ 60) (hy : y = Int32.ofNat o) (ho : o < 6) : rV sn sf w (wTake n o w) (d + 2) m_X6_takeSet [.ref 8, .int y] := by
  have hoi : aIx y 6 = some o := aIx_of hy ho (by omega)
  refine aRun_of rfl (aVn_end (stop := fun p => p == 18) 60 ?_)
  have main : ∀ lo, lo = (if w 11 o = 1 then 2 else 1) → aEnd (aStep (aRun false (d + 1)) aCls [] aB_X6_takeSet none false) (18, [some (.ref 8), some (.int y), none, none, none, none], [.int lo], aHw sn sf w, (0, 0)) (.inl none, aHw sn sf (wTake n o w), (0, 0)) := by
    intro lo hlo
    refine aVn_end (stop := fun p => p == 21) 60 ?_
    refine k_ind (τ := Option Value × Option Value) (n := 4) (T := fun u i x1 => (21, [some (.ref 8), some (.int y), some (.int lo), some (.int x1), u.1, u.2], [], aHw sn sf (wSellK n o i w), (0, 0))) (fun i x1 u hi hx1 r ih => ?_) (fun x1 u hx1 => ?_) 4 0 0 (none, none) (by omega) rfl
    · have hs : ∀ a j, ¬ a = 1 → wSellK n o i w a j = w a j := fun a j ha => wSellK_o a j ha i w
      refine aVn_end (stop := fun p => p == 40) 60 ?_
      refine And.intro (fun c => absurd (zgeT (y := 4) (n := 4) c hx1 rfl (by omega) (by omega)) (by omega)) (fun _ => ?_)
      refine Exists.intro _ (And.intro (r_askedOf d (aIx_as hy hx1 ho hi)) ?_)
      refine l_takeSet (w := wSellK n o i w) (K := i) (F := aRun false (d + 1)) ((hs 16 3 (by decide)).trans hn) hle hy ho hx1 (by rw [hs 11 o (by decide)]; exact hlo) (fun w1 x2 i2 h1 h2 => r_isInStore d h1 rfl) r (fun w1 l x2 e => ?_) n 0 (wSellK n o i w) _ 0 (by omega) rfl rfl (fun _ _ _ => rfl)
      subst e
      refine aVn_end (stop := fun p => p == 21) 60 ?_
      exact ih (some (.int l), some (.int x2))
    · have hs : ∀ a j, ¬ a = 1 → wSellK n o 4 w a j = w a j := fun a j ha => wSellK_o a j ha 4 w
      refine aVn_end (stop := fun p => p == 21) 60 ?_
      refine And.intro (fun _ => ?_) (fun c => absurd (zgeF (y := 4) (n := 4) c hx1 rfl (by omega) (by omega)) (by omega))
      refine Exists.intro o (And.intro hoi ?_)
      refine Exists.intro o (And.intro hoi ?_)
      exact rfl
  refine Exists.intro o (And.intro hoi ?_)
  refine And.intro (fun c => ?_) (fun c => ?_)
  · exact main 1 (by rw [if_neg (cT c)])
  · exact main 2 (by rw [if_pos (Decidable.not_not.mp (cF c))])
def fSell (w : aW) (n : Nat) (x : Int32) : aZ := if 0 ≤ x ∧ x < w 16 5 then if ¬ wLack w n (zn x) = -1 then (-3, wAhead1 (wNote w 12 (wLack w n (zn x))) 10 x) else (wTake n (zn x) w 12 (zn x), wTake n (zn x) w) else (-1, w)
theorem r_sellSet (d : Nat) (hn : w 16 3 = Int32.ofNat n) (hle : n ≤ 60) (ho : w 16 5 = Int32.ofNat o) (ho6 : o ≤ 6) : rZ sn sf w (d + 5) m_X6_sellSet [.ref 8, .int x] (fSell w n x) := by
  refine aRun_of rfl (aVn_end (stop := fun p => false) 60 ?_)
  refine Exists.intro _ (And.intro (r_has1 (d + 3) rfl) ?_)
  refine And.intro (fun c => ?_) (fun c => ?_)
  rotate_left
  · have h0 := bNeF c
    exact aRz (p := (-1, w)) (by rw [fSell, if_neg h0])
  have h1 := bNeT c
  have hxx := aIx_lt h1 ho ho6 (by omega)
  have hx := hxx.1
  have hx1 := hxx.2.1
  have hx2 := hxx.2.2
  refine Exists.intro _ (And.intro (r_lackingKind d hn hle hx2 (by omega)) ?_)
  refine And.intro (fun c => ?_) (fun c => ?_)
  rotate_left
  · have h2 : ¬ wLack w n (zn x) = -1 := cF c
    refine Exists.intro _ (And.intro (r_note (d + 3)) ?_)
    refine Exists.intro _ (And.intro (r_noteAhead1 (w := wNote w 12 (wLack w n (zn x))) (d + 3) rfl) ?_)
    exact aRz (p := (-3, wAhead1 (wNote w 12 (wLack w n (zn x))) 10 x)) (by rw [fSell, if_pos h1, if_pos h2])
  have h2 : ¬ ¬ wLack w n (zn x) = -1 := fun h => h (cT c)
  refine Exists.intro _ (And.intro (r_takeSet (d + 2) hn hle hx2 (by omega)) ?_)
  refine Exists.intro (zn x) (And.intro hx ?_)
  exact aRz (p := (wTake n (zn x) w 12 (zn x), wTake n (zn x) w)) (by rw [fSell, if_pos h1, if_neg h2])
/-- sets sold one after the other: at most m -/
def wAllS (n o : Nat) : Nat → aW → Nat × aW
  | 0, w => (0, w)
  | m + 1, w => if wLack w n o = -1 then ((wAllS n o m (wTake n o w)).1 + 1, (wAllS n o m (wTake n o w)).2) else (0, w)
theorem wTake_o (a j : Nat) (ha : ¬ a = 1) (h2 : ¬ a = 12) : wTake n o w a j = w a j := by
  show (if a = 12 then _ else wSellK n o 4 w a) j = _
  rw [if_neg h2]
  exact wSellK_o a j ha 4 w
theorem r_sellAllSets (d : Nat) (hn : w 16 3 = Int32.ofNat n) (hle : n ≤ 60) (hy : y = Int32.ofNat o) (ho : o < 6) : aRun false (d + 5) m_X6_sellAllSets [.ref 8, .int y] (aHw sn sf w) = some (.inl (some (.int (Int32.ofNat (wAllS n o 60 w).1))), aHw sn sf (wAllS n o 60 w).2, (0, 0)) := by
  refine aRun_of rfl (aVn_end (stop := fun p => p == 2) 60 ?_)
  have main : ∀ (m i : Nat) (x1 : Int32) (w1 : aW), i + m = 60 → x1 = Int32.ofNat i → w1 16 3 = Int32.ofNat n → aEnd (aStep (aRun false (d + 4)) aCls [] aB_X6_sellAllSets (some .int) false) (2, [some (.ref 8), some (.int y), some (.int x1)], [], aHw sn sf w1, (0, 0)) (.inl (some (.int (Int32.ofNat (i + (wAllS n o m w1).1)))), aHw sn sf (wAllS n o m w1).2, (0, 0)) := by
    intro m
    induction m with
    | zero =>
      intro i x1 w1 h hx hw
      refine aVn_end (stop := fun p => p == 2) 60 ?_
      refine And.intro (fun _ => ?_) (fun c => absurd (zgeF (y := 60) (n := 60) c hx rfl (by omega) (by omega)) (by omega))
      exact congrArg (fun v => ((.inl (some (.int v)), aHw sn sf w1, (0, 0)) : aR)) hx
    | succ m ih =>
      intro i x1 w1 h hx hw
      refine aVn_end (stop := fun p => p == 2) 60 ?_
      refine And.intro (fun c => absurd (zgeT (y := 60) (n := 60) c hx rfl (by omega) (by omega)) (by omega)) (fun _ => ?_)
      refine Exists.intro _ (And.intro (r_lackingKind d hw hle hy ho) ?_)
      refine And.intro (fun c => ?_) (fun c => ?_)
      · have h2 : ¬ wLack w1 n o = -1 := cT c
        have e : wAllS n o (m + 1) w1 = (0, w1) := if_neg h2
        exact (congrArg (fun v => ((.inl (some (.int v)), aHw sn sf w1, (0, 0)) : aR)) hx).trans (by rw [e]; rfl)
      · have h2 : wLack w1 n o = -1 := Decidable.not_not.mp (cF c)
        have e : wAllS n o (m + 1) w1 = ((wAllS n o m (wTake n o w1)).1 + 1, (wAllS n o m (wTake n o w1)).2) := if_pos h2
        refine Exists.intro _ (And.intro (r_takeSet (d + 2) hw hle hy ho) ?_)
        have g := ih (i + 1) (x1 + 1) (wTake n o w1) (by omega) (zI_s hx) ((wTake_o 16 3 (by decide) (by decide)).trans hw)
        have e9 : i + 1 + (wAllS n o m (wTake n o w1)).1 = i + ((wAllS n o m (wTake n o w1)).1 + 1) := by omega
        exact aEnd_eq g (by rw [e, e9])
  have g := main 60 0 0 w (by omega) rfl hn
  exact aEnd_eq g (by rw [Nat.zero_add])
def wAcc (w : aW) (n g o : Nat) (y : Int32) : Int32 := if 1 ≤ y ∧ y ≤ 6 then aSm (fun j => if w 1 j = y - 1 then 1 else 0) n 0 else if 14 ≤ y ∧ y ≤ 16 then w 0 (zn (y - 14)) else
  if y = 0 then w 16 3 else if y = 7 then w 16 4 else if y = 8 then aSm (fun j => if w 8 j = -1 then 0 else 1) g 0 else if y = 9 then w 16 5 else if y = 10 then aSm (fun j => w 12 j) o 0 else if y = 11 then w 16 2 else if y = 12 then w 16 1 else w 16 0
set_option maxRecDepth 20000 in
theorem r_accountOf (d : Nat) (hn : w 16 3 = Int32.ofNat n) (hle : n ≤ 60) (hg : w 16 4 = Int32.ofNat g) (hg8 : g ≤ 8) (ho : w 16 5 = Int32.ofNat o) (ho6 : o ≤ 6) : rW sn sf w (d + 3) m_X6_accountOf [.ref 8, .int y] (wAcc w n g o y) := by
  refine aRun_of rfl (aVn_end (stop := fun p => false) 60 ?_)
  refine Exists.intro _ (And.intro (r_isFrom (d + 1) rfl) ?_)
  refine And.intro (fun c => ?_) (fun c => ?_)
  rotate_left
  · have h1 := bEqF c
    refine Exists.intro _ (And.intro (r_countInState (d + 1) hn hle) ?_)
    exact aRi (by rw [wAcc, if_pos h1])
  have h1 := bEqT c
  refine Exists.intro _ (And.intro (r_isFrom (d + 1) rfl) ?_)
  refine And.intro (fun c => ?_) (fun c => ?_)
  rotate_left
  · have h2 := bEqF c
    refine Exists.intro (zn (y - 14)) (And.intro ?_ ?_)
    · refine aIx_le (m := 2) ?_ ?_ (by omega)
      · exact Int32.le_iff_toInt_le.mpr (by
          have a1 := Int32.le_iff_toInt_le.mp h2.1
          have a2 := Int32.le_iff_toInt_le.mp h2.2
          have e14 : (14 : Int32).toInt = 14 := rfl
          have e16 : (16 : Int32).toInt = 16 := rfl
          have e0 : (0 : Int32).toInt = 0 := rfl
          rw [Int32.toInt_sub, e0, e14, Int.bmod_eq_of_le (by omega) (by omega)]
          omega)
      · exact Int32.le_iff_toInt_le.mpr (by
          have a1 := Int32.le_iff_toInt_le.mp h2.1
          have a2 := Int32.le_iff_toInt_le.mp h2.2
          have e14 : (14 : Int32).toInt = 14 := rfl
          have e16 : (16 : Int32).toInt = 16 := rfl
          have e2 : (Int32.ofNat 2).toInt = 2 := rfl
          rw [Int32.toInt_sub, e2, e14, Int.bmod_eq_of_le (by omega) (by omega)]
          omega)
    exact aRi (by rw [wAcc, if_neg h1, if_pos h2])
  have h2 := bEqT c
  have e : wAcc w n g o y = if y = 0 then w 16 3 else if y = 7 then w 16 4 else if y = 8 then aSm (fun j => if w 8 j = -1 then 0 else 1) g 0 else if y = 9 then w 16 5 else if y = 10 then aSm (fun j => w 12 j) o 0 else if y = 11 then w 16 2 else if y = 12 then w 16 1 else w 16 0 := by
    rw [wAcc, if_neg h1, if_neg h2]
  have e0 : y = 0 ↔ y.toInt = 0 := Int32.toInt_inj.symm
  have e7 : y = 7 ↔ y.toInt = 7 := Int32.toInt_inj.symm
  have e8 : y = 8 ↔ y.toInt = 8 := Int32.toInt_inj.symm
  have e9 : y = 9 ↔ y.toInt = 9 := Int32.toInt_inj.symm
  have e10 : y = 10 ↔ y.toInt = 10 := Int32.toInt_inj.symm
  have e11 : y = 11 ↔ y.toInt = 11 := Int32.toInt_inj.symm
  have e12 : y = 12 ↔ y.toInt = 12 := Int32.toInt_inj.symm
  have b1 : ¬ (y.toInt = 1 ∨ y.toInt = 2 ∨ y.toInt = 3 ∨ y.toInt = 4 ∨ y.toInt = 5 ∨ y.toInt = 6) := by
    intro h
    refine h1 ⟨Int32.le_iff_toInt_le.mpr ?_, Int32.le_iff_toInt_le.mpr ?_⟩
    · have e1 : (1 : Int32).toInt = 1 := rfl
      omega
    · have e6 : (6 : Int32).toInt = 6 := rfl
      omega
  refine And.intro (fun c => ?_) ?_
  · exact aRi (by rw [e]; grind)
  refine And.intro (fun c => ?_) ?_
  · exact aRi (by rw [e]; grind)
  iterate 6 refine And.intro (fun c => (b1 (by omega)).elim) ?_
  refine And.intro (fun c => ?_) ?_
  · exact aRi (by rw [e]; grind)
  refine And.intro (fun c => ?_) ?_
  · refine Exists.intro _ (And.intro (r_countInKiln d hg hg8) ?_)
    exact aRi (by rw [e]; grind)
  refine And.intro (fun c => ?_) ?_
  · exact aRi (by rw [e]; grind)
  refine And.intro (fun c => ?_) ?_
  · refine Exists.intro _ (And.intro (r_countSold1 (d + 1) ho ho6) ?_)
    exact aRi (by rw [e]; grind)
  refine And.intro (fun c => ?_) ?_
  · exact aRi (by rw [e]; grind)
  refine And.intro (fun c => ?_) trivial
  exact aRi (by rw [e]; grind)
end MX
