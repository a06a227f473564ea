/-! THE MODEL: sums over the wares, chains of saggars -/
theorem aFd_last (p : Nat → Bool) (q : Nat → Int32) : ∀ (m i : Nat) (z : Int32), aFd p q z (m + 1) i = aFd p q (if p (i + m) = true then q (i + m) else z) m i
  | 0, i, z => rfl
  | m + 1, i, z => by
    show (if p i = true then q i else aFd p q z (m + 1) (i + 1)) = (if p i = true then q i else aFd p q _ m (i + 1))
    rw [aFd_last p q m (i + 1) z, show i + 1 + m = i + (m + 1) by omega]
section YB
variable {sn : Nat} {sf : Nat → Int32} {m w : aW} {n g o i j k f b L : Nat} {x y z v u s t : Int32}
theorem b_ne {b : Nat} (hb : b < 4) : ¬ Int32.ofNat b = -1 := by
  match b, hb with
  | 0, _ => decide
  | 1, _ => decide
  | 2, _ => decide
  | 3, _ => decide
theorem ofN_ne {i j : Nat} (hi : i < 100000) (hj : j < 100000) (h : Int32.ofNat i = Int32.ofNat j) : i = j := by
  have e := congrArg Int32.toInt h
  rw [Int32.toInt_ofNat_of_lt (by omega), Int32.toInt_ofNat_of_lt (by omega)] at e
  omega
theorem ofN_m1 {i : Nat} (hi : i < 100000) : ¬ Int32.ofNat i = -1 := by
  intro h
  have e := congrArg Int32.toInt h
  rw [Int32.toInt_ofNat_of_lt (by omega)] at e
  have e1 : (-1 : Int32).toInt = -1 := rfl
  omega
theorem ofN_lt0 {i : Nat} (hi : i < 100000) : ¬ Int32.ofNat i < 0 := by
  intro h
  have e := Int32.lt_iff_toInt_lt.mp h
  rw [Int32.toInt_ofNat_of_lt (by omega)] at e
  have e1 : (0 : Int32).toInt = 0 := rfl
  omega
theorem wAt_no (h : ∀ k, k < g → ¬ (w 8 k = y ∧ w 9 k = z)) : wAt w g y z = -1 := by
  rcases wAt_rng w g y z with q | ⟨k, hk, -, h1, h2⟩
  · exact q
  · exact absurd ⟨h1, h2⟩ (h k hk)
theorem wAt_eq (ok : okS w g) (hk : k < g) (h1 : w 8 k = y) (h2 : w 9 k = z) (hy : ¬ y = -1) : wAt w g y z = Int32.ofNat k := by
  rcases aFd_cases (fun j => decide (w 8 j = y ∧ w 9 j = z)) (fun j => Int32.ofNat j) (-1) g 0 with ⟨-, q⟩ | ⟨j, -, q2, q3, q4, -⟩
  · have := q k (Nat.zero_le _) (by omega)
    exact absurd ⟨h1, h2⟩ (of_decide_eq_false this)
  · obtain ⟨e1, e2⟩ := of_decide_eq_true q3
    have e : j = k := ok.2 j k (by omega) hk (by rw [e1]; exact hy) (e1.trans h1.symm) (e2.trans h2.symm)
    rw [← e]
    exact q4
/-- in the kiln: its place -/
theorem okS_in (ok : okS w g) (hj : j < g) (h : ¬ w 8 j = -1) : ∃ b L, b < 4 ∧ L < 8 ∧ okP w j b L := by
  rcases ok.1 j hj with ⟨q, -⟩ | ⟨b, L, h1, h2, h3, -⟩
  · exact absurd q h
  · exact ⟨b, L, h1, h2, h3⟩
theorem okP_k (hb : b < 4) (p : okP w j b L) : ¬ w 8 j = -1 := by rw [p.1]; exact b_ne hb
theorem wDn_0 (ok : okS w g) (hj : j < 8) (hg : g ≤ 8) (hb : b < 4) (p : okP w j b 0) : wDn w g (Int32.ofNat j) = -1 := by
  unfold wDn
  rw [zn_of rfl (by omega), if_neg (okP_k hb p)]
  refine wAt_no fun k hk q => ?_
  have e : w 9 j - 1 = -1 := by rw [p.2]; decide
  rw [e] at q
  have hk8 : ¬ w 8 k = -1 := by rw [q.1, p.1]; exact b_ne hb
  obtain ⟨b1, L1, -, hL, p1⟩ := okS_in ok hk hk8
  exact ofN_m1 (by omega) (p1.2.symm.trans q.2)
theorem sub1 {a : Nat} : Int32.ofNat (a + 1) - 1 = Int32.ofNat a := by
  rw [Int32.ofNat_add]
  exact Int32.add_sub_cancel _ _
theorem wDn_s (ok : okS w g) (hj : j < 8) (hb : b < 4) (p : okP w j b (L + 1)) (hi : i < g) (q : okP w i b L) : wDn w g (Int32.ofNat j) = Int32.ofNat i := by
  unfold wDn
  rw [zn_of rfl (by omega), if_neg (okP_k hb p), p.1, p.2, sub1]
  exact wAt_eq ok hi q.1 q.2 (b_ne hb)
theorem wDn_f (hj : j < 8) (h : w 8 j = -1) : wDn w g (Int32.ofNat j) = -1 := by
  unfold wDn
  rw [zn_of rfl (by omega), if_pos h]
/-- the one below a saggar of the kiln -/
theorem wDn_ex (ok : okS w g) (hg : g ≤ 8) (hj : j < g) (hb : b < 4) (p : okP w j b (L + 1)) (hL : L < 8) : ∃ i, i < g ∧ okP w i b L ∧ wDn w g (Int32.ofNat j) = Int32.ofNat i := by
  rcases ok.1 j hj with ⟨q, -⟩ | ⟨b1, L1, h1, h2, h3, h4⟩
  · exact absurd q (okP_k hb p)
  · have eb : b1 = b := ofN_ne (by omega) (by omega) (h3.1.symm.trans p.1)
    have eL : L1 = L + 1 := ofN_ne (by omega) (by omega) (h3.2.symm.trans p.2)
    subst eb
    obtain ⟨i, hi, q⟩ := h4 L eL
    exact ⟨i, hi, q, wDn_s ok (by omega) hb p hi q⟩
theorem wUp_ex (ok : okS w g) (hg : g ≤ 8) (hj : j < g) : wUp w g (Int32.ofNat j) = -1 ∨ ∃ i b L, i < g ∧ b < 4 ∧ L < 8 ∧ L + 1 < 8 ∧ okP w j b L ∧ okP w i b (L + 1) ∧ wUp w g (Int32.ofNat j) = Int32.ofNat i := by
  unfold wUp
  rw [zn_of rfl (by omega)]
  by_cases c : w 8 j = -1
  · rw [if_pos c]
    exact Or.inl rfl
  · rw [if_neg c]
    rcases wAt_rng w g (w 8 j) (w 9 j + 1) with q | ⟨k, hk, e, h1, h2⟩
    · exact Or.inl q
    · obtain ⟨b, L, hb, hL, p⟩ := okS_in ok hj c
      obtain ⟨b1, L1, hb1, hL1, p1⟩ := okS_in ok hk (by rw [h1]; exact c)
      have e1 : L1 = L + 1 := ofN_ne (by omega) (by omega) (by rw [← p1.2, h2, p.2, zI_s rfl])
      have e2 : b1 = b := ofN_ne (by omega) (by omega) (by rw [← p1.1, h1, p.1])
      subst e2
      exact Or.inr ⟨k, b1, L, hk, hb, hL, by omega, p, by rw [← e1]; exact p1, e⟩
theorem y_heldIn (d : Nat) (R : Rl w (m 0) n g o) (ok : wOkA w n g o)  : rM sn sf m (d + 4) m_X8_heldIn [.ref 8, .int y] (wHeld w n y) := by
  have hn : m 0 6 = Int32.ofNat n := R.1.2.2.2.2.2.2.1.trans ok.1.1
  have hle := ok.1.2.1
  refine aRun_of rfl (aVn_end (stop := fun p => p == 4) 20 (k_sum0 (S := fun f x => (4, [some (.ref 8), some (.int y), some (.int f), some (.int x)], [], aHn sn sf m, (0, 0))) (R := fun f => (.inl (some (.int f)), aHn sn sf m, (0, 0))) (g := fun j => if w 4 j = y then fSz (w 6 j) else 0) (n := n) (fun i x f hi hx r ih => ?_) (fun x f hx => ?_)))
  · have key : ∀ u, u = f + (if w 4 i = y then fSz (w 6 i) else 0) → aEnd _ (4, [some (.ref 8), some (.int y), some (.int u), some (.int (x + 1))], [], aHn sn sf m, (0, 0)) r := fun u hu => hu ▸ ih
    refine aVn_end (stop := fun p => p == 4) 60 ?_
    refine Exists.intro 6 (And.intro (ixN (f := 6) rfl (by omega)) ?_)
    refine And.intro (fun c => absurd (zgeT c hx hn (by omega) (by omega)) (by omega)) (fun _ => ?_)
    refine Exists.intro _ (And.intro (y_where (d + 1) R ok hx hi) ?_)
    refine And.intro (fun c => ?_) (fun c => ?_)
    · have c1 : ¬ w 4 i = y := cT c
      exact key _ (by rw [if_neg c1])
    · have c1 : w 4 i = y := Decidable.not_not.mp (cF c)
      refine Exists.intro _ (And.intro (y_size d R ok hx hi) ?_)
      exact key _ (by rw [if_pos c1])
  · refine aVn_end (stop := fun p => p == 4) 60 ?_
    refine Exists.intro 6 (And.intro (ixN (f := 6) rfl (by omega)) ?_)
    exact And.intro (fun c => rfl) (fun c => absurd (zgeF c hx hn (by omega) (by omega)) (by omega))
theorem y_manyIn (d : Nat) (R : Rl w (m 0) n g o) (ok : wOkA w n g o)  : rM sn sf m (d + 3) m_X8_manyIn [.ref 8, .int y] (wIn w n y) := by
  have hn : m 0 6 = Int32.ofNat n := R.1.2.2.2.2.2.2.1.trans ok.1.1
  have hle := ok.1.2.1
  refine aRun_of rfl (aVn_end (stop := fun p => p == 4) 20 (k_sum0 (S := fun f x => (4, [some (.ref 8), some (.int y), some (.int f), some (.int x)], [], aHn sn sf m, (0, 0))) (R := fun f => (.inl (some (.int f)), aHn sn sf m, (0, 0))) (g := fun j => if w 4 j = y then 1 else 0) (n := n) (fun i x f hi hx r ih => ?_) (fun x f hx => ?_)))
  · have key : ∀ u, u = f + (if w 4 i = y then 1 else 0) → aEnd _ (4, [some (.ref 8), some (.int y), some (.int u), some (.int (x + 1))], [], aHn sn sf m, (0, 0)) r := fun u hu => hu ▸ ih
    refine aVn_end (stop := fun p => p == 4) 60 ?_
    refine Exists.intro 6 (And.intro (ixN (f := 6) rfl (by omega)) ?_)
    refine And.intro (fun c => absurd (zgeT c hx hn (by omega) (by omega)) (by omega)) (fun _ => ?_)
    refine Exists.intro _ (And.intro (y_where d R ok hx hi) ?_)
    refine And.intro (fun c => ?_) (fun c => ?_)
    · have c1 : ¬ w 4 i = y := cT c
      exact key _ (by rw [if_neg c1])
    · have c1 : w 4 i = y := Decidable.not_not.mp (cF c)
      exact key _ (by rw [if_pos c1])
  · refine aVn_end (stop := fun p => p == 4) 60 ?_
    refine Exists.intro 6 (And.intro (ixN (f := 6) rfl (by omega)) ?_)
    exact And.intro (fun c => rfl) (fun c => absurd (zgeF c hx hn (by omega) (by omega)) (by omega))
theorem y_inState (d : Nat) (R : Rl w (m 0) n g o) (ok : wOkA w n g o)  : rM sn sf m (d + 3) m_X8_inState [.ref 8, .int y] (aSm (fun j => if w 1 j = y then 1 else 0) n 0) := by
  have hn : m 0 6 = Int32.ofNat n := R.1.2.2.2.2.2.2.1.trans ok.1.1
  have hle := ok.1.2.1
  refine aRun_of rfl (aVn_end (stop := fun p => p == 4) 20 (k_sum0 (S := fun f x => (4, [some (.ref 8), some (.int y), some (.int f), some (.int x)], [], aHn sn sf m, (0, 0))) (R := fun f => (.inl (some (.int f)), aHn sn sf m, (0, 0))) (g := fun j => if w 1 j = y then 1 else 0) (n := n) (fun i x f hi hx r ih => ?_) (fun x f hx => ?_)))
  · have key : ∀ u, u = f + (if w 1 i = y then 1 else 0) → aEnd _ (4, [some (.ref 8), some (.int y), some (.int u), some (.int (x + 1))], [], aHn sn sf m, (0, 0)) r := fun u hu => hu ▸ ih
    refine aVn_end (stop := fun p => p == 4) 60 ?_
    refine Exists.intro 6 (And.intro (ixN (f := 6) rfl (by omega)) ?_)
    refine And.intro (fun c => absurd (zgeT c hx hn (by omega) (by omega)) (by omega)) (fun _ => ?_)
    refine Exists.intro _ (And.intro (y_state d R ok hx hi) ?_)
    refine And.intro (fun c => ?_) (fun c => ?_)
    · have c1 : ¬ w 1 i = y := cT c
      exact key _ (by rw [if_neg c1])
    · have c1 : w 1 i = y := Decidable.not_not.mp (cF c)
      exact key _ (by rw [if_pos c1])
  · refine aVn_end (stop := fun p => p == 4) 60 ?_
    refine Exists.intro 6 (And.intro (ixN (f := 6) rfl (by omega)) ?_)
    exact And.intro (fun c => rfl) (fun c => absurd (zgeF c hx hn (by omega) (by omega)) (by omega))
theorem y_inKiln (d : Nat) (R : Rl w (m 0) n g o) (ok : wOkA w n g o)  : rM sn sf m (d + 4) m_X8_inKiln [.ref 8] (wInK w g) := by
  have hn : m 0 7 = Int32.ofNat g := R.1.2.2.2.2.2.2.2.1.trans ok.1.2.2.1
  have hle := ok.1.2.2.2.1
  refine aRun_of rfl (aVn_end (stop := fun p => p == 4) 20 (k_sum0 (S := fun f x => (4, [some (.ref 8), some (.int f), some (.int x)], [], aHn sn sf m, (0, 0))) (R := fun f => (.inl (some (.int f)), aHn sn sf m, (0, 0))) (g := fun j => if w 8 j = -1 then 0 else 1) (n := g) (fun i x f hi hx r ih => ?_) (fun x f hx => ?_)))
  · have key : ∀ u, u = f + (if w 8 i = -1 then 0 else 1) → aEnd _ (4, [some (.ref 8), some (.int u), some (.int (x + 1))], [], aHn sn sf m, (0, 0)) r := fun u hu => hu ▸ ih
    refine aVn_end (stop := fun p => p == 4) 60 ?_
    refine Exists.intro 7 (And.intro (ixN (f := 7) rfl (by omega)) ?_)
    refine And.intro (fun c => absurd (zgeT c hx hn (by omega) (by omega)) (by omega)) (fun _ => ?_)
    refine Exists.intro _ (And.intro (y_isOnFloor d R ok hx hi rfl) ?_)
    refine And.intro (fun c => ?_) (fun c => ?_)
    · have c1 := bEqT c
      exact key _ (by rw [if_neg c1])
    · have c1 := bEqF c
      exact key _ (by rw [if_pos c1])
  · refine aVn_end (stop := fun p => p == 4) 60 ?_
    refine Exists.intro 7 (And.intro (ixN (f := 7) rfl (by omega)) ?_)
    exact And.intro (fun c => rfl) (fun c => absurd (zgeF c hx hn (by omega) (by omega)) (by omega))
theorem y_weightOf (d : Nat) (R : Rl w (m 0) n g o) (ok : wOkA w n g o) : rM sn sf m (d + 5) m_X8_weightOf [.ref 8, .int y] (3 + wHeld w n y) := by
  refine aRun_of rfl (aVn_end (stop := fun p => false) 60 ?_)
  refine Exists.intro _ (And.intro (y_heldIn d R ok) ?_)
  exact rfl
theorem l_loadOf {F : aF} (R : Rl w (m 0) n g o) (ok : wOkA w n g o) (hup : ∀ a k, a = Int32.ofNat k → k < g → F m_X8_getSaggar [.ref 8, .int a, .int 2] (aHn sn sf m) = some (.inl (some (.int (wUp w g a))), aHn sn sf m, (0, 0))) (hwt : ∀ a, F m_X8_weightOf [.ref 8, .int a] (aHn sn sf m) = some (.inl (some (.int (3 + wHeld w n a))), aHn sn sf m, (0, 0))) : ∀ (q : Nat) (acc a : Int32), (a = -1 ∨ ∃ k b L, k < g ∧ a = Int32.ofNat k ∧ b < 4 ∧ L < 8 ∧ okP w k b L ∧ 8 ≤ L + q) →
    aEnd (aStep F aCls [] aB_X8_loadOf (some .int) false) (9, [some (.ref 8), some (.int x), some (.int acc), some (.int a)], [], aHn sn sf m, (0, 0)) (.inl (some (.int (acc + wLd w n g q a))), aHn sn sf m, (0, 0))
  | q, acc, a, Or.inl h => by
    have e : acc + wLd w n g q a = acc := by
      cases q with
      | zero => exact Int32.add_zero _
      | succ q =>
        show acc + (if a = -1 then 0 else _) = acc
        rw [if_pos h]
        exact Int32.add_zero _
    rw [e]
    subst h
    refine aVn_end (stop := fun p => p == 9) 60 ?_
    refine And.intro (fun _ => ?_) (fun c => absurd (show true = false from c) (by decide))
    exact rfl
  | 0, acc, a, Or.inr h => by
    obtain ⟨k, b, L, -, -, -, h1, -, h2⟩ := h
    omega
  | q + 1, acc, a, Or.inr h => by
    obtain ⟨k, b, L, hk, ha, hb, hL, hp, hq⟩ := h
    have hg := ok.1.2.2.2.1
    have hne : ¬ a = -1 := by rw [ha]; exact ofN_m1 (by omega)
    have e : acc + wLd w n g (q + 1) a = acc + (3 + wHeld w n a) + wLd w n g q (wUp w g a) := by
      show acc + (if a = -1 then 0 else _) = _
      rw [if_neg hne]
      exact (Int32.add_assoc _ _ _).symm
    rw [e]
    have ih := l_loadOf R ok hup hwt q (acc + (3 + wHeld w n a)) (wUp w g a) (by
      rw [ha]
      rcases wUp_ex ok.2.2.1 hg hk with c | ⟨i, b1, L1, h1, h2, h3, h4, h5, h6, h7⟩
      · exact Or.inl c
      · have e1 : L1 = L := ofN_ne (by omega) (by omega) (h5.2.symm.trans hp.2)
        exact Or.inr ⟨i, b1, L1 + 1, h1, h7, h2, h4, h6, by omega⟩)
    refine aVn_end (stop := fun p => p == 9) 60 ?_
    refine And.intro (fun c => absurd (cT c) (by rw [ha]; exact ofN_lt0 (by omega))) (fun _ => ?_)
    refine Exists.intro _ (And.intro (hwt a) ?_)
    refine Exists.intro _ (And.intro (hup a k ha hk) ?_)
    exact ih
theorem y_loadOf (d : Nat) (R : Rl w (m 0) n g o) (ok : wOkA w n g o) (hx : x = Int32.ofNat i) (hi : i < g) : rM sn sf m (d + 6) m_X8_loadOf [.ref 8, .int x] (wLoad w n g x) := by
  have main := l_loadOf (sn := sn) (sf := sf) (x := x) (F := aRun false (d + 5)) R ok (fun a k h1 h2 => y_above (d + 3) R ok h1 h2) (fun a => y_weightOf d R ok) 8 0 (wUp w g x) (by
    rw [hx]
    rcases wUp_ex ok.2.2.1 ok.1.2.2.2.1 hi with c | ⟨i, b1, L1, h1, h2, h3, h4, h5, h6, h7⟩
    · exact Or.inl c
    · exact Or.inr ⟨i, b1, L1 + 1, h1, h7, h2, h4, h6, by omega⟩)
  rw [Int32.zero_add] at main
  refine aRun_of rfl (aVn_end (stop := fun p => p == 9) 60 ?_)
  refine Exists.intro _ (And.intro (y_above (d + 3) R ok hx hi) ?_)
  exact main
/-- the level, found from below -/
def wLv (w : aW) (j : Nat) : Int32 := if w 8 j = -1 then 0 else w 9 j
theorem l_levelOf {F : aF} (R : Rl w (m 0) n g o) (ok : wOkA w n g o) (hdn : ∀ a k, a = Int32.ofNat k → k < g → F m_X8_getSaggar [.ref 8, .int a, .int 1] (aHn sn sf m) = some (.inl (some (.int (wDn w g a))), aHn sn sf m, (0, 0))) (hb : b < 4) : ∀ (L k : Nat) (lev : Int32), k < g → L < 8 → okP w k b L →
    aEnd (aStep F aCls [] aB_X8_levelOf (some .int) false) (9, [some (.ref 8), some (.int x), some (.int lev), some (.int (Int32.ofNat k))], [], aHn sn sf m, (0, 0)) (.inl (some (.int (lev + Int32.ofNat (L + 1)))), aHn sn sf m, (0, 0))
  | 0, k, lev, hk, hL, p => by
    have hg := ok.1.2.2.2.1
    have hd := hdn (Int32.ofNat k) k rfl hk
    rw [wDn_0 ok.2.2.1 (by omega) hg hb p] at hd
    refine aVn_end (stop := fun p => false) 60 ?_
    refine And.intro (fun c => absurd (cT c) (ofN_lt0 (by omega))) (fun _ => ?_)
    refine Exists.intro _ (And.intro hd ?_)
    refine And.intro (fun _ => ?_) (fun c => absurd (show true = false from c) (by decide))
    exact rfl
  | L + 1, k, lev, hk, hL, p => by
    have hg := ok.1.2.2.2.1
    obtain ⟨i, hi, q, e⟩ := wDn_ex ok.2.2.1 hg hk hb p (by omega)
    have hd := hdn (Int32.ofNat k) k rfl hk
    rw [e] at hd
    have ih := l_levelOf R ok hdn hb L i (lev + 1) hi (by omega) q
    have e2 : lev + 1 + Int32.ofNat (L + 1) = lev + Int32.ofNat (L + 1 + 1) := by
      rw [Int32.add_assoc, Int32.add_comm 1, zI_s (x := Int32.ofNat (L + 1)) rfl]
    rw [e2] at ih
    refine aVn_end (stop := fun p => p == 9) 60 ?_
    refine And.intro (fun c => absurd (cT c) (ofN_lt0 (by omega))) (fun _ => ?_)
    refine Exists.intro _ (And.intro hd ?_)
    exact ih
theorem y_levelOf (d : Nat) (R : Rl w (m 0) n g o) (ok : wOkA w n g o) (hx : x = Int32.ofNat i) (hi : i < g) : rM sn sf m (d + 3) m_X8_levelOf [.ref 8, .int x] (wLv w i) := by
  have hg := ok.1.2.2.2.1
  have hd := y_below (sn := sn) (sf := sf) d R ok hx hi
  have flat : wDn w g x = -1 → wLv w i = 0 → rM sn sf m (d + 3) m_X8_levelOf [.ref 8, .int x] (wLv w i) := by
    intro h1 h2
    rw [h1] at hd
    rw [h2]
    refine aRun_of rfl (aVn_end (stop := fun p => false) 60 ?_)
    refine Exists.intro _ (And.intro hd ?_)
    refine And.intro (fun _ => ?_) (fun c => absurd (show true = false from c) (by decide))
    exact rfl
  by_cases c : w 8 i = -1
  · exact flat (by rw [hx]; exact wDn_f (by omega) c) (if_pos c)
  obtain ⟨b, L, hb, hL, p⟩ := okS_in ok.2.2.1 hi c
  have eL : wLv w i = Int32.ofNat L := (if_neg c).trans p.2
  cases L with
  | zero => exact flat (by rw [hx]; exact wDn_0 ok.2.2.1 (by omega) hg hb p) eL
  | succ L =>
    obtain ⟨k, hk, q, e⟩ := wDn_ex ok.2.2.1 hg hi hb p (by omega)
    rw [hx, e, ← hx] at hd
    have main := l_levelOf (sn := sn) (sf := sf) (x := x) (F := aRun false (d + 2)) R ok (fun a k h1 h2 => y_below d R ok h1 h2) hb L k 0 hk (by omega) q
    rw [Int32.zero_add, ← eL] at main
    refine aRun_of rfl (aVn_end (stop := fun p => p == 9) 60 ?_)
    refine Exists.intro _ (And.intro hd ?_)
    exact main
theorem l_overloaded {F : aF} (R : Rl w (m 0) n g o) (ok : wOkA w n g o) (hdn : ∀ a k, a = Int32.ofNat k → k < g → F m_X8_getSaggar [.ref 8, .int a, .int 1] (aHn sn sf m) = some (.inl (some (.int (wDn w g a))), aHn sn sf m, (0, 0))) (hld : ∀ a k, a = Int32.ofNat k → k < g → F m_X8_loadOf [.ref 8, .int a] (aHn sn sf m) = some (.inl (some (.int (wLoad w n g a))), aHn sn sf m, (0, 0))) (hb : b < 4) : ∀ (L k : Nat) (low : Int32), k < g → L < 8 → okP w k b L →
    aEnd (aStep F aCls [] aB_X8_overloaded (some .int) false) (5, [some (.ref 8), some (.int x), some (.int v), some (.int low), some (.int (Int32.ofNat k))], [], aHn sn sf m, (0, 0)) (.inl (some (.int (aFd (fun j => decide (¬ wAt w g (Int32.ofNat b) (Int32.ofNat j) = -1 ∧ w 0 2 < wLoad w n g (wAt w g (Int32.ofNat b) (Int32.ofNat j)) + v)) (fun j => wAt w g (Int32.ofNat b) (Int32.ofNat j)) low (L + 1) 0))), aHn sn sf m, (0, 0)) := by
  intro L
  induction L with
  | zero =>
    intro k low hk hL p
    have hg := ok.1.2.2.2.1
    have hd := hdn (Int32.ofNat k) k rfl hk
    rw [wDn_0 ok.2.2.1 (by omega) hg hb p] at hd
    have ea : wAt w g (Int32.ofNat b) (Int32.ofNat 0) = Int32.ofNat k := wAt_eq ok.2.2.1 hk p.1 p.2 (b_ne hb)
    have e2 : m 0 2 = w 0 2 := R.1.2.2.1
    rw [aFd_last, Nat.zero_add, ea]
    refine aVn_end (stop := fun p => false) 90 ?_
    refine And.intro (fun c => absurd (cT c) (ofN_lt0 (by omega))) (fun _ => ?_)
    refine Exists.intro _ (And.intro (hld (Int32.ofNat k) k rfl hk) ?_)
    refine Exists.intro 2 (And.intro (ixN (f := 2) rfl (by omega)) ?_)
    refine And.intro (fun c => ?_) (fun c => ?_)
    · have c1 : wLoad w n g (Int32.ofNat k) + v ≤ m 0 2 := cT c
      rw [e2] at c1
      refine Exists.intro _ (And.intro hd ?_)
      refine And.intro (fun _ => ?_) (fun c => absurd (show true = false from c) (by decide))
      exact aRi (if_neg (fun q => absurd (of_decide_eq_true q).2 (Int32.not_lt.mpr c1))).symm
    · have c1 : ¬ wLoad w n g (Int32.ofNat k) + v ≤ m 0 2 := cF c
      rw [e2] at c1
      refine Exists.intro _ (And.intro hd ?_)
      refine And.intro (fun _ => ?_) (fun c => absurd (show true = false from c) (by decide))
      exact aRi (if_pos (decide_eq_true ⟨ofN_m1 (by omega), Int32.not_le.mp c1⟩)).symm
  | succ L ih =>
    intro k low hk hL p
    have hg := ok.1.2.2.2.1
    obtain ⟨i, hi, q, e⟩ := wDn_ex ok.2.2.1 hg hk hb p (by omega)
    have hd := hdn (Int32.ofNat k) k rfl hk
    rw [e] at hd
    have ea : wAt w g (Int32.ofNat b) (Int32.ofNat (L + 1)) = Int32.ofNat k := wAt_eq ok.2.2.1 hk p.1 p.2 (b_ne hb)
    have e2 : m 0 2 = w 0 2 := R.1.2.2.1
    rw [aFd_last, Nat.zero_add, ea]
    have ih1 := fun lo => ih i lo hi (by omega) q
    by_cases c0 : w 0 2 < wLoad w n g (Int32.ofNat k) + v
    · rw [if_pos (decide_eq_true ⟨ofN_m1 (by omega), c0⟩)]
      refine aVn_end (stop := fun p => p == 5) 90 ?_
      refine And.intro (fun c => absurd (cT c) (ofN_lt0 (by omega))) (fun _ => ?_)
      refine Exists.intro _ (And.intro (hld (Int32.ofNat k) k rfl hk) ?_)
      refine Exists.intro 2 (And.intro (ixN (f := 2) rfl (by omega)) ?_)
      refine And.intro (fun c => absurd (show wLoad w n g (Int32.ofNat k) + v ≤ w 0 2 from e2 ▸ cT c) (Int32.not_le.mpr c0)) (fun _ => ?_)
      refine Exists.intro _ (And.intro hd ?_)
      exact ih1 _
    · rw [if_neg (fun q => c0 (of_decide_eq_true q).2)]
      refine aVn_end (stop := fun p => p == 5) 90 ?_
      refine And.intro (fun c => absurd (cT c) (ofN_lt0 (by omega))) (fun _ => ?_)
      refine Exists.intro _ (And.intro (hld (Int32.ofNat k) k rfl hk) ?_)
      refine Exists.intro 2 (And.intro (ixN (f := 2) rfl (by omega)) ?_)
      refine And.intro (fun _ => ?_) (fun c => absurd (show wLoad w n g (Int32.ofNat k) + v ≤ m 0 2 from e2 ▸ Int32.not_lt.mp c0) (cF c))
      refine Exists.intro _ (And.intro hd ?_)
      exact ih1 _
theorem y_overloaded (d : Nat) (R : Rl w (m 0) n g o) (ok : wOkA w n g o) (hx : x = Int32.ofNat i) (hi : i < g) (hb : b < 4) (hL : L < 8) (p : okP w i b L) : rM sn sf m (d + 7) m_X8_overloaded [.ref 8, .int x, .int v] (wOver w n g (Int32.ofNat b) (Int32.ofNat (L + 1)) v) := by
  have main := l_overloaded (sn := sn) (sf := sf) (x := x) (v := v) (F := aRun false (d + 6)) R ok (fun a k h1 h2 => y_below (d + 4) R ok h1 h2) (fun a k h1 h2 => y_loadOf d R ok h1 h2) hb L i (-1) hi hL p
  rw [← hx] at main
  have e : zn (Int32.ofNat (L + 1)) = L + 1 := zn_of rfl (by omega)
  refine aRun_of rfl (aVn_end (stop := fun p => p == 5) 60 ?_)
  unfold wOver
  rw [e]
  exact main
theorem y_overloaded0 (d : Nat) (hx : x < 0) : rM sn sf m (d + 7) m_X8_overloaded [.ref 8, .int x, .int v] (-1) := by
  refine aRun_of rfl (aVn_end (stop := fun p => false) 60 ?_)
  exact And.intro (fun _ => rfl) (fun c => absurd hx (cF c))
end YB
