/-! THE CLASS: loads, sets, accounts -/
theorem k_ind {F : aS → Option (aS ⊕ aR)} {τ : Type} {T : τ → Nat → Int32 → aS} {n : Nat} {r0 : aR} (hb : ∀ (i : Nat) (x : Int32) (u : τ), i < n → x = Int32.ofNat i → ∀ r, (∀ u1, aEnd F (T u1 (i + 1) (x + 1)) r) → aEnd F (T u i x) r) (he : ∀ (x : Int32) (u : τ), x = Int32.ofNat n → aEnd F (T u n x) r0) : ∀ (m i : Nat) (x : Int32) (u : τ), i + m = n → x = Int32.ofNat i → aEnd F (T u i x) r0
  | 0, i, x, u, h, hx => by
    have e : i = n := by omega
    subst e
    exact he x u hx
  | m + 1, i, x, u, h, hx => hb i x u (by omega) hx _ fun u1 => k_ind hb he m (i + 1) (x + 1) u1 (by omega) (zI_s hx)
theorem k_findJ {F : aS → Option (aS ⊕ aR)} {τ : Type} {S : τ → Int32 → aS} {R : Int32 → aR} {p : Nat → Bool} {q : Nat → Int32} {z : Int32} {n : Nat} (hb : ∀ (i : Nat) (x : Int32) (u : τ), i < n → x = Int32.ofNat i → ∀ r, (p i = true → r = R (q i)) → (p i = false → ∀ u1, aEnd F (S u1 (x + 1)) r) → aEnd F (S u x) r) (he : ∀ (x : Int32) (u : τ), x = Int32.ofNat n → aEnd F (S u x) (R z)) : ∀ (m i : Nat) (x : Int32) (u : τ), i + m = n → x = Int32.ofNat i → aEnd F (S u x) (R (aFd p q z m i))
  | 0, i, x, u, h, hx => he x u (by rw [hx]; congr 1)
  | m + 1, i, x, u, h, hx => by
    refine hb i x u (by omega) hx _ (fun g => ?_) (fun g => ?_)
    · show R (if p i = true then q i else _) = _
      rw [if_pos g]
    · intro u1
      show aEnd F _ (R (if p i = true then q i else _))
      rw [if_neg (by rw [g]; decide)]
      exact k_findJ hb he m (i + 1) (x + 1) u1 (by omega) (zI_s hx)
theorem i4 : (4 : Int32) = Int32.ofNat 4 := rfl
theorem aSm_succ (g : Nat → Int32) : ∀ (m i : Nat), aSm g (m + 1) i = aSm g m i + g (i + m)
  | 0, i => by
    show g i + 0 = 0 + g (i + 0)
    rw [Int32.add_zero, Int32.zero_add]
    rfl
  | m + 1, i => by
    show g i + aSm g (m + 1) (i + 1) = g i + aSm g m (i + 1) + g (i + (m + 1))
    rw [aSm_succ g m (i + 1), ← Int32.add_assoc, show i + 1 + m = i + (m + 1) by omega]
theorem aFd_cases (p : Nat → Bool) (q : Nat → Int32) (z : Int32) : ∀ (m i : Nat), (aFd p q z m i = z ∧ ∀ j, i ≤ j → j < i + m → p j = false) ∨ ∃ j, i ≤ j ∧ j < i + m ∧ p j = true ∧ aFd p q z m i = q j ∧ ∀ k, i ≤ k → k < j → p k = false
  | 0, i => Or.inl ⟨rfl, fun j h1 h2 => by omega⟩
  | m + 1, i => by
    by_cases h : p i = true
    · refine Or.inr ⟨i, Nat.le_refl _, by omega, h, ?_, fun k h1 h2 => by omega⟩
      show (if p i = true then q i else _) = _
      rw [if_pos h]
    · have e : aFd p q z (m + 1) i = aFd p q z m (i + 1) := by
        show (if p i = true then q i else _) = _
        rw [if_neg h]
      have h0 : p i = false := by simpa using h
      rw [e]
      rcases aFd_cases p q z m (i + 1) with ⟨h1, h2⟩ | ⟨j, h1, h2, h3, h4, h5⟩
      · refine Or.inl ⟨h1, fun j g1 g2 => ?_⟩
        by_cases e2 : j = i
        · rw [e2]
          exact h0
        · exact h2 j (by omega) (by omega)
      · refine Or.inr ⟨j, by omega, by omega, h3, h4, fun k g1 g2 => ?_⟩
        by_cases e2 : k = i
        · rw [e2]
          exact h0
        · exact h5 k (by omega) g2
section WK
variable {sn : Nat} {sf : Nat → Int32} {w w1 : aW} {n g i : Nat} {x y z v : Int32}
theorem wAt_rng (w : aW) (g : Nat) (y z : Int32) : wAt w g y z = -1 ∨ ∃ k, k < g ∧ wAt w g y z = Int32.ofNat k ∧ w 8 k = y ∧ w 9 k = z := by
  rcases aFd_cases (fun j => decide (w 8 j = y ∧ w 9 j = z)) (fun j => Int32.ofNat j) (-1) g 0 with ⟨h1, -⟩ | ⟨j, h1, h2, h3, h4, -⟩
  · exact Or.inl h1
  · obtain ⟨e1, e2⟩ := of_decide_eq_true h3
    exact Or.inr ⟨j, by omega, h4, e1, e2⟩
/-- the saggar above -/
def wUp (w : aW) (g : Nat) (x : Int32) : Int32 := if w 8 (zn x) = -1 then -1 else wAt w g (w 8 (zn x)) (w 9 (zn x) + 1)
def wDn (w : aW) (g : Nat) (x : Int32) : Int32 := if w 8 (zn x) = -1 then -1 else wAt w g (w 8 (zn x)) (w 9 (zn x) - 1)
def wLd (w : aW) (n g : Nat) : Nat → Int32 → Int32
  | 0, _ => 0
  | m + 1, a => if a = -1 then 0 else (3 + wHeld w n a) + wLd w n g m (wUp w g a)
def wLoad (w : aW) (n g : Nat) (x : Int32) : Int32 := wLd w n g 8 (wUp w g x)
theorem wUp_rng (w : aW) (g : Nat) (x : Int32) : wUp w g x = -1 ∨ ∃ k, k < g ∧ wUp w g x = Int32.ofNat k := by
  unfold wUp
  split
  · exact Or.inl rfl
  · rcases wAt_rng w g (w 8 (zn x)) (w 9 (zn x) + 1) with h | ⟨k, h1, h2, -⟩
    · exact Or.inl h
    · exact Or.inr ⟨k, h1, h2⟩
/-- what a valid saggar's number gives -/
theorem sg_ok {k : Nat} (hg : w 16 4 = Int32.ofNat g) (hg8 : g ≤ 8) (hx : x = Int32.ofNat k) (hk : k < g) : 0 ≤ x ∧ x < w 16 4 ∧ aIx x 8 = some (zn x) ∧ zn x = k :=
  ⟨(zI_le (x := 0) (i := 0) rfl hx (by omega) (by omega)).mpr (by omega), (zI_lt hx hg (by omega) (by omega)).mpr hk, by rw [zn_of hx (by omega)]; exact aIx_of hx (by omega) (by omega), zn_of hx (by omega)⟩
theorem l_weightAbove {F : aF} (hup : ∀ a k, a = Int32.ofNat k → k < g → F m_X3_above [.ref 18, .int a] (aHw sn sf w) = some (.inl (some (.int (wUp w g a))), aHw sn sf w, (0, 0))) (hwt : ∀ a, F m_X6_weightOf [.ref 8, .int a] (aHw sn sf w) = some (.inl (some (.int (3 + wHeld w n a))), aHw sn sf w, (0, 0))) (res : Int32) : ∀ (m i : Nat) (c acc a : Int32), i + m = 8 → c = Int32.ofNat i → (a = -1 ∨ ∃ k, k < g ∧ a = Int32.ofNat k) → acc + wLd w n g m a = res →
    aEnd (aStep F aCls [] aB_X6_weightAbove (some .int) false) (14, [some (.ref 8), some (.int x), some (.int acc), some (.int a), some (.int c)], [], aHw sn sf w, (0, 0)) (.inl (some (.int res)), aHw sn sf w, (0, 0))
  | 0, i, c, acc, a, h, hc, ha, hr => by
    refine aVn_end (stop := fun p => p == 14) 60 ?_
    refine And.intro (fun q => ?_) (fun q => absurd (zgeF (y := 8) (n := 8) q hc rfl (by omega) (by omega)) (by omega))
    exact aRi ((Int32.add_zero acc).symm.trans hr)
  | m + 1, i, c, acc, a, h, hc, ha, hr => by
    refine aVn_end (stop := fun p => p == 14) 60 ?_
    refine And.intro (fun q => absurd (zgeT (y := 8) (n := 8) q hc rfl (by omega) (by omega)) (by omega)) (fun q => ?_)
    have hr : acc + (if a = -1 then 0 else (3 + wHeld w n a) + wLd w n g m (wUp w g a)) = res := hr
    refine And.intro (fun q2 => ?_) (fun q2 => ?_)
    · have q2 : a = -1 := cT q2
      rw [if_pos q2, Int32.add_zero] at hr
      exact aRi hr
    · have q2 : ¬ a = -1 := cF q2
      rw [if_neg q2, ← Int32.add_assoc] at hr
      rcases ha with ha | ⟨k, hk, ha⟩
      · exact absurd ha q2
      refine Exists.intro _ (And.intro (hwt a) ?_)
      refine Exists.intro _ (And.intro (hup a k ha hk) ?_)
      exact l_weightAbove hup hwt res m (i + 1) (c + 1) _ _ (by omega) (zI_s hc) (wUp_rng w g a) hr
theorem r_up (d : Nat) (hg : w 16 4 = Int32.ofNat g) (hg8 : g ≤ 8) {k : Nat} (hx : x = Int32.ofNat k) (hk : k < g) : rW sn sf w (d + 2) m_X3_above [.ref 18, .int x] (wUp w g x) := by
  obtain ⟨h1, h2, h3, -⟩ := sg_ok hg hg8 hx hk
  exact r_above d hg hg8 h1 h2 h3 rfl
theorem r_dn (d : Nat) (hg : w 16 4 = Int32.ofNat g) (hg8 : g ≤ 8) {k : Nat} (hx : x = Int32.ofNat k) (hk : k < g) : rW sn sf w (d + 2) m_X3_below [.ref 18, .int x] (wDn w g x) := by
  obtain ⟨h1, h2, h3, -⟩ := sg_ok hg hg8 hx hk
  exact r_below d hg hg8 h1 h2 h3 rfl
theorem r_weightAbove (d : Nat) (hn : w 16 3 = Int32.ofNat n) (hle : n ≤ 60) (hg : w 16 4 = Int32.ofNat g) (hg8 : g ≤ 8) (hk : ∀ j, j < n → ∃ k, aIx (w 6 j) 4 = some k) {k : Nat} (hx : x = Int32.ofNat k) (hkg : k < g) : rW sn sf w (d + 3) m_X6_weightAbove [.ref 8, .int x] (wLoad w n g x) := by
  refine aRun_of rfl (aVn_end (stop := fun p => p == 14) 60 ?_)
  refine Exists.intro _ (And.intro (r_up d hg hg8 hx hkg) ?_)
  exact l_weightAbove (fun a k h1 h2 => r_up d hg hg8 h1 h2) (fun a => r_weightOf d hn hle hk) _ 8 0 0 0 _ (by omega) rfl (wUp_rng w g x) (Int32.zero_add _)
/-- the load by levels -/
def wRest (w : aW) (n g : Nat) (x : Int32) : Int32 := if w 8 (zn x) = -1 then 0 else aSm (fun j => if w 8 j = w 8 (zn x) then 3 + wHeld w n (Int32.ofNat j) else 0) g 0 - aSm (fun j => if w 8 j = w 8 (zn x) ∧ w 9 j ≤ w 9 (zn x) then 3 + wHeld w n (Int32.ofNat j) else 0) g 0
theorem r_weightOfRest (d : Nat) (hn : w 16 3 = Int32.ofNat n) (hle : n ≤ 60) (hg : w 16 4 = Int32.ofNat g) (hg8 : g ≤ 8) (hk : ∀ j, j < n → ∃ k, aIx (w 6 j) 4 = some k) {k : Nat} (hx : x = Int32.ofNat k) (hkg : k < g) : rW sn sf w (d + 3) m_X6_weightOfRestOfBung [.ref 8, .int x] (wRest w n g x) := by
  obtain ⟨h1, h2, h3, -⟩ := sg_ok hg hg8 hx hkg
  refine aRun_of rfl (aVn_end (stop := fun p => p == 20) 60 ?_)
  refine Exists.intro _ (And.intro (r_isInKiln (d + 1) (fun _ _ => h3) rfl) ?_)
  refine And.intro (fun c => ?_) (fun c => ?_)
  · have hb : ¬ w 8 (zn x) = -1 := by grind [aCond]
    have hres : wRest w n g x = aSm (fun j => if w 8 j = w 8 (zn x) then 3 + wHeld w n (Int32.ofNat j) else 0) g 0 - aSm (fun j => if w 8 j = w 8 (zn x) ∧ w 9 j ≤ w 9 (zn x) then 3 + wHeld w n (Int32.ofNat j) else 0) g 0 := if_neg hb
    refine k_ind (τ := Unit) (n := g) (T := fun _ i x1 => (20, [some (.ref 8), some (.int x), some (.int (aSm (fun j => if w 8 j = w 8 (zn x) then 3 + wHeld w n (Int32.ofNat j) else 0) i 0)), some (.int (aSm (fun j => if w 8 j = w 8 (zn x) ∧ w 9 j ≤ w 9 (zn x) then 3 + wHeld w n (Int32.ofNat j) else 0) i 0)), some (.int x1)], [], aHw sn sf w, (0, 0))) (fun i x1 u hi hx1 r ih => ?_) (fun x1 u hx1 => ?_) g 0 0 () (by omega) rfl
    · have key : ∀ f1 f2, f1 = aSm (fun j => if w 8 j = w 8 (zn x) then 3 + wHeld w n (Int32.ofNat j) else 0) i 0 + (if w 8 i = w 8 (zn x) then 3 + wHeld w n (Int32.ofNat i) else 0) → f2 = aSm (fun j => if w 8 j = w 8 (zn x) ∧ w 9 j ≤ w 9 (zn x) then 3 + wHeld w n (Int32.ofNat j) else 0) i 0 + (if w 8 i = w 8 (zn x) ∧ w 9 i ≤ w 9 (zn x) then 3 + wHeld w n (Int32.ofNat i) else 0) → aEnd (aStep (aRun false (d + 2)) aCls [] aB_X6_weightOfRestOfBung (some .int) false) (20, [some (.ref 8), some (.int x), some (.int f1), some (.int f2), some (.int (x1 + 1))], [], aHw sn sf w, (0, 0)) r := by
        intro f1 f2 e1 e2
        have ih := ih ()
        rw [aSm_succ, aSm_succ, Nat.zero_add] at ih
        rw [e1, e2]
        exact ih
      have hi1 : aIx x1 8 = some i := aIx_of hx1 (by omega) (by omega)
      have hw : rW sn sf w (d + 2) m_X6_weightOf [.ref 8, .int x1] (3 + wHeld w n (Int32.ofNat i)) := by
        rw [← hx1]
        exact r_weightOf d hn hle hk
      refine aVn_end (stop := fun p => p == 20) 90 ?_
      refine And.intro (fun c => absurd (zgeT c hx1 hg (by omega) (by omega)) (by omega)) (fun _ => ?_)
      refine Exists.intro i (And.intro hi1 ?_)
      refine Exists.intro (zn x) (And.intro h3 ?_)
      refine And.intro (fun c => ?_) (fun c => ?_)
      · exact key _ _ (by grind [aCond]) (by grind [aCond])
      refine Exists.intro _ (And.intro hw ?_)
      refine Exists.intro i (And.intro hi1 ?_)
      refine Exists.intro (zn x) (And.intro h3 ?_)
      refine And.intro (fun c2 => ?_) (fun c2 => ?_)
      · exact key _ _ (by grind [aCond]) (by grind [aCond])
      refine Exists.intro _ (And.intro hw ?_)
      exact key _ _ (by grind [aCond]) (by grind [aCond])
    · refine aVn_end (stop := fun p => p == 20) 60 ?_
      refine And.intro (fun c => ?_) (fun c => absurd (zgeF c hx1 hg (by omega) (by omega)) (by omega))
      exact aRi hres.symm
  · have hb : w 8 (zn x) = -1 := by grind [aCond]
    exact aRi (if_pos hb).symm
theorem r_sumOfLoads (d : Nat) (hn : w 16 3 = Int32.ofNat n) (hle : n ≤ 60) (hg : w 16 4 = Int32.ofNat g) (hg8 : g ≤ 8) (hk : ∀ j, j < n → ∃ k, aIx (w 6 j) 4 = some k) : rW sn sf w (d + 4) m_X6_sumOfLoads [.ref 8] (aSm (fun j => wLoad w n g (Int32.ofNat j)) g 0) := by
  refine aRun_of rfl (aVn_end (stop := fun p => p == 4) 20 (k_sum0 (S := fun f x => (4, [some (.ref 8), some (.int f), some (.int x)], [], aHw sn sf w, (0, 0))) (R := fun f => (.inl (some (.int f)), aHw sn sf w, (0, 0))) (g := fun j => wLoad w n g (Int32.ofNat j)) (n := g) (fun i x f hi hx r ih => ?_) (fun x f hx => ?_)))
  · have key : ∀ u, u = f + (wLoad w n g (Int32.ofNat i)) → aEnd _ ((fun f x => (4, [some (.ref 8), some (.int f), some (.int x)], [], aHw sn sf w, (0, 0))) u (x + 1)) r := fun u hu => hu ▸ ih
    refine aVn_end (stop := fun p => p == 4) 60 (And.intro (fun c => absurd (zgeT c hx hg (by omega) (by omega)) (by omega)) (fun _ => ?_))
    refine Exists.intro _ (And.intro (r_weightAbove d hn hle hg hg8 hk hx hi) ?_)
    exact key _ (by rw [hx])
  · exact aVn_end (stop := fun p => p == 4) 60 (And.intro (fun c => rfl) (fun c => absurd (zgeF c hx hg (by omega) (by omega)) (by omega)))
theorem r_areLoadsBalanced (d : Nat) (hn : w 16 3 = Int32.ofNat n) (hle : n ≤ 60) (hg : w 16 4 = Int32.ofNat g) (hg8 : g ≤ 8) (hk : ∀ j, j < n → ∃ k, aIx (w 6 j) 4 = some k) : rW sn sf w (d + 4) m_X6_areLoadsBalanced [.ref 8] (aFd (fun j => !decide (wLoad w n g (Int32.ofNat j) = wRest w n g (Int32.ofNat j))) (fun _ => 0) 1 g 0) := by
  refine aRun_of rfl (aVn_end (stop := fun p => p == 2) 20 (k_find (S := fun x => (2, [some (.ref 8), some (.int x)], [], aHw sn sf w, (0, 0))) (R := fun f => (.inl (some (.int f)), aHw sn sf w, (0, 0))) (p := fun j => !decide (wLoad w n g (Int32.ofNat j) = wRest w n g (Int32.ofNat j))) (q := fun j => 0) (z := 1) (n := g) (fun i x hi hx r h1 h2 => ?_) (fun x hx => ?_) (g) 0 0 (by omega) rfl))
  · have key1 : ∀ u, (!decide (wLoad w n g (Int32.ofNat i) = wRest w n g (Int32.ofNat i))) = true → u = (0) → ((.inl (some (.int u)), aHw sn sf w, (0, 0)) : aR) = r := fun u g e => e ▸ (h1 g).symm
    have key2 : (!decide (wLoad w n g (Int32.ofNat i) = wRest w n g (Int32.ofNat i))) = false → aEnd _ (2, [some (.ref 8), some (.int (x + 1))], [], aHw sn sf w, (0, 0)) r := h2
    refine aVn_end (stop := fun p => p == 2) 60 (And.intro (fun c => absurd (zgeT c hx hg (by omega) (by omega)) (by omega)) (fun _ => ?_))
    refine Exists.intro _ (And.intro (r_weightAbove d hn hle hg hg8 hk hx hi) ?_)
    refine Exists.intro _ (And.intro (r_weightOfRest d hn hle hg hg8 hk hx hi) ?_)
    refine And.intro (fun c => ?_) (fun c => ?_)
    · have c : wLoad w n g x = wRest w n g x := cT c
      exact key2 (by rw [← hx, c]; simp)
    · have c : ¬ wLoad w n g x = wRest w n g x := cF c
      exact And.intro rfl (key1 _ (by rw [← hx]; simpa using c) rfl)
  · exact aVn_end (stop := fun p => p == 2) 60 (And.intro (fun c => And.intro rfl rfl) (fun c => absurd (zgeF c hx hg (by omega) (by omega)) (by omega)))
theorem r_isClayBalanced (d : Nat) (hn : w 16 3 = Int32.ofNat n) (hle : n ≤ 60) (hk : ∀ j, j < n → ∃ k, aIx (w 6 j) 4 = some k) (hv : v = if w 16 1 = w 16 0 + aSm (fun j => fSz (w 6 j)) n 0 then 1 else 0) : rW sn sf w (d + 3) m_X6_isClayBalanced [.ref 8] v := by
  refine aRun_of rfl (aVn_end (stop := fun p => false) 60 ?_)
  refine Exists.intro _ (And.intro (r_sizeOfAll d hn hle hk) ?_)
  refine And.intro (fun c => ?_) (fun c => ?_)
  · have c : ¬ w 16 1 = w 16 0 + aSm (fun j => fSz (w 6 j)) n 0 := cT c
    exact And.intro rfl (aRi (by rw [hv, if_neg c]))
  · have c : w 16 1 = w 16 0 + aSm (fun j => fSz (w 6 j)) n 0 := Decidable.not_not.mp (cF c)
    exact And.intro rfl (aRi (by rw [hv, if_pos c]))
def wSold (w : aW) (n : Nat) (y : Int32) : Int32 := aSm (fun j => if w 1 j = 4 ∧ w 6 j = y then 1 else 0) n 0
def wSoldOf (w : aW) (o k : Nat) : Int32 := aSm (fun j => w 12 j * w 13 (j * 4 + k)) o 0
theorem r_areSalesBalanced (d : Nat) (hn : w 16 3 = Int32.ofNat n) (hle : n ≤ 60) (ho : w 16 5 = Int32.ofNat g) (ho6 : g ≤ 6) : rW sn sf w (d + 3) m_X6_areSalesBalanced [.ref 8] (aFd (fun j => !decide (wSold w n (Int32.ofNat j) = wSoldOf w g j)) (fun _ => 0) 1 4 0) := by
  refine aRun_of rfl (aVn_end (stop := fun p => p == 2) 20 (k_find (S := fun x => (2, [some (.ref 8), some (.int x)], [], aHw sn sf w, (0, 0))) (R := fun f => (.inl (some (.int f)), aHw sn sf w, (0, 0))) (p := fun j => !decide (wSold w n (Int32.ofNat j) = wSoldOf w g j)) (q := fun j => 0) (z := 1) (n := 4) (fun i x hi hx r h1 h2 => ?_) (fun x hx => ?_) (4) 0 0 (by omega) rfl))
  · have key1 : ∀ u, (!decide (wSold w n (Int32.ofNat i) = wSoldOf w g i)) = true → u = (0) → ((.inl (some (.int u)), aHw sn sf w, (0, 0)) : aR) = r := fun u g e => e ▸ (h1 g).symm
    have key2 : (!decide (wSold w n (Int32.ofNat i) = wSoldOf w g i)) = false → aEnd _ (2, [some (.ref 8), some (.int (x + 1))], [], aHw sn sf w, (0, 0)) r := h2
    refine aVn_end (stop := fun p => p == 2) 60 (And.intro (fun c => absurd (zgeT c hx i4 (by omega) (by omega)) (by omega)) (fun _ => ?_))
    refine Exists.intro _ (And.intro (r_countSold (d + 1) hn hle) ?_)
    refine Exists.intro _ (And.intro (r_countSoldOf d ho ho6 hx hi) ?_)
    refine And.intro (fun c => ?_) (fun c => ?_)
    · have c : wSold w n x = wSoldOf w g i := cT c
      exact key2 (by rw [← hx, c]; simp)
    · have c : ¬ wSold w n x = wSoldOf w g i := cF c
      exact And.intro rfl (key1 _ (by rw [← hx]; simpa using c) rfl)
  · exact aVn_end (stop := fun p => p == 2) 60 (And.intro (fun c => And.intro rfl rfl) (fun c => absurd (zgeF c hx i4 (by omega) (by omega)) (by omega)))
/-- how many wares of a kind an order can have -/
def wInSt (w : aW) (n : Nat) (y z u : Int32) : Int32 := aSm (fun j => if (w 1 j = 3 ∧ w 6 j = y ∧ w 2 j = z) ∧ w 5 j = u then 1 else 0) n 0
def wFor (w : aW) (n i : Nat) (y : Int32) : Int32 := if w 11 i = 1 then wInSt w n y (w 10 i) 1 + wInSt w n y (w 10 i) 2 else wInSt w n y (w 10 i) 1
theorem r_countFor (d : Nat) (hn : w 16 3 = Int32.ofNat n) (hle : n ≤ 60) (hi : aIx x 6 = some i) (hv : v = wFor w n i y) : rW sn sf w (d + 3) m_X6_countFor [.ref 8, .int x, .int y] v := by
  have hv : v = if w 11 i = 1 then wInSt w n y (w 10 i) 1 + wInSt w n y (w 10 i) 2 else wInSt w n y (w 10 i) 1 := hv
  refine aRun_of rfl (aVn_end (stop := fun p => false) 60 ?_)
  refine Exists.intro i (And.intro hi ?_)
  refine Exists.intro _ (And.intro (r_countInStore d hn hle) ?_)
  refine Exists.intro i (And.intro hi ?_)
  refine Exists.intro _ (And.intro (r_countInStore d hn hle) ?_)
  refine Exists.intro i (And.intro hi ?_)
  refine And.intro (fun c => ?_) (fun c => ?_)
  · have c : ¬ w 11 i = 1 := cT c
    rw [if_neg c] at hv
    exact aRi hv.symm
  · have c : w 11 i = 1 := Decidable.not_not.mp (cF c)
    rw [if_pos c] at hv
    exact aRi hv.symm
def wLack (w : aW) (n i : Nat) : Int32 := aFd (fun k => decide (wFor w n i (Int32.ofNat k) < w 13 (i * 4 + k))) (fun k => Int32.ofNat k) (-1) 4 0
theorem aIx_as {k : Nat} (hx : x = Int32.ofNat i) (hy : y = Int32.ofNat k) (hi : i < 6) (hk : k < 4) : aIx (x * 4 + y) 24 = some (i * 4 + k) := aIx_of (by rw [hx, hy, Int32.ofNat_add, Int32.ofNat_mul]; rfl) (by omega) (by omega)
theorem r_lackingKind (d : Nat) (hn : w 16 3 = Int32.ofNat n) (hle : n ≤ 60) {o : Nat} (hy : y = Int32.ofNat o) (ho : o < 6) : rW sn sf w (d + 4) m_X6_lackingKind [.ref 8, .int y] (wLack w n o) := by
  refine aRun_of rfl (aVn_end (stop := fun p => p == 2) 20 (k_find (S := fun x => (2, [some (.ref 8), some (.int y), some (.int x)], [], aHw sn sf w, (0, 0))) (R := fun f => (.inl (some (.int f)), aHw sn sf w, (0, 0))) (p := fun j => decide (wFor w n o (Int32.ofNat j) < w 13 (o * 4 + j))) (q := fun j => Int32.ofNat j) (z := (-1)) (n := 4) (fun i x hi hx r h1 h2 => ?_) (fun x hx => ?_) (4) 0 0 (by omega) rfl))
  · have key1 : ∀ u, (decide (wFor w n o (Int32.ofNat i) < w 13 (o * 4 + i))) = true → u = (Int32.ofNat i) → ((.inl (some (.int u)), aHw sn sf w, (0, 0)) : aR) = r := fun u g e => e ▸ (h1 g).symm
    have key2 : (decide (wFor w n o (Int32.ofNat i) < w 13 (o * 4 + i))) = false → aEnd _ (2, [some (.ref 8), some (.int y), some (.int (x + 1))], [], aHw sn sf w, (0, 0)) r := h2
    refine aVn_end (stop := fun p => p == 2) 60 (And.intro (fun c => absurd (zgeT c hx i4 (by omega) (by omega)) (by omega)) (fun _ => ?_))
    refine Exists.intro _ (And.intro (r_countFor d hn hle (aIx_of hy ho (by omega)) rfl) ?_)
    refine Exists.intro _ (And.intro (r_askedOf (d + 2) (aIx_as hy hx ho hi)) ?_)
    refine And.intro (fun c => ?_) (fun c => ?_)
    · have c : w 13 (o * 4 + i) ≤ wFor w n o x := cT c
      exact key2 (by rw [← hx]; exact decide_eq_false (Int32.not_lt.mpr c))
    · have c : ¬ w 13 (o * 4 + i) ≤ wFor w n o x := cF c
      exact key1 _ (by rw [← hx]; exact decide_eq_true (Int32.not_le.mp c)) hx
  · exact aVn_end (stop := fun p => p == 2) 60 (And.intro (fun c => rfl) (fun c => absurd (zgeF c hx i4 (by omega) (by omega)) (by omega)))
/-- sets by division -/
def wDv (w : aW) (n o : Nat) : Nat → Int32
  | 0 => 60
  | k + 1 => if 0 < w 13 (o * 4 + k) then (if wFor w n o (Int32.ofNat k) / w 13 (o * 4 + k) < wDv w n o k then wFor w n o (Int32.ofNat k) / w 13 (o * 4 + k) else wDv w n o k) else wDv w n o k
theorem r_setsByDivision (d : Nat) (hn : w 16 3 = Int32.ofNat n) (hle : n ≤ 60) {o : Nat} (hy : y = Int32.ofNat o) (ho : o < 6) : rW sn sf w (d + 4) m_X6_setsByDivision [.ref 8, .int y] (wDv w n o 4) := by
  refine aRun_of rfl (aVn_end (stop := fun p => p == 5) 60 ?_)
  refine k_ind (τ := Option Value) (n := 4) (T := fun u i x1 => (5, [some (.ref 8), some (.int y), some (.int (wDv w n o i)), some (.int x1), u], [], aHw sn sf w, (0, 0))) (fun i x1 u hi hx1 r ih => ?_) (fun x1 u hx1 => ?_) 4 0 0 none (by omega) rfl
  · have key : ∀ u f, f = wDv w n o (i + 1) → aEnd (aStep (aRun false (d + 3)) aCls [] aB_X6_setsByDivision (some .int) false) (5, [some (.ref 8), some (.int y), some (.int f), some (.int (x1 + 1)), u], [], aHw sn sf w, (0, 0)) r := fun u f e => e ▸ ih u
    have ek : wDv w n o (i + 1) = if 0 < w 13 (o * 4 + i) then (if wFor w n o x1 / w 13 (o * 4 + i) < wDv w n o i then wFor w n o x1 / w 13 (o * 4 + i) else wDv w n o i) else wDv w n o i := by
      rw [hx1]
      rfl
    refine aVn_end (stop := fun p => p == 5) 60 ?_
    refine And.intro (fun c => absurd (zgeT (y := 4) (n := 4) c hx1 rfl (by omega) (by omega)) (by omega)) (fun _ => ?_)
    refine Exists.intro _ (And.intro (r_askedOf (d + 2) (aIx_as hy hx1 ho hi)) ?_)
    refine And.intro (fun c => ?_) (fun c => ?_)
    · have c : w 13 (o * 4 + i) ≤ 0 := cT c
      exact key _ _ (by rw [ek, if_neg (Int32.not_lt.mpr c)])
    · have c : ¬ w 13 (o * 4 + i) ≤ 0 := cF c
      have c1 : 0 < w 13 (o * 4 + i) := Int32.not_le.mp c
      refine Exists.intro _ (And.intro (r_countFor d hn hle (aIx_of hy ho (by omega)) rfl) ?_)
      refine And.intro (fun e => absurd c1 (by rw [e]; decide)) ?_
      refine Exists.intro _ (And.intro rfl ?_)
      exact key _ _ (by rw [ek, if_pos c1])
  · refine aVn_end (stop := fun p => p == 5) 60 ?_
    exact And.intro (fun c => rfl) (fun c => absurd (zgeF (y := 4) (n := 4) c hx1 rfl (by omega) (by omega)) (by omega))
def wSag (w : aW) (n g : Nat) (x y : Int32) : Int32 := if y = 0 then 6 - wHeld w n x else if y = 1 then w 9 (zn x) else if y = 2 then w 8 (zn x) else if y = 3 then wUp w g x else if y = 4 then wDn w g x else if y = 5 then 3 + wHeld w n x else aSm (fun j => if w 4 j = x then 1 else 0) n 0
set_option maxRecDepth 20000 in
theorem r_numberOfSaggar (d : Nat) (hn : w 16 3 = Int32.ofNat n) (hle : n ≤ 60) (hg : w 16 4 = Int32.ofNat g) (hg8 : g ≤ 8) (hk : ∀ j, j < n → ∃ k, aIx (w 6 j) 4 = some k) {k : Nat} (hx : x = Int32.ofNat k) (hkg : k < g) (h0 : 0 ≤ y) (h6 : y ≤ 6) (hv : v = wSag w n g x y) : rW sn sf w (d + 3) m_X6_numberOfSaggar [.ref 8, .int x, .int y] v := by
  obtain ⟨-, -, h3, -⟩ := sg_ok hg hg8 hx hkg
  have e0 : y = 0 ↔ y.toInt = 0 := Int32.toInt_inj.symm
  have e1 : y = 1 ↔ y.toInt = 1 := Int32.toInt_inj.symm
  have e2 : y = 2 ↔ y.toInt = 2 := Int32.toInt_inj.symm
  have e3 : y = 3 ↔ y.toInt = 3 := Int32.toInt_inj.symm
  have e4 : y = 4 ↔ y.toInt = 4 := Int32.toInt_inj.symm
  have e5 : y = 5 ↔ y.toInt = 5 := Int32.toInt_inj.symm
  have e6 : y = 6 ↔ y.toInt = 6 := Int32.toInt_inj.symm
  have g0 : ¬ y.toInt < 0 := fun h => absurd h0 (Int32.not_le.mpr (Int32.lt_iff_toInt_lt.mpr h))
  refine aRun_of rfl (aVn_end (stop := fun p => false) 60 ?_)
  refine And.intro (fun c => ?_) ?_
  · refine Exists.intro _ (And.intro (r_countIn (d + 1) hn hle) ?_)
    exact aRi (by grind [wSag])
  refine And.intro (fun c => ?_) ?_
  · refine Exists.intro _ (And.intro (r_roomIn d hn hle hk) ?_)
    exact aRi (by grind [wSag])
  refine And.intro (fun c => ?_) ?_
  · refine Exists.intro (zn x) (And.intro h3 ?_)
    exact aRi (by grind [wSag])
  refine And.intro (fun c => ?_) ?_
  · refine Exists.intro (zn x) (And.intro h3 ?_)
    exact aRi (by grind [wSag])
  refine And.intro (fun c => ?_) ?_
  · refine Exists.intro _ (And.intro (r_up d hg hg8 hx hkg) ?_)
    exact aRi (by grind [wSag])
  refine And.intro (fun c => ?_) ?_
  · refine Exists.intro _ (And.intro (r_dn d hg hg8 hx hkg) ?_)
    exact aRi (by grind [wSag])
  refine And.intro (fun c => ?_) trivial
  refine Exists.intro _ (And.intro (r_weightOf d hn hle hk) ?_)
  exact aRi (by grind [wSag])
end WK
