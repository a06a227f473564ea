/-! THE MODEL: store, best heat, reasons, accounts, changes kept -/
section YE
variable {sn : Nat} {sf : Nat → Int32} {m w : aW} {n g o i j k f b L : Nat} {x y z v u s t : Int32}
theorem y_store (d : Nat) (R : Rl w (m 0) n g o) (ok : wOkA w n g o) : aRun false (d + 7) m_X8_store [.ref 8, .int y, .int z, .int u] (aHn sn sf m) = some (yRes sn sf m (cW (q_store w n y z u) (fun c => 1))) := by
  have hn : m 0 6 = Int32.ofNat n := R.1.2.2.2.2.2.2.1.trans ok.1.1
  have hle := ok.1.2.1
  have bad : ∀ r, r = yRes sn sf m (1, 0) → aEnd (aStep (aRun false (d + 6)) aCls [] aB_X8_store (some .int) false) (24, [some (.ref 8), some (.int y), some (.int z), some (.int u), none, none], [.int 1, .ref 8], aHn sn sf m, (0, 0)) r := by
    intro r hr
    rw [hr]
    refine aVn_end (stop := fun p => false) 60 ?_
    refine Exists.intro 6 (And.intro (ixN (f := 6) rfl (by omega)) ?_)
    refine And.intro (fun c => ?_) (fun c => ?_)
    · exact rfl
    refine And.intro (fun _ => ?_) (fun c => absurd (show true = false from c) (by decide))
    exact rfl
  by_cases c0 : 0 ≤ y ∧ y ≤ 3
  rotate_left
  · have e : cW (q_store w n y z u) (fun c => (1 : Int32)) = (1, 0) := by rw [q_store, if_neg c0]; rfl
    have fin := bad _ (congrArg (yRes sn sf m) e)
    refine aRun_of rfl (aVn_end (stop := fun p => p == 24) 60 ?_)
    refine Exists.intro _ (And.intro (y_in (d + 5) (if_neg c0).symm) ?_)
    refine And.intro (fun _ => ?_) (fun c => absurd (show true = false from c) (by decide))
    exact fin
  by_cases c1 : -1 ≤ z ∧ z ≤ 3
  rotate_left
  · have e : cW (q_store w n y z u) (fun c => (1 : Int32)) = (1, 0) := by rw [q_store, if_pos c0, if_neg c1]; rfl
    have fin := bad _ (congrArg (yRes sn sf m) e)
    refine aRun_of rfl (aVn_end (stop := fun p => p == 24) 60 ?_)
    refine Exists.intro _ (And.intro (y_in (d + 5) (if_pos c0).symm) ?_)
    refine And.intro (fun c => absurd (show false = true from c) (by decide)) (fun _ => ?_)
    refine Exists.intro _ (And.intro (y_in (d + 5) (if_neg c1).symm) ?_)
    refine And.intro (fun _ => ?_) (fun c => absurd (show true = false from c) (by decide))
    exact fin
  have e : cW (q_store w n y z u) (fun c => (1 : Int32)) = (0, wInSt w n y z (if u = 0 then 1 else 2)) := by rw [q_store, if_pos c0, if_pos c1]; rfl
  have R0 : Rl w ((upw m 9 2 0) 0) n g o := R
  have main : aEnd (aStep (aRun false (d + 6)) aCls [] aB_X8_store (some .int) false) (33, [some (.ref 8), some (.int y), some (.int z), some (.int u), some (.int 0), some (.int 0)], [], aHn sn sf (upw m 9 2 0), (0, 0)) (yRes sn sf m (0, wInSt w n y z (if u = 0 then 1 else 2))) := by
    refine k_sum0 (S := fun f x => (33, [some (.ref 8), some (.int y), some (.int z), some (.int u), some (.int f), some (.int x)], [], aHn sn sf (upw m 9 2 0), (0, 0))) (R := fun f => yRes sn sf m (0, f)) (g := fun j => if (w 1 j = 3 ∧ w 6 j = y ∧ w 2 j = z) ∧ w 5 j = (if u = 0 then 1 else 2) then 1 else 0) (n := n) (fun i x f hi hx r ih => ?_) (fun x f hx => ?_)
    · have key : ∀ t, t = f + (if (w 1 i = 3 ∧ w 6 i = y ∧ w 2 i = z) ∧ w 5 i = (if u = 0 then 1 else 2) then 1 else 0) → aEnd _ (33, [some (.ref 8), some (.int y), some (.int z), some (.int u), some (.int t), some (.int (x + 1))], [], aHn sn sf (upw m 9 2 0), (0, 0)) r := fun t ht => ht ▸ ih
      refine aVn_end (stop := fun p => p == 33) 60 ?_
      refine Exists.intro 6 (And.intro (ixN (f := 6) rfl (by omega)) ?_)
      refine And.intro (fun c => absurd (zgeT c hx hn (by omega) (by omega)) (by omega)) (fun _ => ?_)
      refine And.intro (fun c => absurd (show false = true from c) (by decide)) (fun _ => ?_)
      refine Exists.intro _ (And.intro (y_isInStore (d + 3) R0 ok hx hi rfl) ?_)
      refine And.intro (fun c => ?_) (fun c => ?_)
      · have c2 := bEqT c
        exact key _ (by rw [if_neg c2])
      · have c2 := bEqF c
        exact key _ (by rw [if_pos c2])
    · refine aVn_end (stop := fun p => p == 33) 60 ?_
      refine Exists.intro 6 (And.intro (ixN (f := 6) rfl (by omega)) ?_)
      exact And.intro (fun c => rfl) (fun c => absurd (zgeF c hx hn (by omega) (by omega)) (by omega))
  rw [← e] at main
  refine aRun_of rfl (aVn_end (stop := fun p => p == 33) 60 ?_)
  refine Exists.intro _ (And.intro (y_in (d + 5) (if_pos c0).symm) ?_)
  refine And.intro (fun c => absurd (show false = true from c) (by decide)) (fun _ => ?_)
  refine Exists.intro _ (And.intro (y_in (d + 5) (if_pos c1).symm) ?_)
  refine And.intro (fun c => absurd (show false = true from c) (by decide)) (fun _ => ?_)
  exact main
theorem aSm_nn {g : Nat → Int32} (h : ∀ j, g j = 0 ∨ g j = 1) : ∀ (m i : Nat), ∃ k, k ≤ m ∧ aSm g m i = Int32.ofNat k
  | 0, _ => ⟨0, Nat.le_refl _, rfl⟩
  | m + 1, i => by
    obtain ⟨k, hk, e⟩ := aSm_nn h m (i + 1)
    rcases h i with q | q
    · exact ⟨k, by omega, by show g i + aSm g m (i + 1) = _; rw [q, e, Int32.zero_add]⟩
    · exact ⟨k + 1, by omega, by show g i + aSm g m (i + 1) = _; rw [q, e, Int32.add_comm]; exact zI_s rfl⟩
theorem wFirsts_nn (w : aW) (n : Nat) (y : Int32) : ∃ k, k ≤ n ∧ wFirsts w n y = Int32.ofNat k := aSm_nn (fun j => by by_cases c : wFires w j = true ∧ wGrade w j (wHeat w j y) = 1 <;> simp [c]) n 0
theorem y_bestHeat (d : Nat) (R : Rl w (m 0) n g o) (ok : wOkA w n g o) : aRun false (d + 7) m_X8_bestHeat [.ref 8, .int x] (aHn sn sf m) = some (yRes sn sf m (cW (q_bestHeat w n x) (fun c => 1))) := by
  have hle := ok.1.2.1
  by_cases h : wAny w n = 0
  · have e : cW (q_bestHeat w n x) (fun c => (1 : Int32)) = (1, 0) := by rw [q_bestHeat, if_neg (fun q => q h)]; rfl
    have ha : rM sn sf m (d + 6) m_X8_isAnyToFire [.ref 8] 0 := by
      have q := y_isAnyToFire (sn := sn) (sf := sf) (d + 1) R ok
      rw [h] at q
      exact q
    refine aRun_of rfl (aVn_end (stop := fun p => false) 60 ?_)
    refine Exists.intro _ (And.intro ha ?_)
    refine And.intro (fun _ => ?_) (fun c => absurd (show true = false from c) (by decide))
    refine And.intro (fun c => absurd (show false = true from c) (by decide)) (fun _ => ?_)
    refine And.intro (fun _ => ?_) (fun c => absurd (show true = false from c) (by decide))
    refine And.intro (fun c => absurd (show false = true from c) (by decide)) (fun _ => ?_)
    exact yR e
  have hb : aAny (fun j => wFires w j) n = 1 := by
    rcases aFd_cases (fun j => wFires w j) (fun _ => (1 : Int32)) 0 n 0 with ⟨h1, -⟩ | ⟨j, -, -, -, h4, -⟩
    · exact absurd h1 h
    · exact h4
  have ha : rM sn sf m (d + 6) m_X8_isAnyToFire [.ref 8] 1 := by
    have q := y_isAnyToFire (sn := sn) (sf := sf) (d + 1) R ok
    rw [show wAny w n = 1 from hb] at q
    exact q
  have e : cW (q_bestHeat w n x) (fun c => (1 : Int32)) = (0, if x = 0 then (wBst w n 41).2 else (wBst w n 41).1) := by rw [q_bestHeat, if_pos h]; rfl
  have R0 : Rl w ((upw m 9 2 0) 0) n g o := R
  have hf : ∀ y, rM sn sf (upw m 9 2 0) (d + 6) m_X8_firstsBy [.ref 8, .int y] (wFirsts w n y) := fun y => y_firstsBy (d + 1) R0 ok
  have step : ∀ (q i : Nat) (x1 : Int32) (u : Option Value), i + q = 40 → x1 = Int32.ofNat (1000 + 10 * (i + 1)) → aEnd (aStep (aRun false (d + 6)) aCls [] aB_X8_bestHeat (some .int) false) (25, [some (.ref 8), some (.int x), some (.int (wBst w n (i + 1)).2), some (.int (wBst w n (i + 1)).1), some (.int x1), u], [], aHn sn sf (upw m 9 2 0), (0, 0)) (yRes sn sf m (0, if x = 0 then (wBst w n 41).2 else (wBst w n 41).1)) := by
    intro q
    induction q with
    | zero =>
      intro i x1 u hi hx1
      have hi : i = 40 := by omega
      subst hi
      have h1 : (1400 : Int32) < x1 := by rw [hx1]; decide
      refine aVn_end (stop := fun p => p == 25) 60 ?_
      refine And.intro (fun c => ?_) (fun c => absurd h1 (cF c))
      refine And.intro (fun _ => ?_) (fun c => absurd (show true = false from c) (by decide))
      refine And.intro (fun c => ?_) (fun c => ?_)
      · have h0 : x = 0 := cT c
        exact yQ rfl (by rw [if_pos h0])
      · have h0 : ¬ x = 0 := cF c
        exact yQ rfl (by rw [if_neg h0])
    | succ q ih =>
      intro i x1 u hi hx1
      have hb1 : x1 + 10 = Int32.ofNat (1000 + 10 * (i + 1 + 1)) := by
        rw [hx1, show 1000 + 10 * (i + 1 + 1) = (1000 + 10 * (i + 1)) + 10 by omega, Int32.ofNat_add (1000 + 10 * (i + 1)) 10]
        rfl
      have key : ∀ b f, wBst w n (i + 1 + 1) = (f, b) → aEnd (aStep (aRun false (d + 6)) aCls [] aB_X8_bestHeat (some .int) false) (25, [some (.ref 8), some (.int x), some (.int b), some (.int f), some (.int (x1 + 10)), some (.int (wFirsts w n x1))], [], aHn sn sf (upw m 9 2 0), (0, 0)) (yRes sn sf m (0, if x = 0 then (wBst w n 41).2 else (wBst w n 41).1)) := by
        intro b f e
        have r := ih (i + 1) (x1 + 10) (some (.int (wFirsts w n x1))) (by omega) hb1
        rw [e] at r
        exact r
      have eb : wBst w n (i + 1 + 1) = if (wBst w n (i + 1)).1 < wFirsts w n x1 then (wFirsts w n x1, x1) else wBst w n (i + 1) := by rw [hx1]; rfl
      have h1 : ¬ (1400 : Int32) < x1 := by
        intro h1
        rw [hx1] at h1
        have := (zI_lt (x := 1400) (i := 1400) (y := Int32.ofNat (1000 + 10 * (i + 1))) (n := 1000 + 10 * (i + 1)) rfl rfl (by omega) (by omega)).mp h1
        omega
      refine aVn_end (stop := fun p => p == 25) 60 ?_
      refine And.intro (fun c => absurd (cT c) h1) (fun _ => ?_)
      refine And.intro (fun c => absurd (show false = true from c) (by decide)) (fun _ => ?_)
      refine Exists.intro _ (And.intro (hf x1) ?_)
      refine And.intro (fun c => ?_) (fun c => ?_)
      · have h2 : wFirsts w n x1 ≤ (wBst w n (i + 1)).1 := cT c
        refine Exists.intro _ (And.intro rfl ?_)
        exact key _ _ (by
          rw [eb, if_neg (Int32.not_lt.mpr h2)]
          refine Prod.ext ?_ rfl
          by_cases c3 : (wBst w n (i + 1)).1 < wFirsts w n x1
          · exact absurd h2 (Int32.not_le.mpr c3)
          · exact (if_neg c3).symm)
      · have h2 : ¬ wFirsts w n x1 ≤ (wBst w n (i + 1)).1 := cF c
        refine Exists.intro _ (And.intro rfl ?_)
        exact key _ _ (by rw [eb, if_pos (Int32.not_le.mp h2), if_pos (Int32.not_le.mp h2)])
  have fin := step 40 0 1010 (some (.int (wFirsts w n 1000))) (by omega) rfl
  have b1 : wBst w n (0 + 1) = (wFirsts w n 1000, 1000) := by
    show (if (0 : Int32) < wFirsts w n 1000 then (wFirsts w n 1000, 1000) else (0, 1000)) = _
    obtain ⟨k, hk, e⟩ := wFirsts_nn w n 1000
    by_cases c : (0 : Int32) < wFirsts w n 1000
    · rw [if_pos c]
    · rw [if_neg c]
      have : k = 0 := by
        rw [e] at c
        exact Nat.eq_zero_of_not_pos fun q => c ((zI_lt (x := 0) (i := 0) (y := Int32.ofNat k) (n := k) rfl rfl (by omega) (by omega)).mpr q)
      rw [e, this]
      rfl
  rw [b1, ← e] at fin
  have hneg : ¬ wFirsts w n 1000 ≤ -1 ∧ (-1 : Int32) < wFirsts w n 1000 := by
    obtain ⟨k, hk, e⟩ := wFirsts_nn w n 1000
    have hlt : (-1 : Int32) < wFirsts w n 1000 := by
      rw [e]
      exact Int32.lt_of_lt_of_le (b := 0) (by decide) (Int32.not_lt.mp (ofN_lt0 (by omega)))
    exact ⟨Int32.not_le.mpr hlt, hlt⟩
  have main : aEnd (aStep (aRun false (d + 6)) aCls [] aB_X8_bestHeat (some .int) false) (25, [some (.ref 8), some (.int x), some (.int 0), some (.int (-1)), some (.int 1000), none], [], aHn sn sf (upw m 9 2 0), (0, 0)) (yRes sn sf m (cW (q_bestHeat w n x) (fun c => 1))) := by
    have key : ∀ b f, (f, b) = (wFirsts w n 1000, (1000 : Int32)) → aEnd (aStep (aRun false (d + 6)) aCls [] aB_X8_bestHeat (some .int) false) (25, [some (.ref 8), some (.int x), some (.int b), some (.int f), some (.int (1000 + 10)), some (.int (wFirsts w n 1000))], [], aHn sn sf (upw m 9 2 0), (0, 0)) (yRes sn sf m (cW (q_bestHeat w n x) (fun c => 1))) := by
      intro b f e
      cases e
      exact fin
    refine aVn_end (stop := fun p => p == 25) 60 ?_
    refine And.intro (fun c => absurd (show false = true from c) (by decide)) (fun _ => ?_)
    refine And.intro (fun c => absurd (show false = true from c) (by decide)) (fun _ => ?_)
    refine Exists.intro _ (And.intro (hf 1000) ?_)
    refine And.intro (fun c => absurd (cT c) hneg.1) (fun _ => ?_)
    refine Exists.intro _ (And.intro rfl ?_)
    exact key _ _ (by rw [if_pos hneg.2])
  refine aRun_of rfl (aVn_end (stop := fun p => p == 25) 60 ?_)
  refine Exists.intro _ (And.intro ha ?_)
  refine And.intro (fun c => absurd (show false = true from c) (by decide)) (fun _ => ?_)
  exact main
/-- System.arraycopy, with places -/
theorem aNat_cq {pc : Nat} {ls : List (Option Value)} {r : List Value} {h : aH} {kk : aK} {c sp dp : Int32} {n q d m0 m1 a1 a2 : Nat} {f e : Nat → Int32} (hc : c = Int32.ofNat n) (hs : sp = Int32.ofNat a1) (hp : dp = Int32.ofNat a2) (hq : h[q]? = some (aAi m0 f)) (hd : h[d]? = some (aAi m1 e)) (h0 : a1 + n ≤ m0) (h1 : a2 + n ≤ m1) (l0 : m0 ≤ 5000) (l1 : m1 ≤ 5000) (hr : aSum r ≤ 8) : aNat 502 pc ls (.int c :: .int dp :: .ref d :: .int sp :: .ref q :: r) h kk = aGo (pc + 3) ls r (h.set d (aAi m1 (va_cpy f e a1 a2 n))) kk := by
  have nn : ∀ {x : Int32} {k : Nat}, x = Int32.ofNat k → k ≤ 5000 → ¬ x < 0 := fun hx hk => by rw [hx]; exact ofN_lt0 (by omega)
  have c1 : c.toNatClampNeg = n := zn_of hc (by omega)
  have c2 : sp.toNatClampNeg = a1 := zn_of hs (by omega)
  have c3 : dp.toNatClampNeg = a2 := zn_of hp (by omega)
  show (if c < 0 ∨ dp < 0 ∨ sp < 0 ∨ 8 < aSum r then none else _) = _
  rw [if_neg (by rintro (q | q | q | q); exact nn hc (by omega) q; exact nn hp (by omega) q; exact nn hs (by omega) q; omega)]
  unfold aAr
  rw [hq]
  dsimp only [aAi]
  rw [hd]
  dsimp only [aAi]
  rw [if_pos ⟨rfl, rfl, rfl, rfl, by rw [c1, c2]; exact h0, by rw [c1, c3]; exact h1⟩, c1, c2, c3]
def mKeep (m : aW) : aW := fun a => match a with
  | 1 => va_cpy (m 0) (m 1) 0 0 495
  | 9 => fun i => match i with
    | 2 => 0
    | j => m 9 j
  | a => m a
theorem y_keep (d : Nat) : aRun false (d + 1) m_X8_keep [.ref 8] (aHn sn sf m) = some (.inl none, aHn sn sf (mKeep m), (0, 0)) := by
  refine aRun_of rfl (aVn_end (stop := fun p => false) 60 ?_)
  refine Exists.intro _ (And.intro (aNat_cq (n := 495) (a1 := 0) (a2 := 0) rfl rfl rfl rfl rfl (by omega) (by omega) (by omega) (by omega) aS_nil) ?_)
  exact rfl
/-- a call that threw ends -/
def mEndX (m : aW) : aW := fun a => match a with
  | 0 => va_cpy (m 1) (m 0) 0 0 495
  | a => m a
theorem y_endsX (d : Nat) (h : 0 < m 9 2) : aRun false (d + 1) m_X8_ends [.ref 8, .int x] (aHn sn sf m) = some (.inl (some (.int 0)), aHn sn sf (mEndX m), (0, 0)) := by
  refine aRun_of rfl (aVn_end (stop := fun p => false) 60 ?_)
  refine And.intro (fun c => absurd h (Int32.not_lt.mpr (cT c))) (fun _ => ?_)
  refine Exists.intro _ (And.intro (aNat_cq (n := 495) (a1 := 0) (a2 := 0) rfl rfl rfl rfl rfl (by omega) (by omega) (by omega) (by omega) aS_nil) ?_)
  exact rfl
/-- a change is kept: c changes before it, or eight -/
def mEnd (m : aW) (c : Nat) : aW := fun a => match a with
  | 4 => va_cpy (m 1) (m 4) 0 (495 * c) 495
  | 9 => fun i => match i with
    | 1 => m 9 1 + 1
    | j => m 9 j
  | a => m a
def mEnd8 (m : aW) : aW := fun a => match a with
  | 4 => va_cpy (m 1) (va_cpy (m 4) (m 4) 495 0 3465) 0 (495 * 7) 495
  | 9 => fun i => match i with
    | 1 => m 9 1 - 1 + 1
    | j => m 9 j
  | a => m a
theorem y_ends (d : Nat) {c : Nat} (h : m 9 2 = 0) (hc : m 9 1 = Int32.ofNat c) (h8 : c < 8) : aRun false (d + 1) m_X8_ends [.ref 8, .int x] (aHn sn sf m) = some (.inl (some (.int x)), aHn sn sf (mEnd m c), (0, 0)) := by
  have h1 : ¬ m 9 1 = 8 := by rw [hc]; exact fun q => absurd (ofN_ne (j := 8) (by omega) (by omega) q) (by omega)
  have h2 : m 9 2 ≤ 0 := by rw [h]; decide
  have h3 : 495 * m 9 1 = Int32.ofNat (495 * c) := by rw [hc, Int32.ofNat_mul]; rfl
  refine aRun_of rfl (aVn_end (stop := fun p => false) 60 ?_)
  refine And.intro (fun _ => ?_) (fun q => absurd h2 (cF q))
  refine And.intro (fun _ => ?_) (fun q => absurd (cF q) (fun r => r h1))
  refine Exists.intro _ (And.intro (aNat_cq (n := 495) (a1 := 0) (a2 := 495 * c) rfl rfl h3 rfl rfl (by omega) (by omega) (by omega) (by omega) aS_nil) ?_)
  exact rfl
theorem y_ends8 (d : Nat) (h : m 9 2 = 0) (hc : m 9 1 = 8) : aRun false (d + 1) m_X8_ends [.ref 8, .int x] (aHn sn sf m) = some (.inl (some (.int x)), aHn sn sf (mEnd8 m), (0, 0)) := by
  have h2 : m 9 2 ≤ 0 := by rw [h]; decide
  have h3 : 495 * (m 9 1 - 1) = Int32.ofNat (495 * 7) := by rw [hc]; decide
  refine aRun_of rfl (aVn_end (stop := fun p => false) 60 ?_)
  refine And.intro (fun _ => ?_) (fun q => absurd h2 (cF q))
  refine And.intro (fun q => absurd hc (cT q)) (fun _ => ?_)
  refine Exists.intro _ (And.intro (aNat_cq (n := 3465) (a1 := 495) (a2 := 0) rfl rfl rfl rfl rfl (by omega) (by omega) (by omega) (by omega) aS_nil) ?_)
  refine Exists.intro _ (And.intro (aNat_cq (n := 495) (a1 := 0) (a2 := 495 * 7) rfl rfl h3 rfl rfl (by omega) (by omega) (by omega) (by omega) aS_nil) ?_)
  exact rfl
def mRef (m : aW) (x y z : Int32) : aW := upw (upw (upw (upw m 9 2 x) 5 0 y) 6 0 z) 9 3 1
theorem y_refuse (d : Nat) : aRun false (d + 1) m_X8_refuse [.ref 8, .int x, .int y, .int z] (aHn sn sf m) = some (.inl (some (.int 0)), aHn sn sf (mRef m x y z), (0, 0)) := by
  refine aRun_of rfl (aVn_end (stop := fun p => false) 60 ?_)
  refine Exists.intro 0 (And.intro ix0 ?_)
  refine Exists.intro 0 (And.intro ix0 ?_)
  exact rfl
def mBef1 (m : aW) (x y : Int32) : aW := upw (upw (upw (upw (upw m 5 1 (m 5 0)) 6 1 (m 6 0)) 5 0 x) 6 0 y) 9 3 2
def mBef2 (m : aW) (x y : Int32) : aW := upw (upw (upw (upw (upw (upw (upw m 5 2 (m 5 1)) 6 2 (m 6 1)) 5 1 (m 5 0)) 6 1 (m 6 0)) 5 0 x) 6 0 y) 9 3 3
theorem y_before1 (d : Nat) : aRun false (d + 1) m_X8_refuseBefore [.ref 8, .int x, .int y, .int 1] (aHn sn sf m) = some (.inl none, aHn sn sf (mBef1 m x y), (0, 0)) := by
  refine aRun_of rfl (aVn_end (stop := fun p => false) 120 ?_)
  refine And.intro (fun c => absurd (show false = true from c) (by decide)) (fun _ => ?_)
  refine Exists.intro 0 (And.intro ix0 ?_)
  refine Exists.intro 1 (And.intro ix1 ?_)
  refine Exists.intro 0 (And.intro ix0 ?_)
  refine Exists.intro 1 (And.intro ix1 ?_)
  refine And.intro (fun _ => ?_) (fun c => absurd (show true = false from c) (by decide))
  refine Exists.intro 0 (And.intro ix0 ?_)
  refine Exists.intro 0 (And.intro ix0 ?_)
  exact rfl
theorem y_before2 (d : Nat) : aRun false (d + 1) m_X8_refuseBefore [.ref 8, .int x, .int y, .int 2] (aHn sn sf m) = some (.inl none, aHn sn sf (mBef2 m x y), (0, 0)) := by
  refine aRun_of rfl (aVn_end (stop := fun p => false) 120 ?_)
  refine And.intro (fun c => absurd (show false = true from c) (by decide)) (fun _ => ?_)
  refine Exists.intro 1 (And.intro ix1 ?_)
  refine Exists.intro 2 (And.intro ix2 ?_)
  refine Exists.intro 1 (And.intro ix1 ?_)
  refine Exists.intro 2 (And.intro ix2 ?_)
  refine And.intro (fun c => absurd (show false = true from c) (by decide)) (fun _ => ?_)
  refine Exists.intro 0 (And.intro ix0 ?_)
  refine Exists.intro 1 (And.intro ix1 ?_)
  refine Exists.intro 0 (And.intro ix0 ?_)
  refine Exists.intro 1 (And.intro ix1 ?_)
  refine And.intro (fun _ => ?_) (fun c => absurd (show true = false from c) (by decide))
  refine Exists.intro 0 (And.intro ix0 ?_)
  refine Exists.intro 0 (And.intro ix0 ?_)
  exact rfl
def q_refusalM (m : aW) (x y : Int32) : Nat ⊕ Int32 := if 0 ≤ x ∧ x ≤ 2 then if x < m 9 3 then .inr (if y = 0 then m 5 (zn x) else m 6 (zn x)) else .inl 3 else .inl 0
theorem y_refusal (d : Nat) : aRun false (d + 7) m_X8_refusal [.ref 8, .int x, .int y] (aHn sn sf m) = some (yRes sn sf m (cW (q_refusalM m x y) (fun c => if c = 0 then 1 else 2))) := by
  by_cases c0 : 0 ≤ x ∧ x ≤ 2
  rotate_left
  · have e : q_refusalM m x y = .inl 0 := by rw [q_refusalM, if_neg c0]
    refine aRun_of rfl (aVn_end (stop := fun p => false) 60 ?_)
    refine Exists.intro _ (And.intro (y_in (d + 5) (if_neg c0).symm) ?_)
    refine And.intro (fun c => absurd (show false = true from c) (by decide)) (fun _ => ?_)
    refine And.intro (fun c => absurd (show false = true from c) (by decide)) (fun _ => ?_)
    exact yR (by rw [e]; rfl)
  have hx : aIx x 3 = some (zn x) := aIx_le (m := 2) c0.1 c0.2 (by omega)
  by_cases c1 : x < m 9 3
  rotate_left
  · have e : q_refusalM m x y = .inl 3 := by rw [q_refusalM, if_pos c0, if_neg c1]
    refine aRun_of rfl (aVn_end (stop := fun p => false) 60 ?_)
    refine Exists.intro _ (And.intro (y_in (d + 5) (if_pos c0).symm) ?_)
    refine And.intro (fun _ => ?_) (fun c => absurd (show true = false from c) (by decide))
    refine And.intro (fun c => absurd (cT c) c1) (fun _ => ?_)
    refine And.intro (fun c => absurd (show false = true from c) (by decide)) (fun _ => ?_)
    exact yR (by rw [e]; rfl)
  refine aRun_of rfl (aVn_end (stop := fun p => false) 60 ?_)
  refine Exists.intro _ (And.intro (y_in (d + 5) (if_pos c0).symm) ?_)
  refine And.intro (fun _ => ?_) (fun c => absurd (show true = false from c) (by decide))
  refine And.intro (fun _ => ?_) (fun c => absurd c1 (cF c))
  refine And.intro (fun _ => ?_) (fun c => absurd (show true = false from c) (by decide))
  refine And.intro (fun c => ?_) (fun c => ?_)
  · have h0 : y = 0 := cT c
    have e : q_refusalM m x y = .inr (m 5 (zn x)) := by rw [q_refusalM, if_pos c0, if_pos c1, if_pos h0]
    refine Exists.intro (zn x) (And.intro hx ?_)
    exact yQ (by rw [e]; rfl) rfl
  · have h0 : ¬ y = 0 := cF c
    have e : q_refusalM m x y = .inr (m 6 (zn x)) := by rw [q_refusalM, if_pos c0, if_pos c1, if_neg h0]
    refine Exists.intro (zn x) (And.intro hx ?_)
    exact yQ (by rw [e]; rfl) rfl
theorem y_faultPosition (d : Nat) : aRun false (d + 7) m_X8_faultPosition [.ref 8] (aHn sn sf m) = some (.inl (some (.int (m 9 7))), aHn sn sf (upw m 9 2 0), (0, 0)) := by
  refine aRun_of rfl (aVn_end (stop := fun p => false) 60 ?_)
  exact rfl
theorem y_appendX (d : Nat) (h : m 9 4 = 60) : aRun false (d + 7) m_X8_append [.ref 8, .int x] (aHn sn sf m) = some (.inl (some (.int 0)), aHn sn sf (upw m 9 2 1), (0, 0)) := by
  refine aRun_of rfl (aVn_end (stop := fun p => false) 60 ?_)
  refine And.intro (fun c => absurd h (cT c)) (fun _ => ?_)
  refine And.intro (fun c => absurd (show false = true from c) (by decide)) (fun _ => ?_)
  exact rfl
def mApp (m : aW) (j : Nat) (x : Int32) : aW := upw (upw (upw m 9 2 0) 7 j x) 9 4 (m 9 4 + 1)
theorem y_append (d : Nat) (hj : m 9 4 = Int32.ofNat j) (hj60 : j < 60) (hx : (x.toUInt32 % 65536).toInt32 = x) : aRun false (d + 7) m_X8_append [.ref 8, .int x] (aHn sn sf m) = some (.inl (some (.int (m 9 4 + 1))), aHn sn sf (mApp m j x), (0, 0)) := by
  have hi : aIx (m 9 4) 60 = some j := aIx_of hj hj60 (by omega)
  have h1 : ¬ m 9 4 = 60 := by rw [hj]; exact fun q => absurd (ofN_ne (j := 60) (by omega) (by omega) q) (by omega)
  refine aRun_of rfl (aVn_end (stop := fun p => false) 60 ?_)
  refine And.intro (fun _ => ?_) (fun c => absurd (cF c) (fun q => q h1))
  refine And.intro (fun _ => ?_) (fun c => absurd (show true = false from c) (by decide))
  refine And.intro hx ?_
  refine Exists.intro j (And.intro hi ?_)
  exact rfl
def mSave (m : aW) : aW := fun a => match a with
  | 3 => va_cpy (m 0) (m 3) 0 0 495
  | 9 => fun i => match i with
    | 0 => 1
    | 2 => 0
    | j => m 9 j
  | a => m a
theorem y_save (d : Nat) : aRun false (d + 7) m_X8_save [.ref 8] (aHn sn sf m) = some (.inl (some (.int (m 0 6))), aHn sn sf (mSave m), (0, 0)) := by
  refine aRun_of rfl (aVn_end (stop := fun p => false) 60 ?_)
  refine Exists.intro _ (And.intro (aNat_cq (n := 495) (a1 := 0) (a2 := 0) rfl rfl rfl rfl rfl (by omega) (by omega) (by omega) (by omega) aS_nil) ?_)
  refine Exists.intro 6 (And.intro (ixN (f := 6) rfl (by omega)) ?_)
  exact rfl
def mRest (m : aW) : aW := fun a => match a with
  | 0 => va_cpy (m 3) (m 0) 0 0 495
  | 9 => fun i => match i with
    | 1 => 0
    | 2 => 0
    | j => m 9 j
  | a => m a
theorem y_restoreX (d : Nat) (h : m 9 0 = 0) : aRun false (d + 7) m_X8_restore [.ref 8] (aHn sn sf m) = some (.inl (some (.int 0)), aHn sn sf (upw m 9 2 1), (0, 0)) := by
  refine aRun_of rfl (aVn_end (stop := fun p => false) 60 ?_)
  refine And.intro (fun _ => ?_) (fun c => absurd h (cF c))
  refine And.intro (fun c => absurd (show false = true from c) (by decide)) (fun _ => ?_)
  exact rfl
theorem y_restore (d : Nat) (h : ¬ m 9 0 = 0) : aRun false (d + 7) m_X8_restore [.ref 8] (aHn sn sf m) = some (.inl (some (.int (va_cpy (m 3) (m 0) 0 0 495 6))), aHn sn sf (mRest m), (0, 0)) := by
  refine aRun_of rfl (aVn_end (stop := fun p => false) 60 ?_)
  refine And.intro (fun c => absurd (cT c) h) (fun _ => ?_)
  refine And.intro (fun _ => ?_) (fun c => absurd (show true = false from c) (by decide))
  refine Exists.intro _ (And.intro (aNat_cq (n := 495) (a1 := 0) (a2 := 0) rfl rfl rfl rfl rfl (by omega) (by omega) (by omega) (by omega) aS_nil) ?_)
  refine Exists.intro 6 (And.intro (ixN (f := 6) rfl (by omega)) ?_)
  exact rfl
def mUndo (m : aW) (c : Nat) : aW := fun a => match a with
  | 0 => va_cpy (m 4) (m 0) (495 * c) 0 495
  | 9 => fun i => match i with
    | 1 => m 9 1 - 1
    | 2 => 0
    | j => m 9 j
  | a => m a
theorem y_undoX (d : Nat) (h : m 9 1 = 0) : aRun false (d + 7) m_X8_undo [.ref 8] (aHn sn sf m) = some (.inl (some (.int 0)), aHn sn sf (upw m 9 2 1), (0, 0)) := by
  refine aRun_of rfl (aVn_end (stop := fun p => false) 60 ?_)
  refine And.intro (fun c => absurd h (cT c)) (fun _ => ?_)
  refine And.intro (fun c => absurd (show false = true from c) (by decide)) (fun _ => ?_)
  exact rfl
theorem y_undo (d : Nat) {c : Nat} (hc : m 9 1 = Int32.ofNat (c + 1)) (h8 : c < 8) : aRun false (d + 7) m_X8_undo [.ref 8] (aHn sn sf m) = some (.inl (some (.int (m 9 1 - 1))), aHn sn sf (mUndo m c), (0, 0)) := by
  have h1 : ¬ m 9 1 = 0 := by rw [hc]; exact fun q => absurd (ofN_ne (j := 0) (by omega) (by omega) q) (by omega)
  have h3 : 495 * (m 9 1 - 1) = Int32.ofNat (495 * c) := by rw [hc, sub1, Int32.ofNat_mul]; rfl
  refine aRun_of rfl (aVn_end (stop := fun p => false) 60 ?_)
  refine And.intro (fun _ => ?_) (fun c => absurd (cF c) (fun q => q h1))
  refine And.intro (fun _ => ?_) (fun c => absurd (show true = false from c) (by decide))
  refine Exists.intro _ (And.intro (aNat_cq (n := 495) (a1 := 495 * c) (a2 := 0) rfl h3 rfl rfl rfl (by omega) (by omega) (by omega) (by omega) aS_nil) ?_)
  exact rfl
end YE
