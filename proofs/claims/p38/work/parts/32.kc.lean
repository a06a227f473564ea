/-! WHAT ALWAYS HOLDS OF A WORKS -/
def okW (w : aW) (g j : Nat) : Prop := (∃ k, aIx (w 6 j) 4 = some k) ∧ (w 2 j = -1 ∨ ∃ k, aIx (w 2 j) 4 = some k) ∧
  ((w 1 j = 0 ∧ w 5 j = 0 ∧ w 4 j = -1) ∨ (w 1 j = 1 ∧ w 5 j = 0 ∧ ∃ k, k < g ∧ w 4 j = Int32.ofNat k) ∨
   (w 1 j = 2 ∧ (w 5 j = 1 ∨ w 5 j = 2 ∨ w 5 j = 3) ∧ ∃ k, k < g ∧ w 4 j = Int32.ofNat k) ∨ (w 1 j = 3 ∧ (w 5 j = 1 ∨ w 5 j = 2) ∧ w 4 j = -1) ∨
   (w 1 j = 4 ∧ (w 5 j = 1 ∨ w 5 j = 2) ∧ w 4 j = -1) ∨ (w 1 j = 5 ∧ w 5 j = 3 ∧ w 4 j = -1))
/-- in the kiln, at that place -/
def okP (w : aW) (j b L : Nat) : Prop := w 8 j = Int32.ofNat b ∧ w 9 j = Int32.ofNat L
def okS (w : aW) (g : Nat) : Prop := (∀ j, j < g → (w 8 j = -1 ∧ w 9 j = -1) ∨ ∃ b L, b < 4 ∧ L < 8 ∧ okP w j b L ∧ (∀ L', L = L' + 1 → ∃ i, i < g ∧ okP w i b L')) ∧
  ∀ i j, i < g → j < g → ¬ w 8 i = -1 → w 8 i = w 8 j → w 9 i = w 9 j → i = j
def okO (w : aW) (i : Nat) : Prop := (w 11 i = 0 ∨ w 11 i = 1) ∧ (∃ k, aIx (w 10 i) 4 = some k) ∧ (∀ k, k < 4 → 0 ≤ w 13 (i * 4 + k) ∧ w 13 (i * 4 + k) ≤ 6) ∧ ∃ k, k < 4 ∧ 0 < w 13 (i * 4 + k)
def nSm (g : Nat → Nat) : Nat → Nat → Nat
  | 0, _ => 0
  | m + 1, i => g i + nSm g m (i + 1)
theorem nSm_congr {f g : Nat → Nat} : ∀ (m i : Nat), (∀ j, i ≤ j → j < i + m → f j = g j) → nSm f m i = nSm g m i
  | 0, _, _ => rfl
  | m + 1, i, h => by
    show f i + nSm f m (i + 1) = g i + nSm g m (i + 1)
    rw [h i (Nat.le_refl _) (by omega), nSm_congr m (i + 1) fun j h1 h2 => h j (by omega) (by omega)]
theorem aSm_nat {f : Nat → Int32} {g : Nat → Nat} : ∀ (m i : Nat), (∀ j, i ≤ j → j < i + m → f j = Int32.ofNat (g j)) → aSm f m i = Int32.ofNat (nSm g m i)
  | 0, _, _ => rfl
  | m + 1, i, h => by
    show f i + aSm f m (i + 1) = Int32.ofNat (g i + nSm g m (i + 1))
    rw [h i (Nat.le_refl _) (by omega), aSm_nat m (i + 1) fun j h1 h2 => h j (by omega) (by omega), Int32.ofNat_add]
theorem zn_nn {x : Int32} (h : 0 ≤ x) : x = Int32.ofNat (zn x) := by
  have e0 : (0 : Int32).toInt = 0 := rfl
  have g0 : (0 : Int) ≤ x.toInt := by rw [← e0]; exact Int32.le_iff_toInt_le.mp h
  have g1 := Int32.toInt_lt x
  have g2 : ((zn x : Nat) : Int) = x.toInt := by
    show ((x.toInt.toNat : Nat) : Int) = _
    omega
  refine Int32.toInt_inj.mp ?_
  rw [Int32.toInt_ofNat_of_lt (by omega)]
  exact g2.symm
/-- wares sold of a kind; wares of a kind in the sets sold -/
def nSold (w : aW) (n k : Nat) : Nat := nSm (fun j => if w 1 j = 4 ∧ w 6 j = Int32.ofNat k then 1 else 0) n 0
def nSoldOf (w : aW) (o k : Nat) : Nat := nSm (fun i => zn (w 12 i) * zn (w 13 (i * 4 + k))) o 0
def okB (w : aW) (n o : Nat) : Prop := w 16 1 = w 16 0 + aSm (fun j => fSz (w 6 j)) n 0 ∧ (∀ i, i < o → 0 ≤ w 12 i) ∧ ∀ k, k < 4 → nSold w n k = nSoldOf w o k
def okT (w : aW) : Prop := (∀ i, i < 3 → 0 ≤ w 0 i) ∧ 0 ≤ w 16 0 ∧ w 16 0 ≤ 999
def okN (w : aW) (n g o : Nat) : Prop := w 16 3 = Int32.ofNat n ∧ n ≤ 60 ∧ w 16 4 = Int32.ofNat g ∧ g ≤ 8 ∧ w 16 5 = Int32.ofNat o ∧ o ≤ 6
def wOk (w : aW) (n g o : Nat) : Prop := okN w n g o ∧ (∀ j, j < n → okW w g j) ∧ okS w g ∧ (∀ i, i < o → okO w i) ∧ okB w n o ∧ okT w
/-- places in use -/
def rgW (a j : Nat) : Prop := (a = 0 ∧ j < 3) ∨ (1 ≤ a ∧ a ≤ 7 ∧ j < 60) ∨ ((a = 8 ∨ a = 9) ∧ j < 8) ∨ ((a = 10 ∨ a = 11 ∨ a = 12) ∧ j < 6) ∨ (a = 13 ∧ j < 24) ∨ (a = 16 ∧ j < 6)
def wSame (w v : aW) : Prop := ∀ a j, rgW a j → w a j = v a j
theorem cpy_at {f e : Nat → Int32} {m j : Nat} (h : j < m) : va_cpy f e 0 0 m j = f j := by
  unfold va_cpy
  rw [if_pos ⟨Nat.zero_le _, by omega⟩, Nat.sub_zero, Nat.zero_add]
theorem cpW_same (w v : aW) : wSame (cpW w v) w := by
  intro a j h
  rcases h with ⟨rfl, h⟩ | ⟨h1, h2, h⟩ | ⟨rfl | rfl, h⟩ | ⟨rfl | rfl | rfl, h⟩ | ⟨rfl, h⟩ | ⟨rfl, h⟩
  · exact cpy_at h
  · match a, h1, h2 with
    | 1, _, _ => exact cpy_at h
    | 2, _, _ => exact cpy_at h
    | 3, _, _ => exact cpy_at h
    | 4, _, _ => exact cpy_at h
    | 5, _, _ => exact cpy_at h
    | 6, _, _ => exact cpy_at h
    | 7, _, _ => exact cpy_at h
  · exact cpy_at h
  · exact cpy_at h
  · exact cpy_at h
  · exact cpy_at h
  · exact cpy_at h
  · exact cpy_at h
  · match j, h with
    | 0, _ => rfl
    | 1, _ => rfl
    | 2, _ => rfl
    | 3, _ => rfl
    | 4, _ => rfl
    | 5, _ => rfl
theorem rg1 {a j : Nat} (h1 : 1 ≤ a) (h2 : a ≤ 7) (h : j < 60) : rgW a j := Or.inr (Or.inl ⟨h1, h2, h⟩)
theorem rg8 {j : Nat} (h : j < 8) : rgW 8 j ∧ rgW 9 j := ⟨Or.inr (Or.inr (Or.inl ⟨Or.inl rfl, h⟩)), Or.inr (Or.inr (Or.inl ⟨Or.inr rfl, h⟩))⟩
theorem rg10 {j : Nat} (h : j < 6) : rgW 10 j ∧ rgW 11 j ∧ rgW 12 j := ⟨Or.inr (Or.inr (Or.inr (Or.inl ⟨Or.inl rfl, h⟩))), Or.inr (Or.inr (Or.inr (Or.inl ⟨Or.inr (Or.inl rfl), h⟩))), Or.inr (Or.inr (Or.inr (Or.inl ⟨Or.inr (Or.inr rfl), h⟩)))⟩
theorem rg13 {j : Nat} (h : j < 24) : rgW 13 j := Or.inr (Or.inr (Or.inr (Or.inr (Or.inl ⟨rfl, h⟩))))
theorem rg16 {j : Nat} (h : j < 6) : rgW 16 j := Or.inr (Or.inr (Or.inr (Or.inr (Or.inr ⟨rfl, h⟩))))
theorem rg0 {j : Nat} (h : j < 3) : rgW 0 j := Or.inl ⟨rfl, h⟩
section VA
variable {w v : aW} {n g o : Nat}
theorem okW_same (h : wSame w v) {j : Nat} (hj : j < 60) (k : okW v g j) : okW w g j := by
  unfold okW at k ⊢
  rw [h 6 j (rg1 (by omega) (by omega) hj), h 2 j (rg1 (by omega) (by omega) hj), h 1 j (rg1 (by omega) (by omega) hj), h 5 j (rg1 (by omega) (by omega) hj), h 4 j (rg1 (by omega) (by omega) hj)]
  exact k
theorem okS_same (h : wSame w v) (hg : g ≤ 8) (k : okS v g) : okS w g := by
  have e8 : ∀ j, j < g → w 8 j = v 8 j := fun j hj => h 8 j (rg8 (by omega)).1
  have e9 : ∀ j, j < g → w 9 j = v 9 j := fun j hj => h 9 j (rg8 (by omega)).2
  refine ⟨fun j hj => ?_, fun i j hi hj => ?_⟩
  · unfold okP
    rw [e8 j hj, e9 j hj]
    rcases k.1 j hj with q | ⟨b, L, q1, q2, q3, q4⟩
    · exact Or.inl q
    · refine Or.inr ⟨b, L, q1, q2, q3, fun L' hL => ?_⟩
      obtain ⟨i, hi, q5⟩ := q4 L' hL
      exact ⟨i, hi, by rw [e8 i hi, e9 i hi]; exact q5⟩
  · rw [e8 i hi, e9 i hi, e8 j hj, e9 j hj]
    exact k.2 i j hi hj
theorem okO_same (h : wSame w v) {i : Nat} (hi : i < 6) (k : okO v i) : okO w i := by
  have e13 : ∀ k, k < 4 → w 13 (i * 4 + k) = v 13 (i * 4 + k) := fun k hk => h 13 _ (rg13 (by omega))
  obtain ⟨k1, k2, k3, k4, k5, k6⟩ := k
  refine ⟨by rw [h 11 i (rg10 hi).2.1]; exact k1, by rw [h 10 i (rg10 hi).1]; exact k2, fun k hk => by rw [e13 k hk]; exact k3 k hk, k4, k5, by rw [e13 k4 k5]; exact k6⟩
theorem nSold_same (h : wSame w v) (hn : n ≤ 60) (k : Nat) : nSold w n k = nSold v n k :=
  nSm_congr n 0 fun j _ hj => by rw [h 1 j (rg1 (by omega) (by omega) (by omega)), h 6 j (rg1 (by omega) (by omega) (by omega))]
theorem nSoldOf_same (h : wSame w v) (ho : o ≤ 6) {k : Nat} (hk : k < 4) : nSoldOf w o k = nSoldOf v o k :=
  nSm_congr o 0 fun j _ hj => by rw [h 12 j (rg10 (by omega)).2.2, h 13 _ (rg13 (by omega))]
theorem wOk_same (h : wSame w v) (k : wOk v n g o) : wOk w n g o := by
  obtain ⟨⟨k1, k2, k3, k4, k5, k6⟩, k7, k8, k9, ⟨k10, k12, k11⟩, k13, k14, k15⟩ := k
  refine ⟨⟨by rw [h 16 3 (rg16 (by omega))]; exact k1, k2, by rw [h 16 4 (rg16 (by omega))]; exact k3, k4, by rw [h 16 5 (rg16 (by omega))]; exact k5, k6⟩, fun j hj => okW_same h (by omega) (k7 j hj), okS_same h k4 k8, fun i hi => okO_same h (by omega) (k9 i hi), ⟨?_, fun i hi => by rw [h 12 i (rg10 (by omega)).2.2]; exact k12 i hi, fun k hk => ?_⟩, fun i hi => by rw [h 0 i (rg0 hi)]; exact k13 i hi, by rw [h 16 0 (rg16 (by omega))]; exact k14, by rw [h 16 0 (rg16 (by omega))]; exact k15⟩
  · rw [h 16 1 (rg16 (by omega)), h 16 0 (rg16 (by omega)), k10]
    congr 1
    exact aSm_congr n 0 fun j _ hj => by rw [h 6 j (rg1 (by omega) (by omega) (by omega))]
  · rw [nSold_same h k2, nSoldOf_same h k6 hk]
    exact k11 k hk
theorem wOk.kinds (k : wOk w n g o) : ∀ j, j < n → ∃ i, aIx (w 6 j) 4 = some i := fun j hj => (k.2.1 j hj).1
theorem wOk.glazes (k : wOk w n g o) : ∀ j, j < n → ¬ w 2 j = -1 → ∃ i, aIx (w 2 j) 4 = some i := fun j hj h => (k.2.1 j hj).2.1.resolve_left h
theorem wOk.sales (h : wOk w n g o) : ∀ k, k < 4 → wSold w n (Int32.ofNat k) = wSoldOf w o k := by
  intro k hk
  have e1 : wSold w n (Int32.ofNat k) = Int32.ofNat (nSold w n k) := aSm_nat n 0 fun j _ _ => by
    by_cases q : w 1 j = 4 ∧ w 6 j = Int32.ofNat k
    · rw [if_pos q, if_pos q]; rfl
    · rw [if_neg q, if_neg q]; rfl
  have e2 : wSoldOf w o k = Int32.ofNat (nSoldOf w o k) := aSm_nat o 0 fun j _ hj => by
    have hj : j < o := by omega
    have a1 := zn_nn (h.2.2.2.2.1.2.1 j hj)
    have a2 := zn_nn ((h.2.2.2.1 j hj).2.2.1 k hk).1
    rw [Int32.ofNat_mul, ← a1, ← a2]
  rw [e1, e2, h.2.2.2.2.1.2.2 k hk]
theorem wOk.levels (k : wOk w n g o) : ∀ j, j < g → zn (w 9 j + 1) ≤ 8 ∧ zn (w 9 j) ≤ 8 := by
  intro j hj
  rcases k.2.2.1.1 j hj with ⟨-, q⟩ | ⟨b, L, -, hL, ⟨-, q⟩, -⟩
  · rw [q]
    decide
  · rw [zn_of (zI_s q) (by omega), zn_of q (by omega)]
    omega
end VA
/-! THE CLASS'S CHANGES -/
section KC
variable {sn : Nat} {sf : Nat → Int32} {k wn wd ws : aW} {n g o j : Nat} {x y z v u s t : Int32}
def fOrd (w : aW) (o : Nat) (x y z u v s : Int32) : aZ := if (0 ≤ x ∧ x ≤ 6) ∧ (0 ≤ y ∧ y ≤ 6) ∧ (0 ≤ z ∧ z ≤ 6) ∧ (0 ≤ u ∧ u ≤ 6) ∧ (0 ≤ v ∧ v ≤ 3) ∧ ¬ x + y + z + u = 0 then
    if w 16 5 < 6 then (w 16 5, wOrd w o x y z u v (if s = 0 then 0 else 1)) else (-3, wNote w 1 6) else (-2, w)
theorem r_order {w : aW} (d : Nat) (ho : w 16 5 = Int32.ofNat o) (ho6 : o ≤ 6) : rZ sn sf w (d + 5) m_X6_addOrder [.ref 8, .int x, .int y, .int z, .int u, .int v, .int s] (fOrd w o x y z u v s) := by
  by_cases h : (0 ≤ x ∧ x ≤ 6) ∧ (0 ≤ y ∧ y ≤ 6) ∧ (0 ≤ z ∧ z ≤ 6) ∧ (0 ≤ u ∧ u ≤ 6) ∧ (0 ≤ v ∧ v ≤ 3) ∧ ¬ x + y + z + u = 0
  · have e : fOrd w o x y z u v s = if w 16 5 < 6 then (w 16 5, wOrd w o x y z u v (if s = 0 then 0 else 1)) else (-3, wNote w 1 6) := if_pos h
    rw [e]
    exact r_addOrder (d + 2) ho ho6 ⟨⟨h.1, h.2.1, h.2.2.1, h.2.2.2.1, h.2.2.2.2.1⟩, h.2.2.2.2.2⟩ rfl
  · have e : fOrd w o x y z u v s = (-2, w) := if_neg h
    rw [e]
    exact r_addOrderBad (d + 2) (fun q => h ⟨q.1.1, q.1.2.1, q.1.2.2.1, q.1.2.2.2.1, q.1.2.2.2.2, q.2⟩)
theorem k_set (d : Nat) (hj : k 7 4 = Int32.ofNat j) (hj8 : j < 8) (ok0 : wOk wn n g o) : aRun false (d + 6) m_X7_set [.ref 8, .int x, .int y] (aHk sn sf 21 42 aRg k wn wd ws) = some (kSet sn sf k wn ws j (fSet (cpW wn wd) x y)) := by
  have ok : wOk (cpW wn wd) n g o := wOk_same (cpW_same wn wd) ok0
  have hf : rZ sn sf (cpW wn wd) (d + 5) m_X6_changeSetting [.ref 8, .int x, .int y] (fSet (cpW wn wd) x y) := r_changeSetting (d + 3)
  have e := r_settle (sn := sn) (sf := sf) (k := k) (wn := wn) (ws := ws) (d + 3) hj hj8 (p := fSet (cpW wn wd) x y)
  generalize fSet (cpW wn wd) x y = p at hf e ⊢
  obtain ⟨p1, p2⟩ := p
  unfold kSet at e ⊢
  dsimp only at hf e ⊢
  by_cases h1 : p1 = -1
  · rw [if_pos h1] at e ⊢
    refine aRun_of rfl (aVn_end (stop := fun p => false) 60 ?_)
    refine Exists.intro _ (And.intro (r_freshDraft (d + 2)) ?_)
    refine Exists.intro _ (And.intro (liftD hf) ?_)
    refine Exists.intro _ (And.intro e ?_)
    exact rfl
  rw [if_neg h1] at e ⊢
  by_cases h2 : p1 = -2
  · rw [if_pos h2] at e ⊢
    refine aRun_of rfl (aVn_end (stop := fun p => false) 60 ?_)
    refine Exists.intro _ (And.intro (r_freshDraft (d + 2)) ?_)
    refine Exists.intro _ (And.intro (liftD hf) ?_)
    refine Exists.intro _ (And.intro e ?_)
    exact rfl
  rw [if_neg h2] at e ⊢
  by_cases h3 : p1 = -3
  · rw [if_pos h3] at e ⊢
    refine aRun_of rfl (aVn_end (stop := fun p => false) 60 ?_)
    refine Exists.intro _ (And.intro (r_freshDraft (d + 2)) ?_)
    refine Exists.intro _ (And.intro (liftD hf) ?_)
    refine Exists.intro _ (And.intro e ?_)
    exact rfl
  rw [if_neg h3] at e ⊢
  refine aRun_of rfl (aVn_end (stop := fun p => false) 60 ?_)
  refine Exists.intro _ (And.intro (r_freshDraft (d + 2)) ?_)
  refine Exists.intro _ (And.intro (liftD hf) ?_)
  refine Exists.intro _ (And.intro e ?_)
  exact rfl
theorem k_clay (d : Nat) (hj : k 7 4 = Int32.ofNat j) (hj8 : j < 8) (ok0 : wOk wn n g o) : aRun false (d + 6) m_X7_clay [.ref 8, .int x] (aHk sn sf 21 42 aRg k wn wd ws) = some (kSet sn sf k wn ws j (fClay (cpW wn wd) x)) := by
  have ok : wOk (cpW wn wd) n g o := wOk_same (cpW_same wn wd) ok0
  have hf : rZ sn sf (cpW wn wd) (d + 5) m_X6_buyClay [.ref 8, .int x] (fClay (cpW wn wd) x) := r_buyClay (d + 2)
  have e := r_settle (sn := sn) (sf := sf) (k := k) (wn := wn) (ws := ws) (d + 3) hj hj8 (p := fClay (cpW wn wd) x)
  generalize fClay (cpW wn wd) x = p at hf e ⊢
  obtain ⟨p1, p2⟩ := p
  unfold kSet at e ⊢
  dsimp only at hf e ⊢
  by_cases h1 : p1 = -1
  · rw [if_pos h1] at e ⊢
    refine aRun_of rfl (aVn_end (stop := fun p => false) 60 ?_)
    refine Exists.intro _ (And.intro (r_freshDraft (d + 2)) ?_)
    refine Exists.intro _ (And.intro (liftD hf) ?_)
    refine Exists.intro _ (And.intro e ?_)
    exact rfl
  rw [if_neg h1] at e ⊢
  by_cases h2 : p1 = -2
  · rw [if_pos h2] at e ⊢
    refine aRun_of rfl (aVn_end (stop := fun p => false) 60 ?_)
    refine Exists.intro _ (And.intro (r_freshDraft (d + 2)) ?_)
    refine Exists.intro _ (And.intro (liftD hf) ?_)
    refine Exists.intro _ (And.intro e ?_)
    exact rfl
  rw [if_neg h2] at e ⊢
  by_cases h3 : p1 = -3
  · rw [if_pos h3] at e ⊢
    refine aRun_of rfl (aVn_end (stop := fun p => false) 60 ?_)
    refine Exists.intro _ (And.intro (r_freshDraft (d + 2)) ?_)
    refine Exists.intro _ (And.intro (liftD hf) ?_)
    refine Exists.intro _ (And.intro e ?_)
    exact rfl
  rw [if_neg h3] at e ⊢
  refine aRun_of rfl (aVn_end (stop := fun p => false) 60 ?_)
  refine Exists.intro _ (And.intro (r_freshDraft (d + 2)) ?_)
  refine Exists.intro _ (And.intro (liftD hf) ?_)
  refine Exists.intro _ (And.intro e ?_)
  exact rfl
theorem k_cast (d : Nat) (hj : k 7 4 = Int32.ofNat j) (hj8 : j < 8) (ok0 : wOk wn n g o) : aRun false (d + 6) m_X7_cast [.ref 8, .int x, .int y, .int z] (aHk sn sf 21 42 aRg k wn wd ws) = some (kSet sn sf k wn ws j (fCast (cpW wn wd) n x y z)) := by
  have ok : wOk (cpW wn wd) n g o := wOk_same (cpW_same wn wd) ok0
  have hf : rZ sn sf (cpW wn wd) (d + 5) m_X6_throwWares [.ref 8, .int x, .int y, .int z] (fCast (cpW wn wd) n x y z) := r_throwWares (d + 2) ok.1.1 ok.1.2.1
  have e := r_settle (sn := sn) (sf := sf) (k := k) (wn := wn) (ws := ws) (d + 3) hj hj8 (p := fCast (cpW wn wd) n x y z)
  generalize fCast (cpW wn wd) n x y z = p at hf e ⊢
  obtain ⟨p1, p2⟩ := p
  unfold kSet at e ⊢
  dsimp only at hf e ⊢
  by_cases h1 : p1 = -1
  · rw [if_pos h1] at e ⊢
    refine aRun_of rfl (aVn_end (stop := fun p => false) 60 ?_)
    refine Exists.intro _ (And.intro (r_freshDraft (d + 2)) ?_)
    refine Exists.intro _ (And.intro (liftD hf) ?_)
    refine Exists.intro _ (And.intro e ?_)
    exact rfl
  rw [if_neg h1] at e ⊢
  by_cases h2 : p1 = -2
  · rw [if_pos h2] at e ⊢
    refine aRun_of rfl (aVn_end (stop := fun p => false) 60 ?_)
    refine Exists.intro _ (And.intro (r_freshDraft (d + 2)) ?_)
    refine Exists.intro _ (And.intro (liftD hf) ?_)
    refine Exists.intro _ (And.intro e ?_)
    exact rfl
  rw [if_neg h2] at e ⊢
  by_cases h3 : p1 = -3
  · rw [if_pos h3] at e ⊢
    refine aRun_of rfl (aVn_end (stop := fun p => false) 60 ?_)
    refine Exists.intro _ (And.intro (r_freshDraft (d + 2)) ?_)
    refine Exists.intro _ (And.intro (liftD hf) ?_)
    refine Exists.intro _ (And.intro e ?_)
    exact rfl
  rw [if_neg h3] at e ⊢
  refine aRun_of rfl (aVn_end (stop := fun p => false) 60 ?_)
  refine Exists.intro _ (And.intro (r_freshDraft (d + 2)) ?_)
  refine Exists.intro _ (And.intro (liftD hf) ?_)
  refine Exists.intro _ (And.intro e ?_)
  exact rfl
theorem k_glaze (d : Nat) (hj : k 7 4 = Int32.ofNat j) (hj8 : j < 8) (ok0 : wOk wn n g o) : aRun false (d + 6) m_X7_glaze [.ref 8, .int x, .int y, .int z] (aHk sn sf 21 42 aRg k wn wd ws) = some (kSet sn sf k wn ws j (fCoat (cpW wn wd) x y z)) := by
  have ok : wOk (cpW wn wd) n g o := wOk_same (cpW_same wn wd) ok0
  have hf : rZ sn sf (cpW wn wd) (d + 5) m_X6_coatWare [.ref 8, .int x, .int y, .int z] (fCoat (cpW wn wd) x y z) := r_coatWare (d + 2) ok.1.1 ok.1.2.1
  have e := r_settle (sn := sn) (sf := sf) (k := k) (wn := wn) (ws := ws) (d + 3) hj hj8 (p := fCoat (cpW wn wd) x y z)
  generalize fCoat (cpW wn wd) x y z = p at hf e ⊢
  obtain ⟨p1, p2⟩ := p
  unfold kSet at e ⊢
  dsimp only at hf e ⊢
  by_cases h1 : p1 = -1
  · rw [if_pos h1] at e ⊢
    refine aRun_of rfl (aVn_end (stop := fun p => false) 60 ?_)
    refine Exists.intro _ (And.intro (r_freshDraft (d + 2)) ?_)
    refine Exists.intro _ (And.intro (liftD hf) ?_)
    refine Exists.intro _ (And.intro e ?_)
    exact rfl
  rw [if_neg h1] at e ⊢
  by_cases h2 : p1 = -2
  · rw [if_pos h2] at e ⊢
    refine aRun_of rfl (aVn_end (stop := fun p => false) 60 ?_)
    refine Exists.intro _ (And.intro (r_freshDraft (d + 2)) ?_)
    refine Exists.intro _ (And.intro (liftD hf) ?_)
    refine Exists.intro _ (And.intro e ?_)
    exact rfl
  rw [if_neg h2] at e ⊢
  by_cases h3 : p1 = -3
  · rw [if_pos h3] at e ⊢
    refine aRun_of rfl (aVn_end (stop := fun p => false) 60 ?_)
    refine Exists.intro _ (And.intro (r_freshDraft (d + 2)) ?_)
    refine Exists.intro _ (And.intro (liftD hf) ?_)
    refine Exists.intro _ (And.intro e ?_)
    exact rfl
  rw [if_neg h3] at e ⊢
  refine aRun_of rfl (aVn_end (stop := fun p => false) 60 ?_)
  refine Exists.intro _ (And.intro (r_freshDraft (d + 2)) ?_)
  refine Exists.intro _ (And.intro (liftD hf) ?_)
  refine Exists.intro _ (And.intro e ?_)
  exact rfl
theorem k_saggar (d : Nat) (hj : k 7 4 = Int32.ofNat j) (hj8 : j < 8) (ok0 : wOk wn n g o) : aRun false (d + 6) m_X7_saggar [.ref 8] (aHk sn sf 21 42 aRg k wn wd ws) = some (kSet sn sf k wn ws j (fSag (cpW wn wd) g)) := by
  have ok : wOk (cpW wn wd) n g o := wOk_same (cpW_same wn wd) ok0
  have hf : rZ sn sf (cpW wn wd) (d + 5) m_X6_addSaggar [.ref 8] (fSag (cpW wn wd) g) := r_addSaggar (d + 2) ok.1.2.2.1 ok.1.2.2.2.1
  have e := r_settle (sn := sn) (sf := sf) (k := k) (wn := wn) (ws := ws) (d + 3) hj hj8 (p := fSag (cpW wn wd) g)
  generalize fSag (cpW wn wd) g = p at hf e ⊢
  obtain ⟨p1, p2⟩ := p
  unfold kSet at e ⊢
  dsimp only at hf e ⊢
  by_cases h1 : p1 = -1
  · rw [if_pos h1] at e ⊢
    refine aRun_of rfl (aVn_end (stop := fun p => false) 60 ?_)
    refine Exists.intro _ (And.intro (r_freshDraft (d + 2)) ?_)
    refine Exists.intro _ (And.intro (liftD hf) ?_)
    refine Exists.intro _ (And.intro e ?_)
    exact rfl
  rw [if_neg h1] at e ⊢
  by_cases h2 : p1 = -2
  · rw [if_pos h2] at e ⊢
    refine aRun_of rfl (aVn_end (stop := fun p => false) 60 ?_)
    refine Exists.intro _ (And.intro (r_freshDraft (d + 2)) ?_)
    refine Exists.intro _ (And.intro (liftD hf) ?_)
    refine Exists.intro _ (And.intro e ?_)
    exact rfl
  rw [if_neg h2] at e ⊢
  by_cases h3 : p1 = -3
  · rw [if_pos h3] at e ⊢
    refine aRun_of rfl (aVn_end (stop := fun p => false) 60 ?_)
    refine Exists.intro _ (And.intro (r_freshDraft (d + 2)) ?_)
    refine Exists.intro _ (And.intro (liftD hf) ?_)
    refine Exists.intro _ (And.intro e ?_)
    exact rfl
  rw [if_neg h3] at e ⊢
  refine aRun_of rfl (aVn_end (stop := fun p => false) 60 ?_)
  refine Exists.intro _ (And.intro (r_freshDraft (d + 2)) ?_)
  refine Exists.intro _ (And.intro (liftD hf) ?_)
  refine Exists.intro _ (And.intro e ?_)
  exact rfl
theorem k_stack (d : Nat) (hj : k 7 4 = Int32.ofNat j) (hj8 : j < 8) (ok0 : wOk wn n g o) : aRun false (d + 6) m_X7_stack [.ref 8, .int x, .int y, .int z] (aHk sn sf 21 42 aRg k wn wd ws) = some (kSet sn sf k wn ws j (fStand (cpW wn wd) n g x y z)) := by
  have ok : wOk (cpW wn wd) n g o := wOk_same (cpW_same wn wd) ok0
  have hf : rZ sn sf (cpW wn wd) (d + 5) m_X6_standInKiln [.ref 8, .int x, .int y, .int z] (fStand (cpW wn wd) n g x y z) := r_standInKiln d ok.1.1 ok.1.2.1 ok.1.2.2.1 ok.1.2.2.2.1 ok.kinds ok.levels
  have e := r_settle (sn := sn) (sf := sf) (k := k) (wn := wn) (ws := ws) (d + 3) hj hj8 (p := fStand (cpW wn wd) n g x y z)
  generalize fStand (cpW wn wd) n g x y z = p at hf e ⊢
  obtain ⟨p1, p2⟩ := p
  unfold kSet at e ⊢
  dsimp only at hf e ⊢
  by_cases h1 : p1 = -1
  · rw [if_pos h1] at e ⊢
    refine aRun_of rfl (aVn_end (stop := fun p => false) 60 ?_)
    refine Exists.intro _ (And.intro (r_freshDraft (d + 2)) ?_)
    refine Exists.intro _ (And.intro (liftD hf) ?_)
    refine Exists.intro _ (And.intro e ?_)
    exact rfl
  rw [if_neg h1] at e ⊢
  by_cases h2 : p1 = -2
  · rw [if_pos h2] at e ⊢
    refine aRun_of rfl (aVn_end (stop := fun p => false) 60 ?_)
    refine Exists.intro _ (And.intro (r_freshDraft (d + 2)) ?_)
    refine Exists.intro _ (And.intro (liftD hf) ?_)
    refine Exists.intro _ (And.intro e ?_)
    exact rfl
  rw [if_neg h2] at e ⊢
  by_cases h3 : p1 = -3
  · rw [if_pos h3] at e ⊢
    refine aRun_of rfl (aVn_end (stop := fun p => false) 60 ?_)
    refine Exists.intro _ (And.intro (r_freshDraft (d + 2)) ?_)
    refine Exists.intro _ (And.intro (liftD hf) ?_)
    refine Exists.intro _ (And.intro e ?_)
    exact rfl
  rw [if_neg h3] at e ⊢
  refine aRun_of rfl (aVn_end (stop := fun p => false) 60 ?_)
  refine Exists.intro _ (And.intro (r_freshDraft (d + 2)) ?_)
  refine Exists.intro _ (And.intro (liftD hf) ?_)
  refine Exists.intro _ (And.intro e ?_)
  exact rfl
theorem k_unstack (d : Nat) (hj : k 7 4 = Int32.ofNat j) (hj8 : j < 8) (ok0 : wOk wn n g o) : aRun false (d + 6) m_X7_unstack [.ref 8, .int x] (aHk sn sf 21 42 aRg k wn wd ws) = some (kSet sn sf k wn ws j (fDown (cpW wn wd) g x)) := by
  have ok : wOk (cpW wn wd) n g o := wOk_same (cpW_same wn wd) ok0
  have hf : rZ sn sf (cpW wn wd) (d + 5) m_X6_standOnFloor [.ref 8, .int x] (fDown (cpW wn wd) g x) := r_standOnFloor (d + 2) ok.1.2.2.1 ok.1.2.2.2.1
  have e := r_settle (sn := sn) (sf := sf) (k := k) (wn := wn) (ws := ws) (d + 3) hj hj8 (p := fDown (cpW wn wd) g x)
  generalize fDown (cpW wn wd) g x = p at hf e ⊢
  obtain ⟨p1, p2⟩ := p
  unfold kSet at e ⊢
  dsimp only at hf e ⊢
  by_cases h1 : p1 = -1
  · rw [if_pos h1] at e ⊢
    refine aRun_of rfl (aVn_end (stop := fun p => false) 60 ?_)
    refine Exists.intro _ (And.intro (r_freshDraft (d + 2)) ?_)
    refine Exists.intro _ (And.intro (liftD hf) ?_)
    refine Exists.intro _ (And.intro e ?_)
    exact rfl
  rw [if_neg h1] at e ⊢
  by_cases h2 : p1 = -2
  · rw [if_pos h2] at e ⊢
    refine aRun_of rfl (aVn_end (stop := fun p => false) 60 ?_)
    refine Exists.intro _ (And.intro (r_freshDraft (d + 2)) ?_)
    refine Exists.intro _ (And.intro (liftD hf) ?_)
    refine Exists.intro _ (And.intro e ?_)
    exact rfl
  rw [if_neg h2] at e ⊢
  by_cases h3 : p1 = -3
  · rw [if_pos h3] at e ⊢
    refine aRun_of rfl (aVn_end (stop := fun p => false) 60 ?_)
    refine Exists.intro _ (And.intro (r_freshDraft (d + 2)) ?_)
    refine Exists.intro _ (And.intro (liftD hf) ?_)
    refine Exists.intro _ (And.intro e ?_)
    exact rfl
  rw [if_neg h3] at e ⊢
  refine aRun_of rfl (aVn_end (stop := fun p => false) 60 ?_)
  refine Exists.intro _ (And.intro (r_freshDraft (d + 2)) ?_)
  refine Exists.intro _ (And.intro (liftD hf) ?_)
  refine Exists.intro _ (And.intro e ?_)
  exact rfl
theorem k_put (d : Nat) (hj : k 7 4 = Int32.ofNat j) (hj8 : j < 8) (ok0 : wOk wn n g o) : aRun false (d + 6) m_X7_put [.ref 8, .int x, .int y] (aHk sn sf 21 42 aRg k wn wd ws) = some (kSet sn sf k wn ws j (fPut (cpW wn wd) n g x y)) := by
  have ok : wOk (cpW wn wd) n g o := wOk_same (cpW_same wn wd) ok0
  have hf : rZ sn sf (cpW wn wd) (d + 5) m_X6_putWare [.ref 8, .int x, .int y] (fPut (cpW wn wd) n g x y) := r_putWare d ok.1.1 ok.1.2.1 ok.1.2.2.1 ok.1.2.2.2.1 ok.kinds ok.levels
  have e := r_settle (sn := sn) (sf := sf) (k := k) (wn := wn) (ws := ws) (d + 3) hj hj8 (p := fPut (cpW wn wd) n g x y)
  generalize fPut (cpW wn wd) n g x y = p at hf e ⊢
  obtain ⟨p1, p2⟩ := p
  unfold kSet at e ⊢
  dsimp only at hf e ⊢
  by_cases h1 : p1 = -1
  · rw [if_pos h1] at e ⊢
    refine aRun_of rfl (aVn_end (stop := fun p => false) 60 ?_)
    refine Exists.intro _ (And.intro (r_freshDraft (d + 2)) ?_)
    refine Exists.intro _ (And.intro (liftD hf) ?_)
    refine Exists.intro _ (And.intro e ?_)
    exact rfl
  rw [if_neg h1] at e ⊢
  by_cases h2 : p1 = -2
  · rw [if_pos h2] at e ⊢
    refine aRun_of rfl (aVn_end (stop := fun p => false) 60 ?_)
    refine Exists.intro _ (And.intro (r_freshDraft (d + 2)) ?_)
    refine Exists.intro _ (And.intro (liftD hf) ?_)
    refine Exists.intro _ (And.intro e ?_)
    exact rfl
  rw [if_neg h2] at e ⊢
  by_cases h3 : p1 = -3
  · rw [if_pos h3] at e ⊢
    refine aRun_of rfl (aVn_end (stop := fun p => false) 60 ?_)
    refine Exists.intro _ (And.intro (r_freshDraft (d + 2)) ?_)
    refine Exists.intro _ (And.intro (liftD hf) ?_)
    refine Exists.intro _ (And.intro e ?_)
    exact rfl
  rw [if_neg h3] at e ⊢
  refine aRun_of rfl (aVn_end (stop := fun p => false) 60 ?_)
  refine Exists.intro _ (And.intro (r_freshDraft (d + 2)) ?_)
  refine Exists.intro _ (And.intro (liftD hf) ?_)
  refine Exists.intro _ (And.intro e ?_)
  exact rfl
theorem k_fire (d : Nat) (hj : k 7 4 = Int32.ofNat j) (hj8 : j < 8) (ok0 : wOk wn n g o) : aRun false (d + 6) m_X7_fire [.ref 8, .int x] (aHk sn sf 21 42 aRg k wn wd ws) = some (kSet sn sf k wn ws j (fFire (cpW wn wd) n x)) := by
  have ok : wOk (cpW wn wd) n g o := wOk_same (cpW_same wn wd) ok0
  have hf : rZ sn sf (cpW wn wd) (d + 5) m_X6_fireWares [.ref 8, .int x] (fFire (cpW wn wd) n x) := r_fireWares d ok.1.1 ok.1.2.1 ok.1.2.2.1 ok.1.2.2.2.1 ok.glazes
  have e := r_settle (sn := sn) (sf := sf) (k := k) (wn := wn) (ws := ws) (d + 3) hj hj8 (p := fFire (cpW wn wd) n x)
  generalize fFire (cpW wn wd) n x = p at hf e ⊢
  obtain ⟨p1, p2⟩ := p
  unfold kSet at e ⊢
  dsimp only at hf e ⊢
  by_cases h1 : p1 = -1
  · rw [if_pos h1] at e ⊢
    refine aRun_of rfl (aVn_end (stop := fun p => false) 60 ?_)
    refine Exists.intro _ (And.intro (r_freshDraft (d + 2)) ?_)
    refine Exists.intro _ (And.intro (liftD hf) ?_)
    refine Exists.intro _ (And.intro e ?_)
    exact rfl
  rw [if_neg h1] at e ⊢
  by_cases h2 : p1 = -2
  · rw [if_pos h2] at e ⊢
    refine aRun_of rfl (aVn_end (stop := fun p => false) 60 ?_)
    refine Exists.intro _ (And.intro (r_freshDraft (d + 2)) ?_)
    refine Exists.intro _ (And.intro (liftD hf) ?_)
    refine Exists.intro _ (And.intro e ?_)
    exact rfl
  rw [if_neg h2] at e ⊢
  by_cases h3 : p1 = -3
  · rw [if_pos h3] at e ⊢
    refine aRun_of rfl (aVn_end (stop := fun p => false) 60 ?_)
    refine Exists.intro _ (And.intro (r_freshDraft (d + 2)) ?_)
    refine Exists.intro _ (And.intro (liftD hf) ?_)
    refine Exists.intro _ (And.intro e ?_)
    exact rfl
  rw [if_neg h3] at e ⊢
  refine aRun_of rfl (aVn_end (stop := fun p => false) 60 ?_)
  refine Exists.intro _ (And.intro (r_freshDraft (d + 2)) ?_)
  refine Exists.intro _ (And.intro (liftD hf) ?_)
  refine Exists.intro _ (And.intro e ?_)
  exact rfl
theorem k_empty (d : Nat) (hj : k 7 4 = Int32.ofNat j) (hj8 : j < 8) (ok0 : wOk wn n g o) : aRun false (d + 6) m_X7_empty [.ref 8, .int x] (aHk sn sf 21 42 aRg k wn wd ws) = some (kSet sn sf k wn ws j (fEmpty (cpW wn wd) n x)) := by
  have ok : wOk (cpW wn wd) n g o := wOk_same (cpW_same wn wd) ok0
  have hf : rZ sn sf (cpW wn wd) (d + 5) m_X6_emptySaggar [.ref 8, .int x] (fEmpty (cpW wn wd) n x) := r_emptySaggar (d + 2) ok.1.1 ok.1.2.1
  have e := r_settle (sn := sn) (sf := sf) (k := k) (wn := wn) (ws := ws) (d + 3) hj hj8 (p := fEmpty (cpW wn wd) n x)
  generalize fEmpty (cpW wn wd) n x = p at hf e ⊢
  obtain ⟨p1, p2⟩ := p
  unfold kSet at e ⊢
  dsimp only at hf e ⊢
  by_cases h1 : p1 = -1
  · rw [if_pos h1] at e ⊢
    refine aRun_of rfl (aVn_end (stop := fun p => false) 60 ?_)
    refine Exists.intro _ (And.intro (r_freshDraft (d + 2)) ?_)
    refine Exists.intro _ (And.intro (liftD hf) ?_)
    refine Exists.intro _ (And.intro e ?_)
    exact rfl
  rw [if_neg h1] at e ⊢
  by_cases h2 : p1 = -2
  · rw [if_pos h2] at e ⊢
    refine aRun_of rfl (aVn_end (stop := fun p => false) 60 ?_)
    refine Exists.intro _ (And.intro (r_freshDraft (d + 2)) ?_)
    refine Exists.intro _ (And.intro (liftD hf) ?_)
    refine Exists.intro _ (And.intro e ?_)
    exact rfl
  rw [if_neg h2] at e ⊢
  by_cases h3 : p1 = -3
  · rw [if_pos h3] at e ⊢
    refine aRun_of rfl (aVn_end (stop := fun p => false) 60 ?_)
    refine Exists.intro _ (And.intro (r_freshDraft (d + 2)) ?_)
    refine Exists.intro _ (And.intro (liftD hf) ?_)
    refine Exists.intro _ (And.intro e ?_)
    exact rfl
  rw [if_neg h3] at e ⊢
  refine aRun_of rfl (aVn_end (stop := fun p => false) 60 ?_)
  refine Exists.intro _ (And.intro (r_freshDraft (d + 2)) ?_)
  refine Exists.intro _ (And.intro (liftD hf) ?_)
  refine Exists.intro _ (And.intro e ?_)
  exact rfl
theorem k_sell (d : Nat) (hj : k 7 4 = Int32.ofNat j) (hj8 : j < 8) (ok0 : wOk wn n g o) : aRun false (d + 6) m_X7_sell [.ref 8, .int x] (aHk sn sf 21 42 aRg k wn wd ws) = some (kSet sn sf k wn ws j (fSell (cpW wn wd) n x)) := by
  have ok : wOk (cpW wn wd) n g o := wOk_same (cpW_same wn wd) ok0
  have hf : rZ sn sf (cpW wn wd) (d + 5) m_X6_sellSet [.ref 8, .int x] (fSell (cpW wn wd) n x) := r_sellSet d ok.1.1 ok.1.2.1 ok.1.2.2.2.2.1 ok.1.2.2.2.2.2
  have e := r_settle (sn := sn) (sf := sf) (k := k) (wn := wn) (ws := ws) (d + 3) hj hj8 (p := fSell (cpW wn wd) n x)
  generalize fSell (cpW wn wd) n x = p at hf e ⊢
  obtain ⟨p1, p2⟩ := p
  unfold kSet at e ⊢
  dsimp only at hf e ⊢
  by_cases h1 : p1 = -1
  · rw [if_pos h1] at e ⊢
    refine aRun_of rfl (aVn_end (stop := fun p => false) 60 ?_)
    refine Exists.intro _ (And.intro (r_freshDraft (d + 2)) ?_)
    refine Exists.intro _ (And.intro (liftD hf) ?_)
    refine Exists.intro _ (And.intro e ?_)
    exact rfl
  rw [if_neg h1] at e ⊢
  by_cases h2 : p1 = -2
  · rw [if_pos h2] at e ⊢
    refine aRun_of rfl (aVn_end (stop := fun p => false) 60 ?_)
    refine Exists.intro _ (And.intro (r_freshDraft (d + 2)) ?_)
    refine Exists.intro _ (And.intro (liftD hf) ?_)
    refine Exists.intro _ (And.intro e ?_)
    exact rfl
  rw [if_neg h2] at e ⊢
  by_cases h3 : p1 = -3
  · rw [if_pos h3] at e ⊢
    refine aRun_of rfl (aVn_end (stop := fun p => false) 60 ?_)
    refine Exists.intro _ (And.intro (r_freshDraft (d + 2)) ?_)
    refine Exists.intro _ (And.intro (liftD hf) ?_)
    refine Exists.intro _ (And.intro e ?_)
    exact rfl
  rw [if_neg h3] at e ⊢
  refine aRun_of rfl (aVn_end (stop := fun p => false) 60 ?_)
  refine Exists.intro _ (And.intro (r_freshDraft (d + 2)) ?_)
  refine Exists.intro _ (And.intro (liftD hf) ?_)
  refine Exists.intro _ (And.intro e ?_)
  exact rfl
theorem k_order (d : Nat) (hj : k 7 4 = Int32.ofNat j) (hj8 : j < 8) (ok0 : wOk wn n g o) : aRun false (d + 6) m_X7_order [.ref 8, .int x, .int y, .int z, .int u, .int v, .int s] (aHk sn sf 21 42 aRg k wn wd ws) = some (kSet sn sf k wn ws j (fOrd (cpW wn wd) o x y z u v s)) := by
  have ok : wOk (cpW wn wd) n g o := wOk_same (cpW_same wn wd) ok0
  have hf : rZ sn sf (cpW wn wd) (d + 5) m_X6_addOrder [.ref 8, .int x, .int y, .int z, .int u, .int v, .int s] (fOrd (cpW wn wd) o x y z u v s) := r_order d ok.1.2.2.2.2.1 ok.1.2.2.2.2.2
  have e := r_settle (sn := sn) (sf := sf) (k := k) (wn := wn) (ws := ws) (d + 3) hj hj8 (p := fOrd (cpW wn wd) o x y z u v s)
  generalize fOrd (cpW wn wd) o x y z u v s = p at hf e ⊢
  obtain ⟨p1, p2⟩ := p
  unfold kSet at e ⊢
  dsimp only at hf e ⊢
  have hl : aRun false (d + 5) m_X6_addOrder [.ref 42, .int x, .int y, .int z, .int u, .int v, .int s] (aHk sn sf 21 42 aRg k wn (cpW wn wd) ws) = some (.inl (some (.int p1)), aHk sn sf 21 42 aRg k wn p2 ws, (0, 0)) := liftD hf
  by_cases h1 : p1 = -1
  · rw [if_pos h1] at e ⊢
    refine aRun_of rfl (aVn_end (stop := fun p => false) 60 ?_)
    refine Exists.intro _ (And.intro (r_freshDraft (d + 2)) ?_)
    refine Exists.intro _ (And.intro hl ?_)
    refine Exists.intro _ (And.intro e ?_)
    exact rfl
  rw [if_neg h1] at e ⊢
  by_cases h2 : p1 = -2
  · rw [if_pos h2] at e ⊢
    refine aRun_of rfl (aVn_end (stop := fun p => false) 60 ?_)
    refine Exists.intro _ (And.intro (r_freshDraft (d + 2)) ?_)
    refine Exists.intro _ (And.intro hl ?_)
    refine Exists.intro _ (And.intro e ?_)
    exact rfl
  rw [if_neg h2] at e ⊢
  by_cases h3 : p1 = -3
  · rw [if_pos h3] at e ⊢
    refine aRun_of rfl (aVn_end (stop := fun p => false) 60 ?_)
    refine Exists.intro _ (And.intro (r_freshDraft (d + 2)) ?_)
    refine Exists.intro _ (And.intro hl ?_)
    refine Exists.intro _ (And.intro e ?_)
    exact rfl
  rw [if_neg h3] at e ⊢
  refine aRun_of rfl (aVn_end (stop := fun p => false) 60 ?_)
  refine Exists.intro _ (And.intro (r_freshDraft (d + 2)) ?_)
  refine Exists.intro _ (And.intro hl ?_)
  refine Exists.intro _ (And.intro e ?_)
  exact rfl
end KC
