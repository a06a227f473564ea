/-! THE MODEL: heats, classes, sales -/
theorem aFd_congr {p p1 : Nat → Bool} (q : Nat → Int32) (z : Int32) : ∀ (m i : Nat), (∀ j, i ≤ j → j < i + m → p j = p1 j) → aFd p q z m i = aFd p1 q z m i
  | 0, _, _ => rfl
  | m + 1, i, h => by
    show (if p i = true then q i else aFd p q z m (i + 1)) = (if p1 i = true then q i else aFd p1 q z m (i + 1))
    rw [h i (Nat.le_refl _) (by omega), aFd_congr q z m (i + 1) fun j h1 h2 => h j (by omega) (by omega)]
def aAny (p : Nat → Bool) (m : Nat) : Int32 := aFd p (fun _ => 1) 0 m 0
theorem aAny_s (p : Nat → Bool) (m : Nat) : aAny p (m + 1) = if aAny p m = 0 then (if p m = true then 1 else 0) else 1 := by
  unfold aAny
  rw [aFd_last, Nat.zero_add]
  rcases aFd_cases p (fun _ => (1 : Int32)) 0 m 0 with ⟨h1, h2⟩ | ⟨j, h1, h2, h3, h4, h5⟩
  · rw [h1, if_pos rfl]
    exact aFd_none _ _ _ _ _ h2
  · rw [h4, if_neg (show ¬ (1 : Int32) = 0 by decide)]
    rcases aFd_cases p (fun _ => (1 : Int32)) (if p m = true then 1 else 0) m 0 with ⟨-, g2⟩ | ⟨i, -, -, -, g4, -⟩
    · have := g2 j h1 h2
      rw [h3] at this
      exact absurd this (by decide)
    · exact g4
section YC
variable {sn : Nat} {sf : Nat → Int32} {m w : aW} {n g o i j k f b L : Nat} {x y z v u s t : Int32}
theorem y_footOf (d : Nat) (R : Rl w (m 0) n g o) (ok : wOkA w n g o) (hy : y = Int32.ofNat b) (hb : b < 4) : rM sn sf m (d + 3) m_X8_footOf [.ref 8, .int y] (wAt w g y 0) := by
  have hg : m 0 7 = Int32.ofNat g := R.1.2.2.2.2.2.2.2.1.trans ok.1.2.2.1
  have hg8 := ok.1.2.2.2.1
  have key0 : ∀ j, j < g → w 8 j = y → (wDn w g (Int32.ofNat j) < 0 ↔ w 9 j = 0) := by
    intro j hj h8
    obtain ⟨b1, L, hb1, hL, p⟩ := okS_in ok.2.2.1 hj (by rw [h8, hy]; exact b_ne hb)
    cases L with
    | zero =>
      rw [wDn_0 ok.2.2.1 (by omega) hg8 hb1 p, p.2]
      exact ⟨fun _ => rfl, fun _ => by decide⟩
    | succ L =>
      obtain ⟨i, hi, -, e⟩ := wDn_ex ok.2.2.1 hg8 hj hb1 p (by omega)
      rw [e, p.2]
      exact ⟨fun q => absurd q (ofN_lt0 (by omega)), fun q => absurd (ofN_ne (j := 0) (by omega) (by omega) q) (by omega)⟩
  have e : wAt w g y 0 = aFd (fun j => decide (w 8 j = y ∧ wDn w g (Int32.ofNat j) < 0)) (fun j => Int32.ofNat j) (-1) g 0 := aFd_congr _ _ g 0 fun j _ hj => by
    by_cases c : w 8 j = y
    · have := key0 j (by omega) c
      by_cases c2 : w 9 j = 0
      · rw [decide_eq_true ⟨c, c2⟩, decide_eq_true ⟨c, this.mpr c2⟩]
      · rw [decide_eq_false (fun q => c2 q.2), decide_eq_false (fun q => c2 (this.mp q.2))]
    · rw [decide_eq_false (fun q => c q.1), decide_eq_false (fun q => c q.1)]
  rw [e]
  refine aRun_of rfl (aVn_end (stop := fun p => p == 2) 20 (k_find (S := fun x => (2, [some (.ref 8), some (.int y), some (.int x)], [], aHn sn sf m, (0, 0))) (R := fun f => (.inl (some (.int f)), aHn sn sf m, (0, 0))) (p := fun j => decide (w 8 j = y ∧ wDn w g (Int32.ofNat j) < 0)) (q := fun j => Int32.ofNat j) (z := -1) (n := g) (fun i x hi hx r h1 h2 => ?_) (fun x hx => ?_) g 0 0 (by omega) rfl))
  · have e1 : wDn w g x = wDn w g (Int32.ofNat i) := by rw [hx]
    refine aVn_end (stop := fun p => p == 2) 60 ?_
    refine Exists.intro 7 (And.intro (ixN (f := 7) rfl (by omega)) ?_)
    refine And.intro (fun c => absurd (zgeT c hx hg (by omega) (by omega)) (by omega)) (fun _ => ?_)
    refine Exists.intro _ (And.intro (y_bung d R ok hx hi) ?_)
    refine And.intro (fun c => ?_) (fun c => ?_)
    · have c1 : ¬ w 8 i = y := cT c
      exact h2 (decide_eq_false (fun q => c1 q.1))
    have c1 : w 8 i = y := Decidable.not_not.mp (cF c)
    refine Exists.intro _ (And.intro (y_below d R ok hx hi) ?_)
    refine And.intro (fun c => ?_) (fun c => ?_)
    · have c2 : 0 ≤ wDn w g x := cT c
      exact h2 (decide_eq_false (fun q => absurd q.2 (by rw [← e1]; exact Int32.not_lt.mpr c2)))
    · have c2 : ¬ 0 ≤ wDn w g x := cF c
      have e2 := h1 (decide_eq_true ⟨c1, by rw [← e1]; exact Int32.not_le.mp c2⟩)
      exact (aRi hx).trans e2.symm
  · refine aVn_end (stop := fun p => p == 2) 60 ?_
    refine Exists.intro 7 (And.intro (ixN (f := 7) rfl (by omega)) ?_)
    exact And.intro (fun c => rfl) (fun c => absurd (zgeF c hx hg (by omega) (by omega)) (by omega))
theorem y_heatBy (d : Nat) (R : Rl w (m 0) n g o) (ok : wOkA w n g o) (hx : x = Int32.ofNat i) (hi : i < g) : rM sn sf m (d + 4) m_X8_heatBy [.ref 8, .int x, .int y] (y - 10 * wLv w i - 5 * w 8 i) := by
  refine aRun_of rfl (aVn_end (stop := fun p => false) 60 ?_)
  refine Exists.intro _ (And.intro (y_levelOf d R ok hx hi) ?_)
  refine Exists.intro _ (And.intro (y_bung (d + 1) R ok hx hi) ?_)
  exact rfl
theorem okW_1 (ok : wOkA w n g o) (hi : i < n) (h : w 1 i = 1) : ∃ k, k < g ∧ w 4 i = Int32.ofNat k ∧ (wFires w i = true ↔ ¬ w 8 k = -1) := by
  rcases (ok.2.1 i hi).2.2 with ⟨q, -⟩ | ⟨-, -, k, hk, e⟩ | ⟨q, -⟩ | ⟨q, -⟩ | ⟨q, -⟩ | ⟨q, -⟩
  · rw [q] at h; exact absurd h (by decide)
  · refine ⟨k, hk, e, ?_⟩
    have hg := ok.1.2.2.2.1
    have ez : zn (w 4 i) = k := zn_of e (by omega)
    unfold wFires
    rw [decide_eq_true_eq, ez]
    exact ⟨fun q => q.2.2.2, fun q => ⟨h, by rw [e]; exact Int32.not_lt.mp (ofN_lt0 (by omega)), by rw [ok.1.2.2.1]; exact (zI_lt e rfl (by omega) (by omega)).mpr hk, q⟩⟩
  · rw [q] at h; exact absurd h (by decide)
  · rw [q] at h; exact absurd h (by decide)
  · rw [q] at h; exact absurd h (by decide)
  · rw [q] at h; exact absurd h (by decide)
theorem y_isToFire (d : Nat) (R : Rl w (m 0) n g o) (ok : wOkA w n g o) (hx : x = Int32.ofNat i) (hi : i < n) (hv : v = if wFires w i = true then 1 else 0) : rM sn sf m (d + 4) m_X8_isToFire [.ref 8, .int x] v := by
  by_cases h : w 1 i = 1
  · obtain ⟨k, hk, e, hf⟩ := okW_1 ok hi h
    refine aRun_of rfl (aVn_end (stop := fun p => false) 60 ?_)
    refine Exists.intro _ (And.intro (y_state (d + 1) R ok hx hi) ?_)
    refine And.intro (fun c => absurd h (cT c)) (fun _ => ?_)
    refine Exists.intro _ (And.intro (y_where (d + 1) R ok hx hi) ?_)
    refine Exists.intro _ (And.intro (y_isOnFloor d R ok e hk rfl) ?_)
    refine And.intro (fun c => ?_) (fun c => ?_)
    · have c1 := bNeT c
      exact And.intro rfl (aRi (by rw [hv, if_neg (fun q => hf.mp q c1)]))
    · have c1 := bNeF c
      exact And.intro rfl (aRi (by rw [hv, if_pos (hf.mpr c1)]))
  · have hf : ¬ wFires w i = true := fun q => h (of_decide_eq_true q).1
    refine aRun_of rfl (aVn_end (stop := fun p => false) 60 ?_)
    refine Exists.intro _ (And.intro (y_state (d + 1) R ok hx hi) ?_)
    refine And.intro (fun _ => ?_) (fun c => absurd (cF c) (fun q => q h))
    exact And.intro rfl (aRi (by rw [hv, if_neg hf]))
theorem y_isAnyToFire (d : Nat) (R : Rl w (m 0) n g o) (ok : wOkA w n g o) : rM sn sf m (d + 5) m_X8_isAnyToFire [.ref 8] (wAny w n) := by
  have hn : m 0 6 = Int32.ofNat n := R.1.2.2.2.2.2.2.1.trans ok.1.1
  have hle := ok.1.2.1
  have hbit : ∀ i, aFit .boolean (.int (aAny (fun j => wFires w j) i)) = true := by
    intro i
    rcases aFd_cases (fun j => wFires w j) (fun _ => (1 : Int32)) 0 i 0 with ⟨h1, -⟩ | ⟨j, -, -, -, h4, -⟩
    · unfold aAny; rw [h1]; rfl
    · unfold aAny; rw [h4]; rfl
  have main : aEnd (aStep (aRun false (d + 4)) aCls [] aB_X8_isAnyToFire (some .boolean) false) (4, [some (.ref 8), some (.int 0), some (.int 0)], [], aHn sn sf m, (0, 0)) (.inl (some (.int (wAny w n))), aHn sn sf m, (0, 0)) := by
    refine k_ind (τ := Unit) (n := n) (T := fun _ i x1 => (4, [some (.ref 8), some (.int (aAny (fun j => wFires w j) i)), some (.int x1)], [], aHn sn sf m, (0, 0))) (fun i x1 u hi hx r ih => ?_) (fun x1 u hx => ?_) n 0 0 () (by omega) rfl
    · have key : ∀ f, f = aAny (fun j => wFires w j) (i + 1) → aEnd (aStep (aRun false (d + 4)) aCls [] aB_X8_isAnyToFire (some .boolean) false) (4, [some (.ref 8), some (.int f), some (.int (x1 + 1))], [], aHn sn sf m, (0, 0)) r := fun f e => e ▸ ih ()
      have es := aAny_s (fun j => wFires w j) i
      refine aVn_end (stop := fun p => p == 4) 60 ?_
      refine Exists.intro 6 (And.intro (ixN (f := 6) rfl (by omega)) ?_)
      refine And.intro (fun c => absurd (zgeT c hx hn (by omega) (by omega)) (by omega)) (fun _ => ?_)
      refine And.intro (fun c => ?_) (fun c => ?_)
      · have c1 : ¬ aAny (fun j => wFires w j) i = 0 := cT c
        exact key _ (by rw [es, if_neg c1])
      have c1 : aAny (fun j => wFires w j) i = 0 := Decidable.not_not.mp (cF c)
      refine Exists.intro _ (And.intro (y_isToFire d R ok hx hi rfl) ?_)
      refine And.intro (fun c => ?_) (fun c => ?_)
      · have c2 := bEqT c
        exact key _ (by rw [es, if_pos c1, if_neg c2])
      · have c2 := bEqF c
        exact key _ (by rw [es, if_pos c1, if_pos c2])
    · refine aVn_end (stop := fun p => p == 4) 60 ?_
      refine Exists.intro 6 (And.intro (ixN (f := 6) rfl (by omega)) ?_)
      exact And.intro (fun c => And.intro (hbit n) rfl) (fun c => absurd (zgeF c hx hn (by omega) (by omega)) (by omega))
  refine aRun_of rfl (aVn_end (stop := fun p => p == 4) 60 ?_)
  exact main
theorem max0 (h : Int32) : (if 0 < h then h else 0) = (if h < 0 then 0 else h) := by
  by_cases c : 0 < h
  · rw [if_pos c, if_neg (fun q => Int32.lt_irrefl (Int32.lt_trans c q))]
  · rw [if_neg c]
    by_cases c2 : h < 0
    · rw [if_pos c2]
    · rw [if_neg c2]
      exact Int32.le_antisymm (Int32.not_lt.mp c2) (Int32.not_lt.mp c)
theorem y_classBy (d : Nat) (R : Rl w (m 0) n g o) (ok : wOkA w n g o) (hx : x = Int32.ofNat i) (hi : i < n) : rM sn sf m (d + 4) m_X8_classBy [.ref 8, .int x, .int y] (wGrade w i y) := by
  have e0 : m 0 0 = w 0 0 := R.1.1
  have e1 : m 0 1 = w 0 1 := R.1.2.1
  have hgl := (ok.2.1 i hi).2.1
  have tail : ∀ fl, fl = wFlow w i y → aEnd (aStep (aRun false (d + 3)) aCls [] aB_X8_classBy (some .int) false) (43, [some (.ref 8), some (.int x), some (.int y), some (.int (1310 - 3 * (w 7 i / 2))), some (.int (w 2 i)), none], [.int fl], aHn sn sf m, (0, 0)) (.inl (some (.int (wGrade w i y))), aHn sn sf m, (0, 0)) := by
    intro fl hfl
    have hg0 : ∀ v, v = (if y < 1310 - 3 * (w 7 i / 2) ∨ 1310 - 3 * (w 7 i / 2) + 2 * m 0 1 < y ∨ 2 * m 0 0 < fl then 3 else if 1310 - 3 * (w 7 i / 2) + m 0 1 < y ∨ m 0 0 < fl ∨ w 2 i = -1 then 2 else 1) → v = wGrade w i y := by
      intro v hv
      rw [hv, e0, e1, hfl]
      rfl
    have h2 : 0 ≤ w 2 i ↔ ¬ w 2 i = -1 := by
      rcases hgl with q | ⟨k, q⟩
      · rw [q]; decide
      · refine ⟨fun h e => by rw [e] at h; exact absurd h (by decide), fun _ => ?_⟩
        unfold aIx at q
        split at q
        · cases q
        · rename_i c
          exact Int32.not_lt.mp (fun r => c (Or.inl r))
    refine aVn_end (stop := fun p => false) 90 ?_
    refine And.intro (fun c => ?_) (fun c => ?_)
    · have c1 : y < 1310 - 3 * (w 7 i / 2) := cT c
      exact aRi (hg0 _ (by rw [if_pos (Or.inl c1)]))
    have c1 : ¬ y < 1310 - 3 * (w 7 i / 2) := cF c
    refine Exists.intro 1 (And.intro (ixN (f := 1) rfl (by omega)) ?_)
    refine And.intro (fun c => ?_) (fun c => ?_)
    · have c2 : 1310 - 3 * (w 7 i / 2) + 2 * m 0 1 < y := cT c
      exact aRi (hg0 _ (by rw [if_pos (Or.inr (Or.inl c2))]))
    have c2 : ¬ 1310 - 3 * (w 7 i / 2) + 2 * m 0 1 < y := cF c
    refine Exists.intro 0 (And.intro (ixN (f := 0) rfl (by omega)) ?_)
    refine And.intro (fun c => ?_) (fun c => ?_)
    rotate_left
    · have c3 : ¬ fl ≤ 2 * m 0 0 := cF c
      exact aRi (hg0 _ (by rw [if_pos (Or.inr (Or.inr (Int32.not_le.mp c3)))]))
    have c3 : fl ≤ 2 * m 0 0 := cT c
    have n3 : ¬ (y < 1310 - 3 * (w 7 i / 2) ∨ 1310 - 3 * (w 7 i / 2) + 2 * m 0 1 < y ∨ 2 * m 0 0 < fl) := fun q => q.elim c1 (fun q => q.elim c2 (fun q => absurd q (Int32.not_lt.mpr c3)))
    refine Exists.intro 1 (And.intro (ixN (f := 1) rfl (by omega)) ?_)
    refine And.intro (fun c => ?_) (fun c => ?_)
    · have c4 : 1310 - 3 * (w 7 i / 2) + m 0 1 < y := cT c
      exact aRi (hg0 _ (by rw [if_neg n3, if_pos (Or.inl c4)]))
    have c4 : ¬ 1310 - 3 * (w 7 i / 2) + m 0 1 < y := cF c
    refine Exists.intro 0 (And.intro (ixN (f := 0) rfl (by omega)) ?_)
    refine And.intro (fun c => ?_) (fun c => ?_)
    · have c5 : m 0 0 < fl := cT c
      exact aRi (hg0 _ (by rw [if_neg n3, if_pos (Or.inr (Or.inl c5))]))
    have c5 : ¬ m 0 0 < fl := cF c
    refine And.intro (fun c => ?_) (fun c => ?_)
    · have c6 : 0 ≤ w 2 i := cT c
      exact aRi (hg0 _ (by rw [if_neg n3, if_neg (fun q => q.elim c4 (fun q => q.elim c5 (h2.mp c6)))]))
    · have c6 : ¬ 0 ≤ w 2 i := cF c
      exact aRi (hg0 _ (by rw [if_neg n3, if_pos (Or.inr (Or.inr (Decidable.not_not.mp (fun q => c6 (h2.mpr q)))))]))
  rcases hgl with q | ⟨k, q⟩
  · have ef : (0 : Int32) = wFlow w i y := by unfold wFlow; rw [if_pos q]
    have hlt : w 2 i < 0 := by rw [q]; decide
    refine aRun_of rfl (aVn_end (stop := fun p => p == 43) 90 ?_)
    refine Exists.intro _ (And.intro (y_needOf d R ok hx hi) ?_)
    refine Exists.intro _ (And.intro (y_glaze (d + 1) R ok hx hi) ?_)
    refine And.intro (fun c => absurd (cT c) (Int32.not_le.mpr hlt)) (fun _ => ?_)
    exact tail 0 ef
  · have hnn : 0 ≤ w 2 i := by
      have q2 := q
      unfold aIx at q2
      split at q2
      · cases q2
      · rename_i c
        exact Int32.not_lt.mp (fun r => c (Or.inl r))
    have hne : ¬ w 2 i = -1 := fun e => by rw [e] at hnn; exact absurd hnn (by decide)
    have ef : (if 0 < y - (1180 + 20 * w 2 i - 4 * w 3 i) then y - (1180 + 20 * w 2 i - 4 * w 3 i) else 0) / 10 = wFlow w i y := by
      unfold wFlow
      rw [if_neg hne, fMt_eq q, max0]
    refine aRun_of rfl (aVn_end (stop := fun p => p == 43) 90 ?_)
    refine Exists.intro _ (And.intro (y_needOf d R ok hx hi) ?_)
    refine Exists.intro _ (And.intro (y_glaze (d + 1) R ok hx hi) ?_)
    refine And.intro (fun _ => ?_) (fun c => absurd hnn (cF c))
    refine Exists.intro _ (And.intro (y_thick (d + 1) R ok hx hi) ?_)
    refine Exists.intro _ (And.intro (y_meltsAt (d + 2)) ?_)
    refine Exists.intro _ (And.intro rfl ?_)
    refine And.intro (by decide) ?_
    exact tail _ ef
theorem y_firstsBy (d : Nat) (R : Rl w (m 0) n g o) (ok : wOkA w n g o)  : rM sn sf m (d + 5) m_X8_firstsBy [.ref 8, .int y] (wFirsts w n y) := by
  have hn : m 0 6 = Int32.ofNat n := R.1.2.2.2.2.2.2.1.trans ok.1.1
  have hle := ok.1.2.1
  refine aRun_of rfl (aVn_end (stop := fun p => p == 4) 20 (k_sum0 (S := fun f x => (4, [some (.ref 8), some (.int y), some (.int f), some (.int x)], [], aHn sn sf m, (0, 0))) (R := fun f => (.inl (some (.int f)), aHn sn sf m, (0, 0))) (g := fun j => if wFires w j = true ∧ wGrade w j (wHeat w j y) = 1 then 1 else 0) (n := n) (fun i x f hi hx r ih => ?_) (fun x f hx => ?_)))
  · have key : ∀ u, u = f + (if wFires w i = true ∧ wGrade w i (wHeat w i y) = 1 then 1 else 0) → aEnd _ (4, [some (.ref 8), some (.int y), some (.int u), some (.int (x + 1))], [], aHn sn sf m, (0, 0)) r := fun u hu => hu ▸ ih
    refine aVn_end (stop := fun p => p == 4) 60 ?_
    refine Exists.intro 6 (And.intro (ixN (f := 6) rfl (by omega)) ?_)
    refine And.intro (fun c => absurd (zgeT c hx hn (by omega) (by omega)) (by omega)) (fun _ => ?_)
    by_cases h : wFires w i = true
    · obtain ⟨k, hk, e, hf⟩ := okW_1 ok hi (of_decide_eq_true h).1
      have hk8 := hf.mp h
      have ez : zn (w 4 i) = k := zn_of e (by have := ok.1.2.2.2.1; omega)
      have eh : wHeat w i y = y - 10 * wLv w k - 5 * w 8 k := by unfold wHeat wLv; rw [ez, if_neg hk8]
      refine Exists.intro _ (And.intro (y_isToFire d R ok hx hi (if_pos h).symm) ?_)
      refine And.intro (fun c => absurd (show false = true from c) (by decide)) (fun _ => ?_)
      refine Exists.intro _ (And.intro (y_where (d + 2) R ok hx hi) ?_)
      refine Exists.intro _ (And.intro (y_heatBy d R ok e hk) ?_)
      refine Exists.intro _ (And.intro (y_classBy d R ok hx hi) ?_)
      refine And.intro (fun c => ?_) (fun c => ?_)
      · have c1 : ¬ wGrade w i (y - 10 * wLv w k - 5 * w 8 k) = 1 := cT c
        exact key _ (by rw [if_neg (fun q => c1 (by rw [← eh]; exact q.2))])
      · have c1 : wGrade w i (y - 10 * wLv w k - 5 * w 8 k) = 1 := Decidable.not_not.mp (cF c)
        exact key _ (by rw [if_pos ⟨h, by rw [eh]; exact c1⟩])
    · refine Exists.intro _ (And.intro (y_isToFire d R ok hx hi (if_neg h).symm) ?_)
      refine And.intro (fun _ => ?_) (fun c => absurd (show true = false from c) (by decide))
      exact key _ (by rw [if_neg (fun q => h q.1)])
  · refine aVn_end (stop := fun p => p == 4) 60 ?_
    refine Exists.intro 6 (And.intro (ixN (f := 6) rfl (by omega)) ?_)
    exact And.intro (fun c => rfl) (fun c => absurd (zgeF c hx hn (by omega) (by omega)) (by omega))
theorem y_isInStore (d : Nat) (R : Rl w (m 0) n g o) (ok : wOkA w n g o) (hx : x = Int32.ofNat i) (hi : i < n) (hv : v = if (w 1 i = 3 ∧ w 6 i = y ∧ w 2 i = z) ∧ w 5 i = (if u = 0 then 1 else 2) then 1 else 0) : rM sn sf m (d + 3) m_X8_isInStore [.ref 8, .int x, .int y, .int z, .int u] v := by
  refine aRun_of rfl (aVn_end (stop := fun p => false) 60 ?_)
  refine Exists.intro _ (And.intro (y_state d R ok hx hi) ?_)
  refine And.intro (fun c => ?_) (fun c => ?_)
  · have c1 : ¬ w 1 i = 3 := cT c
    exact And.intro rfl (aRi (by rw [hv, if_neg (fun q => c1 q.1.1)]))
  have c1 : w 1 i = 3 := Decidable.not_not.mp (cF c)
  refine Exists.intro _ (And.intro (y_kind d R ok hx hi) ?_)
  refine And.intro (fun c => ?_) (fun c => ?_)
  · have c2 : ¬ w 6 i = y := cT c
    exact And.intro rfl (aRi (by rw [hv, if_neg (fun q => c2 q.1.2.1)]))
  have c2 : w 6 i = y := Decidable.not_not.mp (cF c)
  refine Exists.intro _ (And.intro (y_glaze d R ok hx hi) ?_)
  refine And.intro (fun c => ?_) (fun c => ?_)
  · have c3 : ¬ w 2 i = z := cT c
    exact And.intro rfl (aRi (by rw [hv, if_neg (fun q => c3 q.1.2.2)]))
  have c3 : w 2 i = z := Decidable.not_not.mp (cF c)
  refine Exists.intro _ (And.intro (y_class d R ok hx hi) ?_)
  refine And.intro (fun c => ?_) (fun c => ?_)
  · have c4 : u = 0 := cT c
    refine And.intro (fun c => ?_) (fun c => ?_)
    · have c5 : ¬ w 5 i = 1 := cT c
      exact And.intro rfl (aRi (by rw [hv, if_neg (fun q => c5 (by have q2 := q.2; rw [if_pos c4] at q2; exact q2))]))
    · have c5 : w 5 i = 1 := Decidable.not_not.mp (cF c)
      exact And.intro rfl (aRi (by rw [hv, if_pos ⟨⟨c1, c2, c3⟩, by rw [if_pos c4]; exact c5⟩]))
  · have c4 : ¬ u = 0 := cF c
    refine And.intro (fun c => ?_) (fun c => ?_)
    · have c5 : ¬ w 5 i = 2 := cT c
      exact And.intro rfl (aRi (by rw [hv, if_neg (fun q => c5 (by have q2 := q.2; rw [if_neg c4] at q2; exact q2))]))
    · have c5 : w 5 i = 2 := Decidable.not_not.mp (cF c)
      exact And.intro rfl (aRi (by rw [hv, if_pos ⟨⟨c1, c2, c3⟩, by rw [if_neg c4]; exact c5⟩]))
theorem y_mayBeSold (d : Nat) (R : Rl w (m 0) n g o) (ok : wOkA w n g o) (hx : x = Int32.ofNat i) (hi : i < n) (hy : y = Int32.ofNat j) (hj : j < o) (hz : z = Int32.ofNat k) (hv : v = if wSellB w j k i = true then 1 else 0) : rM sn sf m (d + 4) m_X8_mayBeSold [.ref 8, .int x, .int y, .int z] v := by
  have ho6 := ok.1.2.2.2.2.2
  have hO := R.2.2.2 j hj
  have e4 : m 0 (453 + 7 * j + 4) = w 10 j := hO.2.1
  have e5 : m 0 (453 + 7 * j + 5) = w 11 j := hO.2.2.1
  have hB : wSellB w j k i = true ↔ (w 1 i = 3 ∧ w 6 i = z ∧ w 2 i = w 10 j) ∧ (w 5 i = 1 ∨ (w 11 j = 1 ∧ w 5 i = 2)) := by
    unfold wSellB
    rw [decide_eq_true_eq, ← hz]
    constructor
    · rintro ⟨q1, q2⟩
      refine ⟨q1, ?_⟩
      rcases (ok.2.1 i hi).2.2 with ⟨e, -⟩ | ⟨e, -⟩ | ⟨e, -⟩ | ⟨-, q3 | q3, -⟩ | ⟨e, -⟩ | ⟨e, -⟩
      · rw [e] at q1; exact absurd q1.1 (by decide)
      · rw [e] at q1; exact absurd q1.1 (by decide)
      · rw [e] at q1; exact absurd q1.1 (by decide)
      · exact Or.inl q3
      · refine Or.inr ⟨?_, q3⟩
        by_cases c : w 11 j = 1
        · exact c
        · rw [if_neg c, q3] at q2
          exact absurd q2 (by decide)
      · rw [e] at q1; exact absurd q1.1 (by decide)
      · rw [e] at q1; exact absurd q1.1 (by decide)
    · rintro ⟨q1, q2 | ⟨q2, q3⟩⟩
      · refine ⟨q1, ?_⟩
        rw [q2]
        split <;> decide
      · refine ⟨q1, ?_⟩
        rw [q3, if_pos q2]
        decide
  refine aRun_of rfl (aVn_end (stop := fun p => false) 60 ?_)
  refine Exists.intro _ (And.intro (y_orderAt (d + 2)) ?_)
  refine Exists.intro (453 + 7 * j + 4) (And.intro (ixO (f := 4) hy (by omega) rfl (by omega)) ?_)
  refine Exists.intro _ (And.intro (y_isInStore (v := if (w 1 i = 3 ∧ w 6 i = z ∧ w 2 i = m 0 (453 + 7 * j + 4)) ∧ w 5 i = 1 then 1 else 0) d R ok hx hi rfl) ?_)
  refine And.intro (fun c => ?_) (fun c => ?_)
  · have c1 := bNeT c
    rw [e4] at c1
    exact And.intro rfl (aRi (by rw [hv, if_pos (hB.mpr ⟨c1.1, Or.inl c1.2⟩)]))
  have c1 := bNeF c
  rw [e4] at c1
  refine Exists.intro _ (And.intro (y_orderAt (d + 2)) ?_)
  refine Exists.intro (453 + 7 * j + 5) (And.intro (ixO (f := 5) hy (by omega) rfl (by omega)) ?_)
  refine And.intro (fun c => ?_) (fun c => ?_)
  · have c2 : ¬ m 0 (453 + 7 * j + 5) = 1 := cT c
    rw [e5] at c2
    exact And.intro rfl (aRi (by rw [hv, if_neg (fun q => (hB.mp q).2.elim (fun r => c1 ⟨(hB.mp q).1, r⟩) (fun r => c2 r.1))]))
  have c2 : m 0 (453 + 7 * j + 5) = 1 := Decidable.not_not.mp (cF c)
  rw [e5] at c2
  refine Exists.intro _ (And.intro (y_isInStore (v := if (w 1 i = 3 ∧ w 6 i = z ∧ w 2 i = m 0 (453 + 7 * j + 4)) ∧ w 5 i = 2 then 1 else 0) d R ok hx hi rfl) ?_)
  refine And.intro (fun c => ?_) (fun c => ?_)
  · have c3 := bEqT c
    rw [e4] at c3
    exact And.intro rfl (aRi (by rw [hv, if_neg (fun q => (hB.mp q).2.elim (fun r => c1 ⟨(hB.mp q).1, r⟩) (fun r => c3 ⟨(hB.mp q).1, r.2⟩))]))
  · have c3 := bEqF c
    rw [e4] at c3
    exact And.intro rfl (aRi (by rw [hv, if_pos (hB.mpr ⟨c3.1, Or.inr ⟨c2, c3.2⟩⟩)]))
theorem y_saleable (d : Nat) (R : Rl w (m 0) n g o) (ok : wOkA w n g o) {a c : Nat} (hy : y = Int32.ofNat a) (ha : a < o) (hz : z = Int32.ofNat c) : rM sn sf m (d + 5) m_X8_saleable [.ref 8, .int y, .int z] (aSm (fun j => if wSellB w a c j = true then 1 else 0) n 0) := by
  have hn : m 0 6 = Int32.ofNat n := R.1.2.2.2.2.2.2.1.trans ok.1.1
  have hle := ok.1.2.1
  refine aRun_of rfl (aVn_end (stop := fun p => p == 5) 20 (k_sum0 (S := fun f x => (5, [some (.ref 8), some (.int y), some (.int z), some (.int f), some (.int x)], [], aHn sn sf m, (0, 0))) (R := fun f => (.inl (some (.int f)), aHn sn sf m, (0, 0))) (g := fun j => if wSellB w a c j = true then 1 else 0) (n := n) (fun i x f hi hx r ih => ?_) (fun x f hx => ?_)))
  · have key : ∀ u, u = f + (if wSellB w a c i = true then 1 else 0) → aEnd _ (5, [some (.ref 8), some (.int y), some (.int z), some (.int u), some (.int (x + 1))], [], aHn sn sf m, (0, 0)) r := fun u hu => hu ▸ ih
    refine aVn_end (stop := fun p => p == 5) 60 ?_
    refine Exists.intro 6 (And.intro (ixN (f := 6) rfl (by omega)) ?_)
    refine And.intro (fun c => absurd (zgeT c hx hn (by omega) (by omega)) (by omega)) (fun _ => ?_)
    refine Exists.intro _ (And.intro (y_mayBeSold d R ok hx hi hy ha hz rfl) ?_)
    refine And.intro (fun c => ?_) (fun c => ?_)
    · have c1 := bEqT c
      exact key _ (by rw [if_neg c1])
    · have c1 := bEqF c
      exact key _ (by rw [if_pos c1])
  · refine aVn_end (stop := fun p => p == 5) 60 ?_
    refine Exists.intro 6 (And.intro (ixN (f := 6) rfl (by omega)) ?_)
    exact And.intro (fun c => rfl) (fun c => absurd (zgeF c hx hn (by omega) (by omega)) (by omega))
theorem y_setsSold (d : Nat) (R : Rl w (m 0) n g o) (ok : wOkA w n g o)  : rM sn sf m (d + 2) m_X8_setsSold [.ref 8] (aSm (fun j => w 12 j) o 0) := by
  have hn : m 0 8 = Int32.ofNat o := R.1.2.2.2.2.2.2.2.2.trans ok.1.2.2.2.2.1
  have hle := ok.1.2.2.2.2.2
  refine aRun_of rfl (aVn_end (stop := fun p => p == 4) 20 (k_sum0 (S := fun f x => (4, [some (.ref 8), some (.int f), some (.int x)], [], aHn sn sf m, (0, 0))) (R := fun f => (.inl (some (.int f)), aHn sn sf m, (0, 0))) (g := fun j => w 12 j) (n := o) (fun i x f hi hx r ih => ?_) (fun x f hx => ?_)))
  · have key : ∀ u, u = f + (w 12 i) → aEnd _ (4, [some (.ref 8), some (.int u), some (.int (x + 1))], [], aHn sn sf m, (0, 0)) r := fun u hu => hu ▸ ih
    refine aVn_end (stop := fun p => p == 4) 60 ?_
    refine Exists.intro 8 (And.intro (ixN (f := 8) rfl (by omega)) ?_)
    refine And.intro (fun c => absurd (zgeT c hx hn (by omega) (by omega)) (by omega)) (fun _ => ?_)
    have e6 : m 0 (453 + 7 * i + 6) = w 12 i := (R.2.2.2 i hi).2.2.2
    refine Exists.intro _ (And.intro (y_orderAt d) ?_)
    refine Exists.intro (453 + 7 * i + 6) (And.intro (ixO (f := 6) hx (by omega) rfl (by omega)) ?_)
    exact key _ (by rw [e6])
  · refine aVn_end (stop := fun p => p == 4) 60 ?_
    refine Exists.intro 8 (And.intro (ixN (f := 8) rfl (by omega)) ?_)
    exact And.intro (fun c => rfl) (fun c => absurd (zgeF c hx hn (by omega) (by omega)) (by omega))
end YC
