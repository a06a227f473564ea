/-! THE MODEL SELLS -/
section YJ
variable {sn : Nat} {sf : Nat → Int32} {m m1 w : aW} {n g o i j k f b L : Nat} {x y z v u s t c : Int32}
theorem aSm_plus (f g : Nat → Int32) : ∀ (m i : Nat), aSm f m i + aSm g m i = aSm (fun j => f j + g j) m i
  | 0, _ => rfl
  | m + 1, i => by
    show f i + aSm f m (i + 1) + (g i + aSm g m (i + 1)) = f i + g i + aSm (fun j => f j + g j) m (i + 1)
    rw [← aSm_plus f g m (i + 1), Int32.add_assoc, Int32.add_assoc, ← Int32.add_assoc (aSm f m (i + 1)), Int32.add_comm (aSm f m (i + 1)) (g i), Int32.add_assoc]
/-- how many wares of a kind may be sold -/
theorem wFor_eq (ok : wOkA w n g o) : wFor w n j (Int32.ofNat k) = aSm (fun i => if wSellB w j k i = true then 1 else 0) n 0 := by
  have h5 : ∀ i, i < n → w 1 i = 3 → w 5 i = 1 ∨ w 5 i = 2 := by
    intro i hi h
    rcases (ok.2.1 i hi).2.2 with ⟨e, -⟩ | ⟨e, -⟩ | ⟨e, -⟩ | ⟨-, q3, -⟩ | ⟨e, -⟩ | ⟨e, -⟩
    · rw [e] at h; exact absurd h (by decide)
    · rw [e] at h; exact absurd h (by decide)
    · rw [e] at h; exact absurd h (by decide)
    · exact q3
    · rw [e] at h; exact absurd h (by decide)
    · rw [e] at h; exact absurd h (by decide)
  have hB : ∀ i, wSellB w j k i = true ↔ ((w 1 i = 3 ∧ w 6 i = Int32.ofNat k ∧ w 2 i = w 10 j) ∧ w 5 i ≤ (if w 11 j = 1 then 2 else 1)) := fun i => by unfold wSellB; rw [decide_eq_true_eq]
  unfold wFor wInSt
  by_cases c : w 11 j = 1
  · rw [if_pos c, aSm_plus]
    refine aSm_congr n 0 fun i _ hi => ?_
    have q := hB i
    rw [if_pos c] at q
    by_cases a : w 1 i = 3 ∧ w 6 i = Int32.ofNat k ∧ w 2 i = w 10 j
    · rcases h5 i (by omega) a.1 with e | e
      · rw [if_pos ⟨a, e⟩, if_neg (fun r => absurd (e.symm.trans r.2) (by decide)), if_pos (q.mpr ⟨a, by rw [e]; decide⟩)]
        rfl
      · rw [if_neg (fun r => absurd (e.symm.trans r.2) (by decide)), if_pos ⟨a, e⟩, if_pos (q.mpr ⟨a, by rw [e]; decide⟩)]
        rfl
    · rw [if_neg (fun r => a r.1), if_neg (fun r => a r.1), if_neg (fun r => a (q.mp r).1)]
      rfl
  · rw [if_neg c]
    refine aSm_congr n 0 fun i _ hi => ?_
    have q := hB i
    rw [if_neg c] at q
    by_cases a : w 1 i = 3 ∧ w 6 i = Int32.ofNat k ∧ w 2 i = w 10 j
    · rcases h5 i (by omega) a.1 with e | e
      · rw [if_pos ⟨a, e⟩, if_pos (q.mpr ⟨a, by rw [e]; decide⟩)]
      · rw [if_neg (fun r => absurd (e.symm.trans r.2) (by decide)), if_neg (fun r => absurd (q.mp r).2 (by rw [e]; decide))]
    · rw [if_neg (fun r => a r.1), if_neg (fun r => a (q.mp r).1)]
theorem okW_sell (ok : wOkA w n g o) (hi : i < n) (h : wSellB w j k i = true) : wOkA (upw w 1 i 4) n g o := by
  refine wOkA_cg (fun a j h => upw_ne (by omega)) (fun l hl => ?_) ok
  by_cases e : l = i
  · subst e
    obtain ⟨k1, k2, k3⟩ := ok.2.1 l hl
    have h3 : w 1 l = 3 := (of_decide_eq_true h).1.1
    unfold okW
    rw [upw_eq, upw_ne (by omega), upw_ne (by omega), upw_ne (by omega), upw_ne (by omega)]
    refine ⟨k1, k2, ?_⟩
    rcases k3 with ⟨e, -⟩ | ⟨e, -⟩ | ⟨e, -⟩ | ⟨-, q3, q4⟩ | ⟨e, -⟩ | ⟨e, -⟩
    · rw [e] at h3; exact absurd h3 (by decide)
    · rw [e] at h3; exact absurd h3 (by decide)
    · rw [e] at h3; exact absurd h3 (by decide)
    · exact Or.inr (Or.inr (Or.inr (Or.inr (Or.inl ⟨rfl, q3, q4⟩))))
    · rw [e] at h3; exact absurd h3 (by decide)
    · rw [e] at h3; exact absurd h3 (by decide)
  · unfold okW
    rw [upw_ne (by omega), upw_ne (by omega), upw_ne (by omega), upw_ne (by omega), upw_ne (by omega)]
    exact ok.2.1 l hl
theorem l_sellI (d : Nat) (hy : y = Int32.ofNat j) (hj : j < o) (hz : z = Int32.ofNat k) : ∀ (q i : Nat) (W mi : aW) (l x1 : Int32), i + q = n → x1 = Int32.ofNat i → Rl W (mi 0) n g o → wOkA W n g o →
    ∃ m2, (∀ r, (∀ u3 u4, aEnd (aStep (aRun false (d + 6)) aCls [] aB_X8_goSell (some .int) false) (106, [some (.ref 8), some (.int y), some (.int z), u3, u4], [], aHn sn sf m2, (0, 0)) r) → aEnd (aStep (aRun false (d + 6)) aCls [] aB_X8_goSell (some .int) false) (57, [some (.ref 8), some (.int y), some (.int z), some (.int l), some (.int x1)], [], aHn sn sf mi, (0, 0)) r) ∧ (∀ a, ¬ a = 0 → m2 a = mi a) ∧ Rl (wSellI j k q i l W) (m2 0) n g o ∧ wOkA (wSellI j k q i l W) n g o
  | 0, i, W, mi, l, x1, hi, hx, R, ok => by
    have hi : i = n := by omega
    subst hi
    have hn : mi 0 6 = Int32.ofNat i := R.1.2.2.2.2.2.2.1.trans ok.1.1
    have hle := ok.1.2.1
    refine ⟨mi, fun r hr => ?_, fun _ _ => rfl, R, ok⟩
    refine aVn_end (stop := fun p => p == 57 || p == 106) 60 ?_
    refine Exists.intro 6 (And.intro (ixN (f := 6) rfl (by omega)) ?_)
    refine And.intro (fun _ => ?_) (fun c => absurd (zgeF c hx hn (by omega) (by omega)) (by omega))
    exact hr _ _
  | q + 1, i, W, mi, l, x1, hi, hx, R, ok => by
    have hn : mi 0 6 = Int32.ofNat n := R.1.2.2.2.2.2.2.1.trans ok.1.1
    have hle := ok.1.2.1
    have hi60 : i < 60 := by omega
    by_cases c0 : 0 < l
    rotate_left
    · have e : wSellI j k (q + 1) i l W = W := if_neg c0
      rw [e]
      refine ⟨mi, fun r hr => ?_, fun _ _ => rfl, R, ok⟩
      refine aVn_end (stop := fun p => p == 57 || p == 106) 60 ?_
      refine Exists.intro 6 (And.intro (ixN (f := 6) rfl (by omega)) ?_)
      refine And.intro (fun c => absurd (zgeT c hx hn (by omega) (by omega)) (by omega)) (fun _ => ?_)
      refine And.intro (fun _ => ?_) (fun r => absurd (Int32.not_lt.mp c0) (cF r))
      exact hr _ _
    by_cases c1 : wSellB W j k i = true
    · have e : wSellI j k (q + 1) i l W = wSellI j k q (i + 1) (l - 1) (upw W 1 i 4) := (if_pos c0).trans (if_pos c1)
      have R1 := Rl_w (f := 2) (x := 4) R ok.1.2.1 ok.1.2.2.2.1 (by omega : i < n) (by omega)
      obtain ⟨m2, h1, h2, h3, h4⟩ := l_sellI d hy hj hz q (i + 1) (upw W 1 i 4) (upw mi 0 (9 + 7 * i + 2) 4) (l + -1) (x1 + 1) (by omega) (zI_s hx) R1 (okW_sell ok (by omega) c1)
      have e1 : l - 1 = l + -1 := Int32.sub_eq_add_neg l 1
      rw [e, e1]
      refine ⟨m2, fun r hr => ?_, fun a ha => (h2 a ha).trans ?_, h3, h4⟩
      · have h1 := h1 r hr
        refine aVn_end (stop := fun p => p == 57 || p == 106) 60 ?_
        refine Exists.intro 6 (And.intro (ixN (f := 6) rfl (by omega)) ?_)
        refine And.intro (fun c => absurd (zgeT c hx hn (by omega) (by omega)) (by omega)) (fun _ => ?_)
        refine And.intro (fun r => absurd c0 (Int32.not_lt.mpr (cT r))) (fun _ => ?_)
        refine Exists.intro _ (And.intro (y_mayBeSold (m := mi) (w := W) (d + 2) R ok hx (by omega) hy hj hz (if_pos c1).symm) ?_)
        refine And.intro (fun c => absurd (show false = true from c) (by decide)) (fun _ => ?_)
        refine Exists.intro _ (And.intro (y_at (d + 5)) ?_)
        refine Exists.intro (9 + 7 * i + 2) (And.intro (ixW hx hi60 (f := 2) rfl (by omega)) ?_)
        exact h1
      · funext c
        exact upw_ne (by omega)
    · have e : wSellI j k (q + 1) i l W = wSellI j k q (i + 1) l W := (if_pos c0).trans (if_neg c1)
      obtain ⟨m2, h1, h2, h3, h4⟩ := l_sellI d hy hj hz q (i + 1) W mi l (x1 + 1) (by omega) (zI_s hx) R ok
      rw [e]
      refine ⟨m2, fun r hr => ?_, h2, h3, h4⟩
      have h1 := h1 r hr
      refine aVn_end (stop := fun p => p == 57 || p == 106) 60 ?_
      refine Exists.intro 6 (And.intro (ixN (f := 6) rfl (by omega)) ?_)
      refine And.intro (fun c => absurd (zgeT c hx hn (by omega) (by omega)) (by omega)) (fun _ => ?_)
      refine And.intro (fun r => absurd c0 (Int32.not_lt.mpr (cT r))) (fun _ => ?_)
      refine Exists.intro _ (And.intro (y_mayBeSold (m := mi) (w := W) (d + 2) R ok hx (by omega) hy hj hz (if_neg c1).symm) ?_)
      refine And.intro (fun _ => ?_) (fun c => absurd (show true = false from c) (by decide))
      exact h1
theorem l_sellK (d : Nat) (hy : y = Int32.ofNat j) (hj : j < o) : ∀ (q k : Nat) (mi : aW) (z : Int32), k + q = 4 → z = Int32.ofNat k → Rl (wSellK n j k w) (mi 0) n g o → wOkA (wSellK n j k w) n g o →
    ∃ m2, (∀ (u3 u4 : Option Value) r, (∀ z' u3 u4, aEnd (aStep (aRun false (d + 6)) aCls [] aB_X8_goSell (some .int) false) (112, [some (.ref 8), some (.int y), some (.int z'), u3, u4], [], aHn sn sf m2, (0, 0)) r) → aEnd (aStep (aRun false (d + 6)) aCls [] aB_X8_goSell (some .int) false) (37, [some (.ref 8), some (.int y), some (.int z), u3, u4], [], aHn sn sf mi, (0, 0)) r) ∧ (∀ a, ¬ a = 0 → m2 a = mi a) ∧ Rl (wSellK n j 4 w) (m2 0) n g o ∧ wOkA (wSellK n j 4 w) n g o
  | 0, k, mi, z, hk, hz, R, ok => by
    have hk : k = 4 := by omega
    subst hk
    refine ⟨mi, fun u3 u4 r hr => ?_, fun _ _ => rfl, R, ok⟩
    refine aVn_end (stop := fun p => p == 37 || p == 112) 60 ?_
    refine And.intro (fun _ => ?_) (fun c => absurd (zgeF (y := 4) (n := 4) c hz rfl (by omega) (by omega)) (by omega))
    exact hr _ _ _
  | q + 1, k, mi, z, hk, hz, R, ok => by
    have ho6 := ok.1.2.2.2.2.2
    have eA : mi 0 (453 + 7 * j + k) = wSellK n j k w 13 (j * 4 + k) := (R.2.2.2 j hj).1 k (by omega)
    obtain ⟨m2, h1, h2, h3, h4⟩ := l_sellI (sn := sn) (sf := sf) (k := k) d hy hj hz n 0 (wSellK n j k w) mi (mi 0 (453 + 7 * j + k)) 0 (by omega) rfl R ok
    rw [eA] at h3 h4
    obtain ⟨m3, g1, g2, g3, g4⟩ := l_sellK d hy hj q (k + 1) m2 (z + 1) (by omega) (zI_s hz) h3 h4
    refine ⟨m3, fun u3 u4 r hr => ?_, fun a ha => (g2 a ha).trans (h2 a ha), g3, g4⟩
    have fin := h1 r (fun u3 u4 => by
      have g := g1 u3 u4 r hr
      refine aVn_end (stop := fun p => p == 37) 60 ?_
      exact g)
    refine aVn_end (stop := fun p => p == 57 || p == 112) 60 ?_
    refine And.intro (fun c => absurd (zgeT (y := 4) (n := 4) c hz rfl (by omega) (by omega)) (by omega)) (fun _ => ?_)
    refine Exists.intro _ (And.intro (y_orderAt (d + 5)) ?_)
    refine Exists.intro (453 + 7 * j + k) (And.intro (ixO hy (by omega) hz (by omega)) ?_)
    exact fin
end YJ
