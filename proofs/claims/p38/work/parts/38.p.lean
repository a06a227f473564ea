/-! PURE FACTS OF A WORKS (of whole) -/
section PU1
/-- what holds of a Works also in the midst of a change -/
def wOkA (w : aW) (n g o : Nat) : Prop := okN w n g o ∧ (∀ j, j < n → okW w g j) ∧ okS w g ∧ ∀ i, i < o → okO w i
theorem wOk.A {w : aW} {n g o : Nat} (h : wOk w n g o) : wOkA w n g o := ⟨h.1, h.2.1, h.2.2.1, h.2.2.2.1⟩
theorem wOkA.kinds {w : aW} {n g o : Nat} (k : wOkA w n g o) : ∀ j, j < n → ∃ i, aIx (w 6 j) 4 = some i := fun j hj => (k.2.1 j hj).1
end PU1
section PU2
variable {sn : Nat} {sf : Nat → Int32} {m w : aW} {n g o i j f : Nat} {x y z v u s t : Int32}
theorem fMt_eq {k : Nat} (h : aIx x 4 = some k) : fMt x = 1180 + 20 * x := by
  have h2 := h
  unfold aIx at h2
  split at h2
  · cases h2
  · rename_i c
    have e : x.toNatClampNeg = k := Option.some.inj h2
    have h0 : ¬ x < 0 := fun q => c (Or.inl q)
    have h4 : ¬ 4 ≤ x.toNatClampNeg := fun q => c (Or.inr q)
    have hx := zn_nn (Int32.not_lt.mp h0)
    rw [fMt_of h, hx]
    have e2 : zn x = k := e
    rw [e2]
    have hk : k < 4 := by omega
    match k, hk with
    | 0, _ => decide
    | 1, _ => decide
    | 2, _ => decide
    | 3, _ => decide
end PU2
section PU3
variable {sn : Nat} {sf : Nat → Int32} {m w : aW} {n g o i j k f b L : Nat} {x y z v u s t : Int32}
theorem b_ne {b : Nat} (hb : b < 4) : ¬ Int32.ofNat b = -1 := by
  match b, hb with
  | 0, _ => decide
  | 1, _ => decide
  | 2, _ => decide
  | 3, _ => decide
theorem ofN_ne {i j : Nat} (hi : i < 100000) (hj : j < 100000) (h : Int32.ofNat i = Int32.ofNat j) : i = j := by
  have e := congrArg Int32.toInt h
  rw [Int32.toInt_ofNat_of_lt (by omega), Int32.toInt_ofNat_of_lt (by omega)] at e
  omega
theorem ofN_m1 {i : Nat} (hi : i < 100000) : ¬ Int32.ofNat i = -1 := by
  intro h
  have e := congrArg Int32.toInt h
  rw [Int32.toInt_ofNat_of_lt (by omega)] at e
  have e1 : (-1 : Int32).toInt = -1 := rfl
  omega
theorem ofN_lt0 {i : Nat} (hi : i < 100000) : ¬ Int32.ofNat i < 0 := by
  intro h
  have e := Int32.lt_iff_toInt_lt.mp h
  rw [Int32.toInt_ofNat_of_lt (by omega)] at e
  have e1 : (0 : Int32).toInt = 0 := rfl
  omega
theorem wAt_eq (ok : okS w g) (hk : k < g) (h1 : w 8 k = y) (h2 : w 9 k = z) (hy : ¬ y = -1) : wAt w g y z = Int32.ofNat k := by
  rcases aFd_cases (fun j => decide (w 8 j = y ∧ w 9 j = z)) (fun j => Int32.ofNat j) (-1) g 0 with ⟨-, q⟩ | ⟨j, -, q2, q3, q4, -⟩
  · have := q k (Nat.zero_le _) (by omega)
    exact absurd ⟨h1, h2⟩ (of_decide_eq_false this)
  · obtain ⟨e1, e2⟩ := of_decide_eq_true q3
    have e : j = k := ok.2 j k (by omega) hk (by rw [e1]; exact hy) (e1.trans h1.symm) (e2.trans h2.symm)
    rw [← e]
    exact q4
/-- in the kiln: its place -/
theorem okS_in (ok : okS w g) (hj : j < g) (h : ¬ w 8 j = -1) : ∃ b L, b < 4 ∧ L < 8 ∧ okP w j b L := by
  rcases ok.1 j hj with ⟨q, -⟩ | ⟨b, L, h1, h2, h3, -⟩
  · exact absurd q h
  · exact ⟨b, L, h1, h2, h3⟩
theorem okP_k (hb : b < 4) (p : okP w j b L) : ¬ w 8 j = -1 := by rw [p.1]; exact b_ne hb
theorem sub1 {a : Nat} : Int32.ofNat (a + 1) - 1 = Int32.ofNat a := by
  rw [Int32.ofNat_add]
  exact Int32.add_sub_cancel _ _
theorem wUp_ex (ok : okS w g) (hg : g ≤ 8) (hj : j < g) : wUp w g (Int32.ofNat j) = -1 ∨ ∃ i b L, i < g ∧ b < 4 ∧ L < 8 ∧ L + 1 < 8 ∧ okP w j b L ∧ okP w i b (L + 1) ∧ wUp w g (Int32.ofNat j) = Int32.ofNat i := by
  unfold wUp
  rw [zn_of rfl (by omega)]
  by_cases c : w 8 j = -1
  · rw [if_pos c]
    exact Or.inl rfl
  · rw [if_neg c]
    rcases wAt_rng w g (w 8 j) (w 9 j + 1) with q | ⟨k, hk, e, h1, h2⟩
    · exact Or.inl q
    · obtain ⟨b, L, hb, hL, p⟩ := okS_in ok hj c
      obtain ⟨b1, L1, hb1, hL1, p1⟩ := okS_in ok hk (by rw [h1]; exact c)
      have e1 : L1 = L + 1 := ofN_ne (by omega) (by omega) (by rw [← p1.2, h2, p.2, zI_s rfl])
      have e2 : b1 = b := ofN_ne (by omega) (by omega) (by rw [← p1.1, h1, p.1])
      subst e2
      exact Or.inr ⟨k, b1, L, hk, hb, hL, by omega, p, by rw [← e1]; exact p1, e⟩
theorem okW_1 (ok : wOkA w n g o) (hi : i < n) (h : w 1 i = 1) : ∃ k, k < g ∧ w 4 i = Int32.ofNat k ∧ (wFires w i = true ↔ ¬ w 8 k = -1) := by
  rcases (ok.2.1 i hi).2.2 with ⟨q, -⟩ | ⟨-, -, k, hk, e⟩ | ⟨q, -⟩ | ⟨q, -⟩ | ⟨q, -⟩ | ⟨q, -⟩
  · rw [q] at h; exact absurd h (by decide)
  · refine ⟨k, hk, e, ?_⟩
    have hg := ok.1.2.2.2.1
    have ez : zn (w 4 i) = k := zn_of e (by omega)
    unfold wFires
    rw [decide_eq_true_eq, ez]
    exact ⟨fun q => q.2.2.2, fun q => ⟨h, by rw [e]; exact Int32.not_lt.mp (ofN_lt0 (by omega)), by rw [ok.1.2.2.1]; exact (zI_lt e rfl (by omega) (by omega)).mpr hk, q⟩⟩
  · rw [q] at h; exact absurd h (by decide)
  · rw [q] at h; exact absurd h (by decide)
  · rw [q] at h; exact absurd h (by decide)
  · rw [q] at h; exact absurd h (by decide)
theorem aSm_nn {g : Nat → Int32} (h : ∀ j, g j = 0 ∨ g j = 1) : ∀ (m i : Nat), ∃ k, k ≤ m ∧ aSm g m i = Int32.ofNat k
  | 0, _ => ⟨0, Nat.le_refl _, rfl⟩
  | m + 1, i => by
    obtain ⟨k, hk, e⟩ := aSm_nn h m (i + 1)
    rcases h i with q | q
    · exact ⟨k, by omega, by show g i + aSm g m (i + 1) = _; rw [q, e, Int32.zero_add]⟩
    · exact ⟨k + 1, by omega, by show g i + aSm g m (i + 1) = _; rw [q, e, Int32.add_comm]; exact zI_s rfl⟩
theorem wFirsts_nn (w : aW) (n : Nat) (y : Int32) : ∃ k, k ≤ n ∧ wFirsts w n y = Int32.ofNat k := aSm_nn (fun j => by by_cases c : wFires w j = true ∧ wGrade w j (wHeat w j y) = 1 <;> simp [c]) n 0
end PU3
section PU4
variable {sn : Nat} {sf : Nat → Int32} {m m1 w : aW} {n g o i j k f b L : Nat} {x y z v u s t c : Int32}
theorem okN_add (h : okN w n g o) (hn : n < 60) : okN (wAdd w n x y) (n + 1) g o := by
  obtain ⟨h1, h2, h3, h4, h5, h6⟩ := h
  refine ⟨upw_eq.trans (zI_s h1), by omega, ?_, h4, ?_, h6⟩
  · unfold wAdd
    rw [upw_ne (by omega), upw_ne (by omega), upw_ne (by omega), upw_ne (by omega), upw_ne (by omega), upw_ne (by omega), upw_ne (by omega), upw_ne (by omega)]
    exact h3
  · unfold wAdd
    rw [upw_ne (by omega), upw_ne (by omega), upw_ne (by omega), upw_ne (by omega), upw_ne (by omega), upw_ne (by omega), upw_ne (by omega), upw_ne (by omega)]
    exact h5
theorem okN_h {a l : Nat} (h : okN w n g o) (ha : ¬ (a = 16 ∧ 3 ≤ l)) : okN (upw w a l x) n g o := by
  obtain ⟨h1, h2, h3, h4, h5, h6⟩ := h
  exact ⟨by rw [upw_ne (by omega)]; exact h1, h2, by rw [upw_ne (by omega)]; exact h3, h4, by rw [upw_ne (by omega)]; exact h5, h6⟩
theorem melt_nn : ∀ a : Fin 4, ∀ b : Fin 10, 0 ≤ 1180 + 20 * Int32.ofNat a.val - 4 * Int32.ofNat b.val := by decide +kernel
theorem wGrade_rng : wGrade w i y = 1 ∨ wGrade w i y = 2 ∨ wGrade w i y = 3 := by
  unfold wGrade
  split
  · exact Or.inr (Or.inr rfl)
  · split
    · exact Or.inr (Or.inl rfl)
    · exact Or.inl rfl
theorem okS_eq {v : aW} (h8 : v 8 = w 8) (h9 : v 9 = w 9) (k : okS w g) : okS v g := by
  unfold okS okP at k ⊢
  rw [h8, h9]
  exact k
theorem okO_eq {v : aW} (h10 : v 10 = w 10) (h11 : v 11 = w 11) (h13 : v 13 = w 13) (k : okO w i) : okO v i := by
  unfold okO at k ⊢
  rw [h10, h11, h13]
  exact k
theorem wOkA_cg {v : aW} (h : ∀ a j, (a = 0 ∨ 8 ≤ a) → v a j = w a j) (hW : ∀ j, j < n → okW v g j) (ok : wOkA w n g o) : wOkA v n g o := by
  have e : ∀ a, (a = 0 ∨ 8 ≤ a) → v a = w a := fun a ha => funext fun j => h a j ha
  obtain ⟨⟨h1, h2, h3, h4, h5, h6⟩, -, k8, k9⟩ := ok
  exact ⟨⟨by rw [h 16 3 (by omega)]; exact h1, h2, by rw [h 16 4 (by omega)]; exact h3, h4, by rw [h 16 5 (by omega)]; exact h5, h6⟩, hW, okS_eq (e 8 (by omega)) (e 9 (by omega)) k8, fun i hi => okO_eq (e 10 (by omega)) (e 11 (by omega)) (e 13 (by omega)) (k9 i hi)⟩
theorem okW_fire (ok : wOkA w n g o) (hj : j < n) : okW (wFireK w y k) g j := by
  by_cases c : j < k ∧ wFires w j = true
  · have e1 : wFireK w y k 1 j = 2 := by unfold wFireK; rw [if_pos ⟨Or.inl rfl, c.1, c.2⟩, if_pos rfl]
    have e5 : wFireK w y k 5 j = wGrade w j (wHeat w j y) := by unfold wFireK; rw [if_pos ⟨Or.inr rfl, c.1, c.2⟩, if_neg (by decide)]
    have eo : ∀ a, ¬ (a = 1 ∨ a = 5) → wFireK w y k a j = w a j := fun a h => wFireK_out (Or.inr h)
    obtain ⟨k1, k2, -⟩ := ok.2.1 j hj
    obtain ⟨l, hl, e, -⟩ := okW_1 ok hj (of_decide_eq_true c.2).1
    unfold okW
    rw [e1, e5, eo 6 (by decide), eo 2 (by decide), eo 4 (by decide)]
    exact ⟨k1, k2, Or.inr (Or.inr (Or.inl ⟨rfl, wGrade_rng, l, hl, e⟩))⟩
  · have e : ∀ a, wFireK w y k a j = w a j := fun a => by
      unfold wFireK
      rw [if_neg (fun q => c ⟨q.2.1, q.2.2⟩)]
    unfold okW
    rw [e, e, e, e, e]
    exact ok.2.1 j hj
theorem wOkA_fire (ok : wOkA w n g o) : wOkA (wFireK w y k) n g o := wOkA_cg (fun a j h => wFireK_out (Or.inr (by omega))) (fun j hj => okW_fire ok hj) ok
theorem okW_out (ok : wOkA w n g o) (hj : j < n) (hy : ¬ y = -1) : okW (wOutK w y k) g j := by
  by_cases c : j < k ∧ w 4 j = y
  · have e1 : wOutK w y k 1 j = wTo w j := by unfold wOutK; rw [if_pos ⟨Or.inl rfl, c.1, c.2⟩, if_pos rfl]
    have e4 : wOutK w y k 4 j = -1 := by unfold wOutK; rw [if_pos ⟨Or.inr rfl, c.1, c.2⟩, if_neg (by decide)]
    have eo : ∀ a, ¬ (a = 1 ∨ a = 4) → wOutK w y k a j = w a j := fun a h => wOutK_out (Or.inr h)
    obtain ⟨k1, k2, k3⟩ := ok.2.1 j hj
    unfold okW
    rw [e1, e4, eo 6 (by decide), eo 2 (by decide), eo 5 (by decide)]
    refine ⟨k1, k2, ?_⟩
    rcases k3 with ⟨-, -, q⟩ | ⟨q1, q5, -⟩ | ⟨q1, q5, -⟩ | ⟨-, -, q⟩ | ⟨-, -, q⟩ | ⟨-, -, q⟩
    · exact absurd (c.2.symm.trans q) hy
    · refine Or.inl ⟨?_, q5, rfl⟩
      unfold wTo
      rw [if_neg (by rw [q1]; decide)]
    · rcases q5 with q5 | q5 | q5
      · refine Or.inr (Or.inr (Or.inr (Or.inl ⟨?_, Or.inl q5, rfl⟩)))
        unfold wTo
        rw [if_pos q1, if_neg (by rw [q5]; decide)]
      · refine Or.inr (Or.inr (Or.inr (Or.inl ⟨?_, Or.inr q5, rfl⟩)))
        unfold wTo
        rw [if_pos q1, if_neg (by rw [q5]; decide)]
      · refine Or.inr (Or.inr (Or.inr (Or.inr (Or.inr ⟨?_, q5, rfl⟩))))
        unfold wTo
        rw [if_pos q1, if_pos q5]
    · exact absurd (c.2.symm.trans q) hy
    · exact absurd (c.2.symm.trans q) hy
    · exact absurd (c.2.symm.trans q) hy
  · have e : ∀ a, wOutK w y k a j = w a j := fun a => by
      unfold wOutK
      rw [if_neg (fun q => c ⟨q.2.1, q.2.2⟩)]
    unfold okW
    rw [e, e, e, e, e]
    exact ok.2.1 j hj
theorem wOkA_out (ok : wOkA w n g o) (hy : ¬ y = -1) : wOkA (wOutK w y k) n g o := wOkA_cg (fun a j h => wOutK_out (Or.inr (by omega))) (fun j hj => okW_out ok hj hy) ok
theorem aSm_plus (f g : Nat → Int32) : ∀ (m i : Nat), aSm f m i + aSm g m i = aSm (fun j => f j + g j) m i
  | 0, _ => rfl
  | m + 1, i => by
    show f i + aSm f m (i + 1) + (g i + aSm g m (i + 1)) = f i + g i + aSm (fun j => f j + g j) m (i + 1)
    rw [← aSm_plus f g m (i + 1), Int32.add_assoc, Int32.add_assoc, ← Int32.add_assoc (aSm f m (i + 1)), Int32.add_comm (aSm f m (i + 1)) (g i), Int32.add_assoc]
/-- how many wares of a kind may be sold -/
theorem wFor_eq (ok : wOkA w n g o) : wFor w n j (Int32.ofNat k) = aSm (fun i => if wSellB w j k i = true then 1 else 0) n 0 := by
  have h5 : ∀ i, i < n → w 1 i = 3 → w 5 i = 1 ∨ w 5 i = 2 := by
    intro i hi h
    rcases (ok.2.1 i hi).2.2 with ⟨e, -⟩ | ⟨e, -⟩ | ⟨e, -⟩ | ⟨-, q3, -⟩ | ⟨e, -⟩ | ⟨e, -⟩
    · rw [e] at h; exact absurd h (by decide)
    · rw [e] at h; exact absurd h (by decide)
    · rw [e] at h; exact absurd h (by decide)
    · exact q3
    · rw [e] at h; exact absurd h (by decide)
    · rw [e] at h; exact absurd h (by decide)
  have hB : ∀ i, wSellB w j k i = true ↔ ((w 1 i = 3 ∧ w 6 i = Int32.ofNat k ∧ w 2 i = w 10 j) ∧ w 5 i ≤ (if w 11 j = 1 then 2 else 1)) := fun i => by unfold wSellB; rw [decide_eq_true_eq]
  unfold wFor wInSt
  by_cases c : w 11 j = 1
  · rw [if_pos c, aSm_plus]
    refine aSm_congr n 0 fun i _ hi => ?_
    have q := hB i
    rw [if_pos c] at q
    by_cases a : w 1 i = 3 ∧ w 6 i = Int32.ofNat k ∧ w 2 i = w 10 j
    · rcases h5 i (by omega) a.1 with e | e
      · rw [if_pos ⟨a, e⟩, if_neg (fun r => absurd (e.symm.trans r.2) (by decide)), if_pos (q.mpr ⟨a, by rw [e]; decide⟩)]
        rfl
      · rw [if_neg (fun r => absurd (e.symm.trans r.2) (by decide)), if_pos ⟨a, e⟩, if_pos (q.mpr ⟨a, by rw [e]; decide⟩)]
        rfl
    · rw [if_neg (fun r => a r.1), if_neg (fun r => a r.1), if_neg (fun r => a (q.mp r).1)]
      rfl
  · rw [if_neg c]
    refine aSm_congr n 0 fun i _ hi => ?_
    have q := hB i
    rw [if_neg c] at q
    by_cases a : w 1 i = 3 ∧ w 6 i = Int32.ofNat k ∧ w 2 i = w 10 j
    · rcases h5 i (by omega) a.1 with e | e
      · rw [if_pos ⟨a, e⟩, if_pos (q.mpr ⟨a, by rw [e]; decide⟩)]
      · rw [if_neg (fun r => absurd (e.symm.trans r.2) (by decide)), if_neg (fun r => absurd (q.mp r).2 (by rw [e]; decide))]
    · rw [if_neg (fun r => a r.1), if_neg (fun r => a (q.mp r).1)]
theorem okW_sell (ok : wOkA w n g o) (hi : i < n) (h : wSellB w j k i = true) : wOkA (upw w 1 i 4) n g o := by
  refine wOkA_cg (fun a j h => upw_ne (by omega)) (fun l hl => ?_) ok
  by_cases e : l = i
  · subst e
    obtain ⟨k1, k2, k3⟩ := ok.2.1 l hl
    have h3 : w 1 l = 3 := (of_decide_eq_true h).1.1
    unfold okW
    rw [upw_eq, upw_ne (by omega), upw_ne (by omega), upw_ne (by omega), upw_ne (by omega)]
    refine ⟨k1, k2, ?_⟩
    rcases k3 with ⟨e, -⟩ | ⟨e, -⟩ | ⟨e, -⟩ | ⟨-, q3, q4⟩ | ⟨e, -⟩ | ⟨e, -⟩
    · rw [e] at h3; exact absurd h3 (by decide)
    · rw [e] at h3; exact absurd h3 (by decide)
    · rw [e] at h3; exact absurd h3 (by decide)
    · exact Or.inr (Or.inr (Or.inr (Or.inr (Or.inl ⟨rfl, q3, q4⟩))))
    · rw [e] at h3; exact absurd h3 (by decide)
    · rw [e] at h3; exact absurd h3 (by decide)
  · unfold okW
    rw [upw_ne (by omega), upw_ne (by omega), upw_ne (by omega), upw_ne (by omega), upw_ne (by omega)]
    exact ok.2.1 l hl
theorem wOkA_take (h : wOkA (wSellK n j 4 w) n g o) : wOkA (wTake n j w) n g o := by
  obtain ⟨h1, h2, h3, h4⟩ := h
  refine ⟨okN_h h1 (by omega), fun l hl => ?_, ?_, fun i hi => ?_⟩
  · have q := h2 l hl
    unfold okW at q ⊢
    unfold wTake
    rw [upw_ne (by omega), upw_ne (by omega), upw_ne (by omega), upw_ne (by omega), upw_ne (by omega)]
    exact q
  · exact okS_eq (v := wTake n j w) (w := wSellK n j 4 w) rfl rfl h3
  · exact okO_eq (v := wTake n j w) (w := wSellK n j 4 w) rfl rfl rfl (h4 i hi)
end PU4
section PU5
variable {sn : Nat} {sf : Nat → Int32} {m m1 m2 w : aW} {s : Nat → Int32} {n g o i j k f b L : Nat} {x y z v u t c : Int32}
theorem okN_sag (h : okN w n g o) (hg : g < 8) : okN (wAdd3 w g) n (g + 1) o := by
  obtain ⟨h1, h2, h3, h4, h5, h6⟩ := h
  unfold wAdd3
  refine ⟨?_, h2, upw_eq.trans (zI_s h3), by omega, ?_, h6⟩
  · rw [upw_ne (by omega), upw_ne (by omega), upw_ne (by omega)]
    exact h1
  · rw [upw_ne (by omega), upw_ne (by omega), upw_ne (by omega)]
    exact h5
theorem wOrd_out {a : Nat} (h : ¬ (10 ≤ a ∧ a ≤ 13) ∧ ¬ (a = 16 ∧ j = 5)) : wOrd w o x y z u v t a j = w a j := by
  unfold wOrd wAdd1
  rw [upw_ne (by omega), upw_ne (by omega), upw_ne (by omega), upw_ne (by omega), upw_ne (by omega), upw_ne (by omega), upw_ne (by omega), upw_ne (by omega)]
theorem wOrd_old {a : Nat} (hj : ¬ j = o) (h : a = 10 ∨ a = 11 ∨ a = 12) : wOrd w o x y z u v t a j = w a j := by
  unfold wOrd wAdd1
  rw [upw_ne (by omega), upw_ne (by omega), upw_ne (by omega), upw_ne (by omega), upw_ne (by omega), upw_ne (by omega), upw_ne (by omega), upw_ne (by omega)]
theorem wOrd_old13 (hj : j < o * 4) : wOrd w o x y z u v t 13 j = w 13 j := by
  unfold wOrd wAdd1
  rw [upw_ne (by omega), upw_ne (by omega), upw_ne (by omega), upw_ne (by omega), upw_ne (by omega), upw_ne (by omega), upw_ne (by omega), upw_ne (by omega)]
theorem okN_ord (h : okN w n g o) (ho : o < 6) : okN (wOrd w o x y z u v t) n g (o + 1) := by
  obtain ⟨h1, h2, h3, h4, h5, h6⟩ := h
  refine ⟨?_, h2, ?_, h4, ?_, by omega⟩
  · rw [wOrd_out (by omega)]; exact h1
  · rw [wOrd_out (by omega)]; exact h3
  · unfold wOrd wAdd1
    rw [upw_ne (by omega), upw_ne (by omega), upw_ne (by omega), upw_ne (by omega), upw_eq]
    exact zI_s h5
end PU5
section PU6
variable {w v : aW} {s : Nat → Int32} {n g o i j k f b L b1 L1 : Nat} {x y z u t c : Int32}
theorem nd_len : ∀ (n : Nat) (l : List Nat), l.Nodup → (∀ e, e ∈ l → e < n) → l.length ≤ n
  | 0, l, _, h => by
    match l, h with
    | [], _ => exact Nat.le_refl _
    | a :: l, h => exact absurd (h a List.mem_cons_self) (by omega)
  | n + 1, l, nd, h => by
    by_cases c : n ∈ l
    · have e := List.length_erase_of_mem c
      have ih := nd_len n (l.erase n) (nd.erase n) (fun e he => by
        have q := (List.Nodup.mem_erase_iff nd).mp he
        have := h e q.2
        have := q.1
        omega)
      omega
    · have ih := nd_len n l nd (fun e he => by
        have := h e he
        have : ¬ e = n := fun q => c (q ▸ he)
        omega)
      omega
theorem okP_f (p : okP w j b L) (q : okP w j b1 L1) (h : b < 100000 ∧ b1 < 100000 ∧ L < 100000 ∧ L1 < 100000) : b = b1 ∧ L = L1 :=
  ⟨ofN_ne h.1 h.2.1 (p.1.symm.trans q.1), ofN_ne h.2.2.1 h.2.2.2 (p.2.symm.trans q.2)⟩
theorem okS_under (ok : okS w g) (hj : j < g) (hb : b < 4) (hL : L < 8) (p : okP w j b (L + 1)) : ∃ i, i < g ∧ okP w i b L := by
  rcases ok.1 j hj with ⟨q, -⟩ | ⟨b1, L1, h1, h2, h3, h4⟩
  · exact absurd q (okP_k hb p)
  · obtain ⟨rfl, e⟩ := okP_f h3 p ⟨by omega, by omega, by omega, by omega⟩
    exact h4 L e
theorem chain_of (ok : okS w g) (hb : b < 4) : ∀ (L k : Nat), L < 8 → k < g → okP w k b L → ∃ l : List Nat, l.Nodup ∧ l.length = L + 1 ∧ ∀ e, e ∈ l → e < g ∧ ∃ L', L' ≤ L ∧ okP w e b L'
  | 0, k, hL, hk, p => ⟨[k], by simp, rfl, fun e he => by
    have : e = k := List.mem_singleton.mp he
    subst this
    exact ⟨hk, 0, Nat.le_refl _, p⟩⟩
  | L + 1, k, hL, hk, p => by
    obtain ⟨i, hi, q⟩ := okS_under ok hk hb (by omega) p
    obtain ⟨l, h1, h2, h3⟩ := chain_of ok hb L i (by omega) hi q
    refine ⟨k :: l, List.nodup_cons.mpr ⟨fun hm => ?_, h1⟩, by rw [List.length_cons, h2], fun e he => ?_⟩
    · obtain ⟨-, L', hL', p'⟩ := h3 k hm
      have := (okP_f p p' ⟨by omega, by omega, by omega, by omega⟩).2
      omega
    · rcases List.mem_cons.mp he with rfl | he
      · exact ⟨hk, L + 1, Nat.le_refl _, p⟩
      · obtain ⟨h4, L', hL', p'⟩ := h3 e he
        exact ⟨h4, L', by omega, p'⟩
/-- there is room above a saggar while one stands on the floor -/
theorem lv_up8 (ok : okS w g) (hg : g ≤ 8) (hb : b < 4) (hL : L < 8) (hk : k < g) (p : okP w k b L) (hi : i < g) (h8 : w 8 i = -1) : L + 1 < 8 := by
  obtain ⟨l, h1, h2, h3⟩ := chain_of ok hb L k hL hk p
  have q := nd_len g (i :: l) (List.nodup_cons.mpr ⟨fun hm => by
    obtain ⟨-, L', -, p'⟩ := h3 i hm
    exact okP_k hb p' h8, h1⟩) (fun e he => by
      rcases List.mem_cons.mp he with rfl | he
      · exact hi
      · exact (h3 e he).1)
  rw [List.length_cons, h2] at q
  omega
theorem wUp_of (hj : j < 100000) (hb : b < 4) (p : okP w j b L) : wUp w g (Int32.ofNat j) = wAt w g (Int32.ofNat b) (Int32.ofNat (L + 1)) := by
  unfold wUp
  rw [zn_of rfl hj, if_neg (okP_k hb p), p.1, p.2]
  congr 1
  exact zI_s rfl
theorem wUp_f (hj : j < 8) (h : w 8 j = -1) : wUp w g (Int32.ofNat j) = -1 := by
  unfold wUp
  rw [zn_of rfl (by omega), if_pos h]
def wSt (w : aW) (i : Nat) (x y : Int32) : aW := upw (upw w 8 i x) 9 i y
theorem wSt_ne (h : ¬ j = i) : (okP (wSt w i x y) j b L ↔ okP w j b L) := by
  unfold okP wSt
  rw [upw_ne (by omega), upw_ne (by omega), upw_ne (by omega), upw_ne (by omega)]
theorem wSt_eq : okP (wSt w i (Int32.ofNat b) (Int32.ofNat L)) i b L := by
  unfold okP wSt
  rw [upw_ne (by omega), upw_eq]
  exact ⟨rfl, upw_eq⟩
theorem wSt_8 : wSt w i x y 8 i = x := by
  unfold wSt
  rw [upw_ne (by omega), upw_eq]
theorem wSt_9 : wSt w i x y 9 i = y := upw_eq
theorem wSt_out {a : Nat} (h : ¬ ((a = 8 ∨ a = 9) ∧ j = i)) : wSt w i x y a j = w a j := by
  unfold wSt
  rw [upw_ne (by omega), upw_ne (by omega)]
theorem okS_stand (ok : okS w g) (hg : g ≤ 8) (hi : i < g) (h8 : w 8 i = -1) (hb : b < 4) (hL : L < 8) (free : ∀ j, j < g → ¬ okP w j b L) (und : ∀ L', L = L' + 1 → ∃ k, k < g ∧ okP w k b L') : okS (wSt w i (Int32.ofNat b) (Int32.ofNat L)) g := by
  have oldn : ∀ k b1 L1, b1 < 4 → okP w k b1 L1 → okP (wSt w i (Int32.ofNat b) (Int32.ofNat L)) k b1 L1 := fun k b1 L1 hb p => (wSt_ne (fun e : k = i => okP_k hb p (by rw [e]; exact h8))).mpr p
  refine ⟨fun j hj => ?_, fun j k hj hk hn e8 e9 => ?_⟩
  · by_cases e : j = i
    · subst e
      refine Or.inr ⟨b, L, hb, hL, wSt_eq, fun L' hL' => ?_⟩
      obtain ⟨k, hk, p⟩ := und L' hL'
      exact ⟨k, hk, oldn k b L' hb p⟩
    · rcases ok.1 j hj with ⟨q1, q2⟩ | ⟨b1, L1, h1, h2, h3, h4⟩
      · exact Or.inl ⟨(wSt_out (by omega)).trans q1, (wSt_out (by omega)).trans q2⟩
      · refine Or.inr ⟨b1, L1, h1, h2, oldn j b1 L1 h1 h3, fun L' hL' => ?_⟩
        obtain ⟨k, hk, p⟩ := h4 L' hL'
        exact ⟨k, hk, oldn k b1 L' h1 p⟩
  · by_cases ej : j = i
    · by_cases ek : k = i
      · omega
      · subst ej
        rw [wSt_8, wSt_out (by omega)] at e8
        rw [wSt_9, wSt_out (by omega)] at e9
        exact absurd ⟨e8.symm, e9.symm⟩ (free k hk)
    · by_cases ek : k = i
      · subst ek
        rw [wSt_8, wSt_out (by omega)] at e8
        rw [wSt_9, wSt_out (by omega)] at e9
        exact absurd ⟨e8, e9⟩ (free j hj)
      · rw [wSt_out (by omega)] at hn
        rw [wSt_out (by omega), wSt_out (by omega)] at e8 e9
        exact ok.2 j k hj hk hn e8 e9
theorem okS_down (ok : okS w g) (hi : i < g) (hb : b < 4) (hL : L < 8) (p : okP w i b L) (top : ∀ j, j < g → ¬ okP w j b (L + 1)) : okS (wSt w i (-1) (-1)) g := by
  refine ⟨fun j hj => ?_, fun j k hj hk hn e8 e9 => ?_⟩
  · by_cases e : j = i
    · subst e
      exact Or.inl ⟨wSt_8, wSt_9⟩
    · rcases ok.1 j hj with ⟨q1, q2⟩ | ⟨b1, L1, h1, h2, h3, h4⟩
      · exact Or.inl ⟨(wSt_out (by omega)).trans q1, (wSt_out (by omega)).trans q2⟩
      · refine Or.inr ⟨b1, L1, h1, h2, (wSt_ne e).mpr h3, fun L' hL' => ?_⟩
        obtain ⟨k, hk, q⟩ := h4 L' hL'
        refine ⟨k, hk, (wSt_ne (fun ek => ?_)).mpr q⟩
        subst ek
        obtain ⟨rfl, rfl⟩ := okP_f p q ⟨by omega, by omega, by omega, by omega⟩
        exact top j hj (hL' ▸ h3)
  · by_cases ej : j = i
    · subst ej
      exact absurd wSt_8 hn
    · by_cases ek : k = i
      · subst ek
        rw [wSt_8] at e8
        exact absurd e8 hn
      · rw [wSt_out (by omega)] at hn
        rw [wSt_out (by omega), wSt_out (by omega)] at e8 e9
        exact ok.2 j k hj hk hn e8 e9
end PU6
section PU7
variable {sn : Nat} {sf : Nat → Int32} {m m1 m2 w v : aW} {s s1 : Nat → Int32} {n g o i j k f b L : Nat} {x y z u t c : Int32}
theorem wOkA_st (ok : wOkA w n g o) (h : okS (wSt w i x y) g) : wOkA (wSt w i x y) n g o := by
  obtain ⟨h1, h2, h3, h4⟩ := ok
  refine ⟨okN_h (okN_h h1 (by omega)) (by omega), fun j hj => ?_, h, fun k hk => okO_eq (v := wSt w i x y) (w := w) ?_ ?_ ?_ (h4 k hk)⟩
  · have q := h2 j hj
    unfold okW at q ⊢
    rw [wSt_out (by omega), wSt_out (by omega), wSt_out (by omega), wSt_out (by omega), wSt_out (by omega)]
    exact q
  · exact funext fun j => wSt_out (by omega)
  · exact funext fun j => wSt_out (by omega)
  · exact funext fun j => wSt_out (by omega)
end PU7
section PU8
def wClay (w : aW) (n : Nat) : Int32 := w 16 0 + aSm (fun j => fSz (w 6 j)) n 0
def wSets (w : aW) (o : Nat) : Int32 := aSm (fun i => aSm (fun k => w 13 (i * 4 + k) * w 12 i) 4 0) o 0
def hS (t : Nat → Int32) (L : Nat) (x y : Int32) (q : Nat × Int32) : Int32 × Nat × Int32 := if q.2 = 0 ∧ q.1 < L ∧ x ≤ t q.1 ∧ t q.1 ≤ y then (t q.1 - x, q.1 + 1, 0) else (0, q.1, 1)
def hD (t : Nat → Int32) (L : Nat) (q : Nat × Int32) : Int32 × Nat × Int32 := hS t L 48 57 q
def hB (t : Nat → Int32) (L : Nat) (x : Int32) (q : Nat × Int32) : Int32 × Nat × Int32 := hD t L (hS t L x x q).2
theorem nSm_le {g : Nat → Nat} {c : Nat} (h : ∀ j, g j ≤ c) : ∀ (m i : Nat), nSm g m i ≤ c * m
  | 0, _ => Nat.zero_le _
  | m + 1, i => by
    have h1 := h i
    have h2 := nSm_le h m (i + 1)
    show g i + nSm g m (i + 1) ≤ c * (m + 1)
    rw [Nat.mul_succ]
    omega
theorem nSm_ge {g : Nat → Nat} : ∀ (m i j : Nat), i ≤ j → j < i + m → g j ≤ nSm g m i
  | 0, i, j, h1, h2 => by omega
  | m + 1, i, j, h1, h2 => by
    show g j ≤ g i + nSm g m (i + 1)
    by_cases e : j = i
    · rw [e]
      omega
    · have := nSm_ge (g := g) m (i + 1) j (by omega) (by omega)
      omega
theorem nSm_upd {g g1 : Nat → Nat} : ∀ (m i j : Nat), i ≤ j → j < i + m → (∀ a, ¬ a = j → g1 a = g a) → nSm g1 m i + g j = nSm g m i + g1 j
  | 0, i, j, h1, h2, _ => by omega
  | m + 1, i, j, h1, h2, h => by
    show g1 i + nSm g1 m (i + 1) + g j = g i + nSm g m (i + 1) + g1 j
    by_cases e : j = i
    · subst e
      rw [nSm_congr (f := g1) (g := g) m (j + 1) (fun a h1 _ => h a (by omega))]
      omega
    · rw [h i (fun q => e q.symm)]
      have := nSm_upd (g := g) (g1 := g1) m (i + 1) j (by omega) (by omega) h
      omega
theorem nSm_snoc {g : Nat → Nat} : ∀ (m i : Nat), nSm g (m + 1) i = nSm g m i + g (i + m)
  | 0, i => by
    show g i + 0 = 0 + g (i + 0)
    rw [Nat.add_zero, Nat.add_zero, Nat.zero_add]
  | m + 1, i => by
    show g i + nSm g (m + 1) (i + 1) = g i + nSm g m (i + 1) + g (i + (m + 1))
    rw [nSm_snoc m (i + 1), show i + 1 + m = i + (m + 1) by omega]
    omega
end PU8
section PU9
variable {w : aW} {n g o i j k : Nat} {x y z : Int32}
theorem fSz_n (h : ∃ k, aIx x 4 = some k) : 1 ≤ zn (fSz x) ∧ zn (fSz x) ≤ 4 ∧ fSz x = Int32.ofNat (zn (fSz x)) := by
  obtain ⟨k, h⟩ := h
  have hk : k < 4 := by
    unfold aIx at h
    split at h
    · cases h
    · rename_i c
      cases h
      omega
  rw [fSz_of h]
  match k, hk with
  | 0, _ => decide
  | 1, _ => decide
  | 2, _ => decide
  | 3, _ => decide
def nHeld (w : aW) (n : Nat) (y : Int32) : Nat := nSm (fun j => if w 4 j = y then zn (fSz (w 6 j)) else 0) n 0
theorem wHeld_n (ok : ∀ j, j < n → ∃ k, aIx (w 6 j) 4 = some k) : wHeld w n y = Int32.ofNat (nHeld w n y) := aSm_nat n 0 fun j _ hj => by
  by_cases c : w 4 j = y
  · rw [if_pos c, if_pos c]
    exact (fSz_n (ok j (by omega))).2.2
  · rw [if_neg c, if_neg c]
    rfl
theorem nSm_leN {g : Nat → Nat} {c : Nat} : ∀ (m i : Nat), (∀ j, i ≤ j → j < i + m → g j ≤ c) → nSm g m i ≤ c * m
  | 0, _, _ => Nat.zero_le _
  | m + 1, i, h => by
    have h1 := h i (by omega) (by omega)
    have h2 := nSm_leN m (i + 1) (fun j h1 h2 => h j (by omega) (by omega))
    show g i + nSm g m (i + 1) ≤ c * (m + 1)
    rw [Nat.mul_succ]
    omega
theorem nHeld_le (ok : ∀ j, j < n → ∃ k, aIx (w 6 j) 4 = some k) : nHeld w n y ≤ 4 * n := nSm_leN n 0 fun j _ hj => by
  have := (fSz_n (ok j (by omega))).2.1
  split <;> omega
theorem put_dec : ∀ a : Fin 241, ∀ b : Fin 5, Int32.ofNat b.val ≤ 6 - Int32.ofNat a.val → 0 ≤ 6 - Int32.ofNat a.val - Int32.ofNat b.val := by decide +kernel
/-- what is left of the room is not negative -/
theorem fa_put (ok : wOkA w n g o) (hi : i < n) : fSz (w 6 i) ≤ 6 - wHeld w n y → 0 ≤ 6 - wHeld w n y - fSz (w 6 i) := by
  have e := fSz_n (ok.kinds i hi)
  have h1 := nHeld_le (y := y) ok.kinds
  have hn := ok.1.2.1
  rw [wHeld_n ok.kinds, e.2.2]
  exact put_dec ⟨nHeld w n y, by omega⟩ ⟨zn (fSz (w 6 i)), by omega⟩
theorem zn_le {a : Nat} (h : x ≤ Int32.ofNat a) (h0 : 0 ≤ x) (ha : a < 100000) : zn x ≤ a := by
  have e := zn_nn h0
  have := Int32.toInt_lt x
  have g2 : ((zn x : Nat) : Int) = x.toInt := by
    show ((x.toInt.toNat : Nat) : Int) = _
    have e0 : (0 : Int32).toInt = 0 := rfl
    have : (0 : Int) ≤ x.toInt := by rw [← e0]; exact Int32.le_iff_toInt_le.mp h0
    omega
  have h2 := Int32.le_iff_toInt_le.mp h
  rw [Int32.toInt_ofNat_of_lt (by omega)] at h2
  omega
theorem zn_pos (h : 0 < x) : 1 ≤ zn x := by
  have e := zn_nn (Int32.le_of_lt h)
  by_cases c : zn x = 0
  · rw [c] at e
    rw [e] at h
    exact absurd h (by decide)
  · omega
theorem nSold_le (k : Nat) : nSold w n k ≤ n := by
  have := nSm_le (g := fun j => if w 1 j = 4 ∧ w 6 j = Int32.ofNat k then 1 else 0) (c := 1) (fun j => by split <;> omega) n 0
  unfold nSold
  omega
/-- no more sets are sold than there are wares -/
theorem sold_le (ok : wOk w n g o) (hi : i < o) : zn (w 12 i) ≤ n := by
  obtain ⟨k, hk, hp⟩ := (ok.2.2.2.1 i hi).2.2.2
  have h1 := ok.2.2.2.2.1.2.2 k hk
  have h2 := nSold_le (w := w) (n := n) k
  have h3 : zn (w 12 i) * zn (w 13 (i * 4 + k)) ≤ nSoldOf w o k := nSm_ge (g := fun i => zn (w 12 i) * zn (w 13 (i * 4 + k))) o 0 i (by omega) (by omega)
  have h4 := zn_pos hp
  have h5 := Nat.mul_le_mul_left (zn (w 12 i)) h4
  omega
theorem inc_dec : ∀ a : Fin 61, 0 ≤ Int32.ofNat a.val + 1 := by decide +kernel
theorem wTake_12 : wTake n i w 12 i = w 12 i + 1 := by
  show upw (wSellK n i 4 w) 12 i (wSellK n i 4 w 12 i + 1) 12 i = _
  rw [upw_eq, wSellK_o 12 i (by omega)]
theorem fa_sell (ok : wOk w n g o) (hi : i < o) : 0 ≤ wTake n i w 12 i := by
  have h1 := sold_le ok hi
  have hn := ok.1.2.1
  rw [wTake_12, zn_nn (ok.2.2.2.2.1.2.1 i hi)]
  exact inc_dec ⟨zn (w 12 i), by omega⟩
end PU9
section PU10
/-- how a change ends -/
def PK (p : aZ) : Prop := (p.1 = -1 ∨ p.1 = -2) ∨ (p.1 = -3 ∧ (p.2 16 6 = 1 ∨ p.2 16 6 = 2)) ∨ (0 ≤ p.1 ∧ ∃ n g o, wOk p.2 n g o)
end PU10
section PU11
variable {w v : aW} {n g o i j k : Nat} {x y z u s t : Int32}
theorem PK1 {p : aZ} (h : p = (-1, w)) : PK p := by rw [h]; exact Or.inl (Or.inl rfl)
theorem PK2 {p : aZ} (h : p = (-2, w)) : PK p := by rw [h]; exact Or.inl (Or.inr rfl)
theorem PK3 {p : aZ} (h : p = (-3, wNote w x y)) : PK p := by rw [h]; exact Or.inr (Or.inl ⟨rfl, Or.inl rfl⟩)
theorem PK0 {p : aZ} (h : p = (x, v)) (h0 : 0 ≤ x) (ok : wOk v n g o) : PK p := by rw [h]; exact Or.inr (Or.inr ⟨h0, n, g, o, ok⟩)
theorem wOk.mk (A : wOkA w n g o) (B : okB w n o) (T : okT w) : wOk w n g o := ⟨A.1, A.2.1, A.2.2.1, A.2.2.2, B, T⟩
theorem wOk.B (k : wOk w n g o) : okB w n o := k.2.2.2.2.1
theorem wOk.T (k : wOk w n g o) : okT w := k.2.2.2.2.2
theorem okB_cg (h16 : v 16 1 = w 16 1 ∧ v 16 0 = w 16 0) (h6 : ∀ j, j < n → v 6 j = w 6 j) (h1 : ∀ j, j < n → (v 1 j = 4 ↔ w 1 j = 4)) (h12 : ∀ i, v 12 i = w 12 i) (h13 : ∀ i, v 13 i = w 13 i) (b : okB w n o) : okB v n o := by
  obtain ⟨b1, b2, b3⟩ := b
  refine ⟨?_, fun i hi => by rw [h12]; exact b2 i hi, fun k hk => ?_⟩
  · rw [h16.1, h16.2, b1, aSm_congr (f := fun j => fSz (v 6 j)) (g := fun j => fSz (w 6 j)) n 0 fun j _ hj => by rw [h6 j (by omega)]]
  · have e1 : nSold v n k = nSold w n k := nSm_congr n 0 fun j _ hj => by
      rw [h6 j (by omega)]
      by_cases c : w 1 j = 4
      · rw [(h1 j (by omega)).mpr c, c]
      · rw [if_neg (fun q => c ((h1 j (by omega)).mp q.1)), if_neg (fun q => c q.1)]
    have e2 : nSoldOf v o k = nSoldOf w o k := nSm_congr o 0 fun j _ hj => by rw [h12, h13]
    rw [e1, e2, b3 k hk]
theorem okT_cg (h0 : ∀ i, i < 3 → v 0 i = w 0 i) (h16 : v 16 0 = w 16 0) (t : okT w) : okT v := ⟨fun i hi => by rw [h0 i hi]; exact t.1 i hi, by rw [h16]; exact t.2.1, by rw [h16]; exact t.2.2⟩
theorem nn_add {a b : Nat} (ha : a < 40000) (hb : b < 40000) : (0 : Int32) ≤ Int32.ofNat a + Int32.ofNat b := by
  rw [← Int32.ofNat_add]
  exact Int32.not_lt.mp (ofN_lt0 (by omega))
theorem wOkA_up {a l : Nat} (ok : wOkA w n g o) (h : a = 0 ∨ (a = 16 ∧ l < 3)) : wOkA (upw w a l x) n g o := by
  refine ⟨okN_h ok.1 (by omega), fun j hj => ?_, ?_, fun i hi => ?_⟩
  · have q := ok.2.1 j hj
    unfold okW at q ⊢
    rw [upw_ne (by omega), upw_ne (by omega), upw_ne (by omega), upw_ne (by omega), upw_ne (by omega)]
    exact q
  · exact okS_eq (v := upw w a l x) (w := w) (funext fun j => upw_ne (by omega)) (funext fun j => upw_ne (by omega)) ok.2.2.1
  · exact okO_eq (v := upw w a l x) (w := w) (funext fun j => upw_ne (by omega)) (funext fun j => upw_ne (by omega)) (funext fun j => upw_ne (by omega)) (ok.2.2.2 i hi)
theorem pk_set (ok : wOk w n g o) : PK (fSet w x y) := by
  by_cases c0 : 0 ≤ x ∧ x ≤ 2
  rotate_left
  · exact PK2 (if_neg c0)
  by_cases c1 : aI4 0 10 5 5 (zn x) ≤ y ∧ y ≤ aI4 9 99 40 40 (zn x)
  rotate_left
  · exact PK2 ((if_pos c0).trans (if_neg c1))
  have hx : zn x ≤ 2 := zn_le (a := 2) c0.2 c0.1 (by omega)
  have hy : 0 ≤ y := by
    refine Int32.le_trans ?_ c1.1
    match zn x, hx with
    | 0, _ => decide
    | 1, _ => decide
    | 2, _ => decide
  refine PK0 ((if_pos c0).trans (if_pos c1)) (ok.T.1 _ (by omega)) (wOk.mk (n := n) (g := g) (o := o) ?_ ?_ ?_)
  · exact wOkA_up ok.A (Or.inl rfl)
  · exact okB_cg ⟨rfl, rfl⟩ (fun _ _ => rfl) (fun _ _ => Iff.rfl) (fun _ => rfl) (fun _ => rfl) ok.B
  · refine ⟨fun i hi => ?_, ok.T.2⟩
    by_cases e : i = zn x
    · subst e
      rw [upw_eq]
      exact hy
    · rw [upw_ne (by omega)]
      exact ok.T.1 i hi
theorem okA_add (ok : wOkA w n g o) (hn : n < 60) (hx : ∃ k, aIx x 4 = some k) : wOkA (wAdd w n x y) (n + 1) g o := by
  refine ⟨okN_add ok.1 hn, fun j hj => ?_, ?_, fun i hi => ?_⟩
  · by_cases e : j = n
    · subst e
      refine ⟨?_, Or.inl ?_, Or.inl ⟨?_, ?_, ?_⟩⟩
      · have : wAdd w j x y 6 j = x := by
          unfold wAdd
          rw [upw_ne (by omega), upw_ne (by omega), upw_ne (by omega), upw_ne (by omega), upw_ne (by omega), upw_ne (by omega), upw_ne (by omega), upw_eq]
        rw [this]
        exact hx
      · unfold wAdd
        rw [upw_ne (by omega), upw_ne (by omega), upw_ne (by omega), upw_ne (by omega), upw_eq]
      · unfold wAdd
        rw [upw_ne (by omega), upw_ne (by omega), upw_ne (by omega), upw_ne (by omega), upw_ne (by omega), upw_eq]
      · unfold wAdd
        rw [upw_ne (by omega), upw_eq]
      · unfold wAdd
        rw [upw_ne (by omega), upw_ne (by omega), upw_eq]
    · have e1 : ∀ a, ¬ a = 16 → wAdd w n x y a j = w a j := fun a ha => by
        unfold wAdd
        rw [upw_ne (by omega), upw_ne (by omega), upw_ne (by omega), upw_ne (by omega), upw_ne (by omega), upw_ne (by omega), upw_ne (by omega), upw_ne (by omega)]
      have q := ok.2.1 j (by omega)
      unfold okW at q ⊢
      rw [e1 6 (by omega), e1 2 (by omega), e1 1 (by omega), e1 5 (by omega), e1 4 (by omega)]
      exact q
  · exact okS_eq (v := wAdd w n x y) (w := w) rfl rfl ok.2.2.1
  · exact okO_eq (v := wAdd w n x y) (w := w) rfl rfl rfl (ok.2.2.2 i hi)
theorem wAdd_6 : wAdd w n x y 6 n = x := by
  unfold wAdd
  rw [upw_ne (by omega), upw_ne (by omega), upw_ne (by omega), upw_ne (by omega), upw_ne (by omega), upw_ne (by omega), upw_ne (by omega), upw_eq]
theorem wAdd_1 : wAdd w n x y 1 n = 0 := by
  unfold wAdd
  rw [upw_ne (by omega), upw_ne (by omega), upw_ne (by omega), upw_ne (by omega), upw_ne (by omega), upw_eq]
theorem wAdd_o {a : Nat} (ha : ¬ (a = 16 ∧ j = 3)) (hj : ¬ j = n ∨ ¬ (1 ≤ a ∧ a ≤ 7)) : wAdd w n x y a j = w a j := by
  unfold wAdd
  rw [upw_ne (by omega), upw_ne (by omega), upw_ne (by omega), upw_ne (by omega), upw_ne (by omega), upw_ne (by omega), upw_ne (by omega), upw_ne (by omega)]
/-- wares more: the balance -/
def okC (w : aW) (n o : Nat) (b s : Int32) : Prop := w 16 1 = b ∧ w 16 0 = s ∧ (∀ i, i < o → 0 ≤ w 12 i) ∧ ∀ k, k < 4 → nSold w n k = nSoldOf w o k
theorem okC_add {b s : Int32} (c : okC w n o b s) : okC (wAdd w n x y) (n + 1) o b s := by
  obtain ⟨c1, c2, c3, c4⟩ := c
  refine ⟨?_, ?_, fun i hi => ?_, fun k hk => ?_⟩
  · rw [wAdd_o (by omega) (by omega)]
    exact c1
  · rw [wAdd_o (by omega) (by omega)]
    exact c2
  · rw [wAdd_o (by omega) (by omega)]
    exact c3 i hi
  · have e1 : nSold (wAdd w n x y) (n + 1) k = nSold w n k := by
      unfold nSold
      rw [nSm_snoc, nSm_congr (f := fun j => if wAdd w n x y 1 j = 4 ∧ wAdd w n x y 6 j = Int32.ofNat k then 1 else 0) (g := fun j => if w 1 j = 4 ∧ w 6 j = Int32.ofNat k then 1 else 0) n 0 fun j _ hj => by rw [wAdd_o (a := 1) (by omega) (by omega), wAdd_o (a := 6) (by omega) (by omega)]]
      rw [Nat.zero_add, wAdd_1, if_neg (fun q => absurd q.1 (by decide))]
      rfl
    have e2 : nSoldOf (wAdd w n x y) o k = nSoldOf w o k := nSm_congr o 0 fun j _ hj => by rw [wAdd_o (a := 12) (by omega) (by omega), wAdd_o (a := 13) (by omega) (by omega)]
    rw [e1, e2, c4 k hk]
theorem sum_add : aSm (fun j => fSz (wAdd w n x y 6 j)) (n + 1) 0 = aSm (fun j => fSz (w 6 j)) n 0 + fSz x := by
  rw [aSm_succ, Nat.zero_add, wAdd_6, aSm_congr (f := fun j => fSz (wAdd w n x y 6 j)) (g := fun j => fSz (w 6 j)) n 0 fun j _ hj => by rw [wAdd_o (by omega) (by omega)]]
theorem okA_adds (ok : wOkA w n g o) (hx : ∃ k, aIx x 4 = some k) : ∀ k, n + k ≤ 60 → wOkA (wAdds w n x y k) (n + k) g o
  | 0, _ => ok
  | k + 1, h => okA_add (okA_adds ok hx k (by omega)) (by omega) hx
theorem okC_adds {b s : Int32} (c : okC w n o b s) : ∀ k, okC (wAdds w n x y k) (n + k) o b s
  | 0 => c
  | k + 1 => okC_add (okC_adds c k)
theorem sum_adds : ∀ k, aSm (fun j => fSz (wAdds w n x y k 6 j)) (n + k) 0 = aSm (fun j => fSz (w 6 j)) n 0 + Int32.ofNat k * fSz x
  | 0 => by
    have e : Int32.ofNat 0 * fSz x = 0 := by rw [show Int32.ofNat 0 = 0 from rfl, Int32.zero_mul]
    rw [e, Int32.add_zero]
    rfl
  | k + 1 => by
    have h := sum_add (w := wAdds w n x y k) (n := n + k) (x := x) (y := y)
    show aSm (fun j => fSz (wAdd (wAdds w n x y k) (n + k) x y 6 j)) (n + k + 1) 0 = _
    rw [h, sum_adds k, Int32.ofNat_add]
    show _ = _ + (Int32.ofNat k + 1) * fSz x
    grind
theorem adds_0 {i : Nat} : ∀ k, wAdds w n x y k 0 i = w 0 i
  | 0 => rfl
  | k + 1 => (wAdd_o (by omega) (by omega)).trans (adds_0 k)
theorem pk_cast (ok : wOk w n g o) : PK (fCast w n x y z) := by
  by_cases c0 : (0 ≤ x ∧ x ≤ 3) ∧ (1 ≤ y ∧ y ≤ 20) ∧ (30 ≤ z ∧ z ≤ 60)
  rotate_left
  · exact PK2 (if_neg c0)
  by_cases c1 : w 16 3 + y ≤ 60
  rotate_left
  · exact PK3 ((if_pos c0).trans (if_neg c1))
  by_cases c2 : y * fSz x ≤ w 16 0
  rotate_left
  · exact PK3 ((if_pos c0).trans ((if_pos c1).trans (if_neg c2)))
  have y0 : 0 ≤ y := Int32.le_trans (by decide) c0.2.1.1
  have hy : zn y ≤ 20 := zn_le (a := 20) c0.2.1.2 y0 (by omega)
  have ey := zn_nn y0
  have hs : zn (w 16 0) ≤ 999 := zn_le (a := 999) ok.T.2.2 ok.T.2.1 (by omega)
  have es := zn_nn ok.T.2.1
  have hxk : ∃ k, aIx x 4 = some k := ⟨_, aIx_le (m := 3) c0.1.1 c0.1.2 (by omega)⟩
  obtain ⟨f1, f4, ef⟩ := fSz_n hxk
  have hn := ok.1.2.1
  have e1 : w 16 3 + y = Int32.ofNat (n + zn y) := by rw [ok.1.1, Int32.ofNat_add, ← ey]
  have hnk : n + zn y ≤ 60 := (zI_le (i := n + zn y) (n := 60) e1 rfl (by omega) (by omega)).mp c1
  have ep : y * fSz x = Int32.ofNat (zn y * zn (fSz x)) := by rw [Int32.ofNat_mul, ← ey, ← ef]
  have hp : zn y * zn (fSz x) ≤ 80 := by
    have := Nat.mul_le_mul hy f4
    omega
  have hps : zn y * zn (fSz x) ≤ zn (w 16 0) := (zI_le ep es (by omega) (by omega)).mp c2
  have e2 : w 16 0 - y * fSz x = Int32.ofNat (zn (w 16 0) - zn y * zn (fSz x)) := by
    have h : w 16 0 = Int32.ofNat (zn (w 16 0) - zn y * zn (fSz x)) + y * fSz x := by
      rw [ep, ← Int32.ofNat_add, Nat.sub_add_cancel hps]
      exact es
    rw [h, Int32.add_sub_cancel]
    rw [← h]
  have h0 : 0 ≤ w 16 3 + y := by
    rw [e1]
    exact Int32.not_lt.mp (ofN_lt0 (by omega))
  have C0 : okC (upw w 16 0 (w 16 0 - y * fSz x)) n o (w 16 1) (w 16 0 - y * fSz x) := ⟨rfl, rfl, ok.B.2.1, ok.B.2.2⟩
  obtain ⟨k1, k2, k3, k4⟩ := okC_adds (x := x) (y := z) C0 (zn y)
  refine PK0 ((if_pos c0).trans ((if_pos c1).trans (if_pos c2))) h0 (wOk.mk (n := n + zn y) (g := g) (o := o) ?_ ⟨?_, k3, k4⟩ ⟨fun i hi => ?_, ?_, ?_⟩)
  · exact okA_adds (wOkA_up ok.A (Or.inr ⟨rfl, by omega⟩)) hxk (zn y) hnk
  · have e := sum_adds (w := upw w 16 0 (w 16 0 - y * fSz x)) (n := n) (x := x) (y := z) (zn y)
    have e9 : aSm (fun j => fSz (upw w 16 0 (w 16 0 - y * fSz x) 6 j)) n 0 = aSm (fun j => fSz (w 6 j)) n 0 := rfl
    have b1 := ok.B.1
    rw [k1, k2, e, e9, ← ey]
    generalize aSm (fun j => fSz (w 6 j)) n 0 = S at *
    generalize y * fSz x = Y at *
    rw [b1]
    grind
  · rw [adds_0]
    exact ok.T.1 i hi
  · rw [k2, e2]
    exact Int32.not_lt.mp (ofN_lt0 (by omega))
  · rw [k2, e2]
    exact (zI_le (x := Int32.ofNat (zn (w 16 0) - zn y * zn (fSz x))) (y := 999) (n := 999) rfl rfl (by omega) (by omega)).mpr (by omega)
theorem pk_coat (ok : wOk w n g o) : PK (fCoat w x y z) := by
  by_cases c0 : 0 ≤ x ∧ x < w 16 3
  rotate_left
  · exact PK1 (if_neg c0)
  by_cases c1 : (0 ≤ y ∧ y ≤ 3) ∧ (1 ≤ z ∧ z ≤ 9)
  rotate_left
  · exact PK2 ((if_pos c0).trans (if_neg c1))
  by_cases c2 : w 1 (zn x) = 0
  rotate_left
  · exact PK3 ((if_pos c0).trans ((if_pos c1).trans (if_neg c2)))
  have hyk : aIx y 4 = some (zn y) := aIx_le (m := 3) c1.1.1 c1.1.2 (by omega)
  have z0 : 0 ≤ z := Int32.le_trans (by decide) c1.2.1
  have h0 : 0 ≤ fMt y - 4 * z := by
    rw [fMt_eq hyk, zn_nn c1.1.1, zn_nn z0]
    have h1 : zn y ≤ 3 := zn_le (a := 3) c1.1.2 c1.1.1 (by omega)
    have h2 : zn z ≤ 9 := zn_le (a := 9) c1.2.2 z0 (by omega)
    exact melt_nn ⟨zn y, by omega⟩ ⟨zn z, by omega⟩
  refine PK0 ((if_pos c0).trans ((if_pos c1).trans (if_pos c2))) h0 (wOk.mk (n := n) (g := g) (o := o) ?_ ?_ ?_)
  · refine wOkA_cg (w := w) (fun a j h => (upw_ne (by omega)).trans (upw_ne (by omega))) (fun j hj => ?_) ok.A
    have q := ok.2.1 j hj
    have e : ∀ a, ¬ (a = 2 ∨ a = 3) → upw (upw w 2 (zn x) y) 3 (zn x) z a j = w a j := fun a ha => (upw_ne (by omega)).trans (upw_ne (by omega))
    unfold okW at q ⊢
    rw [e 6 (by omega), e 1 (by omega), e 5 (by omega), e 4 (by omega)]
    refine ⟨q.1, ?_, q.2.2⟩
    rw [upw_ne (by omega)]
    by_cases c : j = zn x
    · rw [c, upw_eq]
      exact Or.inr ⟨_, hyk⟩
    · rw [upw_ne (by omega)]
      exact q.2.1
  · exact okB_cg ⟨rfl, rfl⟩ (fun _ _ => rfl) (fun _ _ => Iff.rfl) (fun _ => rfl) (fun _ => rfl) ok.B
  · exact okT_cg (fun _ _ => rfl) rfl ok.T
end PU11
section PU12
variable {w v : aW} {n g o i j k b L : Nat} {x y z u s t : Int32}
theorem wAt_none (ok : okS w g) (hg : g ≤ 8) (hb : b < 4) (h : wAt w g (Int32.ofNat b) (Int32.ofNat L) = -1) : ∀ j, j < g → ¬ okP w j b L := fun j hj p => by
  have e := wAt_eq ok hj p.1 p.2 (b_ne hb)
  rw [h] at e
  exact ofN_m1 (i := j) (by omega) e.symm
theorem add3_o {a : Nat} (h : ¬ ((a = 8 ∨ a = 9) ∧ j = g) ∧ ¬ (a = 16 ∧ j = 4)) : wAdd3 w g a j = w a j := by
  unfold wAdd3
  rw [upw_ne (by omega), upw_ne (by omega), upw_ne (by omega)]
theorem add3_8 : wAdd3 w g 8 g = -1 := by
  unfold wAdd3
  rw [upw_ne (by omega), upw_ne (by omega), upw_eq]
theorem add3_9 : wAdd3 w g 9 g = -1 := by
  unfold wAdd3
  rw [upw_ne (by omega), upw_eq]
theorem okS_sag (ok : okS w g) : okS (wAdd3 w g) (g + 1) := by
  have k8 : ∀ j, ¬ j = g → wAdd3 w g 8 j = w 8 j := fun j h => add3_o (by omega)
  have k9 : ∀ j, ¬ j = g → wAdd3 w g 9 j = w 9 j := fun j h => add3_o (by omega)
  refine ⟨fun j hj => ?_, fun i j hi hj h8 e8 e9 => ?_⟩
  · by_cases e : j = g
    · subst e
      exact Or.inl ⟨add3_8, add3_9⟩
    · rcases ok.1 j (by omega) with ⟨q1, q2⟩ | ⟨b, L, hb, hL, p, und⟩
      · exact Or.inl ⟨(k8 j e).trans q1, (k9 j e).trans q2⟩
      · refine Or.inr ⟨b, L, hb, hL, ⟨(k8 j e).trans p.1, (k9 j e).trans p.2⟩, fun L' hL' => ?_⟩
        obtain ⟨i, hi, q⟩ := und L' hL'
        exact ⟨i, by omega, (k8 i (by omega)).trans q.1, (k9 i (by omega)).trans q.2⟩
  · by_cases ei : i = g
    · subst ei
      exact absurd add3_8 h8
    by_cases ej : j = g
    · subst ej
      exact absurd (e8.trans add3_8) h8
    rw [k8 i ei] at h8
    rw [k8 i ei, k8 j ej] at e8
    rw [k9 i ei, k9 j ej] at e9
    exact ok.2 i j (by omega) (by omega) h8 e8 e9
theorem okW_g (h : okW w g j) : okW w (g + 1) j := by
  obtain ⟨k1, k2, k3⟩ := h
  refine ⟨k1, k2, ?_⟩
  rcases k3 with q | ⟨q1, q2, k, hk, q3⟩ | ⟨q1, q2, k, hk, q3⟩ | q | q | q
  · exact Or.inl q
  · exact Or.inr (Or.inl ⟨q1, q2, k, by omega, q3⟩)
  · exact Or.inr (Or.inr (Or.inl ⟨q1, q2, k, by omega, q3⟩))
  · exact Or.inr (Or.inr (Or.inr (Or.inl q)))
  · exact Or.inr (Or.inr (Or.inr (Or.inr (Or.inl q))))
  · exact Or.inr (Or.inr (Or.inr (Or.inr (Or.inr q))))
theorem wOk_st (ok : wOk w n g o) (h : okS (wSt w i x y) g) : wOk (wSt w i x y) n g o :=
  wOk.mk (wOkA_st ok.A h) (okB_cg ⟨rfl, rfl⟩ (fun _ _ => rfl) (fun _ _ => Iff.rfl) (fun _ => rfl) (fun _ => rfl) ok.B) (okT_cg (fun _ _ => rfl) rfl ok.T)
theorem pk_put (ok : wOk w n g o) : PK (fPut w n g x y) := by
  by_cases c0 : (0 ≤ x ∧ x < w 16 3) ∧ (0 ≤ y ∧ y < w 16 4)
  rotate_left
  · exact PK1 (if_neg c0)
  by_cases c1 : w 1 (zn x) = 0
  rotate_left
  · exact PK3 ((if_pos c0).trans (if_pos c1))
  have c1n : ¬ ¬ w 1 (zn x) = 0 := fun h => h c1
  by_cases c2 : fSz (w 6 (zn x)) ≤ 6 - wHeld w n y
  rotate_left
  · exact PK3 ((if_pos c0).trans ((if_neg c1n).trans (if_pos c2)))
  have c2n : ¬ ¬ fSz (w 6 (zn x)) ≤ 6 - wHeld w n y := fun h => h c2
  by_cases c3 : wOver w n g (w 8 (zn y)) (w 9 (zn y)) (fSz (w 6 (zn x))) = -1
  rotate_left
  · exact PK3 ((if_pos c0).trans ((if_neg c1n).trans ((if_neg c2n).trans (if_pos c3))))
  have c3n : ¬ ¬ wOver w n g (w 8 (zn y)) (w 9 (zn y)) (fSz (w 6 (zn x))) = -1 := fun h => h c3
  have hx := aIx_lt c0.1 ok.1.1 ok.1.2.1 (by omega)
  have hy := aIx_lt c0.2 ok.1.2.2.1 ok.1.2.2.2.1 (by omega)
  refine PK0 ((if_pos c0).trans ((if_neg c1n).trans ((if_neg c2n).trans (if_neg c3n)))) (fa_put ok.A hx.2.1 c2) (wOk.mk (n := n) (g := g) (o := o) ?_ ?_ ?_)
  · refine wOkA_cg (w := w) (fun a j h => (upw_ne (by omega)).trans (upw_ne (by omega))) (fun j hj => ?_) ok.A
    have q := ok.2.1 j hj
    unfold okW at q ⊢
    by_cases c : j = zn x
    · subst c
      have e1 : upw (upw w 1 (zn x) 1) 4 (zn x) y 1 (zn x) = 1 := (upw_ne (by omega)).trans upw_eq
      rw [e1, upw_eq, show upw (upw w 1 (zn x) 1) 4 (zn x) y 6 (zn x) = w 6 (zn x) from rfl, show upw (upw w 1 (zn x) 1) 4 (zn x) y 2 (zn x) = w 2 (zn x) from rfl, show upw (upw w 1 (zn x) 1) 4 (zn x) y 5 (zn x) = w 5 (zn x) from rfl]
      refine ⟨q.1, q.2.1, Or.inr (Or.inl ⟨rfl, ?_, zn y, hy.2.1, hy.2.2⟩)⟩
      rcases q.2.2 with ⟨-, q5, -⟩ | ⟨q, -⟩ | ⟨q, -⟩ | ⟨q, -⟩ | ⟨q, -⟩ | ⟨q, -⟩
      · exact q5
      · rw [q] at c1; exact absurd c1 (by decide)
      · rw [q] at c1; exact absurd c1 (by decide)
      · rw [q] at c1; exact absurd c1 (by decide)
      · rw [q] at c1; exact absurd c1 (by decide)
      · rw [q] at c1; exact absurd c1 (by decide)
    · have e : ∀ a, upw (upw w 1 (zn x) 1) 4 (zn x) y a j = w a j := fun a => (upw_ne (by omega)).trans (upw_ne (by omega))
      rw [e, e, e, e, e]
      exact q
  · refine okB_cg (w := w) ⟨rfl, rfl⟩ (fun _ _ => rfl) (fun j hj => ?_) (fun _ => rfl) (fun _ => rfl) ok.B
    by_cases c : j = zn x
    · subst c
      have e1 : upw (upw w 1 (zn x) 1) 4 (zn x) y 1 (zn x) = 1 := (upw_ne (by omega)).trans upw_eq
      rw [e1, c1]
      exact ⟨fun q => absurd q (by decide), fun q => absurd q (by decide)⟩
    · rw [show upw (upw w 1 (zn x) 1) 4 (zn x) y 1 j = w 1 j from (upw_ne (by omega)).trans (upw_ne (by omega))]
  · exact okT_cg (fun _ _ => rfl) rfl ok.T
theorem pk_fire (ok : wOk w n g o) : PK (fFire w n x) := by
  by_cases c0 : 1000 ≤ x ∧ x ≤ 1400
  rotate_left
  · exact PK2 (if_neg c0)
  by_cases c1 : wAny w n = 0
  · exact PK3 ((if_pos c0).trans (if_pos c1))
  obtain ⟨f, hf, ef⟩ := wFirsts_nn w n x
  have hn := ok.1.2.1
  refine PK0 ((if_pos c0).trans (if_neg c1)) (by rw [ef]; exact Int32.not_lt.mp (ofN_lt0 (by omega))) (wOk.mk (n := n) (g := g) (o := o) (wOkA_up (wOkA_fire ok.A) (Or.inr ⟨rfl, by omega⟩)) ?_ ?_)
  · have e : ∀ a, ¬ (a = 1 ∨ a = 5 ∨ a = 16) → ∀ j, upw (wFireK w x n) 16 2 (w 16 2 + 1) a j = w a j := fun a h j => (upw_ne (by omega)).trans (wFireK_out (Or.inr (by omega)))
    refine okB_cg (w := w) ⟨(upw_ne (by omega)).trans (wFireK_out (Or.inr (by omega))), (upw_ne (by omega)).trans (wFireK_out (Or.inr (by omega)))⟩ (fun j _ => e 6 (by omega) j) (fun j hj => ?_) (e 12 (by omega)) (e 13 (by omega)) ok.B
    rw [show upw (wFireK w x n) 16 2 (w 16 2 + 1) 1 j = wFireK w x n 1 j from upw_ne (by omega)]
    by_cases c : j < n ∧ wFires w j = true
    · have e1 : wFireK w x n 1 j = 2 := by unfold wFireK; rw [if_pos ⟨Or.inl rfl, c.1, c.2⟩, if_pos rfl]
      rw [e1, (of_decide_eq_true c.2).1]
      exact ⟨fun q => absurd q (by decide), fun q => absurd q (by decide)⟩
    · have e1 : wFireK w x n 1 j = w 1 j := by unfold wFireK; rw [if_neg (fun q => c ⟨q.2.1, q.2.2⟩)]
      rw [e1]
  · exact okT_cg (fun i _ => (upw_ne (by omega)).trans (wFireK_out (Or.inr (by omega)))) ((upw_ne (by omega)).trans (wFireK_out (Or.inr (by omega)))) ok.T
theorem pk_empty (ok : wOk w n g o) : PK (fEmpty w n x) := by
  by_cases c0 : 0 ≤ x ∧ x < w 16 4
  rotate_left
  · exact PK1 (if_neg c0)
  by_cases c1 : wIn w n x = 0
  · exact PK3 ((if_pos c0).trans (if_pos c1))
  obtain ⟨f, hf, ef⟩ := aSm_nn (g := fun j => if w 4 j = x ∧ wTo w j = 3 then 1 else 0) (fun j => by by_cases c : w 4 j = x ∧ wTo w j = 3 <;> simp [c]) n 0
  have hn := ok.1.2.1
  have hx : ¬ x = -1 := fun q => by rw [q] at c0; exact absurd c0.1 (by decide)
  refine PK0 ((if_pos c0).trans (if_neg c1)) (by show 0 ≤ wStored w n x; unfold wStored; rw [ef]; exact Int32.not_lt.mp (ofN_lt0 (by omega))) (wOk.mk (n := n) (g := g) (o := o) (wOkA_out ok.A hx) ?_ ?_)
  · have e : ∀ a, ¬ (a = 1 ∨ a = 4) → ∀ j, wOutK w x n a j = w a j := fun a h j => wOutK_out (Or.inr h)
    refine okB_cg (w := w) ⟨e 16 (by omega) 1, e 16 (by omega) 0⟩ (fun j _ => e 6 (by omega) j) (fun j hj => ?_) (e 12 (by omega)) (e 13 (by omega)) ok.B
    by_cases c : j < n ∧ w 4 j = x
    · have e1 : wOutK w x n 1 j = wTo w j := by unfold wOutK; rw [if_pos ⟨Or.inl rfl, c.1, c.2⟩, if_pos rfl]
      rw [e1]
      refine ⟨fun q => absurd q ?_, fun q => ?_⟩
      · unfold wTo
        split
        · split <;> decide
        · decide
      · rcases (ok.2.1 j hj).2.2 with ⟨k, -⟩ | ⟨k, -⟩ | ⟨k, -⟩ | ⟨k, -⟩ | ⟨-, -, k⟩ | ⟨k, -⟩
        · rw [k] at q; exact absurd q (by decide)
        · rw [k] at q; exact absurd q (by decide)
        · rw [k] at q; exact absurd q (by decide)
        · rw [k] at q; exact absurd q (by decide)
        · exact absurd (c.2.symm.trans k) hx
        · rw [k] at q; exact absurd q (by decide)
    · have e1 : wOutK w x n 1 j = w 1 j := by unfold wOutK; rw [if_neg (fun q => c ⟨q.2.1, q.2.2⟩)]
      rw [e1]
  · exact okT_cg (fun i _ => wOutK_out (Or.inr (by omega))) (wOutK_out (Or.inr (by omega))) ok.T
end PU12
section PU13
variable {w v V W : aW} {n g o i j k q m : Nat} {x y z u s t : Int32}
theorem ord_at {f : Nat} (hf : f < 4) : wOrd w o x y z u t s 13 (o * 4 + f) = (match f with | 0 => x | 1 => y | 2 => z | _ => u) := by
  unfold wOrd
  match f, hf with
  | 0, _ =>
    rw [upw_ne (by omega), upw_ne (by omega), upw_ne (by omega)]
    exact upw_eq
  | 1, _ =>
    rw [upw_ne (by omega), upw_ne (by omega)]
    exact upw_eq
  | 2, _ =>
    rw [upw_ne (by omega)]
    exact upw_eq
  | 3, _ => exact upw_eq
theorem ord_10 : wOrd w o x y z u t s 10 o = t := by
  unfold wOrd wAdd1
  rw [upw_ne (by omega), upw_ne (by omega), upw_ne (by omega), upw_ne (by omega), upw_ne (by omega), upw_ne (by omega), upw_ne (by omega), upw_eq]
theorem ord_11 : wOrd w o x y z u t s 11 o = s := by
  unfold wOrd wAdd1
  rw [upw_ne (by omega), upw_ne (by omega), upw_ne (by omega), upw_ne (by omega), upw_ne (by omega), upw_ne (by omega), upw_eq]
theorem ord_12 : wOrd w o x y z u t s 12 o = 0 := by
  unfold wOrd wAdd1
  rw [upw_ne (by omega), upw_ne (by omega), upw_ne (by omega), upw_ne (by omega), upw_ne (by omega), upw_eq]
theorem ord_pos (h0 : 0 ≤ x ∧ x ≤ 6) (h1 : 0 ≤ y ∧ y ≤ 6) (h2 : 0 ≤ z ∧ z ≤ 6) (h3 : 0 ≤ u ∧ u ≤ 6) (h : ¬ x + y + z + u = 0) : 0 < x ∨ 0 < y ∨ 0 < z ∨ 0 < u := by
  by_cases c0 : 0 < x
  · exact Or.inl c0
  by_cases c1 : 0 < y
  · exact Or.inr (Or.inl c1)
  by_cases c2 : 0 < z
  · exact Or.inr (Or.inr (Or.inl c2))
  by_cases c3 : 0 < u
  · exact Or.inr (Or.inr (Or.inr c3))
  refine absurd ?_ h
  rw [Int32.le_antisymm (Int32.not_lt.mp c0) h0.1, Int32.le_antisymm (Int32.not_lt.mp c1) h1.1, Int32.le_antisymm (Int32.not_lt.mp c2) h2.1, Int32.le_antisymm (Int32.not_lt.mp c3) h3.1]
  rfl
def nMay (w : aW) (n o k : Nat) : Nat := nSm (fun j => if wSellB w o k j = true then 1 else 0) n 0
def nSo (w : aW) (k : Nat) (j : Nat) : Nat := if w 1 j = 4 ∧ w 6 j = Int32.ofNat k then 1 else 0
theorem sB_cg (h : ∀ a, ¬ a = 1 → ∀ j, V a j = W a j) (h1 : V 1 j = W 1 j) : wSellB V o k j = wSellB W o k j := by
  unfold wSellB
  rw [h1, h 6 (by omega), h 2 (by omega), h 10 (by omega), h 5 (by omega), h 11 (by omega)]
theorem sB_no (h1 : ¬ V 1 j = 3) : wSellB V o k j = false := decide_eq_false (fun q => h1 q.1.1)
theorem so_cg (h : ∀ a, ¬ a = 1 → ∀ j, V a j = W a j) (h1 : V 1 j = W 1 j) : nSo V k j = nSo W k j := by
  unfold nSo
  rw [h1, h 6 (by omega)]
theorem sellI (o k : Nat) : ∀ (m i q : Nat) (W : aW), q ≤ nSm (fun j => if wSellB W o k j = true then 1 else 0) m i → q < 1000 →
    (∀ j, wSellI o k m i (Int32.ofNat q) W 1 j = W 1 j ∨ (wSellI o k m i (Int32.ofNat q) W 1 j = 4 ∧ wSellB W o k j = true ∧ i ≤ j)) ∧
    nSm (fun j => if wSellB (wSellI o k m i (Int32.ofNat q) W) o k j = true then 1 else 0) m i + q = nSm (fun j => if wSellB W o k j = true then 1 else 0) m i ∧
    nSm (nSo (wSellI o k m i (Int32.ofNat q) W) k) m i = nSm (nSo W k) m i + q
  | 0, i, q, W, h, hq => by
    have : q = 0 := Nat.le_zero.mp h
    subst this
    exact ⟨fun j => Or.inl rfl, rfl, rfl⟩
  | m + 1, i, 0, W, h, hq => by
    have e : wSellI o k (m + 1) i (Int32.ofNat 0) W = W := if_neg (by decide)
    rw [e]
    exact ⟨fun j => Or.inl rfl, rfl, rfl⟩
  | m + 1, i, q + 1, W, h, hq => by
    have hl : (0 : Int32) < Int32.ofNat (q + 1) := (zI_lt (i := 0) (n := q + 1) rfl rfl (by omega) (by omega)).mpr (by omega)
    by_cases c : wSellB W o k i = true
    · have e : wSellI o k (m + 1) i (Int32.ofNat (q + 1)) W = wSellI o k m (i + 1) (Int32.ofNat q) (upw W 1 i 4) := by
        refine (if_pos hl).trans ((if_pos c).trans ?_)
        rw [sub1]
      have hW : ∀ a, ¬ a = 1 → ∀ j, upw W 1 i 4 a j = W a j := fun a ha j => upw_ne (fun k => ha k.1)
      have eB : ∀ j, ¬ j = i → wSellB (upw W 1 i 4) o k j = wSellB W o k j := fun j hj => sB_cg hW (upw_ne (fun k => hj k.2))
      have eS : nSm (fun j => if wSellB (upw W 1 i 4) o k j = true then 1 else 0) m (i + 1) = nSm (fun j => if wSellB W o k j = true then 1 else 0) m (i + 1) := nSm_congr m (i + 1) fun j h1 _ => by rw [eB j (by omega)]
      have eO : nSm (nSo (upw W 1 i 4) k) m (i + 1) = nSm (nSo W k) m (i + 1) := nSm_congr m (i + 1) fun j h1 _ => so_cg hW (upw_ne (by omega))
      have h' : (if wSellB W o k i = true then 1 else 0) + nSm (fun j => if wSellB W o k j = true then 1 else 0) m (i + 1) ≥ q + 1 := h
      rw [if_pos c] at h'
      obtain ⟨g1, g2, g3⟩ := sellI o k m (i + 1) q (upw W 1 i 4) (by rw [eS]; omega) (by omega)
      rw [e]
      generalize hV : wSellI o k m (i + 1) (Int32.ofNat q) (upw W 1 i 4) = V at *
      have hVo : ∀ a, ¬ a = 1 → ∀ j, V a j = W a j := fun a ha j => by rw [← hV]; exact (wSellI_o a j ha k m (i + 1) _ _).trans (hW a ha j)
      have e4 : V 1 i = 4 := by
        rcases g1 i with q1 | q1
        · exact q1.trans upw_eq
        · omega
      have c3 : W 1 i = 3 := (of_decide_eq_true c).1.1
      have c6 : W 6 i = Int32.ofNat k := (of_decide_eq_true c).1.2.1
      refine ⟨fun j => ?_, ?_, ?_⟩
      · by_cases ej : j = i
        · subst ej
          exact Or.inr ⟨e4, c, Nat.le_refl _⟩
        · rcases g1 j with q1 | ⟨q1, q2, q3⟩
          · exact Or.inl (q1.trans (upw_ne (fun k => ej k.2)))
          · exact Or.inr ⟨q1, (eB j ej).symm.trans q2, by omega⟩
      · show (if wSellB V o k i = true then 1 else 0) + nSm (fun j => if wSellB V o k j = true then 1 else 0) m (i + 1) + (q + 1) = (if wSellB W o k i = true then 1 else 0) + nSm (fun j => if wSellB W o k j = true then 1 else 0) m (i + 1)
        rw [if_pos c, sB_no (V := V) (by rw [e4]; decide), if_neg (by decide), ← eS]
        omega
      · show nSo V k i + nSm (nSo V k) m (i + 1) = nSo W k i + nSm (nSo W k) m (i + 1) + (q + 1)
        have s1 : nSo V k i = 1 := if_pos ⟨e4, (hVo 6 (by omega) i).trans c6⟩
        have s0 : nSo W k i = 0 := if_neg (fun r => absurd (c3.symm.trans r.1) (by decide))
        rw [s1, s0, g3, eO]
        omega
    · have e : wSellI o k (m + 1) i (Int32.ofNat (q + 1)) W = wSellI o k m (i + 1) (Int32.ofNat (q + 1)) W := (if_pos hl).trans (if_neg c)
      have h' : (if wSellB W o k i = true then 1 else 0) + nSm (fun j => if wSellB W o k j = true then 1 else 0) m (i + 1) ≥ q + 1 := h
      rw [if_neg c] at h'
      obtain ⟨g1, g2, g3⟩ := sellI o k m (i + 1) (q + 1) W (by omega) hq
      rw [e]
      generalize hV : wSellI o k m (i + 1) (Int32.ofNat (q + 1)) W = V at *
      have hVo : ∀ a, ¬ a = 1 → ∀ j, V a j = W a j := fun a ha j => by rw [← hV]; exact wSellI_o a j ha k m (i + 1) _ _
      have e1 : V 1 i = W 1 i := by
        rcases g1 i with q1 | q1
        · exact q1
        · omega
      refine ⟨fun j => ?_, ?_, ?_⟩
      · rcases g1 j with q1 | ⟨q1, q2, q3⟩
        · exact Or.inl q1
        · exact Or.inr ⟨q1, q2, by omega⟩
      · show (if wSellB V o k i = true then 1 else 0) + nSm (fun j => if wSellB V o k j = true then 1 else 0) m (i + 1) + (q + 1) = (if wSellB W o k i = true then 1 else 0) + nSm (fun j => if wSellB W o k j = true then 1 else 0) m (i + 1)
        rw [sB_cg hVo e1, if_neg c]
        omega
      · show nSo V k i + nSm (nSo V k) m (i + 1) = nSo W k i + nSm (nSo W k) m (i + 1) + (q + 1)
        rw [so_cg hVo e1, g3]
        omega
/-- so many of each kind -/
def nAsk (w : aW) (o k : Nat) : Nat := zn (w 13 (o * 4 + k))
theorem sellK (hA : ∀ k, k < 4 → 0 ≤ w 13 (o * 4 + k) ∧ nAsk w o k ≤ 6 ∧ nAsk w o k ≤ nMay w n o k) : ∀ K, K ≤ 4 → ∀ k, k < 4 → nMay (wSellK n o K w) n o k + (if k < K then nAsk w o k else 0) = nMay w n o k ∧ nSold (wSellK n o K w) n k = nSold w n k + (if k < K then nAsk w o k else 0)
  | 0, _, k, _ => by
    rw [if_neg (by omega)]
    exact ⟨rfl, rfl⟩
  | K + 1, hK, k, hk => by
    have ih := sellK hA K (by omega)
    have eA : wSellK n o K w 13 (o * 4 + K) = Int32.ofNat (nAsk w o K) := (wSellK_o 13 _ (by omega) K w).trans (zn_nn (hA K (by omega)).1)
    have e : wSellK n o (K + 1) w = wSellI o K n 0 (Int32.ofNat (nAsk w o K)) (wSellK n o K w) := by
      rw [← eA]
      rfl
    have hle : nAsk w o K ≤ nMay (wSellK n o K w) n o K := by
      have h1 := (ih K (by omega)).1
      rw [if_neg (Nat.lt_irrefl K)] at h1
      have := (hA K (by omega)).2.2
      omega
    obtain ⟨g1, g2, g3⟩ := sellI o K n 0 (nAsk w o K) (wSellK n o K w) hle (by have := (hA K (by omega)).2.1; omega)
    rw [← e] at g1 g2 g3
    have hVo : ∀ a, ¬ a = 1 → ∀ j, wSellK n o (K + 1) w a j = wSellK n o K w a j := fun a ha j => by rw [e]; exact wSellI_o a j ha K n 0 _ _
    obtain ⟨i1, i2⟩ := ih k hk
    by_cases c : k = K
    · subst c
      rw [if_neg (Nat.lt_irrefl k)] at i1 i2
      rw [if_pos (Nat.lt_succ_self k)]
      refine ⟨g2.trans i1, ?_⟩
      have i2' : nSm (nSo (wSellK n o k w) k) n 0 = nSm (nSo w k) n 0 + 0 := i2
      show nSm (nSo (wSellK n o (k + 1) w) k) n 0 = nSm (nSo w k) n 0 + nAsk w o k
      rw [g3, i2']
      omega
    · have e1 : nMay (wSellK n o (K + 1) w) n o k = nMay (wSellK n o K w) n o k := nSm_congr n 0 fun j _ _ => by
        rcases g1 j with q | ⟨q1, q2, -⟩
        · rw [sB_cg hVo q]
        · rw [sB_no (V := wSellK n o (K + 1) w) (by rw [q1]; decide)]
          have h6 : wSellK n o K w 6 j = Int32.ofNat K := (of_decide_eq_true q2).1.2.1
          have hf : wSellB (wSellK n o K w) o k j = false := decide_eq_false (fun r => c (ofN_ne (by omega) (by omega) (r.1.2.1.symm.trans h6)))
          rw [hf]
      have e2 : nSold (wSellK n o (K + 1) w) n k = nSold (wSellK n o K w) n k := nSm_congr n 0 fun j _ _ => by
        rcases g1 j with q | ⟨q1, q2, -⟩
        · exact so_cg hVo q
        · have h6 : wSellK n o K w 6 j = Int32.ofNat K := (of_decide_eq_true q2).1.2.1
          have h3 : wSellK n o K w 1 j = 3 := (of_decide_eq_true q2).1.1
          rw [if_neg (fun r => c (ofN_ne (i := k) (j := K) (by omega) (by omega) (r.2.symm.trans ((hVo 6 (by omega) j).trans h6)))), if_neg (fun r => absurd (h3.symm.trans r.1) (by decide))]
      rw [e1, e2]
      by_cases c2 : k < K
      · rw [if_pos (by omega : k < K + 1)]
        rw [if_pos c2] at i1 i2
        exact ⟨i1, i2⟩
      · rw [if_neg (by omega : ¬ k < K + 1)]
        rw [if_neg c2] at i1 i2
        exact ⟨i1, i2⟩
theorem wFor_n (ok : wOkA w n g o) : wFor w n i (Int32.ofNat k) = Int32.ofNat (nMay w n i k) := by
  rw [wFor_eq ok]
  exact aSm_nat n 0 fun j _ _ => by split <;> rfl
theorem nMay_le : nMay w n i k ≤ n := by
  have := nSm_le (g := fun j => if wSellB w i k j = true then 1 else 0) (c := 1) (fun j => by split <;> omega) n 0
  unfold nMay
  omega
theorem ask_n (ok : wOkA w n g o) (hi : i < o) (hk : k < 4) : w 13 (i * 4 + k) = Int32.ofNat (nAsk w i k) ∧ nAsk w i k ≤ 6 := by
  obtain ⟨h0, h6⟩ := (ok.2.2.2 i hi).2.2.1 k hk
  exact ⟨zn_nn h0, zn_le (a := 6) h6 h0 (by omega)⟩
/-- is a set there -/
theorem lack_no (ok : wOkA w n g o) (hi : i < o) : wLack w n i = -1 ↔ ∀ k, k < 4 → nAsk w i k ≤ nMay w n i k := by
  have hn := ok.1.2.1
  have key : ∀ k, k < 4 → (wFor w n i (Int32.ofNat k) < w 13 (i * 4 + k) ↔ ¬ nAsk w i k ≤ nMay w n i k) := fun k hk => by
    have e := ask_n ok hi hk
    have hm := nMay_le (w := w) (n := n) (i := i) (k := k)
    rw [wFor_n ok, zI_lt rfl e.1 (by omega) (by omega)]
    omega
  rcases aFd_cases (fun k => decide (wFor w n i (Int32.ofNat k) < w 13 (i * 4 + k))) (fun k => Int32.ofNat k) (-1) 4 0 with ⟨e, h⟩ | ⟨j, h1, h2, h3, e, h4⟩
  · refine ⟨fun _ k hk => ?_, fun _ => e⟩
    have := of_decide_eq_false (h k (by omega) (by omega))
    exact Decidable.not_not.mp (fun q => this ((key k hk).mpr q))
  · refine ⟨fun q => ?_, fun q => ?_⟩
    · exact absurd (e.symm.trans q) (ofN_m1 (by omega))
    · exact absurd (q j (by omega)) ((key j (by omega)).mp (of_decide_eq_true h3))
theorem okA_sellI : ∀ (m i : Nat) (l : Int32) (W : aW), i + m ≤ n → wOkA W n g o → wOkA (wSellI j k m i l W) n g o
  | 0, _, _, _, _, ok => ok
  | m + 1, i, l, W, h, ok => by
    unfold wSellI
    by_cases c : 0 < l
    · rw [if_pos c]
      by_cases c1 : wSellB W j k i = true
      · rw [if_pos c1]
        exact okA_sellI m (i + 1) _ _ (by omega) (okW_sell ok (by omega) c1)
      · rw [if_neg c1]
        exact okA_sellI m (i + 1) _ _ (by omega) ok
    · rw [if_neg c]
      exact ok
theorem okA_sellK : ∀ (K : Nat), wOkA w n g o → wOkA (wSellK n i K w) n g o
  | 0, ok => ok
  | K + 1, ok => okA_sellI n 0 _ _ (by omega) (okA_sellK K ok)
theorem okA_take (ok : wOkA w n g o) : wOkA (wTake n i w) n g o := wOkA_take (okA_sellK 4 ok)
theorem take_o {a : Nat} (h1 : ¬ a = 1) (h2 : ¬ (a = 12 ∧ j = i)) : wTake n i w a j = w a j := by
  unfold wTake
  rw [upw_ne (by omega), wSellK_o a j h1]
theorem take_may (ok : wOkA w n g o) (hi : i < o) (h : wLack w n i = -1) (hk : k < 4) : nMay (wTake n i w) n i k + nAsk w i k = nMay w n i k ∧ nSold (wTake n i w) n k = nSold w n k + nAsk w i k := by
  have hA := (lack_no ok hi).mp h
  obtain ⟨h1, h2⟩ := sellK (w := w) (n := n) (o := i) (fun k hk => ⟨((ok.2.2.2 i hi).2.2.1 k hk).1, (ask_n ok hi hk).2, hA k hk⟩) 4 (by omega) k hk
  rw [if_pos hk] at h1 h2
  have e1 : nMay (wTake n i w) n i k = nMay (wSellK n i 4 w) n i k := nSm_congr n 0 fun j _ _ => by
    have : wSellB (wTake n i w) i k j = wSellB (wSellK n i 4 w) i k j := rfl
    rw [this]
  have e2 : nSold (wTake n i w) n k = nSold (wSellK n i 4 w) n k := nSm_congr n 0 fun j _ _ => rfl
  rw [e1, e2]
  exact ⟨h1, h2⟩
theorem take_ask : nAsk (wTake n i w) j k = nAsk w j k := by
  unfold nAsk
  rw [take_o (by omega) (by omega)]
theorem ok_take (ok : wOk w n g o) (hi : i < o) (h : wLack w n i = -1) : wOk (wTake n i w) n g o := by
  have hn := ok.1.2.1
  have e12 : w 12 i = Int32.ofNat (zn (w 12 i)) := zn_nn (ok.B.2.1 i hi)
  have hs := sold_le ok hi
  refine wOk.mk (okA_take ok.A) ⟨?_, fun j hj => ?_, fun k hk => ?_⟩ (okT_cg (fun _ _ => take_o (by omega) (by omega)) (take_o (by omega) (by omega)) ok.T)
  · rw [take_o (by omega) (by omega), take_o (by omega) (by omega), aSm_congr (f := fun j => fSz (wTake n i w 6 j)) (g := fun j => fSz (w 6 j)) n 0 fun j _ hj => by rw [take_o (by omega) (by omega)]]
    exact ok.B.1
  · by_cases c : j = i
    · subst c
      exact fa_sell ok hi
    · rw [take_o (by omega) (by omega)]
      exact ok.B.2.1 j hj
  · rw [(take_may ok.A hi h hk).2, ok.B.2.2 k hk]
    have e1 : wTake n i w 12 i = Int32.ofNat (zn (w 12 i) + 1) := wTake_12.trans (zI_s e12)
    have e2 : zn (wTake n i w 12 i) = zn (w 12 i) + 1 := zn_of e1 (by omega)
    have q := nSm_upd (g := fun j => zn (w 12 j) * zn (w 13 (j * 4 + k))) (g1 := fun j => zn (wTake n i w 12 j) * zn (wTake n i w 13 (j * 4 + k))) o 0 i (by omega) (by omega) (fun a ha => by rw [take_o (a := 12) (by omega) (by omega), take_o (a := 13) (by omega) (by omega)])
    rw [e2, take_o (a := 13) (by omega) (by omega), Nat.succ_mul] at q
    unfold nSoldOf nAsk
    omega
theorem pk_sell (ok : wOk w n g o) : PK (fSell w n x) := by
  by_cases c0 : 0 ≤ x ∧ x < w 16 5
  rotate_left
  · exact PK1 (if_neg c0)
  have hx := aIx_lt c0 ok.1.2.2.2.2.1 ok.1.2.2.2.2.2 (by omega)
  by_cases c1 : wLack w n (zn x) = -1
  rotate_left
  · have e : fSell w n x = (-3, wAhead1 (wNote w 12 (wLack w n (zn x))) 10 x) := (if_pos c0).trans (if_pos c1)
    rw [e]
    exact Or.inr (Or.inl ⟨rfl, Or.inr rfl⟩)
  exact PK0 ((if_pos c0).trans (if_neg (fun h => h c1))) (fa_sell ok hx.2.1) (ok_take ok hx.2.1 c1)
/-- a step done -/
theorem pk_do (L : Nat) (t : Nat → Int32) (p : Nat) (ok : okk w) : PK (cDo t L w p) := by
  unfold cDo
  by_cases c0 : t p = 116
  · rw [if_pos c0]
    exact pk_cast ok
  by_cases c1 : t p = 103
  · rw [if_neg c0, if_pos c1]
    exact pk_coat ok
  by_cases c2 : t p = 112
  · rw [if_neg c0, if_neg c1, if_pos c2]
    exact pk_put ok
  by_cases c3 : t p = 102
  · rw [if_neg c0, if_neg c1, if_neg c2, if_pos c3]
    exact pk_fire ok
  by_cases c4 : t p = 101
  · rw [if_neg c0, if_neg c1, if_neg c2, if_neg c3, if_pos c4]
    exact pk_empty ok
  · rw [if_neg c0, if_neg c1, if_neg c2, if_neg c3, if_neg c4]
    exact pk_sell ok
theorem cKeeps_ok : cKeeps := fun t L w p ok => by
  rcases pk_do L t p ok with (h | h) | ⟨h, r⟩ | ⟨h, n, g, o, k⟩
  · exact ⟨fun q => absurd q (by rw [h]; decide), fun q => absurd q (by rw [h]; decide)⟩
  · exact ⟨fun q => absurd q (by rw [h]; decide), fun q => absurd q (by rw [h]; decide)⟩
  · exact ⟨fun q => absurd q (by rw [h]; decide), fun _ => r⟩
  · exact ⟨fun _ => okk_of k, fun q => absurd h (by rw [q]; decide)⟩
theorem ok_dos (L : Nat) (t : Nat → Int32) : ∀ (ps : List Nat) (i : Nat) (w : aW), okk w → 0 ≤ (cDos t L ps i w).1 → okk (cDos t L ps i w).2
  | [], _, _, ok, _ => ok
  | p :: ps, i, w, ok, h => by
    by_cases c : (cDo t L w p).1 < 0
    · have e : cDos t L (p :: ps) i w = (-3, wFail (cDo t L w p) i) := if_pos c
      rw [e] at h
      exact absurd h (show ¬ (0 : Int32) ≤ -3 by decide)
    · have e : cDos t L (p :: ps) i w = cDos t L ps (i + 1) (cDo t L w p).2 := if_neg c
      rw [e] at h ⊢
      exact ok_dos L t ps (i + 1) _ ((cKeeps_ok t L w p ok).1 (Int32.not_lt.mp c)) h
/-- a text's reasons -/
theorem pk_read (L : Nat) (t : Nat → Int32) (ok : okk w) : (cRead t L w).1 = -3 ∨ (0 ≤ (cRead t L w).1 ∧ okk (cRead t L w).2) := by
  unfold cRead
  by_cases c : (cDos t L (pGo t L 20 0).1 0 w).1 < 0
  · rw [if_pos c]
    exact Or.inl rfl
  · rw [if_neg c]
    have := pGo_len t L 20 0
    exact Or.inr ⟨Int32.not_lt.mp (ofN_lt0 (by omega)), ok_dos L t _ 0 w ok (Int32.not_lt.mp c)⟩
/-- sets sold one after the other -/
theorem allS (hi : i < o) : ∀ (m : Nat) (w : aW), wOk w n g o → wOk (wAllS n i m w).2 n g o ∧ (wAllS n i m w).1 ≤ m ∧ (∀ k, k < 4 → nAsk (wAllS n i m w).2 i k = nAsk w i k ∧ nMay (wAllS n i m w).2 n i k + (wAllS n i m w).1 * nAsk w i k = nMay w n i k) ∧ ((wAllS n i m w).1 < m → ¬ wLack (wAllS n i m w).2 n i = -1)
  | 0, w, ok => ⟨ok, Nat.le_refl _, fun k _ => ⟨rfl, by show nMay w n i k + 0 * _ = _; omega⟩, fun h => absurd h (Nat.lt_irrefl 0)⟩
  | m + 1, w, ok => by
    by_cases c : wLack w n i = -1
    · have e : wAllS n i (m + 1) w = ((wAllS n i m (wTake n i w)).1 + 1, (wAllS n i m (wTake n i w)).2) := if_pos c
      obtain ⟨h1, h2, h3, h4⟩ := allS hi m (wTake n i w) (ok_take ok hi c)
      rw [e]
      refine ⟨h1, by omega, fun k hk => ?_, fun h => h4 (by omega)⟩
      obtain ⟨a1, a2⟩ := h3 k hk
      rw [take_ask] at a1 a2
      refine ⟨a1, ?_⟩
      have := (take_may ok.A hi c hk).1
      dsimp only
      rw [Nat.succ_mul]
      omega
    · have e : wAllS n i (m + 1) w = (0, w) := if_neg c
      rw [e]
      exact ⟨ok, Nat.zero_le _, fun k _ => ⟨rfl, by show nMay w n i k + 0 * _ = _; omega⟩, fun _ => c⟩
/-- an order asks for something -/
theorem ask_some (ok : wOkA w n g o) (hi : i < o) : ∃ k, k < 4 ∧ 1 ≤ nAsk w i k := by
  obtain ⟨k, hk, p⟩ := (ok.2.2.2 i hi).2.2.2
  exact ⟨k, hk, zn_pos p⟩
theorem allS_end (ok : wOk w n g o) (hi : i < o) : ¬ wLack (wAllS n i 60 w).2 n i = -1 := by
  obtain ⟨h1, h2, h3, h4⟩ := allS hi 60 w ok
  by_cases c : (wAllS n i 60 w).1 < 60
  · exact h4 c
  · intro h
    obtain ⟨k, hk, p⟩ := ask_some ok.A hi
    have q := (lack_no h1.A hi).mp h k hk
    obtain ⟨a1, a2⟩ := h3 k hk
    have hm := nMay_le (w := w) (n := n) (i := i) (k := k)
    have hn := ok.1.2.1
    have e : (wAllS n i 60 w).1 = 60 := by omega
    rw [e] at a2
    rw [a1] at q
    omega
def nDv (w : aW) (n i : Nat) : Nat → Nat
  | 0 => 60
  | k + 1 => if 0 < nAsk w i k then min (nMay w n i k / nAsk w i k) (nDv w n i k) else nDv w n i k
theorem div_dec : ∀ a : Fin 61, ∀ b : Fin 7, b.val = 0 ∨ Int32.ofNat a.val / Int32.ofNat b.val = Int32.ofNat (a.val / b.val) := by decide +kernel
theorem nDv_le : ∀ K, nDv w n i K ≤ 60
  | 0 => Nat.le_refl _
  | K + 1 => by
    have := nDv_le K
    unfold nDv
    split
    · exact Nat.le_trans (Nat.min_le_right _ _) this
    · exact this
theorem wDv_n (ok : wOkA w n g o) (hi : i < o) : ∀ K, K ≤ 4 → wDv w n i K = Int32.ofNat (nDv w n i K)
  | 0, _ => rfl
  | K + 1, h => by
    have ih := wDv_n ok hi K (by omega)
    have e := ask_n ok hi (show K < 4 by omega)
    have hm := nMay_le (w := w) (n := n) (i := i) (k := K)
    have hn := ok.1.2.1
    have hd := nDv_le (w := w) (n := n) (i := i) K
    unfold wDv nDv
    by_cases c : 0 < nAsk w i K
    · have c1 : 0 < w 13 (i * 4 + K) := by
        rw [e.1]
        exact (zI_lt (i := 0) (n := nAsk w i K) rfl rfl (by omega) (by omega)).mpr c
      have dv := (div_dec ⟨nMay w n i K, by omega⟩ ⟨nAsk w i K, by omega⟩).resolve_left (by dsimp only; omega)
      have hq : nMay w n i K / nAsk w i K ≤ 60 := Nat.le_trans (Nat.div_le_self _ _) (by omega)
      rw [if_pos c, if_pos c1, wFor_n ok, e.1, dv, ih]
      by_cases c2 : nMay w n i K / nAsk w i K < nDv w n i K
      · rw [if_pos ((zI_lt rfl rfl (by omega) (by omega)).mpr c2), Nat.min_eq_left (by omega)]
      · rw [if_neg (fun q => c2 ((zI_lt rfl rfl (by omega) (by omega)).mp q)), Nat.min_eq_right (by omega)]
    · have c1 : ¬ 0 < w 13 (i * 4 + K) := by
        rw [e.1]
        exact fun q => c ((zI_lt (i := 0) (n := nAsk w i K) rfl rfl (by omega) (by omega)).mp q)
      rw [if_neg c, if_neg c1, ih]
theorem nDv_iff (c : Nat) : ∀ K, c ≤ nDv w n i K ↔ (c ≤ 60 ∧ ∀ k, k < K → 0 < nAsk w i k → c * nAsk w i k ≤ nMay w n i k)
  | 0 => ⟨fun h => ⟨h, fun k hk => by omega⟩, fun h => h.1⟩
  | K + 1 => by
    have ih := nDv_iff c K
    unfold nDv
    by_cases p : 0 < nAsk w i K
    · rw [if_pos p, Nat.le_min, Nat.le_div_iff_mul_le p, ih]
      refine ⟨fun ⟨h1, h2, h3⟩ => ⟨h2, fun k hk q => ?_⟩, fun ⟨h1, h2⟩ => ⟨h2 K (by omega) p, h1, fun k hk q => h2 k (by omega) q⟩⟩
      by_cases e : k = K
      · rw [e]
        exact h1
      · exact h3 k (by omega) q
    · rw [if_neg p, ih]
      refine ⟨fun ⟨h2, h3⟩ => ⟨h2, fun k hk q => ?_⟩, fun ⟨h1, h2⟩ => ⟨h1, fun k hk q => h2 k (by omega) q⟩⟩
      by_cases e : k = K
      · rw [e] at q
        exact absurd q p
      · exact h3 k (by omega) q
/-- sets by two ways -/
theorem dv_all (ok : wOk w n g o) (hi : i < o) : wDv w n i 4 = Int32.ofNat (wAllS n i 60 w).1 := by
  obtain ⟨h1, h2, h3, h4⟩ := allS hi 60 w ok
  have he := allS_end ok hi
  rw [wDv_n ok.A hi 4 (Nat.le_refl _)]
  congr 1
  have le1 : (wAllS n i 60 w).1 ≤ nDv w n i 4 := (nDv_iff _ 4).mpr ⟨h2, fun k hk _ => by
    have := (h3 k hk).2
    omega⟩
  have le2 : ¬ (wAllS n i 60 w).1 + 1 ≤ nDv w n i 4 := fun q => by
    obtain ⟨-, q2⟩ := (nDv_iff _ 4).mp q
    refine he ((lack_no h1.A hi).mpr fun k hk => ?_)
    obtain ⟨a1, a2⟩ := h3 k hk
    rw [a1]
    by_cases p : 0 < nAsk w i k
    · have := q2 k hk p
      rw [Nat.succ_mul] at this
      omega
    · omega
  omega
end PU13
section PU14
theorem aSm_0 {f : Nat → Int32} : ∀ (m i : Nat), (∀ j, i ≤ j → j < i + m → f j = 0) → aSm f m i = 0
  | 0, _, _ => rfl
  | m + 1, i, h => by
    show f i + aSm f m (i + 1) = 0
    rw [h i (Nat.le_refl _) (by omega), aSm_0 m (i + 1) fun j h1 h2 => h j (by omega) (by omega)]
    rfl
theorem aSm_1 {f h : Nat → Int32} {c : Int32} : ∀ (m i k : Nat), i ≤ k → k < i + m → (∀ j, ¬ j = k → j < i + m → f j = h j) → f k = h k + c → aSm f m i = aSm h m i + c
  | 0, i, k, h1, h2, _, _ => by omega
  | m + 1, i, k, h1, h2, hne, he => by
    show f i + aSm f m (i + 1) = h i + aSm h m (i + 1) + c
    by_cases e : k = i
    · subst e
      rw [he, aSm_congr (f := f) (g := h) m (k + 1) fun j q1 q2 => hne j (by omega) (by omega)]
      rw [Int32.add_assoc, Int32.add_assoc, Int32.add_comm c]
    · rw [hne i (fun q => e q.symm) (by omega), aSm_1 m (i + 1) k (by omega) (by omega) (fun j q1 q2 => hne j q1 (by omega)) he, Int32.add_assoc]
end PU14
section PU15
variable {w v : aW} {n g o i j k q m b L : Nat} {x y z u s t : Int32}
/-- the weights of a bung above a level -/
def wAb (w : aW) (n g b L : Nat) : Int32 := aSm (fun j => if w 8 j = Int32.ofNat b ∧ ¬ w 9 j ≤ Int32.ofNat L then 3 + wHeld w n (Int32.ofNat j) else 0) g 0
theorem wRest_eq (hj : j < 8) (hb : b < 4) (p : okP w j b L) : wRest w n g (Int32.ofNat j) = wAb w n g b L := by
  have ej : zn (Int32.ofNat j) = j := zn_of rfl (by omega)
  have h : ¬ w 8 (zn (Int32.ofNat j)) = -1 := by rw [ej]; exact okP_k hb p
  unfold wRest wAb
  rw [if_neg h, ej, p.1, p.2]
  have e : aSm (fun j => if w 8 j = Int32.ofNat b then 3 + wHeld w n (Int32.ofNat j) else 0) g 0 = aSm (fun j => if w 8 j = Int32.ofNat b ∧ ¬ w 9 j ≤ Int32.ofNat L then 3 + wHeld w n (Int32.ofNat j) else 0) g 0 + aSm (fun j => if w 8 j = Int32.ofNat b ∧ w 9 j ≤ Int32.ofNat L then 3 + wHeld w n (Int32.ofNat j) else 0) g 0 := by
    rw [aSm_plus]
    refine aSm_congr g 0 fun l _ _ => ?_
    by_cases c : w 8 l = Int32.ofNat b
    · by_cases c1 : w 9 l ≤ Int32.ofNat L
      · rw [if_pos c, if_neg (fun q => q.2 c1), if_pos ⟨c, c1⟩, Int32.zero_add]
      · rw [if_pos c, if_pos ⟨c, c1⟩, if_neg (fun q => c1 q.2), Int32.add_zero]
    · rw [if_neg c, if_neg (fun q => c q.1), if_neg (fun q => c q.1)]
      rfl
  rw [e, Int32.add_sub_cancel]
/-- below every saggar all levels are taken -/
theorem okS_all (ok : okS w g) (hb : b < 4) : ∀ (d L j : Nat), j < g → L + d < 8 → okP w j b (L + d) → ∃ i, i < g ∧ okP w i b L
  | 0, L, j, hj, _, p => ⟨j, hj, p⟩
  | d + 1, L, j, hj, h, p => by
    obtain ⟨i, hi, q⟩ := okS_under ok hj hb (L := L + d) (by omega) p
    exact okS_all ok hb d L i hi (by omega) q
theorem ab_0 (ok : okS w g) (hb : b < 4) (h : ∀ j, j < g → ¬ okP w j b (L + 1)) (hL : L < 8) : wAb w n g b L = 0 := by
  refine aSm_0 g 0 fun j _ hj => if_neg fun ⟨q1, q2⟩ => ?_
  have hj : j < g := by omega
  obtain ⟨b1, L1, hb1, hL1, p⟩ := okS_in ok hj (by rw [q1]; exact b_ne hb)
  have eb : b1 = b := ofN_ne (by omega) (by omega) (p.1.symm.trans q1)
  subst eb
  have hlt : ¬ L1 ≤ L := fun k => q2 (by rw [p.2]; exact (zI_le rfl rfl (by omega) (by omega)).mpr k)
  obtain ⟨i, hi, q⟩ := okS_all ok hb (L1 - (L + 1)) (L + 1) j hj (by omega) (by rw [show L + 1 + (L1 - (L + 1)) = L1 by omega]; exact p)
  exact h i hi q
theorem ab_s (ok : okS w g) (hb : b < 4) (hi : i < g) (hL : L + 1 < 8) (p : okP w i b (L + 1)) : wAb w n g b L = wAb w n g b (L + 1) + (3 + wHeld w n (Int32.ofNat i)) := by
  refine aSm_1 g 0 i (by omega) (by omega) (fun j hne hj => ?_) ?_
  · have hj : j < g := by omega
    by_cases c : w 8 j = Int32.ofNat b
    rotate_left
    · rw [if_neg (fun q => c q.1), if_neg (fun q => c q.1)]
    obtain ⟨b1, L1, hb1, hL1, r⟩ := okS_in ok hj (by rw [c]; exact b_ne hb)
    have eb : b1 = b := ofN_ne (by omega) (by omega) (r.1.symm.trans c)
    subst eb
    have hn : ¬ L1 = L + 1 := fun e => hne (ok.2 j i hj hi (by rw [c]; exact b_ne hb) (c.trans p.1.symm) (by rw [r.2, p.2, e]))
    have e1 : w 9 j ≤ Int32.ofNat L ↔ L1 ≤ L := by rw [r.2]; exact zI_le rfl rfl (by omega) (by omega)
    have e2 : w 9 j ≤ Int32.ofNat (L + 1) ↔ L1 ≤ L + 1 := by rw [r.2]; exact zI_le rfl rfl (by omega) (by omega)
    by_cases c1 : L1 ≤ L
    · rw [if_neg (fun q => q.2 (e1.mpr c1)), if_neg (fun q => q.2 (e2.mpr (by omega)))]
    · rw [if_pos ⟨c, fun q => c1 (e1.mp q)⟩, if_pos ⟨c, fun q => c1 (by have := e2.mp q; omega)⟩]
  · have e1 : ¬ w 9 i ≤ Int32.ofNat L := by rw [p.2]; exact fun q => by have := (zI_le rfl rfl (by omega) (by omega)).mp q; omega
    have e2 : w 9 i ≤ Int32.ofNat (L + 1) := by rw [p.2]; exact Int32.le_refl _
    rw [if_pos ⟨p.1, e1⟩, if_neg (fun q => q.2 e2), Int32.zero_add]
theorem ld_ab (ok : okS w g) (hg : g ≤ 8) (hb : b < 4) : ∀ (q L j : Nat), j < g → L < 8 → 8 ≤ L + 1 + q → okP w j b L → wLd w n g q (wUp w g (Int32.ofNat j)) = wAb w n g b L
  | 0, L, j, hj, hL, h, p => by
    have hn : ∀ i, i < g → ¬ okP w i b (L + 1) := fun i hi q => by
      obtain ⟨b1, L1, hb1, hL1, r⟩ := okS_in ok hi (okP_k hb q)
      have := (okP_f r q ⟨by omega, by omega, by omega, by omega⟩).2
      omega
    rw [ab_0 ok hb hn hL]
    rfl
  | q + 1, L, j, hj, hL, h, p => by
    rcases wUp_ex ok hg hj with e | ⟨i, b1, L1, hi, hb1, hL1, hL2, p1, pi, e⟩
    · have hn : ∀ i, i < g → ¬ okP w i b (L + 1) := by
        have e1 : wUp w g (Int32.ofNat j) = wAt w g (Int32.ofNat b) (Int32.ofNat (L + 1)) := wUp_of (by omega) hb p
        exact wAt_none ok hg hb (e1.symm.trans e)
      rw [e, ab_0 ok hb hn hL]
      rfl
    · obtain ⟨eb, eL⟩ := okP_f p1 p ⟨by omega, by omega, by omega, by omega⟩
      rw [eb, eL] at pi
      rw [eL] at hL2
      have ne : ¬ Int32.ofNat i = -1 := ofN_m1 (by omega)
      rw [e]
      show (if Int32.ofNat i = -1 then 0 else (3 + wHeld w n (Int32.ofNat i)) + wLd w n g q (wUp w g (Int32.ofNat i))) = _
      rw [if_neg ne, ld_ab ok hg hb q (L + 1) i hi hL2 (by omega) pi, ab_s ok hb hi hL2 pi, Int32.add_comm]
/-- the load above, and the rest of the bung's weight -/
theorem load_eq (ok : okS w g) (hg : g ≤ 8) (hj : j < g) : wLoad w n g (Int32.ofNat j) = wRest w n g (Int32.ofNat j) := by
  by_cases c : w 8 j = -1
  · have e1 : wUp w g (Int32.ofNat j) = -1 := wUp_f (by omega) c
    unfold wLoad wRest
    rw [e1, zn_of (i := j) rfl (by omega), if_pos c]
    rfl
  · obtain ⟨b, L, hb, hL, p⟩ := okS_in ok hj c
    rw [wRest_eq (by omega) hb p]
    exact ld_ab ok hg hb 8 L j hj hL (by omega) p
theorem clay_eq (ok : wOk w n g o) : wClay w n = w 16 1 := ok.B.1.symm
theorem sets_4 (i : Nat) : aSm (fun k => w 13 (i * 4 + k) * w 12 i) 4 0 = w 12 i * w 13 (i * 4 + 0) + (w 12 i * w 13 (i * 4 + 1) + (w 12 i * w 13 (i * 4 + 2) + w 12 i * w 13 (i * 4 + 3))) := by
  show w 13 (i * 4 + 0) * w 12 i + (w 13 (i * 4 + 1) * w 12 i + (w 13 (i * 4 + 2) * w 12 i + (w 13 (i * 4 + 3) * w 12 i + 0))) = _
  rw [Int32.add_zero, Int32.mul_comm (w 13 (i * 4 + 0)), Int32.mul_comm (w 13 (i * 4 + 1)), Int32.mul_comm (w 13 (i * 4 + 2)), Int32.mul_comm (w 13 (i * 4 + 3))]
theorem sold_4 (ok : wOkA w n g o) (hj : j < n) : (if w 1 j = 4 then (1 : Int32) else 0) = (if w 1 j = 4 ∧ w 6 j = Int32.ofNat 0 then (1 : Int32) else 0) + ((if w 1 j = 4 ∧ w 6 j = Int32.ofNat 1 then (1 : Int32) else 0) + ((if w 1 j = 4 ∧ w 6 j = Int32.ofNat 2 then (1 : Int32) else 0) + (if w 1 j = 4 ∧ w 6 j = Int32.ofNat 3 then (1 : Int32) else 0))) := by
  by_cases c : w 1 j = 4
  rotate_left
  · rw [if_neg c, if_neg (fun q => c q.1), if_neg (fun q => c q.1), if_neg (fun q => c q.1), if_neg (fun q => c q.1)]
    rfl
  obtain ⟨k, hk⟩ := ok.kinds j hj
  have h4 : ∃ k, k < 4 ∧ w 6 j = Int32.ofNat k := by
    unfold aIx at hk
    split at hk
    · cases hk
    · rename_i c1
      have h0 : ¬ w 6 j < 0 := fun q => c1 (Or.inl q)
      have h4 : ¬ 4 ≤ (w 6 j).toNatClampNeg := fun q => c1 (Or.inr q)
      exact ⟨zn (w 6 j), by show (w 6 j).toNatClampNeg < 4; omega, zn_nn (Int32.not_lt.mp h0)⟩
  obtain ⟨k, hk4, e⟩ := h4
  have key : ∀ l, l < 4 → (w 1 j = 4 ∧ w 6 j = Int32.ofNat l ↔ k = l) := fun l hl => ⟨fun q => ofN_ne (by omega) (by omega) (e.symm.trans q.2), fun q => ⟨c, by rw [← q]; exact e⟩⟩
  rw [if_pos c]
  simp only [key 0 (by omega), key 1 (by omega), key 2 (by omega), key 3 (by omega)]
  match k, hk4 with
  | 0, _ => rfl
  | 1, _ => rfl
  | 2, _ => rfl
  | 3, _ => rfl
theorem sets_eq (ok : wOk w n g o) : wSets w o = aSm (fun j => if w 1 j = 4 then 1 else 0) n 0 := by
  have e1 : wSets w o = wSoldOf w o 0 + (wSoldOf w o 1 + (wSoldOf w o 2 + wSoldOf w o 3)) := by
    unfold wSoldOf
    rw [aSm_plus, aSm_plus, aSm_plus]
    exact aSm_congr o 0 fun i _ _ => sets_4 i
  have e2 : aSm (fun j => if w 1 j = 4 then (1 : Int32) else 0) n 0 = wSold w n (Int32.ofNat 0) + (wSold w n (Int32.ofNat 1) + (wSold w n (Int32.ofNat 2) + wSold w n (Int32.ofNat 3))) := by
    unfold wSold
    rw [aSm_plus, aSm_plus, aSm_plus]
    exact aSm_congr n 0 fun j _ hj => sold_4 ok.A (by omega)
  rw [e1, e2, ok.sales 0 (by omega), ok.sales 1 (by omega), ok.sales 2 (by omega), ok.sales 3 (by omega)]
end PU15
section PU16
theorem rr_nn {f : FP.Core.Fmt} {s : Bool} {a b : Nat} {e : Int} : FP.Core.roundRatio f s a b e ≠ .nan := by
  unfold FP.Core.roundRatio FP.Core.roundAt FP.Core.settle FP.Core.bound
  repeat' split
  all_goals exact fun q => by cases q
theorem rd_nn {f : FP.Core.Fmt} {d : FP.Core.Datum} (h : d ≠ .nan) : FP.Core.round f d ≠ .nan := by
  cases d with
  | nan => exact absurd rfl h
  | inf s => exact fun q => by cases q
  | fin s c q => exact rr_nn
theorem qt_nn {f : FP.Core.Fmt} {d1 : FP.Core.Datum} {t : Bool} {d : Nat} {r : Int} (h : d1 ≠ .nan) (hd : d ≠ 0) : FP.Core.quotient f d1 (.fin t d r) ≠ .nan := by
  cases d1 with
  | nan => exact absurd rfl h
  | inf s => exact fun q => by cases q
  | fin s c q =>
    show (if d = 0 then _ else FP.Core.roundRatio f (s != t) c d (q - r)) ≠ _
    rw [if_neg hd]
    exact rr_nn
theorem bits64 {a : UInt64} (h : FP.Core.val64 a ≠ .nan) : a &&& 0x7fffffffffffffff ≤ 0x7ff0000000000000 := by
  refine Decidable.byContradiction fun c => h ?_
  have hn : a.toNat < 2 ^ 64 := a.toNat_lt
  have e1 : (a &&& 0x7fffffffffffffff).toNat = a.toNat % 2 ^ 63 := by
    rw [UInt64.toNat_and]
    exact Nat.and_two_pow_sub_one_eq_mod a.toNat 63
  have c1 : ¬ a.toNat % 2 ^ 63 ≤ 0x7ff0000000000000 := fun q => c (UInt64.le_iff_toNat_le.mpr (by rw [e1]; exact q))
  unfold FP.Core.val64 FP.Core.decode
  have eE : FP.Core.fieldE FP.Core.b64 a.toNat = FP.Core.b64.exps - 1 := by
    show a.toNat / 2 ^ 52 % 2 ^ 11 = 2047
    omega
  have eT : ¬ FP.Core.fieldT FP.Core.b64 a.toNat = 0 := by
    show ¬ a.toNat % 2 ^ 52 = 0
    omega
  rw [if_pos eE, if_neg eT]
theorem bits32 {a : UInt32} (h : FP.Core.val32 a ≠ .nan) : a &&& 0x7fffffff ≤ 0x7f800000 := by
  refine Decidable.byContradiction fun c => h ?_
  have hn : a.toNat < 2 ^ 32 := a.toNat_lt
  have e1 : (a &&& 0x7fffffff).toNat = a.toNat % 2 ^ 31 := by
    rw [UInt32.toNat_and]
    exact Nat.and_two_pow_sub_one_eq_mod a.toNat 31
  have c1 : ¬ a.toNat % 2 ^ 31 ≤ 0x7f800000 := fun q => c (UInt32.le_iff_toNat_le.mpr (by rw [e1]; exact q))
  unfold FP.Core.val32 FP.Core.decode
  have eE : FP.Core.fieldE FP.Core.b32 a.toNat = FP.Core.b32.exps - 1 := by
    show a.toNat / 2 ^ 23 % 2 ^ 8 = 255
    omega
  have eT : ¬ FP.Core.fieldT FP.Core.b32 a.toNat = 0 := by
    show ¬ a.toNat % 2 ^ 23 = 0
    omega
  rw [if_pos eE, if_neg eT]
theorem od_eq {d : FP.Core.Datum} (h : d ≠ .nan) : FP.Core.order d d = some .eq := by
  cases d with
  | nan => exact absurd rfl h
  | inf s => exact congrArg some (Std.ReflOrd.compare_self)
  | fin s c q => exact congrArg some (Std.ReflOrd.compare_self)
theorem dcmp_eq {a : UInt64} (h : FP.Core.val64 a ≠ .nan) : Op.cmpValue (FP.dcmp a a) .l = 0 := by
  have e : FP.dcmp a a = some .eq := od_eq h
  rw [e]
  rfl
def finP (d : FP.Core.Datum) : Bool := match d with
  | .fin _ c _ => c != 0
  | _ => false
theorem i64_dec : ∀ b : Fin 61, b.val = 0 ∨ finP (FP.Core.round FP.Core.b64 (FP.Core.ofInt (b.val : Int))) = true := by decide +kernel
theorem i32_dec : ∀ b : Fin 9, b.val = 0 ∨ finP (FP.Core.round FP.Core.b32 (FP.Core.ofInt (b.val : Int))) = true := by decide +kernel
theorem finP_ex {d : FP.Core.Datum} (h : finP d = true) : ∃ t c r, d = .fin t c r ∧ c ≠ 0 := by
  cases d with
  | nan => cases h
  | inf s => cases h
  | fin s c q => exact ⟨s, c, q, rfl, by simpa [finP] using h⟩
theorem ofI_nn {i : Int} : FP.Core.ofInt i ≠ .nan := fun q => by cases q
theorem ddiv_nn {x y : Int32} {b : Nat} (hy : y = Int32.ofNat b) (hb : b ≤ 60) (h0 : b ≠ 0) : FP.Core.val64 (FP.ddiv (FP.i2d x) (FP.i2d y)) ≠ .nan := by
  have e : y.toInt = (b : Int) := by rw [hy, Int32.toInt_ofNat_of_lt (by omega)]
  have e1 : FP.Core.val64 (FP.ddiv (FP.i2d x) (FP.i2d y)) = FP.Core.quotient FP.Core.b64 (FP.Core.round FP.Core.b64 (FP.Core.ofInt x.toInt)) (FP.Core.round FP.Core.b64 (FP.Core.ofInt (b : Int))) := by
    show FP.Core.val64 (FP.Core.ddiv (FP.Core.i2d x) (FP.Core.i2d y)) = _
    rw [FP.Core.val64_ddiv, FP.Core.val64_i2d, FP.Core.val64_i2d, e]
  obtain ⟨t, c, r, q, hc⟩ := finP_ex ((i64_dec ⟨b, by omega⟩).resolve_left h0)
  rw [e1, show FP.Core.round FP.Core.b64 (FP.Core.ofInt (b : Int)) = .fin t c r from q]
  exact qt_nn (rd_nn ofI_nn) hc
theorem fdiv_nn {x y : Int32} {b : Nat} (hy : y = Int32.ofNat b) (hb : b ≤ 8) (h0 : b ≠ 0) : FP.Core.val32 (FP.fdiv (FP.i2f x) (FP.i2f y)) ≠ .nan := by
  have e : y.toInt = (b : Int) := by rw [hy, Int32.toInt_ofNat_of_lt (by omega)]
  have e1 : FP.Core.val32 (FP.fdiv (FP.i2f x) (FP.i2f y)) = FP.Core.quotient FP.Core.b32 (FP.Core.round FP.Core.b32 (FP.Core.ofInt x.toInt)) (FP.Core.round FP.Core.b32 (FP.Core.ofInt (b : Int))) := by
    show FP.Core.val32 (FP.Core.fdiv (FP.Core.i2f x) (FP.Core.i2f y)) = _
    rw [FP.Core.val32_fdiv, FP.Core.val32_i2f, FP.Core.val32_i2f, e]
  obtain ⟨t, c, r, q, hc⟩ := finP_ex ((i32_dec ⟨b, by omega⟩).resolve_left h0)
  rw [e1, show FP.Core.round FP.Core.b32 (FP.Core.ofInt (b : Int)) = .fin t c r from q]
  exact qt_nn (rd_nn ofI_nn) hc
/-- how a change ends: E: the answers that tell of none -/
def PE (E : List Int32) (p : aZ) : Prop := (p.1 ∈ E ∧ (p.1 = -1 ∨ p.1 = -2)) ∨ (p.1 ∈ E ∧ p.1 = -3 ∧ (p.2 16 6 = 1 ∨ p.2 16 6 = 2)) ∨ (0 ≤ p.1 ∧ ∃ n g o, wOk p.2 n g o)
end PU16
section PU17
variable {w v V W : aW} {n g o i j k q m b L : Nat} {x y z u s t : Int32} {E E1 : List Int32}
theorem PE1 {p : aZ} (h : p = (-1, w)) (hE : (-1 : Int32) ∈ E := by decide) : PE E p := by rw [h]; exact Or.inl ⟨hE, Or.inl rfl⟩
theorem PE2 {p : aZ} (h : p = (-2, w)) (hE : (-2 : Int32) ∈ E := by decide) : PE E p := by rw [h]; exact Or.inl ⟨hE, Or.inr rfl⟩
theorem PE3 {p : aZ} (h : p = (-3, wNote w x y)) (hE : (-3 : Int32) ∈ E := by decide) : PE E p := by rw [h]; exact Or.inr (Or.inl ⟨hE, rfl, Or.inl rfl⟩)
theorem PE0 {p : aZ} (h : p = (x, v)) (h0 : 0 ≤ x) (ok : wOk v n g o) : PE E p := by rw [h]; exact Or.inr (Or.inr ⟨h0, n, g, o, ok⟩)
theorem PE.mono {p : aZ} (h : PE E p) (hE : ∀ e, e ∈ E → e ∈ E1) : PE E1 p := by
  rcases h with ⟨h1, h2⟩ | ⟨h1, h2⟩ | h
  · exact Or.inl ⟨hE _ h1, h2⟩
  · exact Or.inr (Or.inl ⟨hE _ h1, h2⟩)
  · exact Or.inr (Or.inr h)
theorem pe_set (ok : wOk w n g o) : PE [-2] (fSet w x y) := by
  by_cases c0 : 0 ≤ x ∧ x ≤ 2
  rotate_left
  · exact PE2 (if_neg c0)
  by_cases c1 : aI4 0 10 5 5 (zn x) ≤ y ∧ y ≤ aI4 9 99 40 40 (zn x)
  rotate_left
  · exact PE2 ((if_pos c0).trans (if_neg c1))
  have hx : zn x ≤ 2 := zn_le (a := 2) c0.2 c0.1 (by omega)
  have hy : 0 ≤ y := by
    refine Int32.le_trans ?_ c1.1
    match zn x, hx with
    | 0, _ => decide
    | 1, _ => decide
    | 2, _ => decide
  refine PE0 ((if_pos c0).trans (if_pos c1)) (ok.T.1 _ (by omega)) (wOk.mk (n := n) (g := g) (o := o) ?_ ?_ ?_)
  · exact wOkA_up ok.A (Or.inl rfl)
  · exact okB_cg ⟨rfl, rfl⟩ (fun _ _ => rfl) (fun _ _ => Iff.rfl) (fun _ => rfl) (fun _ => rfl) ok.B
  · refine ⟨fun i hi => ?_, ok.T.2⟩
    by_cases e : i = zn x
    · subst e
      rw [upw_eq]
      exact hy
    · rw [upw_ne (by omega)]
      exact ok.T.1 i hi
theorem pe_clay (ok : wOk w n g o) : PE [-2, -3] (fClay w x) := by
  by_cases c0 : 1 ≤ x ∧ x ≤ 99
  rotate_left
  · exact PE2 (if_neg c0)
  by_cases c1 : w 16 0 + x ≤ 999
  rotate_left
  · exact PE3 ((if_pos c0).trans (if_neg c1))
  have x0 : 0 ≤ x := Int32.le_trans (by decide) c0.1
  have hx : zn x ≤ 99 := zn_le (a := 99) c0.2 x0 (by omega)
  have hs : zn (w 16 0) ≤ 999 := zn_le (a := 999) ok.T.2.2 ok.T.2.1 (by omega)
  have h0 : 0 ≤ w 16 0 + x := by
    rw [zn_nn ok.T.2.1, zn_nn x0]
    exact nn_add (by omega) (by omega)
  refine PE0 ((if_pos c0).trans (if_pos c1)) h0 (wOk.mk (n := n) (g := g) (o := o) ?_ ?_ ?_)
  · exact wOkA_up (wOkA_up ok.A (Or.inr ⟨rfl, by omega⟩)) (Or.inr ⟨rfl, by omega⟩)
  · obtain ⟨b1, b2, b3⟩ := ok.B
    refine ⟨?_, b2, b3⟩
    have e : w 16 1 + x = w 16 0 + x + aSm (fun j => fSz (w 6 j)) n 0 := by
      rw [b1, Int32.add_assoc, Int32.add_comm (aSm (fun j => fSz (w 6 j)) n 0) x, ← Int32.add_assoc]
    exact e
  · exact ⟨ok.T.1, h0, c1⟩
theorem pe_cast (ok : wOk w n g o) : PE [-2, -3] (fCast w n x y z) := by
  by_cases c0 : (0 ≤ x ∧ x ≤ 3) ∧ (1 ≤ y ∧ y ≤ 20) ∧ (30 ≤ z ∧ z ≤ 60)
  rotate_left
  · exact PE2 (if_neg c0)
  by_cases c1 : w 16 3 + y ≤ 60
  rotate_left
  · exact PE3 ((if_pos c0).trans (if_neg c1))
  by_cases c2 : y * fSz x ≤ w 16 0
  rotate_left
  · exact PE3 ((if_pos c0).trans ((if_pos c1).trans (if_neg c2)))
  have y0 : 0 ≤ y := Int32.le_trans (by decide) c0.2.1.1
  have hy : zn y ≤ 20 := zn_le (a := 20) c0.2.1.2 y0 (by omega)
  have ey := zn_nn y0
  have hs : zn (w 16 0) ≤ 999 := zn_le (a := 999) ok.T.2.2 ok.T.2.1 (by omega)
  have es := zn_nn ok.T.2.1
  have hxk : ∃ k, aIx x 4 = some k := ⟨_, aIx_le (m := 3) c0.1.1 c0.1.2 (by omega)⟩
  obtain ⟨f1, f4, ef⟩ := fSz_n hxk
  have hn := ok.1.2.1
  have e1 : w 16 3 + y = Int32.ofNat (n + zn y) := by rw [ok.1.1, Int32.ofNat_add, ← ey]
  have hnk : n + zn y ≤ 60 := (zI_le (i := n + zn y) (n := 60) e1 rfl (by omega) (by omega)).mp c1
  have ep : y * fSz x = Int32.ofNat (zn y * zn (fSz x)) := by rw [Int32.ofNat_mul, ← ey, ← ef]
  have hp : zn y * zn (fSz x) ≤ 80 := by
    have := Nat.mul_le_mul hy f4
    omega
  have hps : zn y * zn (fSz x) ≤ zn (w 16 0) := (zI_le ep es (by omega) (by omega)).mp c2
  have e2 : w 16 0 - y * fSz x = Int32.ofNat (zn (w 16 0) - zn y * zn (fSz x)) := by
    have h : w 16 0 = Int32.ofNat (zn (w 16 0) - zn y * zn (fSz x)) + y * fSz x := by
      rw [ep, ← Int32.ofNat_add, Nat.sub_add_cancel hps]
      exact es
    rw [h, Int32.add_sub_cancel]
    rw [← h]
  have h0 : 0 ≤ w 16 3 + y := by
    rw [e1]
    exact Int32.not_lt.mp (ofN_lt0 (by omega))
  have C0 : okC (upw w 16 0 (w 16 0 - y * fSz x)) n o (w 16 1) (w 16 0 - y * fSz x) := ⟨rfl, rfl, ok.B.2.1, ok.B.2.2⟩
  obtain ⟨k1, k2, k3, k4⟩ := okC_adds (x := x) (y := z) C0 (zn y)
  refine PE0 ((if_pos c0).trans ((if_pos c1).trans (if_pos c2))) h0 (wOk.mk (n := n + zn y) (g := g) (o := o) ?_ ⟨?_, k3, k4⟩ ⟨fun i hi => ?_, ?_, ?_⟩)
  · exact okA_adds (wOkA_up ok.A (Or.inr ⟨rfl, by omega⟩)) hxk (zn y) hnk
  · have e := sum_adds (w := upw w 16 0 (w 16 0 - y * fSz x)) (n := n) (x := x) (y := z) (zn y)
    have e9 : aSm (fun j => fSz (upw w 16 0 (w 16 0 - y * fSz x) 6 j)) n 0 = aSm (fun j => fSz (w 6 j)) n 0 := rfl
    have b1 := ok.B.1
    rw [k1, k2, e, e9, ← ey]
    generalize aSm (fun j => fSz (w 6 j)) n 0 = S at *
    generalize y * fSz x = Y at *
    rw [b1]
    grind
  · rw [adds_0]
    exact ok.T.1 i hi
  · rw [k2, e2]
    exact Int32.not_lt.mp (ofN_lt0 (by omega))
  · rw [k2, e2]
    exact (zI_le (x := Int32.ofNat (zn (w 16 0) - zn y * zn (fSz x))) (y := 999) (n := 999) rfl rfl (by omega) (by omega)).mpr (by omega)
theorem pe_coat (ok : wOk w n g o) : PE [-1, -2, -3] (fCoat w x y z) := by
  by_cases c0 : 0 ≤ x ∧ x < w 16 3
  rotate_left
  · exact PE1 (if_neg c0)
  by_cases c1 : (0 ≤ y ∧ y ≤ 3) ∧ (1 ≤ z ∧ z ≤ 9)
  rotate_left
  · exact PE2 ((if_pos c0).trans (if_neg c1))
  by_cases c2 : w 1 (zn x) = 0
  rotate_left
  · exact PE3 ((if_pos c0).trans ((if_pos c1).trans (if_neg c2)))
  have hyk : aIx y 4 = some (zn y) := aIx_le (m := 3) c1.1.1 c1.1.2 (by omega)
  have z0 : 0 ≤ z := Int32.le_trans (by decide) c1.2.1
  have h0 : 0 ≤ fMt y - 4 * z := by
    rw [fMt_eq hyk, zn_nn c1.1.1, zn_nn z0]
    have h1 : zn y ≤ 3 := zn_le (a := 3) c1.1.2 c1.1.1 (by omega)
    have h2 : zn z ≤ 9 := zn_le (a := 9) c1.2.2 z0 (by omega)
    exact melt_nn ⟨zn y, by omega⟩ ⟨zn z, by omega⟩
  refine PE0 ((if_pos c0).trans ((if_pos c1).trans (if_pos c2))) h0 (wOk.mk (n := n) (g := g) (o := o) ?_ ?_ ?_)
  · refine wOkA_cg (w := w) (fun a j h => (upw_ne (by omega)).trans (upw_ne (by omega))) (fun j hj => ?_) ok.A
    have q := ok.2.1 j hj
    have e : ∀ a, ¬ (a = 2 ∨ a = 3) → upw (upw w 2 (zn x) y) 3 (zn x) z a j = w a j := fun a ha => (upw_ne (by omega)).trans (upw_ne (by omega))
    unfold okW at q ⊢
    rw [e 6 (by omega), e 1 (by omega), e 5 (by omega), e 4 (by omega)]
    refine ⟨q.1, ?_, q.2.2⟩
    rw [upw_ne (by omega)]
    by_cases c : j = zn x
    · rw [c, upw_eq]
      exact Or.inr ⟨_, hyk⟩
    · rw [upw_ne (by omega)]
      exact q.2.1
  · exact okB_cg ⟨rfl, rfl⟩ (fun _ _ => rfl) (fun _ _ => Iff.rfl) (fun _ => rfl) (fun _ => rfl) ok.B
  · exact okT_cg (fun _ _ => rfl) rfl ok.T
theorem pe_sag (ok : wOk w n g o) : PE [-3] (fSag w g) := by
  by_cases c : w 16 4 < 8
  rotate_left
  · exact PE3 (if_neg c)
  have hg : g < 8 := (zI_lt (i := g) (n := 8) ok.1.2.2.1 rfl (by have := ok.1.2.2.2.1; omega) (by omega)).mp c
  have e : w 16 4 + 1 - 1 = Int32.ofNat g := by rw [Int32.add_sub_cancel]; exact ok.1.2.2.1
  refine PE0 (if_pos c) (by rw [e]; exact Int32.not_lt.mp (ofN_lt0 (by omega))) (wOk.mk (n := n) (g := g + 1) (o := o) ⟨okN_sag ok.1 hg, fun j hj => ?_, okS_sag ok.2.2.1, fun i hi => ?_⟩ ?_ ?_)
  · have q := okW_g (ok.2.1 j hj)
    unfold okW at q ⊢
    rw [add3_o (by omega), add3_o (by omega), add3_o (by omega), add3_o (by omega), add3_o (by omega)]
    exact q
  · exact okO_eq (v := wAdd3 w g) (w := w) rfl rfl rfl (ok.2.2.2.1 i hi)
  · exact okB_cg (w := w) ⟨rfl, rfl⟩ (fun _ _ => rfl) (fun _ _ => Iff.rfl) (fun _ => rfl) (fun _ => rfl) ok.B
  · exact okT_cg (fun _ _ => rfl) rfl ok.T
theorem pe_stand (ok : wOk w n g o) : PE [-1, -2, -3] (fStand w n g x y z) := by
  by_cases c0 : (0 ≤ x ∧ x < w 16 4) ∧ (if y = -1 then 0 ≤ z ∧ z ≤ 3 else 0 ≤ y ∧ y < w 16 4)
  rotate_left
  · exact PE1 (if_neg c0)
  by_cases c1 : x = y
  · exact PE2 ((if_pos c0).trans (if_pos c1))
  by_cases c2 : w 8 (zn x) = -1
  rotate_left
  · exact PE3 ((if_pos c0).trans ((if_neg c1).trans (if_pos c2)))
  have c2n : ¬ ¬ w 8 (zn x) = -1 := fun h => h c2
  by_cases c3 : ¬ y = -1 ∧ w 8 (zn y) = -1
  · exact PE3 ((if_pos c0).trans ((if_neg c1).trans ((if_neg c2n).trans (if_pos c3))))
  by_cases c4 : wAt w g (wB w y z) (wL w y) = -1
  rotate_left
  · exact PE3 ((if_pos c0).trans ((if_neg c1).trans ((if_neg c2n).trans ((if_neg c3).trans (if_pos c4)))))
  have c4n : ¬ ¬ wAt w g (wB w y z) (wL w y) = -1 := fun h => h c4
  by_cases c5 : wOver w n g (wB w y z) (wL w y) (3 + wHeld w n x) = -1
  rotate_left
  · exact PE3 ((if_pos c0).trans ((if_neg c1).trans ((if_neg c2n).trans ((if_neg c3).trans ((if_neg c4n).trans (if_pos c5))))))
  have c5n : ¬ ¬ wOver w n g (wB w y z) (wL w y) (3 + wHeld w n x) = -1 := fun h => h c5
  have hg8 := ok.1.2.2.2.1
  have okS := ok.2.2.1
  have hx := aIx_lt c0.1 ok.1.2.2.1 hg8 (by omega)
  have key : ∃ b L, b < 4 ∧ L < 8 ∧ wB w y z = Int32.ofNat b ∧ wL w y = Int32.ofNat L ∧ (∀ L', L = L' + 1 → ∃ k, k < g ∧ okP w k b L') := by
    by_cases hy : y = -1
    · have c := c0.2
      rw [if_pos hy] at c
      refine ⟨zn z, 0, ?_, by omega, ?_, ?_, fun L' h => by omega⟩
      · have := zn_le (a := 3) c.2 c.1 (by omega)
        omega
      · unfold wB
        rw [if_pos hy]
        exact zn_nn c.1
      · unfold wL
        rw [if_pos hy]
        rfl
    · have c := c0.2
      rw [if_neg hy] at c
      have hyk := aIx_lt c ok.1.2.2.1 hg8 (by omega)
      have h8 : ¬ w 8 (zn y) = -1 := fun q => c3 ⟨hy, q⟩
      obtain ⟨b, L, hb, hL, p⟩ := okS_in okS hyk.2.1 h8
      refine ⟨b, L + 1, hb, lv_up8 okS hg8 hb hL hyk.2.1 p hx.2.1 c2, ?_, ?_, fun L' h => ⟨zn y, hyk.2.1, by rw [show L' = L by omega]; exact p⟩⟩
      · unfold wB
        rw [if_neg hy]
        exact p.1
      · unfold wL
        rw [if_neg hy]
        exact zI_s p.2
  obtain ⟨b, L, hb, hL, eb, eL, und⟩ := key
  rw [eb, eL] at c4
  have free := wAt_none okS hg8 hb c4
  refine PE0 ((if_pos c0).trans ((if_neg c1).trans ((if_neg c2n).trans ((if_neg c3).trans ((if_neg (by rw [eb, eL]; exact fun h => h c4)).trans (if_neg c5n)))))) ?_ (wOk_st (i := zn x) ok ?_)
  · rw [eL]
    exact Int32.not_lt.mp (ofN_lt0 (by omega))
  · rw [eb, eL]
    exact okS_stand okS hg8 hx.2.1 c2 hb hL free und
theorem pe_down (ok : wOk w n g o) : PE [-1, -3] (fDown w g x) := by
  by_cases c0 : 0 ≤ x ∧ x < w 16 4
  rotate_left
  · exact PE1 (if_neg c0)
  by_cases c1 : w 8 (zn x) = -1
  · exact PE3 ((if_pos c0).trans (if_pos c1))
  by_cases c2 : wUp w g x = -1
  rotate_left
  · exact PE3 ((if_pos c0).trans ((if_neg c1).trans (if_pos c2)))
  have c2n : ¬ ¬ wUp w g x = -1 := fun h => h c2
  have hg8 := ok.1.2.2.2.1
  have okS := ok.2.2.1
  have hx := aIx_lt c0 ok.1.2.2.1 hg8 (by omega)
  obtain ⟨b, L, hb, hL, p⟩ := okS_in okS hx.2.1 c1
  have e : wUp w g (Int32.ofNat (zn x)) = wAt w g (Int32.ofNat b) (Int32.ofNat (L + 1)) := wUp_of (by omega) hb p
  rw [← hx.2.2, c2] at e
  refine PE0 ((if_pos c0).trans ((if_neg c1).trans (if_neg c2n))) ?_ (wOk_st (i := zn x) ok (okS_down okS hx.2.1 hb hL p (wAt_none okS hg8 hb e.symm)))
  rw [p.2]
  exact Int32.not_lt.mp (ofN_lt0 (by omega))
theorem pe_put (ok : wOk w n g o) : PE [-1, -3] (fPut w n g x y) := by
  by_cases c0 : (0 ≤ x ∧ x < w 16 3) ∧ (0 ≤ y ∧ y < w 16 4)
  rotate_left
  · exact PE1 (if_neg c0)
  by_cases c1 : w 1 (zn x) = 0
  rotate_left
  · exact PE3 ((if_pos c0).trans (if_pos c1))
  have c1n : ¬ ¬ w 1 (zn x) = 0 := fun h => h c1
  by_cases c2 : fSz (w 6 (zn x)) ≤ 6 - wHeld w n y
  rotate_left
  · exact PE3 ((if_pos c0).trans ((if_neg c1n).trans (if_pos c2)))
  have c2n : ¬ ¬ fSz (w 6 (zn x)) ≤ 6 - wHeld w n y := fun h => h c2
  by_cases c3 : wOver w n g (w 8 (zn y)) (w 9 (zn y)) (fSz (w 6 (zn x))) = -1
  rotate_left
  · exact PE3 ((if_pos c0).trans ((if_neg c1n).trans ((if_neg c2n).trans (if_pos c3))))
  have c3n : ¬ ¬ wOver w n g (w 8 (zn y)) (w 9 (zn y)) (fSz (w 6 (zn x))) = -1 := fun h => h c3
  have hx := aIx_lt c0.1 ok.1.1 ok.1.2.1 (by omega)
  have hy := aIx_lt c0.2 ok.1.2.2.1 ok.1.2.2.2.1 (by omega)
  refine PE0 ((if_pos c0).trans ((if_neg c1n).trans ((if_neg c2n).trans (if_neg c3n)))) (fa_put ok.A hx.2.1 c2) (wOk.mk (n := n) (g := g) (o := o) ?_ ?_ ?_)
  · refine wOkA_cg (w := w) (fun a j h => (upw_ne (by omega)).trans (upw_ne (by omega))) (fun j hj => ?_) ok.A
    have q := ok.2.1 j hj
    unfold okW at q ⊢
    by_cases c : j = zn x
    · subst c
      have e1 : upw (upw w 1 (zn x) 1) 4 (zn x) y 1 (zn x) = 1 := (upw_ne (by omega)).trans upw_eq
      rw [e1, upw_eq, show upw (upw w 1 (zn x) 1) 4 (zn x) y 6 (zn x) = w 6 (zn x) from rfl, show upw (upw w 1 (zn x) 1) 4 (zn x) y 2 (zn x) = w 2 (zn x) from rfl, show upw (upw w 1 (zn x) 1) 4 (zn x) y 5 (zn x) = w 5 (zn x) from rfl]
      refine ⟨q.1, q.2.1, Or.inr (Or.inl ⟨rfl, ?_, zn y, hy.2.1, hy.2.2⟩)⟩
      rcases q.2.2 with ⟨-, q5, -⟩ | ⟨q, -⟩ | ⟨q, -⟩ | ⟨q, -⟩ | ⟨q, -⟩ | ⟨q, -⟩
      · exact q5
      · rw [q] at c1; exact absurd c1 (by decide)
      · rw [q] at c1; exact absurd c1 (by decide)
      · rw [q] at c1; exact absurd c1 (by decide)
      · rw [q] at c1; exact absurd c1 (by decide)
      · rw [q] at c1; exact absurd c1 (by decide)
    · have e : ∀ a, upw (upw w 1 (zn x) 1) 4 (zn x) y a j = w a j := fun a => (upw_ne (by omega)).trans (upw_ne (by omega))
      rw [e, e, e, e, e]
      exact q
  · refine okB_cg (w := w) ⟨rfl, rfl⟩ (fun _ _ => rfl) (fun j hj => ?_) (fun _ => rfl) (fun _ => rfl) ok.B
    by_cases c : j = zn x
    · subst c
      have e1 : upw (upw w 1 (zn x) 1) 4 (zn x) y 1 (zn x) = 1 := (upw_ne (by omega)).trans upw_eq
      rw [e1, c1]
      exact ⟨fun q => absurd q (by decide), fun q => absurd q (by decide)⟩
    · rw [show upw (upw w 1 (zn x) 1) 4 (zn x) y 1 j = w 1 j from (upw_ne (by omega)).trans (upw_ne (by omega))]
  · exact okT_cg (fun _ _ => rfl) rfl ok.T
theorem pe_fire (ok : wOk w n g o) : PE [-2, -3] (fFire w n x) := by
  by_cases c0 : 1000 ≤ x ∧ x ≤ 1400
  rotate_left
  · exact PE2 (if_neg c0)
  by_cases c1 : wAny w n = 0
  · exact PE3 ((if_pos c0).trans (if_pos c1))
  obtain ⟨f, hf, ef⟩ := wFirsts_nn w n x
  have hn := ok.1.2.1
  refine PE0 ((if_pos c0).trans (if_neg c1)) (by rw [ef]; exact Int32.not_lt.mp (ofN_lt0 (by omega))) (wOk.mk (n := n) (g := g) (o := o) (wOkA_up (wOkA_fire ok.A) (Or.inr ⟨rfl, by omega⟩)) ?_ ?_)
  · have e : ∀ a, ¬ (a = 1 ∨ a = 5 ∨ a = 16) → ∀ j, upw (wFireK w x n) 16 2 (w 16 2 + 1) a j = w a j := fun a h j => (upw_ne (by omega)).trans (wFireK_out (Or.inr (by omega)))
    refine okB_cg (w := w) ⟨(upw_ne (by omega)).trans (wFireK_out (Or.inr (by omega))), (upw_ne (by omega)).trans (wFireK_out (Or.inr (by omega)))⟩ (fun j _ => e 6 (by omega) j) (fun j hj => ?_) (e 12 (by omega)) (e 13 (by omega)) ok.B
    rw [show upw (wFireK w x n) 16 2 (w 16 2 + 1) 1 j = wFireK w x n 1 j from upw_ne (by omega)]
    by_cases c : j < n ∧ wFires w j = true
    · have e1 : wFireK w x n 1 j = 2 := by unfold wFireK; rw [if_pos ⟨Or.inl rfl, c.1, c.2⟩, if_pos rfl]
      rw [e1, (of_decide_eq_true c.2).1]
      exact ⟨fun q => absurd q (by decide), fun q => absurd q (by decide)⟩
    · have e1 : wFireK w x n 1 j = w 1 j := by unfold wFireK; rw [if_neg (fun q => c ⟨q.2.1, q.2.2⟩)]
      rw [e1]
  · exact okT_cg (fun i _ => (upw_ne (by omega)).trans (wFireK_out (Or.inr (by omega)))) ((upw_ne (by omega)).trans (wFireK_out (Or.inr (by omega)))) ok.T
theorem pe_empty (ok : wOk w n g o) : PE [-1, -3] (fEmpty w n x) := by
  by_cases c0 : 0 ≤ x ∧ x < w 16 4
  rotate_left
  · exact PE1 (if_neg c0)
  by_cases c1 : wIn w n x = 0
  · exact PE3 ((if_pos c0).trans (if_pos c1))
  obtain ⟨f, hf, ef⟩ := aSm_nn (g := fun j => if w 4 j = x ∧ wTo w j = 3 then 1 else 0) (fun j => by by_cases c : w 4 j = x ∧ wTo w j = 3 <;> simp [c]) n 0
  have hn := ok.1.2.1
  have hx : ¬ x = -1 := fun q => by rw [q] at c0; exact absurd c0.1 (by decide)
  refine PE0 ((if_pos c0).trans (if_neg c1)) (by show 0 ≤ wStored w n x; unfold wStored; rw [ef]; exact Int32.not_lt.mp (ofN_lt0 (by omega))) (wOk.mk (n := n) (g := g) (o := o) (wOkA_out ok.A hx) ?_ ?_)
  · have e : ∀ a, ¬ (a = 1 ∨ a = 4) → ∀ j, wOutK w x n a j = w a j := fun a h j => wOutK_out (Or.inr h)
    refine okB_cg (w := w) ⟨e 16 (by omega) 1, e 16 (by omega) 0⟩ (fun j _ => e 6 (by omega) j) (fun j hj => ?_) (e 12 (by omega)) (e 13 (by omega)) ok.B
    by_cases c : j < n ∧ w 4 j = x
    · have e1 : wOutK w x n 1 j = wTo w j := by unfold wOutK; rw [if_pos ⟨Or.inl rfl, c.1, c.2⟩, if_pos rfl]
      rw [e1]
      refine ⟨fun q => absurd q ?_, fun q => ?_⟩
      · unfold wTo
        split
        · split <;> decide
        · decide
      · rcases (ok.2.1 j hj).2.2 with ⟨k, -⟩ | ⟨k, -⟩ | ⟨k, -⟩ | ⟨k, -⟩ | ⟨-, -, k⟩ | ⟨k, -⟩
        · rw [k] at q; exact absurd q (by decide)
        · rw [k] at q; exact absurd q (by decide)
        · rw [k] at q; exact absurd q (by decide)
        · rw [k] at q; exact absurd q (by decide)
        · exact absurd (c.2.symm.trans k) hx
        · rw [k] at q; exact absurd q (by decide)
    · have e1 : wOutK w x n 1 j = w 1 j := by unfold wOutK; rw [if_neg (fun q => c ⟨q.2.1, q.2.2⟩)]
      rw [e1]
  · exact okT_cg (fun i _ => wOutK_out (Or.inr (by omega))) (wOutK_out (Or.inr (by omega))) ok.T
theorem pe_ord (ok : wOk w n g o) : PE [-2, -3] (fOrd w o x y z u t s) := by
  by_cases c0 : (0 ≤ x ∧ x ≤ 6) ∧ (0 ≤ y ∧ y ≤ 6) ∧ (0 ≤ z ∧ z ≤ 6) ∧ (0 ≤ u ∧ u ≤ 6) ∧ (0 ≤ t ∧ t ≤ 3) ∧ ¬ x + y + z + u = 0
  rotate_left
  · exact PE2 (if_neg c0)
  by_cases c1 : w 16 5 < 6
  rotate_left
  · exact PE3 ((if_pos c0).trans (if_neg c1))
  obtain ⟨h0, h1, h2, h3, h4, h5⟩ := id c0
  have ho : o < 6 := (zI_lt (i := o) (n := 6) ok.1.2.2.2.2.1 rfl (by have := ok.1.2.2.2.2.2; omega) (by omega)).mp c1
  have hb : (if s = 0 then (0 : Int32) else 1) = 0 ∨ (if s = 0 then (0 : Int32) else 1) = 1 := by split <;> simp
  generalize hs : (if s = 0 then (0 : Int32) else 1) = b at *
  have e : fOrd w o x y z u t s = (w 16 5, wOrd w o x y z u t b) := by
    unfold fOrd
    rw [if_pos c0, if_pos c1, hs]
  refine PE0 e (by rw [ok.1.2.2.2.2.1]; exact Int32.not_lt.mp (ofN_lt0 (by omega))) (wOk.mk (n := n) (g := g) (o := o + 1) ⟨okN_ord ok.1 ho, fun j hj => ?_, ?_, fun i hi => ?_⟩ ⟨?_, fun i hi => ?_, fun k hk => ?_⟩ (okT_cg (fun i _ => wOrd_out (by omega)) (wOrd_out (by omega)) ok.T))
  · have q := ok.2.1 j hj
    unfold okW at q ⊢
    rw [wOrd_out (by omega), wOrd_out (by omega), wOrd_out (by omega), wOrd_out (by omega), wOrd_out (by omega)]
    exact q
  · exact okS_eq (v := wOrd w o x y z u t b) (w := w) (funext fun j => wOrd_out (by omega)) (funext fun j => wOrd_out (by omega)) ok.2.2.1
  · by_cases ei : i = o
    · subst ei
      refine ⟨?_, ?_, fun k hk => ?_, ?_⟩
      · rw [ord_11]
        exact hb
      · rw [ord_10]
        exact ⟨_, aIx_le (m := 3) h4.1 h4.2 (by omega)⟩
      · rw [ord_at hk]
        match k, hk with
        | 0, _ => exact h0
        | 1, _ => exact h1
        | 2, _ => exact h2
        | 3, _ => exact h3
      · rcases ord_pos h0 h1 h2 h3 h5 with p | p | p | p
        · exact ⟨0, by omega, by rw [ord_at (f := 0) (by omega)]; exact p⟩
        · exact ⟨1, by omega, by rw [ord_at (f := 1) (by omega)]; exact p⟩
        · exact ⟨2, by omega, by rw [ord_at (f := 2) (by omega)]; exact p⟩
        · exact ⟨3, by omega, by rw [ord_at (f := 3) (by omega)]; exact p⟩
    · have q := ok.2.2.2.1 i (by omega)
      unfold okO at q ⊢
      rw [wOrd_old ei (by omega), wOrd_old ei (by omega)]
      refine ⟨q.1, q.2.1, fun k hk => ?_, ?_⟩
      · rw [wOrd_old13 (by omega)]
        exact q.2.2.1 k hk
      · obtain ⟨k, hk, p⟩ := q.2.2.2
        exact ⟨k, hk, by rw [wOrd_old13 (by omega)]; exact p⟩
  · rw [wOrd_out (by omega), wOrd_out (by omega), aSm_congr (f := fun j => fSz (wOrd w o x y z u t b 6 j)) (g := fun j => fSz (w 6 j)) n 0 fun j _ hj => by rw [wOrd_out (by omega)]]
    exact ok.B.1
  · by_cases ei : i = o
    · subst ei
      rw [ord_12]
      decide
    · rw [wOrd_old ei (by omega)]
      exact ok.B.2.1 i (by omega)
  · have e1 : nSold (wOrd w o x y z u t b) n k = nSold w n k := nSm_congr n 0 fun j _ hj => by rw [wOrd_out (a := 1) (by omega), wOrd_out (a := 6) (by omega)]
    have e2 : nSoldOf (wOrd w o x y z u t b) (o + 1) k = nSoldOf w o k := by
      unfold nSoldOf
      rw [nSm_snoc, nSm_congr (f := fun i => zn (wOrd w o x y z u t b 12 i) * zn (wOrd w o x y z u t b 13 (i * 4 + k))) (g := fun i => zn (w 12 i) * zn (w 13 (i * 4 + k))) o 0 fun j _ hj => by rw [wOrd_old (a := 12) (by omega) (by omega), wOrd_old13 (by omega)]]
      rw [Nat.zero_add, ord_12, show zn 0 = 0 from rfl, Nat.zero_mul]
      rfl
    rw [e1, e2, ok.B.2.2 k hk]
theorem pe_sell (ok : wOk w n g o) : PE [-1, -3] (fSell w n x) := by
  by_cases c0 : 0 ≤ x ∧ x < w 16 5
  rotate_left
  · exact PE1 (if_neg c0)
  have hx := aIx_lt c0 ok.1.2.2.2.2.1 ok.1.2.2.2.2.2 (by omega)
  by_cases c1 : wLack w n (zn x) = -1
  rotate_left
  · have e : fSell w n x = (-3, wAhead1 (wNote w 12 (wLack w n (zn x))) 10 x) := (if_pos c0).trans (if_pos c1)
    rw [e]
    exact Or.inr (Or.inl ⟨(by decide : (-3 : Int32) ∈ [-1, -3]), rfl, Or.inr rfl⟩)
  exact PE0 ((if_pos c0).trans (if_neg (fun h => h c1))) (fa_sell ok hx.2.1) (ok_take ok hx.2.1 c1)
theorem pe_do (L : Nat) (t : Nat → Int32) (p : Nat) (ok : okk w) : PE [-1, -2, -3] (cDo t L w p) := by
  unfold cDo
  by_cases c0 : t p = 116
  · rw [if_pos c0]
    exact (pe_cast ok).mono (by decide)
  by_cases c1 : t p = 103
  · rw [if_neg c0, if_pos c1]
    exact pe_coat ok
  by_cases c2 : t p = 112
  · rw [if_neg c0, if_neg c1, if_pos c2]
    exact (pe_put ok).mono (by decide)
  by_cases c3 : t p = 102
  · rw [if_neg c0, if_neg c1, if_neg c2, if_pos c3]
    exact (pe_fire ok).mono (by decide)
  by_cases c4 : t p = 101
  · rw [if_neg c0, if_neg c1, if_neg c2, if_neg c3, if_pos c4]
    exact (pe_empty ok).mono (by decide)
  · rw [if_neg c0, if_neg c1, if_neg c2, if_neg c3, if_neg c4]
    exact (pe_sell ok).mono (by decide)
end PU17
section PU18
variable {sn i c1 c2 : Nat} {sf : Nat → Int32} {lo : Nat → Int64} {dd : Nat → UInt64} {m m1 m4 k k1 : aW} {W : Nat → aW} {j a7 a8 aL : Nat} {as7 asK as8 asM asL : List Value} {xi u : Int32} {l6 l7 l8 : Option Value} {BB : aK} {p : aZ} {f : Int32 → Int32} {E : List Int32} {goal : Prop}
theorem fSz_a (x : Int32) : ∃ b, b ≤ 4 ∧ fSz x = Int32.ofNat b := by
  unfold fSz
  split
  · rename_i k _
    match k with
    | 0 => exact ⟨2, by omega, rfl⟩
    | 1 => exact ⟨1, by omega, rfl⟩
    | 2 => exact ⟨3, by omega, rfl⟩
    | k + 3 => exact ⟨4, by omega, rfl⟩
  · exact ⟨0, by omega, rfl⟩
theorem fa_put2 {w : aW} {n g o i : Nat} {y : Int32} (ok : wOkA w n g o) : fSz (w 6 i) ≤ 6 - wHeld w n y → 0 ≤ 6 - wHeld w n y - fSz (w 6 i) := by
  obtain ⟨b, hb, e⟩ := fSz_a (w 6 i)
  have h1 := nHeld_le (y := y) ok.kinds
  have hn := ok.1.2.1
  rw [wHeld_n ok.kinds, e]
  exact put_dec ⟨nHeld w n y, by omega⟩ ⟨b, by omega⟩
theorem cl_nn {w : aW} {n g o : Nat} {x : Int32} (ok : wOk w n g o) (h : 1 ≤ x ∧ x ≤ 99) : 0 ≤ w 16 0 + x := by
  have x0 : 0 ≤ x := Int32.le_trans (by decide) h.1
  have hx : zn x ≤ 99 := zn_le (a := 99) h.2 x0 (by omega)
  have hs : zn (w 16 0) ≤ 999 := zn_le (a := 999) ok.T.2.2 ok.T.2.1 (by omega)
  rw [zn_nn ok.T.2.1, zn_nn x0]
  exact nn_add (by omega) (by omega)
end PU18
section PU19
def z0 : Nat → Int32 := fun _ => 0
end PU19
