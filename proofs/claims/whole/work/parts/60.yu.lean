/-! THE MODEL'S ANSWERS: shares -/
section YU
variable {sn : Nat} {sf : Nat → Int32} {m m1 m2 w v : aW} {n g o i j k f b L : Nat} {x y z u t c : Int32}
theorem k_sum2 {F : aS → Option (aS ⊕ aR)} {S : Int32 → Int32 → Int32 → aS} {g1 g2 : Nat → Int32} {n : Nat} {r : aR} (hb : ∀ (i : Nat) (x f e : Int32), i < n → x = Int32.ofNat i → aEnd F (S (f + g1 i) (e + g2 i) (x + 1)) r → aEnd F (S f e x) r) : ∀ (m i : Nat) (x f e : Int32), i + m = n → x = Int32.ofNat i → (∀ x, x = Int32.ofNat n → aEnd F (S (f + aSm g1 m i) (e + aSm g2 m i) x) r) → aEnd F (S f e x) r
  | 0, i, x, f, e, h, hx, hr => by
    have q := hr x (by rw [hx]; congr 1)
    rw [show f + aSm g1 0 i = f from Int32.add_zero f, show e + aSm g2 0 i = e from Int32.add_zero e] at q
    exact q
  | m + 1, i, x, f, e, h, hx, hr => by
    refine hb i x f e (by omega) hx (k_sum2 hb m (i + 1) (x + 1) _ _ (by omega) (zI_s hx) fun y hy => ?_)
    have q := hr y hy
    rw [show aSm g1 (m + 1) i = g1 i + aSm g1 m (i + 1) from rfl, show aSm g2 (m + 1) i = g2 i + aSm g2 m (i + 1) from rfl, ← Int32.add_assoc, ← Int32.add_assoc] at q
    exact q
theorem y_thrown (d : Nat) : rM sn sf m (d + 1) m_X8_thrown [.ref 8] (m 9 2) := aRun_of rfl (aVn_end (stop := fun p => false) 60 rfl)
def wPos (w : aW) (n : Nat) : Int32 := aSm (fun j => if 0 < w 5 j then 1 else 0) n 0
theorem aSm_part {g1 g2 : Nat → Int32} : ∀ (m i : Nat), (∀ j, i ≤ j → j < i + m → g1 j + g2 j = 1) → aSm g1 m i + aSm g2 m i = Int32.ofNat m
  | 0, _, _ => rfl
  | m + 1, i, h => by
    have ih := aSm_part m (i + 1) (fun j h1 h2 => h j (by omega) (by omega))
    have h0 := h i (Nat.le_refl _) (by omega)
    show g1 i + aSm g1 m (i + 1) + (g2 i + aSm g2 m (i + 1)) = _
    rw [Int32.add_assoc, ← Int32.add_assoc (aSm g1 m (i + 1)), Int32.add_comm (aSm g1 m (i + 1)) (g2 i), Int32.add_assoc (g2 i), ← Int32.add_assoc, h0, ih, Int32.ofNat_add, Int32.add_comm]
    rfl
theorem okW_cl (h : okW w g j) : w 5 j = 0 ∨ 0 < w 5 j := by
  obtain ⟨-, -, k3⟩ := h
  rcases k3 with ⟨-, q, -⟩ | ⟨-, q, -⟩ | ⟨-, q, -⟩ | ⟨-, q, -⟩ | ⟨-, q, -⟩ | ⟨-, q, -⟩
  · exact Or.inl q
  · exact Or.inl q
  · rcases q with q | q | q <;> exact Or.inr (by rw [q]; decide)
  · rcases q with q | q <;> exact Or.inr (by rw [q]; decide)
  · rcases q with q | q <;> exact Or.inr (by rw [q]; decide)
  · exact Or.inr (by rw [q]; decide)
theorem wFired_eq (ok : wOkA w n g o) : wFired w n = wPos w n := by
  have q := aSm_part (g1 := fun j => if 0 < w 5 j then 1 else 0) (g2 := fun j => if w 5 j = 0 then 1 else 0) n 0 (fun j _ hj => by
    rcases okW_cl (ok.2.1 j (by omega)) with h | h
    · rw [if_neg (by rw [h]; decide), if_pos h]
      decide
    · rw [if_pos h, if_neg (fun e => by rw [e] at h; exact absurd h (by decide))]
      decide)
  unfold wFired
  rw [ok.1.1, ← q]
  exact Int32.add_sub_cancel _ _
theorem l_firstShare (d : Nat) (R : Rl w (m 0) n g o) (ok : wOkA w n g o) {r : aR} (h : ∀ x, x = Int32.ofNat n → aEnd (aStep (aRun false (d + 6)) aCls [] aB_X8_firstShare (some .double) false) (60, [some (.ref 8), some (.int (wOfGr w n 1)), some (.int (wFired w n)), some (.int x)], [], aHn sn sf m, (0, 0)) r) : aEnd (aStep (aRun false (d + 6)) aCls [] aB_X8_firstShare (some .double) false) (6, [some (.ref 8), some (.int 0), some (.int 0), some (.int 0)], [], aHn sn sf m, (0, 0)) r := by
  have hn : m 0 6 = Int32.ofNat n := R.1.2.2.2.2.2.2.1.trans ok.1.1
  have hle := ok.1.2.1
  refine k_sum2 (S := fun f e x => (6, [some (.ref 8), some (.int f), some (.int e), some (.int x)], [], aHn sn sf m, (0, 0))) (g1 := fun j => if w 5 j = 1 then 1 else 0) (g2 := fun j => if 0 < w 5 j then 1 else 0) (n := n) (fun i x f e hi hx ih => ?_) n 0 0 0 0 (by omega) rfl (fun x hx => ?_)
  · have key : ∀ u1 u2, u1 = f + (if w 5 i = 1 then 1 else 0) → u2 = e + (if 0 < w 5 i then 1 else 0) → aEnd _ (6, [some (.ref 8), some (.int u1), some (.int u2), some (.int (x + 1))], [], aHn sn sf m, (0, 0)) r := fun u1 u2 h1 h2 => by rw [h1, h2]; exact ih
    have hcl := y_class (sn := sn) (sf := sf) (m := m) (d + 4) R ok hx hi
    refine aVn_end (stop := fun p => p == 6) 60 ?_
    refine Exists.intro 6 (And.intro (ixN (f := 6) rfl (by omega)) ?_)
    refine And.intro (fun c => absurd (zgeT c hx hn (by omega) (by omega)) (by omega)) (fun _ => ?_)
    refine Exists.intro _ (And.intro hcl ?_)
    refine And.intro (fun c1 => ?_) (fun c1 => ?_)
    · have d1 : ¬ w 5 i = 1 := cT c1
      refine Exists.intro _ (And.intro hcl ?_)
      refine And.intro (fun c2 => ?_) (fun c2 => ?_)
      · have d2 : w 5 i ≤ 0 := cT c2
        exact key _ _ (by rw [if_neg d1]) (by rw [if_neg (Int32.not_lt.mpr d2)])
      · have d2 : ¬ w 5 i ≤ 0 := cF c2
        exact key _ _ (by rw [if_neg d1]) (by rw [if_pos (Int32.not_le.mp d2)])
    · have d1 : w 5 i = 1 := Decidable.not_not.mp (cF c1)
      refine Exists.intro _ (And.intro hcl ?_)
      refine And.intro (fun c2 => ?_) (fun c2 => ?_)
      · have d2 : w 5 i ≤ 0 := cT c2
        exact key _ _ (by rw [if_pos d1]) (by rw [if_neg (Int32.not_lt.mpr d2)])
      · have d2 : ¬ w 5 i ≤ 0 := cF c2
        exact key _ _ (by rw [if_pos d1]) (by rw [if_pos (Int32.not_le.mp d2)])
  · have q := h x hx
    rw [wFired_eq ok] at q
    unfold wOfGr wPos at q
    show aEnd _ (6, [some (.ref 8), some (.int (0 + _)), some (.int (0 + _)), some (.int x)], [], aHn sn sf m, (0, 0)) r
    rw [Int32.zero_add, Int32.zero_add]
    refine aVn_end (stop := fun p => p == 60) 60 ?_
    refine Exists.intro 6 (And.intro (ixN (f := 6) rfl (by omega)) ?_)
    refine And.intro (fun _ => ?_) (fun c => absurd (zgeF c hx hn (by omega) (by omega)) (by omega))
    exact q
theorem y_firstShareX (d : Nat) (R : Rl w (m 0) n g o) (ok : wOkA w n g o) (h : wFired w n = 0) : aRun false (d + 7) m_X8_firstShare [.ref 8] (aHn sn sf m) = some (.inl (some (.double 0)), aHn sn sf (upw m 9 2 1), (0, 0)) := by
  have fin : ∀ x, x = Int32.ofNat n → aEnd (aStep (aRun false (d + 6)) aCls [] aB_X8_firstShare (some .double) false) (60, [some (.ref 8), some (.int (wOfGr w n 1)), some (.int (wFired w n)), some (.int x)], [], aHn sn sf m, (0, 0)) (.inl (some (.double 0)), aHn sn sf (upw m 9 2 1), (0, 0)) := fun x _ => by
    refine aVn_end (stop := fun p => false) 60 ?_
    refine And.intro (fun c => absurd h (cT c)) (fun _ => ?_)
    refine And.intro (fun c => absurd (show false = true from c) (by decide)) (fun _ => ?_)
    first
      | exact rfl
      | exact And.intro rfl rfl
      | (refine And.intro ?_ rfl; decide)
  have main := l_firstShare (sn := sn) (sf := sf) (m := m) d R ok fin
  refine aRun_of rfl (aVn_end (stop := fun p => p == 6) 60 ?_)
  exact main
theorem y_firstShare (d : Nat) (R : Rl w (m 0) n g o) (ok : wOkA w n g o) (h : ¬ wFired w n = 0) (hq : FP.ddiv (FP.i2d (wOfGr w n 1)) (FP.i2d (wFired w n)) &&& 0x7fffffffffffffff ≤ 0x7ff0000000000000) : aRun false (d + 7) m_X8_firstShare [.ref 8] (aHn sn sf m) = some (.inl (some (.double (FP.ddiv (FP.i2d (wOfGr w n 1)) (FP.i2d (wFired w n))))), aHn sn sf (upw m 9 2 0), (0, 0)) := by
  have fin : ∀ x, x = Int32.ofNat n → aEnd (aStep (aRun false (d + 6)) aCls [] aB_X8_firstShare (some .double) false) (60, [some (.ref 8), some (.int (wOfGr w n 1)), some (.int (wFired w n)), some (.int x)], [], aHn sn sf m, (0, 0)) (.inl (some (.double (FP.ddiv (FP.i2d (wOfGr w n 1)) (FP.i2d (wFired w n))))), aHn sn sf (upw m 9 2 0), (0, 0)) := fun x _ => by
    refine aVn_end (stop := fun p => false) 60 ?_
    refine And.intro (fun _ => ?_) (fun c => absurd (cF c) (fun q => q h))
    refine And.intro (fun _ => ?_) (fun c => absurd (show true = false from c) (by decide))
    exact And.intro hq rfl
  have main := l_firstShare (sn := sn) (sf := sf) (m := m) d R ok fin
  refine aRun_of rfl (aVn_end (stop := fun p => p == 6) 60 ?_)
  exact main
end YU
