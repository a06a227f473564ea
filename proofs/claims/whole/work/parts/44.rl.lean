/-! THE RELATION KEPT BY ONE CHANGE OF A CELL -/
section RL
variable {w v : aW} {s s1 : Nat → Int32} {n g o i j k f b L : Nat} {x y z : Int32}
theorem upd_ne {h : Nat → Int32} (c : ¬ j = i) : upd h i x j = h j := if_neg c
theorem upd_eq {h : Nat → Int32} : upd h i x i = x := if_pos rfl
theorem wfA_inj (hi : i < 7) (hj : j < 7) (h : wfA i = wfA j) : i = j := by
  match i, hi with
  | 0, _ => match j, hj with | 0, _ => rfl | 1, _ => exact absurd h (by decide) | 2, _ => exact absurd h (by decide) | 3, _ => exact absurd h (by decide) | 4, _ => exact absurd h (by decide) | 5, _ => exact absurd h (by decide) | 6, _ => exact absurd h (by decide)
  | 1, _ => match j, hj with | 0, _ => exact absurd h (by decide) | 1, _ => rfl | 2, _ => exact absurd h (by decide) | 3, _ => exact absurd h (by decide) | 4, _ => exact absurd h (by decide) | 5, _ => exact absurd h (by decide) | 6, _ => exact absurd h (by decide)
  | 2, _ => match j, hj with | 0, _ => exact absurd h (by decide) | 1, _ => exact absurd h (by decide) | 2, _ => rfl | 3, _ => exact absurd h (by decide) | 4, _ => exact absurd h (by decide) | 5, _ => exact absurd h (by decide) | 6, _ => exact absurd h (by decide)
  | 3, _ => match j, hj with | 0, _ => exact absurd h (by decide) | 1, _ => exact absurd h (by decide) | 2, _ => exact absurd h (by decide) | 3, _ => rfl | 4, _ => exact absurd h (by decide) | 5, _ => exact absurd h (by decide) | 6, _ => exact absurd h (by decide)
  | 4, _ => match j, hj with | 0, _ => exact absurd h (by decide) | 1, _ => exact absurd h (by decide) | 2, _ => exact absurd h (by decide) | 3, _ => exact absurd h (by decide) | 4, _ => rfl | 5, _ => exact absurd h (by decide) | 6, _ => exact absurd h (by decide)
  | 5, _ => match j, hj with | 0, _ => exact absurd h (by decide) | 1, _ => exact absurd h (by decide) | 2, _ => exact absurd h (by decide) | 3, _ => exact absurd h (by decide) | 4, _ => exact absurd h (by decide) | 5, _ => rfl | 6, _ => exact absurd h (by decide)
  | 6, _ => match j, hj with | 0, _ => exact absurd h (by decide) | 1, _ => exact absurd h (by decide) | 2, _ => exact absurd h (by decide) | 3, _ => exact absurd h (by decide) | 4, _ => exact absurd h (by decide) | 5, _ => exact absurd h (by decide) | 6, _ => rfl
theorem wfA_r (f : Nat) : 1 ≤ wfA f ∧ wfA f ≤ 7 := by
  unfold wfA
  split <;> decide
/-- saggars' links depend on their places alone -/
theorem wAt_cg (h8 : ∀ j, j < g → v 8 j = w 8 j) (h9 : ∀ j, j < g → v 9 j = w 9 j) (y z : Int32) : wAt v g y z = wAt w g y z :=
  aFd_congr _ _ g 0 fun j _ hj => by rw [h8 j (by omega), h9 j (by omega)]
theorem wDn_cg (h8 : ∀ j, j < g → v 8 j = w 8 j) (h9 : ∀ j, j < g → v 9 j = w 9 j) (hg : g ≤ 8) (hj : j < g) : wDn v g (Int32.ofNat j) = wDn w g (Int32.ofNat j) := by
  unfold wDn
  rw [zn_of rfl (by omega), h8 j hj, h9 j hj, wAt_cg h8 h9]
theorem wUp_cg (h8 : ∀ j, j < g → v 8 j = w 8 j) (h9 : ∀ j, j < g → v 9 j = w 9 j) (hg : g ≤ 8) (hj : j < g) : wUp v g (Int32.ofNat j) = wUp w g (Int32.ofNat j) := by
  unfold wUp
  rw [zn_of rfl (by omega), h8 j hj, h9 j hj, wAt_cg h8 h9]
/-- the relation, where the places that count are the same -/
theorem Rl_cg (R : Rl w s n g o) (hn : n ≤ 60) (hg : g ≤ 8) (ho : o ≤ 6) (hw : wSame v w) (hs : ∀ i, i < 495 → s1 i = s i) : Rl v s1 n g o := by
  obtain ⟨⟨a0, a1, a2, a3, a4, a5, a6, a7, a8⟩, b, c, d⟩ := R
  refine ⟨⟨?_, ?_, ?_, ?_, ?_, ?_, ?_, ?_, ?_⟩, fun j hj x hx => ?_, fun j hj => ?_, fun i hi => ?_⟩
  · rw [hs 0 (by omega), hw 0 0 (rg0 (by omega))]; exact a0
  · rw [hs 1 (by omega), hw 0 1 (rg0 (by omega))]; exact a1
  · rw [hs 2 (by omega), hw 0 2 (rg0 (by omega))]; exact a2
  · rw [hs 3 (by omega), hw 16 0 (rg16 (by omega))]; exact a3
  · rw [hs 4 (by omega), hw 16 1 (rg16 (by omega))]; exact a4
  · rw [hs 5 (by omega), hw 16 2 (rg16 (by omega))]; exact a5
  · rw [hs 6 (by omega), hw 16 3 (rg16 (by omega))]; exact a6
  · rw [hs 7 (by omega), hw 16 4 (rg16 (by omega))]; exact a7
  · rw [hs 8 (by omega), hw 16 5 (rg16 (by omega))]; exact a8
  · rw [hs _ (by omega), hw (wfA x) j (rg1 (wfA_r x).1 (wfA_r x).2 (by omega))]
    exact b j hj x hx
  · have h8 : ∀ j, j < g → v 8 j = w 8 j := fun j hj => hw 8 j (rg8 (by omega)).1
    have h9 : ∀ j, j < g → v 9 j = w 9 j := fun j hj => hw 9 j (rg8 (by omega)).2
    refine ⟨?_, ?_, ?_⟩
    · rw [hs _ (by omega), h8 j hj]; exact (c j hj).1
    · rw [hs _ (by omega), wDn_cg h8 h9 hg hj]; exact (c j hj).2.1
    · rw [hs _ (by omega), wUp_cg h8 h9 hg hj]; exact (c j hj).2.2
  · refine ⟨fun x hx => ?_, ?_, ?_, ?_⟩
    · rw [hs _ (by omega), hw 13 _ (rg13 (by omega))]; exact (d i hi).1 x hx
    · rw [hs _ (by omega), hw 10 i (rg10 (by omega)).1]; exact (d i hi).2.1
    · rw [hs _ (by omega), hw 11 i (rg10 (by omega)).2.1]; exact (d i hi).2.2.1
    · rw [hs _ (by omega), hw 12 i (rg10 (by omega)).2.2]; exact (d i hi).2.2.2
/-- a ware's number -/
theorem Rl_w (R : Rl w s n g o) (hn : n ≤ 60) (hg : g ≤ 8) (hi : i < n) (hf : f < 7) : Rl (upw w (wfA f) i x) (upd s (9 + 7 * i + f) x) n g o := by
  have hr := wfA_r f
  obtain ⟨⟨a0, a1, a2, a3, a4, a5, a6, a7, a8⟩, b, c, d⟩ := R
  have w0 : ∀ a j, (a = 0 ∨ 8 ≤ a) → upw w (wfA f) i x a j = w a j := fun a j h => upw_ne (fun q => by have := q.1; omega)
  have e0 : ∀ j, (j < 9 ∨ 429 ≤ j) → upd s (9 + 7 * i + f) x j = s j := fun j h => upd_ne (by omega)
  refine ⟨⟨?_, ?_, ?_, ?_, ?_, ?_, ?_, ?_, ?_⟩, fun j hj y hy => ?_, fun j hj => ?_, fun k hk => ?_⟩
  · rw [e0 0 (by omega), w0 0 0 (by omega)]; exact a0
  · rw [e0 1 (by omega), w0 0 1 (by omega)]; exact a1
  · rw [e0 2 (by omega), w0 0 2 (by omega)]; exact a2
  · rw [e0 3 (by omega), w0 16 0 (by omega)]; exact a3
  · rw [e0 4 (by omega), w0 16 1 (by omega)]; exact a4
  · rw [e0 5 (by omega), w0 16 2 (by omega)]; exact a5
  · rw [e0 6 (by omega), w0 16 3 (by omega)]; exact a6
  · rw [e0 7 (by omega), w0 16 4 (by omega)]; exact a7
  · rw [e0 8 (by omega), w0 16 5 (by omega)]; exact a8
  · by_cases e : j = i ∧ y = f
    · obtain ⟨rfl, rfl⟩ := e
      rw [upd_eq, upw_eq]
    · rw [upd_ne (by omega), upw_ne (fun q => e ⟨q.2, wfA_inj hy hf q.1⟩)]
      exact b j hj y hy
  · have h8 : ∀ j, j < g → upw w (wfA f) i x 8 j = w 8 j := fun j _ => w0 8 j (by omega)
    have h9 : ∀ j, j < g → upw w (wfA f) i x 9 j = w 9 j := fun j _ => w0 9 j (by omega)
    refine ⟨?_, ?_, ?_⟩
    · rw [e0 _ (by omega), h8 j hj]; exact (c j hj).1
    · rw [e0 _ (by omega), wDn_cg h8 h9 hg hj]; exact (c j hj).2.1
    · rw [e0 _ (by omega), wUp_cg h8 h9 hg hj]; exact (c j hj).2.2
  · refine ⟨fun x hx => ?_, ?_, ?_, ?_⟩
    · rw [e0 _ (by omega), w0 13 _ (by omega)]; exact (d k hk).1 x hx
    · rw [e0 _ (by omega), w0 10 _ (by omega)]; exact (d k hk).2.1
    · rw [e0 _ (by omega), w0 11 _ (by omega)]; exact (d k hk).2.2.1
    · rw [e0 _ (by omega), w0 12 _ (by omega)]; exact (d k hk).2.2.2
/-- a number of the kiln's own: settings, stock, bought, firings -/
theorem Rl_h (R : Rl w s n g o) (hg : g ≤ 8) {a l : Nat} (h : (a = 0 ∧ l < 3 ∧ k = l) ∨ (a = 16 ∧ l < 3 ∧ k = l + 3)) : Rl (upw w a l x) (upd s k x) n g o := by
  obtain ⟨⟨a0, a1, a2, a3, a4, a5, a6, a7, a8⟩, b, c, d⟩ := R
  have w0 : ∀ c j, ¬ (c = 0 ∨ c = 16) → upw w a l x c j = w c j := fun c j h1 => upw_ne (fun q => by omega)
  have e0 : ∀ j, 6 ≤ j → upd s k x j = s j := fun j h1 => upd_ne (by omega)
  have key : ∀ i b j, i < 6 → ((b = 0 ∧ j < 3 ∧ i = j) ∨ (b = 16 ∧ j < 3 ∧ i = j + 3)) → s i = w b j → upd s k x i = upw w a l x b j := by
    intro i b j hi h1 h2
    by_cases e : i = k
    · have e1 : b = a := by omega
      have e2 : j = l := by omega
      rw [e, e1, e2, upd_eq, upw_eq]
    · rw [upd_ne e, upw_ne (fun q => e (by omega))]
      exact h2
  refine ⟨⟨key 0 0 0 (by omega) (by omega) a0, key 1 0 1 (by omega) (by omega) a1, key 2 0 2 (by omega) (by omega) a2, key 3 16 0 (by omega) (by omega) a3, key 4 16 1 (by omega) (by omega) a4, key 5 16 2 (by omega) (by omega) a5, ?_, ?_, ?_⟩, fun j hj y hy => ?_, fun j hj => ?_, fun k hk => ?_⟩
  · rw [e0 6 (by omega), upw_ne (by omega)]; exact a6
  · rw [e0 7 (by omega), upw_ne (by omega)]; exact a7
  · rw [e0 8 (by omega), upw_ne (by omega)]; exact a8
  · have := wfA_r y
    rw [e0 _ (by omega), w0 _ _ (by omega)]
    exact b j hj y hy
  · have h8 : ∀ j, j < g → upw w a l x 8 j = w 8 j := fun j _ => w0 8 j (by omega)
    have h9 : ∀ j, j < g → upw w a l x 9 j = w 9 j := fun j _ => w0 9 j (by omega)
    refine ⟨?_, ?_, ?_⟩
    · rw [e0 _ (by omega), h8 j hj]; exact (c j hj).1
    · rw [e0 _ (by omega), wDn_cg h8 h9 hg hj]; exact (c j hj).2.1
    · rw [e0 _ (by omega), wUp_cg h8 h9 hg hj]; exact (c j hj).2.2
  · refine ⟨fun x hx => ?_, ?_, ?_, ?_⟩
    · rw [e0 _ (by omega), w0 13 _ (by omega)]; exact (d k hk).1 x hx
    · rw [e0 _ (by omega), w0 10 _ (by omega)]; exact (d k hk).2.1
    · rw [e0 _ (by omega), w0 11 _ (by omega)]; exact (d k hk).2.2.1
    · rw [e0 _ (by omega), w0 12 _ (by omega)]; exact (d k hk).2.2.2
/-- one order more sold -/
theorem Rl_sold (R : Rl w s n g o) (hn : n ≤ 60) (hg : g ≤ 8) (hi : i < o) : Rl (upw w 12 i x) (upd s (453 + 7 * i + 6) x) n g o := by
  obtain ⟨⟨a0, a1, a2, a3, a4, a5, a6, a7, a8⟩, b, c, d⟩ := R
  have w0 : ∀ a j, ¬ a = 12 → upw w 12 i x a j = w a j := fun a j h => upw_ne (fun q => h q.1)
  have e0 : ∀ j, j < 453 → upd s (453 + 7 * i + 6) x j = s j := fun j h => upd_ne (by omega)
  refine ⟨⟨?_, ?_, ?_, ?_, ?_, ?_, ?_, ?_, ?_⟩, fun j hj y hy => ?_, fun j hj => ?_, fun k hk => ?_⟩
  · rw [e0 0 (by omega), w0 0 0 (by omega)]; exact a0
  · rw [e0 1 (by omega), w0 0 1 (by omega)]; exact a1
  · rw [e0 2 (by omega), w0 0 2 (by omega)]; exact a2
  · rw [e0 3 (by omega), w0 16 0 (by omega)]; exact a3
  · rw [e0 4 (by omega), w0 16 1 (by omega)]; exact a4
  · rw [e0 5 (by omega), w0 16 2 (by omega)]; exact a5
  · rw [e0 6 (by omega), w0 16 3 (by omega)]; exact a6
  · rw [e0 7 (by omega), w0 16 4 (by omega)]; exact a7
  · rw [e0 8 (by omega), w0 16 5 (by omega)]; exact a8
  · have := wfA_r y
    rw [e0 _ (by omega), w0 _ _ (by omega)]
    exact b j hj y hy
  · have h8 : ∀ j, j < g → upw w 12 i x 8 j = w 8 j := fun j _ => w0 8 j (by omega)
    have h9 : ∀ j, j < g → upw w 12 i x 9 j = w 9 j := fun j _ => w0 9 j (by omega)
    refine ⟨?_, ?_, ?_⟩
    · rw [e0 _ (by omega), h8 j hj]; exact (c j hj).1
    · rw [e0 _ (by omega), wDn_cg h8 h9 hg hj]; exact (c j hj).2.1
    · rw [e0 _ (by omega), wUp_cg h8 h9 hg hj]; exact (c j hj).2.2
  · refine ⟨fun x hx => ?_, ?_, ?_, ?_⟩
    · rw [upd_ne (by omega), w0 13 _ (by omega)]; exact (d k hk).1 x hx
    · rw [upd_ne (by omega), w0 10 _ (by omega)]; exact (d k hk).2.1
    · rw [upd_ne (by omega), w0 11 _ (by omega)]; exact (d k hk).2.2.1
    · by_cases e : k = i
      · rw [e, upd_eq, upw_eq]
      · rw [upd_ne (by omega), upw_ne (by omega)]
        exact (d k hk).2.2.2
/-- one ware more -/
def sAdd (s : Nat → Int32) (n : Nat) (x y c : Int32) : Nat → Int32 := upd (upd (upd (upd (upd (upd (upd (upd s (9 + 7 * n + 0) x) (9 + 7 * n + 1) y) (9 + 7 * n + 2) 0) (9 + 7 * n + 3) (-1)) (9 + 7 * n + 4) 0) (9 + 7 * n + 5) (-1)) (9 + 7 * n + 6) 0) 6 c
theorem Rl_add (R : Rl w s n g o) (hn : n < 60) (hg : g ≤ 8) : Rl (wAdd w n x y) (sAdd s n x y (w 16 3 + 1)) (n + 1) g o := by
  obtain ⟨⟨a0, a1, a2, a3, a4, a5, a6, a7, a8⟩, b, c, d⟩ := R
  have e0 : ∀ j, (j < 6 ∨ j = 7 ∨ j = 8 ∨ (9 ≤ j ∧ j < 9 + 7 * n) ∨ 9 + 7 * n + 7 ≤ j) → sAdd s n x y (w 16 3 + 1) j = s j := by
    intro j h
    unfold sAdd
    rw [upd_ne (by omega), upd_ne (by omega), upd_ne (by omega), upd_ne (by omega), upd_ne (by omega), upd_ne (by omega), upd_ne (by omega), upd_ne (by omega)]
  have w0 : ∀ a j, (a = 0 ∨ (8 ≤ a ∧ ¬ a = 16)) → wAdd w n x y a j = w a j := by
    intro a j h
    unfold wAdd
    rw [upw_ne (by omega), upw_ne (by omega), upw_ne (by omega), upw_ne (by omega), upw_ne (by omega), upw_ne (by omega), upw_ne (by omega), upw_ne (by omega)]
  have w1 : ∀ a j, ¬ j = n → ¬ a = 16 → wAdd w n x y a j = w a j := by
    intro a j h h1
    unfold wAdd
    rw [upw_ne (by omega), upw_ne (by omega), upw_ne (by omega), upw_ne (by omega), upw_ne (by omega), upw_ne (by omega), upw_ne (by omega), upw_ne (by omega)]
  have w16 : ∀ j, ¬ j = 3 → wAdd w n x y 16 j = w 16 j := by
    intro j h
    unfold wAdd
    rw [upw_ne (by omega), upw_ne (by omega), upw_ne (by omega), upw_ne (by omega), upw_ne (by omega), upw_ne (by omega), upw_ne (by omega), upw_ne (by omega)]
  refine ⟨⟨?_, ?_, ?_, ?_, ?_, ?_, ?_, ?_, ?_⟩, fun j hj f hf => ?_, fun j hj => ?_, fun k hk => ?_⟩
  · rw [e0 0 (by omega), w0 0 0 (by omega)]; exact a0
  · rw [e0 1 (by omega), w0 0 1 (by omega)]; exact a1
  · rw [e0 2 (by omega), w0 0 2 (by omega)]; exact a2
  · rw [e0 3 (by omega), w16 0 (by omega)]; exact a3
  · rw [e0 4 (by omega), w16 1 (by omega)]; exact a4
  · rw [e0 5 (by omega), w16 2 (by omega)]; exact a5
  · unfold sAdd wAdd
    rw [upd_eq, upw_eq]
  · rw [e0 7 (by omega), w16 4 (by omega)]; exact a7
  · rw [e0 8 (by omega), w16 5 (by omega)]; exact a8
  · have hr := wfA_r f
    by_cases e : j = n
    · subst e
      unfold sAdd wAdd
      match f, hf with
      | 0, _ => rw [upd_ne (by omega), upd_ne (by omega), upd_ne (by omega), upd_ne (by omega), upd_ne (by omega), upd_ne (by omega), upd_ne (by omega), upd_eq]; show x = upd _ j _ j; exact upd_eq.symm
      | 1, _ => rw [upd_ne (by omega), upd_ne (by omega), upd_ne (by omega), upd_ne (by omega), upd_ne (by omega), upd_ne (by omega), upd_eq]; show y = upd _ j _ j; exact upd_eq.symm
      | 2, _ => rw [upd_ne (by omega), upd_ne (by omega), upd_ne (by omega), upd_ne (by omega), upd_ne (by omega), upd_eq]; show (0 : Int32) = upd _ j _ j; exact upd_eq.symm
      | 3, _ => rw [upd_ne (by omega), upd_ne (by omega), upd_ne (by omega), upd_ne (by omega), upd_eq]; show (-1 : Int32) = upd _ j _ j; exact upd_eq.symm
      | 4, _ => rw [upd_ne (by omega), upd_ne (by omega), upd_ne (by omega), upd_eq]; show (0 : Int32) = upd _ j _ j; exact upd_eq.symm
      | 5, _ => rw [upd_ne (by omega), upd_ne (by omega), upd_eq]; show (-1 : Int32) = upd _ j _ j; exact upd_eq.symm
      | 6, _ => rw [upd_ne (by omega), upd_eq]; show (0 : Int32) = upd _ j _ j; exact upd_eq.symm
    · rw [e0 _ (by omega), w1 _ _ e (by omega)]
      exact b j (by omega) f hf
  · have h8 : ∀ j, j < g → wAdd w n x y 8 j = w 8 j := fun j _ => w0 8 j (by omega)
    have h9 : ∀ j, j < g → wAdd w n x y 9 j = w 9 j := fun j _ => w0 9 j (by omega)
    refine ⟨?_, ?_, ?_⟩
    · rw [e0 _ (by omega), h8 j hj]; exact (c j hj).1
    · rw [e0 _ (by omega), wDn_cg h8 h9 hg hj]; exact (c j hj).2.1
    · rw [e0 _ (by omega), wUp_cg h8 h9 hg hj]; exact (c j hj).2.2
  · refine ⟨fun x hx => ?_, ?_, ?_, ?_⟩
    · rw [e0 _ (by omega), w0 13 _ (by omega)]; exact (d k hk).1 x hx
    · rw [e0 _ (by omega), w0 10 _ (by omega)]; exact (d k hk).2.1
    · rw [e0 _ (by omega), w0 11 _ (by omega)]; exact (d k hk).2.2.1
    · rw [e0 _ (by omega), w0 12 _ (by omega)]; exact (d k hk).2.2.2
end RL
