/-! THE KILN'S STATES: what stands now, what stood before the latest changes -/
abbrev nw (w : aW) : Nat := zn (w 16 3)
abbrev gw (w : aW) : Nat := zn (w 16 4)
abbrev ow (w : aW) : Nat := zn (w 16 5)
/-- the latest states, the last first -/
def HI (k : aW) (V : Nat → aW) (l : List aW) : Prop := ∃ c j, c ≤ 8 ∧ j < 8 ∧ k 7 3 = Int32.ofNat c ∧ k 7 4 = Int32.ofNat j ∧ l.length ≤ c ∧ ∀ e x, l[e]? = some x → V (3 + (j + 7 - e) % 8) = x
/-- H holds a kiln: now w, before it l, its reasons (and what else is no part of a state) k, its text empty -/
def OK (sn : Nat) (sf : Nat → Int32) (w : aW) (l : List aW) (k : aW) (H : aH) : Prop := ∃ V, KAt sn sf k V H ∧ V 0 = w ∧ okk w ∧ HI k V l ∧ k 7 5 = 0 ∧ ∀ x, x ∈ l → okk x
/-- what a change answers (c1, c2, c3 where it is not done), and the kiln behind it -/
def Res (sn : Nat) (sf : Nat → Int32) (w : aW) (l : List aW) (k : aW) (c1 c2 c3 : Int32) (f : aW → aZ) (v : Int32) (H1 : aH) : Prop := ∃ wd, ((f wd).1 = -1 ∧ v = c1 ∧ OK sn sf w l k H1) ∨ ((f wd).1 = -2 ∧ v = c2 ∧ OK sn sf w l k H1) ∨ ((f wd).1 = -3 ∧ v = c3 ∧ OK sn sf w l (cpWhy (f wd).2 k) H1) ∨ (0 ≤ (f wd).1 ∧ v = (f wd).1 ∧ ∃ k1, OK sn sf (f wd).2 ((w :: l).take 8) k1 H1)
section OPS
variable {sn : Nat} {sf : Nat → Int32} {w : aW} {l : List aW} {k k1 : aW} {V : Nat → aW} {H E : aH} {d m j c : Nat} {as : List Value} {x y z u t s : Int32} {kk : aK} {f : aW → aZ} {Es : List Int32}
theorem HI_no {k1 : aW} (h : HI k V l) (h3 : k1 7 3 = k 7 3) (h4 : k1 7 4 = k 7 4) {w1 : aW} : HI k1 (updW V w1) l := by
  obtain ⟨c, j, h8, hj, e3, e4, hl, hh⟩ := h
  refine ⟨c, j, h8, hj, h3.trans e3, h4.trans e4, hl, fun e x hx => ?_⟩
  show (if 3 + (j + 7 - e) % 8 = 1 then w1 else V (3 + (j + 7 - e) % 8)) = x
  rw [if_neg (by omega)]
  exact hh e x hx
theorem HI_ok (h : HI k V l) (hj : k 7 4 = Int32.ofNat j) (hj8 : j < 8) {w1 : aW} : HI (kKeep k j) (rotW V j w1) ((V 0 :: l).take 8) := by
  obtain ⟨c, j1, h8, hj1, e3, e4, hl, hh⟩ := h
  have ej : j1 = j := ofN_ne (by omega) (by omega) (e4.symm.trans hj)
  subst ej
  refine ⟨if c = 8 then 8 else c + 1, (j1 + 1) % 8, by split <;> omega, by omega, ?_, rfl, ?_, fun e x hx => ?_⟩
  · show (if 8 < k 7 3 + 1 then (8 : Int32) else k 7 3 + 1) = _
    by_cases c8 : c = 8
    · subst c8
      rw [e3]
      rfl
    · rw [if_neg c8, zI_s e3, if_neg (fun q => by have := (zI_lt (i := 8) (n := c + 1) rfl rfl (by omega) (by omega)).mp q; omega)]
  · rw [List.length_take, List.length_cons]
    split <;> omega
  · rw [List.getElem?_take] at hx
    split at hx
    · rename_i he
      cases e with
      | zero =>
        cases hx
        rw [show 3 + ((j1 + 1) % 8 + 7 - 0) % 8 = 3 + j1 by omega]
        exact rot_j (B := 0)
      | succ e =>
        rw [show 3 + ((j1 + 1) % 8 + 7 - (e + 1)) % 8 = 3 + (j1 + 7 - e) % 8 by omega, rot_o (by omega) (by omega)]
        exact hh e x hx
    · cases hx
theorem HI_un {x : aW} (h : HI k V (x :: l)) (hj : k 7 4 = Int32.ofNat j) (hj8 : j < 8) : HI (kUndo k j) (swpW V ((j + 7) % 8)) l ∧ swpW V ((j + 7) % 8) 0 = x ∧ ¬ k 7 3 = 0 := by
  obtain ⟨c, j1, h8, hj1, e3, e4, hl, hh⟩ := h
  have ej : j1 = j := ofN_ne (by omega) (by omega) (e4.symm.trans hj)
  subst ej
  rw [List.length_cons] at hl
  obtain ⟨c, rfl⟩ : ∃ c1, c = c1 + 1 := ⟨c - 1, by omega⟩
  have e1 : k 7 3 - 1 = Int32.ofNat c := by rw [e3]; exact sub1
  refine ⟨⟨c, (j1 + 7) % 8, by omega, by omega, ?_, rfl, by omega, fun e y hy => ?_⟩, ?_, fun q => ?_⟩
  · show (if k 7 3 - 1 < 0 then (0 : Int32) else k 7 3 - 1) = _
    rw [e1, if_neg (ofN_lt0 (by omega))]
  · have he : e < l.length := (List.getElem?_eq_some_iff.mp hy).1
    have h1 := hh (e + 1) y hy
    rw [show 3 + ((j1 + 7) % 8 + 7 - e) % 8 = 3 + (j1 + 7 - (e + 1)) % 8 by omega, swp_o (by omega) (by omega)]
    exact h1
  · have h1 := hh 0 x rfl
    show (if 0 = 0 then V (3 + (j1 + 7) % 8) else _) = x
    rw [if_pos rfl]
    exact h1
  · rw [e3] at q
    have := ofN_ne (i := c + 1) (j := 0) (by omega) (by omega) q
    omega
/-- a change -/
theorem op_any (O : OK sn sf w l k H) (hk : ∀ wd ws j, k 7 4 = Int32.ofNat j → j < 8 → aRun false d m as (aHk sn sf 21 42 aRg k w wd ws) = some (kSet sn sf k w ws j (f wd))) (hP : ∀ wd, PE Es (f wd)) (ha : ∀ u : Nat → Nat, u 8 = 8 → as.map (aCv u) = as) : ∃ H1 wd, ((f wd).1 = -1 ∧ (-1 : Int32) ∈ Es ∧ aRun false d m as (H ++ E) = some (.inr 2, H1 ++ E, (1, 6)) ∧ OK sn sf w l k H1) ∨ ((f wd).1 = -2 ∧ (-2 : Int32) ∈ Es ∧ aRun false d m as (H ++ E) = some (.inr 0, H1 ++ E, (1, 6)) ∧ OK sn sf w l k H1) ∨ ((f wd).1 = -3 ∧ (-3 : Int32) ∈ Es ∧ aRun false d m as (H ++ E) = some (.inr 1, H1 ++ E, (1, 6)) ∧ OK sn sf w l (cpWhy (f wd).2 k) H1) ∨ (0 ≤ (f wd).1 ∧ aRun false d m as (H ++ E) = some (.inl (some (.int (f wd).1)), H1 ++ E, (0, 0)) ∧ ∃ k1, OK sn sf (f wd).2 ((w :: l).take 8) k1 H1) := by
  obtain ⟨V, A, rfl, hok, hi, h5, hl⟩ := O
  obtain ⟨c, j, h8, hj8, e3, e4, -⟩ := id hi
  have hr := hk (V 1) (V 2) j e4 hj8
  rcases hP (V 1) with ⟨hm, h | h⟩ | ⟨hm, h, -⟩ | ⟨h0, n, g, o, hok1⟩
  · rw [h] at hm
    have hr1 : aRun false d m as (aHk sn sf 21 42 aRg k (V 0) (V 1) (V 2)) = some (.inr 2, aHk sn sf 21 42 aRg k (V 0) (f (V 1)).2 (V 2), (1, 6)) := hr.trans (congrArg some (if_pos h))
    obtain ⟨H1, e1, A1⟩ := at_no (E := E) A hr1 ha (fun _ => rfl)
    exact ⟨H1, V 1, Or.inl ⟨h, hm, e1, _, A1, rfl, hok, HI_no hi rfl rfl, h5, hl⟩⟩
  · rw [h] at hm
    have hr1 : aRun false d m as (aHk sn sf 21 42 aRg k (V 0) (V 1) (V 2)) = some (.inr 0, aHk sn sf 21 42 aRg k (V 0) (f (V 1)).2 (V 2), (1, 6)) := hr.trans (congrArg some ((if_neg (by rw [h]; decide)).trans (if_pos h)))
    obtain ⟨H1, e1, A1⟩ := at_no (E := E) A hr1 ha (fun _ => rfl)
    exact ⟨H1, V 1, Or.inr (Or.inl ⟨h, hm, e1, _, A1, rfl, hok, HI_no hi rfl rfl, h5, hl⟩)⟩
  · rw [h] at hm
    have hr1 : aRun false d m as (aHk sn sf 21 42 aRg k (V 0) (V 1) (V 2)) = some (.inr 1, aHk sn sf 21 42 aRg (cpWhy (f (V 1)).2 k) (V 0) (f (V 1)).2 (V 2), (1, 6)) := hr.trans (congrArg some ((if_neg (by rw [h]; decide)).trans ((if_neg (by rw [h]; decide)).trans (if_pos h))))
    obtain ⟨H1, e1, A1⟩ := at_no (E := E) A hr1 ha (fun _ => rfl)
    exact ⟨H1, V 1, Or.inr (Or.inr (Or.inl ⟨h, hm, e1, _, A1, rfl, hok, HI_no hi rfl rfl, h5, hl⟩))⟩
  · have n1 : ∀ e : Int32, e < 0 → ¬ (f (V 1)).1 = e := fun e he q => absurd h0 (by rw [q]; exact Int32.not_le.mpr he)
    have hr1 : aRun false d m as (aHk sn sf 21 42 aRg k (V 0) (V 1) (V 2)) = some (.inl (some (.int (f (V 1)).1)), aHk sn sf 42 (84 + 21 * j) (va_up aRg j (some 21)) (kKeep k j) (V 0) (f (V 1)).2 (V 2), (0, 0)) := hr.trans (congrArg some ((if_neg (n1 _ (by decide))).trans ((if_neg (n1 _ (by decide))).trans (if_neg (n1 _ (by decide))))))
    obtain ⟨H1, e1, A1⟩ := at_ok (E := E) A hj8 hr1 ha (fun _ => rfl)
    refine ⟨H1, V 1, Or.inr (Or.inr (Or.inr ⟨h0, e1, kKeep k j, _, A1, rfl, okk_of hok1, HI_ok hi e4 hj8, h5, fun x hx => ?_⟩))⟩
    rcases List.mem_cons.mp (List.mem_of_mem_take hx) with rfl | hx
    · exact hok
    · exact hl x hx
/-- a question -/
theorem ask_any {e : Nat ⊕ Int32} (O : OK sn sf w l k H) (hk : ∀ wd ws, aRun false d m as (aHk sn sf 21 42 aRg k w wd ws) = some (kRes (aHk sn sf 21 42 aRg k w wd ws) e)) (ha : ∀ u : Nat → Nat, u 8 = 8 → as.map (aCv u) = as) : aRun false d m as (H ++ E) = some (kRes (H ++ E) e) := by
  obtain ⟨V, A, rfl, hok, hi, h5, hl⟩ := O
  have hr := hk (V 1) (V 2)
  cases e with
  | inl c => exact at_ask (E := E) A hr ha (fun _ => rfl)
  | inr v => exact at_ask (E := E) A hr ha (fun _ => rfl)
/-- a question that answers a number of another kind -/
theorem ask_val {v : Value} (O : OK sn sf w l k H) (hk : ∀ wd ws, aRun false d m as (aHk sn sf 21 42 aRg k w wd ws) = some (.inl (some v), aHk sn sf 21 42 aRg k w wd ws, (0, 0))) (ha : ∀ u : Nat → Nat, u 8 = 8 → as.map (aCv u) = as) (hv : ∀ u, aCv u v = v) : aRun false d m as (H ++ E) = some (.inl (some v), H ++ E, (0, 0)) := by
  obtain ⟨V, A, rfl, hok, hi, h5, hl⟩ := O
  exact at_ask (E := E) A (hk (V 1) (V 2)) ha (fun u => congrArg (fun z => Sum.inl (some z)) (hv u))
theorem as_1 : ∀ u : Nat → Nat, u 8 = 8 → ([.ref 8] : List Value).map (aCv u) = [.ref 8] := fun u h => by simp [aCv, h]
theorem as_2 : ∀ u : Nat → Nat, u 8 = 8 → ([.ref 8, .int x] : List Value).map (aCv u) = [.ref 8, .int x] := fun u h => by simp [aCv, h]
theorem as_3 : ∀ u : Nat → Nat, u 8 = 8 → ([.ref 8, .int x, .int y] : List Value).map (aCv u) = [.ref 8, .int x, .int y] := fun u h => by simp [aCv, h]
theorem as_4 : ∀ u : Nat → Nat, u 8 = 8 → ([.ref 8, .int x, .int y, .int z] : List Value).map (aCv u) = [.ref 8, .int x, .int y, .int z] := fun u h => by simp [aCv, h]
theorem as_7 : ∀ u1 : Nat → Nat, u1 8 = 8 → ([.ref 8, .int x, .int y, .int z, .int u, .int t, .int s] : List Value).map (aCv u1) = [.ref 8, .int x, .int y, .int z, .int u, .int t, .int s] := fun u1 h => by simp [aCv, h]
theorem ok_8 (O : OK sn sf w l k H) : ∃ fs, (H ++ E)[8]? = some (true, .inr (7, fs)) := O.elim fun V q => at_8 q.1
theorem ok_len (O : OK sn sf w l k H) : H.length = 252 := O.elim fun V q => at_len q.1
theorem ok_cl (O : OK sn sf w l k H) (hE : mPl E) : mCl (H ++ E) := O.elim fun V q => at_cl q.1 hE
theorem ok_lo (O : OK sn sf w l k H) {q : Nat} (hq : q < 8) : (H ++ E)[q]? = (aS0 sn sf)[q]? := O.elim fun V p => at_lo p.1 hq
theorem ok_okk (O : OK sn sf w l k H) : okk w := O.elim fun V q => q.2.2.1
end OPS
