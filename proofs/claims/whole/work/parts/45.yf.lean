/-! THE MODEL'S CHANGES: casting, glazing, putting -/
def mFr (m m1 : aW) : Prop := (∀ a, ¬ a = 0 → ¬ a = 5 → ¬ a = 6 → ¬ a = 9 → m1 a = m a) ∧ ∀ i, ¬ i = 2 → ¬ i = 3 → m1 9 i = m 9 i
/-- the reasons told are those of the Works -/
def mWhy (w m1 : aW) : Prop := ∃ c, 1 ≤ c ∧ c ≤ 3 ∧ w 16 6 = Int32.ofNat c ∧ m1 9 3 = Int32.ofNat c ∧ ∀ i, i < c → m1 5 i = w 14 i ∧ m1 6 i = w 15 i
/-- what a change of the model has done: as the class's p says; f: which number an exception has -/
def mDo (p : aZ) (f : Int32 → Int32) (m m1 : aW) (v : Int32) : Prop := mFr m m1 ∧
  (0 ≤ p.1 → v = p.1 ∧ m1 9 2 = 0 ∧ (∃ n g o, Rl p.2 (m1 0) n g o ∧ okN p.2 n g o) ∧ m1 9 3 = m 9 3 ∧ m1 5 = m 5 ∧ m1 6 = m 6) ∧
  (p.1 < 0 → m1 0 = m 0 ∧ m1 9 2 = f p.1 ∧ 0 < f p.1 ∧ (¬ p.1 = -3 → m1 9 3 = m 9 3 ∧ m1 5 = m 5 ∧ m1 6 = m 6) ∧ (p.1 = -3 → mWhy p.2 m1))
section YF
variable {sn : Nat} {sf : Nat → Int32} {m m1 w : aW} {n g o i j k f b L : Nat} {x y z v u s t c : Int32}
theorem mDo_x {p : aZ} {f : Int32 → Int32} (h : p.1 = -1 ∨ p.1 = -2) (hc : f p.1 = c) (h0 : 0 < c) : mDo p f m (upw m 9 2 c) v := by
  have hlt : p.1 < 0 := by rcases h with h | h <;> (rw [h]; decide)
  have hne : ¬ p.1 = -3 := by rcases h with h | h <;> (rw [h]; decide)
  refine ⟨⟨fun a h0 h5 h6 h9 => ?_, fun i h2 h3 => upw_ne (by omega)⟩, fun q => absurd hlt (Int32.not_lt.mpr q), fun _ => ⟨rfl, upw_eq.trans hc.symm, by rw [hc]; exact h0, fun _ => ⟨upw_ne (by omega), rfl, rfl⟩, fun q => absurd q hne⟩⟩
  funext j
  exact upw_ne (by omega)
theorem mDo_r {w : aW} {p : aZ} {f : Int32 → Int32} {x y : Int32} (h : p = (-3, wNote w x y)) (hc : f (-3) = c) (h0 : 0 < c) : mDo p f m (mRef (upw m 9 2 0) c x y) v := by
  subst h
  refine ⟨⟨fun a h0 h5 h6 h9 => ?_, fun i h2 h3 => ?_⟩, fun q => absurd (show (-3 : Int32) < 0 by decide) (Int32.not_lt.mpr q), fun _ => ⟨rfl, ?_, by rw [hc]; exact h0, fun q => absurd rfl q, fun _ => ⟨1, by omega, by omega, ?_, ?_, fun i hi => ?_⟩⟩⟩
  · funext j
    unfold mRef
    rw [upw_ne (by omega), upw_ne (by omega), upw_ne (by omega), upw_ne (by omega), upw_ne (by omega)]
  · unfold mRef
    rw [upw_ne (by omega), upw_ne (by omega), upw_ne (by omega), upw_ne (by omega), upw_ne (by omega)]
  · unfold mRef
    rw [upw_ne (by omega), upw_ne (by omega), upw_ne (by omega), upw_eq]
    exact hc.symm
  · show wNote w x y 16 6 = _
    exact upw_eq
  · exact upw_eq
  · have : i = 0 := by omega
    subst this
    refine ⟨?_, ?_⟩
    · show mRef (upw m 9 2 0) c x y 5 0 = wNote w x y 14 0
      unfold mRef wNote
      rw [upw_ne (by omega), upw_ne (by omega), upw_eq, upw_ne (by omega), upw_ne (by omega), upw_eq]
    · show mRef (upw m 9 2 0) c x y 6 0 = wNote w x y 15 0
      unfold mRef wNote
      rw [upw_ne (by omega), upw_eq, upw_ne (by omega), upw_eq]
theorem mDo_ok {p : aZ} {f : Int32 → Int32} (h0 : 0 ≤ p.1) (hv : v = p.1) (hF : ∀ a, ¬ a = 0 → ¬ a = 9 → m1 a = m a) (h9 : ∀ i, ¬ i = 2 → m1 9 i = m 9 i) (h2 : m1 9 2 = 0) (R1 : Rl p.2 (m1 0) n g o) (N1 : okN p.2 n g o) : mDo p f m m1 v :=
  ⟨⟨fun a q0 _ _ q9 => hF a q0 q9, fun i q2 _ => h9 i q2⟩, fun _ => ⟨hv, h2, ⟨n, g, o, R1, N1⟩, h9 3 (by omega), hF 5 (by omega) (by omega), hF 6 (by omega) (by omega)⟩, fun q => absurd q (Int32.not_lt.mpr h0)⟩
theorem upw_com {w : aW} {a b i j : Nat} {x y : Int32} (h : ¬ (a = b ∧ i = j)) : upw (upw w a i x) b j y = upw (upw w b j y) a i x := by
  funext c e
  by_cases h1 : c = a ∧ e = i
  · obtain ⟨rfl, rfl⟩ := h1
    rw [upw_ne h, upw_eq, upw_eq]
  · by_cases h2 : c = b ∧ e = j
    · obtain ⟨rfl, rfl⟩ := h2
      rw [upw_eq, upw_ne h1, upw_eq]
    · rw [upw_ne h2, upw_ne h1, upw_ne h1, upw_ne h2]
theorem wAdd_com : wAdd (upw w 16 0 c) n x y = upw (wAdd w n x y) 16 0 c := by
  have e : upw w 16 0 c 16 3 = w 16 3 := upw_ne (by omega)
  unfold wAdd
  rw [e, upw_com (a := 16) (b := 6) (by omega), upw_com (a := 16) (b := 7) (by omega), upw_com (a := 16) (b := 1) (by omega), upw_com (a := 16) (b := 2) (by omega), upw_com (a := 16) (b := 3) (by omega), upw_com (a := 16) (b := 4) (by omega), upw_com (a := 16) (b := 5) (by omega), upw_com (a := 16) (b := 16) (by omega)]
theorem wAdds_com : ∀ k, wAdds (upw w 16 0 c) n x y k = upw (wAdds w n x y k) 16 0 c
  | 0 => rfl
  | k + 1 => by
    show wAdd (wAdds (upw w 16 0 c) n x y k) (n + k) x y = _
    rw [wAdds_com k]
    exact wAdd_com
theorem okN_add (h : okN w n g o) (hn : n < 60) : okN (wAdd w n x y) (n + 1) g o := by
  obtain ⟨h1, h2, h3, h4, h5, h6⟩ := h
  refine ⟨upw_eq.trans (zI_s h1), by omega, ?_, h4, ?_, h6⟩
  · unfold wAdd
    rw [upw_ne (by omega), upw_ne (by omega), upw_ne (by omega), upw_ne (by omega), upw_ne (by omega), upw_ne (by omega), upw_ne (by omega), upw_ne (by omega)]
    exact h3
  · unfold wAdd
    rw [upw_ne (by omega), upw_ne (by omega), upw_ne (by omega), upw_ne (by omega), upw_ne (by omega), upw_ne (by omega), upw_ne (by omega), upw_ne (by omega)]
    exact h5
theorem okN_h {a l : Nat} (h : okN w n g o) (ha : ¬ (a = 16 ∧ 3 ≤ l)) : okN (upw w a l x) n g o := by
  obtain ⟨h1, h2, h3, h4, h5, h6⟩ := h
  exact ⟨by rw [upw_ne (by omega)]; exact h1, h2, by rw [upw_ne (by omega)]; exact h3, h4, by rw [upw_ne (by omega)]; exact h5, h6⟩
theorem l_doCast {F : aF} {N : Nat} (hN : n + N ≤ 60) (hy : y = Int32.ofNat N) (hat : ∀ (a : Int32) (h : aH), F m_X8_at [.int a] h = some (.inl (some (.int (9 + 7 * a))), h, (0, 0))) (hsz : ∀ h : aH, F m_X8_sizeOf [.int x] h = some (.inl (some (.int (fSz x))), h, (0, 0))) : ∀ (q i : Nat) (mi : aW) (k : Int32) (u : Option Value), i + q = N → k = Int32.ofNat i → Rl (wAdds w n x z i) (mi 0) (n + i) g o → okN (wAdds w n x z i) (n + i) g o →
    ∃ m1, aEnd (aStep F aCls [] aB_X8_doCast (some .int) false) (102, [some (.ref 8), some (.int x), some (.int y), some (.int z), some (.int k), u], [], aHn sn sf mi, (0, 0)) (.inl (some (.int (m1 0 6))), aHn sn sf m1, (0, 0)) ∧ (∀ a, ¬ a = 0 → m1 a = mi a) ∧ Rl (upw (wAdds w n x z N) 16 0 (w 16 0 - y * fSz x)) (m1 0) (n + N) g o ∧ okN (wAdds w n x z N) (n + N) g o
  | 0, i, mi, k, u, hi, hk, R, ok => by
    have hi : i = N := by omega
    subst hi
    have e3 : mi 0 3 = w 16 0 := by
      rw [R.1.2.2.2.1]
      have : ∀ k, wAdds w n x z k 16 0 = w 16 0 := by
        intro k
        induction k with
        | zero => rfl
        | succ k ih =>
          show wAdd (wAdds w n x z k) (n + k) x z 16 0 = _
          unfold wAdd
          rw [upw_ne (by omega), upw_ne (by omega), upw_ne (by omega), upw_ne (by omega), upw_ne (by omega), upw_ne (by omega), upw_ne (by omega), upw_ne (by omega)]
          exact ih
      exact this i
    refine ⟨upw mi 0 3 (mi 0 3 - y * fSz x), ?_, fun a ha => ?_, ?_, ok⟩
    · refine aVn_end (stop := fun p => p == 102) 60 ?_
      refine And.intro (fun _ => ?_) (fun c => absurd (zgeF c hk hy (by omega) (by omega)) (by omega))
      refine Exists.intro 3 (And.intro (ixN (f := 3) rfl (by omega)) ?_)
      refine Exists.intro _ (And.intro (hsz _) ?_)
      refine Exists.intro 3 (And.intro (ixN (f := 3) rfl (by omega)) ?_)
      refine Exists.intro 6 (And.intro (ixN (f := 6) rfl (by omega)) ?_)
      exact rfl
    · funext j
      exact upw_ne (by omega)
    · rw [e3]
      exact Rl_h R ok.2.2.2.1 (a := 16) (l := 0) (Or.inr ⟨rfl, by omega, rfl⟩)
  | q + 1, i, mi, k, u, hi, hk, R, ok => by
    have hn6 : mi 0 6 = Int32.ofNat (n + i) := R.1.2.2.2.2.2.2.1.trans ok.1
    have hiw : ∀ (f : Nat) (y : Int32), y = Int32.ofNat f → f < 7 → aIx (9 + 7 * mi 0 6 + y) 495 = some (9 + 7 * (n + i) + f) := fun f y h1 h2 => ixW hn6 (by omega) h1 h2
    have R1 := Rl_add (x := x) (y := z) R (by omega) ok.2.2.2.1
    have ok1 := okN_add (x := x) (y := z) ok (by omega)
    have e6 : wAdds w n x z i 16 3 = mi 0 6 := R.1.2.2.2.2.2.2.1.symm
    have e9 : (upw (upw (upw (upw (upw (upw (upw mi 0 (9 + 7 * (n + i) + 0) x) 0 (9 + 7 * (n + i) + 1) z) 0 (9 + 7 * (n + i) + 2) 0) 0 (9 + 7 * (n + i) + 3) (-1)) 0 (9 + 7 * (n + i) + 4) 0) 0 (9 + 7 * (n + i) + 5) (-1)) 0 (9 + 7 * (n + i) + 6) 0) 0 6 = mi 0 6 := by
      rw [upw_ne (by omega), upw_ne (by omega), upw_ne (by omega), upw_ne (by omega), upw_ne (by omega), upw_ne (by omega), upw_ne (by omega)]
    obtain ⟨m1, h1, h2, h3, h4⟩ := l_doCast hN hy hat hsz q (i + 1) (upw (upw (upw (upw (upw (upw (upw (upw mi 0 (9 + 7 * (n + i) + 0) x) 0 (9 + 7 * (n + i) + 1) z) 0 (9 + 7 * (n + i) + 2) 0) 0 (9 + 7 * (n + i) + 3) (-1)) 0 (9 + 7 * (n + i) + 4) 0) 0 (9 + 7 * (n + i) + 5) (-1)) 0 (9 + 7 * (n + i) + 6) 0) 0 6 ((upw (upw (upw (upw (upw (upw (upw mi 0 (9 + 7 * (n + i) + 0) x) 0 (9 + 7 * (n + i) + 1) z) 0 (9 + 7 * (n + i) + 2) 0) 0 (9 + 7 * (n + i) + 3) (-1)) 0 (9 + 7 * (n + i) + 4) 0) 0 (9 + 7 * (n + i) + 5) (-1)) 0 (9 + 7 * (n + i) + 6) 0) 0 6 + 1)) (k + 1) (some (.int (9 + 7 * mi 0 6))) (by omega) (zI_s hk) (by rw [e6] at R1; rw [e9]; exact R1) ok1
    refine ⟨m1, ?_, fun a ha => (h2 a ha).trans ?_, h3, h4⟩
    · refine aVn_end (stop := fun p => p == 102) 120 ?_
      refine And.intro (fun c => absurd (zgeT c hk hy (by omega) (by omega)) (by omega)) (fun _ => ?_)
      refine Exists.intro 6 (And.intro (ixN (f := 6) rfl (by omega)) ?_)
      refine Exists.intro _ (And.intro (hat _ _) ?_)
      refine Exists.intro (9 + 7 * (n + i) + 0) (And.intro (hiw 0 _ rfl (by omega)) ?_)
      refine Exists.intro (9 + 7 * (n + i) + 1) (And.intro (hiw 1 _ rfl (by omega)) ?_)
      refine Exists.intro (9 + 7 * (n + i) + 2) (And.intro (hiw 2 _ rfl (by omega)) ?_)
      refine Exists.intro (9 + 7 * (n + i) + 3) (And.intro (hiw 3 _ rfl (by omega)) ?_)
      refine Exists.intro (9 + 7 * (n + i) + 4) (And.intro (hiw 4 _ rfl (by omega)) ?_)
      refine Exists.intro (9 + 7 * (n + i) + 5) (And.intro (hiw 5 _ rfl (by omega)) ?_)
      refine Exists.intro (9 + 7 * (n + i) + 6) (And.intro (hiw 6 _ rfl (by omega)) ?_)
      refine Exists.intro 6 (And.intro (ixN (f := 6) rfl (by omega)) ?_)
      refine Exists.intro 6 (And.intro (ixN (f := 6) rfl (by omega)) ?_)
      exact h1
    · funext j
      rw [upw_ne (by omega), upw_ne (by omega), upw_ne (by omega), upw_ne (by omega), upw_ne (by omega), upw_ne (by omega), upw_ne (by omega), upw_ne (by omega)]
def cd2 : Int32 → Int32 := fun e => if e = -3 then 2 else 1
def cd3 : Int32 → Int32 := fun e => if e = -3 then 3 else if e = -2 then 2 else 1
theorem y_doCast (d : Nat) (R : Rl w (m 0) n g o) (ok : wOkA w n g o) : ∃ m1 v, aRun false (d + 8) m_X8_doCast [.ref 8, .int x, .int y, .int z] (aHn sn sf m) = some (.inl (some (.int v)), aHn sn sf m1, (0, 0)) ∧ mDo (fCast w n x y z) cd2 m m1 v := by
  have e6 : m 0 6 = w 16 3 := R.1.2.2.2.2.2.2.1
  have e3 : m 0 3 = w 16 0 := R.1.2.2.2.1
  by_cases c0 : 0 ≤ x ∧ x ≤ 3
  rotate_left
  · refine ⟨upw m 9 2 1, 0, ?_, mDo_x (Or.inr (by rw [fCast, if_neg (fun h => c0 h.1)])) (by rw [fCast, if_neg (fun h => c0 h.1)]; rfl) (by decide)⟩
    refine aRun_of rfl (aVn_end (stop := fun p => false) 60 ?_)
    refine Exists.intro _ (And.intro (y_in (d + 6) (if_neg c0).symm) ?_)
    refine And.intro (fun _ => ?_) (fun c => absurd (show true = false from c) (by decide))
    refine And.intro (fun c => absurd (show false = true from c) (by decide)) (fun _ => ?_)
    exact rfl
  by_cases c1 : 1 ≤ y ∧ y ≤ 20
  rotate_left
  · refine ⟨upw m 9 2 1, 0, ?_, mDo_x (Or.inr (by rw [fCast, if_neg (fun h => c1 h.2.1)])) (by rw [fCast, if_neg (fun h => c1 h.2.1)]; rfl) (by decide)⟩
    refine aRun_of rfl (aVn_end (stop := fun p => false) 60 ?_)
    refine Exists.intro _ (And.intro (y_in (d + 6) (if_pos c0).symm) ?_)
    refine And.intro (fun c => absurd (show false = true from c) (by decide)) (fun _ => ?_)
    refine Exists.intro _ (And.intro (y_in (d + 6) (if_neg c1).symm) ?_)
    refine And.intro (fun _ => ?_) (fun c => absurd (show true = false from c) (by decide))
    refine And.intro (fun c => absurd (show false = true from c) (by decide)) (fun _ => ?_)
    exact rfl
  by_cases c2 : 30 ≤ z ∧ z ≤ 60
  rotate_left
  · refine ⟨upw m 9 2 1, 0, ?_, mDo_x (Or.inr (by rw [fCast, if_neg (fun h => c2 h.2.2)])) (by rw [fCast, if_neg (fun h => c2 h.2.2)]; rfl) (by decide)⟩
    refine aRun_of rfl (aVn_end (stop := fun p => false) 60 ?_)
    refine Exists.intro _ (And.intro (y_in (d + 6) (if_pos c0).symm) ?_)
    refine And.intro (fun c => absurd (show false = true from c) (by decide)) (fun _ => ?_)
    refine Exists.intro _ (And.intro (y_in (d + 6) (if_pos c1).symm) ?_)
    refine And.intro (fun c => absurd (show false = true from c) (by decide)) (fun _ => ?_)
    refine Exists.intro _ (And.intro (y_in (d + 6) (if_neg c2).symm) ?_)
    refine And.intro (fun _ => ?_) (fun c => absurd (show true = false from c) (by decide))
    refine And.intro (fun c => absurd (show false = true from c) (by decide)) (fun _ => ?_)
    exact rfl
  have hall : (0 ≤ x ∧ x ≤ 3) ∧ (1 ≤ y ∧ y ≤ 20) ∧ (30 ≤ z ∧ z ≤ 60) := ⟨c0, c1, c2⟩
  have hi : aIx x 4 = some (zn x) := aIx_le (m := 3) c0.1 c0.2 (by omega)
  have hsz : ∀ h : aH, aRun false (d + 7) m_X8_sizeOf [.int x] h = some (.inl (some (.int (fSz x))), h, (0, 0)) := fun h => y_sizeOf (d + 6) hi
  by_cases c3 : w 16 3 + y ≤ 60
  rotate_left
  · refine ⟨mRef (upw m 9 2 0) 2 1 60, 0, ?_, mDo_r (w := w) (by rw [fCast, if_pos hall, if_neg c3]) rfl (by decide)⟩
    refine aRun_of rfl (aVn_end (stop := fun p => false) 60 ?_)
    refine Exists.intro _ (And.intro (y_in (d + 6) (if_pos c0).symm) ?_)
    refine And.intro (fun c => absurd (show false = true from c) (by decide)) (fun _ => ?_)
    refine Exists.intro _ (And.intro (y_in (d + 6) (if_pos c1).symm) ?_)
    refine And.intro (fun c => absurd (show false = true from c) (by decide)) (fun _ => ?_)
    refine Exists.intro _ (And.intro (y_in (d + 6) (if_pos c2).symm) ?_)
    refine And.intro (fun c => absurd (show false = true from c) (by decide)) (fun _ => ?_)
    refine And.intro (fun _ => ?_) (fun c => absurd (show true = false from c) (by decide))
    refine Exists.intro 6 (And.intro (ixN (f := 6) rfl (by omega)) ?_)
    refine And.intro (fun c => absurd (show w 16 3 + y ≤ 60 from e6 ▸ cT c) c3) (fun _ => ?_)
    refine Exists.intro _ (And.intro (y_refuse (m := upw m 9 2 0) (d + 6)) ?_)
    exact rfl
  by_cases c4 : y * fSz x ≤ w 16 0
  rotate_left
  · refine ⟨mRef (upw m 9 2 0) 2 2 (m 0 3), 0, ?_, mDo_r (w := w) (by rw [fCast, if_pos hall, if_pos c3, if_neg c4, e3]) rfl (by decide)⟩
    refine aRun_of rfl (aVn_end (stop := fun p => false) 60 ?_)
    refine Exists.intro _ (And.intro (y_in (d + 6) (if_pos c0).symm) ?_)
    refine And.intro (fun c => absurd (show false = true from c) (by decide)) (fun _ => ?_)
    refine Exists.intro _ (And.intro (y_in (d + 6) (if_pos c1).symm) ?_)
    refine And.intro (fun c => absurd (show false = true from c) (by decide)) (fun _ => ?_)
    refine Exists.intro _ (And.intro (y_in (d + 6) (if_pos c2).symm) ?_)
    refine And.intro (fun c => absurd (show false = true from c) (by decide)) (fun _ => ?_)
    refine And.intro (fun _ => ?_) (fun c => absurd (show true = false from c) (by decide))
    refine Exists.intro 6 (And.intro (ixN (f := 6) rfl (by omega)) ?_)
    refine And.intro (fun _ => ?_) (fun c => absurd (show m 0 6 + y ≤ 60 by rw [e6]; exact c3) (cF c))
    refine Exists.intro 3 (And.intro (ixN (f := 3) rfl (by omega)) ?_)
    refine Exists.intro _ (And.intro (hsz _) ?_)
    refine And.intro (fun c => absurd (show y * fSz x ≤ w 16 0 from e3 ▸ cT c) c4) (fun _ => ?_)
    refine Exists.intro 3 (And.intro (ixN (f := 3) rfl (by omega)) ?_)
    refine Exists.intro _ (And.intro (y_refuse (m := upw m 9 2 0) (d + 6)) ?_)
    exact rfl
  have hyy := aIx_lt (x := y) (c := 21) (m := 21) (k := 21) ⟨Int32.le_trans (by decide) c1.1, Int32.lt_of_le_of_lt c1.2 (by decide)⟩ rfl (by omega) (by omega)
  have hy3 := hyy.2.2
  have hy2 := hyy.2.1
  have h6 : n + zn y ≤ 60 := by
    have hle := ok.1.2.1
    refine (zI_le (x := Int32.ofNat (n + zn y)) (y := 60) (n := 60) rfl rfl (by omega) (by omega)).mp ?_
    rw [Int32.ofNat_add, ← ok.1.1, ← hy3]
    exact c3
  obtain ⟨m1, h1, h2, h3, h4⟩ := l_doCast (sn := sn) (sf := sf) (F := aRun false (d + 7)) (x := x) (z := z) (w := w) (n := n) (g := g) (o := o) h6 hy3 (fun a h => y_at (d + 6)) hsz (zn y) 0 (upw m 9 2 0) 0 none (by omega) rfl R ok.1
  have e : fCast w n x y z = (w 16 3 + y, wAdds (upw w 16 0 (w 16 0 - y * fSz x)) n x z (zn y)) := by rw [fCast, if_pos hall, if_pos c3, if_pos c4]
  have ev : w 16 3 + y = m1 0 6 := by
    have q := h3.1.2.2.2.2.2.2.1
    rw [upw_ne (by omega), h4.1, Int32.ofNat_add, ← ok.1.1, ← hy3] at q
    exact q.symm
  refine ⟨m1, m1 0 6, ?_, ?_⟩
  · refine aRun_of rfl (aVn_end (stop := fun p => p == 102) 60 ?_)
    refine Exists.intro _ (And.intro (y_in (d + 6) (if_pos c0).symm) ?_)
    refine And.intro (fun c => absurd (show false = true from c) (by decide)) (fun _ => ?_)
    refine Exists.intro _ (And.intro (y_in (d + 6) (if_pos c1).symm) ?_)
    refine And.intro (fun c => absurd (show false = true from c) (by decide)) (fun _ => ?_)
    refine Exists.intro _ (And.intro (y_in (d + 6) (if_pos c2).symm) ?_)
    refine And.intro (fun c => absurd (show false = true from c) (by decide)) (fun _ => ?_)
    refine And.intro (fun _ => ?_) (fun c => absurd (show true = false from c) (by decide))
    refine Exists.intro 6 (And.intro (ixN (f := 6) rfl (by omega)) ?_)
    refine And.intro (fun _ => ?_) (fun c => absurd (show m 0 6 + y ≤ 60 by rw [e6]; exact c3) (cF c))
    refine Exists.intro 3 (And.intro (ixN (f := 3) rfl (by omega)) ?_)
    refine Exists.intro _ (And.intro (hsz _) ?_)
    refine And.intro (fun _ => ?_) (fun c => absurd (show y * fSz x ≤ m 0 3 by rw [e3]; exact c4) (cF c))
    exact h1
  · rw [e]
    refine mDo_ok (n := n + zn y) (g := g) (o := o) ?_ ev.symm (fun a q0 q9 => (h2 a q0).trans ?_) (fun i hi => ?_) ?_ ?_ ?_
    · show 0 ≤ w 16 3 + y
      rw [ev]
      have q := h3.1.2.2.2.2.2.2.1
      rw [q, upw_ne (by omega), h4.1]
      exact Int32.not_lt.mp (ofN_lt0 (by omega))
    · funext j
      exact upw_ne (by omega)
    · rw [h2 9 (by omega)]
      exact upw_ne (by omega)
    · rw [h2 9 (by omega)]
      exact upw_eq
    · show Rl (wAdds (upw w 16 0 _) n x z (zn y)) _ _ _ _
      rw [wAdds_com]
      exact h3
    · show okN (wAdds (upw w 16 0 _) n x z (zn y)) _ _ _
      rw [wAdds_com]
      exact okN_h h4 (by omega)
end YF
