/-! THE MODEL'S OWN CHANGES: settings, clay -/
def cd1 : Int32 → Int32 := fun _ => 1
section YM
variable {sn : Nat} {sf : Nat → Int32} {m m1 m2 w : aW} {n g o i j k f b L : Nat} {x y z v u s t c : Int32}
theorem mOp_d {p : aZ} {f : Int32 → Int32} (h : mDo p f m m2 v) (hp : p.1 < 0) : mOp p f m m2 v := by
  obtain ⟨⟨F1, F2⟩, -, B⟩ := h
  obtain ⟨g1, g2, g3, g4, g5⟩ := B hp
  refine ⟨⟨fun a ha => ?_, fun i hi => F2 i (by omega) (by omega)⟩, fun q => absurd hp (Int32.not_lt.mpr q), fun _ => ⟨g2, g3, fun i _ => by rw [g1], F1 4 (by omega) (by omega) (by omega) (by omega), F2 1 (by omega) (by omega), g4, g5⟩⟩
  rcases ha with rfl | rfl | rfl
  · exact F1 3 (by omega) (by omega) (by omega) (by omega)
  · exact F1 7 (by omega) (by omega) (by omega) (by omega)
  · exact F1 8 (by omega) (by omega) (by omega) (by omega)
theorem mOp_m {p : aZ} {f : Int32 → Int32} (h : mOp p f (upw m 9 2 c) m2 v) : mOp p f m m2 v := by
  have e : ∀ a, ¬ a = 9 → upw m 9 2 c a = m a := fun a h => funext fun j => upw_ne (by omega)
  have e9 : ∀ i, ¬ i = 2 → upw m 9 2 c 9 i = m 9 i := fun i h => upw_ne (by omega)
  obtain ⟨⟨F1, F2⟩, G, B⟩ := h
  refine ⟨⟨fun a ha => (F1 a ha).trans (e a (by omega)), fun i hi => (F2 i hi).trans (e9 i (by omega))⟩, fun q => ?_, fun q => ?_⟩
  · obtain ⟨g1, g2, g3, ⟨w1, w2, w3⟩, g5⟩ := G q
    refine ⟨g1, g2, g3, ⟨w1.trans (e9 3 (by omega)), w2.trans (e 5 (by omega)), w3.trans (e 6 (by omega))⟩, ?_⟩
    unfold mPush at g5 ⊢
    rw [e9 1 (by omega), e 4 (by omega), e 0 (by omega)] at g5
    exact g5
  · obtain ⟨g1, g2, g3, g4, g5, g6, g7⟩ := B q
    refine ⟨g1, g2, fun i hi => (g3 i hi).trans (by rw [e 0 (by omega)]), g4.trans (e 4 (by omega)), g5.trans (e9 1 (by omega)), fun r => ?_, g7⟩
    obtain ⟨w1, w2, w3⟩ := g6 r
    exact ⟨w1.trans (e9 3 (by omega)), w2.trans (e 5 (by omega)), w3.trans (e 6 (by omega))⟩
/-- what ends makes of a row that has been changed -/
theorem y_endR (d : Nat) {c : Nat} {p : aZ} {f : Int32 → Int32} (hc : m 9 1 = Int32.ofNat c) (h8 : c ≤ 8) (h0 : 0 ≤ p.1) (hv : v = p.1) (hF : ∀ a, ¬ a = 0 → m2 a = mKeep m a) (R1 : Rl p.2 (m2 0) n g o) (N1 : okN p.2 n g o) : ∃ m3 u, aRun false (d + 1) m_X8_ends [.ref 8, .int v] (aHn sn sf m2) = some (.inl (some (.int u)), aHn sn sf m3, (0, 0)) ∧ mOp p f m m3 u := by
  refine y_endD d hc h8 (Or.inl h0) (mDo_ok h0 hv (fun a q0 _ => hF a q0) (fun i _ => ?_) ?_ R1 N1)
  · rw [hF 9 (by omega)]
  · rw [hF 9 (by omega)]
    rfl
theorem in3 (h : 0 ≤ x ∧ x ≤ 2) : x = 0 ∨ x = 1 ∨ x = 2 := by
  have e := zn_nn h.1
  have hl := (zlv (x := 2) (i := 2) rfl (by omega)).mp h.2
  match hz : zn x, hl with
  | 0, _ => rw [hz] at e; exact Or.inl e
  | 1, _ => rw [hz] at e; exact Or.inr (Or.inl e)
  | 2, _ => rw [hz] at e; exact Or.inr (Or.inr e)
def sOk (x y : Int32) : Prop := (0 ≤ x ∧ x ≤ 2) ∧ (aI4 0 10 5 5 (zn x) ≤ y ∧ y ≤ aI4 9 99 40 40 (zn x))
theorem sOk_at {a b : Int32} {k : Nat} (h3 : 0 ≤ x ∧ x ≤ 2) (hk : zn x = k) (ha : aI4 0 10 5 5 k = a) (hb : aI4 9 99 40 40 k = b) : sOk x y ↔ (a ≤ y ∧ y ≤ b) := by
  unfold sOk
  rw [hk, ha, hb]
  exact ⟨fun h => h.2, fun h => ⟨h3, h⟩⟩
theorem l_setT (d : Nat) (hq : sOk x y) {r : aR} (h : ∀ u4, aEnd (aStep (aRun false (d + 1)) aCls [] aB_X8_set (some .int) false) (51, [some (.ref 8), some (.int x), some (.int y), some (.int 1), u4], [], aHn sn sf m, (0, 0)) r) : aEnd (aStep (aRun false (d + 1)) aCls [] aB_X8_set (some .int) false) (0, [some (.ref 8), some (.int x), some (.int y), none, none], [], aHn sn sf m, (0, 0)) r := by
  have h' := h none
  rcases in3 hq.1 with hx | hx | hx
  · have hk : zn x = 0 := by rw [hx]; decide
    have e := (sOk_at (y := y) hq.1 hk rfl rfl).mp hq
    refine aVn_end (stop := fun p => p == 51) 60 ?_
    refine And.intro (fun c => absurd hx (cT c)) (fun _ => ?_)
    refine Exists.intro _ (And.intro (y_in d (if_pos e).symm) ?_)
    exact h'
  · have hk : zn x = 1 := by rw [hx]; decide
    have e := (sOk_at (y := y) hq.1 hk rfl rfl).mp hq
    have h0 : ¬ x = 0 := by rw [hx]; decide
    refine aVn_end (stop := fun p => p == 51) 60 ?_
    refine And.intro (fun _ => ?_) (fun c => absurd (cF c) (fun q => q h0))
    refine And.intro (fun c => absurd hx (cT c)) (fun _ => ?_)
    refine Exists.intro _ (And.intro (y_in d (if_pos e).symm) ?_)
    exact h'
  · have hk : zn x = 2 := by rw [hx]; decide
    have e := (sOk_at (y := y) hq.1 hk rfl rfl).mp hq
    have h0 : ¬ x = 0 := by rw [hx]; decide
    have h1 : ¬ x = 1 := by rw [hx]; decide
    refine aVn_end (stop := fun p => p == 51) 60 ?_
    refine And.intro (fun _ => ?_) (fun c => absurd (cF c) (fun q => q h0))
    refine And.intro (fun _ => ?_) (fun c => absurd (cF c) (fun q => q h1))
    refine And.intro (fun c => absurd hx (cT c)) (fun _ => ?_)
    refine Exists.intro _ (And.intro (y_in d (if_pos e).symm) ?_)
    refine And.intro (fun c => absurd (show false = true from c) (by decide)) (fun _ => ?_)
    exact h'
theorem l_setF (d : Nat) (hq : ¬ sOk x y) {r : aR} (h : ∀ u4, aEnd (aStep (aRun false (d + 1)) aCls [] aB_X8_set (some .int) false) (51, [some (.ref 8), some (.int x), some (.int y), some (.int 0), u4], [], aHn sn sf m, (0, 0)) r) : aEnd (aStep (aRun false (d + 1)) aCls [] aB_X8_set (some .int) false) (0, [some (.ref 8), some (.int x), some (.int y), none, none], [], aHn sn sf m, (0, 0)) r := by
  have h' := h none
  by_cases hx : x = 0
  · have h3 : 0 ≤ x ∧ x ≤ 2 := by rw [hx]; decide
    have hk : zn x = 0 := by rw [hx]; decide
    have e := fun q => hq ((sOk_at (y := y) h3 hk rfl rfl).mpr q)
    refine aVn_end (stop := fun p => p == 51) 60 ?_
    refine And.intro (fun c => absurd hx (cT c)) (fun _ => ?_)
    refine Exists.intro _ (And.intro (y_in d (if_neg e).symm) ?_)
    exact h'
  by_cases hx1 : x = 1
  · have h3 : 0 ≤ x ∧ x ≤ 2 := by rw [hx1]; decide
    have hk : zn x = 1 := by rw [hx1]; decide
    have e := fun q => hq ((sOk_at (y := y) h3 hk rfl rfl).mpr q)
    refine aVn_end (stop := fun p => p == 51) 60 ?_
    refine And.intro (fun _ => ?_) (fun c => absurd (cF c) (fun q => q hx))
    refine And.intro (fun c => absurd hx1 (cT c)) (fun _ => ?_)
    refine Exists.intro _ (And.intro (y_in d (if_neg e).symm) ?_)
    exact h'
  by_cases hx2 : x = 2
  · have h3 : 0 ≤ x ∧ x ≤ 2 := by rw [hx2]; decide
    have hk : zn x = 2 := by rw [hx2]; decide
    have e := fun q => hq ((sOk_at (y := y) h3 hk rfl rfl).mpr q)
    refine aVn_end (stop := fun p => p == 51) 60 ?_
    refine And.intro (fun _ => ?_) (fun c => absurd (cF c) (fun q => q hx))
    refine And.intro (fun _ => ?_) (fun c => absurd (cF c) (fun q => q hx1))
    refine And.intro (fun c => absurd hx2 (cT c)) (fun _ => ?_)
    refine Exists.intro _ (And.intro (y_in d (if_neg e).symm) ?_)
    refine And.intro (fun _ => ?_) (fun c => absurd (show true = false from c) (by decide))
    exact h'
  · refine aVn_end (stop := fun p => p == 51) 60 ?_
    refine And.intro (fun _ => ?_) (fun c => absurd (cF c) (fun q => q hx))
    refine And.intro (fun _ => ?_) (fun c => absurd (cF c) (fun q => q hx1))
    refine And.intro (fun _ => ?_) (fun c => absurd (cF c) (fun q => q hx2))
    exact h'
theorem Rl_set (R : Rl w (m 0) n g o) {k : Nat} (hk : k < 3) : m 0 k = w 0 k := by
  match k, hk with
  | 0, _ => exact R.1.1
  | 1, _ => exact R.1.2.1
  | 2, _ => exact R.1.2.2.1
theorem o_set (d : Nat) {c : Nat} (R : Rl w (m 0) n g o) (ok : wOkA w n g o) (hc : m 9 1 = Int32.ofNat c) (h8 : c ≤ 8) (h0 : ∀ i, i < 3 → 0 ≤ w 0 i) : ∃ m1 v, aRun false (d + 2) m_X8_set [.ref 8, .int x, .int y] (aHn sn sf m) = some (.inl (some (.int v)), aHn sn sf m1, (0, 0)) ∧ mOp (fSet w x y) cd1 m m1 v := by
  by_cases q : sOk x y
  · have ef : fSet w x y = (w 0 (zn x), upw w 0 (zn x) y) := by rw [fSet, if_pos q.1, if_pos q.2]
    have hk : zn x < 3 := by have := (zlv (x := 2) (i := 2) rfl (by omega)).mp q.1.2; omega
    have e0 := Rl_set R hk
    have ix : aIx (0 + x) 495 = some (zn x) := by
      rw [Int32.zero_add]
      exact aIx_of (zn_nn q.1.1) (by omega) (by omega)
    have R0 : Rl w (mKeep (upw m 9 2 0) 0) n g o := R
    have R1 := Rl_h (x := y) R0 ok.1.2.2.2.1 (a := 0) (l := zn x) (k := zn x) (Or.inl ⟨rfl, hk, rfl⟩)
    obtain ⟨m3, u, g1, g2⟩ := y_endR (sn := sn) (sf := sf) (m := upw m 9 2 0) (m2 := upw (mKeep (upw m 9 2 0)) 0 (zn x) y) (v := m 0 (zn x)) (p := (w 0 (zn x), upw w 0 (zn x) y)) (f := cd1) (n := n) (g := g) (o := o) d ((upw_ne (by omega)).trans hc) h8 (h0 _ hk) e0 (fun a ha => funext fun i => upw_ne (by omega)) R1 (okN_h ok.1 (by omega))
    have fin : ∀ u4, aEnd (aStep (aRun false (d + 1)) aCls [] aB_X8_set (some .int) false) (51, [some (.ref 8), some (.int x), some (.int y), some (.int 1), u4], [], aHn sn sf m, (0, 0)) (.inl (some (.int u)), aHn sn sf m3, (0, 0)) := by
      intro u4
      refine aVn_end (stop := fun p => false) 60 ?_
      refine And.intro (fun c => absurd (show false = true from c) (by decide)) (fun _ => ?_)
      refine And.intro (fun _ => ?_) (fun c => absurd (show true = false from c) (by decide))
      refine Exists.intro _ (And.intro (y_keep (m := upw m 9 2 0) d) ?_)
      refine Exists.intro (zn x) (And.intro ix ?_)
      refine Exists.intro (zn x) (And.intro ix ?_)
      refine Exists.intro _ (And.intro g1 ?_)
      exact rfl
    have main := l_setT (sn := sn) (sf := sf) (m := m) d q fin
    refine ⟨m3, u, aRun_of rfl main, ?_⟩
    rw [ef]
    exact mOp_m g2
  · have ef : fSet w x y = (-2, w) := by
      unfold fSet
      by_cases c1 : 0 ≤ x ∧ x ≤ 2
      · rw [if_pos c1, if_neg (fun r => q ⟨c1, r⟩)]
      · rw [if_neg c1]
    have fin : ∀ u4, aEnd (aStep (aRun false (d + 1)) aCls [] aB_X8_set (some .int) false) (51, [some (.ref 8), some (.int x), some (.int y), some (.int 0), u4], [], aHn sn sf m, (0, 0)) (.inl (some (.int 0)), aHn sn sf (upw m 9 2 1), (0, 0)) := by
      intro u4
      refine aVn_end (stop := fun p => false) 60 ?_
      refine And.intro (fun _ => ?_) (fun c => absurd (show true = false from c) (by decide))
      refine And.intro (fun c => absurd (show false = true from c) (by decide)) (fun _ => ?_)
      exact rfl
    have main := l_setF (sn := sn) (sf := sf) (m := m) d q fin
    refine ⟨upw m 9 2 1, 0, aRun_of rfl main, ?_⟩
    rw [ef]
    exact mOp_d (mDo_x (Or.inr rfl) rfl (by decide)) (show (-2 : Int32) < 0 by decide)
theorem o_clay (d : Nat) {c : Nat} (R : Rl w (m 0) n g o) (ok : wOkA w n g o) (hc : m 9 1 = Int32.ofNat c) (h8 : c ≤ 8) (h0 : 1 ≤ x ∧ x ≤ 99 → 0 ≤ w 16 0 + x) : ∃ m1 v, aRun false (d + 2) m_X8_clay [.ref 8, .int x] (aHn sn sf m) = some (.inl (some (.int v)), aHn sn sf m1, (0, 0)) ∧ mOp (fClay w x) cd2 m m1 v := by
  have e3 : m 0 3 = w 16 0 := R.1.2.2.2.1
  have e4 : m 0 4 = w 16 1 := R.1.2.2.2.2.1
  have i3 : aIx 3 495 = some 3 := ixN (f := 3) rfl (by omega)
  have i4 : aIx 4 495 = some 4 := ixN (f := 4) rfl (by omega)
  by_cases q : 1 ≤ x ∧ x ≤ 99
  rotate_left
  · have ef : fClay w x = (-2, w) := by rw [fClay, if_neg q]
    refine ⟨upw m 9 2 1, 0, ?_, ?_⟩
    · refine aRun_of rfl (aVn_end (stop := fun p => false) 60 ?_)
      refine Exists.intro _ (And.intro (y_in d (if_neg q).symm) ?_)
      refine And.intro (fun _ => ?_) (fun c => absurd (show true = false from c) (by decide))
      refine And.intro (fun c => absurd (show false = true from c) (by decide)) (fun _ => ?_)
      exact rfl
    · rw [ef]
      exact mOp_d (mDo_x (Or.inr rfl) rfl (by decide)) (show (-2 : Int32) < 0 by decide)
  by_cases q1 : w 16 0 + x ≤ 999
  rotate_left
  · have ef : fClay w x = (-3, wNote w 1 999) := by rw [fClay, if_pos q, if_neg q1]
    refine ⟨mRef (upw m 9 2 0) 2 1 999, 0, ?_, ?_⟩
    · refine aRun_of rfl (aVn_end (stop := fun p => false) 60 ?_)
      refine Exists.intro _ (And.intro (y_in d (if_pos q).symm) ?_)
      refine And.intro (fun c => absurd (show false = true from c) (by decide)) (fun _ => ?_)
      refine And.intro (fun _ => ?_) (fun c => absurd (show true = false from c) (by decide))
      refine Exists.intro 3 (And.intro i3 ?_)
      refine And.intro (fun c => absurd (show w 16 0 + x ≤ 999 from e3 ▸ cT c) q1) (fun _ => ?_)
      refine Exists.intro _ (And.intro (y_refuse (m := upw m 9 2 0) d) ?_)
      exact rfl
    · rw [ef]
      exact mOp_d (mDo_r rfl rfl (by decide)) (show (-3 : Int32) < 0 by decide)
  have ef : fClay w x = (w 16 0 + x, upw (upw w 16 0 (w 16 0 + x)) 16 1 (w 16 1 + x)) := by rw [fClay, if_pos q, if_pos q1]
  have R0 : Rl w (mKeep (upw m 9 2 0) 0) n g o := R
  have R1 := Rl_h (x := w 16 0 + x) R0 ok.1.2.2.2.1 (a := 16) (l := 0) (k := 3) (Or.inr ⟨rfl, by omega, rfl⟩)
  have R2 := Rl_h (x := w 16 1 + x) R1 ok.1.2.2.2.1 (a := 16) (l := 1) (k := 4) (Or.inr ⟨rfl, by omega, rfl⟩)
  rw [← e3, ← e4] at R2
  obtain ⟨m3, u, g1, g2⟩ := y_endR (sn := sn) (sf := sf) (m := upw m 9 2 0) (m2 := upw (upw (mKeep (upw m 9 2 0)) 0 3 (m 0 3 + x)) 0 4 (m 0 4 + x)) (v := m 0 3 + x) (p := (w 16 0 + x, upw (upw w 16 0 (w 16 0 + x)) 16 1 (w 16 1 + x))) (f := cd2) (n := n) (g := g) (o := o) d ((upw_ne (by omega)).trans hc) h8 (h0 q) (by rw [e3]) (fun a ha => funext fun i => (upw_ne (by omega)).trans (upw_ne (by omega))) (by rw [e3, e4] at R2; rw [e3, e4]; exact R2) (okN_h (okN_h ok.1 (by omega)) (by omega))
  refine ⟨m3, u, ?_, by rw [ef]; exact mOp_m g2⟩
  refine aRun_of rfl (aVn_end (stop := fun p => false) 60 ?_)
  refine Exists.intro _ (And.intro (y_in d (if_pos q).symm) ?_)
  refine And.intro (fun c => absurd (show false = true from c) (by decide)) (fun _ => ?_)
  refine And.intro (fun _ => ?_) (fun c => absurd (show true = false from c) (by decide))
  refine Exists.intro 3 (And.intro i3 ?_)
  refine And.intro (fun _ => ?_) (fun c => absurd (show w 16 0 + x ≤ 999 from q1) (e3 ▸ cF c))
  refine Exists.intro _ (And.intro (y_keep (m := upw m 9 2 0) d) ?_)
  refine Exists.intro 3 (And.intro i3 ?_)
  refine Exists.intro 3 (And.intro i3 ?_)
  refine Exists.intro 4 (And.intro i4 ?_)
  refine Exists.intro 4 (And.intro i4 ?_)
  refine Exists.intro 3 (And.intro i3 ?_)
  refine Exists.intro _ (And.intro g1 ?_)
  exact rfl
end YM
