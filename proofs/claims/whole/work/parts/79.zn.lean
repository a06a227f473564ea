/-! THE MODEL READS: the steps are done -/
def mEndOf (m m3 : aW) (p : aZ) (u : Int32) : Prop := mOp p cd2 m m3 u
section ZN
variable {sn : Nat} {sf : Nat → Int32} {m m1 m2 w : aW} {n g o i j k L : Nat} {x y z u v c : Int32} {t : Nat → Int32}
theorem y_endF (d : Nat) {p : aZ} {f : Int32 → Int32} (hp : p.1 < 0) (F : mFr (mKeep m) m2) (g2 : m2 9 2 = f p.1) (g3 : 0 < f p.1) (g4 : ¬ p.1 = -3 → m2 9 3 = m 9 3 ∧ m2 5 = m 5 ∧ m2 6 = m 6) (g5 : p.1 = -3 → mWhy p.2 m2) : ∃ m3 u, aRun false (d + 1) m_X8_ends [.ref 8, .int v] (aHn sn sf m2) = some (.inl (some (.int u)), aHn sn sf m3, (0, 0)) ∧ mOp p f m m3 u := by
  obtain ⟨F1, F2⟩ := F
  have k1 : m2 1 = mKeep m 1 := F1 1 (by omega) (by omega) (by omega) (by omega)
  have k4 : m2 4 = m 4 := F1 4 (by omega) (by omega) (by omega) (by omega)
  have k91 : m2 9 1 = m 9 1 := F2 1 (by omega) (by omega)
  have fr3 : ∀ a, (a = 3 ∨ a = 7 ∨ a = 8) → m2 a = m a := fun a h => by
    rcases h with rfl | rfl | rfl
    · exact F1 3 (by omega) (by omega) (by omega) (by omega)
    · exact F1 7 (by omega) (by omega) (by omega) (by omega)
    · exact F1 8 (by omega) (by omega) (by omega) (by omega)
  have fr9 : ∀ i, (i = 0 ∨ 4 ≤ i) → m2 9 i = m 9 i := fun i h => (F2 i (by omega) (by omega)).trans (mKeep9 (by omega))
  refine ⟨mEndX m2, 0, y_endsX d (by rw [g2]; exact g3), ⟨fun a ha => ?_, fun i hi => fr9 i hi⟩, fun q => absurd hp (Int32.not_lt.mpr q), fun _ => ⟨g2, g3, fun i hi => ?_, k4, k91, g4, g5⟩⟩
  · rw [← fr3 a ha]
    rcases ha with rfl | rfl | rfl <;> rfl
  · show va_cpy (m2 1) (m2 0) 0 0 495 i = _
    rw [cpy_at hi, k1]
    exact mKeep_1 hi
theorem mFr_rf : mFr m m := ⟨fun _ _ _ _ _ => rfl, fun _ _ _ => rfl⟩
theorem mFr_tr (a : mFr m m1) (b : mFr m1 m2) : mFr m m2 := ⟨fun e h0 h5 h6 h9 => (b.1 e h0 h5 h6 h9).trans (a.1 e h0 h5 h6 h9), fun i h2 h3 => (b.2 i h2 h3).trans (a.2 i h2 h3)⟩
theorem mFr_9 (h : i = 2 ∨ i = 3) : mFr m (upw m 9 i x) := ⟨fun a h0 h5 h6 h9 => funext fun j => upw_ne (fun q => h9 q.1), fun j h2 h3 => upw_ne (by omega)⟩
theorem mFr_5 (h : i = 5 ∨ i = 6) : mFr m (upw m i j x) := ⟨fun a h0 h5 h6 h9 => funext fun k => upw_ne (by omega), fun l h2 h3 => upw_ne (by omega)⟩
theorem mFr_ref : mFr m (mRef m x y z) := mFr_tr (mFr_9 (Or.inl rfl)) (mFr_tr (mFr_5 (Or.inl rfl)) (mFr_tr (mFr_5 (Or.inr rfl)) (mFr_9 (Or.inr rfl))))
theorem mFr_bef1 : mFr m (mBef1 m x y) := mFr_tr (mFr_5 (Or.inl rfl)) (mFr_tr (mFr_5 (Or.inr rfl)) (mFr_tr (mFr_5 (Or.inl rfl)) (mFr_tr (mFr_5 (Or.inr rfl)) (mFr_9 (Or.inr rfl)))))
theorem mFr_bef2 : mFr m (mBef2 m x y) := mFr_tr (mFr_5 (Or.inl rfl)) (mFr_tr (mFr_5 (Or.inr rfl)) (mFr_tr (mFr_5 (Or.inl rfl)) (mFr_tr (mFr_5 (Or.inr rfl)) (mFr_tr (mFr_5 (Or.inl rfl)) (mFr_tr (mFr_5 (Or.inr rfl)) (mFr_9 (Or.inr rfl)))))))
/-- reasons put ahead -/
theorem mWhy_b1 {w : aW} (h : mWhy w m) (h1 : w 16 6 = 1) : mWhy (wAhead1 w x y) (upw (mBef1 m x y) 9 2 z) := by
  obtain ⟨c, c1, c3, e1, e2, e3⟩ := h
  refine ⟨2, by omega, by omega, upw_eq, rfl, fun i hi => ?_⟩
  match i, hi with
  | 0, _ => exact ⟨rfl, rfl⟩
  | 1, _ => exact e3 0 (by omega)
theorem mWhy_b2 {w : aW} (h : mWhy w m) (h1 : w 16 6 = 2) : mWhy (wAhead2 w x y) (upw (mBef2 m x y) 9 2 z) := by
  obtain ⟨c, c1, c3, e1, e2, e3⟩ := h
  have hc : c = 2 := ofN_ne (by omega) (by omega) (e1.symm.trans h1)
  subst hc
  refine ⟨3, by omega, by omega, upw_eq, rfl, fun i hi => ?_⟩
  match i, hi with
  | 0, _ => exact ⟨rfl, rfl⟩
  | 1, _ => exact e3 0 (by omega)
  | 2, _ => exact e3 1 (by omega)
theorem mWhy_r1 {w : aW} : mWhy (wAhead1 (wNote w 13 0) x y) (upw (mBef1 (mRef m c 13 0) x y) 9 2 z) := by
  refine ⟨2, by omega, by omega, upw_eq, rfl, fun i hi => ?_⟩
  match i, hi with
  | 0, _ => exact ⟨rfl, rfl⟩
  | 1, _ => exact ⟨rfl, rfl⟩
theorem hRow_8 {p : Nat} (h : m1 8 = m 8) (r : hRow t L m i p) : hRow t L m1 i p := by
  unfold hRow at r ⊢
  rw [h]
  exact r
theorem l_dos (hK : cKeeps) (d : Nat) {N c : Nat} (hN : N ≤ 20) (hc : m 9 1 = Int32.ofNat c) (h8 : c ≤ 8) (hNm : m 9 8 = Int32.ofNat N) {q : aZ} :
    ∀ (ps : List Nat) (i : Nat) (w mi : aW) (n g o : Nat) (x : Int32) (u2 u3 : Option Value), i + ps.length = N → x = Int32.ofNat i → mi 9 2 = 0 → mi 9 3 = m 9 3 → mi 5 = m 5 → mi 6 = m 6 → mFr (mKeep m) mi → Rl w (mi 0) n g o → wOk w n g o → (∀ k p', ps[k]? = some p' → hRow t L m (i + k) p') → q = cDos t L ps i w →
    ∃ m5 u, aEnd (aStep (aRun false (d + 9)) aCls [] aB_X8_read (some .int) false) (117, [some (.ref 8), some (.int x), u2, u3], [], aHn sn sf mi, (0, 0)) (.inl (some (.int u)), aHn sn sf m5, (0, 0)) ∧ mOp (if q.1 < 0 then -3 else Int32.ofNat N, q.2) cd2 m m5 u
  | [], i, w, mi, n, g, o, x, u2, u3, hi, hx, h92, h93, h5, h6, F, R, ok, hr, hq => by
    have hi : i = N := by have : i + 0 = N := hi; omega
    subst hi
    have hq : q = (0, w) := hq
    subst hq
    have h98 : mi 9 8 = Int32.ofNat i := (F.2 8 (by omega) (by omega)).trans hNm
    have e : (if (0, w).1 < (0 : Int32) then -3 else Int32.ofNat i, ((0, w) : aZ).2) = ((Int32.ofNat i, w) : aZ) := rfl
    rw [e]
    have hn0 : ¬ Int32.ofNat i < 0 := ofN_lt0 (by omega)
    obtain ⟨m5, u, run, O⟩ := y_endD (sn := sn) (sf := sf) (m := m) (m2 := mi) (v := mi 9 8) (p := (Int32.ofNat i, w)) (f := cd2) (d + 8) hc h8 (Or.inl (Int32.not_lt.mp hn0)) ⟨F, fun _ => ⟨h98, h92, ⟨n, g, o, R, ok.1⟩, h93, h5, h6⟩, fun k => absurd k hn0⟩
    refine ⟨m5, u, ?_, O⟩
    refine aVn_end (stop := fun p => false) 60 ?_
    refine And.intro (fun _ => ?_) (fun e => absurd (zgeF e hx h98 (by omega) (by omega)) (by omega))
    refine Exists.intro _ (And.intro run ?_)
    exact rfl
  | p :: ps, i, w, mi, n, g, o, x, u2, u3, hi, hx, h92, h93, h5, h6, F, R, ok, hr, hq => by
    have hi : i + (ps.length + 1) = N := hi
    have h98 : mi 9 8 = Int32.ofNat N := (F.2 8 (by omega) (by omega)).trans hNm
    have F0 : mFr (mKeep m) (upw mi 9 2 0) := mFr_tr F (mFr_9 (Or.inl rfl))
    have r0 : hRow t L (upw mi 9 2 0) i p := hRow_8 (F0.1 8 (by omega) (by omega) (by omega) (by omega)) (hr 0 p rfl)
    obtain ⟨m1, u, f, run, D⟩ := y_isRefused (sn := sn) (sf := sf) (m := upw mi 9 2 0) d R ok hx (by omega) r0
    have hkp := hK t L w p (okk_of ok)
    obtain ⟨Fd, G, B⟩ := D
    have F1 : mFr (mKeep m) m1 := mFr_tr F0 Fd
    by_cases c0 : (cDo t L w p).1 < 0
    · have hq : q = (-3, wFail (cDo t L w p) i) := hq.trans (if_pos c0)
      subst hq
      have e : (if (-3, wFail (cDo t L w p) i).1 < (0 : Int32) then -3 else Int32.ofNat N, ((-3, wFail (cDo t L w p) i) : aZ).2) = ((-3, wFail (cDo t L w p) i) : aZ) := rfl
      rw [e]
      obtain ⟨b1, b2, b3, b4, b5⟩ := B c0
      have hth : 0 < m1 9 2 := by rw [b2]; exact b3
      by_cases c3 : (cDo t L w p).1 = -3
      · have hw := b5 c3
        rw [if_pos c3] at run
        have key : ∃ mb, aRun false (d + 9) m_X8_refuseBefore [.ref 8, .int 11, .int x, .int (m1 9 3)] (aHn sn sf m1) = some (.inl none, aHn sn sf mb, (0, 0)) ∧ mFr m1 mb ∧ mWhy (wFail (cDo t L w p) i) (upw mb 9 2 2) := by
          unfold wFail
          rw [if_pos c3]
          obtain ⟨cc, k1, k3, e1, e2, -⟩ := id hw
          rcases hkp.2 c3 with c6 | c6
          · have e3 : m1 9 3 = 1 := e2.trans (e1.symm.trans c6)
            rw [if_pos c6, e3, ← hx]
            exact ⟨_, y_before1 (d + 8), mFr_bef1, mWhy_b1 hw c6⟩
          · have e3 : m1 9 3 = 2 := e2.trans (e1.symm.trans c6)
            rw [if_neg (by rw [c6]; decide), e3, ← hx]
            exact ⟨_, y_before2 (d + 8), mFr_bef2, mWhy_b2 hw c6⟩
        obtain ⟨mb, runb, Fb, hwb⟩ := key
        obtain ⟨m5, u5, run5, O⟩ := y_endF (sn := sn) (sf := sf) (m := m) (m2 := upw mb 9 2 2) (v := 0) (p := (-3, wFail (cDo t L w p) i)) (f := cd2) (d + 8) (show (-3 : Int32) < 0 by decide) (mFr_tr F1 (mFr_tr Fb (mFr_9 (Or.inl rfl)))) upw_eq (show (0 : Int32) < 2 by decide) (fun k => absurd rfl k) (fun _ => hwb)
        refine ⟨m5, u5, ?_, O⟩
        refine aVn_end (stop := fun p => false) 120 ?_
        refine And.intro (fun e => absurd (zgeT e hx h98 (by omega) (by omega)) (by omega)) (fun _ => ?_)
        refine Exists.intro _ (And.intro run ?_)
        refine And.intro (fun e => absurd hth (Int32.not_lt.mpr (cT e))) (fun _ => ?_)
        refine And.intro (fun e => absurd (show (1 : Int32) = 0 from cT e) (by decide)) (fun _ => ?_)
        refine Exists.intro _ (And.intro runb ?_)
        refine Exists.intro _ (And.intro run5 ?_)
        exact rfl
      · rw [if_neg c3] at run
        have ew : wFail (cDo t L w p) i = wAhead1 (wNote (cDo t L w p).2 13 0) 11 x := by
          unfold wFail
          rw [if_neg c3, ← hx]
        obtain ⟨m5, u5, run5, O⟩ := y_endF (sn := sn) (sf := sf) (m := m) (m2 := upw (mBef1 (mRef m1 2 13 0) 11 x) 9 2 2) (v := 0) (p := (-3, wFail (cDo t L w p) i)) (f := cd2) (d + 8) (show (-3 : Int32) < 0 by decide) (mFr_tr F1 (mFr_tr mFr_ref (mFr_tr mFr_bef1 (mFr_9 (Or.inl rfl))))) upw_eq (show (0 : Int32) < 2 by decide) (fun k => absurd rfl k) (fun _ => by rw [ew]; exact mWhy_r1)
        refine ⟨m5, u5, ?_, O⟩
        refine aVn_end (stop := fun p => false) 120 ?_
        refine And.intro (fun e => absurd (zgeT e hx h98 (by omega) (by omega)) (by omega)) (fun _ => ?_)
        refine Exists.intro _ (And.intro run ?_)
        refine And.intro (fun e => absurd hth (Int32.not_lt.mpr (cT e))) (fun _ => ?_)
        refine And.intro (fun _ => ?_) (fun e => absurd rfl (cF e))
        refine Exists.intro _ (And.intro (y_refuse (m := m1) (d + 8)) ?_)
        refine Exists.intro _ (And.intro (y_before1 (m := mRef m1 2 13 0) (d + 8)) ?_)
        refine Exists.intro _ (And.intro run5 ?_)
        exact rfl
    · have hq : q = cDos t L ps (i + 1) (cDo t L w p).2 := hq.trans (if_neg c0)
      have c0 : 0 ≤ (cDo t L w p).1 := Int32.not_lt.mp c0
      obtain ⟨g1, g2, ⟨n1, q1, o1, R1, N1⟩, g3, g4, g5⟩ := G c0
      have ok1 : wOk (cDo t L w p).2 n1 q1 o1 := by
        have h := hkp.1 c0
        unfold okk at h
        rw [zn_of N1.1 (by have := N1.2.1; omega), zn_of N1.2.2.1 (by have := N1.2.2.2.1; omega), zn_of N1.2.2.2.2.1 (by have := N1.2.2.2.2.2; omega)] at h
        exact h
      have m93 : upw mi 9 2 0 9 3 = mi 9 3 := rfl
      obtain ⟨m5, u5, run5, O⟩ := l_dos hK d hN hc h8 hNm ps (i + 1) (cDo t L w p).2 m1 n1 q1 o1 (x + 1) (some (.int (if (cDo t L w p).1 = -3 then 1 else 0))) u3 (by omega) (zI_s hx) g2 (g3.trans (m93.trans h93)) (g4.trans h5) (g5.trans h6) F1 R1 ok1 (fun k p' hk => by rw [show i + 1 + k = i + (k + 1) by omega]; exact hr (k + 1) p' hk) hq
      refine ⟨m5, u5, ?_, O⟩
      refine aVn_end (stop := fun p => p == 117) 120 ?_
      refine And.intro (fun e => absurd (zgeT e hx h98 (by omega) (by omega)) (by omega)) (fun _ => ?_)
      refine Exists.intro _ (And.intro run ?_)
      refine And.intro (fun _ => ?_) (fun e => absurd (show m1 9 2 ≤ 0 by rw [g2]; decide) (cF e))
      exact run5
end ZN
