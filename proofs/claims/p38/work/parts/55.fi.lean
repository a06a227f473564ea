section FIZ
variable {sn : Nat} {sf : Nat → Int32} {w v : aW} {l : List aW} {k : aW} {H E : aH} {d n0 i j m p q a N : Nat} {x c heat most nI fi an y Y t : Int32} {f : Nat → Int32} {o3 o4 o5 o6 o8 o9 o10 o11 : Option Int32} {r : Option Nat} {P : aR → Prop}
theorem f_most (ok : wOk w (nw w) (gw w) (ow w)) (hx : x = Int32.ofNat i) (hi : i < 4) (hh : (∃ a, 1000 ≤ a ∧ a ≤ 1400 ∧ heat = Int32.ofNat a ∧ (i = 0 → ¬ wAny w (nw w) = 0 ∧ heat = (wBst w (nw w) 41).2)) ∨ (wAny w (nw w) = 0 ∧ heat = -1)) (hm : (wAny w (nw w) = 0 ∧ most = -1) ∨ (¬ wAny w (nw w) = 0 ∧ most = (wBst w (nw w) 41).1)) : ∃ Y a, (if 1000 < heat then heat else 1000) = Y ∧ Y = Int32.ofNat a ∧ 1000 ≤ a ∧ a ≤ 1400 ∧ fM w x heat most Y := by
  have hle := ok.1.2.1
  rcases hh with ⟨a, h1, h2, eh, h0⟩ | ⟨ha, eh⟩
  · refine ⟨heat, a, mx_of eh h1 (by omega), eh, h1, h2, ?_⟩
    rcases hm with ⟨ha, em⟩ | ⟨ha, em⟩
    · exact Or.inl ⟨ha, em⟩
    · refine Or.inr ⟨ha, ?_, fun q => ?_, fun q => ?_⟩
      · rw [em]
        exact Int32.le_trans (wFirsts_0 w (nw w) (Int32.ofNat (1000 + 10 * 0)) (by omega)) (bst_max w (nw w) 41 0 (by omega))
      · have i0 : i = 0 := ofN_ne (by omega) (by omega) (hx.symm.trans q)
        rw [(h0 i0).2, em]
        exact (bst_at w (nw w) (by omega) 40).1
      · rw [rem_n (y := 10) (m := 10) eh rfl (by omega) (by omega)] at q
        have q0 : a % 10 = 0 := ofN_ne (by omega) (by omega) q
        rw [em, eh, show a = 1000 + 10 * ((a - 1000) / 10) by omega]
        exact bst_max w (nw w) 41 _ (by omega)
  · subst eh
    refine ⟨1000, 1000, by decide, rfl, by omega, by omega, ?_⟩
    rcases hm with ⟨ha, em⟩ | ⟨hb, em⟩
    · exact Or.inl ⟨ha, em⟩
    · exact absurd ha hb
theorem fA_len : (fA E N f).length = E.length + 1 := by rw [List.length_append]; rfl
/-- stores, and back -/
theorem l_f9 (O : OK sn sf v (w :: l) k H) (G : Gt v) (hE : mPl E) (hn : n0 ≤ 253 + E.length) (hk : kB m (p, q)) (he : ∀ l k H1 f6 p1 q1, OK sn sf w l k H1 → kB (m + 2) (p1, q1) → mE (mFf n0 d) (gS 2 H1 (hA6 (fA E N f) f6) (x + 1) (some c) (some heat) (some most) (some nI) (some (252 + E.length)) (some fi) (some an) (some y) (some t) [] p1 q1) P) : mE (mFf n0 d) (fS 319 H E N f x c heat most nI fi an y (some t) [] p q) P := by
  have hl := ok_len O
  obtain ⟨f6, hs⟩ := L_stores (E := fA E N f) (d := d) O G (mPl_i hE)
  obtain ⟨v', H1, kk, k1, hr, hb, h0, O1⟩ := L_undo (E := hA6 (fA E N f) f6) (d := d + 1) O
  have h2 := he l k1 H1 f6 (p + 1 + kk.1) (q + 6 + kk.2) O1 (by have := kB_a (kB_a hk (b := 1) (k2 := (1, 6)) ⟨by decide, by decide⟩) hb; exact this)
  have e1 : (fA E N f).length = E.length + 1 := fA_len
  refine mVn_P (stop := fun p => p == 2) 60 ?_
  refine And.intro (mG3 (o := some t) hl hn (ms1 (by omega) rfl)) ?_
  refine Exists.intro _ (Exists.intro _ (Exists.intro _ (And.intro hs ?_)))
  refine And.intro (fun q => absurd q (by decide)) (fun _ => ?_)
  refine And.intro (mG1 (E := fA E N f) hl (by omega) (mls_f (o := some t) (by omega) (by omega) (ms1 (by omega) rfl))) ?_
  refine Exists.intro _ (Exists.intro _ (Exists.intro _ (And.intro hr ?_)))
  refine And.intro (fun _ => ?_) (fun q => absurd h0 (cF q))
  exact h2
/-- a round -/
theorem l_fr (O : OK sn sf w l k H) (G : Gt w) (hsn : sn < 100000) (hE : mPl E) (hn : n0 ≤ 252 + E.length) (hr : ∀ a, r = some a → a < 252 + E.length) (hx : x = Int32.ofNat i) (hi : i < 4) (hk : kB m (p, q)) (he1 : ∀ k1 H1 E1 p1 q1, OK sn sf w l k1 H1 → mPl E1 → E.length ≤ E1.length → kB (m + 80) (p1, q1) → P (.inl (some (.int 1)), H1 ++ E1, (p1, q1))) (he2 : ∀ l k H1 E1 o3 o4 o5 o6 r o8 o9 o10 o11 p1 q1, OK sn sf w l k H1 → mPl E1 → E.length ≤ E1.length → (∀ a, r = some a → a < 252 + E1.length) → kB (m + 80) (p1, q1) → mE (mFf n0 d) (gS 2 H1 E1 (x + 1) o3 o4 o5 o6 r o8 o9 o10 o11 [] p1 q1) P) : mE (mFf n0 d) (gS 2 H E x o3 o4 o5 o6 r o8 o9 o10 o11 [] p q) P := by
  have hok : wOk w (nw w) (gw w) (ow w) := ok_okk O
  have hle := hok.1.2.1
  refine l_f0a O hsn hn hr hx hi fun c heat p1 q1 hh hp1 hq1 => ?_
  refine l_f0b O hE hn hr fun most p2 q2 hm hp2 hq2 => ?_
  obtain ⟨Y, a, hmx, hY, h1, h2, hfm⟩ := f_most hok hx hi hh hm
  have l1 : ∀ f : Nat → Int32, (fA E (nw w) f).length = E.length + 1 := fun f => fA_len
  have start : ∀ {p q}, kB (m + 72) (p, q) → (∀ f an o, (∀ j, j < nw w → f j = wThen w Y j) → ((an = 0 ∧ wAny w (nw w) = 0) ∨ (an = 1 ∧ ¬ wAny w (nw w) = 0)) → mE (mFf n0 d) (fS 190 H E (nw w) f x c heat most (w 16 3) (wFirsts w (nw w) Y) an (w 16 3) o [] p q) P) := fun {p q} hk2 f an o hf han => by
    rcases hfm with ⟨ha, em⟩ | ⟨ha, m0, hx0, hh0⟩
    · rcases han with ⟨ea, -⟩ | ⟨-, hb⟩
      · subst ea
        subst em
        refine l_f6 O (by omega) hmx hY h1 h2 ha hk2 fun k1 H1 p1 q1 O1 hk1 => ?_
        exact he1 k1 H1 (fA E (nw w) f) p1 q1 O1 (mPl_i hE) (by rw [l1]; omega) (kB_le hk1 (by omega))
      · exact absurd ha hb
    · rcases han with ⟨-, hb⟩ | ⟨ea, -⟩
      · exact absurd hb ha
      · subst ea
        refine l_f7 O (by omega) hmx hY h1 h2 ha m0 hx0 hh0 hk2 fun v1 k1 H1 p1 q1 O1 en e5 eg hk1 => ?_
        refine l_f8 O1 (by omega) en hok.1.1 (fun j hj => (e5 j hj).trans (hf j hj).symm) ?_
        have O2 : OK sn sf v1 (w :: l.take 7) k1 H1 := O1
        refine l_f9 (m := m + 73) O2 (fun j hj => ?_) hE (by omega) hk1 fun l2 k2 H2 f6 p2 q2 O3 hk3 => ?_
        · rw [(eg j (by omega)).1, (eg j (by omega)).2]
          exact G j (by omega)
        · have l2' : (hA6 (fA E (nw w) f) f6).length = E.length + 2 := by
            rw [List.length_append, l1]
            rfl
          exact he2 l2 k2 H2 (hA6 (fA E (nw w) f) f6) _ _ _ _ _ _ _ _ _ p2 q2 O3 (mPl_i (mPl_i hE)) (by omega) (fun a ea => by cases ea; omega) (kB_le hk3 (by omega))
  have hkp : ∀ {p3 q3}, p3 ≤ p2 + 60 → q3 ≤ q2 + 360 → kB (m + 72) (p3, q3) := fun {p3 q3} h3 h4 => by
    have e1 : p ≤ m := hk.1
    have e2 : q ≤ 6 * m := hk.2
    exact ⟨by show p3 ≤ m + 72; omega, by show q3 ≤ 6 * (m + 72); omega⟩
  -- the loop begins with what stood in local 11
  have h70 : mE (mFf n0 d) (fS 70 H E (nw w) (fun _ => 0) x c heat most (w 16 3) 0 0 0 o11 [] p2 q2) P := by
    refine l_f5 O (by omega) hok.1.1 hmx hY h1 h2 fun f an o p3 q3 hf han hp3 hq3 => ?_
    exact start (hkp hp3 hq3) f an o hf han
  exact h70
theorem l_fl (G : Gt w) (hsn : sn < 100000) (he : ∀ l k H1 E1 p1 q1, OK sn sf w l k H1 → mPl E1 → N ≤ E1.length → kB 320 (p1, q1) → P (.inl (some (.int 1)), H1 ++ E1, (p1, q1))) (hN : n0 ≤ 252 + N) : ∀ (t i : Nat) (x : Int32) (l : List aW) (k : aW) (H E : aH) (o3 o4 o5 o6 : Option Int32) (r : Option Nat) (o8 o9 o10 o11 : Option Int32) (p q : Nat), i + t = 4 → x = Int32.ofNat i → OK sn sf w l k H → mPl E → N ≤ E.length → (∀ a, r = some a → a < 252 + E.length) → kB (80 * i) (p, q) → mE (mFf n0 d) (gS 2 H E x o3 o4 o5 o6 r o8 o9 o10 o11 [] p q) P
  | 0, i, x, l, k, H, E, o3, o4, o5, o6, r, o8, o9, o10, o11, p, q, hi, hx, O, hE, hNE, hr, hk => by
    have h := he l k H E p q O hE hNE (kB_le hk (by omega))
    refine mVn_P (stop := fun p => false) 60 ?_
    refine And.intro (fun _ => ?_) (fun q => absurd (zgeF (n := 4) q hx rfl (by omega) (by omega)) (by omega))
    exact And.intro rfl h
  | t + 1, i, x, l, k, H, E, o3, o4, o5, o6, r, o8, o9, o10, o11, p, q, hi, hx, O, hE, hNE, hr, hk =>
    l_fr O G hsn hE (by omega) hr hx (by omega) hk (fun k1 H1 E1 p1 q1 O1 hE1 hl1 hk1 => he l k1 H1 E1 p1 q1 O1 hE1 (by omega) (kB_le hk1 (by omega))) (fun l2 k2 H1 E1 o3 o4 o5 o6 r o8 o9 o10 o11 p1 q1 O1 hE1 hl1 hr1 hk1 => l_fl G hsn he hN t (i + 1) (x + 1) l2 k2 H1 E1 o3 o4 o5 o6 r o8 o9 o10 o11 p1 q1 (by omega) (zI_s hx) O1 hE1 (by omega) hr1 (kB_le hk1 (by omega)))
/-- fires: what is asked of the firings is so; the kiln is as it was -/
theorem L_fires (O : OK sn sf w l k H) (G : Gt w) (hsn : sn < 100000) (hE : mPl E) : ∃ l1 k1 H1 E1 kk, mRun (d + 9) m_L_fires [.ref 5, .ref 8] (H ++ E) = some (.inl (some (.int 1)), H1 ++ E1, kk) ∧ kB 320 kk ∧ OK sn sf w l1 k1 H1 ∧ mPl E1 ∧ E.length ≤ E1.length := by
  have hlen : (H ++ E).length = 252 + E.length := by rw [List.length_append, ok_len O]
  have key := l_fl (d := d) (n0 := 252 + E.length) (N := E.length) (P := fun r => ∃ l1 k1 H1 E1 kk, r = (.inl (some (.int 1)), H1 ++ E1, kk) ∧ kB 320 kk ∧ OK sn sf w l1 k1 H1 ∧ mPl E1 ∧ E.length ≤ E1.length) G hsn (fun l1 k1 H1 E1 p1 q1 O1 hE1 hl1 hk1 => ⟨l1, k1, H1, E1, (p1, q1), rfl, hk1, O1, hE1, hl1⟩) (Nat.le_refl _) 4 0 0 l k H E none none none none none none none none none 0 0 rfl rfl O hE (Nat.le_refl _) (fun a ea => by cases ea) ⟨Nat.zero_le _, Nat.zero_le _⟩
  have h0 : mE (mStep (H ++ E).length (d + 8) (mRun (d + 8)) [] aB_L_fires (some .boolean)) (0, aIn 12 [.ref 5, .ref 8], [], H ++ E, (0, 0)) (fun r => ∃ l1 k1 H1 E1 kk, r = (.inl (some (.int 1)), H1 ++ E1, kk) ∧ kB 320 kk ∧ OK sn sf w l1 k1 H1 ∧ mPl E1 ∧ E.length ≤ E1.length) := by
    refine mVn_P (stop := fun p => p == 2) 60 ?_
    rw [hlen]
    exact key
  obtain ⟨r, e1, l1, k1, H1, E1, kk, rfl, hk, O1, hE1, hl1⟩ := mRun_P (m := m_L_fires) rfl h0
  exact ⟨l1, k1, H1, E1, kk, e1, hk, O1, hE1, hl1⟩
end FIZ
