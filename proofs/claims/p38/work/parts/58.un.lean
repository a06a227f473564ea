theorem lg_self (x : Int64) : lg_cmp x x = 0 := by
  unfold lg_cmp
  rw [if_neg (fun h => absurd (Int64.lt_iff_toInt_lt.mp h) (Int.lt_irrefl _)), if_pos rfl]
/-- what stood before, sum by sum -/
def Bs (f : Nat → Int64) : Nat → List aW → Prop
  | 0, _ => True
  | m + 1, l => ∃ v0 l0, l = v0 :: l0 ∧ f m = wSum v0 ∧ Bs f m l0
theorem Bs_take {f : Nat → Int64} : ∀ (m t : Nat) (l : List aW), m ≤ t → Bs f m l → Bs f m (l.take t)
  | 0, _, _, _, _ => trivial
  | m + 1, t + 1, _, ht, h => by
    obtain ⟨v0, l0, rfl, hf, h⟩ := h
    exact ⟨v0, l0.take t, rfl, hf, Bs_take m t l0 (by omega) h⟩
  | m + 1, 0, _, ht, _ => by omega
theorem Bs_up {f : Nat → Int64} {j : Nat} {x : Int64} : ∀ (m : Nat) (l : List aW), m ≤ j → Bs f m l → Bs (vp_updL f j x) m l
  | 0, _, _, _ => trivial
  | m + 1, _, hm, h => by
    obtain ⟨v0, l0, rfl, hf, h⟩ := h
    refine ⟨v0, l0, rfl, ?_, Bs_up m l0 (by omega) h⟩
    show (if m = j then x else f m) = _
    rw [if_neg (by omega)]
    exact hf
section UNE
set_option maxRecDepth 8000
variable {sn : Nat} {sf : Nat → Int32} {w v : aW} {l : List aW} {k : aW} {H E : aH} {d n0 m p q j : Nat} {x y dn i c z : Int32} {f : Nat → Int64} {o5 o6 : Option Int32} {P : aR → Prop}
/-- a number drawn; the sum kept -/
theorem u_1 (O : OK sn sf w l k H) (hsn : sn < 100000) (hn : n0 ≤ 253 + E.length) (hi : i = Int32.ofNat j) (hj : j < 7) (hdn : dn = Int32.ofNat m) (hm : m < 9) (he : ∀ c, 0 ≤ c → mE (mFu n0 d) (uS 37 H E (vp_updL f m (wSum w)) dn i (some c) o6 [] p q) P) : mE (mFu n0 d) (uS 10 H E f dn i o5 o6 [] p q) P := by
  have hl := ok_len O
  have h5 : (H ++ lA E f)[5]? = some (aRo .int sn sf) := (ok_lo O (E := lA E f) (q := 5) (by omega)).trans rfl
  have e38 : 38 + i = Int32.ofNat (38 + j) := by
    rw [hi, Int32.ofNat_add]
    rfl
  obtain ⟨v, hv⟩ := L_cell (d := d + 8) h5 hsn e38 (by omega)
  obtain ⟨c, hc, ec⟩ := shr_n v 1 (t := 1) (by decide) (by decide) (by decide)
  have c0 : 0 ≤ sh v 1 := (zI_le (x := 0) (i := 0) rfl ec (by omega) (by omega)).mpr (by omega)
  have hs := L_sum (E := lA E f) (d := d + 1) O
  have hix : aIx dn 9 = some m := aIx_of hdn hm (by omega)
  have h37 := he (sh v 1) c0
  have e1 : (lA E f).length = E.length + 1 := lA_len
  refine mVn_P (stop := fun p => p == 37) 60 ?_
  refine And.intro (fun q => absurd (zgeT (n := 7) q hi rfl (by omega) (by omega)) (by omega)) (fun _ => ?_)
  refine And.intro (mGu hl hn (by simp only [List.all_cons, List.all_nil, mV1, Bool.and_true, decide_eq_true (show 5 < 253 + E.length by omega)])) ?_
  refine Exists.intro _ (Exists.intro _ (Exists.intro _ (And.intro hv ?_)))
  refine And.intro (mGu (o5 := some _) hl hn (ms1 (by omega) (msr (by omega)))) ?_
  refine Exists.intro _ (Exists.intro _ (Exists.intro _ (And.intro hs ?_)))
  refine Exists.intro 9 (Exists.intro f (Exists.intro m (Exists.intro _ (And.intro (e_at hl) (And.intro hix (And.intro (e_set hl) ?_))))))
  exact h37
/-- refused: nothing has changed -/
theorem u_2 (O : OK sn sf w l k H) (hn : n0 ≤ 253 + E.length) (hdn : dn = Int32.ofNat m) (hm : m < 9) (hf : f m = wSum w) (hv : z < 0) (he : mE (mFu n0 d) (uS 10 H E f dn (i + 1) o5 (some z) [] p q) P) : mE (mFu n0 d) (uS 468 H E f dn i o5 (some z) [] p q) P := by
  have hl := ok_len O
  have hs := L_sum (E := lA E f) (d := d + 1) O
  have hix : aIx dn 9 = some m := aIx_of hdn hm (by omega)
  have h10 : mE (mFu n0 d) (uS 10 H E f (dn + 0) (i + 1) o5 (some z) [] p q) P := by
    rw [Int32.add_zero]
    exact he
  have hz : ¬ 0 ≤ z := Int32.not_le.mpr hv
  refine mVn_P (stop := fun p => p == 10) 60 ?_
  refine And.intro (fun q => absurd (cT q) hz) (fun _ => ?_)
  refine And.intro (mGu (o6 := some z) hl hn (ms1 (by omega) rfl)) ?_
  refine Exists.intro _ (Exists.intro _ (Exists.intro _ (And.intro hs ?_)))
  refine Exists.intro true (Exists.intro 9 (Exists.intro f (Exists.intro m (And.intro (e_at hl) (And.intro hix ?_)))))
  refine And.intro (fun _ => ?_) (fun q => absurd (show lg_cmp (wSum w) (f m) = 0 by rw [hf]; exact lg_self _) (cF q))
  refine And.intro (fun q => absurd (cT q) hz) (fun _ => ?_)
  exact h10
theorem u_3 (hv : 0 ≤ z) (he : mE (mFu n0 d) (uS 10 H E f (dn + 1) (i + 1) o5 (some z) [] p q) P) : mE (mFu n0 d) (uS 468 H E f dn i o5 (some z) [] p q) P := by
  refine mVn_P (stop := fun p => p == 10) 60 ?_
  refine And.intro (fun _ => ?_) (fun q => absurd hv (cF q))
  refine And.intro (fun _ => ?_) (fun q => absurd hv (cF q))
  exact he
/-- all is brought back -/
theorem u_4 (hn : n0 ≤ 253 + E.length) {a : Nat} (he : ∀ H1 p1 q1, kB (a + 9) (p1, q1) → P (.inl (some (.int 1)), H1, (p1, q1))) : ∀ (t : Nat) (w : aW) (l : List aW) (k : aW) (H : aH) (i : Int32) (p q b : Nat), t ≤ 9 → b + t ≤ a + 9 → i = Int32.ofNat t - 1 → OK sn sf w l k H → Bs f t l → kB b (p, q) → mE (mFu n0 d) (uS 510 H E f dn i o5 o6 [] p q) P
  | 0, w, l, k, H, i, p, q, b, ht, hb, hi, O, hB, hk => by
    have h := he (H ++ lA E f) p q (kB_le hk (by omega))
    subst hi
    refine mVn_P (stop := fun p => false) 60 ?_
    refine And.intro (fun _ => ?_) (fun q => absurd q (by decide))
    exact And.intro rfl h
  | t + 1, w, l, k, H, i, p, q, b, ht, hb, hi, O, hB, hk => by
    obtain ⟨v0, l0, rfl, hf, B0⟩ := hB
    have ei : i = Int32.ofNat t := by
      rw [hi, Int32.ofNat_add]
      exact Int32.add_sub_cancel _ _
    obtain ⟨r, H1, kk, k1, hr, hbk, h0, O1⟩ := L_undo (E := lA E f) (d := d + 2) O
    have hl := ok_len O
    have hl1 := ok_len O1
    have hs := L_sum (E := lA E f) (d := d + 1) O1
    have hix : aIx i 9 = some t := aIx_of ei (by omega) (by omega)
    have en : i + -1 = Int32.ofNat t - 1 := by
      rw [ei, Int32.sub_eq_add_neg]
    have ih := u_4 hn he t v0 l0 k1 H1 (i + -1) (p + kk.1) (q + kk.2) (b + 1) (by omega) (by omega) en O1 B0 (kB_a hk hbk)
    refine mVn_P (stop := fun p => p == 510) 60 ?_
    refine And.intro (fun q => absurd (show i < 0 from cT q) (by rw [ei]; exact ofN_lt0 (by omega))) (fun _ => ?_)
    refine And.intro (mGu hl hn (ms1 (by omega) rfl)) ?_
    refine Exists.intro _ (Exists.intro _ (Exists.intro _ (And.intro hr ?_)))
    refine And.intro (fun q => absurd (show r < 0 from cT q) (Int32.not_lt.mpr h0)) (fun _ => ?_)
    refine And.intro (mGu hl1 hn (ms1 (by omega) rfl)) ?_
    refine Exists.intro _ (Exists.intro _ (Exists.intro _ (And.intro hs ?_)))
    refine Exists.intro true (Exists.intro 9 (Exists.intro f (Exists.intro t (And.intro (e_at hl1) (And.intro hix ?_)))))
    refine And.intro (fun _ => ?_) (fun q => absurd (show lg_cmp (wSum v0) (f t) = 0 by rw [hf]; exact lg_self _) (cF q))
    exact ih
/-- the changes drawn -/
theorem u_5 (hsn : sn < 100000) (hE : mPl E) (hn : n0 ≤ 253 + E.length) (he : ∀ H1 p1 q1, kB 200 (p1, q1) → P (.inl (some (.int 1)), H1, (p1, q1))) : ∀ (t j m : Nat) (w : aW) (l : List aW) (k : aW) (H : aH) (f : Nat → Int64) (dn i : Int32) (o5 o6 : Option Int32) (p q : Nat), j + t = 7 → m ≤ j → dn = Int32.ofNat m → i = Int32.ofNat j → OK sn sf w l k H → Bs f m l → kB (2 + 20 * j) (p, q) → mE (mFu n0 d) (uS 10 H E f dn i o5 o6 [] p q) P
  | 0, j, m, w, l, k, H, f, dn, i, o5, o6, p, q, hj, hm, hdn, hi, O, hB, hk => by
    have h510 := u_4 (sn := sn) (sf := sf) (d := d) (f := f) (dn := dn) (o5 := o5) (o6 := o6) (P := P) (a := 191) hn (fun H1 p1 q1 h => he H1 p1 q1 h) m w l k H (dn - 1) p q (2 + 20 * j) (by omega) (by omega) (by rw [hdn]) O hB hk
    refine mVn_P (stop := fun p => p == 510) 60 ?_
    refine And.intro (fun _ => ?_) (fun q => absurd (zgeF (n := 7) q hi rfl (by omega) (by omega)) (by omega))
    exact h510
  | t + 1, j, m, w, l, k, H, f, dn, i, o5, o6, p, q, hj, hm, hdn, hi, O, hB, hk => by
    refine u_1 O hsn hn hi (by omega) hdn (by omega) fun c hc => ?_
    refine u_any O hE hn hc fun v H1 kk hb hR => ?_
    have hk1 : kB (2 + 20 * (j + 1)) (p + kk.1, q + kk.2) := by
      have := kB_a hk hb
      exact this
    rcases hR with ⟨hv, k1, O1⟩ | ⟨hv, w1, k1, O1⟩
    · refine u_2 O1 hn hdn (by omega) (by show (if m = m then wSum w else f m) = _; rw [if_pos rfl]) hv ?_
      exact u_5 hsn hE hn he t (j + 1) m w l k1 H1 _ dn (i + 1) _ _ _ _ (by omega) (by omega) hdn (zI_s hi) O1 (Bs_up m l (Nat.le_refl m) hB) hk1
    · refine u_3 hv ?_
      exact u_5 hsn hE hn he t (j + 1) (m + 1) w1 _ k1 H1 _ (dn + 1) (i + 1) _ _ _ _ (by omega) (by omega) (zI_s hdn) (zI_s hi) O1 ⟨w, l.take 7, rfl, by show (if m = m then wSum w else f m) = _; rw [if_pos rfl], Bs_take m 7 l (by omega) (Bs_up m l (Nat.le_refl m) hB)⟩ hk1
/-- undone: what is asked of the changes and of undoing is so -/
theorem L_undone (O : OK sn sf w l k H) (hsn : sn < 100000) (hE : mPl E) : ∃ h1 kk, mRun (d + 10) m_L_undone [.ref 5, .ref 8] (H ++ E) = some (.inl (some (.int 1)), h1, kk) ∧ kB 200 kk := by
  have hl := ok_len O
  have hlen : (H ++ E).length = 252 + E.length := by rw [List.length_append, hl]
  have key := u_5 (d := d) (n0 := 252 + E.length) (E := E) (P := fun r => ∃ h1 kk, r = (.inl (some (.int 1)), h1, kk) ∧ kB 200 kk) hsn hE (by omega) (fun H1 p1 q1 h => ⟨H1, (p1, q1), rfl, h⟩) 7 0 0 w l k H (fun _ => 0) 0 0 none none 1 9 rfl (Nat.le_refl _) rfl rfl O trivial ⟨by decide, by decide⟩
  have h0 : mE (mStep (H ++ E).length (d + 9) (mRun (d + 9)) [] aB_L_undone (some .boolean)) (0, aIn 7 [.ref 5, .ref 8], [], H ++ E, (0, 0)) (fun r => ∃ h1 kk, r = (.inl (some (.int 1)), h1, kk) ∧ kB 200 kk) := by
    refine mVn_P (stop := fun p => p == 10) 60 ?_
    refine And.intro ⟨ok_cl O hE, mG0 O (Nat.le_refl _) rfl⟩ ?_
    refine And.intro ⟨by decide, by decide⟩ ?_
    show mE _ (10, [some (.ref 5), some (.ref 8), some (.ref (H ++ E).length), some (.int 0), some (.int 0), none, none], [], (H ++ E) ++ [(true, .inl (.long, 9, .inr (.inl fun _ => 0)))], (1, 9)) _
    rw [List.append_assoc, hlen]
    exact key
  obtain ⟨r, e1, h1, kk, rfl, hk⟩ := mRun_P (m := m_L_undone) rfl h0
  exact ⟨h1, kk, e1, hk⟩
end UNE
