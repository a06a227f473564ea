/-! THE LAW: undoing -/
section UND
variable {sn : Nat} {sf : Nat → Int32} {w v : aW} {l : List aW} {k : aW} {H E : aH} {d n0 m p q : Nat} {x y dn i c : Int32} {f : Nat → Int64} {o5 o6 : Option Int32} {P : aR → Prop}
noncomputable abbrev mFu (n0 d : Nat) : aS → Option (aS ⊕ aR) := mStep n0 (d + 9) (mRun (d + 9)) [] aB_L_undone (some .boolean)
abbrev lA (E : aH) (f : Nat → Int64) : aH := E ++ [(true, .inl (.long, 9, .inr (.inl f)))]
abbrev uS (pc : Nat) (H E : aH) (f : Nat → Int64) (dn i : Int32) (o5 o6 : Option Int32) (st : List Value) (p q : Nat) : aS := (pc, [some (.ref 5), some (.ref 8), some (.ref (252 + E.length)), some (.int dn), some (.int i), o5.map Value.int, o6.map Value.int], st, H ++ lA E f, (p, q))
theorem lA_len : (lA E f).length = E.length + 1 := by rw [List.length_append]; rfl
theorem mls_u {M r : Nat} {st : List Value} (h8 : 8 < M) (hr : r < M) (hs : st.all (mV1 M) = true) : mLs M [some (.ref 5), some (.ref 8), some (.ref r), some (.int dn), some (.int i), o5.map Value.int, o6.map Value.int] st = true := by
  unfold mLs
  rw [Bool.and_eq_true]
  refine ⟨?_, hs⟩
  simp only [List.all_cons, List.all_nil]
  rw [mlo_i (c := o5), mlo_i (c := o6)]
  show (decide (5 < M) && (decide (8 < M) && (decide (r < M) && (true && (true && (true && (true && true))))))) = true
  rw [decide_eq_true h8, decide_eq_true hr, decide_eq_true (show 5 < M by omega)]
  rfl
theorem mGu {st : List Value} (hl : H.length = 252) (hn : n0 ≤ 253 + E.length) (hs : st.all (mV1 (253 + E.length)) = true) : mG n0 [some (.ref 5), some (.ref 8), some (.ref (252 + E.length)), some (.int dn), some (.int i), o5.map Value.int, o6.map Value.int] st (H ++ lA E f) := mG1 hl hn (mls_u (by omega) (by omega) hs)
theorem ms7 {M : Nat} {a b c d e f : Int32} {r : List Value} (h8 : 8 < M) (hr : r.all (mV1 M) = true) : (Value.int a :: .int b :: .int c :: .int d :: .int e :: .int f :: .ref 8 :: r).all (mV1 M) = true := by
  simp only [List.all_cons, mV1, hr, decide_eq_true h8, Bool.and_self]
abbrev sh (c s : Int32) : Int32 := (c.toUInt32 >>> (s.toUInt32 &&& Int32.toUInt32 31)).toInt32
abbrev rm (x m : Int32) : Int32 := x - x / m * m
theorem u_set (O : OK sn sf w l k H) (hn : n0 ≤ 253 + E.length) (he : ∀ v H1 kk, kB 20 kk → Rn sn sf w l v H1 → mE (mFu n0 d) (uS 468 H1 E f dn i (some c) (some v) [] (p + kk.1) (q + kk.2)) P) : mE (mFu n0 d) (uS 104 H E f dn i (some c) o6 [] p q) P := by
  have hok : wOk w (nw w) (gw w) (ow w) := ok_okk O
  have hl := ok_len O
  obtain ⟨v, H1, kk, hr, hb, hres⟩ := L_set (E := lA E f) (d := d + 2) (x := rm (sh c 4) 4) (y := rm (sh c 6) 45) O
  have hR := Rn_of hres (fun wd => pe_set (wOk_same (cpW_same w wd) hok)) (by decide) (by decide) (by decide)
  have h468 := he v H1 kk (kB_le hb (by omega)) hR
  refine mVn_P (stop := fun p => p == 468) 60 ?_
  refine And.intro (by decide) ?_
  refine And.intro (by decide) ?_
  refine And.intro (mGu (o5 := some c) hl hn (ms3 (by omega) rfl)) ?_
  refine Exists.intro _ (Exists.intro _ (Exists.intro _ (And.intro hr ?_)))
  exact h468
theorem u_clay (O : OK sn sf w l k H) (hn : n0 ≤ 253 + E.length) (he : ∀ v H1 kk, kB 20 kk → Rn sn sf w l v H1 → mE (mFu n0 d) (uS 468 H1 E f dn i (some c) (some v) [] (p + kk.1) (q + kk.2)) P) : mE (mFu n0 d) (uS 127 H E f dn i (some c) o6 [] p q) P := by
  have hok : wOk w (nw w) (gw w) (ow w) := ok_okk O
  have hl := ok_len O
  obtain ⟨v, H1, kk, hr, hb, hres⟩ := L_clay (E := lA E f) (d := d + 2) (x := rm (sh c 4) 101) O
  have hR := Rn_of hres (fun wd => pe_clay (wOk_same (cpW_same w wd) hok)) (by decide) (by decide) (by decide)
  have h468 := he v H1 kk (kB_le hb (by omega)) hR
  refine mVn_P (stop := fun p => p == 468) 60 ?_
  refine And.intro (by decide) ?_
  refine And.intro (mGu (o5 := some c) hl hn (ms2 (by omega) rfl)) ?_
  refine Exists.intro _ (Exists.intro _ (Exists.intro _ (And.intro hr ?_)))
  exact h468
theorem u_cast (O : OK sn sf w l k H) (hn : n0 ≤ 253 + E.length) (he : ∀ v H1 kk, kB 20 kk → Rn sn sf w l v H1 → mE (mFu n0 d) (uS 468 H1 E f dn i (some c) (some v) [] (p + kk.1) (q + kk.2)) P) : mE (mFu n0 d) (uS 143 H E f dn i (some c) o6 [] p q) P := by
  have hok : wOk w (nw w) (gw w) (ow w) := ok_okk O
  have hl := ok_len O
  obtain ⟨v, H1, kk, hr, hb, hres⟩ := L_cast (E := lA E f) (d := d + 2) (x := rm (sh c 4) 5) (y := rm (sh c 7) 7) (z := 30 + rm (sh c 10) 33) O
  have hR := Rn_of hres (fun wd => pe_cast (wOk_same (cpW_same w wd) hok)) (by decide) (by decide) (by decide)
  have h468 := he v H1 kk (kB_le hb (by omega)) hR
  refine mVn_P (stop := fun p => p == 468) 60 ?_
  refine And.intro (by decide) ?_
  refine And.intro (by decide) ?_
  refine And.intro (by decide) ?_
  refine And.intro (mGu (o5 := some c) hl hn (ms4 (by omega) rfl)) ?_
  refine Exists.intro _ (Exists.intro _ (Exists.intro _ (And.intro hr ?_)))
  exact h468
theorem u_glaze (O : OK sn sf w l k H) (hn : n0 ≤ 253 + E.length) (he : ∀ v H1 kk, kB 20 kk → Rn sn sf w l v H1 → mE (mFu n0 d) (uS 468 H1 E f dn i (some c) (some v) [] (p + kk.1) (q + kk.2)) P) : mE (mFu n0 d) (uS 177 H E f dn i (some c) o6 [] p q) P := by
  have hok : wOk w (nw w) (gw w) (ow w) := ok_okk O
  have hl := ok_len O
  obtain ⟨v, H1, kk, hr, hb, hres⟩ := L_glaze (E := lA E f) (d := d + 2) (x := rm (sh c 4) 20) (y := rm (sh c 9) 5) (z := rm (sh c 12) 11) O
  have hR := Rn_of hres (fun wd => pe_coat (wOk_same (cpW_same w wd) hok)) (by decide) (by decide) (by decide)
  have h468 := he v H1 kk (kB_le hb (by omega)) hR
  refine mVn_P (stop := fun p => p == 468) 60 ?_
  refine And.intro (by decide) ?_
  refine And.intro (by decide) ?_
  refine And.intro (by decide) ?_
  refine And.intro (mGu (o5 := some c) hl hn (ms4 (by omega) rfl)) ?_
  refine Exists.intro _ (Exists.intro _ (Exists.intro _ (And.intro hr ?_)))
  exact h468
theorem u_saggar (O : OK sn sf w l k H) (hn : n0 ≤ 253 + E.length) (he : ∀ v H1 kk, kB 20 kk → Rn sn sf w l v H1 → mE (mFu n0 d) (uS 468 H1 E f dn i (some c) (some v) [] (p + kk.1) (q + kk.2)) P) : mE (mFu n0 d) (uS 208 H E f dn i (some c) o6 [] p q) P := by
  have hok : wOk w (nw w) (gw w) (ow w) := ok_okk O
  have hl := ok_len O
  obtain ⟨v, H1, kk, hr, hb, hres⟩ := L_saggar (E := lA E f) (d := d + 2)  O
  have hR := Rn_of hres (fun wd => pe_sag (wOk_same (cpW_same w wd) hok)) (by decide) (by decide) (by decide)
  have h468 := he v H1 kk (kB_le hb (by omega)) hR
  refine mVn_P (stop := fun p => p == 468) 60 ?_
  refine And.intro (mGu (o5 := some c) hl hn (ms1 (by omega) rfl)) ?_
  refine Exists.intro _ (Exists.intro _ (Exists.intro _ (And.intro hr ?_)))
  exact h468
theorem u_stack (O : OK sn sf w l k H) (hn : n0 ≤ 253 + E.length) (he : ∀ v H1 kk, kB 20 kk → Rn sn sf w l v H1 → mE (mFu n0 d) (uS 468 H1 E f dn i (some c) (some v) [] (p + kk.1) (q + kk.2)) P) : mE (mFu n0 d) (uS 217 H E f dn i (some c) o6 [] p q) P := by
  have hok : wOk w (nw w) (gw w) (ow w) := ok_okk O
  have hl := ok_len O
  obtain ⟨v, H1, kk, hr, hb, hres⟩ := L_stack (E := lA E f) (d := d + 2) (x := rm (sh c 4) 8) (y := rm (sh c 7) 8 - 1) (z := rm (sh c 10) 5) O
  have hR := Rn_of hres (fun wd => pe_stand (wOk_same (cpW_same w wd) hok)) (by decide) (by decide) (by decide)
  have h468 := he v H1 kk (kB_le hb (by omega)) hR
  refine mVn_P (stop := fun p => p == 468) 60 ?_
  refine And.intro (by decide) ?_
  refine And.intro (by decide) ?_
  refine And.intro (by decide) ?_
  refine And.intro (mGu (o5 := some c) hl hn (ms4 (by omega) rfl)) ?_
  refine Exists.intro _ (Exists.intro _ (Exists.intro _ (And.intro hr ?_)))
  exact h468
theorem u_unstack (O : OK sn sf w l k H) (hn : n0 ≤ 253 + E.length) (he : ∀ v H1 kk, kB 20 kk → Rn sn sf w l v H1 → mE (mFu n0 d) (uS 468 H1 E f dn i (some c) (some v) [] (p + kk.1) (q + kk.2)) P) : mE (mFu n0 d) (uS 250 H E f dn i (some c) o6 [] p q) P := by
  have hok : wOk w (nw w) (gw w) (ow w) := ok_okk O
  have hl := ok_len O
  obtain ⟨v, H1, kk, hr, hb, hres⟩ := L_unstack (E := lA E f) (d := d + 2) (x := rm (sh c 4) 8) O
  have hR := Rn_of hres (fun wd => pe_down (wOk_same (cpW_same w wd) hok)) (by decide) (by decide) (by decide)
  have h468 := he v H1 kk (kB_le hb (by omega)) hR
  refine mVn_P (stop := fun p => p == 468) 60 ?_
  refine And.intro (by decide) ?_
  refine And.intro (mGu (o5 := some c) hl hn (ms2 (by omega) rfl)) ?_
  refine Exists.intro _ (Exists.intro _ (Exists.intro _ (And.intro hr ?_)))
  exact h468
theorem u_put (O : OK sn sf w l k H) (hn : n0 ≤ 253 + E.length) (he : ∀ v H1 kk, kB 20 kk → Rn sn sf w l v H1 → mE (mFu n0 d) (uS 468 H1 E f dn i (some c) (some v) [] (p + kk.1) (q + kk.2)) P) : mE (mFu n0 d) (uS 266 H E f dn i (some c) o6 [] p q) P := by
  have hok : wOk w (nw w) (gw w) (ow w) := ok_okk O
  have hl := ok_len O
  obtain ⟨v, H1, kk, hr, hb, hres⟩ := L_put (E := lA E f) (d := d + 2) (x := rm (sh c 4) 21) (y := rm (sh c 9) 7) O
  have hR := Rn_of hres (fun wd => pe_put (wOk_same (cpW_same w wd) hok)) (by decide) (by decide) (by decide)
  have h468 := he v H1 kk (kB_le hb (by omega)) hR
  refine mVn_P (stop := fun p => p == 468) 60 ?_
  refine And.intro (by decide) ?_
  refine And.intro (by decide) ?_
  refine And.intro (mGu (o5 := some c) hl hn (ms3 (by omega) rfl)) ?_
  refine Exists.intro _ (Exists.intro _ (Exists.intro _ (And.intro hr ?_)))
  exact h468
theorem u_fire (O : OK sn sf w l k H) (hn : n0 ≤ 253 + E.length) (he : ∀ v H1 kk, kB 20 kk → Rn sn sf w l v H1 → mE (mFu n0 d) (uS 468 H1 E f dn i (some c) (some v) [] (p + kk.1) (q + kk.2)) P) : mE (mFu n0 d) (uS 290 H E f dn i (some c) o6 [] p q) P := by
  have hok : wOk w (nw w) (gw w) (ow w) := ok_okk O
  have hl := ok_len O
  obtain ⟨v, H1, kk, hr, hb, hres⟩ := L_fire (E := lA E f) (d := d + 2) (x := 990 + rm (sh c 4) 420) O
  have hR := Rn_of hres (fun wd => pe_fire (wOk_same (cpW_same w wd) hok)) (by decide) (by decide) (by decide)
  have h468 := he v H1 kk (kB_le hb (by omega)) hR
  refine mVn_P (stop := fun p => p == 468) 60 ?_
  refine And.intro (by decide) ?_
  refine And.intro (mGu (o5 := some c) hl hn (ms2 (by omega) rfl)) ?_
  refine Exists.intro _ (Exists.intro _ (Exists.intro _ (And.intro hr ?_)))
  exact h468
theorem u_empty (O : OK sn sf w l k H) (hn : n0 ≤ 253 + E.length) (he : ∀ v H1 kk, kB 20 kk → Rn sn sf w l v H1 → mE (mFu n0 d) (uS 468 H1 E f dn i (some c) (some v) [] (p + kk.1) (q + kk.2)) P) : mE (mFu n0 d) (uS 311 H E f dn i (some c) o6 [] p q) P := by
  have hok : wOk w (nw w) (gw w) (ow w) := ok_okk O
  have hl := ok_len O
  obtain ⟨v, H1, kk, hr, hb, hres⟩ := L_empty (E := lA E f) (d := d + 2) (x := rm (sh c 4) 7) O
  have hR := Rn_of hres (fun wd => pe_empty (wOk_same (cpW_same w wd) hok)) (by decide) (by decide) (by decide)
  have h468 := he v H1 kk (kB_le hb (by omega)) hR
  refine mVn_P (stop := fun p => p == 468) 60 ?_
  refine And.intro (by decide) ?_
  refine And.intro (mGu (o5 := some c) hl hn (ms2 (by omega) rfl)) ?_
  refine Exists.intro _ (Exists.intro _ (Exists.intro _ (And.intro hr ?_)))
  exact h468
theorem u_order (O : OK sn sf w l k H) (hn : n0 ≤ 253 + E.length) (he : ∀ v H1 kk, kB 20 kk → Rn sn sf w l v H1 → mE (mFu n0 d) (uS 468 H1 E f dn i (some c) (some v) [] (p + kk.1) (q + kk.2)) P) : mE (mFu n0 d) (uS 327 H E f dn i (some c) o6 [] p q) P := by
  have hok : wOk w (nw w) (gw w) (ow w) := ok_okk O
  have hl := ok_len O
  obtain ⟨v, H1, kk, hr, hb, hres⟩ := L_order (E := lA E f) (d := d + 2) (x := rm (sh c 4) 3) (y := rm (sh c 6) 2) (z := 0) (u := 0) (t := rm (sh c 8) 5) (s := 1) O
  have hR := Rn_of hres (fun wd => pe_ord (wOk_same (cpW_same w wd) hok)) (by decide) (by decide) (by decide)
  have h468 := he v H1 kk (kB_le hb (by omega)) hR
  refine mVn_P (stop := fun p => p == 468) 60 ?_
  refine And.intro (by decide) ?_
  refine And.intro (by decide) ?_
  refine And.intro (by decide) ?_
  refine And.intro (mGu (o5 := some c) hl hn (ms7 (by omega) rfl)) ?_
  refine Exists.intro _ (Exists.intro _ (Exists.intro _ (And.intro hr ?_)))
  exact h468
theorem u_sell (O : OK sn sf w l k H) (hn : n0 ≤ 253 + E.length) (he : ∀ v H1 kk, kB 20 kk → Rn sn sf w l v H1 → mE (mFu n0 d) (uS 468 H1 E f dn i (some c) (some v) [] (p + kk.1) (q + kk.2)) P) : mE (mFu n0 d) (uS 359 H E f dn i (some c) o6 [] p q) P := by
  have hok : wOk w (nw w) (gw w) (ow w) := ok_okk O
  have hl := ok_len O
  obtain ⟨v, H1, kk, hr, hb, hres⟩ := L_sell (E := lA E f) (d := d + 2) (x := rm (sh c 4) 4) O
  have hR := Rn_of hres (fun wd => pe_sell (wOk_same (cpW_same w wd) hok)) (by decide) (by decide) (by decide)
  have h468 := he v H1 kk (kB_le hb (by omega)) hR
  refine mVn_P (stop := fun p => p == 468) 60 ?_
  refine And.intro (by decide) ?_
  refine And.intro (mGu (o5 := some c) hl hn (ms2 (by omega) rfl)) ?_
  refine Exists.intro _ (Exists.intro _ (Exists.intro _ (And.intro hr ?_)))
  exact h468
theorem mTx_r (c : Int32) : 90 ≤ mTx c ∧ mTx c < 400 := by
  unfold mTx
  have h1 : c.toNatClampNeg / 16 % 4 < 4 := Nat.mod_lt _ (by omega)
  have h2 : c.toNatClampNeg / 64 % 5 < 5 := Nat.mod_lt _ (by omega)
  have h3 : c.toNatClampNeg / 512 % 10 < 10 := Nat.mod_lt _ (by omega)
  split <;> omega
/-- a text is made, read -/
theorem u_text (O : OK sn sf w l k H) (hE : mPl E) (hn : n0 ≤ 253 + E.length) (hc : 0 ≤ c) (he : ∀ v H1 kk, kB 20 kk → Rn sn sf w l v H1 → mE (mFu n0 d) (uS 468 H1 E f dn i (some c) (some v) [] (p + kk.1) (q + kk.2)) P) : mE (mFu n0 d) (uS 374 H E f dn i (some c) o6 [] p q) P := by
  have hl := ok_len O
  have e1 : (lA E f).length = E.length + 1 := lA_len
  have hlen : (H ++ lA E f).length = 252 + (lA E f).length := by rw [List.length_append, hl]
  obtain ⟨v, H1, kk, hr, hb, hR⟩ := L_read (E := lA E f) (d := d) (ci := mTx c) O (mTx_r c)
  have hl1 : H1.length = 252 := hR.elim (fun z => z.2.elim fun _ O1 => ok_len O1) (fun z => z.2.elim fun _ z => z.elim fun _ O1 => ok_len O1)
  have hb2 : kB 20 (8 + kk.1, 100 + kk.2) := by
    have b1 : kk.1 ≤ 1 := hb.1
    have b2 : kk.2 ≤ 6 * 1 := hb.2
    exact ⟨by show 8 + kk.1 ≤ 20; omega, by show 100 + kk.2 ≤ 6 * 20; omega⟩
  have h468 := he v H1 (8 + kk.1, 100 + kk.2) hb2 hR
  have hg : mLs (H ++ lA E f).length [some (.ref 5), some (.ref 8), some (.ref (252 + E.length)), some (.int dn), some (.int i), some (.int c), o6.map Value.int] [.ref 8] = true := by
    rw [hlen]
    exact mls_u (o5 := some c) (by omega) (by omega) (ms1 (by omega) rfl)
  have hm : mMac (mRun (d + 9)) n0 [some (.ref 5), some (.ref 8), some (.ref (252 + E.length)), some (.int dn), some (.int i), some (.int c), o6.map Value.int] [.ref 8] (H ++ lA E f) (p, q) = some (.inl (466, [some (.ref 5), some (.ref 8), some (.ref (252 + E.length)), some (.int dn), some (.int i), some (.int c), o6.map Value.int], [.int v], H1 ++ lA E f, (p + (8 + kk.1), q + (100 + kk.2)))) := by
    have hr1 : mRun (d + 9) 153 [.ref 8, .ref (H ++ lA E f).length] ((H ++ lA E f) ++ [(false, .inr (mTx c, []))]) = some (.inl (some (.int v)), H1 ++ (lA E f ++ [(false, .inr (mTx c, []))]), kk) := by
      rw [hlen, List.append_assoc]
      exact hr
    have ht : (H1 ++ (lA E f ++ [((false, .inr (mTx c, [])) : aC)])).take (H ++ lA E f).length = H1 ++ lA E f := by
      have e9 : (H1 ++ lA E f).length = 252 + (lA E f).length := by rw [List.length_append, hl1]
      have e8 : H1 ++ (lA E f ++ [((false, .inr (mTx c, [])) : aC)]) = (H1 ++ lA E f) ++ [((false, .inr (mTx c, [])) : aC)] := (List.append_assoc _ _ _).symm
      rw [e8, hlen, ← e9]
      exact List.take_left
    have hl2 : (H1 ++ (lA E f ++ [((false, .inr (mTx c, [])) : aC)])).length = (H ++ lA E f).length + 1 := by
      rw [e_len hl1, hlen]
      omega
    unfold mMac
    dsimp only [List.getElem?_cons_succ, List.getElem?_cons_zero]
    rw [if_pos ⟨ok_cl O (mPl_l hE), hc, by omega, by omega, hg⟩, hr1]
    dsimp only
    rw [if_pos hl2, ht]
    rfl
  refine mVn_P (stop := fun p => p == 468) 60 ?_
  refine Exists.intro _ (And.intro hm ?_)
  exact h468
/-- a change, drawn -/
theorem u_any (O : OK sn sf w l k H) (hE : mPl E) (hn : n0 ≤ 253 + E.length) (hc : 0 ≤ c) (he : ∀ v H1 kk, kB 20 kk → Rn sn sf w l v H1 → mE (mFu n0 d) (uS 468 H1 E f dn i (some c) (some v) [] (p + kk.1) (q + kk.2)) P) : mE (mFu n0 d) (uS 37 H E f dn i (some c) o6 [] p q) P := by
  have h_set := u_set (o6 := o6) O hn he
  have h_clay := u_clay (o6 := o6) O hn he
  have h_cast := u_cast (o6 := o6) O hn he
  have h_glaze := u_glaze (o6 := o6) O hn he
  have h_saggar := u_saggar (o6 := o6) O hn he
  have h_stack := u_stack (o6 := o6) O hn he
  have h_unstack := u_unstack (o6 := o6) O hn he
  have h_put := u_put (o6 := o6) O hn he
  have h_fire := u_fire (o6 := o6) O hn he
  have h_empty := u_empty (o6 := o6) O hn he
  have h_order := u_order (o6 := o6) O hn he
  have h_sell := u_sell (o6 := o6) O hn he
  have h_text := u_text (o6 := o6) O hE hn hc he
  refine mVn_P (stop := fun p => p == 104 || p == 127 || p == 143 || p == 177 || p == 208 || p == 217 || p == 250 || p == 266 || p == 290 || p == 311 || p == 327 || p == 359 || p == 374) 60 ?_
  refine And.intro (by decide) ?_
  refine And.intro (fun _ => ?_) ?_
  · exact h_text
  refine And.intro (fun _ => ?_) ?_
  · exact h_set
  refine And.intro (fun _ => ?_) ?_
  · exact h_clay
  refine And.intro (fun _ => ?_) ?_
  · exact h_cast
  refine And.intro (fun _ => ?_) ?_
  · exact h_glaze
  refine And.intro (fun _ => ?_) ?_
  · exact h_saggar
  refine And.intro (fun _ => ?_) ?_
  · exact h_stack
  refine And.intro (fun _ => ?_) ?_
  · exact h_unstack
  refine And.intro (fun _ => ?_) ?_
  · exact h_put
  refine And.intro (fun _ => ?_) ?_
  · exact h_fire
  refine And.intro (fun _ => ?_) ?_
  · exact h_empty
  refine And.intro (fun _ => ?_) ?_
  · exact h_order
  refine And.intro (fun _ => ?_) ?_
  · exact h_sell
  exact trivial
end UND
