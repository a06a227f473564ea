/-! QUESTIONS THAT ARE ANSWERED -/
section ASK
variable {sn : Nat} {sf : Nat → Int32} {w : aW} {l : List aW} {k k1 : aW} {V : Nat → aW} {H E h h1 : aH} {d m i j c : Nat} {as fs : List Value} {x y z u t s v : Int32} {kk : aK}
theorem in_w {a b : Nat} (hx : x = Int32.ofNat i) (hi : i < b) (hb : b ≤ 60) (hy : y = Int32.ofNat b) : 0 ≤ x ∧ x < y := ⟨(zI_le (x := 0) (i := 0) rfl hx (by omega) (by omega)).mpr (by omega), (zI_lt hx hy (by omega) (by omega)).mpr hi⟩
theorem V_ware (O : OK sn sf w l k H) (hx : x = Int32.ofNat i) (hi : i < nw w) (h0 : 0 ≤ y ∧ y ≤ 7) (hv : wNum w i y = v) : mRun (d + 7) m_L_ware [.ref 8, .int x, .int y] (H ++ E) = some (.inl (some (.int v)), H ++ E, (0, 0)) := by
  have hok : wOk w (nw w) (gw w) (ow w) := ok_okk O
  have hr := ask_any (E := E) (d := d + 6) (as := [.ref 8, .int x, .int y]) (e := q_ware w x y) O (fun wd ws => k_ware d hok) as_3
  have q : q_ware w x y = .inr v := by
    unfold q_ware
    rw [if_pos (in_w (a := 0) hx hi hok.1.2.1 hok.1.1), if_pos h0, zn_of hx (by have := hok.1.2.1; omega), hv]
  rw [q] at hr
  exact v_ware (h8 := (ok_8 O (E := E)).choose_spec) hr
theorem V_of (O : OK sn sf w l k H) (hx : x = Int32.ofNat i) (hi : i < gw w) (h0 : 0 ≤ y ∧ y ≤ 6) (hv : wSag w (nw w) (gw w) (Int32.ofNat i) y = v) : mRun (d + 7) m_L_of [.ref 8, .int x, .int y] (H ++ E) = some (.inl (some (.int v)), H ++ E, (0, 0)) := by
  have hok : wOk w (nw w) (gw w) (ow w) := ok_okk O
  have hr := ask_any (E := E) (d := d + 6) (as := [.ref 8, .int x, .int y]) (e := q_saggarOf w (nw w) (gw w) x y) O (fun wd ws => k_saggarOf d hok) as_3
  have q : q_saggarOf w (nw w) (gw w) x y = .inr v := by
    unfold q_saggarOf
    rw [if_pos (in_w (a := 0) hx hi (by have := hok.1.2.2.2.1; omega) hok.1.2.2.1), if_pos h0, hx, hv]
  rw [q] at hr
  exact v_of (h8 := (ok_8 O (E := E)).choose_spec) hr
theorem C_account (O : OK sn sf w l k H) (h0 : 0 ≤ x ∧ x ≤ 16) (hv : wAcc w (nw w) (gw w) (ow w) x = v) : aRun false (d + 6) m_X7_account [.ref 8, .int x] (H ++ E) = some (.inl (some (.int v)), H ++ E, (0, 0)) := by
  have hok : wOk w (nw w) (gw w) (ow w) := ok_okk O
  have hr := ask_any (E := E) (d := d + 6) (as := [.ref 8, .int x]) (e := q_account w k (nw w) (gw w) (ow w) x) O (fun wd ws => k_account d hok) as_2
  have q : q_account w k (nw w) (gw w) (ow w) x = .inr v := by
    unfold q_account
    rw [if_pos ⟨h0.1, Int32.le_trans h0.2 (by decide)⟩, if_neg (fun q => absurd h0.2 (by rw [q]; decide)), if_neg (fun q => absurd h0.2 (by rw [q]; decide)), hv]
  rw [q] at hr
  exact hr
theorem C_load (O : OK sn sf w l k H) (hx : x = Int32.ofNat i) (hi : i < gw w) : aRun false (d + 6) m_X7_load [.ref 8, .int x] (H ++ E) = some (.inl (some (.int (wLoad w (nw w) (gw w) (Int32.ofNat i)))), H ++ E, (0, 0)) := by
  have hok : wOk w (nw w) (gw w) (ow w) := ok_okk O
  have hr := ask_any (E := E) (d := d + 6) (as := [.ref 8, .int x]) (e := q_load w (nw w) (gw w) x) O (fun wd ws => k_load d hok) as_2
  have q : q_load w (nw w) (gw w) x = .inr (wLoad w (nw w) (gw w) (Int32.ofNat i)) := by
    unfold q_load
    rw [if_pos (in_w (a := 0) hx hi (by have := hok.1.2.2.2.1; omega) hok.1.2.2.1), hx]
  rw [q] at hr
  exact hr
theorem C_loadAgain (O : OK sn sf w l k H) (hx : x = Int32.ofNat i) (hi : i < gw w) : aRun false (d + 6) m_X7_loadAgain [.ref 8, .int x] (H ++ E) = some (.inl (some (.int (wLoad w (nw w) (gw w) (Int32.ofNat i)))), H ++ E, (0, 0)) := by
  have hok : wOk w (nw w) (gw w) (ow w) := ok_okk O
  have hr := ask_any (E := E) (d := d + 6) (as := [.ref 8, .int x]) (e := q_loadAgain w (nw w) (gw w) x) O (fun wd ws => k_loadAgain d hok) as_2
  have q : q_loadAgain w (nw w) (gw w) x = .inr (wLoad w (nw w) (gw w) (Int32.ofNat i)) := by
    unfold q_loadAgain
    rw [if_pos (in_w (a := 0) hx hi (by have := hok.1.2.2.2.1; omega) hok.1.2.2.1), hx, load_eq hok.2.2.1 hok.1.2.2.2.1 hi]
  rw [q] at hr
  exact hr
theorem C_orderOf (O : OK sn sf w l k H) (hx : x = Int32.ofNat i) (hi : i < ow w) (h0 : 0 ≤ y ∧ y ≤ 6) (hv : wOf w i y = v) : aRun false (d + 6) m_X7_orderOf [.ref 8, .int x, .int y] (H ++ E) = some (.inl (some (.int v)), H ++ E, (0, 0)) := by
  have hok : wOk w (nw w) (gw w) (ow w) := ok_okk O
  have hr := ask_any (E := E) (d := d + 6) (as := [.ref 8, .int x, .int y]) (e := q_orderOf w x y) O (fun wd ws => k_orderOf d hok) as_3
  have q : q_orderOf w x y = .inr v := by
    unfold q_orderOf
    rw [if_pos (in_w (a := 0) hx hi (by have := hok.1.2.2.2.2.2; omega) hok.1.2.2.2.2.1), if_pos h0, zn_of hx (by have := hok.1.2.2.2.2.2; omega), hv]
  rw [q] at hr
  exact hr
theorem C_sign (O : OK sn sf w l k H) (hx : x = Int32.ofNat i) (hi : i < nw w) : aRun false (d + 6) m_X7_sign [.ref 8, .int x] (H ++ E) = some (.inl (some (.int (aSg5 (zn (w 1 i))))), H ++ E, (0, 0)) := by
  have hok : wOk w (nw w) (gw w) (ow w) := ok_okk O
  have hr := ask_any (E := E) (d := d + 6) (as := [.ref 8, .int x]) (e := q_sign w x) O (fun wd ws => k_sign d hok) as_2
  have q : q_sign w x = .inr (aSg5 (zn (w 1 i))) := by
    unfold q_sign
    rw [if_pos (in_w (a := 0) hx hi hok.1.2.1 hok.1.1), zn_of hx (by have := hok.1.2.1; omega)]
  rw [q] at hr
  exact hr
theorem V_store (O : OK sn sf w l k H) (hx : 0 ≤ x ∧ x ≤ 3) (hy : -1 ≤ y ∧ y ≤ 3) : mRun (d + 7) m_L_store [.ref 8, .int x, .int y, .int z] (H ++ E) = some (.inl (some (.int (wInSt w (nw w) x y (if z = 0 then 1 else 2)))), H ++ E, (0, 0)) := by
  have hok : wOk w (nw w) (gw w) (ow w) := ok_okk O
  have hr := ask_any (E := E) (d := d + 6) (as := [.ref 8, .int x, .int y, .int z]) (e := q_store w (nw w) x y z) O (fun wd ws => k_store d hok) as_4
  have q : q_store w (nw w) x y z = .inr (wInSt w (nw w) x y (if z = 0 then 1 else 2)) := by
    unfold q_store
    rw [if_pos hx, if_pos hy]
  rw [q] at hr
  exact v_store (h8 := (ok_8 O (E := E)).choose_spec) hr
theorem V_wouldBe (O : OK sn sf w l k H) (hx : x = Int32.ofNat i) (hi : i < nw w) (hy : 0 ≤ y ∧ y ≤ 2000) : mRun (d + 7) m_L_wouldBe [.ref 8, .int x, .int y] (H ++ E) = some (.inl (some (.int (wGrade w i y))), H ++ E, (0, 0)) := by
  have hok : wOk w (nw w) (gw w) (ow w) := ok_okk O
  have hr := ask_any (E := E) (d := d + 6) (as := [.ref 8, .int x, .int y]) (e := q_wouldBe w x y) O (fun wd ws => k_wouldBe d hok) as_3
  have q : q_wouldBe w x y = .inr (wGrade w i y) := by
    unfold q_wouldBe
    rw [if_pos (in_w (a := 0) hx hi hok.1.2.1 hok.1.1), if_pos hy, zn_of hx (by have := hok.1.2.1; omega)]
  rw [q] at hr
  exact v_wouldBe (h8 := (ok_8 O (E := E)).choose_spec) hr
theorem V_heatAt (O : OK sn sf w l k H) (hx : x = Int32.ofNat i) (hi : i < gw w) (hy : 1000 ≤ y ∧ y ≤ 1400) (hb : ¬ w 8 i = -1) : mRun (d + 7) m_L_heatAt [.ref 8, .int x, .int y] (H ++ E) = some (.inl (some (.int (y - 10 * w 9 i - 5 * w 8 i))), H ++ E, (0, 0)) := by
  have hok : wOk w (nw w) (gw w) (ow w) := ok_okk O
  have hr := ask_any (E := E) (d := d + 6) (as := [.ref 8, .int x, .int y]) (e := q_heatAt w x y) O (fun wd ws => k_heatAt d hok) as_3
  have q : q_heatAt w x y = .inr (y - 10 * w 9 i - 5 * w 8 i) := by
    unfold q_heatAt
    rw [if_pos (in_w (a := 0) hx hi (by have := hok.1.2.2.2.1; omega) hok.1.2.2.1), if_pos hy, zn_of hx (by have := hok.1.2.2.2.1; omega), if_pos hb]
  rw [q] at hr
  exact v_heatAt (h8 := (ok_8 O (E := E)).choose_spec) hr
theorem V_heatFl (O : OK sn sf w l k H) (hx : x = Int32.ofNat i) (hi : i < gw w) (hy : 1000 ≤ y ∧ y ≤ 1400) (hb : w 8 i = -1) : mRun (d + 7) m_L_heatAt [.ref 8, .int x, .int y] (H ++ E) = some (.inl (some (.int (-3))), H ++ E, (1, 6)) := by
  have hok : wOk w (nw w) (gw w) (ow w) := ok_okk O
  have hr := ask_any (E := E) (d := d + 6) (as := [.ref 8, .int x, .int y]) (e := q_heatAt w x y) O (fun wd ws => k_heatAt d hok) as_3
  have q : q_heatAt w x y = .inl 3 := by
    unfold q_heatAt
    rw [if_pos (in_w (a := 0) hx hi (by have := hok.1.2.2.2.1; omega) hok.1.2.2.1), if_pos hy, zn_of hx (by have := hok.1.2.2.2.1; omega), if_neg (fun h => h hb)]
  rw [q] at hr
  exact v_heatAt_3 (h8 := (ok_8 O (E := E)).choose_spec) hr
theorem V_best (O : OK sn sf w l k H) (ha : ¬ wAny w (nw w) = 0) : mRun (d + 7) m_L_best [.ref 8, .int x] (H ++ E) = some (.inl (some (.int (if x = 0 then (wBst w (nw w) 41).2 else (wBst w (nw w) 41).1))), H ++ E, (0, 0)) := by
  have hok : wOk w (nw w) (gw w) (ow w) := ok_okk O
  have hr := ask_any (E := E) (d := d + 6) (as := [.ref 8, .int x]) (e := q_bestHeat w (nw w) x) O (fun wd ws => k_bestHeat d hok) as_2
  rw [show q_bestHeat w (nw w) x = .inr _ from if_pos ha] at hr
  exact v_best (h8 := (ok_8 O (E := E)).choose_spec) hr
theorem V_bestNo (O : OK sn sf w l k H) (ha : wAny w (nw w) = 0) : mRun (d + 7) m_L_best [.ref 8, .int x] (H ++ E) = some (.inl (some (.int (-1))), H ++ E, (1, 6)) := by
  have hok : wOk w (nw w) (gw w) (ow w) := ok_okk O
  have hr := ask_any (E := E) (d := d + 6) (as := [.ref 8, .int x]) (e := q_bestHeat w (nw w) x) O (fun wd ws => k_bestHeat d hok) as_2
  rw [show q_bestHeat w (nw w) x = .inl 3 from if_neg (fun h => h ha)] at hr
  exact v_best_3 (h8 := (ok_8 O (E := E)).choose_spec) hr
theorem V_refusal (O : OK sn sf w l k H) (h0 : 0 ≤ x ∧ x ≤ 2) (hc : x < k 7 2) : mRun (d + 7) m_L_refusal [.ref 8, .int x, .int y] (H ++ E) = some (.inl (some (.int (if y = 0 then k 0 (zn x) else k 1 (zn x)))), H ++ E, (0, 0)) := by
  have hr := ask_any (E := E) (d := d + 6) (as := [.ref 8, .int x, .int y]) (e := q_refusal k x y) O (fun wd ws => k_refusal d) as_3
  rw [show q_refusal k x y = .inr (if y = 0 then k 0 (zn x) else k 1 (zn x)) from (if_pos h0).trans (if_pos hc)] at hr
  exact v_refusal (h8 := (ok_8 O (E := E)).choose_spec) hr
theorem V_refusalNo (O : OK sn sf w l k H) (h0 : 0 ≤ x ∧ x ≤ 2) (hc : ¬ x < k 7 2) : mRun (d + 7) m_L_refusal [.ref 8, .int x, .int y] (H ++ E) = some (.inl (some (.int (-2))), H ++ E, (1, 6)) := by
  have hr := ask_any (E := E) (d := d + 6) (as := [.ref 8, .int x, .int y]) (e := q_refusal k x y) O (fun wd ws => k_refusal d) as_3
  rw [show q_refusal k x y = .inl 3 from (if_pos h0).trans (if_neg hc)] at hr
  exact v_refusal_3 (h8 := (ok_8 O (E := E)).choose_spec) hr
theorem C_balanced (O : OK sn sf w l k H) : aRun false (d + 6) m_X7_isBalanced [.ref 8] (H ++ E) = some (.inl (some (.int 1)), H ++ E, (0, 0)) := by
  have hok : wOk w (nw w) (gw w) (ow w) := ok_okk O
  exact ask_val (E := E) (d := d + 6) (as := [.ref 8]) (v := .int 1) O (fun wd ws => k_isBalanced d hok (fun j hj => load_eq hok.2.2.1 hok.1.2.2.2.1 hj)) as_1 (fun _ => rfl)
theorem C_meanLoad (O : OK sn sf w l k H) (h : ¬ wInK w (gw w) = 0) (hq : FP.fdiv (FP.i2f (wLoads w (nw w) (gw w))) (FP.i2f (wInK w (gw w))) &&& 0x7fffffff ≤ 0x7f800000) : aRun false (d + 6) m_X7_meanLoad [.ref 8] (H ++ E) = some (.inl (some (.float (FP.fdiv (FP.i2f (wLoads w (nw w) (gw w))) (FP.i2f (wInK w (gw w)))))), H ++ E, (0, 0)) := by
  have hok : wOk w (nw w) (gw w) (ow w) := ok_okk O
  exact ask_val (E := E) (d := d + 6) (as := [.ref 8]) (v := .float _) O (fun wd ws => k_meanLoad d hok h hq) as_1 (fun _ => rfl)
theorem C_firstShare (O : OK sn sf w l k H) (h : ¬ wFired w (nw w) = 0) (hq : FP.ddiv (FP.i2d (wOfGr w (nw w) 1)) (FP.i2d (wFired w (nw w))) &&& 0x7fffffffffffffff ≤ 0x7ff0000000000000) : aRun false (d + 6) m_X7_firstShare [.ref 8] (H ++ E) = some (.inl (some (.double (FP.ddiv (FP.i2d (wOfGr w (nw w) 1)) (FP.i2d (wFired w (nw w)))))), H ++ E, (0, 0)) := by
  have hok : wOk w (nw w) (gw w) (ow w) := ok_okk O
  exact ask_val (E := E) (d := d + 6) (as := [.ref 8]) (v := .double _) O (fun wd ws => k_firstShare d hok h hq) as_1 (fun _ => rfl)
theorem v_sets_0 (h8 : h[8]? = some (true, .inr (7, fs))) (hr : aRun false d m_X7_sets [.ref 8, .int x] h = some (.inl (some (.int v)), h1, (0, 0))) : mRun (d + 1) m_L_sets [.ref 8, .int x, .int 0] h = some (.inl (some (.int v)), h1, (0, 0)) := by
  refine mRun_of rfl (mVn_end (stop := fun p => false) 60 ?_)
  refine And.intro (fun _ => ?_) (fun c => absurd c (by decide))
  refine And.intro ⟨by decide, fs, h8⟩ ?_
  refine Exists.intro _ (And.intro hr ?_)
  exact rfl
theorem v_sets_1 (h8 : h[8]? = some (true, .inr (7, fs))) (hr : aRun false d m_X7_setsAgain [.ref 8, .int x] h = some (.inl (some (.int v)), h1, (0, 0))) : mRun (d + 1) m_L_sets [.ref 8, .int x, .int 1] h = some (.inl (some (.int v)), h1, (0, 0)) := by
  refine mRun_of rfl (mVn_end (stop := fun p => false) 60 ?_)
  refine And.intro (fun c => absurd c (by decide)) (fun _ => ?_)
  refine And.intro ⟨by decide, fs, h8⟩ ?_
  refine Exists.intro _ (And.intro hr ?_)
  exact rfl
/-- how many sets can be sold -/
theorem V_sets (O : OK sn sf w l k H) (hx : x = Int32.ofNat i) (hi : i < ow w) : ∃ H1 wd, mRun (d + 7) m_L_sets [.ref 8, .int x, .int 0] (H ++ E) = some (.inl (some (.int (Int32.ofNat (wAllS (nw w) i 60 (cpW w wd)).1))), H1 ++ E, (0, 0)) ∧ OK sn sf w l k H1 := by
  obtain ⟨V, A, rfl, hok, hi2, h5, hl⟩ := id O
  have hok1 : wOk (V 0) (nw (V 0)) (gw (V 0)) (ow (V 0)) := hok
  have c0 := in_w (a := 0) hx hi (by have := hok1.1.2.2.2.2.2; omega) hok1.1.2.2.2.2.1
  have hr := k_sets (sn := sn) (sf := sf) (k := k) (wd := V 1) (ws := V 2) d hok1 c0
  rw [zn_of hx (by have := hok1.1.2.2.2.2.2; omega)] at hr
  obtain ⟨H1, e1, A1⟩ := at_no (E := E) A hr as_2 (fun _ => rfl)
  exact ⟨H1, V 1, v_sets_0 (h8 := (ok_8 O (E := E)).choose_spec) e1, _, A1, rfl, hok, HI_no hi2 rfl rfl, h5, hl⟩
theorem V_setsAgain (O : OK sn sf w l k H) (hx : x = Int32.ofNat i) (hi : i < ow w) : mRun (d + 7) m_L_sets [.ref 8, .int x, .int 1] (H ++ E) = some (.inl (some (.int (Int32.ofNat (wAllS (nw w) i 60 w).1))), H ++ E, (0, 0)) := by
  have hok : wOk w (nw w) (gw w) (ow w) := ok_okk O
  have hr := ask_any (E := E) (d := d + 6) (as := [.ref 8, .int x]) (e := q_setsAgain w (nw w) x) O (fun wd ws => k_setsAgain d hok) as_2
  have q : q_setsAgain w (nw w) x = .inr (Int32.ofNat (wAllS (nw w) i 60 w).1) := by
    unfold q_setsAgain
    rw [if_pos (in_w (a := 0) hx hi (by have := hok.1.2.2.2.2.2; omega) hok.1.2.2.2.2.1), zn_of hx (by have := hok.1.2.2.2.2.2; omega), dv_all hok hi]
  rw [q] at hr
  exact v_sets_1 (h8 := (ok_8 O (E := E)).choose_spec) hr
end ASK
