/-! THE LAW: texts are read -/
/-- as OK, m characters of text waiting -/
def OT (sn : Nat) (sf : Nat → Int32) (w : aW) (l : List aW) (k : aW) (H : aH) (m : Nat) : Prop := ∃ V, KAt sn sf k V H ∧ V 0 = w ∧ okk w ∧ HI k V l ∧ k 7 5 = Int32.ofNat m ∧ (∀ x, x ∈ l → okk x) ∧ ∀ j, j < m → ((k 6 j).toUInt32 % 65536).toInt32 = k 6 j
/-- done, or not done -/
def Rn (sn : Nat) (sf : Nat → Int32) (w : aW) (l : List aW) (v : Int32) (H1 : aH) : Prop := (v < 0 ∧ ∃ k1, OK sn sf w l k1 H1) ∨ (0 ≤ v ∧ ∃ w1 k1, OK sn sf w1 ((w :: l).take 8) k1 H1)
section RDT
variable {sn : Nat} {sf : Nat → Int32} {w : aW} {l : List aW} {k : aW} {H E h h1 : aH} {d m n0 ci : Nat} {x v c1 c2 c3 : Int32} {f : aW → aZ} {Es : List Int32} {fs : List Value} {kk : aK}
theorem Rn_of (h : Res sn sf w l k c1 c2 c3 f v h1) (hP : ∀ wd, PE Es (f wd)) (e1 : (-1 : Int32) ∈ Es → c1 < 0) (e2 : (-2 : Int32) ∈ Es → c2 < 0) (e3 : (-3 : Int32) ∈ Es → c3 < 0) : Rn sn sf w l v h1 := by
  obtain ⟨wd, ⟨q, hv, O⟩ | ⟨q, hv, O⟩ | ⟨q, hv, O⟩ | ⟨q, hv, k1, O⟩⟩ := h
  · rcases hP wd with ⟨hm, -⟩ | ⟨hm, -⟩ | ⟨h0, -⟩
    · rw [q] at hm; exact Or.inl ⟨by rw [hv]; exact e1 hm, _, O⟩
    · rw [q] at hm; exact Or.inl ⟨by rw [hv]; exact e1 hm, _, O⟩
    · rw [q] at h0; exact absurd h0 (by decide)
  · rcases hP wd with ⟨hm, -⟩ | ⟨hm, -⟩ | ⟨h0, -⟩
    · rw [q] at hm; exact Or.inl ⟨by rw [hv]; exact e2 hm, _, O⟩
    · rw [q] at hm; exact Or.inl ⟨by rw [hv]; exact e2 hm, _, O⟩
    · rw [q] at h0; exact absurd h0 (by decide)
  · rcases hP wd with ⟨hm, -⟩ | ⟨hm, -⟩ | ⟨h0, -⟩
    · rw [q] at hm; exact Or.inl ⟨by rw [hv]; exact e3 hm, _, O⟩
    · rw [q] at hm; exact Or.inl ⟨by rw [hv]; exact e3 hm, _, O⟩
    · rw [q] at h0; exact absurd h0 (by decide)
  · exact Or.inr ⟨by rw [hv]; exact q, _, k1, O⟩
theorem OT_0 (O : OK sn sf w l k H) : OT sn sf w l k H 0 := by
  obtain ⟨V, A, e, hok, hi, h5, hl⟩ := O
  exact ⟨V, A, e, hok, hi, h5, hl, fun j hj => absurd hj (Nat.not_lt_zero j)⟩
theorem OT_len (O : OT sn sf w l k H m) : H.length = 252 := O.elim fun V q => at_len q.1
theorem OT_8 (O : OT sn sf w l k H m) : ∃ fs, (H ++ E)[8]? = some (true, .inr (7, fs)) := O.elim fun V q => at_8 q.1
theorem t_append (O : OT sn sf w l k H m) (hm : m < 60) (hx : (x.toUInt32 % 65536).toInt32 = x) : ∃ H1 k1, aRun false (d + 6) m_X7_append [.ref 8, .int x] (H ++ E) = some (.inl (some (.int (Int32.ofNat (m + 1)))), H1 ++ E, (0, 0)) ∧ OT sn sf w l k1 H1 (m + 1) := by
  obtain ⟨V, A, rfl, hok, hi, h5, hl, hc⟩ := O
  have hr := k_append (sn := sn) (sf := sf) (wn := V 0) (wd := V 1) (ws := V 2) d h5 hm hx
  obtain ⟨H1, e1, A1⟩ := at_no (E := E) A hr as_2 (fun _ => rfl)
  have e7 : k 7 5 + 1 = Int32.ofNat (m + 1) := zI_s h5
  rw [e7] at e1
  refine ⟨H1, _, e1, _, A1, rfl, hok, HI_no hi ?_ ?_, ?_, hl, fun j hj => ?_⟩
  · exact (upw_ne (by omega)).trans (upw_ne (by omega))
  · exact (upw_ne (by omega)).trans (upw_ne (by omega))
  · exact upw_eq.trans e7
  · have e6 : kApp k m x 6 j = if j = m then x else k 6 j := by
      show upw (upw k 6 m x) 7 5 (k 7 5 + 1) 6 j = _
      rw [upw_ne (by omega)]
      by_cases e : j = m
      · rw [if_pos e, e]
        exact upw_eq
      · rw [if_neg e]
        exact upw_ne (by omega)
    rw [e6]
    by_cases e : j = m
    · rw [if_pos e]
      exact hx
    · rw [if_neg e]
      exact hc j (by omega)
theorem t_read (O : OT sn sf w l k H m) (hm : m ≤ 60) : ∃ H1 r kk, aRun false (d + 7) m_X7_read [.ref 8] (H ++ E) = some (r, H1 ++ E, kk) ∧ kB 1 kk ∧ ((r = .inr 0 ∧ kk = (1, 6) ∧ ∃ k1, OK sn sf w l k1 H1) ∨ (r = .inr 1 ∧ kk = (1, 6) ∧ ∃ k1, OK sn sf w l k1 H1) ∨ (∃ v, r = .inl (some (.int v)) ∧ kk = (0, 0) ∧ 0 ≤ v ∧ ∃ w1 k1, OK sn sf w1 ((w :: l).take 8) k1 H1)) := by
  obtain ⟨V, A, rfl, hok, hi, h5, hl, hc⟩ := O
  by_cases hf : (pGo (k 6) m 20 0).2 = -1
  · obtain ⟨c, j, h8, hj8, e3, e4, -⟩ := id hi
    obtain ⟨k1, hr, r1, r5, ro⟩ := k_read (sn := sn) (sf := sf) (wn := V 0) (wd := V 1) (ws := V 2) cKeeps_ok d e4 hj8 hok h5 hm hc hf
    have g3 : k1 7 3 = k 7 3 := ro 7 3 (by omega) (by omega)
    have g4 : k1 7 4 = k 7 4 := ro 7 4 (by omega) (by omega)
    have hi1 : HI k1 V l := by
      obtain ⟨c, j, h8, hj8, e3, e4, hr⟩ := hi
      exact ⟨c, j, h8, hj8, g3.trans e3, g4.trans e4, hr⟩
    rcases pk_read m (k 6) (show okk (cpW (V 0) (V 1)) from okk_of (wOk_same (cpW_same (V 0) (V 1)) hok)) with h | ⟨h0, hok1⟩
    · have hr1 : aRun false (d + 7) m_X7_read [.ref 8] (aHk sn sf 21 42 aRg k (V 0) (V 1) (V 2)) = some (.inr 1, aHk sn sf 21 42 aRg (cpWhy (cRead (k 6) m (cpW (V 0) (V 1))).2 k1) (V 0) (cRead (k 6) m (cpW (V 0) (V 1))).2 (V 2), (1, 6)) := hr.trans (congrArg some ((if_neg (by rw [h]; decide)).trans ((if_neg (by rw [h]; decide)).trans (if_pos h))))
      obtain ⟨H1, e1, A1⟩ := at_no (E := E) A hr1 as_1 (fun _ => rfl)
      exact ⟨H1, _, _, e1, ⟨by decide, by decide⟩, Or.inr (Or.inl ⟨rfl, rfl, _, _, A1, rfl, hok, HI_no hi g3 g4, r5, hl⟩)⟩
    · have n1 : ∀ e : Int32, e < 0 → ¬ (cRead (k 6) m (cpW (V 0) (V 1))).1 = e := fun e he q => absurd h0 (by rw [q]; exact Int32.not_le.mpr he)
      have hr1 : aRun false (d + 7) m_X7_read [.ref 8] (aHk sn sf 21 42 aRg k (V 0) (V 1) (V 2)) = some (.inl (some (.int (cRead (k 6) m (cpW (V 0) (V 1))).1)), aHk sn sf 42 (84 + 21 * j) (va_up aRg j (some 21)) (kKeep k1 j) (V 0) (cRead (k 6) m (cpW (V 0) (V 1))).2 (V 2), (0, 0)) := hr.trans (congrArg some ((if_neg (n1 _ (by decide))).trans ((if_neg (n1 _ (by decide))).trans (if_neg (n1 _ (by decide))))))
      obtain ⟨H1, e1, A1⟩ := at_ok (E := E) A hj8 hr1 as_1 (fun _ => rfl)
      refine ⟨H1, _, _, e1, ⟨by decide, by decide⟩, Or.inr (Or.inr ⟨_, rfl, rfl, h0, _, kKeep k1 j, _, A1, rfl, hok1, HI_ok hi1 (g4.trans e4) hj8, ?_, fun x hx => ?_⟩)⟩
      · show (upw (upw k1 7 4 _) 7 3 _) 7 5 = 0
        rw [upw_ne (by omega), upw_ne (by omega)]
        exact r5
      · rcases List.mem_cons.mp (List.mem_of_mem_take hx) with rfl | hx
        · exact hok
        · exact hl x hx
  · obtain ⟨k1, hr, r1, r5, ro⟩ := k_readX (sn := sn) (sf := sf) (wn := V 0) (wd := V 1) (ws := V 2) d h5 hm hc hf
    have g3 : k1 7 3 = k 7 3 := ro 7 3 (by omega) (by omega)
    have g4 : k1 7 4 = k 7 4 := ro 7 4 (by omega) (by omega)
    obtain ⟨H1, e1, A1⟩ := at_no (E := E) A hr as_1 (fun _ => rfl)
    exact ⟨H1, _, _, e1, ⟨by decide, by decide⟩, Or.inl ⟨rfl, rfl, _, _, A1, rfl, hok, HI_no hi g3 g4, r5, hl⟩⟩
theorem L_append (O : OT sn sf w l k H m) (hm : m < 60) (hx : (x.toUInt32 % 65536).toInt32 = x) : ∃ H1 k1, mRun (d + 8) m_L_append [.ref 8, .int x] (H ++ E) = some (.inl (some (.int (Int32.ofNat (m + 1)))), H1 ++ E, (0, 0)) ∧ OT sn sf w l k1 H1 (m + 1) := by
  obtain ⟨H1, k1, hr, O1⟩ := t_append (E := E) (d := d + 1) O hm hx
  obtain ⟨fs, h8⟩ := OT_8 O (E := E)
  refine ⟨H1, k1, mRun_of rfl (mVn_end (stop := fun p => false) 60 ?_), O1⟩
  refine And.intro ⟨by decide, fs, h8⟩ ?_
  refine Exists.intro _ (And.intro hr ?_)
  exact rfl
theorem L_reads (O : OT sn sf w l k H m) (hm : m ≤ 60) : ∃ v H1 kk, mRun (d + 8) m_L_reads [.ref 8] (H ++ E) = some (.inl (some (.int v)), H1 ++ E, kk) ∧ kB 1 kk ∧ Rn sn sf w l v H1 := by
  obtain ⟨H1, r, kk, hr, hb, ⟨rfl, rfl, k1, O1⟩ | ⟨rfl, rfl, k1, O1⟩ | ⟨v, rfl, rfl, h0, w1, k1, O1⟩⟩ := t_read (E := E) (d := d) O hm
  · obtain ⟨fs, h8⟩ := OT_8 O (E := E)
    refine ⟨-1, H1, (1, 6), mRun_of rfl (mVn_end (stop := fun p => false) 60 ?_), hb, Or.inl ⟨by decide, k1, O1⟩⟩
    refine And.intro ⟨by decide, fs, h8⟩ ?_
    refine Exists.intro _ (And.intro hr ?_)
    exact rfl
  · obtain ⟨fs, h8⟩ := OT_8 O (E := E)
    refine ⟨-2, H1, (1, 6), mRun_of rfl (mVn_end (stop := fun p => false) 60 ?_), hb, Or.inl ⟨by decide, k1, O1⟩⟩
    refine And.intro ⟨by decide, fs, h8⟩ ?_
    refine Exists.intro _ (And.intro hr ?_)
    exact rfl
  · obtain ⟨fs, h8⟩ := OT_8 O (E := E)
    refine ⟨v, H1, (0, 0), mRun_of rfl (mVn_end (stop := fun p => false) 60 ?_), hb, Or.inr ⟨h0, w1, k1, O1⟩⟩
    refine And.intro ⟨by decide, fs, h8⟩ ?_
    refine Exists.intro _ (And.intro hr ?_)
    exact rfl
noncomputable abbrev mFr (n0 d : Nat) : aS → Option (aS ⊕ aR) := mStep n0 (d + 8) (mRun (d + 8)) [] aB_L_read (some .int)
/-- a text is read: done, or not done -/
theorem L_read (O : OK sn sf w l k H) (hci : 90 ≤ ci ∧ ci < 400) : ∃ v H1 kk, mRun (d + 9) m_L_read [.ref 8, .ref (252 + E.length)] (H ++ (E ++ [(false, .inr (ci, []))])) = some (.inl (some (.int v)), H1 ++ (E ++ [(false, .inr (ci, []))]), kk) ∧ kB 1 kk ∧ Rn sn sf w l v H1 := by
  have hl := ok_len O
  have hlen : (H ++ (E ++ [((false, .inr (ci, [])) : aC)])).length = 253 + E.length := e_len hl
  have l13 := aStr_len hci
  have key : mE (mFr (253 + E.length) d) (2, [some (.ref 8), some (.ref (252 + E.length)), some (.int 0)], [], H ++ (E ++ [(false, .inr (ci, []))]), (0, 0)) (fun r => ∃ v H1 kk, r = (.inl (some (.int v)), H1 ++ (E ++ [(false, .inr (ci, []))]), kk) ∧ kB 1 kk ∧ Rn sn sf w l v H1) := by
    refine k_inv0 (S := fun (u : aH) x => (2, [some (.ref 8), some (.ref (252 + E.length)), some (.int x)], [], u ++ (E ++ [(false, .inr (ci, []))]), (0, 0))) (Inv := fun i u => ∃ k, OT sn sf w l k u i) (n := (aStr ci).length) (u := H) ⟨k, OT_0 O⟩ (fun i x u hi hx hu ih => ?_) (fun x u hx hu => ?_)
    · obtain ⟨k1, O1⟩ := hu
      have hl1 := OT_len O1
      have hlen1 : (u ++ (E ++ [((false, .inr (ci, [])) : aC)])).length = 253 + E.length := e_len hl1
      obtain ⟨a1, a2⟩ := aStr_b hci hi
      have hch : (((aStr ci).getD i 0).toUInt32 % 65536).toInt32 = (aStr ci).getD i 0 := by
        obtain ⟨-, b2, b3⟩ := aStr_r hci (show i < 13 by omega)
        exact j_nar b2 b3
      obtain ⟨H2, k2, hr, O2⟩ := L_append (E := E ++ [(false, .inr (ci, []))]) (d := d) O1 (by omega) hch
      have ih2 := ih H2 ⟨k2, O2⟩
      have hix : aIx x (aStr ci).length = some i := aIx_of hx hi (by omega)
      have es : Int32.ofNat (i + 1) = x + 1 := (zI_s hx).symm
      have hg : mG (253 + E.length) [some (.ref 8), some (.ref (252 + E.length)), some (.int x)] [.int ((aStr ci).getD i 0), .ref 8] (u ++ (E ++ [(false, .inr (ci, []))])) := by
        unfold mG
        rw [hlen1]
        refine ⟨by omega, Nat.le_refl _, ?_⟩
        unfold mLs
        show ((decide (8 < 253 + E.length) && (decide (252 + E.length < 253 + E.length) && (true && true))) && (true && (decide (8 < 253 + E.length) && true))) = true
        rw [decide_eq_true (show 8 < 253 + E.length by omega), decide_eq_true (show 252 + E.length < 253 + E.length by omega)]
        rfl
      show mE (mFr (253 + E.length) d) (2, [some (.ref 8), some (.ref (252 + E.length)), some (.int x)], [], u ++ (E ++ [(false, .inr (ci, []))]), (0, 0)) _
      refine mVn_P (stop := fun p => p == 2) 60 ?_
      refine And.intro (by exact Nat.le_of_ble_eq_true rfl) (Exists.intro false (Exists.intro ci (Exists.intro [] (And.intro (e_at hl1) (And.intro hci ?_)))))
      refine And.intro (fun q => absurd (zgeT q hx rfl (by omega) (by omega)) (by omega)) (fun _ => ?_)
      refine And.intro (by exact Nat.le_of_ble_eq_true rfl) (Exists.intro false (Exists.intro ci (Exists.intro [] (Exists.intro i (And.intro (e_at hl1) (And.intro hci (And.intro hix ?_)))))))
      refine And.intro hg ?_
      refine Exists.intro _ (Exists.intro _ (Exists.intro _ (And.intro hr ?_)))
      refine And.intro (fun _ => ?_) (fun q => absurd es (cF q))
      exact ih2
    · obtain ⟨k1, O1⟩ := hu
      have hl1 := OT_len O1
      have hlen1 : (u ++ (E ++ [((false, .inr (ci, [])) : aC)])).length = 253 + E.length := e_len hl1
      obtain ⟨v, H2, kk, hr, hb, hR⟩ := L_reads (E := E ++ [(false, .inr (ci, []))]) (d := d) O1 (by omega)
      have hg : mG (253 + E.length) [some (.ref 8), some (.ref (252 + E.length)), some (.int x)] [.ref 8] (u ++ (E ++ [(false, .inr (ci, []))])) := by
        unfold mG
        rw [hlen1]
        refine ⟨by omega, Nat.le_refl _, ?_⟩
        unfold mLs
        show ((decide (8 < 253 + E.length) && (decide (252 + E.length < 253 + E.length) && (true && true))) && (decide (8 < 253 + E.length) && true)) = true
        rw [decide_eq_true (show 8 < 253 + E.length by omega), decide_eq_true (show 252 + E.length < 253 + E.length by omega)]
        rfl
      have hfin : ∃ v1 H1 k1, ((.inl (some (.int v)), H2 ++ (E ++ [(false, .inr (ci, []))]), (0 + kk.1, 0 + kk.2)) : aR) = (.inl (some (.int v1)), H1 ++ (E ++ [(false, .inr (ci, []))]), k1) ∧ kB 1 k1 ∧ Rn sn sf w l v1 H1 := ⟨v, H2, (0 + kk.1, 0 + kk.2), rfl, by rw [Nat.zero_add, Nat.zero_add]; exact hb, hR⟩
      show mE (mFr (253 + E.length) d) (2, [some (.ref 8), some (.ref (252 + E.length)), some (.int x)], [], u ++ (E ++ [(false, .inr (ci, []))]), (0, 0)) _
      refine mVn_P (stop := fun p => false) 60 ?_
      refine And.intro (by exact Nat.le_of_ble_eq_true rfl) (Exists.intro false (Exists.intro ci (Exists.intro [] (And.intro (e_at hl1) (And.intro hci ?_)))))
      refine And.intro (fun _ => ?_) (fun q => absurd (zgeF q hx rfl (by omega) (by omega)) (by omega))
      refine And.intro hg ?_
      refine Exists.intro _ (Exists.intro _ (Exists.intro _ (And.intro hr ?_)))
      exact hfin
  have h0 : mE (mStep (H ++ (E ++ [((false, .inr (ci, [])) : aC)])).length (d + 8) (mRun (d + 8)) [] aB_L_read (some .int)) (0, aIn 3 [.ref 8, .ref (252 + E.length)], [], H ++ (E ++ [(false, .inr (ci, []))]), (0, 0)) (fun r => ∃ v H1 kk, r = (.inl (some (.int v)), H1 ++ (E ++ [(false, .inr (ci, []))]), kk) ∧ kB 1 kk ∧ Rn sn sf w l v H1) := by
    refine mVn_P (stop := fun p => p == 2) 60 ?_
    rw [hlen]
    exact key
  obtain ⟨r, e1, v, H1, kk, rfl, hb, hR⟩ := mRun_P (m := m_L_read) rfl h0
  exact ⟨v, H1, kk, e1, hb, hR⟩
end RDT
