/-! THE LAW: what is drawn, change by change -/
/-- how a change has ended -/
def RA (sn : Nat) (sf : Nat → Int32) (w : aW) (l : List aW) (k : aW) (c1 c2 c3 : Int32) (r : aZ) (v : Int32) (H1 : aH) : Prop := (r.1 = -1 ∧ v = c1 ∧ OK sn sf w l k H1) ∨ (r.1 = -2 ∧ v = c2 ∧ OK sn sf w l k H1) ∨ (r.1 = -3 ∧ v = c3 ∧ OK sn sf w l (cpWhy r.2 k) H1) ∨ (0 ≤ r.1 ∧ v = r.1 ∧ ∃ k1, OK sn sf r.2 ((w :: l).take 8) k1 H1)
/-- wares alone so far, raw ones -/
def DA (w : aW) : Prop := gw w = 0 ∧ ow w = 0 ∧ Gt w ∧ ∀ j, j < nw w → w 1 j = 0
section DRW
variable {sn : Nat} {sf : Nat → Int32} {w v u : aW} {l : List aW} {k : aW} {H E H1 : aH} {d n i j m g s c t b : Nat} {x y z e1 e2 e3 r q : Int32} {f : aW → aZ}
theorem RA_no (h : RA sn sf w l k e1 e2 e3 (-3, u) r H1) : r = e3 ∧ OK sn sf w l (cpWhy u k) H1 := by
  rcases h with ⟨a, -⟩ | ⟨a, -⟩ | ⟨-, hv, O⟩ | ⟨a, -⟩
  · exact absurd a (by show ¬ (-3 : Int32) = -1; decide)
  · exact absurd a (by show ¬ (-3 : Int32) = -2; decide)
  · exact ⟨hv, O⟩
  · exact absurd a (by show ¬ (0 : Int32) ≤ -3; decide)
theorem RA_go (h : RA sn sf w l k e1 e2 e3 (q, u) r H1) (hq : 0 ≤ q) : r = q ∧ ∃ k1, OK sn sf u ((w :: l).take 8) k1 H1 := by
  have ne : ∀ c : Int32, c < 0 → ¬ q = c := fun c hc e => absurd hq (by rw [e]; exact Int32.not_le.mpr hc)
  rcases h with ⟨a, -⟩ | ⟨a, -⟩ | ⟨a, -⟩ | ⟨-, hv, O⟩
  · exact absurd a (ne _ (by decide))
  · exact absurd a (ne _ (by decide))
  · exact absurd a (ne _ (by decide))
  · exact ⟨hv, O⟩
theorem Gt_eq (en : nw v = nw w) (h : ∀ j, j < nw w → v 2 j = w 2 j ∧ v 3 j = w 3 j) (G : Gt w) : Gt v := fun j hj => by
  rw [en] at hj
  rw [(h j hj).1, (h j hj).2]
  exact G j hj
theorem Gt_same (h : wSame u w) (hn : nw w ≤ 60) (G : Gt w) : Gt u := Gt_eq (congrArg zn (h 16 3 (rg16 (by omega)))) (fun j hj => ⟨h 2 j (rg1 (by omega) (by omega) (by omega)), h 3 j (rg1 (by omega) (by omega) (by omega))⟩) G
theorem D_clay (O : OK sn sf w l k H) (h1 : 1 ≤ x ∧ x ≤ 99) (h2 : w 16 0 + x ≤ 999) (h0 : 0 ≤ w 16 0 + x) : ∃ H1 kk w1 l1 k1, mRun (d + 7) m_L_clay [.ref 8, .int x] (H ++ E) = some (.inl (some (.int (w 16 0 + x))), H1 ++ E, kk) ∧ kB 1 kk ∧ OK sn sf w1 l1 k1 H1 ∧ w1 16 0 = w 16 0 + x ∧ nw w1 = nw w ∧ gw w1 = gw w ∧ ow w1 = ow w := by
  obtain ⟨r, H1, kk, hr, hb, wd, hres⟩ := L_clay (E := E) (d := d) (x := x) O
  have hs := cpW_same w wd
  have e0 : cpW w wd 16 0 = w 16 0 := hs 16 0 (rg16 (by omega))
  have e : fClay (cpW w wd) x = (w 16 0 + x, upw (upw (cpW w wd) 16 0 (w 16 0 + x)) 16 1 (cpW w wd 16 1 + x)) := by
    unfold fClay
    rw [e0, if_pos h1, if_pos h2]
  have hres : RA sn sf w l k 0 (-1) (-2) (fClay (cpW w wd) x) r H1 := hres
  rw [e] at hres
  obtain ⟨hv, k1, O1⟩ := RA_go hres h0
  subst hv
  refine ⟨H1, kk, _, _, k1, hr, hb, O1, (upw_ne (by omega)).trans upw_eq, congrArg zn ?_, congrArg zn ?_, congrArg zn ?_⟩
  · exact (upw_ne (by omega)).trans ((upw_ne (by omega)).trans (hs 16 3 (rg16 (by omega))))
  · exact (upw_ne (by omega)).trans ((upw_ne (by omega)).trans (hs 16 4 (rg16 (by omega))))
  · exact (upw_ne (by omega)).trans ((upw_ne (by omega)).trans (hs 16 5 (rg16 (by omega))))
theorem wAdd_ot {a : Nat} (h1 : ¬ (1 ≤ a ∧ a ≤ 7 ∧ j = n)) (h2 : ¬ (a = 16 ∧ j = 3)) : wAdd w n x y a j = w a j := by
  unfold wAdd
  rw [upw_ne (by omega), upw_ne (by omega), upw_ne (by omega), upw_ne (by omega), upw_ne (by omega), upw_ne (by omega), upw_ne (by omega), upw_ne (by omega)]
theorem adds_f (w0 : aW) (n : Nat) (x z : Int32) : ∀ k, (∀ a j, ¬ (1 ≤ a ∧ a ≤ 7 ∧ n ≤ j ∧ j < n + k) → ¬ (a = 16 ∧ j = 3) → wAdds w0 n x z k a j = w0 a j) ∧ ∀ j, n ≤ j → j < n + k → wAdds w0 n x z k 1 j = 0 ∧ wAdds w0 n x z k 2 j = -1 ∧ wAdds w0 n x z k 3 j = 0
  | 0 => ⟨fun _ _ _ _ => rfl, fun j h1 h2 => by omega⟩
  | k + 1 => by
    obtain ⟨ih1, ih2⟩ := adds_f w0 n x z k
    refine ⟨fun a j h1 h2 => ?_, fun j h1 h2 => ?_⟩
    · show wAdd (wAdds w0 n x z k) (n + k) x z a j = _
      rw [wAdd_ot (by omega) h2]
      exact ih1 a j (by omega) h2
    · show wAdd (wAdds w0 n x z k) (n + k) x z 1 j = 0 ∧ wAdd (wAdds w0 n x z k) (n + k) x z 2 j = -1 ∧ wAdd (wAdds w0 n x z k) (n + k) x z 3 j = 0
      by_cases c : j = n + k
      · subst c
        unfold wAdd
        refine ⟨?_, ?_, ?_⟩
        · exact (upw_ne (by omega)).trans ((upw_ne (by omega)).trans ((upw_ne (by omega)).trans ((upw_ne (by omega)).trans ((upw_ne (by omega)).trans upw_eq))))
        · exact (upw_ne (by omega)).trans ((upw_ne (by omega)).trans ((upw_ne (by omega)).trans ((upw_ne (by omega)).trans upw_eq)))
        · exact (upw_ne (by omega)).trans ((upw_ne (by omega)).trans ((upw_ne (by omega)).trans upw_eq))
      · rw [wAdd_ot (by omega) (by omega), wAdd_ot (by omega) (by omega), wAdd_ot (by omega) (by omega)]
        exact ih2 j h1 (by omega)
theorem D_cast (O : OK sn sf w l k H) (hx : 0 ≤ x ∧ x ≤ 3) (hy : y = Int32.ofNat c) (hc : 1 ≤ c ∧ c ≤ 4) (hz : 30 ≤ z ∧ z ≤ 60) (hnc : nw w + c ≤ 60) (hst : w 16 0 = Int32.ofNat s) (h16 : 16 ≤ s) (hs9 : s < 1000) (hA : DA w) : ∃ H1 kk w1 l1 k1 s1, mRun (d + 7) m_L_cast [.ref 8, .int x, .int y, .int z] (H ++ E) = some (.inl (some (.int (Int32.ofNat (nw w + c)))), H1 ++ E, kk) ∧ kB 1 kk ∧ OK sn sf w1 l1 k1 H1 ∧ w1 16 0 = Int32.ofNat s1 ∧ s ≤ s1 + 16 ∧ s1 < 1000 ∧ nw w1 = nw w + c ∧ DA w1 := by
  have hok : wOk w (nw w) (gw w) (ow w) := ok_okk O
  obtain ⟨r, H1, kk, hr, hb, wd, hres⟩ := L_cast (E := E) (d := d) (x := x) (y := y) (z := z) O
  have hs := cpW_same w wd
  have e0 : cpW w wd 16 0 = w 16 0 := hs 16 0 (rg16 (by omega))
  have e3 : cpW w wd 16 3 = w 16 3 := hs 16 3 (rg16 (by omega))
  obtain ⟨f1, f2⟩ := fz_n x
  have hm : c * zn (fSz x) ≤ 16 := by
    have := Nat.mul_le_mul hc.2 f2
    omega
  have ey : y * fSz x = Int32.ofNat (c * zn (fSz x)) := by
    rw [hy]
    conv => lhs; rw [f1]
    exact (Int32.ofNat_mul c _).symm
  have en : w 16 3 + y = Int32.ofNat (nw w + c) := by
    rw [hok.1.1, hy, Int32.ofNat_add]
  have ezn : zn y = c := zn_of hy (by omega)
  have c0 : (0 ≤ x ∧ x ≤ 3) ∧ (1 ≤ y ∧ y ≤ 20) ∧ (30 ≤ z ∧ z ≤ 60) := ⟨hx, ⟨(zI_le (x := 1) (i := 1) rfl hy (by omega) (by omega)).mpr hc.1, (zI_le (y := 20) (n := 20) hy rfl (by omega) (by omega)).mpr (by omega)⟩, hz⟩
  have e : fCast (cpW w wd) (nw w) x y z = (Int32.ofNat (nw w + c), wAdds (upw (cpW w wd) 16 0 (w 16 0 - y * fSz x)) (nw w) x z c) := by
    unfold fCast
    rw [e3, e0, if_pos c0, if_pos (by rw [en]; exact (zI_le (y := 60) (n := 60) rfl rfl (by omega) (by omega)).mpr hnc), if_pos (by rw [ey, hst]; exact (zI_le rfl rfl (by omega) (by omega)).mpr (by omega)), en, ezn]
  have hres : RA sn sf w l k 0 (-1) (-2) (fCast (cpW w wd) (nw w) x y z) r H1 := hres
  rw [e] at hres
  obtain ⟨hv, k1, O1⟩ := RA_go hres (Int32.not_lt.mp (ofN_lt0 (by omega)))
  subst hv
  obtain ⟨g1, g2⟩ := adds_f (upw (cpW w wd) 16 0 (w 16 0 - y * fSz x)) (nw w) x z c
  have n3 : wAdds (upw (cpW w wd) 16 0 (w 16 0 - y * fSz x)) (nw w) x z c 16 3 = Int32.ofNat (nw w + c) := wAdds_n (((upw_ne (by omega)).trans e3).trans hok.1.1) c
  have en1 : nw (wAdds (upw (cpW w wd) 16 0 (w 16 0 - y * fSz x)) (nw w) x z c) = nw w + c := zn_of n3 (by omega)
  refine ⟨H1, kk, _, _, k1, s - c * zn (fSz x), hr, hb, O1, ?_, by omega, by omega, en1, ?_, ?_, fun j hj => ?_, fun j hj => ?_⟩
  · rw [g1 16 0 (by omega) (by omega), upw_eq, ey, hst]
    have e9 : Int32.ofNat s = Int32.ofNat (s - c * zn (fSz x)) + Int32.ofNat (c * zn (fSz x)) := by
      rw [← Int32.ofNat_add]
      congr 1
      omega
    rw [e9, Int32.add_sub_cancel]
  · show zn _ = 0
    rw [g1 16 4 (by omega) (by omega), upw_ne (by omega), hs 16 4 (rg16 (by omega))]
    exact hA.1
  · show zn _ = 0
    rw [g1 16 5 (by omega) (by omega), upw_ne (by omega), hs 16 5 (rg16 (by omega))]
    exact hA.2.1
  · rw [en1] at hj
    by_cases cj : j < nw w
    · rw [g1 2 j (by omega) (by omega), g1 3 j (by omega) (by omega), upw_ne (by omega), upw_ne (by omega), hs 2 j (rg1 (by omega) (by omega) (by omega)), hs 3 j (rg1 (by omega) (by omega) (by omega))]
      exact hA.2.2.1 j cj
    · obtain ⟨-, q2, q3⟩ := g2 j (by omega) (by omega)
      rw [q2, q3]
      decide
  · rw [en1] at hj
    by_cases cj : j < nw w
    · rw [g1 1 j (by omega) (by omega), upw_ne (by omega), hs 1 j (rg1 (by omega) (by omega) (by omega))]
      exact hA.2.2.2 j cj
    · exact (g2 j (by omega) (by omega)).1
theorem mt_nn : ∀ a : Fin 4, ∀ b : Fin 10, 0 ≤ fMt (Int32.ofNat a.val) - 4 * Int32.ofNat b.val := by decide +kernel
theorem D_glaze (O : OK sn sf w l k H) (hx : x = Int32.ofNat j) (hj : j < nw w) (hy : y = Int32.ofNat b) (hb4 : b < 4) (hz : z = Int32.ofNat t) (ht : 1 ≤ t ∧ t ≤ 9) (hA : DA w) : ∃ r H1 kk w1 l1 k1, mRun (d + 7) m_L_glaze [.ref 8, .int x, .int y, .int z] (H ++ E) = some (.inl (some (.int r)), H1 ++ E, kk) ∧ kB 1 kk ∧ 0 ≤ r ∧ OK sn sf w1 l1 k1 H1 ∧ nw w1 = nw w ∧ DA w1 := by
  have hok : wOk w (nw w) (gw w) (ow w) := ok_okk O
  have hn := hok.1.2.1
  obtain ⟨r, H1, kk, hr, hb, wd, hres⟩ := L_glaze (E := E) (d := d) (x := x) (y := y) (z := z) O
  have hs := cpW_same w wd
  have e3 : cpW w wd 16 3 = w 16 3 := hs 16 3 (rg16 (by omega))
  have ej : zn x = j := zn_of hx (by omega)
  have c0 : 0 ≤ x ∧ x < w 16 3 := ⟨(zI_le (x := 0) (i := 0) rfl hx (by omega) (by omega)).mpr (by omega), (zI_lt hx hok.1.1 (by omega) (by omega)).mpr hj⟩
  have c1 : (0 ≤ y ∧ y ≤ 3) ∧ (1 ≤ z ∧ z ≤ 9) := ⟨⟨(zI_le (x := 0) (i := 0) rfl hy (by omega) (by omega)).mpr (by omega), (zI_le (y := 3) (n := 3) hy rfl (by omega) (by omega)).mpr (by omega)⟩, ⟨(zI_le (x := 1) (i := 1) rfl hz (by omega) (by omega)).mpr ht.1, (zI_le (y := 9) (n := 9) hz rfl (by omega) (by omega)).mpr ht.2⟩⟩
  have h1 : cpW w wd 1 j = 0 := (hs 1 j (rg1 (by omega) (by omega) (by omega))).trans (hA.2.2.2 j hj)
  have e : fCoat (cpW w wd) x y z = (fMt y - 4 * z, upw (upw (cpW w wd) 2 j y) 3 j z) := by
    unfold fCoat
    rw [e3, ej, if_pos c0, if_pos c1, if_pos h1]
  have hres : RA sn sf w l k (-1) (-2) (-3) (fCoat (cpW w wd) x y z) r H1 := hres
  rw [e] at hres
  have h0 : 0 ≤ fMt y - 4 * z := by
    rw [hy, hz]
    exact mt_nn ⟨b, hb4⟩ ⟨t, by omega⟩
  obtain ⟨hv, k1, O1⟩ := RA_go hres h0
  subst hv
  have eo : ∀ a i, ¬ (a = 2 ∨ a = 3) → upw (upw (cpW w wd) 2 j y) 3 j z a i = cpW w wd a i := fun a i h => (upw_ne (by omega)).trans (upw_ne (by omega))
  have en1 : nw (upw (upw (cpW w wd) 2 j y) 3 j z) = nw w := congrArg zn ((eo 16 3 (by omega)).trans e3)
  refine ⟨_, H1, kk, _, _, k1, hr, hb, h0, O1, en1, ?_, ?_, fun i hi => ?_, fun i hi => ?_⟩
  · exact (congrArg zn ((eo 16 4 (by omega)).trans (hs 16 4 (rg16 (by omega))))).trans hA.1
  · exact (congrArg zn ((eo 16 5 (by omega)).trans (hs 16 5 (rg16 (by omega))))).trans hA.2.1
  · rw [en1] at hi
    by_cases ci : i = j
    · subst ci
      have e2 : upw (upw (cpW w wd) 2 i y) 3 i z 2 i = y := (upw_ne (by omega)).trans upw_eq
      have e4 : upw (upw (cpW w wd) 2 i y) 3 i z 3 i = z := upw_eq
      rw [e2, e4]
      refine ⟨fun q => absurd c1.1.1 (Int32.not_le.mpr q), fun q => ?_⟩
      have := ofN_ne (i := t) (j := 0) (by omega) (by omega) (hz.symm.trans q)
      omega
    · have e2 : upw (upw (cpW w wd) 2 j y) 3 j z 2 i = w 2 i := (upw_ne (by omega)).trans ((upw_ne (by omega)).trans (hs 2 i (rg1 (by omega) (by omega) (by omega))))
      have e4 : upw (upw (cpW w wd) 2 j y) 3 j z 3 i = w 3 i := (upw_ne (by omega)).trans ((upw_ne (by omega)).trans (hs 3 i (rg1 (by omega) (by omega) (by omega))))
      rw [e2, e4]
      exact hA.2.2.1 i hi
  · rw [en1] at hi
    rw [eo 1 i (by omega), hs 1 i (rg1 (by omega) (by omega) (by omega))]
    exact hA.2.2.2 i hi
end DRW
