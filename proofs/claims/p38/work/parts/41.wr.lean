/-! THE LAW'S WRAPPERS -/
def kB (n : Nat) (kk : aK) : Prop := kk.1 ≤ n ∧ kk.2 ≤ 6 * n
section WRP
variable {sn : Nat} {sf : Nat → Int32} {w : aW} {l : List aW} {k k1 : aW} {V : Nat → aW} {H E h h1 : aH} {d m j c : Nat} {as fs : List Value} {x y z u t s v : Int32} {kk : aK} {f : aW → aZ} {Es : List Int32}
theorem v_set (h8 : h[8]? = some (true, .inr (7, fs))) (hr : aRun false d m_X7_set [.ref 8, .int x, .int y] h = some (.inl (some (.int v)), h1, (0, 0))) : mRun (d + 1) m_L_set [.ref 8, .int x, .int y] h = some (.inl (some (.int v)), h1, (0, 0)) := by
  refine mRun_of rfl (mVn_end (stop := fun p => false) 60 ?_)
  refine And.intro ⟨by decide, fs, h8⟩ ?_
  refine Exists.intro _ (And.intro hr ?_)
  exact rfl
theorem v_set_0 (h8 : h[8]? = some (true, .inr (7, fs))) (hr : aRun false d m_X7_set [.ref 8, .int x, .int y] h = some (.inr 0, h1, (1, 6))) : mRun (d + 1) m_L_set [.ref 8, .int x, .int y] h = some (.inl (some (.int (-1))), h1, (1, 6)) := by
  refine mRun_of rfl (mVn_end (stop := fun p => false) 60 ?_)
  refine And.intro ⟨by decide, fs, h8⟩ ?_
  refine Exists.intro _ (And.intro hr ?_)
  exact rfl
theorem L_set (O : OK sn sf w l k H) : ∃ v H1 kk, mRun (d + 7) m_L_set [.ref 8, .int x, .int y] (H ++ E) = some (.inl (some (.int v)), H1 ++ E, kk) ∧ kB 1 kk ∧ Res sn sf w l k 0 (-1) 0 (fun wd => fSet (cpW w wd) x y) v H1 := by
  have hok : wOk w (nw w) (gw w) (ow w) := ok_okk O
  obtain ⟨H1, wd, ⟨h, hm, hr, O1⟩ | ⟨h, hm, hr, O1⟩ | ⟨h, hm, hr, O1⟩ | ⟨h, hr, O1⟩⟩ := op_any (E := E) (d := d + 6) (f := fun wd => fSet (cpW w wd) x y) (Es := [-2]) (as := [.ref 8, .int x, .int y]) O (fun wd ws j hj hj8 => k_set d hj hj8 hok) (fun wd => pe_set (wOk_same (cpW_same w wd) hok)) as_3
  · exact absurd hm (by decide)
  · exact ⟨_, H1, _, v_set_0 (h8 := (ok_8 O (E := E)).choose_spec) hr, ⟨by decide, by decide⟩, wd, Or.inr (Or.inl ⟨h, rfl, O1⟩)⟩
  · exact absurd hm (by decide)
  · exact ⟨_, H1, _, v_set (h8 := (ok_8 O (E := E)).choose_spec) hr, ⟨by decide, by decide⟩, wd, Or.inr (Or.inr (Or.inr ⟨h, rfl, O1⟩))⟩
theorem v_clay (h8 : h[8]? = some (true, .inr (7, fs))) (hr : aRun false d m_X7_clay [.ref 8, .int x] h = some (.inl (some (.int v)), h1, (0, 0))) : mRun (d + 1) m_L_clay [.ref 8, .int x] h = some (.inl (some (.int v)), h1, (0, 0)) := by
  refine mRun_of rfl (mVn_end (stop := fun p => false) 60 ?_)
  refine And.intro ⟨by decide, fs, h8⟩ ?_
  refine Exists.intro _ (And.intro hr ?_)
  exact rfl
theorem v_clay_0 (h8 : h[8]? = some (true, .inr (7, fs))) (hr : aRun false d m_X7_clay [.ref 8, .int x] h = some (.inr 0, h1, (1, 6))) : mRun (d + 1) m_L_clay [.ref 8, .int x] h = some (.inl (some (.int (-1))), h1, (1, 6)) := by
  refine mRun_of rfl (mVn_end (stop := fun p => false) 60 ?_)
  refine And.intro ⟨by decide, fs, h8⟩ ?_
  refine Exists.intro _ (And.intro hr ?_)
  exact rfl
theorem v_clay_1 (h8 : h[8]? = some (true, .inr (7, fs))) (hr : aRun false d m_X7_clay [.ref 8, .int x] h = some (.inr 1, h1, (1, 6))) : mRun (d + 1) m_L_clay [.ref 8, .int x] h = some (.inl (some (.int (-2))), h1, (1, 6)) := by
  refine mRun_of rfl (mVn_end (stop := fun p => false) 60 ?_)
  refine And.intro ⟨by decide, fs, h8⟩ ?_
  refine Exists.intro _ (And.intro hr ?_)
  exact rfl
theorem L_clay (O : OK sn sf w l k H) : ∃ v H1 kk, mRun (d + 7) m_L_clay [.ref 8, .int x] (H ++ E) = some (.inl (some (.int v)), H1 ++ E, kk) ∧ kB 1 kk ∧ Res sn sf w l k 0 (-1) (-2) (fun wd => fClay (cpW w wd) x) v H1 := by
  have hok : wOk w (nw w) (gw w) (ow w) := ok_okk O
  obtain ⟨H1, wd, ⟨h, hm, hr, O1⟩ | ⟨h, hm, hr, O1⟩ | ⟨h, hm, hr, O1⟩ | ⟨h, hr, O1⟩⟩ := op_any (E := E) (d := d + 6) (f := fun wd => fClay (cpW w wd) x) (Es := [-2, -3]) (as := [.ref 8, .int x]) O (fun wd ws j hj hj8 => k_clay d hj hj8 hok) (fun wd => pe_clay (wOk_same (cpW_same w wd) hok)) as_2
  · exact absurd hm (by decide)
  · exact ⟨_, H1, _, v_clay_0 (h8 := (ok_8 O (E := E)).choose_spec) hr, ⟨by decide, by decide⟩, wd, Or.inr (Or.inl ⟨h, rfl, O1⟩)⟩
  · exact ⟨_, H1, _, v_clay_1 (h8 := (ok_8 O (E := E)).choose_spec) hr, ⟨by decide, by decide⟩, wd, Or.inr (Or.inr (Or.inl ⟨h, rfl, O1⟩))⟩
  · exact ⟨_, H1, _, v_clay (h8 := (ok_8 O (E := E)).choose_spec) hr, ⟨by decide, by decide⟩, wd, Or.inr (Or.inr (Or.inr ⟨h, rfl, O1⟩))⟩
theorem v_cast (h8 : h[8]? = some (true, .inr (7, fs))) (hr : aRun false d m_X7_cast [.ref 8, .int x, .int y, .int z] h = some (.inl (some (.int v)), h1, (0, 0))) : mRun (d + 1) m_L_cast [.ref 8, .int x, .int y, .int z] h = some (.inl (some (.int v)), h1, (0, 0)) := by
  refine mRun_of rfl (mVn_end (stop := fun p => false) 60 ?_)
  refine And.intro ⟨by decide, fs, h8⟩ ?_
  refine Exists.intro _ (And.intro hr ?_)
  exact rfl
theorem v_cast_0 (h8 : h[8]? = some (true, .inr (7, fs))) (hr : aRun false d m_X7_cast [.ref 8, .int x, .int y, .int z] h = some (.inr 0, h1, (1, 6))) : mRun (d + 1) m_L_cast [.ref 8, .int x, .int y, .int z] h = some (.inl (some (.int (-1))), h1, (1, 6)) := by
  refine mRun_of rfl (mVn_end (stop := fun p => false) 60 ?_)
  refine And.intro ⟨by decide, fs, h8⟩ ?_
  refine Exists.intro _ (And.intro hr ?_)
  exact rfl
theorem v_cast_1 (h8 : h[8]? = some (true, .inr (7, fs))) (hr : aRun false d m_X7_cast [.ref 8, .int x, .int y, .int z] h = some (.inr 1, h1, (1, 6))) : mRun (d + 1) m_L_cast [.ref 8, .int x, .int y, .int z] h = some (.inl (some (.int (-2))), h1, (1, 6)) := by
  refine mRun_of rfl (mVn_end (stop := fun p => false) 60 ?_)
  refine And.intro ⟨by decide, fs, h8⟩ ?_
  refine Exists.intro _ (And.intro hr ?_)
  exact rfl
theorem L_cast (O : OK sn sf w l k H) : ∃ v H1 kk, mRun (d + 7) m_L_cast [.ref 8, .int x, .int y, .int z] (H ++ E) = some (.inl (some (.int v)), H1 ++ E, kk) ∧ kB 1 kk ∧ Res sn sf w l k 0 (-1) (-2) (fun wd => fCast (cpW w wd) (nw w) x y z) v H1 := by
  have hok : wOk w (nw w) (gw w) (ow w) := ok_okk O
  obtain ⟨H1, wd, ⟨h, hm, hr, O1⟩ | ⟨h, hm, hr, O1⟩ | ⟨h, hm, hr, O1⟩ | ⟨h, hr, O1⟩⟩ := op_any (E := E) (d := d + 6) (f := fun wd => fCast (cpW w wd) (nw w) x y z) (Es := [-2, -3]) (as := [.ref 8, .int x, .int y, .int z]) O (fun wd ws j hj hj8 => k_cast d hj hj8 hok) (fun wd => pe_cast (wOk_same (cpW_same w wd) hok)) as_4
  · exact absurd hm (by decide)
  · exact ⟨_, H1, _, v_cast_0 (h8 := (ok_8 O (E := E)).choose_spec) hr, ⟨by decide, by decide⟩, wd, Or.inr (Or.inl ⟨h, rfl, O1⟩)⟩
  · exact ⟨_, H1, _, v_cast_1 (h8 := (ok_8 O (E := E)).choose_spec) hr, ⟨by decide, by decide⟩, wd, Or.inr (Or.inr (Or.inl ⟨h, rfl, O1⟩))⟩
  · exact ⟨_, H1, _, v_cast (h8 := (ok_8 O (E := E)).choose_spec) hr, ⟨by decide, by decide⟩, wd, Or.inr (Or.inr (Or.inr ⟨h, rfl, O1⟩))⟩
theorem v_glaze (h8 : h[8]? = some (true, .inr (7, fs))) (hr : aRun false d m_X7_glaze [.ref 8, .int x, .int y, .int z] h = some (.inl (some (.int v)), h1, (0, 0))) : mRun (d + 1) m_L_glaze [.ref 8, .int x, .int y, .int z] h = some (.inl (some (.int v)), h1, (0, 0)) := by
  refine mRun_of rfl (mVn_end (stop := fun p => false) 60 ?_)
  refine And.intro ⟨by decide, fs, h8⟩ ?_
  refine Exists.intro _ (And.intro hr ?_)
  exact rfl
theorem v_glaze_2 (h8 : h[8]? = some (true, .inr (7, fs))) (hr : aRun false d m_X7_glaze [.ref 8, .int x, .int y, .int z] h = some (.inr 2, h1, (1, 6))) : mRun (d + 1) m_L_glaze [.ref 8, .int x, .int y, .int z] h = some (.inl (some (.int (-1))), h1, (1, 6)) := by
  refine mRun_of rfl (mVn_end (stop := fun p => false) 60 ?_)
  refine And.intro ⟨by decide, fs, h8⟩ ?_
  refine Exists.intro _ (And.intro hr ?_)
  exact rfl
theorem v_glaze_0 (h8 : h[8]? = some (true, .inr (7, fs))) (hr : aRun false d m_X7_glaze [.ref 8, .int x, .int y, .int z] h = some (.inr 0, h1, (1, 6))) : mRun (d + 1) m_L_glaze [.ref 8, .int x, .int y, .int z] h = some (.inl (some (.int (-2))), h1, (1, 6)) := by
  refine mRun_of rfl (mVn_end (stop := fun p => false) 60 ?_)
  refine And.intro ⟨by decide, fs, h8⟩ ?_
  refine Exists.intro _ (And.intro hr ?_)
  exact rfl
theorem v_glaze_1 (h8 : h[8]? = some (true, .inr (7, fs))) (hr : aRun false d m_X7_glaze [.ref 8, .int x, .int y, .int z] h = some (.inr 1, h1, (1, 6))) : mRun (d + 1) m_L_glaze [.ref 8, .int x, .int y, .int z] h = some (.inl (some (.int (-3))), h1, (1, 6)) := by
  refine mRun_of rfl (mVn_end (stop := fun p => false) 60 ?_)
  refine And.intro ⟨by decide, fs, h8⟩ ?_
  refine Exists.intro _ (And.intro hr ?_)
  exact rfl
theorem L_glaze (O : OK sn sf w l k H) : ∃ v H1 kk, mRun (d + 7) m_L_glaze [.ref 8, .int x, .int y, .int z] (H ++ E) = some (.inl (some (.int v)), H1 ++ E, kk) ∧ kB 1 kk ∧ Res sn sf w l k (-1) (-2) (-3) (fun wd => fCoat (cpW w wd) x y z) v H1 := by
  have hok : wOk w (nw w) (gw w) (ow w) := ok_okk O
  obtain ⟨H1, wd, ⟨h, hm, hr, O1⟩ | ⟨h, hm, hr, O1⟩ | ⟨h, hm, hr, O1⟩ | ⟨h, hr, O1⟩⟩ := op_any (E := E) (d := d + 6) (f := fun wd => fCoat (cpW w wd) x y z) (Es := [-1, -2, -3]) (as := [.ref 8, .int x, .int y, .int z]) O (fun wd ws j hj hj8 => k_glaze d hj hj8 hok) (fun wd => pe_coat (wOk_same (cpW_same w wd) hok)) as_4
  · exact ⟨_, H1, _, v_glaze_2 (h8 := (ok_8 O (E := E)).choose_spec) hr, ⟨by decide, by decide⟩, wd, Or.inl ⟨h, rfl, O1⟩⟩
  · exact ⟨_, H1, _, v_glaze_0 (h8 := (ok_8 O (E := E)).choose_spec) hr, ⟨by decide, by decide⟩, wd, Or.inr (Or.inl ⟨h, rfl, O1⟩)⟩
  · exact ⟨_, H1, _, v_glaze_1 (h8 := (ok_8 O (E := E)).choose_spec) hr, ⟨by decide, by decide⟩, wd, Or.inr (Or.inr (Or.inl ⟨h, rfl, O1⟩))⟩
  · exact ⟨_, H1, _, v_glaze (h8 := (ok_8 O (E := E)).choose_spec) hr, ⟨by decide, by decide⟩, wd, Or.inr (Or.inr (Or.inr ⟨h, rfl, O1⟩))⟩
theorem v_saggar (h8 : h[8]? = some (true, .inr (7, fs))) (hr : aRun false d m_X7_saggar [.ref 8] h = some (.inl (some (.int v)), h1, (0, 0))) : mRun (d + 1) m_L_saggar [.ref 8] h = some (.inl (some (.int v)), h1, (0, 0)) := by
  refine mRun_of rfl (mVn_end (stop := fun p => false) 60 ?_)
  refine And.intro ⟨by decide, fs, h8⟩ ?_
  refine Exists.intro _ (And.intro hr ?_)
  exact rfl
theorem v_saggar_1 (h8 : h[8]? = some (true, .inr (7, fs))) (hr : aRun false d m_X7_saggar [.ref 8] h = some (.inr 1, h1, (1, 6))) : mRun (d + 1) m_L_saggar [.ref 8] h = some (.inl (some (.int (-1))), h1, (1, 6)) := by
  refine mRun_of rfl (mVn_end (stop := fun p => false) 60 ?_)
  refine And.intro ⟨by decide, fs, h8⟩ ?_
  refine Exists.intro _ (And.intro hr ?_)
  exact rfl
theorem L_saggar (O : OK sn sf w l k H) : ∃ v H1 kk, mRun (d + 7) m_L_saggar [.ref 8] (H ++ E) = some (.inl (some (.int v)), H1 ++ E, kk) ∧ kB 1 kk ∧ Res sn sf w l k 0 0 (-1) (fun wd => fSag (cpW w wd) (gw w)) v H1 := by
  have hok : wOk w (nw w) (gw w) (ow w) := ok_okk O
  obtain ⟨H1, wd, ⟨h, hm, hr, O1⟩ | ⟨h, hm, hr, O1⟩ | ⟨h, hm, hr, O1⟩ | ⟨h, hr, O1⟩⟩ := op_any (E := E) (d := d + 6) (f := fun wd => fSag (cpW w wd) (gw w)) (Es := [-3]) (as := [.ref 8]) O (fun wd ws j hj hj8 => k_saggar d hj hj8 hok) (fun wd => pe_sag (wOk_same (cpW_same w wd) hok)) as_1
  · exact absurd hm (by decide)
  · exact absurd hm (by decide)
  · exact ⟨_, H1, _, v_saggar_1 (h8 := (ok_8 O (E := E)).choose_spec) hr, ⟨by decide, by decide⟩, wd, Or.inr (Or.inr (Or.inl ⟨h, rfl, O1⟩))⟩
  · exact ⟨_, H1, _, v_saggar (h8 := (ok_8 O (E := E)).choose_spec) hr, ⟨by decide, by decide⟩, wd, Or.inr (Or.inr (Or.inr ⟨h, rfl, O1⟩))⟩
theorem v_stack (h8 : h[8]? = some (true, .inr (7, fs))) (hr : aRun false d m_X7_stack [.ref 8, .int x, .int y, .int z] h = some (.inl (some (.int v)), h1, (0, 0))) : mRun (d + 1) m_L_stack [.ref 8, .int x, .int y, .int z] h = some (.inl (some (.int v)), h1, (0, 0)) := by
  refine mRun_of rfl (mVn_end (stop := fun p => false) 60 ?_)
  refine And.intro ⟨by decide, fs, h8⟩ ?_
  refine Exists.intro _ (And.intro hr ?_)
  exact rfl
theorem v_stack_2 (h8 : h[8]? = some (true, .inr (7, fs))) (hr : aRun false d m_X7_stack [.ref 8, .int x, .int y, .int z] h = some (.inr 2, h1, (1, 6))) : mRun (d + 1) m_L_stack [.ref 8, .int x, .int y, .int z] h = some (.inl (some (.int (-1))), h1, (1, 6)) := by
  refine mRun_of rfl (mVn_end (stop := fun p => false) 60 ?_)
  refine And.intro ⟨by decide, fs, h8⟩ ?_
  refine Exists.intro _ (And.intro hr ?_)
  exact rfl
theorem v_stack_0 (h8 : h[8]? = some (true, .inr (7, fs))) (hr : aRun false d m_X7_stack [.ref 8, .int x, .int y, .int z] h = some (.inr 0, h1, (1, 6))) : mRun (d + 1) m_L_stack [.ref 8, .int x, .int y, .int z] h = some (.inl (some (.int (-2))), h1, (1, 6)) := by
  refine mRun_of rfl (mVn_end (stop := fun p => false) 60 ?_)
  refine And.intro ⟨by decide, fs, h8⟩ ?_
  refine Exists.intro _ (And.intro hr ?_)
  exact rfl
theorem v_stack_1 (h8 : h[8]? = some (true, .inr (7, fs))) (hr : aRun false d m_X7_stack [.ref 8, .int x, .int y, .int z] h = some (.inr 1, h1, (1, 6))) : mRun (d + 1) m_L_stack [.ref 8, .int x, .int y, .int z] h = some (.inl (some (.int (-3))), h1, (1, 6)) := by
  refine mRun_of rfl (mVn_end (stop := fun p => false) 60 ?_)
  refine And.intro ⟨by decide, fs, h8⟩ ?_
  refine Exists.intro _ (And.intro hr ?_)
  exact rfl
theorem L_stack (O : OK sn sf w l k H) : ∃ v H1 kk, mRun (d + 7) m_L_stack [.ref 8, .int x, .int y, .int z] (H ++ E) = some (.inl (some (.int v)), H1 ++ E, kk) ∧ kB 1 kk ∧ Res sn sf w l k (-1) (-2) (-3) (fun wd => fStand (cpW w wd) (nw w) (gw w) x y z) v H1 := by
  have hok : wOk w (nw w) (gw w) (ow w) := ok_okk O
  obtain ⟨H1, wd, ⟨h, hm, hr, O1⟩ | ⟨h, hm, hr, O1⟩ | ⟨h, hm, hr, O1⟩ | ⟨h, hr, O1⟩⟩ := op_any (E := E) (d := d + 6) (f := fun wd => fStand (cpW w wd) (nw w) (gw w) x y z) (Es := [-1, -2, -3]) (as := [.ref 8, .int x, .int y, .int z]) O (fun wd ws j hj hj8 => k_stack d hj hj8 hok) (fun wd => pe_stand (wOk_same (cpW_same w wd) hok)) as_4
  · exact ⟨_, H1, _, v_stack_2 (h8 := (ok_8 O (E := E)).choose_spec) hr, ⟨by decide, by decide⟩, wd, Or.inl ⟨h, rfl, O1⟩⟩
  · exact ⟨_, H1, _, v_stack_0 (h8 := (ok_8 O (E := E)).choose_spec) hr, ⟨by decide, by decide⟩, wd, Or.inr (Or.inl ⟨h, rfl, O1⟩)⟩
  · exact ⟨_, H1, _, v_stack_1 (h8 := (ok_8 O (E := E)).choose_spec) hr, ⟨by decide, by decide⟩, wd, Or.inr (Or.inr (Or.inl ⟨h, rfl, O1⟩))⟩
  · exact ⟨_, H1, _, v_stack (h8 := (ok_8 O (E := E)).choose_spec) hr, ⟨by decide, by decide⟩, wd, Or.inr (Or.inr (Or.inr ⟨h, rfl, O1⟩))⟩
theorem v_unstack (h8 : h[8]? = some (true, .inr (7, fs))) (hr : aRun false d m_X7_unstack [.ref 8, .int x] h = some (.inl (some (.int v)), h1, (0, 0))) : mRun (d + 1) m_L_unstack [.ref 8, .int x] h = some (.inl (some (.int v)), h1, (0, 0)) := by
  refine mRun_of rfl (mVn_end (stop := fun p => false) 60 ?_)
  refine And.intro ⟨by decide, fs, h8⟩ ?_
  refine Exists.intro _ (And.intro hr ?_)
  exact rfl
theorem v_unstack_2 (h8 : h[8]? = some (true, .inr (7, fs))) (hr : aRun false d m_X7_unstack [.ref 8, .int x] h = some (.inr 2, h1, (1, 6))) : mRun (d + 1) m_L_unstack [.ref 8, .int x] h = some (.inl (some (.int (-1))), h1, (1, 6)) := by
  refine mRun_of rfl (mVn_end (stop := fun p => false) 60 ?_)
  refine And.intro ⟨by decide, fs, h8⟩ ?_
  refine Exists.intro _ (And.intro hr ?_)
  exact rfl
theorem v_unstack_1 (h8 : h[8]? = some (true, .inr (7, fs))) (hr : aRun false d m_X7_unstack [.ref 8, .int x] h = some (.inr 1, h1, (1, 6))) : mRun (d + 1) m_L_unstack [.ref 8, .int x] h = some (.inl (some (.int (-2))), h1, (1, 6)) := by
  refine mRun_of rfl (mVn_end (stop := fun p => false) 60 ?_)
  refine And.intro ⟨by decide, fs, h8⟩ ?_
  refine Exists.intro _ (And.intro hr ?_)
  exact rfl
theorem L_unstack (O : OK sn sf w l k H) : ∃ v H1 kk, mRun (d + 7) m_L_unstack [.ref 8, .int x] (H ++ E) = some (.inl (some (.int v)), H1 ++ E, kk) ∧ kB 1 kk ∧ Res sn sf w l k (-1) 0 (-2) (fun wd => fDown (cpW w wd) (gw w) x) v H1 := by
  have hok : wOk w (nw w) (gw w) (ow w) := ok_okk O
  obtain ⟨H1, wd, ⟨h, hm, hr, O1⟩ | ⟨h, hm, hr, O1⟩ | ⟨h, hm, hr, O1⟩ | ⟨h, hr, O1⟩⟩ := op_any (E := E) (d := d + 6) (f := fun wd => fDown (cpW w wd) (gw w) x) (Es := [-1, -3]) (as := [.ref 8, .int x]) O (fun wd ws j hj hj8 => k_unstack d hj hj8 hok) (fun wd => pe_down (wOk_same (cpW_same w wd) hok)) as_2
  · exact ⟨_, H1, _, v_unstack_2 (h8 := (ok_8 O (E := E)).choose_spec) hr, ⟨by decide, by decide⟩, wd, Or.inl ⟨h, rfl, O1⟩⟩
  · exact absurd hm (by decide)
  · exact ⟨_, H1, _, v_unstack_1 (h8 := (ok_8 O (E := E)).choose_spec) hr, ⟨by decide, by decide⟩, wd, Or.inr (Or.inr (Or.inl ⟨h, rfl, O1⟩))⟩
  · exact ⟨_, H1, _, v_unstack (h8 := (ok_8 O (E := E)).choose_spec) hr, ⟨by decide, by decide⟩, wd, Or.inr (Or.inr (Or.inr ⟨h, rfl, O1⟩))⟩
theorem v_put (h8 : h[8]? = some (true, .inr (7, fs))) (hr : aRun false d m_X7_put [.ref 8, .int x, .int y] h = some (.inl (some (.int v)), h1, (0, 0))) : mRun (d + 1) m_L_put [.ref 8, .int x, .int y] h = some (.inl (some (.int v)), h1, (0, 0)) := by
  refine mRun_of rfl (mVn_end (stop := fun p => false) 60 ?_)
  refine And.intro ⟨by decide, fs, h8⟩ ?_
  refine Exists.intro _ (And.intro hr ?_)
  exact rfl
theorem v_put_2 (h8 : h[8]? = some (true, .inr (7, fs))) (hr : aRun false d m_X7_put [.ref 8, .int x, .int y] h = some (.inr 2, h1, (1, 6))) : mRun (d + 1) m_L_put [.ref 8, .int x, .int y] h = some (.inl (some (.int (-1))), h1, (1, 6)) := by
  refine mRun_of rfl (mVn_end (stop := fun p => false) 60 ?_)
  refine And.intro ⟨by decide, fs, h8⟩ ?_
  refine Exists.intro _ (And.intro hr ?_)
  exact rfl
theorem v_put_1 (h8 : h[8]? = some (true, .inr (7, fs))) (hr : aRun false d m_X7_put [.ref 8, .int x, .int y] h = some (.inr 1, h1, (1, 6))) : mRun (d + 1) m_L_put [.ref 8, .int x, .int y] h = some (.inl (some (.int (-2))), h1, (1, 6)) := by
  refine mRun_of rfl (mVn_end (stop := fun p => false) 60 ?_)
  refine And.intro ⟨by decide, fs, h8⟩ ?_
  refine Exists.intro _ (And.intro hr ?_)
  exact rfl
theorem L_put (O : OK sn sf w l k H) : ∃ v H1 kk, mRun (d + 7) m_L_put [.ref 8, .int x, .int y] (H ++ E) = some (.inl (some (.int v)), H1 ++ E, kk) ∧ kB 1 kk ∧ Res sn sf w l k (-1) 0 (-2) (fun wd => fPut (cpW w wd) (nw w) (gw w) x y) v H1 := by
  have hok : wOk w (nw w) (gw w) (ow w) := ok_okk O
  obtain ⟨H1, wd, ⟨h, hm, hr, O1⟩ | ⟨h, hm, hr, O1⟩ | ⟨h, hm, hr, O1⟩ | ⟨h, hr, O1⟩⟩ := op_any (E := E) (d := d + 6) (f := fun wd => fPut (cpW w wd) (nw w) (gw w) x y) (Es := [-1, -3]) (as := [.ref 8, .int x, .int y]) O (fun wd ws j hj hj8 => k_put d hj hj8 hok) (fun wd => pe_put (wOk_same (cpW_same w wd) hok)) as_3
  · exact ⟨_, H1, _, v_put_2 (h8 := (ok_8 O (E := E)).choose_spec) hr, ⟨by decide, by decide⟩, wd, Or.inl ⟨h, rfl, O1⟩⟩
  · exact absurd hm (by decide)
  · exact ⟨_, H1, _, v_put_1 (h8 := (ok_8 O (E := E)).choose_spec) hr, ⟨by decide, by decide⟩, wd, Or.inr (Or.inr (Or.inl ⟨h, rfl, O1⟩))⟩
  · exact ⟨_, H1, _, v_put (h8 := (ok_8 O (E := E)).choose_spec) hr, ⟨by decide, by decide⟩, wd, Or.inr (Or.inr (Or.inr ⟨h, rfl, O1⟩))⟩
theorem v_fire (h8 : h[8]? = some (true, .inr (7, fs))) (hr : aRun false d m_X7_fire [.ref 8, .int x] h = some (.inl (some (.int v)), h1, (0, 0))) : mRun (d + 1) m_L_fire [.ref 8, .int x] h = some (.inl (some (.int v)), h1, (0, 0)) := by
  refine mRun_of rfl (mVn_end (stop := fun p => false) 60 ?_)
  refine And.intro ⟨by decide, fs, h8⟩ ?_
  refine Exists.intro _ (And.intro hr ?_)
  exact rfl
theorem v_fire_0 (h8 : h[8]? = some (true, .inr (7, fs))) (hr : aRun false d m_X7_fire [.ref 8, .int x] h = some (.inr 0, h1, (1, 6))) : mRun (d + 1) m_L_fire [.ref 8, .int x] h = some (.inl (some (.int (-1))), h1, (1, 6)) := by
  refine mRun_of rfl (mVn_end (stop := fun p => false) 60 ?_)
  refine And.intro ⟨by decide, fs, h8⟩ ?_
  refine Exists.intro _ (And.intro hr ?_)
  exact rfl
theorem v_fire_1 (h8 : h[8]? = some (true, .inr (7, fs))) (hr : aRun false d m_X7_fire [.ref 8, .int x] h = some (.inr 1, h1, (1, 6))) : mRun (d + 1) m_L_fire [.ref 8, .int x] h = some (.inl (some (.int (-2))), h1, (1, 6)) := by
  refine mRun_of rfl (mVn_end (stop := fun p => false) 60 ?_)
  refine And.intro ⟨by decide, fs, h8⟩ ?_
  refine Exists.intro _ (And.intro hr ?_)
  exact rfl
theorem L_fire (O : OK sn sf w l k H) : ∃ v H1 kk, mRun (d + 7) m_L_fire [.ref 8, .int x] (H ++ E) = some (.inl (some (.int v)), H1 ++ E, kk) ∧ kB 1 kk ∧ Res sn sf w l k 0 (-1) (-2) (fun wd => fFire (cpW w wd) (nw w) x) v H1 := by
  have hok : wOk w (nw w) (gw w) (ow w) := ok_okk O
  obtain ⟨H1, wd, ⟨h, hm, hr, O1⟩ | ⟨h, hm, hr, O1⟩ | ⟨h, hm, hr, O1⟩ | ⟨h, hr, O1⟩⟩ := op_any (E := E) (d := d + 6) (f := fun wd => fFire (cpW w wd) (nw w) x) (Es := [-2, -3]) (as := [.ref 8, .int x]) O (fun wd ws j hj hj8 => k_fire d hj hj8 hok) (fun wd => pe_fire (wOk_same (cpW_same w wd) hok)) as_2
  · exact absurd hm (by decide)
  · exact ⟨_, H1, _, v_fire_0 (h8 := (ok_8 O (E := E)).choose_spec) hr, ⟨by decide, by decide⟩, wd, Or.inr (Or.inl ⟨h, rfl, O1⟩)⟩
  · exact ⟨_, H1, _, v_fire_1 (h8 := (ok_8 O (E := E)).choose_spec) hr, ⟨by decide, by decide⟩, wd, Or.inr (Or.inr (Or.inl ⟨h, rfl, O1⟩))⟩
  · exact ⟨_, H1, _, v_fire (h8 := (ok_8 O (E := E)).choose_spec) hr, ⟨by decide, by decide⟩, wd, Or.inr (Or.inr (Or.inr ⟨h, rfl, O1⟩))⟩
theorem v_empty (h8 : h[8]? = some (true, .inr (7, fs))) (hr : aRun false d m_X7_empty [.ref 8, .int x] h = some (.inl (some (.int v)), h1, (0, 0))) : mRun (d + 1) m_L_empty [.ref 8, .int x] h = some (.inl (some (.int v)), h1, (0, 0)) := by
  refine mRun_of rfl (mVn_end (stop := fun p => false) 60 ?_)
  refine And.intro ⟨by decide, fs, h8⟩ ?_
  refine Exists.intro _ (And.intro hr ?_)
  exact rfl
theorem v_empty_2 (h8 : h[8]? = some (true, .inr (7, fs))) (hr : aRun false d m_X7_empty [.ref 8, .int x] h = some (.inr 2, h1, (1, 6))) : mRun (d + 1) m_L_empty [.ref 8, .int x] h = some (.inl (some (.int (-1))), h1, (1, 6)) := by
  refine mRun_of rfl (mVn_end (stop := fun p => false) 60 ?_)
  refine And.intro ⟨by decide, fs, h8⟩ ?_
  refine Exists.intro _ (And.intro hr ?_)
  exact rfl
theorem v_empty_1 (h8 : h[8]? = some (true, .inr (7, fs))) (hr : aRun false d m_X7_empty [.ref 8, .int x] h = some (.inr 1, h1, (1, 6))) : mRun (d + 1) m_L_empty [.ref 8, .int x] h = some (.inl (some (.int (-2))), h1, (1, 6)) := by
  refine mRun_of rfl (mVn_end (stop := fun p => false) 60 ?_)
  refine And.intro ⟨by decide, fs, h8⟩ ?_
  refine Exists.intro _ (And.intro hr ?_)
  exact rfl
theorem L_empty (O : OK sn sf w l k H) : ∃ v H1 kk, mRun (d + 7) m_L_empty [.ref 8, .int x] (H ++ E) = some (.inl (some (.int v)), H1 ++ E, kk) ∧ kB 1 kk ∧ Res sn sf w l k (-1) 0 (-2) (fun wd => fEmpty (cpW w wd) (nw w) x) v H1 := by
  have hok : wOk w (nw w) (gw w) (ow w) := ok_okk O
  obtain ⟨H1, wd, ⟨h, hm, hr, O1⟩ | ⟨h, hm, hr, O1⟩ | ⟨h, hm, hr, O1⟩ | ⟨h, hr, O1⟩⟩ := op_any (E := E) (d := d + 6) (f := fun wd => fEmpty (cpW w wd) (nw w) x) (Es := [-1, -3]) (as := [.ref 8, .int x]) O (fun wd ws j hj hj8 => k_empty d hj hj8 hok) (fun wd => pe_empty (wOk_same (cpW_same w wd) hok)) as_2
  · exact ⟨_, H1, _, v_empty_2 (h8 := (ok_8 O (E := E)).choose_spec) hr, ⟨by decide, by decide⟩, wd, Or.inl ⟨h, rfl, O1⟩⟩
  · exact absurd hm (by decide)
  · exact ⟨_, H1, _, v_empty_1 (h8 := (ok_8 O (E := E)).choose_spec) hr, ⟨by decide, by decide⟩, wd, Or.inr (Or.inr (Or.inl ⟨h, rfl, O1⟩))⟩
  · exact ⟨_, H1, _, v_empty (h8 := (ok_8 O (E := E)).choose_spec) hr, ⟨by decide, by decide⟩, wd, Or.inr (Or.inr (Or.inr ⟨h, rfl, O1⟩))⟩
theorem v_order (h8 : h[8]? = some (true, .inr (7, fs))) (hr : aRun false d m_X7_order [.ref 8, .int x, .int y, .int z, .int u, .int t, .int s] h = some (.inl (some (.int v)), h1, (0, 0))) : mRun (d + 1) m_L_order [.ref 8, .int x, .int y, .int z, .int u, .int t, .int s] h = some (.inl (some (.int v)), h1, (0, 0)) := by
  refine mRun_of rfl (mVn_end (stop := fun p => false) 60 ?_)
  refine And.intro ⟨by decide, fs, h8⟩ ?_
  refine Exists.intro _ (And.intro hr ?_)
  exact rfl
theorem v_order_0 (h8 : h[8]? = some (true, .inr (7, fs))) (hr : aRun false d m_X7_order [.ref 8, .int x, .int y, .int z, .int u, .int t, .int s] h = some (.inr 0, h1, (1, 6))) : mRun (d + 1) m_L_order [.ref 8, .int x, .int y, .int z, .int u, .int t, .int s] h = some (.inl (some (.int (-1))), h1, (1, 6)) := by
  refine mRun_of rfl (mVn_end (stop := fun p => false) 60 ?_)
  refine And.intro ⟨by decide, fs, h8⟩ ?_
  refine Exists.intro _ (And.intro hr ?_)
  exact rfl
theorem v_order_1 (h8 : h[8]? = some (true, .inr (7, fs))) (hr : aRun false d m_X7_order [.ref 8, .int x, .int y, .int z, .int u, .int t, .int s] h = some (.inr 1, h1, (1, 6))) : mRun (d + 1) m_L_order [.ref 8, .int x, .int y, .int z, .int u, .int t, .int s] h = some (.inl (some (.int (-2))), h1, (1, 6)) := by
  refine mRun_of rfl (mVn_end (stop := fun p => false) 60 ?_)
  refine And.intro ⟨by decide, fs, h8⟩ ?_
  refine Exists.intro _ (And.intro hr ?_)
  exact rfl
theorem L_order (O : OK sn sf w l k H) : ∃ v H1 kk, mRun (d + 7) m_L_order [.ref 8, .int x, .int y, .int z, .int u, .int t, .int s] (H ++ E) = some (.inl (some (.int v)), H1 ++ E, kk) ∧ kB 1 kk ∧ Res sn sf w l k 0 (-1) (-2) (fun wd => fOrd (cpW w wd) (ow w) x y z u t s) v H1 := by
  have hok : wOk w (nw w) (gw w) (ow w) := ok_okk O
  obtain ⟨H1, wd, ⟨h, hm, hr, O1⟩ | ⟨h, hm, hr, O1⟩ | ⟨h, hm, hr, O1⟩ | ⟨h, hr, O1⟩⟩ := op_any (E := E) (d := d + 6) (f := fun wd => fOrd (cpW w wd) (ow w) x y z u t s) (Es := [-2, -3]) (as := [.ref 8, .int x, .int y, .int z, .int u, .int t, .int s]) O (fun wd ws j hj hj8 => k_order d hj hj8 hok) (fun wd => pe_ord (wOk_same (cpW_same w wd) hok)) as_7
  · exact absurd hm (by decide)
  · exact ⟨_, H1, _, v_order_0 (h8 := (ok_8 O (E := E)).choose_spec) hr, ⟨by decide, by decide⟩, wd, Or.inr (Or.inl ⟨h, rfl, O1⟩)⟩
  · exact ⟨_, H1, _, v_order_1 (h8 := (ok_8 O (E := E)).choose_spec) hr, ⟨by decide, by decide⟩, wd, Or.inr (Or.inr (Or.inl ⟨h, rfl, O1⟩))⟩
  · exact ⟨_, H1, _, v_order (h8 := (ok_8 O (E := E)).choose_spec) hr, ⟨by decide, by decide⟩, wd, Or.inr (Or.inr (Or.inr ⟨h, rfl, O1⟩))⟩
theorem v_sell (h8 : h[8]? = some (true, .inr (7, fs))) (hr : aRun false d m_X7_sell [.ref 8, .int x] h = some (.inl (some (.int v)), h1, (0, 0))) : mRun (d + 1) m_L_sell [.ref 8, .int x] h = some (.inl (some (.int v)), h1, (0, 0)) := by
  refine mRun_of rfl (mVn_end (stop := fun p => false) 60 ?_)
  refine And.intro ⟨by decide, fs, h8⟩ ?_
  refine Exists.intro _ (And.intro hr ?_)
  exact rfl
theorem v_sell_2 (h8 : h[8]? = some (true, .inr (7, fs))) (hr : aRun false d m_X7_sell [.ref 8, .int x] h = some (.inr 2, h1, (1, 6))) : mRun (d + 1) m_L_sell [.ref 8, .int x] h = some (.inl (some (.int (-1))), h1, (1, 6)) := by
  refine mRun_of rfl (mVn_end (stop := fun p => false) 60 ?_)
  refine And.intro ⟨by decide, fs, h8⟩ ?_
  refine Exists.intro _ (And.intro hr ?_)
  exact rfl
theorem v_sell_1 (h8 : h[8]? = some (true, .inr (7, fs))) (hr : aRun false d m_X7_sell [.ref 8, .int x] h = some (.inr 1, h1, (1, 6))) : mRun (d + 1) m_L_sell [.ref 8, .int x] h = some (.inl (some (.int (-2))), h1, (1, 6)) := by
  refine mRun_of rfl (mVn_end (stop := fun p => false) 60 ?_)
  refine And.intro ⟨by decide, fs, h8⟩ ?_
  refine Exists.intro _ (And.intro hr ?_)
  exact rfl
theorem L_sell (O : OK sn sf w l k H) : ∃ v H1 kk, mRun (d + 7) m_L_sell [.ref 8, .int x] (H ++ E) = some (.inl (some (.int v)), H1 ++ E, kk) ∧ kB 1 kk ∧ Res sn sf w l k (-1) 0 (-2) (fun wd => fSell (cpW w wd) (nw w) x) v H1 := by
  have hok : wOk w (nw w) (gw w) (ow w) := ok_okk O
  obtain ⟨H1, wd, ⟨h, hm, hr, O1⟩ | ⟨h, hm, hr, O1⟩ | ⟨h, hm, hr, O1⟩ | ⟨h, hr, O1⟩⟩ := op_any (E := E) (d := d + 6) (f := fun wd => fSell (cpW w wd) (nw w) x) (Es := [-1, -3]) (as := [.ref 8, .int x]) O (fun wd ws j hj hj8 => k_sell d hj hj8 hok) (fun wd => pe_sell (wOk_same (cpW_same w wd) hok)) as_2
  · exact ⟨_, H1, _, v_sell_2 (h8 := (ok_8 O (E := E)).choose_spec) hr, ⟨by decide, by decide⟩, wd, Or.inl ⟨h, rfl, O1⟩⟩
  · exact absurd hm (by decide)
  · exact ⟨_, H1, _, v_sell_1 (h8 := (ok_8 O (E := E)).choose_spec) hr, ⟨by decide, by decide⟩, wd, Or.inr (Or.inr (Or.inl ⟨h, rfl, O1⟩))⟩
  · exact ⟨_, H1, _, v_sell (h8 := (ok_8 O (E := E)).choose_spec) hr, ⟨by decide, by decide⟩, wd, Or.inr (Or.inr (Or.inr ⟨h, rfl, O1⟩))⟩
theorem v_ware (h8 : h[8]? = some (true, .inr (7, fs))) (hr : aRun false d m_X7_ware [.ref 8, .int x, .int y] h = some (.inl (some (.int v)), h1, (0, 0))) : mRun (d + 1) m_L_ware [.ref 8, .int x, .int y] h = some (.inl (some (.int v)), h1, (0, 0)) := by
  refine mRun_of rfl (mVn_end (stop := fun p => false) 60 ?_)
  refine And.intro ⟨by decide, fs, h8⟩ ?_
  refine Exists.intro _ (And.intro hr ?_)
  exact rfl
theorem v_ware_2 (h8 : h[8]? = some (true, .inr (7, fs))) (hr : aRun false d m_X7_ware [.ref 8, .int x, .int y] h = some (.inr 2, h1, (1, 6))) : mRun (d + 1) m_L_ware [.ref 8, .int x, .int y] h = some (.inl (some (.int (-11))), h1, (1, 6)) := by
  refine mRun_of rfl (mVn_end (stop := fun p => false) 60 ?_)
  refine And.intro ⟨by decide, fs, h8⟩ ?_
  refine Exists.intro _ (And.intro hr ?_)
  exact rfl
theorem v_ware_0 (h8 : h[8]? = some (true, .inr (7, fs))) (hr : aRun false d m_X7_ware [.ref 8, .int x, .int y] h = some (.inr 0, h1, (1, 6))) : mRun (d + 1) m_L_ware [.ref 8, .int x, .int y] h = some (.inl (some (.int (-12))), h1, (1, 6)) := by
  refine mRun_of rfl (mVn_end (stop := fun p => false) 60 ?_)
  refine And.intro ⟨by decide, fs, h8⟩ ?_
  refine Exists.intro _ (And.intro hr ?_)
  exact rfl
def a_ware (e : Nat ⊕ Int32) : Int32 := match e with
  | .inl c => if c = 2 then -11 else -12
  | .inr v => v
theorem L_ware (O : OK sn sf w l k H) : ∃ kk, mRun (d + 7) m_L_ware [.ref 8, .int x, .int y] (H ++ E) = some (.inl (some (.int (a_ware (q_ware w x y)))), H ++ E, kk) ∧ kB 1 kk := by
  have hok : wOk w (nw w) (gw w) (ow w) := ok_okk O
  have hr := ask_any (E := E) (d := d + 6) (as := [.ref 8, .int x, .int y]) (e := q_ware w x y) O (fun wd ws => k_ware d hok) as_3
  have hq : (∃ v, q_ware w x y = .inr v) ∨ q_ware w x y = .inl 2 ∨ q_ware w x y = .inl 0 := by
    unfold q_ware
    repeat' split
    all_goals simp
  rcases hq with ⟨v, hq⟩ | hq | hq
  · rw [hq] at hr ⊢
    exact ⟨_, v_ware (h8 := (ok_8 O (E := E)).choose_spec) hr, ⟨by decide, by decide⟩⟩
  · rw [hq] at hr ⊢
    exact ⟨_, v_ware_2 (h8 := (ok_8 O (E := E)).choose_spec) hr, ⟨by decide, by decide⟩⟩
  · rw [hq] at hr ⊢
    exact ⟨_, v_ware_0 (h8 := (ok_8 O (E := E)).choose_spec) hr, ⟨by decide, by decide⟩⟩
theorem v_of (h8 : h[8]? = some (true, .inr (7, fs))) (hr : aRun false d m_X7_saggarOf [.ref 8, .int x, .int y] h = some (.inl (some (.int v)), h1, (0, 0))) : mRun (d + 1) m_L_of [.ref 8, .int x, .int y] h = some (.inl (some (.int v)), h1, (0, 0)) := by
  refine mRun_of rfl (mVn_end (stop := fun p => false) 60 ?_)
  refine And.intro ⟨by decide, fs, h8⟩ ?_
  refine Exists.intro _ (And.intro hr ?_)
  exact rfl
theorem v_of_2 (h8 : h[8]? = some (true, .inr (7, fs))) (hr : aRun false d m_X7_saggarOf [.ref 8, .int x, .int y] h = some (.inr 2, h1, (1, 6))) : mRun (d + 1) m_L_of [.ref 8, .int x, .int y] h = some (.inl (some (.int (-11))), h1, (1, 6)) := by
  refine mRun_of rfl (mVn_end (stop := fun p => false) 60 ?_)
  refine And.intro ⟨by decide, fs, h8⟩ ?_
  refine Exists.intro _ (And.intro hr ?_)
  exact rfl
theorem v_of_0 (h8 : h[8]? = some (true, .inr (7, fs))) (hr : aRun false d m_X7_saggarOf [.ref 8, .int x, .int y] h = some (.inr 0, h1, (1, 6))) : mRun (d + 1) m_L_of [.ref 8, .int x, .int y] h = some (.inl (some (.int (-12))), h1, (1, 6)) := by
  refine mRun_of rfl (mVn_end (stop := fun p => false) 60 ?_)
  refine And.intro ⟨by decide, fs, h8⟩ ?_
  refine Exists.intro _ (And.intro hr ?_)
  exact rfl
def a_of (e : Nat ⊕ Int32) : Int32 := match e with
  | .inl c => if c = 2 then -11 else -12
  | .inr v => v
theorem L_of (O : OK sn sf w l k H) : ∃ kk, mRun (d + 7) m_L_of [.ref 8, .int x, .int y] (H ++ E) = some (.inl (some (.int (a_of (q_saggarOf w (nw w) (gw w) x y)))), H ++ E, kk) ∧ kB 1 kk := by
  have hok : wOk w (nw w) (gw w) (ow w) := ok_okk O
  have hr := ask_any (E := E) (d := d + 6) (as := [.ref 8, .int x, .int y]) (e := q_saggarOf w (nw w) (gw w) x y) O (fun wd ws => k_saggarOf d hok) as_3
  have hq : (∃ v, q_saggarOf w (nw w) (gw w) x y = .inr v) ∨ q_saggarOf w (nw w) (gw w) x y = .inl 2 ∨ q_saggarOf w (nw w) (gw w) x y = .inl 0 := by
    unfold q_saggarOf
    repeat' split
    all_goals simp
  rcases hq with ⟨v, hq⟩ | hq | hq
  · rw [hq] at hr ⊢
    exact ⟨_, v_of (h8 := (ok_8 O (E := E)).choose_spec) hr, ⟨by decide, by decide⟩⟩
  · rw [hq] at hr ⊢
    exact ⟨_, v_of_2 (h8 := (ok_8 O (E := E)).choose_spec) hr, ⟨by decide, by decide⟩⟩
  · rw [hq] at hr ⊢
    exact ⟨_, v_of_0 (h8 := (ok_8 O (E := E)).choose_spec) hr, ⟨by decide, by decide⟩⟩
theorem v_heatAt (h8 : h[8]? = some (true, .inr (7, fs))) (hr : aRun false d m_X7_heatAt [.ref 8, .int x, .int y] h = some (.inl (some (.int v)), h1, (0, 0))) : mRun (d + 1) m_L_heatAt [.ref 8, .int x, .int y] h = some (.inl (some (.int v)), h1, (0, 0)) := by
  refine mRun_of rfl (mVn_end (stop := fun p => false) 60 ?_)
  refine And.intro ⟨by decide, fs, h8⟩ ?_
  refine Exists.intro _ (And.intro hr ?_)
  exact rfl
theorem v_heatAt_2 (h8 : h[8]? = some (true, .inr (7, fs))) (hr : aRun false d m_X7_heatAt [.ref 8, .int x, .int y] h = some (.inr 2, h1, (1, 6))) : mRun (d + 1) m_L_heatAt [.ref 8, .int x, .int y] h = some (.inl (some (.int (-1))), h1, (1, 6)) := by
  refine mRun_of rfl (mVn_end (stop := fun p => false) 60 ?_)
  refine And.intro ⟨by decide, fs, h8⟩ ?_
  refine Exists.intro _ (And.intro hr ?_)
  exact rfl
theorem v_heatAt_0 (h8 : h[8]? = some (true, .inr (7, fs))) (hr : aRun false d m_X7_heatAt [.ref 8, .int x, .int y] h = some (.inr 0, h1, (1, 6))) : mRun (d + 1) m_L_heatAt [.ref 8, .int x, .int y] h = some (.inl (some (.int (-2))), h1, (1, 6)) := by
  refine mRun_of rfl (mVn_end (stop := fun p => false) 60 ?_)
  refine And.intro ⟨by decide, fs, h8⟩ ?_
  refine Exists.intro _ (And.intro hr ?_)
  exact rfl
theorem v_heatAt_3 (h8 : h[8]? = some (true, .inr (7, fs))) (hr : aRun false d m_X7_heatAt [.ref 8, .int x, .int y] h = some (.inr 3, h1, (1, 6))) : mRun (d + 1) m_L_heatAt [.ref 8, .int x, .int y] h = some (.inl (some (.int (-3))), h1, (1, 6)) := by
  refine mRun_of rfl (mVn_end (stop := fun p => false) 60 ?_)
  refine And.intro ⟨by decide, fs, h8⟩ ?_
  refine Exists.intro _ (And.intro hr ?_)
  exact rfl
def a_heatAt (e : Nat ⊕ Int32) : Int32 := match e with
  | .inl c => if c = 2 then -1 else if c = 0 then -2 else -3
  | .inr v => v
theorem L_heatAt (O : OK sn sf w l k H) : ∃ kk, mRun (d + 7) m_L_heatAt [.ref 8, .int x, .int y] (H ++ E) = some (.inl (some (.int (a_heatAt (q_heatAt w x y)))), H ++ E, kk) ∧ kB 1 kk := by
  have hok : wOk w (nw w) (gw w) (ow w) := ok_okk O
  have hr := ask_any (E := E) (d := d + 6) (as := [.ref 8, .int x, .int y]) (e := q_heatAt w x y) O (fun wd ws => k_heatAt d hok) as_3
  have hq : (∃ v, q_heatAt w x y = .inr v) ∨ q_heatAt w x y = .inl 2 ∨ q_heatAt w x y = .inl 0 ∨ q_heatAt w x y = .inl 3 := by
    unfold q_heatAt
    repeat' split
    all_goals simp
  rcases hq with ⟨v, hq⟩ | hq | hq | hq
  · rw [hq] at hr ⊢
    exact ⟨_, v_heatAt (h8 := (ok_8 O (E := E)).choose_spec) hr, ⟨by decide, by decide⟩⟩
  · rw [hq] at hr ⊢
    exact ⟨_, v_heatAt_2 (h8 := (ok_8 O (E := E)).choose_spec) hr, ⟨by decide, by decide⟩⟩
  · rw [hq] at hr ⊢
    exact ⟨_, v_heatAt_0 (h8 := (ok_8 O (E := E)).choose_spec) hr, ⟨by decide, by decide⟩⟩
  · rw [hq] at hr ⊢
    exact ⟨_, v_heatAt_3 (h8 := (ok_8 O (E := E)).choose_spec) hr, ⟨by decide, by decide⟩⟩
theorem v_wouldBe (h8 : h[8]? = some (true, .inr (7, fs))) (hr : aRun false d m_X7_wouldBe [.ref 8, .int x, .int y] h = some (.inl (some (.int v)), h1, (0, 0))) : mRun (d + 1) m_L_wouldBe [.ref 8, .int x, .int y] h = some (.inl (some (.int v)), h1, (0, 0)) := by
  refine mRun_of rfl (mVn_end (stop := fun p => false) 60 ?_)
  refine And.intro ⟨by decide, fs, h8⟩ ?_
  refine Exists.intro _ (And.intro hr ?_)
  exact rfl
theorem v_wouldBe_2 (h8 : h[8]? = some (true, .inr (7, fs))) (hr : aRun false d m_X7_wouldBe [.ref 8, .int x, .int y] h = some (.inr 2, h1, (1, 6))) : mRun (d + 1) m_L_wouldBe [.ref 8, .int x, .int y] h = some (.inl (some (.int (-1))), h1, (1, 6)) := by
  refine mRun_of rfl (mVn_end (stop := fun p => false) 60 ?_)
  refine And.intro ⟨by decide, fs, h8⟩ ?_
  refine Exists.intro _ (And.intro hr ?_)
  exact rfl
theorem v_wouldBe_0 (h8 : h[8]? = some (true, .inr (7, fs))) (hr : aRun false d m_X7_wouldBe [.ref 8, .int x, .int y] h = some (.inr 0, h1, (1, 6))) : mRun (d + 1) m_L_wouldBe [.ref 8, .int x, .int y] h = some (.inl (some (.int (-2))), h1, (1, 6)) := by
  refine mRun_of rfl (mVn_end (stop := fun p => false) 60 ?_)
  refine And.intro ⟨by decide, fs, h8⟩ ?_
  refine Exists.intro _ (And.intro hr ?_)
  exact rfl
def a_wouldBe (e : Nat ⊕ Int32) : Int32 := match e with
  | .inl c => if c = 2 then -1 else -2
  | .inr v => v
theorem L_wouldBe (O : OK sn sf w l k H) : ∃ kk, mRun (d + 7) m_L_wouldBe [.ref 8, .int x, .int y] (H ++ E) = some (.inl (some (.int (a_wouldBe (q_wouldBe w x y)))), H ++ E, kk) ∧ kB 1 kk := by
  have hok : wOk w (nw w) (gw w) (ow w) := ok_okk O
  have hr := ask_any (E := E) (d := d + 6) (as := [.ref 8, .int x, .int y]) (e := q_wouldBe w x y) O (fun wd ws => k_wouldBe d hok) as_3
  have hq : (∃ v, q_wouldBe w x y = .inr v) ∨ q_wouldBe w x y = .inl 2 ∨ q_wouldBe w x y = .inl 0 := by
    unfold q_wouldBe
    repeat' split
    all_goals simp
  rcases hq with ⟨v, hq⟩ | hq | hq
  · rw [hq] at hr ⊢
    exact ⟨_, v_wouldBe (h8 := (ok_8 O (E := E)).choose_spec) hr, ⟨by decide, by decide⟩⟩
  · rw [hq] at hr ⊢
    exact ⟨_, v_wouldBe_2 (h8 := (ok_8 O (E := E)).choose_spec) hr, ⟨by decide, by decide⟩⟩
  · rw [hq] at hr ⊢
    exact ⟨_, v_wouldBe_0 (h8 := (ok_8 O (E := E)).choose_spec) hr, ⟨by decide, by decide⟩⟩
theorem v_best (h8 : h[8]? = some (true, .inr (7, fs))) (hr : aRun false d m_X7_bestHeat [.ref 8, .int x] h = some (.inl (some (.int v)), h1, (0, 0))) : mRun (d + 1) m_L_best [.ref 8, .int x] h = some (.inl (some (.int v)), h1, (0, 0)) := by
  refine mRun_of rfl (mVn_end (stop := fun p => false) 60 ?_)
  refine And.intro ⟨by decide, fs, h8⟩ ?_
  refine Exists.intro _ (And.intro hr ?_)
  exact rfl
theorem v_best_3 (h8 : h[8]? = some (true, .inr (7, fs))) (hr : aRun false d m_X7_bestHeat [.ref 8, .int x] h = some (.inr 3, h1, (1, 6))) : mRun (d + 1) m_L_best [.ref 8, .int x] h = some (.inl (some (.int (-1))), h1, (1, 6)) := by
  refine mRun_of rfl (mVn_end (stop := fun p => false) 60 ?_)
  refine And.intro ⟨by decide, fs, h8⟩ ?_
  refine Exists.intro _ (And.intro hr ?_)
  exact rfl
def a_best (e : Nat ⊕ Int32) : Int32 := match e with
  | .inl c => -1
  | .inr v => v
theorem L_best (O : OK sn sf w l k H) : ∃ kk, mRun (d + 7) m_L_best [.ref 8, .int x] (H ++ E) = some (.inl (some (.int (a_best (q_bestHeat w (nw w) x)))), H ++ E, kk) ∧ kB 1 kk := by
  have hok : wOk w (nw w) (gw w) (ow w) := ok_okk O
  have hr := ask_any (E := E) (d := d + 6) (as := [.ref 8, .int x]) (e := q_bestHeat w (nw w) x) O (fun wd ws => k_bestHeat d hok) as_2
  have hq : (∃ v, q_bestHeat w (nw w) x = .inr v) ∨ q_bestHeat w (nw w) x = .inl 3 := by
    unfold q_bestHeat
    repeat' split
    all_goals simp
  rcases hq with ⟨v, hq⟩ | hq
  · rw [hq] at hr ⊢
    exact ⟨_, v_best (h8 := (ok_8 O (E := E)).choose_spec) hr, ⟨by decide, by decide⟩⟩
  · rw [hq] at hr ⊢
    exact ⟨_, v_best_3 (h8 := (ok_8 O (E := E)).choose_spec) hr, ⟨by decide, by decide⟩⟩
theorem v_refusal (h8 : h[8]? = some (true, .inr (7, fs))) (hr : aRun false d m_X7_refusal [.ref 8, .int x, .int y] h = some (.inl (some (.int v)), h1, (0, 0))) : mRun (d + 1) m_L_refusal [.ref 8, .int x, .int y] h = some (.inl (some (.int v)), h1, (0, 0)) := by
  refine mRun_of rfl (mVn_end (stop := fun p => false) 60 ?_)
  refine And.intro ⟨by decide, fs, h8⟩ ?_
  refine Exists.intro _ (And.intro hr ?_)
  exact rfl
theorem v_refusal_0 (h8 : h[8]? = some (true, .inr (7, fs))) (hr : aRun false d m_X7_refusal [.ref 8, .int x, .int y] h = some (.inr 0, h1, (1, 6))) : mRun (d + 1) m_L_refusal [.ref 8, .int x, .int y] h = some (.inl (some (.int (-1))), h1, (1, 6)) := by
  refine mRun_of rfl (mVn_end (stop := fun p => false) 60 ?_)
  refine And.intro ⟨by decide, fs, h8⟩ ?_
  refine Exists.intro _ (And.intro hr ?_)
  exact rfl
theorem v_refusal_3 (h8 : h[8]? = some (true, .inr (7, fs))) (hr : aRun false d m_X7_refusal [.ref 8, .int x, .int y] h = some (.inr 3, h1, (1, 6))) : mRun (d + 1) m_L_refusal [.ref 8, .int x, .int y] h = some (.inl (some (.int (-2))), h1, (1, 6)) := by
  refine mRun_of rfl (mVn_end (stop := fun p => false) 60 ?_)
  refine And.intro ⟨by decide, fs, h8⟩ ?_
  refine Exists.intro _ (And.intro hr ?_)
  exact rfl
def a_refusal (e : Nat ⊕ Int32) : Int32 := match e with
  | .inl c => if c = 0 then -1 else -2
  | .inr v => v
theorem L_refusal (O : OK sn sf w l k H) : ∃ kk, mRun (d + 7) m_L_refusal [.ref 8, .int x, .int y] (H ++ E) = some (.inl (some (.int (a_refusal (q_refusal k x y)))), H ++ E, kk) ∧ kB 1 kk := by
  have hok : wOk w (nw w) (gw w) (ow w) := ok_okk O
  have hr := ask_any (E := E) (d := d + 6) (as := [.ref 8, .int x, .int y]) (e := q_refusal k x y) O (fun wd ws => k_refusal d) as_3
  have hq : (∃ v, q_refusal k x y = .inr v) ∨ q_refusal k x y = .inl 0 ∨ q_refusal k x y = .inl 3 := by
    unfold q_refusal
    repeat' split
    all_goals simp
  rcases hq with ⟨v, hq⟩ | hq | hq
  · rw [hq] at hr ⊢
    exact ⟨_, v_refusal (h8 := (ok_8 O (E := E)).choose_spec) hr, ⟨by decide, by decide⟩⟩
  · rw [hq] at hr ⊢
    exact ⟨_, v_refusal_0 (h8 := (ok_8 O (E := E)).choose_spec) hr, ⟨by decide, by decide⟩⟩
  · rw [hq] at hr ⊢
    exact ⟨_, v_refusal_3 (h8 := (ok_8 O (E := E)).choose_spec) hr, ⟨by decide, by decide⟩⟩
theorem v_store (h8 : h[8]? = some (true, .inr (7, fs))) (hr : aRun false d m_X7_store [.ref 8, .int x, .int y, .int z] h = some (.inl (some (.int v)), h1, (0, 0))) : mRun (d + 1) m_L_store [.ref 8, .int x, .int y, .int z] h = some (.inl (some (.int v)), h1, (0, 0)) := by
  refine mRun_of rfl (mVn_end (stop := fun p => false) 60 ?_)
  refine And.intro ⟨by decide, fs, h8⟩ ?_
  refine Exists.intro _ (And.intro hr ?_)
  exact rfl
theorem v_store_0 (h8 : h[8]? = some (true, .inr (7, fs))) (hr : aRun false d m_X7_store [.ref 8, .int x, .int y, .int z] h = some (.inr 0, h1, (1, 6))) : mRun (d + 1) m_L_store [.ref 8, .int x, .int y, .int z] h = some (.inl (some (.int (-1))), h1, (1, 6)) := by
  refine mRun_of rfl (mVn_end (stop := fun p => false) 60 ?_)
  refine And.intro ⟨by decide, fs, h8⟩ ?_
  refine Exists.intro _ (And.intro hr ?_)
  exact rfl
def a_store (e : Nat ⊕ Int32) : Int32 := match e with
  | .inl c => -1
  | .inr v => v
theorem L_store (O : OK sn sf w l k H) : ∃ kk, mRun (d + 7) m_L_store [.ref 8, .int x, .int y, .int z] (H ++ E) = some (.inl (some (.int (a_store (q_store w (nw w) x y z)))), H ++ E, kk) ∧ kB 1 kk := by
  have hok : wOk w (nw w) (gw w) (ow w) := ok_okk O
  have hr := ask_any (E := E) (d := d + 6) (as := [.ref 8, .int x, .int y, .int z]) (e := q_store w (nw w) x y z) O (fun wd ws => k_store d hok) as_4
  have hq : (∃ v, q_store w (nw w) x y z = .inr v) ∨ q_store w (nw w) x y z = .inl 0 := by
    unfold q_store
    repeat' split
    all_goals simp
  rcases hq with ⟨v, hq⟩ | hq
  · rw [hq] at hr ⊢
    exact ⟨_, v_store (h8 := (ok_8 O (E := E)).choose_spec) hr, ⟨by decide, by decide⟩⟩
  · rw [hq] at hr ⊢
    exact ⟨_, v_store_0 (h8 := (ok_8 O (E := E)).choose_spec) hr, ⟨by decide, by decide⟩⟩
theorem v_undo (h8 : h[8]? = some (true, .inr (7, fs))) (hr : aRun false d m_X7_undo [.ref 8] h = some (.inl (some (.int v)), h1, (0, 0))) : mRun (d + 1) m_L_undo [.ref 8] h = some (.inl (some (.int v)), h1, (0, 0)) := by
  refine mRun_of rfl (mVn_end (stop := fun p => false) 60 ?_)
  refine And.intro ⟨by decide, fs, h8⟩ ?_
  refine Exists.intro _ (And.intro hr ?_)
  exact rfl
theorem v_undo_4 (h8 : h[8]? = some (true, .inr (7, fs))) (hr : aRun false d m_X7_undo [.ref 8] h = some (.inr 4, h1, (1, 6))) : mRun (d + 1) m_L_undo [.ref 8] h = some (.inl (some (.int (-1))), h1, (1, 6)) := by
  refine mRun_of rfl (mVn_end (stop := fun p => false) 60 ?_)
  refine And.intro ⟨by decide, fs, h8⟩ ?_
  refine Exists.intro _ (And.intro hr ?_)
  exact rfl
theorem L_undo {w0 : aW} (O : OK sn sf w (w0 :: l) k H) : ∃ v H1 kk k1, mRun (d + 7) m_L_undo [.ref 8] (H ++ E) = some (.inl (some (.int v)), H1 ++ E, kk) ∧ kB 1 kk ∧ 0 ≤ v ∧ OK sn sf w0 l k1 H1 := by
  obtain ⟨V, A, rfl, hok, hi, h5, hl⟩ := id O
  obtain ⟨c, j, h8, hj8, e3, e4, hlen, -⟩ := id hi
  obtain ⟨hi1, e0, hne⟩ := HI_un hi e4 hj8
  have hr := k_undo (sn := sn) (sf := sf) (wn := V 0) (wd := V 1) (ws := V 2) d e4 hj8 hne
  obtain ⟨H1, e1, A1⟩ := at_un (E := E) A (j := (j + 7) % 8) (by omega) hr as_1 (fun _ => rfl)
  refine ⟨_, H1, _, kUndo k j, v_undo (h8 := (ok_8 O (E := E)).choose_spec) e1, ⟨by decide, by decide⟩, ?_, _, A1, e0, hl w0 List.mem_cons_self, hi1, h5, fun x hx => hl x (List.mem_cons_of_mem _ hx)⟩
  rw [List.length_cons] at hlen
  obtain ⟨c, rfl⟩ : ∃ c1, c = c1 + 1 := ⟨c - 1, by omega⟩
  have e1 : k 7 3 - 1 = Int32.ofNat c := by rw [e3]; exact sub1
  rw [e1, if_neg (ofN_lt0 (by omega))]
  exact Int32.not_lt.mp (ofN_lt0 (by omega))
end WRP
