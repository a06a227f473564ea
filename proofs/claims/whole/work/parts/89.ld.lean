/-! THE LAW'S OWN METHODS: each calls the class's, and stores its answer or tells its exception's place -/
section LW
variable {sn : Nat} {sf : Nat → Int32} {lo : Nat → Int64} {dd : Nat → UInt64} {m k wn wd ws : aW} {R X1 : aH} {x0 x1 x2 x3 x4 x5 v : Int32} {fv : UInt32} {dv : UInt64}
theorem w_set (hC : aRun false 9 m_X7_set [.ref 20, .int x0, .int x1] (aLh sn sf lo dd m (aKl 21 42 aRg k wn wd ws ++ R)) = some (.inl (some (.int v)), aLh sn sf lo dd m X1, (0, 0))) : aRun false 10 m_L_set [.ref 20, .int x0, .int x1, .ref 8] (aLh sn sf lo dd m (aKl 21 42 aRg k wn wd ws ++ R)) = some (.inl (some (.int 0)), aLh sn sf (vp_updL lo 0 v.toInt64) dd m X1, (0, 0)) := by
  refine aRun_of rfl (aVn_end (stop := fun p => false) 60 ?_)
  refine Exists.intro _ (And.intro hC ?_)
  exact rfl
theorem w_set_0 (hC : aRun false 9 m_X7_set [.ref 20, .int x0, .int x1] (aLh sn sf lo dd m (aKl 21 42 aRg k wn wd ws ++ R)) = some (.inr 0, aLh sn sf lo dd m X1, (1, 6))) : aRun false 10 m_L_set [.ref 20, .int x0, .int x1, .ref 8] (aLh sn sf lo dd m (aKl 21 42 aRg k wn wd ws ++ R)) = some (.inl (some (.int 1)), aLh sn sf lo dd m X1, (1, 6)) := by
  refine aRun_of rfl (aVn_end (stop := fun p => false) 60 ?_)
  refine Exists.intro _ (And.intro hC ?_)
  exact rfl
theorem w_clay (hC : aRun false 9 m_X7_clay [.ref 20, .int x0] (aLh sn sf lo dd m (aKl 21 42 aRg k wn wd ws ++ R)) = some (.inl (some (.int v)), aLh sn sf lo dd m X1, (0, 0))) : aRun false 10 m_L_clay [.ref 20, .int x0, .ref 8] (aLh sn sf lo dd m (aKl 21 42 aRg k wn wd ws ++ R)) = some (.inl (some (.int 0)), aLh sn sf (vp_updL lo 0 v.toInt64) dd m X1, (0, 0)) := by
  refine aRun_of rfl (aVn_end (stop := fun p => false) 60 ?_)
  refine Exists.intro _ (And.intro hC ?_)
  exact rfl
theorem w_clay_0 (hC : aRun false 9 m_X7_clay [.ref 20, .int x0] (aLh sn sf lo dd m (aKl 21 42 aRg k wn wd ws ++ R)) = some (.inr 0, aLh sn sf lo dd m X1, (1, 6))) : aRun false 10 m_L_clay [.ref 20, .int x0, .ref 8] (aLh sn sf lo dd m (aKl 21 42 aRg k wn wd ws ++ R)) = some (.inl (some (.int 1)), aLh sn sf lo dd m X1, (1, 6)) := by
  refine aRun_of rfl (aVn_end (stop := fun p => false) 60 ?_)
  refine Exists.intro _ (And.intro hC ?_)
  exact rfl
theorem w_clay_1 (hC : aRun false 9 m_X7_clay [.ref 20, .int x0] (aLh sn sf lo dd m (aKl 21 42 aRg k wn wd ws ++ R)) = some (.inr 1, aLh sn sf lo dd m X1, (1, 6))) : aRun false 10 m_L_clay [.ref 20, .int x0, .ref 8] (aLh sn sf lo dd m (aKl 21 42 aRg k wn wd ws ++ R)) = some (.inl (some (.int 2)), aLh sn sf lo dd m X1, (1, 6)) := by
  refine aRun_of rfl (aVn_end (stop := fun p => false) 60 ?_)
  refine Exists.intro _ (And.intro hC ?_)
  exact rfl
theorem w_cast (hC : aRun false 9 m_X7_cast [.ref 20, .int x0, .int x1, .int x2] (aLh sn sf lo dd m (aKl 21 42 aRg k wn wd ws ++ R)) = some (.inl (some (.int v)), aLh sn sf lo dd m X1, (0, 0))) : aRun false 10 m_L_cast [.ref 20, .int x0, .int x1, .int x2, .ref 8] (aLh sn sf lo dd m (aKl 21 42 aRg k wn wd ws ++ R)) = some (.inl (some (.int 0)), aLh sn sf (vp_updL lo 0 v.toInt64) dd m X1, (0, 0)) := by
  refine aRun_of rfl (aVn_end (stop := fun p => false) 60 ?_)
  refine Exists.intro _ (And.intro hC ?_)
  exact rfl
theorem w_cast_0 (hC : aRun false 9 m_X7_cast [.ref 20, .int x0, .int x1, .int x2] (aLh sn sf lo dd m (aKl 21 42 aRg k wn wd ws ++ R)) = some (.inr 0, aLh sn sf lo dd m X1, (1, 6))) : aRun false 10 m_L_cast [.ref 20, .int x0, .int x1, .int x2, .ref 8] (aLh sn sf lo dd m (aKl 21 42 aRg k wn wd ws ++ R)) = some (.inl (some (.int 1)), aLh sn sf lo dd m X1, (1, 6)) := by
  refine aRun_of rfl (aVn_end (stop := fun p => false) 60 ?_)
  refine Exists.intro _ (And.intro hC ?_)
  exact rfl
theorem w_cast_1 (hC : aRun false 9 m_X7_cast [.ref 20, .int x0, .int x1, .int x2] (aLh sn sf lo dd m (aKl 21 42 aRg k wn wd ws ++ R)) = some (.inr 1, aLh sn sf lo dd m X1, (1, 6))) : aRun false 10 m_L_cast [.ref 20, .int x0, .int x1, .int x2, .ref 8] (aLh sn sf lo dd m (aKl 21 42 aRg k wn wd ws ++ R)) = some (.inl (some (.int 2)), aLh sn sf lo dd m X1, (1, 6)) := by
  refine aRun_of rfl (aVn_end (stop := fun p => false) 60 ?_)
  refine Exists.intro _ (And.intro hC ?_)
  exact rfl
theorem w_glaze (hC : aRun false 9 m_X7_glaze [.ref 20, .int x0, .int x1, .int x2] (aLh sn sf lo dd m (aKl 21 42 aRg k wn wd ws ++ R)) = some (.inl (some (.int v)), aLh sn sf lo dd m X1, (0, 0))) : aRun false 10 m_L_glaze [.ref 20, .int x0, .int x1, .int x2, .ref 8] (aLh sn sf lo dd m (aKl 21 42 aRg k wn wd ws ++ R)) = some (.inl (some (.int 0)), aLh sn sf (vp_updL lo 0 v.toInt64) dd m X1, (0, 0)) := by
  refine aRun_of rfl (aVn_end (stop := fun p => false) 60 ?_)
  refine Exists.intro _ (And.intro hC ?_)
  exact rfl
theorem w_glaze_2 (hC : aRun false 9 m_X7_glaze [.ref 20, .int x0, .int x1, .int x2] (aLh sn sf lo dd m (aKl 21 42 aRg k wn wd ws ++ R)) = some (.inr 2, aLh sn sf lo dd m X1, (1, 6))) : aRun false 10 m_L_glaze [.ref 20, .int x0, .int x1, .int x2, .ref 8] (aLh sn sf lo dd m (aKl 21 42 aRg k wn wd ws ++ R)) = some (.inl (some (.int 1)), aLh sn sf lo dd m X1, (1, 6)) := by
  refine aRun_of rfl (aVn_end (stop := fun p => false) 60 ?_)
  refine Exists.intro _ (And.intro hC ?_)
  exact rfl
theorem w_glaze_0 (hC : aRun false 9 m_X7_glaze [.ref 20, .int x0, .int x1, .int x2] (aLh sn sf lo dd m (aKl 21 42 aRg k wn wd ws ++ R)) = some (.inr 0, aLh sn sf lo dd m X1, (1, 6))) : aRun false 10 m_L_glaze [.ref 20, .int x0, .int x1, .int x2, .ref 8] (aLh sn sf lo dd m (aKl 21 42 aRg k wn wd ws ++ R)) = some (.inl (some (.int 2)), aLh sn sf lo dd m X1, (1, 6)) := by
  refine aRun_of rfl (aVn_end (stop := fun p => false) 60 ?_)
  refine Exists.intro _ (And.intro hC ?_)
  exact rfl
theorem w_glaze_1 (hC : aRun false 9 m_X7_glaze [.ref 20, .int x0, .int x1, .int x2] (aLh sn sf lo dd m (aKl 21 42 aRg k wn wd ws ++ R)) = some (.inr 1, aLh sn sf lo dd m X1, (1, 6))) : aRun false 10 m_L_glaze [.ref 20, .int x0, .int x1, .int x2, .ref 8] (aLh sn sf lo dd m (aKl 21 42 aRg k wn wd ws ++ R)) = some (.inl (some (.int 3)), aLh sn sf lo dd m X1, (1, 6)) := by
  refine aRun_of rfl (aVn_end (stop := fun p => false) 60 ?_)
  refine Exists.intro _ (And.intro hC ?_)
  exact rfl
theorem w_saggar (hC : aRun false 9 m_X7_saggar [.ref 20] (aLh sn sf lo dd m (aKl 21 42 aRg k wn wd ws ++ R)) = some (.inl (some (.int v)), aLh sn sf lo dd m X1, (0, 0))) : aRun false 10 m_L_saggar [.ref 20, .ref 8] (aLh sn sf lo dd m (aKl 21 42 aRg k wn wd ws ++ R)) = some (.inl (some (.int 0)), aLh sn sf (vp_updL lo 0 v.toInt64) dd m X1, (0, 0)) := by
  refine aRun_of rfl (aVn_end (stop := fun p => false) 60 ?_)
  refine Exists.intro _ (And.intro hC ?_)
  exact rfl
theorem w_saggar_1 (hC : aRun false 9 m_X7_saggar [.ref 20] (aLh sn sf lo dd m (aKl 21 42 aRg k wn wd ws ++ R)) = some (.inr 1, aLh sn sf lo dd m X1, (1, 6))) : aRun false 10 m_L_saggar [.ref 20, .ref 8] (aLh sn sf lo dd m (aKl 21 42 aRg k wn wd ws ++ R)) = some (.inl (some (.int 1)), aLh sn sf lo dd m X1, (1, 6)) := by
  refine aRun_of rfl (aVn_end (stop := fun p => false) 60 ?_)
  refine Exists.intro _ (And.intro hC ?_)
  exact rfl
theorem w_stack (hC : aRun false 9 m_X7_stack [.ref 20, .int x0, .int x1, .int x2] (aLh sn sf lo dd m (aKl 21 42 aRg k wn wd ws ++ R)) = some (.inl (some (.int v)), aLh sn sf lo dd m X1, (0, 0))) : aRun false 10 m_L_stack [.ref 20, .int x0, .int x1, .int x2, .ref 8] (aLh sn sf lo dd m (aKl 21 42 aRg k wn wd ws ++ R)) = some (.inl (some (.int 0)), aLh sn sf (vp_updL lo 0 v.toInt64) dd m X1, (0, 0)) := by
  refine aRun_of rfl (aVn_end (stop := fun p => false) 60 ?_)
  refine Exists.intro _ (And.intro hC ?_)
  exact rfl
theorem w_stack_2 (hC : aRun false 9 m_X7_stack [.ref 20, .int x0, .int x1, .int x2] (aLh sn sf lo dd m (aKl 21 42 aRg k wn wd ws ++ R)) = some (.inr 2, aLh sn sf lo dd m X1, (1, 6))) : aRun false 10 m_L_stack [.ref 20, .int x0, .int x1, .int x2, .ref 8] (aLh sn sf lo dd m (aKl 21 42 aRg k wn wd ws ++ R)) = some (.inl (some (.int 1)), aLh sn sf lo dd m X1, (1, 6)) := by
  refine aRun_of rfl (aVn_end (stop := fun p => false) 60 ?_)
  refine Exists.intro _ (And.intro hC ?_)
  exact rfl
theorem w_stack_0 (hC : aRun false 9 m_X7_stack [.ref 20, .int x0, .int x1, .int x2] (aLh sn sf lo dd m (aKl 21 42 aRg k wn wd ws ++ R)) = some (.inr 0, aLh sn sf lo dd m X1, (1, 6))) : aRun false 10 m_L_stack [.ref 20, .int x0, .int x1, .int x2, .ref 8] (aLh sn sf lo dd m (aKl 21 42 aRg k wn wd ws ++ R)) = some (.inl (some (.int 2)), aLh sn sf lo dd m X1, (1, 6)) := by
  refine aRun_of rfl (aVn_end (stop := fun p => false) 60 ?_)
  refine Exists.intro _ (And.intro hC ?_)
  exact rfl
theorem w_stack_1 (hC : aRun false 9 m_X7_stack [.ref 20, .int x0, .int x1, .int x2] (aLh sn sf lo dd m (aKl 21 42 aRg k wn wd ws ++ R)) = some (.inr 1, aLh sn sf lo dd m X1, (1, 6))) : aRun false 10 m_L_stack [.ref 20, .int x0, .int x1, .int x2, .ref 8] (aLh sn sf lo dd m (aKl 21 42 aRg k wn wd ws ++ R)) = some (.inl (some (.int 3)), aLh sn sf lo dd m X1, (1, 6)) := by
  refine aRun_of rfl (aVn_end (stop := fun p => false) 60 ?_)
  refine Exists.intro _ (And.intro hC ?_)
  exact rfl
theorem w_unstack (hC : aRun false 9 m_X7_unstack [.ref 20, .int x0] (aLh sn sf lo dd m (aKl 21 42 aRg k wn wd ws ++ R)) = some (.inl (some (.int v)), aLh sn sf lo dd m X1, (0, 0))) : aRun false 10 m_L_unstack [.ref 20, .int x0, .ref 8] (aLh sn sf lo dd m (aKl 21 42 aRg k wn wd ws ++ R)) = some (.inl (some (.int 0)), aLh sn sf (vp_updL lo 0 v.toInt64) dd m X1, (0, 0)) := by
  refine aRun_of rfl (aVn_end (stop := fun p => false) 60 ?_)
  refine Exists.intro _ (And.intro hC ?_)
  exact rfl
theorem w_unstack_2 (hC : aRun false 9 m_X7_unstack [.ref 20, .int x0] (aLh sn sf lo dd m (aKl 21 42 aRg k wn wd ws ++ R)) = some (.inr 2, aLh sn sf lo dd m X1, (1, 6))) : aRun false 10 m_L_unstack [.ref 20, .int x0, .ref 8] (aLh sn sf lo dd m (aKl 21 42 aRg k wn wd ws ++ R)) = some (.inl (some (.int 1)), aLh sn sf lo dd m X1, (1, 6)) := by
  refine aRun_of rfl (aVn_end (stop := fun p => false) 60 ?_)
  refine Exists.intro _ (And.intro hC ?_)
  exact rfl
theorem w_unstack_1 (hC : aRun false 9 m_X7_unstack [.ref 20, .int x0] (aLh sn sf lo dd m (aKl 21 42 aRg k wn wd ws ++ R)) = some (.inr 1, aLh sn sf lo dd m X1, (1, 6))) : aRun false 10 m_L_unstack [.ref 20, .int x0, .ref 8] (aLh sn sf lo dd m (aKl 21 42 aRg k wn wd ws ++ R)) = some (.inl (some (.int 2)), aLh sn sf lo dd m X1, (1, 6)) := by
  refine aRun_of rfl (aVn_end (stop := fun p => false) 60 ?_)
  refine Exists.intro _ (And.intro hC ?_)
  exact rfl
theorem w_put (hC : aRun false 9 m_X7_put [.ref 20, .int x0, .int x1] (aLh sn sf lo dd m (aKl 21 42 aRg k wn wd ws ++ R)) = some (.inl (some (.int v)), aLh sn sf lo dd m X1, (0, 0))) : aRun false 10 m_L_put [.ref 20, .int x0, .int x1, .ref 8] (aLh sn sf lo dd m (aKl 21 42 aRg k wn wd ws ++ R)) = some (.inl (some (.int 0)), aLh sn sf (vp_updL lo 0 v.toInt64) dd m X1, (0, 0)) := by
  refine aRun_of rfl (aVn_end (stop := fun p => false) 60 ?_)
  refine Exists.intro _ (And.intro hC ?_)
  exact rfl
theorem w_put_2 (hC : aRun false 9 m_X7_put [.ref 20, .int x0, .int x1] (aLh sn sf lo dd m (aKl 21 42 aRg k wn wd ws ++ R)) = some (.inr 2, aLh sn sf lo dd m X1, (1, 6))) : aRun false 10 m_L_put [.ref 20, .int x0, .int x1, .ref 8] (aLh sn sf lo dd m (aKl 21 42 aRg k wn wd ws ++ R)) = some (.inl (some (.int 1)), aLh sn sf lo dd m X1, (1, 6)) := by
  refine aRun_of rfl (aVn_end (stop := fun p => false) 60 ?_)
  refine Exists.intro _ (And.intro hC ?_)
  exact rfl
theorem w_put_1 (hC : aRun false 9 m_X7_put [.ref 20, .int x0, .int x1] (aLh sn sf lo dd m (aKl 21 42 aRg k wn wd ws ++ R)) = some (.inr 1, aLh sn sf lo dd m X1, (1, 6))) : aRun false 10 m_L_put [.ref 20, .int x0, .int x1, .ref 8] (aLh sn sf lo dd m (aKl 21 42 aRg k wn wd ws ++ R)) = some (.inl (some (.int 2)), aLh sn sf lo dd m X1, (1, 6)) := by
  refine aRun_of rfl (aVn_end (stop := fun p => false) 60 ?_)
  refine Exists.intro _ (And.intro hC ?_)
  exact rfl
theorem w_fire (hC : aRun false 9 m_X7_fire [.ref 20, .int x0] (aLh sn sf lo dd m (aKl 21 42 aRg k wn wd ws ++ R)) = some (.inl (some (.int v)), aLh sn sf lo dd m X1, (0, 0))) : aRun false 10 m_L_fire [.ref 20, .int x0, .ref 8] (aLh sn sf lo dd m (aKl 21 42 aRg k wn wd ws ++ R)) = some (.inl (some (.int 0)), aLh sn sf (vp_updL lo 0 v.toInt64) dd m X1, (0, 0)) := by
  refine aRun_of rfl (aVn_end (stop := fun p => false) 60 ?_)
  refine Exists.intro _ (And.intro hC ?_)
  exact rfl
theorem w_fire_0 (hC : aRun false 9 m_X7_fire [.ref 20, .int x0] (aLh sn sf lo dd m (aKl 21 42 aRg k wn wd ws ++ R)) = some (.inr 0, aLh sn sf lo dd m X1, (1, 6))) : aRun false 10 m_L_fire [.ref 20, .int x0, .ref 8] (aLh sn sf lo dd m (aKl 21 42 aRg k wn wd ws ++ R)) = some (.inl (some (.int 1)), aLh sn sf lo dd m X1, (1, 6)) := by
  refine aRun_of rfl (aVn_end (stop := fun p => false) 60 ?_)
  refine Exists.intro _ (And.intro hC ?_)
  exact rfl
theorem w_fire_1 (hC : aRun false 9 m_X7_fire [.ref 20, .int x0] (aLh sn sf lo dd m (aKl 21 42 aRg k wn wd ws ++ R)) = some (.inr 1, aLh sn sf lo dd m X1, (1, 6))) : aRun false 10 m_L_fire [.ref 20, .int x0, .ref 8] (aLh sn sf lo dd m (aKl 21 42 aRg k wn wd ws ++ R)) = some (.inl (some (.int 2)), aLh sn sf lo dd m X1, (1, 6)) := by
  refine aRun_of rfl (aVn_end (stop := fun p => false) 60 ?_)
  refine Exists.intro _ (And.intro hC ?_)
  exact rfl
theorem w_empty (hC : aRun false 9 m_X7_empty [.ref 20, .int x0] (aLh sn sf lo dd m (aKl 21 42 aRg k wn wd ws ++ R)) = some (.inl (some (.int v)), aLh sn sf lo dd m X1, (0, 0))) : aRun false 10 m_L_empty [.ref 20, .int x0, .ref 8] (aLh sn sf lo dd m (aKl 21 42 aRg k wn wd ws ++ R)) = some (.inl (some (.int 0)), aLh sn sf (vp_updL lo 0 v.toInt64) dd m X1, (0, 0)) := by
  refine aRun_of rfl (aVn_end (stop := fun p => false) 60 ?_)
  refine Exists.intro _ (And.intro hC ?_)
  exact rfl
theorem w_empty_2 (hC : aRun false 9 m_X7_empty [.ref 20, .int x0] (aLh sn sf lo dd m (aKl 21 42 aRg k wn wd ws ++ R)) = some (.inr 2, aLh sn sf lo dd m X1, (1, 6))) : aRun false 10 m_L_empty [.ref 20, .int x0, .ref 8] (aLh sn sf lo dd m (aKl 21 42 aRg k wn wd ws ++ R)) = some (.inl (some (.int 1)), aLh sn sf lo dd m X1, (1, 6)) := by
  refine aRun_of rfl (aVn_end (stop := fun p => false) 60 ?_)
  refine Exists.intro _ (And.intro hC ?_)
  exact rfl
theorem w_empty_1 (hC : aRun false 9 m_X7_empty [.ref 20, .int x0] (aLh sn sf lo dd m (aKl 21 42 aRg k wn wd ws ++ R)) = some (.inr 1, aLh sn sf lo dd m X1, (1, 6))) : aRun false 10 m_L_empty [.ref 20, .int x0, .ref 8] (aLh sn sf lo dd m (aKl 21 42 aRg k wn wd ws ++ R)) = some (.inl (some (.int 2)), aLh sn sf lo dd m X1, (1, 6)) := by
  refine aRun_of rfl (aVn_end (stop := fun p => false) 60 ?_)
  refine Exists.intro _ (And.intro hC ?_)
  exact rfl
theorem w_order (hC : aRun false 9 m_X7_order [.ref 20, .int x0, .int x1, .int x2, .int x3, .int x4, .int x5] (aLh sn sf lo dd m (aKl 21 42 aRg k wn wd ws ++ R)) = some (.inl (some (.int v)), aLh sn sf lo dd m X1, (0, 0))) : aRun false 10 m_L_order [.ref 20, .int x0, .int x1, .int x2, .int x3, .int x4, .int x5, .ref 8] (aLh sn sf lo dd m (aKl 21 42 aRg k wn wd ws ++ R)) = some (.inl (some (.int 0)), aLh sn sf (vp_updL lo 0 v.toInt64) dd m X1, (0, 0)) := by
  refine aRun_of rfl (aVn_end (stop := fun p => false) 60 ?_)
  refine Exists.intro _ (And.intro hC ?_)
  exact rfl
theorem w_order_0 (hC : aRun false 9 m_X7_order [.ref 20, .int x0, .int x1, .int x2, .int x3, .int x4, .int x5] (aLh sn sf lo dd m (aKl 21 42 aRg k wn wd ws ++ R)) = some (.inr 0, aLh sn sf lo dd m X1, (1, 6))) : aRun false 10 m_L_order [.ref 20, .int x0, .int x1, .int x2, .int x3, .int x4, .int x5, .ref 8] (aLh sn sf lo dd m (aKl 21 42 aRg k wn wd ws ++ R)) = some (.inl (some (.int 1)), aLh sn sf lo dd m X1, (1, 6)) := by
  refine aRun_of rfl (aVn_end (stop := fun p => false) 60 ?_)
  refine Exists.intro _ (And.intro hC ?_)
  exact rfl
theorem w_order_1 (hC : aRun false 9 m_X7_order [.ref 20, .int x0, .int x1, .int x2, .int x3, .int x4, .int x5] (aLh sn sf lo dd m (aKl 21 42 aRg k wn wd ws ++ R)) = some (.inr 1, aLh sn sf lo dd m X1, (1, 6))) : aRun false 10 m_L_order [.ref 20, .int x0, .int x1, .int x2, .int x3, .int x4, .int x5, .ref 8] (aLh sn sf lo dd m (aKl 21 42 aRg k wn wd ws ++ R)) = some (.inl (some (.int 2)), aLh sn sf lo dd m X1, (1, 6)) := by
  refine aRun_of rfl (aVn_end (stop := fun p => false) 60 ?_)
  refine Exists.intro _ (And.intro hC ?_)
  exact rfl
theorem w_sell (hC : aRun false 9 m_X7_sell [.ref 20, .int x0] (aLh sn sf lo dd m (aKl 21 42 aRg k wn wd ws ++ R)) = some (.inl (some (.int v)), aLh sn sf lo dd m X1, (0, 0))) : aRun false 10 m_L_sell [.ref 20, .int x0, .ref 8] (aLh sn sf lo dd m (aKl 21 42 aRg k wn wd ws ++ R)) = some (.inl (some (.int 0)), aLh sn sf (vp_updL lo 0 v.toInt64) dd m X1, (0, 0)) := by
  refine aRun_of rfl (aVn_end (stop := fun p => false) 60 ?_)
  refine Exists.intro _ (And.intro hC ?_)
  exact rfl
theorem w_sell_2 (hC : aRun false 9 m_X7_sell [.ref 20, .int x0] (aLh sn sf lo dd m (aKl 21 42 aRg k wn wd ws ++ R)) = some (.inr 2, aLh sn sf lo dd m X1, (1, 6))) : aRun false 10 m_L_sell [.ref 20, .int x0, .ref 8] (aLh sn sf lo dd m (aKl 21 42 aRg k wn wd ws ++ R)) = some (.inl (some (.int 1)), aLh sn sf lo dd m X1, (1, 6)) := by
  refine aRun_of rfl (aVn_end (stop := fun p => false) 60 ?_)
  refine Exists.intro _ (And.intro hC ?_)
  exact rfl
theorem w_sell_1 (hC : aRun false 9 m_X7_sell [.ref 20, .int x0] (aLh sn sf lo dd m (aKl 21 42 aRg k wn wd ws ++ R)) = some (.inr 1, aLh sn sf lo dd m X1, (1, 6))) : aRun false 10 m_L_sell [.ref 20, .int x0, .ref 8] (aLh sn sf lo dd m (aKl 21 42 aRg k wn wd ws ++ R)) = some (.inl (some (.int 2)), aLh sn sf lo dd m X1, (1, 6)) := by
  refine aRun_of rfl (aVn_end (stop := fun p => false) 60 ?_)
  refine Exists.intro _ (And.intro hC ?_)
  exact rfl
theorem w_ware (hC : aRun false 9 m_X7_ware [.ref 20, .int x0, .int x1] (aLh sn sf lo dd m (aKl 21 42 aRg k wn wd ws ++ R)) = some (.inl (some (.int v)), aLh sn sf lo dd m X1, (0, 0))) : aRun false 10 m_L_ware [.ref 20, .int x0, .int x1, .ref 8] (aLh sn sf lo dd m (aKl 21 42 aRg k wn wd ws ++ R)) = some (.inl (some (.int 0)), aLh sn sf (vp_updL lo 0 v.toInt64) dd m X1, (0, 0)) := by
  refine aRun_of rfl (aVn_end (stop := fun p => false) 60 ?_)
  refine Exists.intro _ (And.intro hC ?_)
  exact rfl
theorem w_ware_2 (hC : aRun false 9 m_X7_ware [.ref 20, .int x0, .int x1] (aLh sn sf lo dd m (aKl 21 42 aRg k wn wd ws ++ R)) = some (.inr 2, aLh sn sf lo dd m X1, (1, 6))) : aRun false 10 m_L_ware [.ref 20, .int x0, .int x1, .ref 8] (aLh sn sf lo dd m (aKl 21 42 aRg k wn wd ws ++ R)) = some (.inl (some (.int 1)), aLh sn sf lo dd m X1, (1, 6)) := by
  refine aRun_of rfl (aVn_end (stop := fun p => false) 60 ?_)
  refine Exists.intro _ (And.intro hC ?_)
  exact rfl
theorem w_ware_0 (hC : aRun false 9 m_X7_ware [.ref 20, .int x0, .int x1] (aLh sn sf lo dd m (aKl 21 42 aRg k wn wd ws ++ R)) = some (.inr 0, aLh sn sf lo dd m X1, (1, 6))) : aRun false 10 m_L_ware [.ref 20, .int x0, .int x1, .ref 8] (aLh sn sf lo dd m (aKl 21 42 aRg k wn wd ws ++ R)) = some (.inl (some (.int 2)), aLh sn sf lo dd m X1, (1, 6)) := by
  refine aRun_of rfl (aVn_end (stop := fun p => false) 60 ?_)
  refine Exists.intro _ (And.intro hC ?_)
  exact rfl
theorem w_saggarOf (hC : aRun false 9 m_X7_saggarOf [.ref 20, .int x0, .int x1] (aLh sn sf lo dd m (aKl 21 42 aRg k wn wd ws ++ R)) = some (.inl (some (.int v)), aLh sn sf lo dd m X1, (0, 0))) : aRun false 10 m_L_saggarOf [.ref 20, .int x0, .int x1, .ref 8] (aLh sn sf lo dd m (aKl 21 42 aRg k wn wd ws ++ R)) = some (.inl (some (.int 0)), aLh sn sf (vp_updL lo 0 v.toInt64) dd m X1, (0, 0)) := by
  refine aRun_of rfl (aVn_end (stop := fun p => false) 60 ?_)
  refine Exists.intro _ (And.intro hC ?_)
  exact rfl
theorem w_saggarOf_2 (hC : aRun false 9 m_X7_saggarOf [.ref 20, .int x0, .int x1] (aLh sn sf lo dd m (aKl 21 42 aRg k wn wd ws ++ R)) = some (.inr 2, aLh sn sf lo dd m X1, (1, 6))) : aRun false 10 m_L_saggarOf [.ref 20, .int x0, .int x1, .ref 8] (aLh sn sf lo dd m (aKl 21 42 aRg k wn wd ws ++ R)) = some (.inl (some (.int 1)), aLh sn sf lo dd m X1, (1, 6)) := by
  refine aRun_of rfl (aVn_end (stop := fun p => false) 60 ?_)
  refine Exists.intro _ (And.intro hC ?_)
  exact rfl
theorem w_saggarOf_0 (hC : aRun false 9 m_X7_saggarOf [.ref 20, .int x0, .int x1] (aLh sn sf lo dd m (aKl 21 42 aRg k wn wd ws ++ R)) = some (.inr 0, aLh sn sf lo dd m X1, (1, 6))) : aRun false 10 m_L_saggarOf [.ref 20, .int x0, .int x1, .ref 8] (aLh sn sf lo dd m (aKl 21 42 aRg k wn wd ws ++ R)) = some (.inl (some (.int 2)), aLh sn sf lo dd m X1, (1, 6)) := by
  refine aRun_of rfl (aVn_end (stop := fun p => false) 60 ?_)
  refine Exists.intro _ (And.intro hC ?_)
  exact rfl
theorem w_load (hC : aRun false 9 m_X7_load [.ref 20, .int x0] (aLh sn sf lo dd m (aKl 21 42 aRg k wn wd ws ++ R)) = some (.inl (some (.int v)), aLh sn sf lo dd m X1, (0, 0))) : aRun false 10 m_L_load [.ref 20, .int x0, .ref 8] (aLh sn sf lo dd m (aKl 21 42 aRg k wn wd ws ++ R)) = some (.inl (some (.int 0)), aLh sn sf (vp_updL lo 0 v.toInt64) dd m X1, (0, 0)) := by
  refine aRun_of rfl (aVn_end (stop := fun p => false) 60 ?_)
  refine Exists.intro _ (And.intro hC ?_)
  exact rfl
theorem w_load_2 (hC : aRun false 9 m_X7_load [.ref 20, .int x0] (aLh sn sf lo dd m (aKl 21 42 aRg k wn wd ws ++ R)) = some (.inr 2, aLh sn sf lo dd m X1, (1, 6))) : aRun false 10 m_L_load [.ref 20, .int x0, .ref 8] (aLh sn sf lo dd m (aKl 21 42 aRg k wn wd ws ++ R)) = some (.inl (some (.int 1)), aLh sn sf lo dd m X1, (1, 6)) := by
  refine aRun_of rfl (aVn_end (stop := fun p => false) 60 ?_)
  refine Exists.intro _ (And.intro hC ?_)
  exact rfl
theorem w_loadAgain (hC : aRun false 9 m_X7_loadAgain [.ref 20, .int x0] (aLh sn sf lo dd m (aKl 21 42 aRg k wn wd ws ++ R)) = some (.inl (some (.int v)), aLh sn sf lo dd m X1, (0, 0))) : aRun false 10 m_L_loadAgain [.ref 20, .int x0, .ref 8] (aLh sn sf lo dd m (aKl 21 42 aRg k wn wd ws ++ R)) = some (.inl (some (.int 0)), aLh sn sf (vp_updL lo 0 v.toInt64) dd m X1, (0, 0)) := by
  refine aRun_of rfl (aVn_end (stop := fun p => false) 60 ?_)
  refine Exists.intro _ (And.intro hC ?_)
  exact rfl
theorem w_loadAgain_2 (hC : aRun false 9 m_X7_loadAgain [.ref 20, .int x0] (aLh sn sf lo dd m (aKl 21 42 aRg k wn wd ws ++ R)) = some (.inr 2, aLh sn sf lo dd m X1, (1, 6))) : aRun false 10 m_L_loadAgain [.ref 20, .int x0, .ref 8] (aLh sn sf lo dd m (aKl 21 42 aRg k wn wd ws ++ R)) = some (.inl (some (.int 1)), aLh sn sf lo dd m X1, (1, 6)) := by
  refine aRun_of rfl (aVn_end (stop := fun p => false) 60 ?_)
  refine Exists.intro _ (And.intro hC ?_)
  exact rfl
theorem w_orderOf (hC : aRun false 9 m_X7_orderOf [.ref 20, .int x0, .int x1] (aLh sn sf lo dd m (aKl 21 42 aRg k wn wd ws ++ R)) = some (.inl (some (.int v)), aLh sn sf lo dd m X1, (0, 0))) : aRun false 10 m_L_orderOf [.ref 20, .int x0, .int x1, .ref 8] (aLh sn sf lo dd m (aKl 21 42 aRg k wn wd ws ++ R)) = some (.inl (some (.int 0)), aLh sn sf (vp_updL lo 0 v.toInt64) dd m X1, (0, 0)) := by
  refine aRun_of rfl (aVn_end (stop := fun p => false) 60 ?_)
  refine Exists.intro _ (And.intro hC ?_)
  exact rfl
theorem w_orderOf_2 (hC : aRun false 9 m_X7_orderOf [.ref 20, .int x0, .int x1] (aLh sn sf lo dd m (aKl 21 42 aRg k wn wd ws ++ R)) = some (.inr 2, aLh sn sf lo dd m X1, (1, 6))) : aRun false 10 m_L_orderOf [.ref 20, .int x0, .int x1, .ref 8] (aLh sn sf lo dd m (aKl 21 42 aRg k wn wd ws ++ R)) = some (.inl (some (.int 1)), aLh sn sf lo dd m X1, (1, 6)) := by
  refine aRun_of rfl (aVn_end (stop := fun p => false) 60 ?_)
  refine Exists.intro _ (And.intro hC ?_)
  exact rfl
theorem w_orderOf_0 (hC : aRun false 9 m_X7_orderOf [.ref 20, .int x0, .int x1] (aLh sn sf lo dd m (aKl 21 42 aRg k wn wd ws ++ R)) = some (.inr 0, aLh sn sf lo dd m X1, (1, 6))) : aRun false 10 m_L_orderOf [.ref 20, .int x0, .int x1, .ref 8] (aLh sn sf lo dd m (aKl 21 42 aRg k wn wd ws ++ R)) = some (.inl (some (.int 2)), aLh sn sf lo dd m X1, (1, 6)) := by
  refine aRun_of rfl (aVn_end (stop := fun p => false) 60 ?_)
  refine Exists.intro _ (And.intro hC ?_)
  exact rfl
theorem w_sign (hC : aRun false 9 m_X7_sign [.ref 20, .int x0] (aLh sn sf lo dd m (aKl 21 42 aRg k wn wd ws ++ R)) = some (.inl (some (.int v)), aLh sn sf lo dd m X1, (0, 0))) : aRun false 10 m_L_sign [.ref 20, .int x0, .ref 8] (aLh sn sf lo dd m (aKl 21 42 aRg k wn wd ws ++ R)) = some (.inl (some (.int 0)), aLh sn sf (vp_updL lo 0 v.toInt64) dd m X1, (0, 0)) := by
  refine aRun_of rfl (aVn_end (stop := fun p => false) 60 ?_)
  refine Exists.intro _ (And.intro hC ?_)
  exact rfl
theorem w_sign_2 (hC : aRun false 9 m_X7_sign [.ref 20, .int x0] (aLh sn sf lo dd m (aKl 21 42 aRg k wn wd ws ++ R)) = some (.inr 2, aLh sn sf lo dd m X1, (1, 6))) : aRun false 10 m_L_sign [.ref 20, .int x0, .ref 8] (aLh sn sf lo dd m (aKl 21 42 aRg k wn wd ws ++ R)) = some (.inl (some (.int 1)), aLh sn sf lo dd m X1, (1, 6)) := by
  refine aRun_of rfl (aVn_end (stop := fun p => false) 60 ?_)
  refine Exists.intro _ (And.intro hC ?_)
  exact rfl
theorem w_store (hC : aRun false 9 m_X7_store [.ref 20, .int x0, .int x1, .int x2] (aLh sn sf lo dd m (aKl 21 42 aRg k wn wd ws ++ R)) = some (.inl (some (.int v)), aLh sn sf lo dd m X1, (0, 0))) : aRun false 10 m_L_store [.ref 20, .int x0, .int x1, .int x2, .ref 8] (aLh sn sf lo dd m (aKl 21 42 aRg k wn wd ws ++ R)) = some (.inl (some (.int 0)), aLh sn sf (vp_updL lo 0 v.toInt64) dd m X1, (0, 0)) := by
  refine aRun_of rfl (aVn_end (stop := fun p => false) 60 ?_)
  refine Exists.intro _ (And.intro hC ?_)
  exact rfl
theorem w_store_0 (hC : aRun false 9 m_X7_store [.ref 20, .int x0, .int x1, .int x2] (aLh sn sf lo dd m (aKl 21 42 aRg k wn wd ws ++ R)) = some (.inr 0, aLh sn sf lo dd m X1, (1, 6))) : aRun false 10 m_L_store [.ref 20, .int x0, .int x1, .int x2, .ref 8] (aLh sn sf lo dd m (aKl 21 42 aRg k wn wd ws ++ R)) = some (.inl (some (.int 1)), aLh sn sf lo dd m X1, (1, 6)) := by
  refine aRun_of rfl (aVn_end (stop := fun p => false) 60 ?_)
  refine Exists.intro _ (And.intro hC ?_)
  exact rfl
theorem w_heatAt (hC : aRun false 9 m_X7_heatAt [.ref 20, .int x0, .int x1] (aLh sn sf lo dd m (aKl 21 42 aRg k wn wd ws ++ R)) = some (.inl (some (.int v)), aLh sn sf lo dd m X1, (0, 0))) : aRun false 10 m_L_heatAt [.ref 20, .int x0, .int x1, .ref 8] (aLh sn sf lo dd m (aKl 21 42 aRg k wn wd ws ++ R)) = some (.inl (some (.int 0)), aLh sn sf (vp_updL lo 0 v.toInt64) dd m X1, (0, 0)) := by
  refine aRun_of rfl (aVn_end (stop := fun p => false) 60 ?_)
  refine Exists.intro _ (And.intro hC ?_)
  exact rfl
theorem w_heatAt_2 (hC : aRun false 9 m_X7_heatAt [.ref 20, .int x0, .int x1] (aLh sn sf lo dd m (aKl 21 42 aRg k wn wd ws ++ R)) = some (.inr 2, aLh sn sf lo dd m X1, (1, 6))) : aRun false 10 m_L_heatAt [.ref 20, .int x0, .int x1, .ref 8] (aLh sn sf lo dd m (aKl 21 42 aRg k wn wd ws ++ R)) = some (.inl (some (.int 1)), aLh sn sf lo dd m X1, (1, 6)) := by
  refine aRun_of rfl (aVn_end (stop := fun p => false) 60 ?_)
  refine Exists.intro _ (And.intro hC ?_)
  exact rfl
theorem w_heatAt_0 (hC : aRun false 9 m_X7_heatAt [.ref 20, .int x0, .int x1] (aLh sn sf lo dd m (aKl 21 42 aRg k wn wd ws ++ R)) = some (.inr 0, aLh sn sf lo dd m X1, (1, 6))) : aRun false 10 m_L_heatAt [.ref 20, .int x0, .int x1, .ref 8] (aLh sn sf lo dd m (aKl 21 42 aRg k wn wd ws ++ R)) = some (.inl (some (.int 2)), aLh sn sf lo dd m X1, (1, 6)) := by
  refine aRun_of rfl (aVn_end (stop := fun p => false) 60 ?_)
  refine Exists.intro _ (And.intro hC ?_)
  exact rfl
theorem w_heatAt_3 (hC : aRun false 9 m_X7_heatAt [.ref 20, .int x0, .int x1] (aLh sn sf lo dd m (aKl 21 42 aRg k wn wd ws ++ R)) = some (.inr 3, aLh sn sf lo dd m X1, (1, 6))) : aRun false 10 m_L_heatAt [.ref 20, .int x0, .int x1, .ref 8] (aLh sn sf lo dd m (aKl 21 42 aRg k wn wd ws ++ R)) = some (.inl (some (.int 3)), aLh sn sf lo dd m X1, (1, 6)) := by
  refine aRun_of rfl (aVn_end (stop := fun p => false) 60 ?_)
  refine Exists.intro _ (And.intro hC ?_)
  exact rfl
theorem w_wouldBe (hC : aRun false 9 m_X7_wouldBe [.ref 20, .int x0, .int x1] (aLh sn sf lo dd m (aKl 21 42 aRg k wn wd ws ++ R)) = some (.inl (some (.int v)), aLh sn sf lo dd m X1, (0, 0))) : aRun false 10 m_L_wouldBe [.ref 20, .int x0, .int x1, .ref 8] (aLh sn sf lo dd m (aKl 21 42 aRg k wn wd ws ++ R)) = some (.inl (some (.int 0)), aLh sn sf (vp_updL lo 0 v.toInt64) dd m X1, (0, 0)) := by
  refine aRun_of rfl (aVn_end (stop := fun p => false) 60 ?_)
  refine Exists.intro _ (And.intro hC ?_)
  exact rfl
theorem w_wouldBe_2 (hC : aRun false 9 m_X7_wouldBe [.ref 20, .int x0, .int x1] (aLh sn sf lo dd m (aKl 21 42 aRg k wn wd ws ++ R)) = some (.inr 2, aLh sn sf lo dd m X1, (1, 6))) : aRun false 10 m_L_wouldBe [.ref 20, .int x0, .int x1, .ref 8] (aLh sn sf lo dd m (aKl 21 42 aRg k wn wd ws ++ R)) = some (.inl (some (.int 1)), aLh sn sf lo dd m X1, (1, 6)) := by
  refine aRun_of rfl (aVn_end (stop := fun p => false) 60 ?_)
  refine Exists.intro _ (And.intro hC ?_)
  exact rfl
theorem w_wouldBe_0 (hC : aRun false 9 m_X7_wouldBe [.ref 20, .int x0, .int x1] (aLh sn sf lo dd m (aKl 21 42 aRg k wn wd ws ++ R)) = some (.inr 0, aLh sn sf lo dd m X1, (1, 6))) : aRun false 10 m_L_wouldBe [.ref 20, .int x0, .int x1, .ref 8] (aLh sn sf lo dd m (aKl 21 42 aRg k wn wd ws ++ R)) = some (.inl (some (.int 2)), aLh sn sf lo dd m X1, (1, 6)) := by
  refine aRun_of rfl (aVn_end (stop := fun p => false) 60 ?_)
  refine Exists.intro _ (And.intro hC ?_)
  exact rfl
theorem w_bestHeat (hC : aRun false 9 m_X7_bestHeat [.ref 20, .int x0] (aLh sn sf lo dd m (aKl 21 42 aRg k wn wd ws ++ R)) = some (.inl (some (.int v)), aLh sn sf lo dd m X1, (0, 0))) : aRun false 10 m_L_bestHeat [.ref 20, .int x0, .ref 8] (aLh sn sf lo dd m (aKl 21 42 aRg k wn wd ws ++ R)) = some (.inl (some (.int 0)), aLh sn sf (vp_updL lo 0 v.toInt64) dd m X1, (0, 0)) := by
  refine aRun_of rfl (aVn_end (stop := fun p => false) 60 ?_)
  refine Exists.intro _ (And.intro hC ?_)
  exact rfl
theorem w_bestHeat_3 (hC : aRun false 9 m_X7_bestHeat [.ref 20, .int x0] (aLh sn sf lo dd m (aKl 21 42 aRg k wn wd ws ++ R)) = some (.inr 3, aLh sn sf lo dd m X1, (1, 6))) : aRun false 10 m_L_bestHeat [.ref 20, .int x0, .ref 8] (aLh sn sf lo dd m (aKl 21 42 aRg k wn wd ws ++ R)) = some (.inl (some (.int 1)), aLh sn sf lo dd m X1, (1, 6)) := by
  refine aRun_of rfl (aVn_end (stop := fun p => false) 60 ?_)
  refine Exists.intro _ (And.intro hC ?_)
  exact rfl
theorem w_sets (hC : aRun false 9 m_X7_sets [.ref 20, .int x0] (aLh sn sf lo dd m (aKl 21 42 aRg k wn wd ws ++ R)) = some (.inl (some (.int v)), aLh sn sf lo dd m X1, (0, 0))) : aRun false 10 m_L_sets [.ref 20, .int x0, .ref 8] (aLh sn sf lo dd m (aKl 21 42 aRg k wn wd ws ++ R)) = some (.inl (some (.int 0)), aLh sn sf (vp_updL lo 0 v.toInt64) dd m X1, (0, 0)) := by
  refine aRun_of rfl (aVn_end (stop := fun p => false) 60 ?_)
  refine Exists.intro _ (And.intro hC ?_)
  exact rfl
theorem w_sets_2 (hC : aRun false 9 m_X7_sets [.ref 20, .int x0] (aLh sn sf lo dd m (aKl 21 42 aRg k wn wd ws ++ R)) = some (.inr 2, aLh sn sf lo dd m X1, (1, 6))) : aRun false 10 m_L_sets [.ref 20, .int x0, .ref 8] (aLh sn sf lo dd m (aKl 21 42 aRg k wn wd ws ++ R)) = some (.inl (some (.int 1)), aLh sn sf lo dd m X1, (1, 6)) := by
  refine aRun_of rfl (aVn_end (stop := fun p => false) 60 ?_)
  refine Exists.intro _ (And.intro hC ?_)
  exact rfl
theorem w_setsAgain (hC : aRun false 9 m_X7_setsAgain [.ref 20, .int x0] (aLh sn sf lo dd m (aKl 21 42 aRg k wn wd ws ++ R)) = some (.inl (some (.int v)), aLh sn sf lo dd m X1, (0, 0))) : aRun false 10 m_L_setsAgain [.ref 20, .int x0, .ref 8] (aLh sn sf lo dd m (aKl 21 42 aRg k wn wd ws ++ R)) = some (.inl (some (.int 0)), aLh sn sf (vp_updL lo 0 v.toInt64) dd m X1, (0, 0)) := by
  refine aRun_of rfl (aVn_end (stop := fun p => false) 60 ?_)
  refine Exists.intro _ (And.intro hC ?_)
  exact rfl
theorem w_setsAgain_2 (hC : aRun false 9 m_X7_setsAgain [.ref 20, .int x0] (aLh sn sf lo dd m (aKl 21 42 aRg k wn wd ws ++ R)) = some (.inr 2, aLh sn sf lo dd m X1, (1, 6))) : aRun false 10 m_L_setsAgain [.ref 20, .int x0, .ref 8] (aLh sn sf lo dd m (aKl 21 42 aRg k wn wd ws ++ R)) = some (.inl (some (.int 1)), aLh sn sf lo dd m X1, (1, 6)) := by
  refine aRun_of rfl (aVn_end (stop := fun p => false) 60 ?_)
  refine Exists.intro _ (And.intro hC ?_)
  exact rfl
theorem w_append (hC : aRun false 9 m_X7_append [.ref 20, .int x0] (aLh sn sf lo dd m (aKl 21 42 aRg k wn wd ws ++ R)) = some (.inl (some (.int v)), aLh sn sf lo dd m X1, (0, 0))) : aRun false 10 m_L_append [.ref 20, .int x0, .ref 8] (aLh sn sf lo dd m (aKl 21 42 aRg k wn wd ws ++ R)) = some (.inl (some (.int 0)), aLh sn sf (vp_updL lo 0 v.toInt64) dd m X1, (0, 0)) := by
  refine aRun_of rfl (aVn_end (stop := fun p => false) 60 ?_)
  refine Exists.intro _ (And.intro hC ?_)
  exact rfl
theorem w_append_4 (hC : aRun false 9 m_X7_append [.ref 20, .int x0] (aLh sn sf lo dd m (aKl 21 42 aRg k wn wd ws ++ R)) = some (.inr 4, aLh sn sf lo dd m X1, (1, 6))) : aRun false 10 m_L_append [.ref 20, .int x0, .ref 8] (aLh sn sf lo dd m (aKl 21 42 aRg k wn wd ws ++ R)) = some (.inl (some (.int 1)), aLh sn sf lo dd m X1, (1, 6)) := by
  refine aRun_of rfl (aVn_end (stop := fun p => false) 60 ?_)
  refine Exists.intro _ (And.intro hC ?_)
  exact rfl
theorem w_read (hC : aRun false 9 m_X7_read [.ref 20] (aLh sn sf lo dd m (aKl 21 42 aRg k wn wd ws ++ R)) = some (.inl (some (.int v)), aLh sn sf lo dd m X1, (0, 0))) : aRun false 10 m_L_read [.ref 20, .ref 8] (aLh sn sf lo dd m (aKl 21 42 aRg k wn wd ws ++ R)) = some (.inl (some (.int 0)), aLh sn sf (vp_updL lo 0 v.toInt64) dd m X1, (0, 0)) := by
  refine aRun_of rfl (aVn_end (stop := fun p => false) 60 ?_)
  refine Exists.intro _ (And.intro hC ?_)
  exact rfl
theorem w_read_0 (hC : aRun false 9 m_X7_read [.ref 20] (aLh sn sf lo dd m (aKl 21 42 aRg k wn wd ws ++ R)) = some (.inr 0, aLh sn sf lo dd m X1, (1, 6))) : aRun false 10 m_L_read [.ref 20, .ref 8] (aLh sn sf lo dd m (aKl 21 42 aRg k wn wd ws ++ R)) = some (.inl (some (.int 1)), aLh sn sf lo dd m X1, (1, 6)) := by
  refine aRun_of rfl (aVn_end (stop := fun p => false) 60 ?_)
  refine Exists.intro _ (And.intro hC ?_)
  exact rfl
theorem w_read_1 (hC : aRun false 9 m_X7_read [.ref 20] (aLh sn sf lo dd m (aKl 21 42 aRg k wn wd ws ++ R)) = some (.inr 1, aLh sn sf lo dd m X1, (1, 6))) : aRun false 10 m_L_read [.ref 20, .ref 8] (aLh sn sf lo dd m (aKl 21 42 aRg k wn wd ws ++ R)) = some (.inl (some (.int 2)), aLh sn sf lo dd m X1, (1, 6)) := by
  refine aRun_of rfl (aVn_end (stop := fun p => false) 60 ?_)
  refine Exists.intro _ (And.intro hC ?_)
  exact rfl
theorem w_refusal (hC : aRun false 9 m_X7_refusal [.ref 20, .int x0, .int x1] (aLh sn sf lo dd m (aKl 21 42 aRg k wn wd ws ++ R)) = some (.inl (some (.int v)), aLh sn sf lo dd m X1, (0, 0))) : aRun false 10 m_L_refusal [.ref 20, .int x0, .int x1, .ref 8] (aLh sn sf lo dd m (aKl 21 42 aRg k wn wd ws ++ R)) = some (.inl (some (.int 0)), aLh sn sf (vp_updL lo 0 v.toInt64) dd m X1, (0, 0)) := by
  refine aRun_of rfl (aVn_end (stop := fun p => false) 60 ?_)
  refine Exists.intro _ (And.intro hC ?_)
  exact rfl
theorem w_refusal_0 (hC : aRun false 9 m_X7_refusal [.ref 20, .int x0, .int x1] (aLh sn sf lo dd m (aKl 21 42 aRg k wn wd ws ++ R)) = some (.inr 0, aLh sn sf lo dd m X1, (1, 6))) : aRun false 10 m_L_refusal [.ref 20, .int x0, .int x1, .ref 8] (aLh sn sf lo dd m (aKl 21 42 aRg k wn wd ws ++ R)) = some (.inl (some (.int 1)), aLh sn sf lo dd m X1, (1, 6)) := by
  refine aRun_of rfl (aVn_end (stop := fun p => false) 60 ?_)
  refine Exists.intro _ (And.intro hC ?_)
  exact rfl
theorem w_refusal_3 (hC : aRun false 9 m_X7_refusal [.ref 20, .int x0, .int x1] (aLh sn sf lo dd m (aKl 21 42 aRg k wn wd ws ++ R)) = some (.inr 3, aLh sn sf lo dd m X1, (1, 6))) : aRun false 10 m_L_refusal [.ref 20, .int x0, .int x1, .ref 8] (aLh sn sf lo dd m (aKl 21 42 aRg k wn wd ws ++ R)) = some (.inl (some (.int 2)), aLh sn sf lo dd m X1, (1, 6)) := by
  refine aRun_of rfl (aVn_end (stop := fun p => false) 60 ?_)
  refine Exists.intro _ (And.intro hC ?_)
  exact rfl
theorem w_account (hC : aRun false 9 m_X7_account [.ref 20, .int x0] (aLh sn sf lo dd m (aKl 21 42 aRg k wn wd ws ++ R)) = some (.inl (some (.int v)), aLh sn sf lo dd m X1, (0, 0))) : aRun false 10 m_L_account [.ref 20, .int x0, .ref 8] (aLh sn sf lo dd m (aKl 21 42 aRg k wn wd ws ++ R)) = some (.inl (some (.int 0)), aLh sn sf (vp_updL lo 0 v.toInt64) dd m X1, (0, 0)) := by
  refine aRun_of rfl (aVn_end (stop := fun p => false) 60 ?_)
  refine Exists.intro _ (And.intro hC ?_)
  exact rfl
theorem w_account_0 (hC : aRun false 9 m_X7_account [.ref 20, .int x0] (aLh sn sf lo dd m (aKl 21 42 aRg k wn wd ws ++ R)) = some (.inr 0, aLh sn sf lo dd m X1, (1, 6))) : aRun false 10 m_L_account [.ref 20, .int x0, .ref 8] (aLh sn sf lo dd m (aKl 21 42 aRg k wn wd ws ++ R)) = some (.inl (some (.int 1)), aLh sn sf lo dd m X1, (1, 6)) := by
  refine aRun_of rfl (aVn_end (stop := fun p => false) 60 ?_)
  refine Exists.intro _ (And.intro hC ?_)
  exact rfl
theorem w_firstShare (hC : aRun false 9 m_X7_firstShare [.ref 20] (aLh sn sf lo dd m (aKl 21 42 aRg k wn wd ws ++ R)) = some (.inl (some (.double dv)), aLh sn sf lo dd m X1, (0, 0))) : aRun false 10 m_L_firstShare [.ref 20, .ref 9] (aLh sn sf lo dd m (aKl 21 42 aRg k wn wd ws ++ R)) = some (.inl (some (.int 0)), aLh sn sf lo (vf_upd dd 0 dv) m X1, (0, 0)) := by
  refine aRun_of rfl (aVn_end (stop := fun p => false) 60 ?_)
  refine Exists.intro _ (And.intro hC ?_)
  exact rfl
theorem w_firstShare_5 (hC : aRun false 9 m_X7_firstShare [.ref 20] (aLh sn sf lo dd m (aKl 21 42 aRg k wn wd ws ++ R)) = some (.inr 5, aLh sn sf lo dd m X1, (1, 6))) : aRun false 10 m_L_firstShare [.ref 20, .ref 9] (aLh sn sf lo dd m (aKl 21 42 aRg k wn wd ws ++ R)) = some (.inl (some (.int 1)), aLh sn sf lo dd m X1, (1, 6)) := by
  refine aRun_of rfl (aVn_end (stop := fun p => false) 60 ?_)
  refine Exists.intro _ (And.intro hC ?_)
  exact rfl
theorem w_meanLoad (hC : aRun false 9 m_X7_meanLoad [.ref 20] (aLh sn sf lo dd m (aKl 21 42 aRg k wn wd ws ++ R)) = some (.inl (some (.float fv)), aLh sn sf lo dd m X1, (0, 0))) (hq : FP.f2d fv &&& 0x7fffffffffffffff ≤ 0x7ff0000000000000) : aRun false 10 m_L_meanLoad [.ref 20, .ref 9] (aLh sn sf lo dd m (aKl 21 42 aRg k wn wd ws ++ R)) = some (.inl (some (.int 0)), aLh sn sf lo (vf_upd dd 0 (FP.f2d fv)) m X1, (0, 0)) := by
  refine aRun_of rfl (aVn_end (stop := fun p => false) 60 ?_)
  refine Exists.intro _ (And.intro hC ?_)
  refine And.intro hq ?_
  exact rfl
theorem w_meanLoad_5 (hC : aRun false 9 m_X7_meanLoad [.ref 20] (aLh sn sf lo dd m (aKl 21 42 aRg k wn wd ws ++ R)) = some (.inr 5, aLh sn sf lo dd m X1, (1, 6))) : aRun false 10 m_L_meanLoad [.ref 20, .ref 9] (aLh sn sf lo dd m (aKl 21 42 aRg k wn wd ws ++ R)) = some (.inl (some (.int 1)), aLh sn sf lo dd m X1, (1, 6)) := by
  refine aRun_of rfl (aVn_end (stop := fun p => false) 60 ?_)
  refine Exists.intro _ (And.intro hC ?_)
  exact rfl
theorem w_undo (hC : aRun false 9 m_X7_undo [.ref 20] (aLh sn sf lo dd m (aKl 21 42 aRg k wn wd ws ++ R)) = some (.inl (some (.int v)), aLh sn sf lo dd m X1, (0, 0))) : aRun false 10 m_L_undo [.ref 20, .ref 8] (aLh sn sf lo dd m (aKl 21 42 aRg k wn wd ws ++ R)) = some (.inl (some (.int 0)), aLh sn sf (vp_updL lo 0 v.toInt64) dd m X1, (0, 0)) := by
  refine aRun_of rfl (aVn_end (stop := fun p => false) 60 ?_)
  refine Exists.intro _ (And.intro hC ?_)
  exact rfl
theorem w_undo_4 (hC : aRun false 9 m_X7_undo [.ref 20] (aLh sn sf lo dd m (aKl 21 42 aRg k wn wd ws ++ R)) = some (.inr 4, aLh sn sf lo dd m X1, (1, 6))) : aRun false 10 m_L_undo [.ref 20, .ref 8] (aLh sn sf lo dd m (aKl 21 42 aRg k wn wd ws ++ R)) = some (.inl (some (.int 1)), aLh sn sf lo dd m X1, (1, 6)) := by
  refine aRun_of rfl (aVn_end (stop := fun p => false) 60 ?_)
  refine Exists.intro _ (And.intro hC ?_)
  exact rfl
theorem w_restore (hC : aRun false 9 m_X7_restore [.ref 20] (aLh sn sf lo dd m (aKl 21 42 aRg k wn wd ws ++ R)) = some (.inl (some (.int v)), aLh sn sf lo dd m X1, (0, 0))) : aRun false 10 m_L_restore [.ref 20, .ref 8] (aLh sn sf lo dd m (aKl 21 42 aRg k wn wd ws ++ R)) = some (.inl (some (.int 0)), aLh sn sf (vp_updL lo 0 v.toInt64) dd m X1, (0, 0)) := by
  refine aRun_of rfl (aVn_end (stop := fun p => false) 60 ?_)
  refine Exists.intro _ (And.intro hC ?_)
  exact rfl
theorem w_restore_4 (hC : aRun false 9 m_X7_restore [.ref 20] (aLh sn sf lo dd m (aKl 21 42 aRg k wn wd ws ++ R)) = some (.inr 4, aLh sn sf lo dd m X1, (1, 6))) : aRun false 10 m_L_restore [.ref 20, .ref 8] (aLh sn sf lo dd m (aKl 21 42 aRg k wn wd ws ++ R)) = some (.inl (some (.int 1)), aLh sn sf lo dd m X1, (1, 6)) := by
  refine aRun_of rfl (aVn_end (stop := fun p => false) 60 ?_)
  refine Exists.intro _ (And.intro hC ?_)
  exact rfl
end LW
