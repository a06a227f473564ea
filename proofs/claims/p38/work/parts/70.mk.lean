/-! MAKING CELLS: the kiln; the law's head -/
def T7 : aH := kh [.ref 9, .ref 12, .ref 182, .ref 189, .ref 210, .ref 231, .int 0, .int (-1)] 8 ++ (bk 8 ++ (t4 182 ++ (aWk 189 w0 ++ (aWk 210 w0 ++ aWk 231 w0))))
section IL
variable {sn : Nat} {sf : Nat → Int32}
set_option maxRecDepth 20000 in
theorem n7e (d : Nat) : aEnd (aStep (aRun true (d + 3)) aCls [] aB_X7_init none true) (70, [some (.ref 8)], [], aS0 sn sf ++ (kh [.ref 9, .ref 12, .ref 182, .ref 189, .ref 210, .ref 231, .int 0, .int 0] 8 ++ (bk 8 ++ (t4 182 ++ (aWk 189 w0 ++ (aWk 210 w0 ++ (aWk 231 w0)))))), (243, 5823)) (.inl none, aS0 sn sf ++ T7, (243, 5823)) := by
  refine aUn_end (stop := fun p => false) 60 ?_
  exact rfl
set_option maxRecDepth 20000 in
theorem n7_0 (d : Nat) {r : aR} (h : aEnd (aStep (aRun true (d + 3)) aCls [] aB_X7_init none true) (37, [some (.ref 8)], [], aS0 sn sf ++ (kh [.ref 9, .ref 12, .ref 182, .null, .null, .null, .int 0, .int 0] 8 ++ (bk 8 ++ (t4 182))), (180, 4281)) r) : aEnd (aStep (aRun true (d + 3)) aCls [] aB_X7_init none true) (26, [some (.ref 8)], [], aS0 sn sf ++ (kh [.ref 9, .ref 12, .null, .null, .null, .null, .int 0, .int 0] 8 ++ (bk 8)), (173, 4132)) r := by
  have h1 : aRun true (d + 3) m_X4_init [.ref 182] (aS0 sn sf ++ ((kh [.ref 9, .ref 12, .null, .null, .null, .null, .int 0, .int 0] 8 ++ (bk 8)) ++ [nCl 4])) = some (.inl none, aS0 sn sf ++ ((kh [.ref 9, .ref 12, .null, .null, .null, .null, .int 0, .int 0] 8 ++ (bk 8)) ++ t4 182), (6, 143)) := ni4_at (d + 2) rfl
  refine aUn_end (stop := fun p => p == 37) 60 ?_
  refine Exists.intro 182 (And.intro rfl ?_)
  refine Exists.intro _ (And.intro h1 ?_)
  exact h
set_option maxRecDepth 20000 in
theorem n7_1 (d : Nat) {r : aR} (h : aEnd (aStep (aRun true (d + 3)) aCls [] aB_X7_init none true) (48, [some (.ref 8)], [], aS0 sn sf ++ (kh [.ref 9, .ref 12, .ref 182, .ref 189, .null, .null, .int 0, .int 0] 8 ++ (bk 8 ++ (t4 182 ++ (aWk 189 w0)))), (201, 4795)) r) : aEnd (aStep (aRun true (d + 3)) aCls [] aB_X7_init none true) (37, [some (.ref 8)], [], aS0 sn sf ++ (kh [.ref 9, .ref 12, .ref 182, .null, .null, .null, .int 0, .int 0] 8 ++ (bk 8 ++ (t4 182))), (180, 4281)) r := by
  have h1 : aRun true (d + 3) m_X6_init [.ref 189] (aS0 sn sf ++ ((kh [.ref 9, .ref 12, .ref 182, .null, .null, .null, .int 0, .int 0] 8 ++ (bk 8 ++ (t4 182))) ++ [nCl 6])) = some (.inl none, aS0 sn sf ++ ((kh [.ref 9, .ref 12, .ref 182, .null, .null, .null, .int 0, .int 0] 8 ++ (bk 8 ++ (t4 182))) ++ aWk 189 w0), (20, 506)) := ni6_at (d + 1) rfl
  refine aUn_end (stop := fun p => p == 48) 60 ?_
  refine Exists.intro 189 (And.intro rfl ?_)
  refine Exists.intro _ (And.intro h1 ?_)
  exact h
set_option maxRecDepth 20000 in
theorem n7_2 (d : Nat) {r : aR} (h : aEnd (aStep (aRun true (d + 3)) aCls [] aB_X7_init none true) (59, [some (.ref 8)], [], aS0 sn sf ++ (kh [.ref 9, .ref 12, .ref 182, .ref 189, .ref 210, .null, .int 0, .int 0] 8 ++ (bk 8 ++ (t4 182 ++ (aWk 189 w0 ++ (aWk 210 w0))))), (222, 5309)) r) : aEnd (aStep (aRun true (d + 3)) aCls [] aB_X7_init none true) (48, [some (.ref 8)], [], aS0 sn sf ++ (kh [.ref 9, .ref 12, .ref 182, .ref 189, .null, .null, .int 0, .int 0] 8 ++ (bk 8 ++ (t4 182 ++ (aWk 189 w0)))), (201, 4795)) r := by
  have h1 : aRun true (d + 3) m_X6_init [.ref 210] (aS0 sn sf ++ ((kh [.ref 9, .ref 12, .ref 182, .ref 189, .null, .null, .int 0, .int 0] 8 ++ (bk 8 ++ (t4 182 ++ (aWk 189 w0)))) ++ [nCl 6])) = some (.inl none, aS0 sn sf ++ ((kh [.ref 9, .ref 12, .ref 182, .ref 189, .null, .null, .int 0, .int 0] 8 ++ (bk 8 ++ (t4 182 ++ (aWk 189 w0)))) ++ aWk 210 w0), (20, 506)) := ni6_at (d + 1) rfl
  refine aUn_end (stop := fun p => p == 59) 60 ?_
  refine Exists.intro 210 (And.intro rfl ?_)
  refine Exists.intro _ (And.intro h1 ?_)
  exact h
set_option maxRecDepth 20000 in
theorem n7_3 (d : Nat) {r : aR} (h : aEnd (aStep (aRun true (d + 3)) aCls [] aB_X7_init none true) (70, [some (.ref 8)], [], aS0 sn sf ++ (kh [.ref 9, .ref 12, .ref 182, .ref 189, .ref 210, .ref 231, .int 0, .int 0] 8 ++ (bk 8 ++ (t4 182 ++ (aWk 189 w0 ++ (aWk 210 w0 ++ (aWk 231 w0)))))), (243, 5823)) r) : aEnd (aStep (aRun true (d + 3)) aCls [] aB_X7_init none true) (59, [some (.ref 8)], [], aS0 sn sf ++ (kh [.ref 9, .ref 12, .ref 182, .ref 189, .ref 210, .null, .int 0, .int 0] 8 ++ (bk 8 ++ (t4 182 ++ (aWk 189 w0 ++ (aWk 210 w0))))), (222, 5309)) r := by
  have h1 : aRun true (d + 3) m_X6_init [.ref 231] (aS0 sn sf ++ ((kh [.ref 9, .ref 12, .ref 182, .ref 189, .ref 210, .null, .int 0, .int 0] 8 ++ (bk 8 ++ (t4 182 ++ (aWk 189 w0 ++ (aWk 210 w0))))) ++ [nCl 6])) = some (.inl none, aS0 sn sf ++ ((kh [.ref 9, .ref 12, .ref 182, .ref 189, .ref 210, .null, .int 0, .int 0] 8 ++ (bk 8 ++ (t4 182 ++ (aWk 189 w0 ++ (aWk 210 w0))))) ++ aWk 231 w0), (20, 506)) := ni6_at (d + 1) rfl
  refine aUn_end (stop := fun p => p == 70) 60 ?_
  refine Exists.intro 231 (And.intro rfl ?_)
  refine Exists.intro _ (And.intro h1 ?_)
  exact h
set_option maxRecDepth 20000 in
theorem n7 (d : Nat) : aRun true (d + 4) m_X7_init [.ref 8] (aS0 sn sf ++ [nCl 7]) = some (.inl none, aS0 sn sf ++ T7, (243, 5823)) := by
  have main := n7_0 (sn := sn) (sf := sf) d (n7_1 d (n7_2 d (n7_3 d (n7e d))))
  have h2 : aRun true (d + 3) m_X2_init [.ref 9] (aS0 sn sf ++ ([nCl 7] ++ [nCl 2])) = some (.inl none, aS0 sn sf ++ ([nCl 7] ++ t2 9), (2, 6)) := lift_x (S := aS0 sn sf) (b := 9) (by decide) rfl rfl (aS0_c _) (ni2 (d + 2))
  refine aRun_of rfl (aUn_end (stop := fun p => p == 26) 60 ?_)
  refine Exists.intro 9 (And.intro rfl ?_)
  refine Exists.intro _ (And.intro h2 ?_)
  refine Exists.intro 12 (And.intro rfl ?_)
  refine Exists.intro _ (And.intro (ni0 d) ?_)
  exact main
end IL
