/-! MAKING CELLS: the constructors -/
def zr0 : Nat → Int32 := fun _ => 0
def st0 : Nat → Int32 := upd (upd (upd (fun _ => 0) 0 3) 1 40) 2 16
def w0 : aW := fun a => match a with
  | 0 => st0
  | _ => fun _ => 0
def nCl (a : Nat) : aC := (true, .inr (a, (List.range (aNf a)).map fun j => defaultValue (aTy a j)))
def ch0 (n : Nat) : aC := (true, .inl (.char, n, .inl zr0))
def t5 (b : Nat) : aH := [aOj 5 [.int 0, .ref (b + 1), .ref (b + 2), .ref (b + 3), .ref (b + 4), .ref (b + 5), .ref (b + 6), .ref (b + 7)], aAi 60 zr0, aAi 60 zr0, aAi 60 zr0, aAi 60 zr0, aAi 60 zr0, aAi 60 zr0, aAi 60 zr0]
def t3 (b : Nat) : aH := [aOj 3 [.int 0, .ref (b + 1), .ref (b + 2)], aAi 8 zr0, aAi 8 zr0]
def t1 (b : Nat) : aH := [aOj 1 [.int 0, .ref (b + 1), .ref (b + 2), .ref (b + 3), .ref (b + 4)], aAi 6 zr0, aAi 6 zr0, aAi 6 zr0, aAi 24 zr0]
def t2 (b : Nat) : aH := [aOj 2 [.int 0, .ref (b + 1), .ref (b + 2)], aAi 3 zr0, aAi 3 zr0]
def t4 (b : Nat) : aH := [aOj 4 [.int 0, .int 0, .ref (b + 1), .ref (b + 2), .ref (b + 6), .int 0], ch0 20, (true, .inl (.array .int, 3, .inr (.inr (.inr (.inr fun i => if i < 3 then some (b + 3 + i) else none))))), aAi 20 zr0, aAi 20 zr0, aAi 20 zr0, ch0 60]
section IN
variable {sn : Nat} {sf : Nat → Int32} {Q : aH} {b : Nat}
theorem ni5 (d : Nat) : aRun true (d + 1) m_X5_init [.ref 8] (aS0 sn sf ++ [nCl 5]) = some (.inl none, aS0 sn sf ++ t5 8, (7, 420)) := by
  refine aRun_of rfl (aUn_end (stop := fun p => false) 80 ?_)
  refine Exists.intro 60 (Exists.intro 9 (And.intro rfl (And.intro (by omega) (And.intro rfl ?_))))
  refine Exists.intro 60 (Exists.intro 10 (And.intro rfl (And.intro (by omega) (And.intro rfl ?_))))
  refine Exists.intro 60 (Exists.intro 11 (And.intro rfl (And.intro (by omega) (And.intro rfl ?_))))
  refine Exists.intro 60 (Exists.intro 12 (And.intro rfl (And.intro (by omega) (And.intro rfl ?_))))
  refine Exists.intro 60 (Exists.intro 13 (And.intro rfl (And.intro (by omega) (And.intro rfl ?_))))
  refine Exists.intro 60 (Exists.intro 14 (And.intro rfl (And.intro (by omega) (And.intro rfl ?_))))
  refine Exists.intro 60 (Exists.intro 15 (And.intro rfl (And.intro (by omega) (And.intro rfl ?_))))
  exact rfl
theorem ni3 (d : Nat) : aRun true (d + 1) m_X3_init [.ref 8] (aS0 sn sf ++ [nCl 3]) = some (.inl none, aS0 sn sf ++ t3 8, (2, 16)) := by
  refine aRun_of rfl (aUn_end (stop := fun p => false) 80 ?_)
  refine Exists.intro 8 (Exists.intro 9 (And.intro rfl (And.intro (by omega) (And.intro rfl ?_))))
  refine Exists.intro 8 (Exists.intro 10 (And.intro rfl (And.intro (by omega) (And.intro rfl ?_))))
  exact rfl
theorem ni1 (d : Nat) : aRun true (d + 1) m_X1_init [.ref 8] (aS0 sn sf ++ [nCl 1]) = some (.inl none, aS0 sn sf ++ t1 8, (4, 42)) := by
  refine aRun_of rfl (aUn_end (stop := fun p => false) 80 ?_)
  refine Exists.intro 6 (Exists.intro 9 (And.intro rfl (And.intro (by omega) (And.intro rfl ?_))))
  refine Exists.intro 6 (Exists.intro 10 (And.intro rfl (And.intro (by omega) (And.intro rfl ?_))))
  refine Exists.intro 6 (Exists.intro 11 (And.intro rfl (And.intro (by omega) (And.intro rfl ?_))))
  refine Exists.intro 24 (Exists.intro 12 (And.intro rfl (And.intro (by omega) (And.intro rfl ?_))))
  exact rfl
theorem ni2 (d : Nat) : aRun true (d + 1) m_X2_init [.ref 8] (aS0 sn sf ++ [nCl 2]) = some (.inl none, aS0 sn sf ++ t2 8, (2, 6)) := by
  refine aRun_of rfl (aUn_end (stop := fun p => false) 80 ?_)
  refine Exists.intro 3 (Exists.intro 9 (And.intro rfl (And.intro (by omega) (And.intro rfl ?_))))
  refine Exists.intro 3 (Exists.intro 10 (And.intro rfl (And.intro (by omega) (And.intro rfl ?_))))
  exact rfl
theorem ni4 (d : Nat) : aRun true (d + 1) m_X4_init [.ref 8] (aS0 sn sf ++ [nCl 4]) = some (.inl none, aS0 sn sf ++ t4 8, (6, 143)) := by
  refine aRun_of rfl (aUn_end (stop := fun p => false) 80 ?_)
  refine Exists.intro 20 (Exists.intro 9 (And.intro rfl (And.intro (by omega) (And.intro rfl ?_))))
  refine Exists.intro 60 (Exists.intro 14 (And.intro rfl (And.intro (by omega) (And.intro rfl ?_))))
  exact rfl
theorem ni6 (d : Nat) : aRun true (d + 2) m_X6_init [.ref 8] (aS0 sn sf ++ [nCl 6]) = some (.inl none, aS0 sn sf ++ aWk 8 w0, (20, 506)) := by
  have h5 : aRun true (d + 1) m_X5_init [.ref 10] (aS0 sn sf ++ (([aOj 6 [.null, .null, .null, .null, .ref 9, .int 0, .int 0, .int 0], aAi 3 st0]) ++ [nCl 5])) = some (.inl none, aS0 sn sf ++ (([aOj 6 [.null, .null, .null, .null, .ref 9, .int 0, .int 0, .int 0], aAi 3 st0]) ++ t5 10), (7, 420)) := lift_x (S := aS0 sn sf) (b := 10) (by decide) rfl rfl (aS0_c _) (ni5 d)
  have h3 : aRun true (d + 1) m_X3_init [.ref 18] (aS0 sn sf ++ (([aOj 6 [.ref 10, .null, .null, .null, .ref 9, .int 0, .int 0, .int 0], aAi 3 st0] ++ t5 10) ++ [nCl 3])) = some (.inl none, aS0 sn sf ++ (([aOj 6 [.ref 10, .null, .null, .null, .ref 9, .int 0, .int 0, .int 0], aAi 3 st0] ++ t5 10) ++ t3 18), (2, 16)) := lift_x (S := aS0 sn sf) (b := 18) (by decide) rfl rfl (aS0_c _) (ni3 d)
  have h1 : aRun true (d + 1) m_X1_init [.ref 21] (aS0 sn sf ++ (([aOj 6 [.ref 10, .ref 18, .null, .null, .ref 9, .int 0, .int 0, .int 0], aAi 3 st0] ++ (t5 10 ++ t3 18)) ++ [nCl 1])) = some (.inl none, aS0 sn sf ++ (([aOj 6 [.ref 10, .ref 18, .null, .null, .ref 9, .int 0, .int 0, .int 0], aAi 3 st0] ++ (t5 10 ++ t3 18)) ++ t1 21), (4, 42)) := lift_x (S := aS0 sn sf) (b := 21) (by decide) rfl rfl (aS0_c _) (ni1 d)
  have h2 : aRun true (d + 1) m_X2_init [.ref 26] (aS0 sn sf ++ (([aOj 6 [.ref 10, .ref 18, .ref 21, .null, .ref 9, .int 0, .int 0, .int 0], aAi 3 st0] ++ (t5 10 ++ (t3 18 ++ t1 21))) ++ [nCl 2])) = some (.inl none, aS0 sn sf ++ (([aOj 6 [.ref 10, .ref 18, .ref 21, .null, .ref 9, .int 0, .int 0, .int 0], aAi 3 st0] ++ (t5 10 ++ (t3 18 ++ t1 21))) ++ t2 26), (2, 6)) := lift_x (S := aS0 sn sf) (b := 26) (by decide) rfl rfl (aS0_c _) (ni2 d)
  refine aRun_of rfl (aUn_end (stop := fun p => false) 80 ?_)
  refine Exists.intro 3 (Exists.intro 9 (And.intro rfl (And.intro (by omega) (And.intro rfl ?_))))
  refine Exists.intro 0 (And.intro (show aIx 0 3 = some 0 from aIx_of rfl (by omega) (by omega)) ?_)
  refine Exists.intro 1 (And.intro (show aIx 1 3 = some 1 from aIx_of rfl (by omega) (by omega)) ?_)
  refine Exists.intro 2 (And.intro (show aIx 2 3 = some 2 from aIx_of rfl (by omega) (by omega)) ?_)
  refine Exists.intro 10 (And.intro rfl ?_)
  refine Exists.intro _ (And.intro h5 ?_)
  refine Exists.intro 18 (And.intro rfl ?_)
  refine Exists.intro _ (And.intro h3 ?_)
  refine Exists.intro 21 (And.intro rfl ?_)
  refine Exists.intro _ (And.intro h1 ?_)
  refine Exists.intro 26 (And.intro rfl ?_)
  refine Exists.intro _ (And.intro h2 ?_)
  exact rfl
theorem ni6_at (d : Nat) (hb : 8 + Q.length = b) : aRun true (d + 2) m_X6_init [.ref b] (aS0 sn sf ++ (Q ++ [nCl 6])) = some (.inl none, aS0 sn sf ++ (Q ++ aWk b w0), (20, 506)) := lift_x (S := aS0 sn sf) (b := b) (by decide) rfl hb (aS0_c _) (ni6 d)
theorem t4_mv : (t4 8).map (aCc (uW b)) = t4 b := by
  have e : (fun i => (if i < 3 then some (8 + 3 + i) else none : Option Nat).map (uW b)) = fun i => if i < 3 then some (b + 3 + i) else none := funext fun i => by
    by_cases c : i < 3
    · rw [if_pos c, if_pos c]
      show some (uW b (8 + 3 + i)) = _
      rw [show 8 + 3 + i = 8 + (3 + i) by omega, uW_hi, Nat.add_assoc]
    · rw [if_neg c, if_neg c]
      rfl
  show [_, _, (true, Sum.inl (FieldType.array FieldType.int, 3, Sum.inr (Sum.inr (Sum.inr (Sum.inr fun i => (if i < 3 then some (8 + 3 + i) else none : Option Nat).map (uW b)))))), _, _, _, _] = _
  rw [e]
  rfl
theorem ni4_at (d : Nat) (hb : 8 + Q.length = b) : aRun true (d + 1) m_X4_init [.ref b] (aS0 sn sf ++ (Q ++ [nCl 4])) = some (.inl none, aS0 sn sf ++ (Q ++ t4 b), (6, 143)) := by
  have h := lift_x (S := aS0 sn sf) (Q := Q) (b := b) (by decide) rfl hb (aS0_c _) (ni4 d)
  rw [t4_mv] at h
  exact h
end IN
