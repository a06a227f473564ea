/-! MAKING CELLS: the kiln and the model -/
def rgU : Nat → Nat → Option Nat
  | 0 => fun _ => none
  | j + 1 => va_up (rgU j) j (some (14 + 21 * j))
def rgC (j : Nat) : aC := (true, .inl (.object RX6, 8, .inr (.inr (.inr (.inr (rgU j))))))
/-- the kiln's head: its object, reasons, history, ring -/
def kh (f : List Value) (j : Nat) : aH := [aOj 7 f, aOj 2 [.int 0, .ref 10, .ref 11], aAi 3 zr0, aAi 3 zr0, aOj 0 [.int 0, .int 0, .ref 13], rgC j]
def bk : Nat → aH
  | 0 => []
  | j + 1 => bk j ++ aWk (14 + 21 * j) w0
section IK
variable {sn : Nat} {sf : Nat → Int32} {Q : aH} {b : Nat} {f : List Value}
theorem bk_len : ∀ j, (bk j).length = 21 * j
  | 0 => rfl
  | j + 1 => by
    show (bk j ++ aWk (14 + 21 * j) w0).length = _
    rw [List.length_append, bk_len j, aWk_len]
    omega
set_option maxRecDepth 20000 in
theorem x0s_0 (d : Nat) {r : aR} {c1 c2 : Nat} (h : aEnd (aStep (aRun true (d + 2)) aCls [] aB_X0_init none true) (15, [some (.ref 12), some (.int 1)], [], aS0 sn sf ++ (kh f 1 ++ bk 1), (c1 + 21, c2 + 514)) r) : aEnd (aStep (aRun true (d + 2)) aCls [] aB_X0_init none true) (15, [some (.ref 12), some (.int 0)], [], aS0 sn sf ++ (kh f 0 ++ bk 0), (c1, c2)) r := by
  have h6 : aRun true (d + 2) m_X6_init [.ref 14] (aS0 sn sf ++ ((kh f 0 ++ bk 0) ++ [nCl 6])) = some (.inl none, aS0 sn sf ++ ((kh f 0 ++ bk 0) ++ aWk 14 w0), (20, 506)) := ni6_at d (by rw [List.length_append, bk_len]; rfl)
  refine aUn_end (stop := fun p => p == 15) 60 ?_
  refine Exists.intro 14 (And.intro rfl ?_)
  refine Exists.intro _ (And.intro h6 ?_)
  exact h
set_option maxRecDepth 20000 in
theorem x0s_1 (d : Nat) {r : aR} {c1 c2 : Nat} (h : aEnd (aStep (aRun true (d + 2)) aCls [] aB_X0_init none true) (15, [some (.ref 12), some (.int 2)], [], aS0 sn sf ++ (kh f 2 ++ bk 2), (c1 + 21, c2 + 514)) r) : aEnd (aStep (aRun true (d + 2)) aCls [] aB_X0_init none true) (15, [some (.ref 12), some (.int 1)], [], aS0 sn sf ++ (kh f 1 ++ bk 1), (c1, c2)) r := by
  have h6 : aRun true (d + 2) m_X6_init [.ref 35] (aS0 sn sf ++ ((kh f 1 ++ bk 1) ++ [nCl 6])) = some (.inl none, aS0 sn sf ++ ((kh f 1 ++ bk 1) ++ aWk 35 w0), (20, 506)) := ni6_at d (by rw [List.length_append, bk_len]; rfl)
  refine aUn_end (stop := fun p => p == 15) 60 ?_
  refine Exists.intro 35 (And.intro rfl ?_)
  refine Exists.intro _ (And.intro h6 ?_)
  exact h
set_option maxRecDepth 20000 in
theorem x0s_2 (d : Nat) {r : aR} {c1 c2 : Nat} (h : aEnd (aStep (aRun true (d + 2)) aCls [] aB_X0_init none true) (15, [some (.ref 12), some (.int 3)], [], aS0 sn sf ++ (kh f 3 ++ bk 3), (c1 + 21, c2 + 514)) r) : aEnd (aStep (aRun true (d + 2)) aCls [] aB_X0_init none true) (15, [some (.ref 12), some (.int 2)], [], aS0 sn sf ++ (kh f 2 ++ bk 2), (c1, c2)) r := by
  have h6 : aRun true (d + 2) m_X6_init [.ref 56] (aS0 sn sf ++ ((kh f 2 ++ bk 2) ++ [nCl 6])) = some (.inl none, aS0 sn sf ++ ((kh f 2 ++ bk 2) ++ aWk 56 w0), (20, 506)) := ni6_at d (by rw [List.length_append, bk_len]; rfl)
  refine aUn_end (stop := fun p => p == 15) 60 ?_
  refine Exists.intro 56 (And.intro rfl ?_)
  refine Exists.intro _ (And.intro h6 ?_)
  exact h
set_option maxRecDepth 20000 in
theorem x0s_3 (d : Nat) {r : aR} {c1 c2 : Nat} (h : aEnd (aStep (aRun true (d + 2)) aCls [] aB_X0_init none true) (15, [some (.ref 12), some (.int 4)], [], aS0 sn sf ++ (kh f 4 ++ bk 4), (c1 + 21, c2 + 514)) r) : aEnd (aStep (aRun true (d + 2)) aCls [] aB_X0_init none true) (15, [some (.ref 12), some (.int 3)], [], aS0 sn sf ++ (kh f 3 ++ bk 3), (c1, c2)) r := by
  have h6 : aRun true (d + 2) m_X6_init [.ref 77] (aS0 sn sf ++ ((kh f 3 ++ bk 3) ++ [nCl 6])) = some (.inl none, aS0 sn sf ++ ((kh f 3 ++ bk 3) ++ aWk 77 w0), (20, 506)) := ni6_at d (by rw [List.length_append, bk_len]; rfl)
  refine aUn_end (stop := fun p => p == 15) 60 ?_
  refine Exists.intro 77 (And.intro rfl ?_)
  refine Exists.intro _ (And.intro h6 ?_)
  exact h
set_option maxRecDepth 20000 in
theorem x0s_4 (d : Nat) {r : aR} {c1 c2 : Nat} (h : aEnd (aStep (aRun true (d + 2)) aCls [] aB_X0_init none true) (15, [some (.ref 12), some (.int 5)], [], aS0 sn sf ++ (kh f 5 ++ bk 5), (c1 + 21, c2 + 514)) r) : aEnd (aStep (aRun true (d + 2)) aCls [] aB_X0_init none true) (15, [some (.ref 12), some (.int 4)], [], aS0 sn sf ++ (kh f 4 ++ bk 4), (c1, c2)) r := by
  have h6 : aRun true (d + 2) m_X6_init [.ref 98] (aS0 sn sf ++ ((kh f 4 ++ bk 4) ++ [nCl 6])) = some (.inl none, aS0 sn sf ++ ((kh f 4 ++ bk 4) ++ aWk 98 w0), (20, 506)) := ni6_at d (by rw [List.length_append, bk_len]; rfl)
  refine aUn_end (stop := fun p => p == 15) 60 ?_
  refine Exists.intro 98 (And.intro rfl ?_)
  refine Exists.intro _ (And.intro h6 ?_)
  exact h
set_option maxRecDepth 20000 in
theorem x0s_5 (d : Nat) {r : aR} {c1 c2 : Nat} (h : aEnd (aStep (aRun true (d + 2)) aCls [] aB_X0_init none true) (15, [some (.ref 12), some (.int 6)], [], aS0 sn sf ++ (kh f 6 ++ bk 6), (c1 + 21, c2 + 514)) r) : aEnd (aStep (aRun true (d + 2)) aCls [] aB_X0_init none true) (15, [some (.ref 12), some (.int 5)], [], aS0 sn sf ++ (kh f 5 ++ bk 5), (c1, c2)) r := by
  have h6 : aRun true (d + 2) m_X6_init [.ref 119] (aS0 sn sf ++ ((kh f 5 ++ bk 5) ++ [nCl 6])) = some (.inl none, aS0 sn sf ++ ((kh f 5 ++ bk 5) ++ aWk 119 w0), (20, 506)) := ni6_at d (by rw [List.length_append, bk_len]; rfl)
  refine aUn_end (stop := fun p => p == 15) 60 ?_
  refine Exists.intro 119 (And.intro rfl ?_)
  refine Exists.intro _ (And.intro h6 ?_)
  exact h
set_option maxRecDepth 20000 in
theorem x0s_6 (d : Nat) {r : aR} {c1 c2 : Nat} (h : aEnd (aStep (aRun true (d + 2)) aCls [] aB_X0_init none true) (15, [some (.ref 12), some (.int 7)], [], aS0 sn sf ++ (kh f 7 ++ bk 7), (c1 + 21, c2 + 514)) r) : aEnd (aStep (aRun true (d + 2)) aCls [] aB_X0_init none true) (15, [some (.ref 12), some (.int 6)], [], aS0 sn sf ++ (kh f 6 ++ bk 6), (c1, c2)) r := by
  have h6 : aRun true (d + 2) m_X6_init [.ref 140] (aS0 sn sf ++ ((kh f 6 ++ bk 6) ++ [nCl 6])) = some (.inl none, aS0 sn sf ++ ((kh f 6 ++ bk 6) ++ aWk 140 w0), (20, 506)) := ni6_at d (by rw [List.length_append, bk_len]; rfl)
  refine aUn_end (stop := fun p => p == 15) 60 ?_
  refine Exists.intro 140 (And.intro rfl ?_)
  refine Exists.intro _ (And.intro h6 ?_)
  exact h
set_option maxRecDepth 20000 in
theorem x0s_7 (d : Nat) {r : aR} {c1 c2 : Nat} (h : aEnd (aStep (aRun true (d + 2)) aCls [] aB_X0_init none true) (15, [some (.ref 12), some (.int 8)], [], aS0 sn sf ++ (kh f 8 ++ bk 8), (c1 + 21, c2 + 514)) r) : aEnd (aStep (aRun true (d + 2)) aCls [] aB_X0_init none true) (15, [some (.ref 12), some (.int 7)], [], aS0 sn sf ++ (kh f 7 ++ bk 7), (c1, c2)) r := by
  have h6 : aRun true (d + 2) m_X6_init [.ref 161] (aS0 sn sf ++ ((kh f 7 ++ bk 7) ++ [nCl 6])) = some (.inl none, aS0 sn sf ++ ((kh f 7 ++ bk 7) ++ aWk 161 w0), (20, 506)) := ni6_at d (by rw [List.length_append, bk_len]; rfl)
  refine aUn_end (stop := fun p => p == 15) 60 ?_
  refine Exists.intro 161 (And.intro rfl ?_)
  refine Exists.intro _ (And.intro h6 ?_)
  exact h
set_option maxRecDepth 20000 in
theorem ni0 (d : Nat) : aRun true (d + 3) m_X0_init [.ref 12] (aS0 sn sf ++ ([aOj 7 f, aOj 2 [.int 0, .ref 10, .ref 11], aAi 3 zr0, aAi 3 zr0] ++ [nCl 0])) = some (.inl none, aS0 sn sf ++ (kh f 8 ++ bk 8), (169, 4120)) := by
  have e : aEnd (aStep (aRun true (d + 2)) aCls [] aB_X0_init none true) (15, [some (.ref 12), some (.int 8)], [], aS0 sn sf ++ (kh f 8 ++ bk 8), (1 + 21 + 21 + 21 + 21 + 21 + 21 + 21 + 21, 8 + 514 + 514 + 514 + 514 + 514 + 514 + 514 + 514)) (.inl none, aS0 sn sf ++ (kh f 8 ++ bk 8), (169, 4120)) := by
    refine aUn_end (stop := fun p => false) 60 ?_
    exact rfl
  refine aRun_of rfl (aUn_end (stop := fun p => p == 15) 60 ?_)
  refine Exists.intro 8 (Exists.intro 13 (And.intro rfl (And.intro (by omega) (And.intro rfl ?_))))
  exact x0s_0 d (x0s_1 d (x0s_2 d (x0s_3 d (x0s_4 d (x0s_5 d (x0s_6 d (x0s_7 d e)))))))
end IK
