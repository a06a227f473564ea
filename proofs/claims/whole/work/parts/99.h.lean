/-! MAKING CELLS: the kiln and the model -/
def rgU : Nat → Nat → Option Nat
  | 0 => fun _ => none
  | j + 1 => va_up (rgU j) j (some (14 + 21 * j))
def rgC (j : Nat) : aC := (true, .inl (.object RX6, 8, .inr (.inr (.inr (.inr (rgU j))))))
/-- the kiln's head: its object, reasons, history, ring -/
def kh (f : List Value) (j : Nat) : aH := [aOj 7 f, aOj 2 [.int 0, .ref 10, .ref 11], aAi 3 z0, aAi 3 z0, aOj 0 [.int 0, .int 0, .ref 13], rgC j]
def bk : Nat → aH
  | 0 => []
  | j + 1 => bk j ++ aWk (14 + 21 * j) w0
def t8 (b : Nat) : aH := [aOj 8 [.ref (b + 1), .ref (b + 2), .ref (b + 3), .ref (b + 4), .int 0, .ref (b + 5), .int 0, .int 0, .ref (b + 6), .ref (b + 7), .int 0, .ref (b + 8), .int 0, .int 0, .int 0, .int (-1), .ref (b + 9), .int 0],
  aAi 495 st0, aAi 495 z0, aAi 495 z0, aAi 495 z0, aAi 3960 z0, aAi 3 z0, aAi 3 z0, ch0 60, aAi 240 z0]
section IK
variable {sn : Nat} {sf : Nat → Int32} {Q : aH} {b : Nat} {f : List Value}
theorem bk_len : ∀ j, (bk j).length = 21 * j
  | 0 => rfl
  | j + 1 => by
    show (bk j ++ aWk (14 + 21 * j) w0).length = _
    rw [List.length_append, bk_len j, aWk_len]
    omega
theorem ni8c (d : Nat) : aEnd (aStep (aRun true d) aCls [] aB_X8_init none true) (85, [some (.ref 8)], [], aS0 sn sf ++ [aOj 8 [.ref 9, .ref 10, .ref 11, .ref 12, .int 0, .ref 13, .int 0, .int 0, .ref 14, .ref 15, .int 0, .ref 16, .int 0, .int 0, .int 0, .int (-1), .ref 17, .int 0], aAi 495 z0, aAi 495 z0, aAi 495 z0, aAi 495 z0, aAi 3960 z0, aAi 3 z0, aAi 3 z0, ch0 60, aAi 240 z0], (9, 6246)) (.inl none, aS0 sn sf ++ t8 8, (9, 6246)) := by
  refine aUn_end (stop := fun p => false) 60 ?_
  refine Exists.intro 0 (And.intro (show aIx 0 495 = some 0 from aIx_of rfl (by omega) (by omega)) ?_)
  refine Exists.intro 1 (And.intro (show aIx 1 495 = some 1 from aIx_of rfl (by omega) (by omega)) ?_)
  refine Exists.intro 2 (And.intro (show aIx 2 495 = some 2 from aIx_of rfl (by omega) (by omega)) ?_)
  exact rfl
theorem ni8b (d : Nat) {r : aR} (h : aEnd (aStep (aRun true d) aCls [] aB_X8_init none true) (85, [some (.ref 8)], [], aS0 sn sf ++ [aOj 8 [.ref 9, .ref 10, .ref 11, .ref 12, .int 0, .ref 13, .int 0, .int 0, .ref 14, .ref 15, .int 0, .ref 16, .int 0, .int 0, .int 0, .int (-1), .ref 17, .int 0], aAi 495 z0, aAi 495 z0, aAi 495 z0, aAi 495 z0, aAi 3960 z0, aAi 3 z0, aAi 3 z0, ch0 60, aAi 240 z0], (9, 6246)) r) : aEnd (aStep (aRun true d) aCls [] aB_X8_init none true) (49, [some (.ref 8)], [], aS0 sn sf ++ [aOj 8 [.ref 9, .ref 10, .ref 11, .ref 12, .int 0, .ref 13, .int 0, .int 0, .null, .null, .int 0, .null, .int 0, .int 0, .int 0, .int 0, .null, .int 0], aAi 495 z0, aAi 495 z0, aAi 495 z0, aAi 495 z0, aAi 3960 z0], (5, 5940)) r := by
  refine aUn_end (stop := fun p => p == 85) 60 ?_
  refine Exists.intro 3 (Exists.intro 14 (And.intro rfl (And.intro (by omega) (And.intro rfl ?_))))
  refine Exists.intro 3 (Exists.intro 15 (And.intro rfl (And.intro (by omega) (And.intro rfl ?_))))
  refine Exists.intro 60 (Exists.intro 16 (And.intro rfl (And.intro (by omega) (And.intro rfl ?_))))
  refine Exists.intro 240 (Exists.intro 17 (And.intro rfl (And.intro (by omega) (And.intro rfl ?_))))
  exact h
theorem ni8 (d : Nat) : aRun true (d + 1) m_X8_init [.ref 8] (aS0 sn sf ++ [nw 8]) = some (.inl none, aS0 sn sf ++ t8 8, (9, 6246)) := by
  have h := ni8b (sn := sn) (sf := sf) d (ni8c d)
  refine aRun_of rfl (aUn_end (stop := fun p => p == 49) 60 ?_)
  refine Exists.intro 495 (Exists.intro 9 (And.intro rfl (And.intro (by omega) (And.intro rfl ?_))))
  refine Exists.intro 495 (Exists.intro 10 (And.intro rfl (And.intro (by omega) (And.intro rfl ?_))))
  refine Exists.intro 495 (Exists.intro 11 (And.intro rfl (And.intro (by omega) (And.intro rfl ?_))))
  refine Exists.intro 495 (Exists.intro 12 (And.intro rfl (And.intro (by omega) (And.intro rfl ?_))))
  refine Exists.intro 3960 (Exists.intro 13 (And.intro rfl (And.intro (by omega) (And.intro rfl ?_))))
  exact h
set_option maxRecDepth 20000 in
theorem x0s_0 (d : Nat) {r : aR} {c1 c2 : Nat} (h : aEnd (aStep (aRun true (d + 2)) aCls [] aB_X0_init none true) (15, [some (.ref 12), some (.int 1)], [], aS0 sn sf ++ (kh f 1 ++ bk 1), (c1 + 21, c2 + 514)) r) : aEnd (aStep (aRun true (d + 2)) aCls [] aB_X0_init none true) (15, [some (.ref 12), some (.int 0)], [], aS0 sn sf ++ (kh f 0 ++ bk 0), (c1, c2)) r := by
  have h6 : aRun true (d + 2) m_X6_init [.ref 14] (aS0 sn sf ++ ((kh f 0 ++ bk 0) ++ [nw 6])) = some (.inl none, aS0 sn sf ++ ((kh f 0 ++ bk 0) ++ aWk 14 w0), (20, 506)) := ni6_at d (by rw [List.length_append, bk_len]; rfl)
  refine aUn_end (stop := fun p => p == 15) 60 ?_
  refine Exists.intro 14 (And.intro rfl ?_)
  refine Exists.intro _ (And.intro h6 ?_)
  exact h
set_option maxRecDepth 20000 in
theorem x0s_1 (d : Nat) {r : aR} {c1 c2 : Nat} (h : aEnd (aStep (aRun true (d + 2)) aCls [] aB_X0_init none true) (15, [some (.ref 12), some (.int 2)], [], aS0 sn sf ++ (kh f 2 ++ bk 2), (c1 + 21, c2 + 514)) r) : aEnd (aStep (aRun true (d + 2)) aCls [] aB_X0_init none true) (15, [some (.ref 12), some (.int 1)], [], aS0 sn sf ++ (kh f 1 ++ bk 1), (c1, c2)) r := by
  have h6 : aRun true (d + 2) m_X6_init [.ref 35] (aS0 sn sf ++ ((kh f 1 ++ bk 1) ++ [nw 6])) = some (.inl none, aS0 sn sf ++ ((kh f 1 ++ bk 1) ++ aWk 35 w0), (20, 506)) := ni6_at d (by rw [List.length_append, bk_len]; rfl)
  refine aUn_end (stop := fun p => p == 15) 60 ?_
  refine Exists.intro 35 (And.intro rfl ?_)
  refine Exists.intro _ (And.intro h6 ?_)
  exact h
set_option maxRecDepth 20000 in
theorem x0s_2 (d : Nat) {r : aR} {c1 c2 : Nat} (h : aEnd (aStep (aRun true (d + 2)) aCls [] aB_X0_init none true) (15, [some (.ref 12), some (.int 3)], [], aS0 sn sf ++ (kh f 3 ++ bk 3), (c1 + 21, c2 + 514)) r) : aEnd (aStep (aRun true (d + 2)) aCls [] aB_X0_init none true) (15, [some (.ref 12), some (.int 2)], [], aS0 sn sf ++ (kh f 2 ++ bk 2), (c1, c2)) r := by
  have h6 : aRun true (d + 2) m_X6_init [.ref 56] (aS0 sn sf ++ ((kh f 2 ++ bk 2) ++ [nw 6])) = some (.inl none, aS0 sn sf ++ ((kh f 2 ++ bk 2) ++ aWk 56 w0), (20, 506)) := ni6_at d (by rw [List.length_append, bk_len]; rfl)
  refine aUn_end (stop := fun p => p == 15) 60 ?_
  refine Exists.intro 56 (And.intro rfl ?_)
  refine Exists.intro _ (And.intro h6 ?_)
  exact h
set_option maxRecDepth 20000 in
theorem x0s_3 (d : Nat) {r : aR} {c1 c2 : Nat} (h : aEnd (aStep (aRun true (d + 2)) aCls [] aB_X0_init none true) (15, [some (.ref 12), some (.int 4)], [], aS0 sn sf ++ (kh f 4 ++ bk 4), (c1 + 21, c2 + 514)) r) : aEnd (aStep (aRun true (d + 2)) aCls [] aB_X0_init none true) (15, [some (.ref 12), some (.int 3)], [], aS0 sn sf ++ (kh f 3 ++ bk 3), (c1, c2)) r := by
  have h6 : aRun true (d + 2) m_X6_init [.ref 77] (aS0 sn sf ++ ((kh f 3 ++ bk 3) ++ [nw 6])) = some (.inl none, aS0 sn sf ++ ((kh f 3 ++ bk 3) ++ aWk 77 w0), (20, 506)) := ni6_at d (by rw [List.length_append, bk_len]; rfl)
  refine aUn_end (stop := fun p => p == 15) 60 ?_
  refine Exists.intro 77 (And.intro rfl ?_)
  refine Exists.intro _ (And.intro h6 ?_)
  exact h
set_option maxRecDepth 20000 in
theorem x0s_4 (d : Nat) {r : aR} {c1 c2 : Nat} (h : aEnd (aStep (aRun true (d + 2)) aCls [] aB_X0_init none true) (15, [some (.ref 12), some (.int 5)], [], aS0 sn sf ++ (kh f 5 ++ bk 5), (c1 + 21, c2 + 514)) r) : aEnd (aStep (aRun true (d + 2)) aCls [] aB_X0_init none true) (15, [some (.ref 12), some (.int 4)], [], aS0 sn sf ++ (kh f 4 ++ bk 4), (c1, c2)) r := by
  have h6 : aRun true (d + 2) m_X6_init [.ref 98] (aS0 sn sf ++ ((kh f 4 ++ bk 4) ++ [nw 6])) = some (.inl none, aS0 sn sf ++ ((kh f 4 ++ bk 4) ++ aWk 98 w0), (20, 506)) := ni6_at d (by rw [List.length_append, bk_len]; rfl)
  refine aUn_end (stop := fun p => p == 15) 60 ?_
  refine Exists.intro 98 (And.intro rfl ?_)
  refine Exists.intro _ (And.intro h6 ?_)
  exact h
set_option maxRecDepth 20000 in
theorem x0s_5 (d : Nat) {r : aR} {c1 c2 : Nat} (h : aEnd (aStep (aRun true (d + 2)) aCls [] aB_X0_init none true) (15, [some (.ref 12), some (.int 6)], [], aS0 sn sf ++ (kh f 6 ++ bk 6), (c1 + 21, c2 + 514)) r) : aEnd (aStep (aRun true (d + 2)) aCls [] aB_X0_init none true) (15, [some (.ref 12), some (.int 5)], [], aS0 sn sf ++ (kh f 5 ++ bk 5), (c1, c2)) r := by
  have h6 : aRun true (d + 2) m_X6_init [.ref 119] (aS0 sn sf ++ ((kh f 5 ++ bk 5) ++ [nw 6])) = some (.inl none, aS0 sn sf ++ ((kh f 5 ++ bk 5) ++ aWk 119 w0), (20, 506)) := ni6_at d (by rw [List.length_append, bk_len]; rfl)
  refine aUn_end (stop := fun p => p == 15) 60 ?_
  refine Exists.intro 119 (And.intro rfl ?_)
  refine Exists.intro _ (And.intro h6 ?_)
  exact h
set_option maxRecDepth 20000 in
theorem x0s_6 (d : Nat) {r : aR} {c1 c2 : Nat} (h : aEnd (aStep (aRun true (d + 2)) aCls [] aB_X0_init none true) (15, [some (.ref 12), some (.int 7)], [], aS0 sn sf ++ (kh f 7 ++ bk 7), (c1 + 21, c2 + 514)) r) : aEnd (aStep (aRun true (d + 2)) aCls [] aB_X0_init none true) (15, [some (.ref 12), some (.int 6)], [], aS0 sn sf ++ (kh f 6 ++ bk 6), (c1, c2)) r := by
  have h6 : aRun true (d + 2) m_X6_init [.ref 140] (aS0 sn sf ++ ((kh f 6 ++ bk 6) ++ [nw 6])) = some (.inl none, aS0 sn sf ++ ((kh f 6 ++ bk 6) ++ aWk 140 w0), (20, 506)) := ni6_at d (by rw [List.length_append, bk_len]; rfl)
  refine aUn_end (stop := fun p => p == 15) 60 ?_
  refine Exists.intro 140 (And.intro rfl ?_)
  refine Exists.intro _ (And.intro h6 ?_)
  exact h
set_option maxRecDepth 20000 in
theorem x0s_7 (d : Nat) {r : aR} {c1 c2 : Nat} (h : aEnd (aStep (aRun true (d + 2)) aCls [] aB_X0_init none true) (15, [some (.ref 12), some (.int 8)], [], aS0 sn sf ++ (kh f 8 ++ bk 8), (c1 + 21, c2 + 514)) r) : aEnd (aStep (aRun true (d + 2)) aCls [] aB_X0_init none true) (15, [some (.ref 12), some (.int 7)], [], aS0 sn sf ++ (kh f 7 ++ bk 7), (c1, c2)) r := by
  have h6 : aRun true (d + 2) m_X6_init [.ref 161] (aS0 sn sf ++ ((kh f 7 ++ bk 7) ++ [nw 6])) = some (.inl none, aS0 sn sf ++ ((kh f 7 ++ bk 7) ++ aWk 161 w0), (20, 506)) := ni6_at d (by rw [List.length_append, bk_len]; rfl)
  refine aUn_end (stop := fun p => p == 15) 60 ?_
  refine Exists.intro 161 (And.intro rfl ?_)
  refine Exists.intro _ (And.intro h6 ?_)
  exact h
set_option maxRecDepth 20000 in
theorem ni0 (d : Nat) : aRun true (d + 3) m_X0_init [.ref 12] (aS0 sn sf ++ ([aOj 7 f, aOj 2 [.int 0, .ref 10, .ref 11], aAi 3 z0, aAi 3 z0] ++ [nw 0])) = some (.inl none, aS0 sn sf ++ (kh f 8 ++ bk 8), (169, 4120)) := by
  have e : aEnd (aStep (aRun true (d + 2)) aCls [] aB_X0_init none true) (15, [some (.ref 12), some (.int 8)], [], aS0 sn sf ++ (kh f 8 ++ bk 8), (1 + 21 + 21 + 21 + 21 + 21 + 21 + 21 + 21, 8 + 514 + 514 + 514 + 514 + 514 + 514 + 514 + 514)) (.inl none, aS0 sn sf ++ (kh f 8 ++ bk 8), (169, 4120)) := by
    refine aUn_end (stop := fun p => false) 60 ?_
    exact rfl
  refine aRun_of rfl (aUn_end (stop := fun p => p == 15) 60 ?_)
  refine Exists.intro 8 (Exists.intro 13 (And.intro rfl (And.intro (by omega) (And.intro rfl ?_))))
  exact x0s_0 d (x0s_1 d (x0s_2 d (x0s_3 d (x0s_4 d (x0s_5 d (x0s_6 d (x0s_7 d e)))))))
end IK
