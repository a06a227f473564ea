/-! THE CLASS: a step of a text, by its verb -/
abbrev pI : Type := Int32 ⊕ (Nat × Nat × Nat)
def pIts (t : Nat → Int32) (L : Nat) : List pI → Nat → (Nat → Int32) → Bool × Nat × (Nat → Int32)
  | [], p, v => (true, p, v)
  | .inl c :: r, p, v => if p < L ∧ t p = c then pIts t L r (p + 1) v else (false, p, v)
  | .inr (pl, le, mo) :: r, p, v => if le ≤ (nRun t L mo p 0).2.2 then pIts t L r (nRun t L mo p 0).1 (upd v pl (nRun t L mo p 0).2.1) else (false, (nRun t L mo p 0).1, upd v pl (nRun t L mo p 0).2.1)
theorem pI_s {t : Nat → Int32} {L p : Nat} {c : Int32} {r : List pI} {v : Nat → Int32} (h : p < L ∧ t p = c) : pIts t L (.inl c :: r) p v = pIts t L r (p + 1) v := if_pos h
theorem pI_so {t : Nat → Int32} {L p : Nat} {c : Int32} {r : List pI} {v : Nat → Int32} (h : ¬ (p < L ∧ t p = c)) : pIts t L (.inl c :: r) p v = (false, p, v) := if_neg h
theorem pI_n {t : Nat → Int32} {L p pl le mo : Nat} {r : List pI} {v : Nat → Int32} (h : le ≤ (nRun t L mo p 0).2.2) : pIts t L (.inr (pl, le, mo) :: r) p v = pIts t L r (nRun t L mo p 0).1 (upd v pl (nRun t L mo p 0).2.1) := if_pos h
theorem pI_no {t : Nat → Int32} {L p pl le mo : Nat} {r : List pI} {v : Nat → Int32} (h : ¬ le ≤ (nRun t L mo p 0).2.2) : pIts t L (.inr (pl, le, mo) :: r) p v = (false, (nRun t L mo p 0).1, upd v pl (nRun t L mo p 0).2.1) := if_neg h
theorem pIts_pos (t : Nat → Int32) (L : Nat) : ∀ (l : List pI) (p : Nat) (v : Nat → Int32), p ≤ L → p ≤ (pIts t L l p v).2.1 ∧ (pIts t L l p v).2.1 ≤ L
  | [], p, v, h => ⟨Nat.le_refl _, h⟩
  | .inl c :: r, p, v, h => by
    by_cases q : p < L ∧ t p = c
    · rw [pI_s q]
      have := pIts_pos t L r (p + 1) v (by omega)
      omega
    · rw [pI_so q]
      exact ⟨Nat.le_refl _, h⟩
  | .inr (pl, le, mo) :: r, p, v, h => by
    have hr := nRun_le (t := t) (L := L) mo p 0 h
    by_cases q : le ≤ (nRun t L mo p 0).2.2
    · rw [pI_n q]
      have := pIts_pos t L r (nRun t L mo p 0).1 (upd v pl (nRun t L mo p 0).2.1) hr.2.1
      omega
    · rw [pI_no q]
      dsimp only
      omega
def pOf (c : Int32) : Option (List pI) := if c = 116 then some [.inr (0, 1, 1), .inl 42, .inr (1, 1, 2)] else if c = 103 then some [.inr (0, 1, 2), .inl 61, .inr (1, 1, 1), .inr (2, 1, 1)] else
  if c = 112 then some [.inr (0, 1, 2), .inl 64, .inr (1, 1, 1)] else if c = 102 then some [.inr (0, 4, 4)] else if c = 101 then some [.inr (0, 1, 1)] else if c = 115 then some [.inr (0, 1, 1)] else none
def pS (t : Nat → Int32) (L p : Nat) : Bool × Nat × (Nat → Int32) := if p < L then (match pOf (t p) with
  | some l => pIts t L l (p + 1) (fun _ => 0)
  | none => (false, p, fun _ => 0)) else (false, p, fun _ => 0)
theorem pS_of {t : Nat → Int32} {L p : Nat} {l : List pI} (h : p < L) (e : pOf (t p) = some l) : pS t L p = pIts t L l (p + 1) (fun _ => 0) := by
  unfold pS
  rw [if_pos h, e]
theorem pS_no {t : Nat → Int32} {L p : Nat} (h : p < L) (e : pOf (t p) = none) : pS t L p = (false, p, fun _ => 0) := by
  unfold pS
  rw [if_pos h, e]
theorem pS_end {t : Nat → Int32} {L p : Nat} (h : ¬ p < L) : pS t L p = (false, p, fun _ => 0) := by
  unfold pS
  rw [if_neg h]
theorem tI {x y : Int32} (q : x.toInt = y.toInt) : x = y := Int32.toInt_inj.mp q
/-- nothing else changed -/
def pFr (s : Nat) (k1 k : aW) : Prop := ∀ a j, ¬ (a = 7 ∧ j = 7) → ¬ ((a = 2 ∨ a = 3 ∨ a = 4 ∨ a = 5) ∧ j = s) → k1 a j = k a j
theorem pFr_rf {s : Nat} {k : aW} : pFr s k k := fun _ _ _ _ => rfl
theorem pFr_p {s p : Nat} {k1 k : aW} (h : pFr s k1 k) : pFr s (kP k1 p) k := fun a j h1 h2 => (upw_ne h1).trans (h a j h1 h2)
theorem pFr_w {s b : Nat} {x : Int32} {k1 k : aW} (hb : b = 2 ∨ b = 3 ∨ b = 4 ∨ b = 5) (h : pFr s k1 k) : pFr s (upw k1 b s x) k := fun a j h1 h2 => (upw_ne (fun q => h2 ⟨by rw [q.1]; exact hb, q.2⟩)).trans (h a j h1 h2)
/-- a step is passed, or not -/
def pPost (k k1 : aW) (s p : Nat) (r : Bool × Nat × (Nat → Int32)) : Prop := k1 7 7 = Int32.ofNat r.2.1 ∧ pFr s k1 k ∧ (r.1 = true → k1 2 s = k 6 p ∧ k1 3 s = r.2.2 0 ∧ (k 6 p = 116 ∨ k 6 p = 103 ∨ k 6 p = 112 → k1 4 s = r.2.2 1) ∧ (k 6 p = 103 → k1 5 s = r.2.2 2))
section PT
variable {sn : Nat} {sf : Nat → Int32} {k wn wd ws : aW} {n g o i j L p s : Nat} {x y z v u c st : Int32}
theorem r_passStep_t (d : Nat) (hs : aIx st 20 = some s) (hl : k 7 5 = Int32.ofNat L) (hL : L ≤ 60) (hp : k 7 7 = Int32.ofNat p) (h : p < L) (hch : ((k 6 p).toUInt32 % 65536).toInt32 = k 6 p) (hv : k 6 p = 116) : ∃ k1, aRun false (d + 2) m_X4_passStep [.ref 14, .int st] (aHk sn sf 21 42 aRg k wn wd ws) = some (.inl (some (.int (if (pS (k 6) L p).1 = true then 1 else 0))), (aHk sn sf 21 42 aRg k1 wn wd ws), (0, 0)) ∧ pPost k k1 s p (pS (k 6) L p) := by
  have hi : aIx (k 7 7) 60 = some p := aIx_of hp (by omega) (by omega)
  have hvi : (k 6 p).toInt = 116 := by rw [hv]; rfl
  have e0 := pS_of (t := k 6) h (show pOf (k 6 p) = some [.inr (0, 1, 1), .inl 42, .inr (1, 1, 2)] by rw [hv]; rfl)
  have hS : aRun false (d + 1) m_X4_passSign [.ref 14, .int (k 6 p)] (aHk sn sf 21 42 aRg (upw k 2 s (k 6 p)) wn wd ws) = some (.inl (some (.int 1)), (aHk sn sf 21 42 aRg (kP (upw k 2 s (k 6 p)) (p + 1)) wn wd ws), (0, 0)) := r_passSign (k := (upw k 2 s (k 6 p))) (p := p) d hl hL hp ⟨h, rfl⟩
  have q0 : p + 1 ≤ L := by omega
  have hN0 : aRun false (d + 1) m_X4_passNumber [.ref 14, .int st, .int 0, .int 1, .int 1] (aHk sn sf 21 42 aRg (kP (upw k 2 s (k 6 p)) (p + 1)) wn wd ws) = some (.inl (some (.int (if 1 ≤ (nRun (k 6) L 1 (p + 1) 0).2.2 then 1 else 0))), (aHk sn sf 21 42 aRg (upw (kP (kP (upw k 2 s (k 6 p)) (p + 1)) (nRun (k 6) L 1 (p + 1) 0).1) 3 s (nRun (k 6) L 1 (p + 1) 0).2.1) wn wd ws), (0, 0)) := r_passNumber0 (k := (kP (upw k 2 s (k 6 p)) (p + 1))) (p := (p + 1)) (le := 1) (mo := 1) d hs hl hL rfl q0 (by omega) (by omega)
  by_cases c0 : 1 ≤ (nRun (k 6) L 1 (p + 1) 0).2.2
  rotate_left
  · have eS : pS (k 6) L p = (false, (nRun (k 6) L 1 (p + 1) 0).1, upd (fun _ => 0) 0 (nRun (k 6) L 1 (p + 1) 0).2.1) := by rw [e0, pI_no c0]
    rw [if_neg c0] at hN0
    rw [eS]
    refine ⟨(upw (kP (kP (upw k 2 s (k 6 p)) (p + 1)) (nRun (k 6) L 1 (p + 1) 0).1) 3 s (nRun (k 6) L 1 (p + 1) 0).2.1), ?_, rfl, pFr_w (by omega) (pFr_p (pFr_p (pFr_w (Or.inl rfl) pFr_rf))), fun q => absurd (show false = true from q) (by decide)⟩
    refine aRun_of rfl (aVn_end (stop := fun p => false) 120 ?_)
    refine And.intro (fun _ => ?_) (fun q => absurd (cF q) (fun r => r ((zI_lt hp hl (by omega) (by omega)).mpr h)))
    refine Exists.intro p (And.intro hi ?_)
    refine And.intro hch ?_
    refine Exists.intro s (And.intro hs ?_)
    refine And.intro (fun q => absurd q (by rw [hvi]; decide)) ?_
    refine And.intro (fun q => absurd (hvi.symm.trans q) (by decide)) ?_
    refine And.intro (fun q => absurd (hvi.symm.trans q) (by decide)) ?_
    refine And.intro (fun q => absurd (hvi.symm.trans q) (by decide)) ?_
    refine And.intro (fun q => absurd (hvi.symm.trans q) (by decide)) ?_
    refine And.intro (fun q => absurd (hvi.symm.trans q) (by decide)) ?_
    refine And.intro (fun q => absurd (hvi.symm.trans q) (by decide)) ?_
    refine And.intro (fun q => absurd (hvi.symm.trans q) (by decide)) ?_
    refine And.intro (fun q => absurd (hvi.symm.trans q) (by decide)) ?_
    refine And.intro (fun q => absurd (hvi.symm.trans q) (by decide)) ?_
    refine And.intro (fun q => absurd (hvi.symm.trans q) (by decide)) ?_
    refine And.intro (fun q => absurd (hvi.symm.trans q) (by decide)) ?_
    refine And.intro (fun q => absurd (hvi.symm.trans q) (by decide)) ?_
    refine And.intro (fun q => absurd (hvi.symm.trans q) (by decide)) ?_
    refine And.intro (fun q => absurd (hvi.symm.trans q) (by decide)) ?_
    refine And.intro (fun q => absurd (hvi.symm.trans q) (by decide)) ?_
    refine And.intro (fun _ => ?_) trivial
    refine Exists.intro _ (And.intro hS ?_)
    refine And.intro (fun q => absurd (show false = true from q) (by decide)) (fun _ => ?_)
    refine Exists.intro _ (And.intro hN0 ?_)
    refine And.intro (fun _ => ?_) (fun q => absurd (show true = false from q) (by decide))
    exact And.intro rfl rfl
  rw [if_pos c0] at hN0
  have q1 : (nRun (k 6) L 1 (p + 1) 0).1 ≤ L := (nRun_le (t := k 6) 1 (p + 1) 0 q0).2.1
  by_cases c1 : (nRun (k 6) L 1 (p + 1) 0).1 < L ∧ k 6 (nRun (k 6) L 1 (p + 1) 0).1 = 42
  rotate_left
  · have eS : pS (k 6) L p = (false, (nRun (k 6) L 1 (p + 1) 0).1, (upd (fun _ => 0) 0 (nRun (k 6) L 1 (p + 1) 0).2.1)) := by rw [e0, pI_n c0, pI_so c1]
    have hC : aRun false (d + 1) m_X4_passSign [.ref 14, .int 42] (aHk sn sf 21 42 aRg (upw (kP (kP (upw k 2 s (k 6 p)) (p + 1)) (nRun (k 6) L 1 (p + 1) 0).1) 3 s (nRun (k 6) L 1 (p + 1) 0).2.1) wn wd ws) = some (.inl (some (.int 0)), (aHk sn sf 21 42 aRg (upw (kP (kP (upw k 2 s (k 6 p)) (p + 1)) (nRun (k 6) L 1 (p + 1) 0).1) 3 s (nRun (k 6) L 1 (p + 1) 0).2.1) wn wd ws), (0, 0)) := r_passSign0 (k := (upw (kP (kP (upw k 2 s (k 6 p)) (p + 1)) (nRun (k 6) L 1 (p + 1) 0).1) 3 s (nRun (k 6) L 1 (p + 1) 0).2.1)) (p := (nRun (k 6) L 1 (p + 1) 0).1) d hl hL rfl q1 c1
    rw [eS]
    refine ⟨(upw (kP (kP (upw k 2 s (k 6 p)) (p + 1)) (nRun (k 6) L 1 (p + 1) 0).1) 3 s (nRun (k 6) L 1 (p + 1) 0).2.1), ?_, rfl, (pFr_w (by omega) (pFr_p (pFr_p (pFr_w (Or.inl rfl) pFr_rf)))), fun q => absurd (show false = true from q) (by decide)⟩
    refine aRun_of rfl (aVn_end (stop := fun p => false) 120 ?_)
    refine And.intro (fun _ => ?_) (fun q => absurd (cF q) (fun r => r ((zI_lt hp hl (by omega) (by omega)).mpr h)))
    refine Exists.intro p (And.intro hi ?_)
    refine And.intro hch ?_
    refine Exists.intro s (And.intro hs ?_)
    refine And.intro (fun q => absurd q (by rw [hvi]; decide)) ?_
    refine And.intro (fun q => absurd (hvi.symm.trans q) (by decide)) ?_
    refine And.intro (fun q => absurd (hvi.symm.trans q) (by decide)) ?_
    refine And.intro (fun q => absurd (hvi.symm.trans q) (by decide)) ?_
    refine And.intro (fun q => absurd (hvi.symm.trans q) (by decide)) ?_
    refine And.intro (fun q => absurd (hvi.symm.trans q) (by decide)) ?_
    refine And.intro (fun q => absurd (hvi.symm.trans q) (by decide)) ?_
    refine And.intro (fun q => absurd (hvi.symm.trans q) (by decide)) ?_
    refine And.intro (fun q => absurd (hvi.symm.trans q) (by decide)) ?_
    refine And.intro (fun q => absurd (hvi.symm.trans q) (by decide)) ?_
    refine And.intro (fun q => absurd (hvi.symm.trans q) (by decide)) ?_
    refine And.intro (fun q => absurd (hvi.symm.trans q) (by decide)) ?_
    refine And.intro (fun q => absurd (hvi.symm.trans q) (by decide)) ?_
    refine And.intro (fun q => absurd (hvi.symm.trans q) (by decide)) ?_
    refine And.intro (fun q => absurd (hvi.symm.trans q) (by decide)) ?_
    refine And.intro (fun q => absurd (hvi.symm.trans q) (by decide)) ?_
    refine And.intro (fun _ => ?_) trivial
    refine Exists.intro _ (And.intro hS ?_)
    refine And.intro (fun q => absurd (show false = true from q) (by decide)) (fun _ => ?_)
    refine Exists.intro _ (And.intro hN0 ?_)
    refine And.intro (fun q => absurd (show false = true from q) (by decide)) (fun _ => ?_)
    refine Exists.intro _ (And.intro hC ?_)
    refine And.intro (fun _ => ?_) (fun q => absurd (show true = false from q) (by decide))
    exact And.intro rfl rfl
  have hC1 : aRun false (d + 1) m_X4_passSign [.ref 14, .int 42] (aHk sn sf 21 42 aRg (upw (kP (kP (upw k 2 s (k 6 p)) (p + 1)) (nRun (k 6) L 1 (p + 1) 0).1) 3 s (nRun (k 6) L 1 (p + 1) 0).2.1) wn wd ws) = some (.inl (some (.int 1)), (aHk sn sf 21 42 aRg (kP (upw (kP (kP (upw k 2 s (k 6 p)) (p + 1)) (nRun (k 6) L 1 (p + 1) 0).1) 3 s (nRun (k 6) L 1 (p + 1) 0).2.1) ((nRun (k 6) L 1 (p + 1) 0).1 + 1)) wn wd ws), (0, 0)) := r_passSign (k := (upw (kP (kP (upw k 2 s (k 6 p)) (p + 1)) (nRun (k 6) L 1 (p + 1) 0).1) 3 s (nRun (k 6) L 1 (p + 1) 0).2.1)) (p := (nRun (k 6) L 1 (p + 1) 0).1) d hl hL rfl c1
  have q2 : (nRun (k 6) L 1 (p + 1) 0).1 + 1 ≤ L := by have := c1.1; omega
  have hN2 : aRun false (d + 1) m_X4_passNumber [.ref 14, .int st, .int 1, .int 1, .int 2] (aHk sn sf 21 42 aRg (kP (upw (kP (kP (upw k 2 s (k 6 p)) (p + 1)) (nRun (k 6) L 1 (p + 1) 0).1) 3 s (nRun (k 6) L 1 (p + 1) 0).2.1) ((nRun (k 6) L 1 (p + 1) 0).1 + 1)) wn wd ws) = some (.inl (some (.int (if 1 ≤ (nRun (k 6) L 2 ((nRun (k 6) L 1 (p + 1) 0).1 + 1) 0).2.2 then 1 else 0))), (aHk sn sf 21 42 aRg (upw (kP (kP (upw (kP (kP (upw k 2 s (k 6 p)) (p + 1)) (nRun (k 6) L 1 (p + 1) 0).1) 3 s (nRun (k 6) L 1 (p + 1) 0).2.1) ((nRun (k 6) L 1 (p + 1) 0).1 + 1)) (nRun (k 6) L 2 ((nRun (k 6) L 1 (p + 1) 0).1 + 1) 0).1) 4 s (nRun (k 6) L 2 ((nRun (k 6) L 1 (p + 1) 0).1 + 1) 0).2.1) wn wd ws), (0, 0)) := r_passNumber1 (k := (kP (upw (kP (kP (upw k 2 s (k 6 p)) (p + 1)) (nRun (k 6) L 1 (p + 1) 0).1) 3 s (nRun (k 6) L 1 (p + 1) 0).2.1) ((nRun (k 6) L 1 (p + 1) 0).1 + 1))) (p := ((nRun (k 6) L 1 (p + 1) 0).1 + 1)) (le := 1) (mo := 2) d hs hl hL rfl q2 (by omega) (by omega)
  by_cases c2 : 1 ≤ (nRun (k 6) L 2 ((nRun (k 6) L 1 (p + 1) 0).1 + 1) 0).2.2
  rotate_left
  · have eS : pS (k 6) L p = (false, (nRun (k 6) L 2 ((nRun (k 6) L 1 (p + 1) 0).1 + 1) 0).1, upd (upd (fun _ => 0) 0 (nRun (k 6) L 1 (p + 1) 0).2.1) 1 (nRun (k 6) L 2 ((nRun (k 6) L 1 (p + 1) 0).1 + 1) 0).2.1) := by rw [e0, pI_n c0, pI_s c1, pI_no c2]
    rw [if_neg c2] at hN2
    rw [eS]
    refine ⟨(upw (kP (kP (upw (kP (kP (upw k 2 s (k 6 p)) (p + 1)) (nRun (k 6) L 1 (p + 1) 0).1) 3 s (nRun (k 6) L 1 (p + 1) 0).2.1) ((nRun (k 6) L 1 (p + 1) 0).1 + 1)) (nRun (k 6) L 2 ((nRun (k 6) L 1 (p + 1) 0).1 + 1) 0).1) 4 s (nRun (k 6) L 2 ((nRun (k 6) L 1 (p + 1) 0).1 + 1) 0).2.1), ?_, rfl, pFr_w (by omega) (pFr_p (pFr_p (pFr_w (by omega) (pFr_p (pFr_p (pFr_w (Or.inl rfl) pFr_rf)))))), fun q => absurd (show false = true from q) (by decide)⟩
    refine aRun_of rfl (aVn_end (stop := fun p => false) 120 ?_)
    refine And.intro (fun _ => ?_) (fun q => absurd (cF q) (fun r => r ((zI_lt hp hl (by omega) (by omega)).mpr h)))
    refine Exists.intro p (And.intro hi ?_)
    refine And.intro hch ?_
    refine Exists.intro s (And.intro hs ?_)
    refine And.intro (fun q => absurd q (by rw [hvi]; decide)) ?_
    refine And.intro (fun q => absurd (hvi.symm.trans q) (by decide)) ?_
    refine And.intro (fun q => absurd (hvi.symm.trans q) (by decide)) ?_
    refine And.intro (fun q => absurd (hvi.symm.trans q) (by decide)) ?_
    refine And.intro (fun q => absurd (hvi.symm.trans q) (by decide)) ?_
    refine And.intro (fun q => absurd (hvi.symm.trans q) (by decide)) ?_
    refine And.intro (fun q => absurd (hvi.symm.trans q) (by decide)) ?_
    refine And.intro (fun q => absurd (hvi.symm.trans q) (by decide)) ?_
    refine And.intro (fun q => absurd (hvi.symm.trans q) (by decide)) ?_
    refine And.intro (fun q => absurd (hvi.symm.trans q) (by decide)) ?_
    refine And.intro (fun q => absurd (hvi.symm.trans q) (by decide)) ?_
    refine And.intro (fun q => absurd (hvi.symm.trans q) (by decide)) ?_
    refine And.intro (fun q => absurd (hvi.symm.trans q) (by decide)) ?_
    refine And.intro (fun q => absurd (hvi.symm.trans q) (by decide)) ?_
    refine And.intro (fun q => absurd (hvi.symm.trans q) (by decide)) ?_
    refine And.intro (fun q => absurd (hvi.symm.trans q) (by decide)) ?_
    refine And.intro (fun _ => ?_) trivial
    refine Exists.intro _ (And.intro hS ?_)
    refine And.intro (fun q => absurd (show false = true from q) (by decide)) (fun _ => ?_)
    refine Exists.intro _ (And.intro hN0 ?_)
    refine And.intro (fun q => absurd (show false = true from q) (by decide)) (fun _ => ?_)
    refine Exists.intro _ (And.intro hC1 ?_)
    refine And.intro (fun q => absurd (show false = true from q) (by decide)) (fun _ => ?_)
    refine Exists.intro _ (And.intro hN2 ?_)
    refine And.intro (fun _ => ?_) (fun q => absurd (show true = false from q) (by decide))
    exact And.intro rfl rfl
  rw [if_pos c2] at hN2
  have q3 : (nRun (k 6) L 2 ((nRun (k 6) L 1 (p + 1) 0).1 + 1) 0).1 ≤ L := (nRun_le (t := k 6) 2 ((nRun (k 6) L 1 (p + 1) 0).1 + 1) 0 q2).2.1
  have eS : pS (k 6) L p = (true, (nRun (k 6) L 2 ((nRun (k 6) L 1 (p + 1) 0).1 + 1) 0).1, (upd (upd (fun _ => 0) 0 (nRun (k 6) L 1 (p + 1) 0).2.1) 1 (nRun (k 6) L 2 ((nRun (k 6) L 1 (p + 1) 0).1 + 1) 0).2.1)) := by rw [e0, pI_n c0, pI_s c1, pI_n c2]; rfl
  rw [eS]
  refine ⟨(upw (kP (kP (upw (kP (kP (upw k 2 s (k 6 p)) (p + 1)) (nRun (k 6) L 1 (p + 1) 0).1) 3 s (nRun (k 6) L 1 (p + 1) 0).2.1) ((nRun (k 6) L 1 (p + 1) 0).1 + 1)) (nRun (k 6) L 2 ((nRun (k 6) L 1 (p + 1) 0).1 + 1) 0).1) 4 s (nRun (k 6) L 2 ((nRun (k 6) L 1 (p + 1) 0).1 + 1) 0).2.1), ?_, rfl, (pFr_w (by omega) (pFr_p (pFr_p (pFr_w (by omega) (pFr_p (pFr_p (pFr_w (Or.inl rfl) pFr_rf))))))), fun _ => ⟨upw_eq (w := k) (b := 2) (i := s) (x := k 6 p), (upw_eq (w := kP (kP (upw k 2 s (k 6 p)) (p + 1)) (nRun (k 6) L 1 (p + 1) 0).1) (b := 3) (i := s) (x := (nRun (k 6) L 1 (p + 1) 0).2.1)), fun _ => (upw_eq (w := kP (kP (upw (kP (kP (upw k 2 s (k 6 p)) (p + 1)) (nRun (k 6) L 1 (p + 1) 0).1) 3 s (nRun (k 6) L 1 (p + 1) 0).2.1) ((nRun (k 6) L 1 (p + 1) 0).1 + 1)) (nRun (k 6) L 2 ((nRun (k 6) L 1 (p + 1) 0).1 + 1) 0).1) (b := 4) (i := s) (x := (nRun (k 6) L 2 ((nRun (k 6) L 1 (p + 1) 0).1 + 1) 0).2.1)), fun q => absurd q (by rw [hv]; decide)⟩⟩
  · refine aRun_of rfl (aVn_end (stop := fun p => false) 120 ?_)
    refine And.intro (fun _ => ?_) (fun q => absurd (cF q) (fun r => r ((zI_lt hp hl (by omega) (by omega)).mpr h)))
    refine Exists.intro p (And.intro hi ?_)
    refine And.intro hch ?_
    refine Exists.intro s (And.intro hs ?_)
    refine And.intro (fun q => absurd q (by rw [hvi]; decide)) ?_
    refine And.intro (fun q => absurd (hvi.symm.trans q) (by decide)) ?_
    refine And.intro (fun q => absurd (hvi.symm.trans q) (by decide)) ?_
    refine And.intro (fun q => absurd (hvi.symm.trans q) (by decide)) ?_
    refine And.intro (fun q => absurd (hvi.symm.trans q) (by decide)) ?_
    refine And.intro (fun q => absurd (hvi.symm.trans q) (by decide)) ?_
    refine And.intro (fun q => absurd (hvi.symm.trans q) (by decide)) ?_
    refine And.intro (fun q => absurd (hvi.symm.trans q) (by decide)) ?_
    refine And.intro (fun q => absurd (hvi.symm.trans q) (by decide)) ?_
    refine And.intro (fun q => absurd (hvi.symm.trans q) (by decide)) ?_
    refine And.intro (fun q => absurd (hvi.symm.trans q) (by decide)) ?_
    refine And.intro (fun q => absurd (hvi.symm.trans q) (by decide)) ?_
    refine And.intro (fun q => absurd (hvi.symm.trans q) (by decide)) ?_
    refine And.intro (fun q => absurd (hvi.symm.trans q) (by decide)) ?_
    refine And.intro (fun q => absurd (hvi.symm.trans q) (by decide)) ?_
    refine And.intro (fun q => absurd (hvi.symm.trans q) (by decide)) ?_
    refine And.intro (fun _ => ?_) trivial
    refine Exists.intro _ (And.intro hS ?_)
    refine And.intro (fun q => absurd (show false = true from q) (by decide)) (fun _ => ?_)
    refine Exists.intro _ (And.intro hN0 ?_)
    refine And.intro (fun q => absurd (show false = true from q) (by decide)) (fun _ => ?_)
    refine Exists.intro _ (And.intro hC1 ?_)
    refine And.intro (fun q => absurd (show false = true from q) (by decide)) (fun _ => ?_)
    refine Exists.intro _ (And.intro hN2 ?_)
    refine And.intro (fun q => absurd (show false = true from q) (by decide)) (fun _ => ?_)
    exact And.intro rfl rfl
theorem r_passStep_g (d : Nat) (hs : aIx st 20 = some s) (hl : k 7 5 = Int32.ofNat L) (hL : L ≤ 60) (hp : k 7 7 = Int32.ofNat p) (h : p < L) (hch : ((k 6 p).toUInt32 % 65536).toInt32 = k 6 p) (hv : k 6 p = 103) : ∃ k1, aRun false (d + 2) m_X4_passStep [.ref 14, .int st] (aHk sn sf 21 42 aRg k wn wd ws) = some (.inl (some (.int (if (pS (k 6) L p).1 = true then 1 else 0))), (aHk sn sf 21 42 aRg k1 wn wd ws), (0, 0)) ∧ pPost k k1 s p (pS (k 6) L p) := by
  have hi : aIx (k 7 7) 60 = some p := aIx_of hp (by omega) (by omega)
  have hvi : (k 6 p).toInt = 103 := by rw [hv]; rfl
  have e0 := pS_of (t := k 6) h (show pOf (k 6 p) = some [.inr (0, 1, 2), .inl 61, .inr (1, 1, 1), .inr (2, 1, 1)] by rw [hv]; rfl)
  have hS : aRun false (d + 1) m_X4_passSign [.ref 14, .int (k 6 p)] (aHk sn sf 21 42 aRg (upw k 2 s (k 6 p)) wn wd ws) = some (.inl (some (.int 1)), (aHk sn sf 21 42 aRg (kP (upw k 2 s (k 6 p)) (p + 1)) wn wd ws), (0, 0)) := r_passSign (k := (upw k 2 s (k 6 p))) (p := p) d hl hL hp ⟨h, rfl⟩
  have q0 : p + 1 ≤ L := by omega
  have hN0 : aRun false (d + 1) m_X4_passNumber [.ref 14, .int st, .int 0, .int 1, .int 2] (aHk sn sf 21 42 aRg (kP (upw k 2 s (k 6 p)) (p + 1)) wn wd ws) = some (.inl (some (.int (if 1 ≤ (nRun (k 6) L 2 (p + 1) 0).2.2 then 1 else 0))), (aHk sn sf 21 42 aRg (upw (kP (kP (upw k 2 s (k 6 p)) (p + 1)) (nRun (k 6) L 2 (p + 1) 0).1) 3 s (nRun (k 6) L 2 (p + 1) 0).2.1) wn wd ws), (0, 0)) := r_passNumber0 (k := (kP (upw k 2 s (k 6 p)) (p + 1))) (p := (p + 1)) (le := 1) (mo := 2) d hs hl hL rfl q0 (by omega) (by omega)
  by_cases c0 : 1 ≤ (nRun (k 6) L 2 (p + 1) 0).2.2
  rotate_left
  · have eS : pS (k 6) L p = (false, (nRun (k 6) L 2 (p + 1) 0).1, upd (fun _ => 0) 0 (nRun (k 6) L 2 (p + 1) 0).2.1) := by rw [e0, pI_no c0]
    rw [if_neg c0] at hN0
    rw [eS]
    refine ⟨(upw (kP (kP (upw k 2 s (k 6 p)) (p + 1)) (nRun (k 6) L 2 (p + 1) 0).1) 3 s (nRun (k 6) L 2 (p + 1) 0).2.1), ?_, rfl, pFr_w (by omega) (pFr_p (pFr_p (pFr_w (Or.inl rfl) pFr_rf))), fun q => absurd (show false = true from q) (by decide)⟩
    refine aRun_of rfl (aVn_end (stop := fun p => false) 120 ?_)
    refine And.intro (fun _ => ?_) (fun q => absurd (cF q) (fun r => r ((zI_lt hp hl (by omega) (by omega)).mpr h)))
    refine Exists.intro p (And.intro hi ?_)
    refine And.intro hch ?_
    refine Exists.intro s (And.intro hs ?_)
    refine And.intro (fun q => absurd q (by rw [hvi]; decide)) ?_
    refine And.intro (fun q => absurd (hvi.symm.trans q) (by decide)) ?_
    refine And.intro (fun q => absurd (hvi.symm.trans q) (by decide)) ?_
    refine And.intro (fun _ => ?_) (And.intro (fun q => absurd (hvi.symm.trans q) (by decide)) (And.intro (fun q => absurd (hvi.symm.trans q) (by decide)) (And.intro (fun q => absurd (hvi.symm.trans q) (by decide)) (And.intro (fun q => absurd (hvi.symm.trans q) (by decide)) (And.intro (fun q => absurd (hvi.symm.trans q) (by decide)) (And.intro (fun q => absurd (hvi.symm.trans q) (by decide)) (And.intro (fun q => absurd (hvi.symm.trans q) (by decide)) (And.intro (fun q => absurd (hvi.symm.trans q) (by decide)) (And.intro (fun q => absurd (hvi.symm.trans q) (by decide)) (And.intro (fun q => absurd (hvi.symm.trans q) (by decide)) (And.intro (fun q => absurd (hvi.symm.trans q) (by decide)) (And.intro (fun q => absurd (hvi.symm.trans q) (by decide)) (And.intro (fun q => absurd (hvi.symm.trans q) (by decide)) trivial)))))))))))))
    refine Exists.intro _ (And.intro hS ?_)
    refine And.intro (fun q => absurd (show false = true from q) (by decide)) (fun _ => ?_)
    refine Exists.intro _ (And.intro hN0 ?_)
    refine And.intro (fun _ => ?_) (fun q => absurd (show true = false from q) (by decide))
    exact And.intro rfl rfl
  rw [if_pos c0] at hN0
  have q1 : (nRun (k 6) L 2 (p + 1) 0).1 ≤ L := (nRun_le (t := k 6) 2 (p + 1) 0 q0).2.1
  by_cases c1 : (nRun (k 6) L 2 (p + 1) 0).1 < L ∧ k 6 (nRun (k 6) L 2 (p + 1) 0).1 = 61
  rotate_left
  · have eS : pS (k 6) L p = (false, (nRun (k 6) L 2 (p + 1) 0).1, (upd (fun _ => 0) 0 (nRun (k 6) L 2 (p + 1) 0).2.1)) := by rw [e0, pI_n c0, pI_so c1]
    have hC : aRun false (d + 1) m_X4_passSign [.ref 14, .int 61] (aHk sn sf 21 42 aRg (upw (kP (kP (upw k 2 s (k 6 p)) (p + 1)) (nRun (k 6) L 2 (p + 1) 0).1) 3 s (nRun (k 6) L 2 (p + 1) 0).2.1) wn wd ws) = some (.inl (some (.int 0)), (aHk sn sf 21 42 aRg (upw (kP (kP (upw k 2 s (k 6 p)) (p + 1)) (nRun (k 6) L 2 (p + 1) 0).1) 3 s (nRun (k 6) L 2 (p + 1) 0).2.1) wn wd ws), (0, 0)) := r_passSign0 (k := (upw (kP (kP (upw k 2 s (k 6 p)) (p + 1)) (nRun (k 6) L 2 (p + 1) 0).1) 3 s (nRun (k 6) L 2 (p + 1) 0).2.1)) (p := (nRun (k 6) L 2 (p + 1) 0).1) d hl hL rfl q1 c1
    rw [eS]
    refine ⟨(upw (kP (kP (upw k 2 s (k 6 p)) (p + 1)) (nRun (k 6) L 2 (p + 1) 0).1) 3 s (nRun (k 6) L 2 (p + 1) 0).2.1), ?_, rfl, (pFr_w (by omega) (pFr_p (pFr_p (pFr_w (Or.inl rfl) pFr_rf)))), fun q => absurd (show false = true from q) (by decide)⟩
    refine aRun_of rfl (aVn_end (stop := fun p => false) 120 ?_)
    refine And.intro (fun _ => ?_) (fun q => absurd (cF q) (fun r => r ((zI_lt hp hl (by omega) (by omega)).mpr h)))
    refine Exists.intro p (And.intro hi ?_)
    refine And.intro hch ?_
    refine Exists.intro s (And.intro hs ?_)
    refine And.intro (fun q => absurd q (by rw [hvi]; decide)) ?_
    refine And.intro (fun q => absurd (hvi.symm.trans q) (by decide)) ?_
    refine And.intro (fun q => absurd (hvi.symm.trans q) (by decide)) ?_
    refine And.intro (fun _ => ?_) (And.intro (fun q => absurd (hvi.symm.trans q) (by decide)) (And.intro (fun q => absurd (hvi.symm.trans q) (by decide)) (And.intro (fun q => absurd (hvi.symm.trans q) (by decide)) (And.intro (fun q => absurd (hvi.symm.trans q) (by decide)) (And.intro (fun q => absurd (hvi.symm.trans q) (by decide)) (And.intro (fun q => absurd (hvi.symm.trans q) (by decide)) (And.intro (fun q => absurd (hvi.symm.trans q) (by decide)) (And.intro (fun q => absurd (hvi.symm.trans q) (by decide)) (And.intro (fun q => absurd (hvi.symm.trans q) (by decide)) (And.intro (fun q => absurd (hvi.symm.trans q) (by decide)) (And.intro (fun q => absurd (hvi.symm.trans q) (by decide)) (And.intro (fun q => absurd (hvi.symm.trans q) (by decide)) (And.intro (fun q => absurd (hvi.symm.trans q) (by decide)) trivial)))))))))))))
    refine Exists.intro _ (And.intro hS ?_)
    refine And.intro (fun q => absurd (show false = true from q) (by decide)) (fun _ => ?_)
    refine Exists.intro _ (And.intro hN0 ?_)
    refine And.intro (fun q => absurd (show false = true from q) (by decide)) (fun _ => ?_)
    refine Exists.intro _ (And.intro hC ?_)
    refine And.intro (fun _ => ?_) (fun q => absurd (show true = false from q) (by decide))
    exact And.intro rfl rfl
  have hC1 : aRun false (d + 1) m_X4_passSign [.ref 14, .int 61] (aHk sn sf 21 42 aRg (upw (kP (kP (upw k 2 s (k 6 p)) (p + 1)) (nRun (k 6) L 2 (p + 1) 0).1) 3 s (nRun (k 6) L 2 (p + 1) 0).2.1) wn wd ws) = some (.inl (some (.int 1)), (aHk sn sf 21 42 aRg (kP (upw (kP (kP (upw k 2 s (k 6 p)) (p + 1)) (nRun (k 6) L 2 (p + 1) 0).1) 3 s (nRun (k 6) L 2 (p + 1) 0).2.1) ((nRun (k 6) L 2 (p + 1) 0).1 + 1)) wn wd ws), (0, 0)) := r_passSign (k := (upw (kP (kP (upw k 2 s (k 6 p)) (p + 1)) (nRun (k 6) L 2 (p + 1) 0).1) 3 s (nRun (k 6) L 2 (p + 1) 0).2.1)) (p := (nRun (k 6) L 2 (p + 1) 0).1) d hl hL rfl c1
  have q2 : (nRun (k 6) L 2 (p + 1) 0).1 + 1 ≤ L := by have := c1.1; omega
  have hN2 : aRun false (d + 1) m_X4_passNumber [.ref 14, .int st, .int 1, .int 1, .int 1] (aHk sn sf 21 42 aRg (kP (upw (kP (kP (upw k 2 s (k 6 p)) (p + 1)) (nRun (k 6) L 2 (p + 1) 0).1) 3 s (nRun (k 6) L 2 (p + 1) 0).2.1) ((nRun (k 6) L 2 (p + 1) 0).1 + 1)) wn wd ws) = some (.inl (some (.int (if 1 ≤ (nRun (k 6) L 1 ((nRun (k 6) L 2 (p + 1) 0).1 + 1) 0).2.2 then 1 else 0))), (aHk sn sf 21 42 aRg (upw (kP (kP (upw (kP (kP (upw k 2 s (k 6 p)) (p + 1)) (nRun (k 6) L 2 (p + 1) 0).1) 3 s (nRun (k 6) L 2 (p + 1) 0).2.1) ((nRun (k 6) L 2 (p + 1) 0).1 + 1)) (nRun (k 6) L 1 ((nRun (k 6) L 2 (p + 1) 0).1 + 1) 0).1) 4 s (nRun (k 6) L 1 ((nRun (k 6) L 2 (p + 1) 0).1 + 1) 0).2.1) wn wd ws), (0, 0)) := r_passNumber1 (k := (kP (upw (kP (kP (upw k 2 s (k 6 p)) (p + 1)) (nRun (k 6) L 2 (p + 1) 0).1) 3 s (nRun (k 6) L 2 (p + 1) 0).2.1) ((nRun (k 6) L 2 (p + 1) 0).1 + 1))) (p := ((nRun (k 6) L 2 (p + 1) 0).1 + 1)) (le := 1) (mo := 1) d hs hl hL rfl q2 (by omega) (by omega)
  by_cases c2 : 1 ≤ (nRun (k 6) L 1 ((nRun (k 6) L 2 (p + 1) 0).1 + 1) 0).2.2
  rotate_left
  · have eS : pS (k 6) L p = (false, (nRun (k 6) L 1 ((nRun (k 6) L 2 (p + 1) 0).1 + 1) 0).1, upd (upd (fun _ => 0) 0 (nRun (k 6) L 2 (p + 1) 0).2.1) 1 (nRun (k 6) L 1 ((nRun (k 6) L 2 (p + 1) 0).1 + 1) 0).2.1) := by rw [e0, pI_n c0, pI_s c1, pI_no c2]
    rw [if_neg c2] at hN2
    rw [eS]
    refine ⟨(upw (kP (kP (upw (kP (kP (upw k 2 s (k 6 p)) (p + 1)) (nRun (k 6) L 2 (p + 1) 0).1) 3 s (nRun (k 6) L 2 (p + 1) 0).2.1) ((nRun (k 6) L 2 (p + 1) 0).1 + 1)) (nRun (k 6) L 1 ((nRun (k 6) L 2 (p + 1) 0).1 + 1) 0).1) 4 s (nRun (k 6) L 1 ((nRun (k 6) L 2 (p + 1) 0).1 + 1) 0).2.1), ?_, rfl, pFr_w (by omega) (pFr_p (pFr_p (pFr_w (by omega) (pFr_p (pFr_p (pFr_w (Or.inl rfl) pFr_rf)))))), fun q => absurd (show false = true from q) (by decide)⟩
    refine aRun_of rfl (aVn_end (stop := fun p => false) 120 ?_)
    refine And.intro (fun _ => ?_) (fun q => absurd (cF q) (fun r => r ((zI_lt hp hl (by omega) (by omega)).mpr h)))
    refine Exists.intro p (And.intro hi ?_)
    refine And.intro hch ?_
    refine Exists.intro s (And.intro hs ?_)
    refine And.intro (fun q => absurd q (by rw [hvi]; decide)) ?_
    refine And.intro (fun q => absurd (hvi.symm.trans q) (by decide)) ?_
    refine And.intro (fun q => absurd (hvi.symm.trans q) (by decide)) ?_
    refine And.intro (fun _ => ?_) (And.intro (fun q => absurd (hvi.symm.trans q) (by decide)) (And.intro (fun q => absurd (hvi.symm.trans q) (by decide)) (And.intro (fun q => absurd (hvi.symm.trans q) (by decide)) (And.intro (fun q => absurd (hvi.symm.trans q) (by decide)) (And.intro (fun q => absurd (hvi.symm.trans q) (by decide)) (And.intro (fun q => absurd (hvi.symm.trans q) (by decide)) (And.intro (fun q => absurd (hvi.symm.trans q) (by decide)) (And.intro (fun q => absurd (hvi.symm.trans q) (by decide)) (And.intro (fun q => absurd (hvi.symm.trans q) (by decide)) (And.intro (fun q => absurd (hvi.symm.trans q) (by decide)) (And.intro (fun q => absurd (hvi.symm.trans q) (by decide)) (And.intro (fun q => absurd (hvi.symm.trans q) (by decide)) (And.intro (fun q => absurd (hvi.symm.trans q) (by decide)) trivial)))))))))))))
    refine Exists.intro _ (And.intro hS ?_)
    refine And.intro (fun q => absurd (show false = true from q) (by decide)) (fun _ => ?_)
    refine Exists.intro _ (And.intro hN0 ?_)
    refine And.intro (fun q => absurd (show false = true from q) (by decide)) (fun _ => ?_)
    refine Exists.intro _ (And.intro hC1 ?_)
    refine And.intro (fun q => absurd (show false = true from q) (by decide)) (fun _ => ?_)
    refine Exists.intro _ (And.intro hN2 ?_)
    refine And.intro (fun _ => ?_) (fun q => absurd (show true = false from q) (by decide))
    exact And.intro rfl rfl
  rw [if_pos c2] at hN2
  have q3 : (nRun (k 6) L 1 ((nRun (k 6) L 2 (p + 1) 0).1 + 1) 0).1 ≤ L := (nRun_le (t := k 6) 1 ((nRun (k 6) L 2 (p + 1) 0).1 + 1) 0 q2).2.1
  have hN3 : aRun false (d + 1) m_X4_passNumber [.ref 14, .int st, .int 2, .int 1, .int 1] (aHk sn sf 21 42 aRg (upw (kP (kP (upw (kP (kP (upw k 2 s (k 6 p)) (p + 1)) (nRun (k 6) L 2 (p + 1) 0).1) 3 s (nRun (k 6) L 2 (p + 1) 0).2.1) ((nRun (k 6) L 2 (p + 1) 0).1 + 1)) (nRun (k 6) L 1 ((nRun (k 6) L 2 (p + 1) 0).1 + 1) 0).1) 4 s (nRun (k 6) L 1 ((nRun (k 6) L 2 (p + 1) 0).1 + 1) 0).2.1) wn wd ws) = some (.inl (some (.int (if 1 ≤ (nRun (k 6) L 1 (nRun (k 6) L 1 ((nRun (k 6) L 2 (p + 1) 0).1 + 1) 0).1 0).2.2 then 1 else 0))), (aHk sn sf 21 42 aRg (upw (kP (upw (kP (kP (upw (kP (kP (upw k 2 s (k 6 p)) (p + 1)) (nRun (k 6) L 2 (p + 1) 0).1) 3 s (nRun (k 6) L 2 (p + 1) 0).2.1) ((nRun (k 6) L 2 (p + 1) 0).1 + 1)) (nRun (k 6) L 1 ((nRun (k 6) L 2 (p + 1) 0).1 + 1) 0).1) 4 s (nRun (k 6) L 1 ((nRun (k 6) L 2 (p + 1) 0).1 + 1) 0).2.1) (nRun (k 6) L 1 (nRun (k 6) L 1 ((nRun (k 6) L 2 (p + 1) 0).1 + 1) 0).1 0).1) 5 s (nRun (k 6) L 1 (nRun (k 6) L 1 ((nRun (k 6) L 2 (p + 1) 0).1 + 1) 0).1 0).2.1) wn wd ws), (0, 0)) := r_passNumber2 (k := (upw (kP (kP (upw (kP (kP (upw k 2 s (k 6 p)) (p + 1)) (nRun (k 6) L 2 (p + 1) 0).1) 3 s (nRun (k 6) L 2 (p + 1) 0).2.1) ((nRun (k 6) L 2 (p + 1) 0).1 + 1)) (nRun (k 6) L 1 ((nRun (k 6) L 2 (p + 1) 0).1 + 1) 0).1) 4 s (nRun (k 6) L 1 ((nRun (k 6) L 2 (p + 1) 0).1 + 1) 0).2.1)) (p := (nRun (k 6) L 1 ((nRun (k 6) L 2 (p + 1) 0).1 + 1) 0).1) (le := 1) (mo := 1) d hs hl hL rfl q3 (by omega) (by omega)
  by_cases c3 : 1 ≤ (nRun (k 6) L 1 (nRun (k 6) L 1 ((nRun (k 6) L 2 (p + 1) 0).1 + 1) 0).1 0).2.2
  rotate_left
  · have eS : pS (k 6) L p = (false, (nRun (k 6) L 1 (nRun (k 6) L 1 ((nRun (k 6) L 2 (p + 1) 0).1 + 1) 0).1 0).1, upd (upd (upd (fun _ => 0) 0 (nRun (k 6) L 2 (p + 1) 0).2.1) 1 (nRun (k 6) L 1 ((nRun (k 6) L 2 (p + 1) 0).1 + 1) 0).2.1) 2 (nRun (k 6) L 1 (nRun (k 6) L 1 ((nRun (k 6) L 2 (p + 1) 0).1 + 1) 0).1 0).2.1) := by rw [e0, pI_n c0, pI_s c1, pI_n c2, pI_no c3]
    rw [if_neg c3] at hN3
    rw [eS]
    refine ⟨(upw (kP (upw (kP (kP (upw (kP (kP (upw k 2 s (k 6 p)) (p + 1)) (nRun (k 6) L 2 (p + 1) 0).1) 3 s (nRun (k 6) L 2 (p + 1) 0).2.1) ((nRun (k 6) L 2 (p + 1) 0).1 + 1)) (nRun (k 6) L 1 ((nRun (k 6) L 2 (p + 1) 0).1 + 1) 0).1) 4 s (nRun (k 6) L 1 ((nRun (k 6) L 2 (p + 1) 0).1 + 1) 0).2.1) (nRun (k 6) L 1 (nRun (k 6) L 1 ((nRun (k 6) L 2 (p + 1) 0).1 + 1) 0).1 0).1) 5 s (nRun (k 6) L 1 (nRun (k 6) L 1 ((nRun (k 6) L 2 (p + 1) 0).1 + 1) 0).1 0).2.1), ?_, rfl, pFr_w (by omega) (pFr_p (pFr_w (by omega) (pFr_p (pFr_p (pFr_w (by omega) (pFr_p (pFr_p (pFr_w (Or.inl rfl) pFr_rf)))))))), fun q => absurd (show false = true from q) (by decide)⟩
    refine aRun_of rfl (aVn_end (stop := fun p => false) 120 ?_)
    refine And.intro (fun _ => ?_) (fun q => absurd (cF q) (fun r => r ((zI_lt hp hl (by omega) (by omega)).mpr h)))
    refine Exists.intro p (And.intro hi ?_)
    refine And.intro hch ?_
    refine Exists.intro s (And.intro hs ?_)
    refine And.intro (fun q => absurd q (by rw [hvi]; decide)) ?_
    refine And.intro (fun q => absurd (hvi.symm.trans q) (by decide)) ?_
    refine And.intro (fun q => absurd (hvi.symm.trans q) (by decide)) ?_
    refine And.intro (fun _ => ?_) (And.intro (fun q => absurd (hvi.symm.trans q) (by decide)) (And.intro (fun q => absurd (hvi.symm.trans q) (by decide)) (And.intro (fun q => absurd (hvi.symm.trans q) (by decide)) (And.intro (fun q => absurd (hvi.symm.trans q) (by decide)) (And.intro (fun q => absurd (hvi.symm.trans q) (by decide)) (And.intro (fun q => absurd (hvi.symm.trans q) (by decide)) (And.intro (fun q => absurd (hvi.symm.trans q) (by decide)) (And.intro (fun q => absurd (hvi.symm.trans q) (by decide)) (And.intro (fun q => absurd (hvi.symm.trans q) (by decide)) (And.intro (fun q => absurd (hvi.symm.trans q) (by decide)) (And.intro (fun q => absurd (hvi.symm.trans q) (by decide)) (And.intro (fun q => absurd (hvi.symm.trans q) (by decide)) (And.intro (fun q => absurd (hvi.symm.trans q) (by decide)) trivial)))))))))))))
    refine Exists.intro _ (And.intro hS ?_)
    refine And.intro (fun q => absurd (show false = true from q) (by decide)) (fun _ => ?_)
    refine Exists.intro _ (And.intro hN0 ?_)
    refine And.intro (fun q => absurd (show false = true from q) (by decide)) (fun _ => ?_)
    refine Exists.intro _ (And.intro hC1 ?_)
    refine And.intro (fun q => absurd (show false = true from q) (by decide)) (fun _ => ?_)
    refine Exists.intro _ (And.intro hN2 ?_)
    refine And.intro (fun q => absurd (show false = true from q) (by decide)) (fun _ => ?_)
    refine Exists.intro _ (And.intro hN3 ?_)
    refine And.intro (fun _ => ?_) (fun q => absurd (show true = false from q) (by decide))
    exact And.intro rfl rfl
  rw [if_pos c3] at hN3
  have q4 : (nRun (k 6) L 1 (nRun (k 6) L 1 ((nRun (k 6) L 2 (p + 1) 0).1 + 1) 0).1 0).1 ≤ L := (nRun_le (t := k 6) 1 (nRun (k 6) L 1 ((nRun (k 6) L 2 (p + 1) 0).1 + 1) 0).1 0 q3).2.1
  have eS : pS (k 6) L p = (true, (nRun (k 6) L 1 (nRun (k 6) L 1 ((nRun (k 6) L 2 (p + 1) 0).1 + 1) 0).1 0).1, (upd (upd (upd (fun _ => 0) 0 (nRun (k 6) L 2 (p + 1) 0).2.1) 1 (nRun (k 6) L 1 ((nRun (k 6) L 2 (p + 1) 0).1 + 1) 0).2.1) 2 (nRun (k 6) L 1 (nRun (k 6) L 1 ((nRun (k 6) L 2 (p + 1) 0).1 + 1) 0).1 0).2.1)) := by rw [e0, pI_n c0, pI_s c1, pI_n c2, pI_n c3]; rfl
  rw [eS]
  refine ⟨(upw (kP (upw (kP (kP (upw (kP (kP (upw k 2 s (k 6 p)) (p + 1)) (nRun (k 6) L 2 (p + 1) 0).1) 3 s (nRun (k 6) L 2 (p + 1) 0).2.1) ((nRun (k 6) L 2 (p + 1) 0).1 + 1)) (nRun (k 6) L 1 ((nRun (k 6) L 2 (p + 1) 0).1 + 1) 0).1) 4 s (nRun (k 6) L 1 ((nRun (k 6) L 2 (p + 1) 0).1 + 1) 0).2.1) (nRun (k 6) L 1 (nRun (k 6) L 1 ((nRun (k 6) L 2 (p + 1) 0).1 + 1) 0).1 0).1) 5 s (nRun (k 6) L 1 (nRun (k 6) L 1 ((nRun (k 6) L 2 (p + 1) 0).1 + 1) 0).1 0).2.1), ?_, rfl, (pFr_w (by omega) (pFr_p (pFr_w (by omega) (pFr_p (pFr_p (pFr_w (by omega) (pFr_p (pFr_p (pFr_w (Or.inl rfl) pFr_rf))))))))), fun _ => ⟨upw_eq (w := k) (b := 2) (i := s) (x := k 6 p), (upw_eq (w := kP (kP (upw k 2 s (k 6 p)) (p + 1)) (nRun (k 6) L 2 (p + 1) 0).1) (b := 3) (i := s) (x := (nRun (k 6) L 2 (p + 1) 0).2.1)), fun _ => (upw_eq (w := kP (kP (upw (kP (kP (upw k 2 s (k 6 p)) (p + 1)) (nRun (k 6) L 2 (p + 1) 0).1) 3 s (nRun (k 6) L 2 (p + 1) 0).2.1) ((nRun (k 6) L 2 (p + 1) 0).1 + 1)) (nRun (k 6) L 1 ((nRun (k 6) L 2 (p + 1) 0).1 + 1) 0).1) (b := 4) (i := s) (x := (nRun (k 6) L 1 ((nRun (k 6) L 2 (p + 1) 0).1 + 1) 0).2.1)), fun _ => (upw_eq (w := kP (upw (kP (kP (upw (kP (kP (upw k 2 s (k 6 p)) (p + 1)) (nRun (k 6) L 2 (p + 1) 0).1) 3 s (nRun (k 6) L 2 (p + 1) 0).2.1) ((nRun (k 6) L 2 (p + 1) 0).1 + 1)) (nRun (k 6) L 1 ((nRun (k 6) L 2 (p + 1) 0).1 + 1) 0).1) 4 s (nRun (k 6) L 1 ((nRun (k 6) L 2 (p + 1) 0).1 + 1) 0).2.1) (nRun (k 6) L 1 (nRun (k 6) L 1 ((nRun (k 6) L 2 (p + 1) 0).1 + 1) 0).1 0).1) (b := 5) (i := s) (x := (nRun (k 6) L 1 (nRun (k 6) L 1 ((nRun (k 6) L 2 (p + 1) 0).1 + 1) 0).1 0).2.1))⟩⟩
  · refine aRun_of rfl (aVn_end (stop := fun p => false) 120 ?_)
    refine And.intro (fun _ => ?_) (fun q => absurd (cF q) (fun r => r ((zI_lt hp hl (by omega) (by omega)).mpr h)))
    refine Exists.intro p (And.intro hi ?_)
    refine And.intro hch ?_
    refine Exists.intro s (And.intro hs ?_)
    refine And.intro (fun q => absurd q (by rw [hvi]; decide)) ?_
    refine And.intro (fun q => absurd (hvi.symm.trans q) (by decide)) ?_
    refine And.intro (fun q => absurd (hvi.symm.trans q) (by decide)) ?_
    refine And.intro (fun _ => ?_) (And.intro (fun q => absurd (hvi.symm.trans q) (by decide)) (And.intro (fun q => absurd (hvi.symm.trans q) (by decide)) (And.intro (fun q => absurd (hvi.symm.trans q) (by decide)) (And.intro (fun q => absurd (hvi.symm.trans q) (by decide)) (And.intro (fun q => absurd (hvi.symm.trans q) (by decide)) (And.intro (fun q => absurd (hvi.symm.trans q) (by decide)) (And.intro (fun q => absurd (hvi.symm.trans q) (by decide)) (And.intro (fun q => absurd (hvi.symm.trans q) (by decide)) (And.intro (fun q => absurd (hvi.symm.trans q) (by decide)) (And.intro (fun q => absurd (hvi.symm.trans q) (by decide)) (And.intro (fun q => absurd (hvi.symm.trans q) (by decide)) (And.intro (fun q => absurd (hvi.symm.trans q) (by decide)) (And.intro (fun q => absurd (hvi.symm.trans q) (by decide)) trivial)))))))))))))
    refine Exists.intro _ (And.intro hS ?_)
    refine And.intro (fun q => absurd (show false = true from q) (by decide)) (fun _ => ?_)
    refine Exists.intro _ (And.intro hN0 ?_)
    refine And.intro (fun q => absurd (show false = true from q) (by decide)) (fun _ => ?_)
    refine Exists.intro _ (And.intro hC1 ?_)
    refine And.intro (fun q => absurd (show false = true from q) (by decide)) (fun _ => ?_)
    refine Exists.intro _ (And.intro hN2 ?_)
    refine And.intro (fun q => absurd (show false = true from q) (by decide)) (fun _ => ?_)
    refine Exists.intro _ (And.intro hN3 ?_)
    refine And.intro (fun q => absurd (show false = true from q) (by decide)) (fun _ => ?_)
    exact And.intro rfl rfl
theorem r_passStep_p (d : Nat) (hs : aIx st 20 = some s) (hl : k 7 5 = Int32.ofNat L) (hL : L ≤ 60) (hp : k 7 7 = Int32.ofNat p) (h : p < L) (hch : ((k 6 p).toUInt32 % 65536).toInt32 = k 6 p) (hv : k 6 p = 112) : ∃ k1, aRun false (d + 2) m_X4_passStep [.ref 14, .int st] (aHk sn sf 21 42 aRg k wn wd ws) = some (.inl (some (.int (if (pS (k 6) L p).1 = true then 1 else 0))), (aHk sn sf 21 42 aRg k1 wn wd ws), (0, 0)) ∧ pPost k k1 s p (pS (k 6) L p) := by
  have hi : aIx (k 7 7) 60 = some p := aIx_of hp (by omega) (by omega)
  have hvi : (k 6 p).toInt = 112 := by rw [hv]; rfl
  have e0 := pS_of (t := k 6) h (show pOf (k 6 p) = some [.inr (0, 1, 2), .inl 64, .inr (1, 1, 1)] by rw [hv]; rfl)
  have hS : aRun false (d + 1) m_X4_passSign [.ref 14, .int (k 6 p)] (aHk sn sf 21 42 aRg (upw k 2 s (k 6 p)) wn wd ws) = some (.inl (some (.int 1)), (aHk sn sf 21 42 aRg (kP (upw k 2 s (k 6 p)) (p + 1)) wn wd ws), (0, 0)) := r_passSign (k := (upw k 2 s (k 6 p))) (p := p) d hl hL hp ⟨h, rfl⟩
  have q0 : p + 1 ≤ L := by omega
  have hN0 : aRun false (d + 1) m_X4_passNumber [.ref 14, .int st, .int 0, .int 1, .int 2] (aHk sn sf 21 42 aRg (kP (upw k 2 s (k 6 p)) (p + 1)) wn wd ws) = some (.inl (some (.int (if 1 ≤ (nRun (k 6) L 2 (p + 1) 0).2.2 then 1 else 0))), (aHk sn sf 21 42 aRg (upw (kP (kP (upw k 2 s (k 6 p)) (p + 1)) (nRun (k 6) L 2 (p + 1) 0).1) 3 s (nRun (k 6) L 2 (p + 1) 0).2.1) wn wd ws), (0, 0)) := r_passNumber0 (k := (kP (upw k 2 s (k 6 p)) (p + 1))) (p := (p + 1)) (le := 1) (mo := 2) d hs hl hL rfl q0 (by omega) (by omega)
  by_cases c0 : 1 ≤ (nRun (k 6) L 2 (p + 1) 0).2.2
  rotate_left
  · have eS : pS (k 6) L p = (false, (nRun (k 6) L 2 (p + 1) 0).1, upd (fun _ => 0) 0 (nRun (k 6) L 2 (p + 1) 0).2.1) := by rw [e0, pI_no c0]
    rw [if_neg c0] at hN0
    rw [eS]
    refine ⟨(upw (kP (kP (upw k 2 s (k 6 p)) (p + 1)) (nRun (k 6) L 2 (p + 1) 0).1) 3 s (nRun (k 6) L 2 (p + 1) 0).2.1), ?_, rfl, pFr_w (by omega) (pFr_p (pFr_p (pFr_w (Or.inl rfl) pFr_rf))), fun q => absurd (show false = true from q) (by decide)⟩
    refine aRun_of rfl (aVn_end (stop := fun p => false) 120 ?_)
    refine And.intro (fun _ => ?_) (fun q => absurd (cF q) (fun r => r ((zI_lt hp hl (by omega) (by omega)).mpr h)))
    refine Exists.intro p (And.intro hi ?_)
    refine And.intro hch ?_
    refine Exists.intro s (And.intro hs ?_)
    refine And.intro (fun q => absurd q (by rw [hvi]; decide)) ?_
    refine And.intro (fun q => absurd (hvi.symm.trans q) (by decide)) ?_
    refine And.intro (fun q => absurd (hvi.symm.trans q) (by decide)) ?_
    refine And.intro (fun q => absurd (hvi.symm.trans q) (by decide)) ?_
    refine And.intro (fun q => absurd (hvi.symm.trans q) (by decide)) ?_
    refine And.intro (fun q => absurd (hvi.symm.trans q) (by decide)) ?_
    refine And.intro (fun q => absurd (hvi.symm.trans q) (by decide)) ?_
    refine And.intro (fun q => absurd (hvi.symm.trans q) (by decide)) ?_
    refine And.intro (fun q => absurd (hvi.symm.trans q) (by decide)) ?_
    refine And.intro (fun q => absurd (hvi.symm.trans q) (by decide)) ?_
    refine And.intro (fun q => absurd (hvi.symm.trans q) (by decide)) ?_
    refine And.intro (fun q => absurd (hvi.symm.trans q) (by decide)) ?_
    refine And.intro (fun _ => ?_) (And.intro (fun q => absurd (hvi.symm.trans q) (by decide)) (And.intro (fun q => absurd (hvi.symm.trans q) (by decide)) (And.intro (fun q => absurd (hvi.symm.trans q) (by decide)) (And.intro (fun q => absurd (hvi.symm.trans q) (by decide)) trivial))))
    refine Exists.intro _ (And.intro hS ?_)
    refine And.intro (fun q => absurd (show false = true from q) (by decide)) (fun _ => ?_)
    refine Exists.intro _ (And.intro hN0 ?_)
    refine And.intro (fun _ => ?_) (fun q => absurd (show true = false from q) (by decide))
    exact And.intro rfl rfl
  rw [if_pos c0] at hN0
  have q1 : (nRun (k 6) L 2 (p + 1) 0).1 ≤ L := (nRun_le (t := k 6) 2 (p + 1) 0 q0).2.1
  by_cases c1 : (nRun (k 6) L 2 (p + 1) 0).1 < L ∧ k 6 (nRun (k 6) L 2 (p + 1) 0).1 = 64
  rotate_left
  · have eS : pS (k 6) L p = (false, (nRun (k 6) L 2 (p + 1) 0).1, (upd (fun _ => 0) 0 (nRun (k 6) L 2 (p + 1) 0).2.1)) := by rw [e0, pI_n c0, pI_so c1]
    have hC : aRun false (d + 1) m_X4_passSign [.ref 14, .int 64] (aHk sn sf 21 42 aRg (upw (kP (kP (upw k 2 s (k 6 p)) (p + 1)) (nRun (k 6) L 2 (p + 1) 0).1) 3 s (nRun (k 6) L 2 (p + 1) 0).2.1) wn wd ws) = some (.inl (some (.int 0)), (aHk sn sf 21 42 aRg (upw (kP (kP (upw k 2 s (k 6 p)) (p + 1)) (nRun (k 6) L 2 (p + 1) 0).1) 3 s (nRun (k 6) L 2 (p + 1) 0).2.1) wn wd ws), (0, 0)) := r_passSign0 (k := (upw (kP (kP (upw k 2 s (k 6 p)) (p + 1)) (nRun (k 6) L 2 (p + 1) 0).1) 3 s (nRun (k 6) L 2 (p + 1) 0).2.1)) (p := (nRun (k 6) L 2 (p + 1) 0).1) d hl hL rfl q1 c1
    rw [eS]
    refine ⟨(upw (kP (kP (upw k 2 s (k 6 p)) (p + 1)) (nRun (k 6) L 2 (p + 1) 0).1) 3 s (nRun (k 6) L 2 (p + 1) 0).2.1), ?_, rfl, (pFr_w (by omega) (pFr_p (pFr_p (pFr_w (Or.inl rfl) pFr_rf)))), fun q => absurd (show false = true from q) (by decide)⟩
    refine aRun_of rfl (aVn_end (stop := fun p => false) 120 ?_)
    refine And.intro (fun _ => ?_) (fun q => absurd (cF q) (fun r => r ((zI_lt hp hl (by omega) (by omega)).mpr h)))
    refine Exists.intro p (And.intro hi ?_)
    refine And.intro hch ?_
    refine Exists.intro s (And.intro hs ?_)
    refine And.intro (fun q => absurd q (by rw [hvi]; decide)) ?_
    refine And.intro (fun q => absurd (hvi.symm.trans q) (by decide)) ?_
    refine And.intro (fun q => absurd (hvi.symm.trans q) (by decide)) ?_
    refine And.intro (fun q => absurd (hvi.symm.trans q) (by decide)) ?_
    refine And.intro (fun q => absurd (hvi.symm.trans q) (by decide)) ?_
    refine And.intro (fun q => absurd (hvi.symm.trans q) (by decide)) ?_
    refine And.intro (fun q => absurd (hvi.symm.trans q) (by decide)) ?_
    refine And.intro (fun q => absurd (hvi.symm.trans q) (by decide)) ?_
    refine And.intro (fun q => absurd (hvi.symm.trans q) (by decide)) ?_
    refine And.intro (fun q => absurd (hvi.symm.trans q) (by decide)) ?_
    refine And.intro (fun q => absurd (hvi.symm.trans q) (by decide)) ?_
    refine And.intro (fun q => absurd (hvi.symm.trans q) (by decide)) ?_
    refine And.intro (fun _ => ?_) (And.intro (fun q => absurd (hvi.symm.trans q) (by decide)) (And.intro (fun q => absurd (hvi.symm.trans q) (by decide)) (And.intro (fun q => absurd (hvi.symm.trans q) (by decide)) (And.intro (fun q => absurd (hvi.symm.trans q) (by decide)) trivial))))
    refine Exists.intro _ (And.intro hS ?_)
    refine And.intro (fun q => absurd (show false = true from q) (by decide)) (fun _ => ?_)
    refine Exists.intro _ (And.intro hN0 ?_)
    refine And.intro (fun q => absurd (show false = true from q) (by decide)) (fun _ => ?_)
    refine Exists.intro _ (And.intro hC ?_)
    refine And.intro (fun _ => ?_) (fun q => absurd (show true = false from q) (by decide))
    exact And.intro rfl rfl
  have hC1 : aRun false (d + 1) m_X4_passSign [.ref 14, .int 64] (aHk sn sf 21 42 aRg (upw (kP (kP (upw k 2 s (k 6 p)) (p + 1)) (nRun (k 6) L 2 (p + 1) 0).1) 3 s (nRun (k 6) L 2 (p + 1) 0).2.1) wn wd ws) = some (.inl (some (.int 1)), (aHk sn sf 21 42 aRg (kP (upw (kP (kP (upw k 2 s (k 6 p)) (p + 1)) (nRun (k 6) L 2 (p + 1) 0).1) 3 s (nRun (k 6) L 2 (p + 1) 0).2.1) ((nRun (k 6) L 2 (p + 1) 0).1 + 1)) wn wd ws), (0, 0)) := r_passSign (k := (upw (kP (kP (upw k 2 s (k 6 p)) (p + 1)) (nRun (k 6) L 2 (p + 1) 0).1) 3 s (nRun (k 6) L 2 (p + 1) 0).2.1)) (p := (nRun (k 6) L 2 (p + 1) 0).1) d hl hL rfl c1
  have q2 : (nRun (k 6) L 2 (p + 1) 0).1 + 1 ≤ L := by have := c1.1; omega
  have hN2 : aRun false (d + 1) m_X4_passNumber [.ref 14, .int st, .int 1, .int 1, .int 1] (aHk sn sf 21 42 aRg (kP (upw (kP (kP (upw k 2 s (k 6 p)) (p + 1)) (nRun (k 6) L 2 (p + 1) 0).1) 3 s (nRun (k 6) L 2 (p + 1) 0).2.1) ((nRun (k 6) L 2 (p + 1) 0).1 + 1)) wn wd ws) = some (.inl (some (.int (if 1 ≤ (nRun (k 6) L 1 ((nRun (k 6) L 2 (p + 1) 0).1 + 1) 0).2.2 then 1 else 0))), (aHk sn sf 21 42 aRg (upw (kP (kP (upw (kP (kP (upw k 2 s (k 6 p)) (p + 1)) (nRun (k 6) L 2 (p + 1) 0).1) 3 s (nRun (k 6) L 2 (p + 1) 0).2.1) ((nRun (k 6) L 2 (p + 1) 0).1 + 1)) (nRun (k 6) L 1 ((nRun (k 6) L 2 (p + 1) 0).1 + 1) 0).1) 4 s (nRun (k 6) L 1 ((nRun (k 6) L 2 (p + 1) 0).1 + 1) 0).2.1) wn wd ws), (0, 0)) := r_passNumber1 (k := (kP (upw (kP (kP (upw k 2 s (k 6 p)) (p + 1)) (nRun (k 6) L 2 (p + 1) 0).1) 3 s (nRun (k 6) L 2 (p + 1) 0).2.1) ((nRun (k 6) L 2 (p + 1) 0).1 + 1))) (p := ((nRun (k 6) L 2 (p + 1) 0).1 + 1)) (le := 1) (mo := 1) d hs hl hL rfl q2 (by omega) (by omega)
  by_cases c2 : 1 ≤ (nRun (k 6) L 1 ((nRun (k 6) L 2 (p + 1) 0).1 + 1) 0).2.2
  rotate_left
  · have eS : pS (k 6) L p = (false, (nRun (k 6) L 1 ((nRun (k 6) L 2 (p + 1) 0).1 + 1) 0).1, upd (upd (fun _ => 0) 0 (nRun (k 6) L 2 (p + 1) 0).2.1) 1 (nRun (k 6) L 1 ((nRun (k 6) L 2 (p + 1) 0).1 + 1) 0).2.1) := by rw [e0, pI_n c0, pI_s c1, pI_no c2]
    rw [if_neg c2] at hN2
    rw [eS]
    refine ⟨(upw (kP (kP (upw (kP (kP (upw k 2 s (k 6 p)) (p + 1)) (nRun (k 6) L 2 (p + 1) 0).1) 3 s (nRun (k 6) L 2 (p + 1) 0).2.1) ((nRun (k 6) L 2 (p + 1) 0).1 + 1)) (nRun (k 6) L 1 ((nRun (k 6) L 2 (p + 1) 0).1 + 1) 0).1) 4 s (nRun (k 6) L 1 ((nRun (k 6) L 2 (p + 1) 0).1 + 1) 0).2.1), ?_, rfl, pFr_w (by omega) (pFr_p (pFr_p (pFr_w (by omega) (pFr_p (pFr_p (pFr_w (Or.inl rfl) pFr_rf)))))), fun q => absurd (show false = true from q) (by decide)⟩
    refine aRun_of rfl (aVn_end (stop := fun p => false) 120 ?_)
    refine And.intro (fun _ => ?_) (fun q => absurd (cF q) (fun r => r ((zI_lt hp hl (by omega) (by omega)).mpr h)))
    refine Exists.intro p (And.intro hi ?_)
    refine And.intro hch ?_
    refine Exists.intro s (And.intro hs ?_)
    refine And.intro (fun q => absurd q (by rw [hvi]; decide)) ?_
    refine And.intro (fun q => absurd (hvi.symm.trans q) (by decide)) ?_
    refine And.intro (fun q => absurd (hvi.symm.trans q) (by decide)) ?_
    refine And.intro (fun q => absurd (hvi.symm.trans q) (by decide)) ?_
    refine And.intro (fun q => absurd (hvi.symm.trans q) (by decide)) ?_
    refine And.intro (fun q => absurd (hvi.symm.trans q) (by decide)) ?_
    refine And.intro (fun q => absurd (hvi.symm.trans q) (by decide)) ?_
    refine And.intro (fun q => absurd (hvi.symm.trans q) (by decide)) ?_
    refine And.intro (fun q => absurd (hvi.symm.trans q) (by decide)) ?_
    refine And.intro (fun q => absurd (hvi.symm.trans q) (by decide)) ?_
    refine And.intro (fun q => absurd (hvi.symm.trans q) (by decide)) ?_
    refine And.intro (fun q => absurd (hvi.symm.trans q) (by decide)) ?_
    refine And.intro (fun _ => ?_) (And.intro (fun q => absurd (hvi.symm.trans q) (by decide)) (And.intro (fun q => absurd (hvi.symm.trans q) (by decide)) (And.intro (fun q => absurd (hvi.symm.trans q) (by decide)) (And.intro (fun q => absurd (hvi.symm.trans q) (by decide)) trivial))))
    refine Exists.intro _ (And.intro hS ?_)
    refine And.intro (fun q => absurd (show false = true from q) (by decide)) (fun _ => ?_)
    refine Exists.intro _ (And.intro hN0 ?_)
    refine And.intro (fun q => absurd (show false = true from q) (by decide)) (fun _ => ?_)
    refine Exists.intro _ (And.intro hC1 ?_)
    refine And.intro (fun q => absurd (show false = true from q) (by decide)) (fun _ => ?_)
    refine Exists.intro _ (And.intro hN2 ?_)
    refine And.intro (fun _ => ?_) (fun q => absurd (show true = false from q) (by decide))
    exact And.intro rfl rfl
  rw [if_pos c2] at hN2
  have q3 : (nRun (k 6) L 1 ((nRun (k 6) L 2 (p + 1) 0).1 + 1) 0).1 ≤ L := (nRun_le (t := k 6) 1 ((nRun (k 6) L 2 (p + 1) 0).1 + 1) 0 q2).2.1
  have eS : pS (k 6) L p = (true, (nRun (k 6) L 1 ((nRun (k 6) L 2 (p + 1) 0).1 + 1) 0).1, (upd (upd (fun _ => 0) 0 (nRun (k 6) L 2 (p + 1) 0).2.1) 1 (nRun (k 6) L 1 ((nRun (k 6) L 2 (p + 1) 0).1 + 1) 0).2.1)) := by rw [e0, pI_n c0, pI_s c1, pI_n c2]; rfl
  rw [eS]
  refine ⟨(upw (kP (kP (upw (kP (kP (upw k 2 s (k 6 p)) (p + 1)) (nRun (k 6) L 2 (p + 1) 0).1) 3 s (nRun (k 6) L 2 (p + 1) 0).2.1) ((nRun (k 6) L 2 (p + 1) 0).1 + 1)) (nRun (k 6) L 1 ((nRun (k 6) L 2 (p + 1) 0).1 + 1) 0).1) 4 s (nRun (k 6) L 1 ((nRun (k 6) L 2 (p + 1) 0).1 + 1) 0).2.1), ?_, rfl, (pFr_w (by omega) (pFr_p (pFr_p (pFr_w (by omega) (pFr_p (pFr_p (pFr_w (Or.inl rfl) pFr_rf))))))), fun _ => ⟨upw_eq (w := k) (b := 2) (i := s) (x := k 6 p), (upw_eq (w := kP (kP (upw k 2 s (k 6 p)) (p + 1)) (nRun (k 6) L 2 (p + 1) 0).1) (b := 3) (i := s) (x := (nRun (k 6) L 2 (p + 1) 0).2.1)), fun _ => (upw_eq (w := kP (kP (upw (kP (kP (upw k 2 s (k 6 p)) (p + 1)) (nRun (k 6) L 2 (p + 1) 0).1) 3 s (nRun (k 6) L 2 (p + 1) 0).2.1) ((nRun (k 6) L 2 (p + 1) 0).1 + 1)) (nRun (k 6) L 1 ((nRun (k 6) L 2 (p + 1) 0).1 + 1) 0).1) (b := 4) (i := s) (x := (nRun (k 6) L 1 ((nRun (k 6) L 2 (p + 1) 0).1 + 1) 0).2.1)), fun q => absurd q (by rw [hv]; decide)⟩⟩
  · refine aRun_of rfl (aVn_end (stop := fun p => false) 120 ?_)
    refine And.intro (fun _ => ?_) (fun q => absurd (cF q) (fun r => r ((zI_lt hp hl (by omega) (by omega)).mpr h)))
    refine Exists.intro p (And.intro hi ?_)
    refine And.intro hch ?_
    refine Exists.intro s (And.intro hs ?_)
    refine And.intro (fun q => absurd q (by rw [hvi]; decide)) ?_
    refine And.intro (fun q => absurd (hvi.symm.trans q) (by decide)) ?_
    refine And.intro (fun q => absurd (hvi.symm.trans q) (by decide)) ?_
    refine And.intro (fun q => absurd (hvi.symm.trans q) (by decide)) ?_
    refine And.intro (fun q => absurd (hvi.symm.trans q) (by decide)) ?_
    refine And.intro (fun q => absurd (hvi.symm.trans q) (by decide)) ?_
    refine And.intro (fun q => absurd (hvi.symm.trans q) (by decide)) ?_
    refine And.intro (fun q => absurd (hvi.symm.trans q) (by decide)) ?_
    refine And.intro (fun q => absurd (hvi.symm.trans q) (by decide)) ?_
    refine And.intro (fun q => absurd (hvi.symm.trans q) (by decide)) ?_
    refine And.intro (fun q => absurd (hvi.symm.trans q) (by decide)) ?_
    refine And.intro (fun q => absurd (hvi.symm.trans q) (by decide)) ?_
    refine And.intro (fun _ => ?_) (And.intro (fun q => absurd (hvi.symm.trans q) (by decide)) (And.intro (fun q => absurd (hvi.symm.trans q) (by decide)) (And.intro (fun q => absurd (hvi.symm.trans q) (by decide)) (And.intro (fun q => absurd (hvi.symm.trans q) (by decide)) trivial))))
    refine Exists.intro _ (And.intro hS ?_)
    refine And.intro (fun q => absurd (show false = true from q) (by decide)) (fun _ => ?_)
    refine Exists.intro _ (And.intro hN0 ?_)
    refine And.intro (fun q => absurd (show false = true from q) (by decide)) (fun _ => ?_)
    refine Exists.intro _ (And.intro hC1 ?_)
    refine And.intro (fun q => absurd (show false = true from q) (by decide)) (fun _ => ?_)
    refine Exists.intro _ (And.intro hN2 ?_)
    refine And.intro (fun q => absurd (show false = true from q) (by decide)) (fun _ => ?_)
    exact And.intro rfl rfl
theorem r_passStep_f (d : Nat) (hs : aIx st 20 = some s) (hl : k 7 5 = Int32.ofNat L) (hL : L ≤ 60) (hp : k 7 7 = Int32.ofNat p) (h : p < L) (hch : ((k 6 p).toUInt32 % 65536).toInt32 = k 6 p) (hv : k 6 p = 102) : ∃ k1, aRun false (d + 2) m_X4_passStep [.ref 14, .int st] (aHk sn sf 21 42 aRg k wn wd ws) = some (.inl (some (.int (if (pS (k 6) L p).1 = true then 1 else 0))), (aHk sn sf 21 42 aRg k1 wn wd ws), (0, 0)) ∧ pPost k k1 s p (pS (k 6) L p) := by
  have hi : aIx (k 7 7) 60 = some p := aIx_of hp (by omega) (by omega)
  have hvi : (k 6 p).toInt = 102 := by rw [hv]; rfl
  have e0 := pS_of (t := k 6) h (show pOf (k 6 p) = some [.inr (0, 4, 4)] by rw [hv]; rfl)
  have hS : aRun false (d + 1) m_X4_passSign [.ref 14, .int (k 6 p)] (aHk sn sf 21 42 aRg (upw k 2 s (k 6 p)) wn wd ws) = some (.inl (some (.int 1)), (aHk sn sf 21 42 aRg (kP (upw k 2 s (k 6 p)) (p + 1)) wn wd ws), (0, 0)) := r_passSign (k := (upw k 2 s (k 6 p))) (p := p) d hl hL hp ⟨h, rfl⟩
  have q0 : p + 1 ≤ L := by omega
  have hN0 : aRun false (d + 1) m_X4_passNumber [.ref 14, .int st, .int 0, .int 4, .int 4] (aHk sn sf 21 42 aRg (kP (upw k 2 s (k 6 p)) (p + 1)) wn wd ws) = some (.inl (some (.int (if 4 ≤ (nRun (k 6) L 4 (p + 1) 0).2.2 then 1 else 0))), (aHk sn sf 21 42 aRg (upw (kP (kP (upw k 2 s (k 6 p)) (p + 1)) (nRun (k 6) L 4 (p + 1) 0).1) 3 s (nRun (k 6) L 4 (p + 1) 0).2.1) wn wd ws), (0, 0)) := r_passNumber0 (k := (kP (upw k 2 s (k 6 p)) (p + 1))) (p := (p + 1)) (le := 4) (mo := 4) d hs hl hL rfl q0 (by omega) (by omega)
  by_cases c0 : 4 ≤ (nRun (k 6) L 4 (p + 1) 0).2.2
  rotate_left
  · have eS : pS (k 6) L p = (false, (nRun (k 6) L 4 (p + 1) 0).1, upd (fun _ => 0) 0 (nRun (k 6) L 4 (p + 1) 0).2.1) := by rw [e0, pI_no c0]
    rw [if_neg c0] at hN0
    rw [eS]
    refine ⟨(upw (kP (kP (upw k 2 s (k 6 p)) (p + 1)) (nRun (k 6) L 4 (p + 1) 0).1) 3 s (nRun (k 6) L 4 (p + 1) 0).2.1), ?_, rfl, pFr_w (by omega) (pFr_p (pFr_p (pFr_w (Or.inl rfl) pFr_rf))), fun q => absurd (show false = true from q) (by decide)⟩
    refine aRun_of rfl (aVn_end (stop := fun p => false) 120 ?_)
    refine And.intro (fun _ => ?_) (fun q => absurd (cF q) (fun r => r ((zI_lt hp hl (by omega) (by omega)).mpr h)))
    refine Exists.intro p (And.intro hi ?_)
    refine And.intro hch ?_
    refine Exists.intro s (And.intro hs ?_)
    refine And.intro (fun q => absurd q (by rw [hvi]; decide)) ?_
    refine And.intro (fun q => absurd (hvi.symm.trans q) (by decide)) ?_
    refine And.intro (fun _ => ?_) (And.intro (fun q => absurd (hvi.symm.trans q) (by decide)) (And.intro (fun q => absurd (hvi.symm.trans q) (by decide)) (And.intro (fun q => absurd (hvi.symm.trans q) (by decide)) (And.intro (fun q => absurd (hvi.symm.trans q) (by decide)) (And.intro (fun q => absurd (hvi.symm.trans q) (by decide)) (And.intro (fun q => absurd (hvi.symm.trans q) (by decide)) (And.intro (fun q => absurd (hvi.symm.trans q) (by decide)) (And.intro (fun q => absurd (hvi.symm.trans q) (by decide)) (And.intro (fun q => absurd (hvi.symm.trans q) (by decide)) (And.intro (fun q => absurd (hvi.symm.trans q) (by decide)) (And.intro (fun q => absurd (hvi.symm.trans q) (by decide)) (And.intro (fun q => absurd (hvi.symm.trans q) (by decide)) (And.intro (fun q => absurd (hvi.symm.trans q) (by decide)) (And.intro (fun q => absurd (hvi.symm.trans q) (by decide)) trivial))))))))))))))
    refine Exists.intro _ (And.intro hS ?_)
    refine And.intro (fun q => absurd (show false = true from q) (by decide)) (fun _ => ?_)
    refine Exists.intro _ (And.intro hN0 ?_)
    refine And.intro (fun _ => ?_) (fun q => absurd (show true = false from q) (by decide))
    exact And.intro rfl rfl
  rw [if_pos c0] at hN0
  have q1 : (nRun (k 6) L 4 (p + 1) 0).1 ≤ L := (nRun_le (t := k 6) 4 (p + 1) 0 q0).2.1
  have eS : pS (k 6) L p = (true, (nRun (k 6) L 4 (p + 1) 0).1, (upd (fun _ => 0) 0 (nRun (k 6) L 4 (p + 1) 0).2.1)) := by rw [e0, pI_n c0]; rfl
  rw [eS]
  refine ⟨(upw (kP (kP (upw k 2 s (k 6 p)) (p + 1)) (nRun (k 6) L 4 (p + 1) 0).1) 3 s (nRun (k 6) L 4 (p + 1) 0).2.1), ?_, rfl, (pFr_w (by omega) (pFr_p (pFr_p (pFr_w (Or.inl rfl) pFr_rf)))), fun _ => ⟨upw_eq (w := k) (b := 2) (i := s) (x := k 6 p), (upw_eq (w := kP (kP (upw k 2 s (k 6 p)) (p + 1)) (nRun (k 6) L 4 (p + 1) 0).1) (b := 3) (i := s) (x := (nRun (k 6) L 4 (p + 1) 0).2.1)), fun q => absurd q (by rw [hv]; decide), fun q => absurd q (by rw [hv]; decide)⟩⟩
  · refine aRun_of rfl (aVn_end (stop := fun p => false) 120 ?_)
    refine And.intro (fun _ => ?_) (fun q => absurd (cF q) (fun r => r ((zI_lt hp hl (by omega) (by omega)).mpr h)))
    refine Exists.intro p (And.intro hi ?_)
    refine And.intro hch ?_
    refine Exists.intro s (And.intro hs ?_)
    refine And.intro (fun q => absurd q (by rw [hvi]; decide)) ?_
    refine And.intro (fun q => absurd (hvi.symm.trans q) (by decide)) ?_
    refine And.intro (fun _ => ?_) (And.intro (fun q => absurd (hvi.symm.trans q) (by decide)) (And.intro (fun q => absurd (hvi.symm.trans q) (by decide)) (And.intro (fun q => absurd (hvi.symm.trans q) (by decide)) (And.intro (fun q => absurd (hvi.symm.trans q) (by decide)) (And.intro (fun q => absurd (hvi.symm.trans q) (by decide)) (And.intro (fun q => absurd (hvi.symm.trans q) (by decide)) (And.intro (fun q => absurd (hvi.symm.trans q) (by decide)) (And.intro (fun q => absurd (hvi.symm.trans q) (by decide)) (And.intro (fun q => absurd (hvi.symm.trans q) (by decide)) (And.intro (fun q => absurd (hvi.symm.trans q) (by decide)) (And.intro (fun q => absurd (hvi.symm.trans q) (by decide)) (And.intro (fun q => absurd (hvi.symm.trans q) (by decide)) (And.intro (fun q => absurd (hvi.symm.trans q) (by decide)) (And.intro (fun q => absurd (hvi.symm.trans q) (by decide)) trivial))))))))))))))
    refine Exists.intro _ (And.intro hS ?_)
    refine And.intro (fun q => absurd (show false = true from q) (by decide)) (fun _ => ?_)
    refine Exists.intro _ (And.intro hN0 ?_)
    refine And.intro (fun q => absurd (show false = true from q) (by decide)) (fun _ => ?_)
    exact And.intro rfl rfl
theorem r_passStep_e (d : Nat) (hs : aIx st 20 = some s) (hl : k 7 5 = Int32.ofNat L) (hL : L ≤ 60) (hp : k 7 7 = Int32.ofNat p) (h : p < L) (hch : ((k 6 p).toUInt32 % 65536).toInt32 = k 6 p) (hv : k 6 p = 101) : ∃ k1, aRun false (d + 2) m_X4_passStep [.ref 14, .int st] (aHk sn sf 21 42 aRg k wn wd ws) = some (.inl (some (.int (if (pS (k 6) L p).1 = true then 1 else 0))), (aHk sn sf 21 42 aRg k1 wn wd ws), (0, 0)) ∧ pPost k k1 s p (pS (k 6) L p) := by
  have hi : aIx (k 7 7) 60 = some p := aIx_of hp (by omega) (by omega)
  have hvi : (k 6 p).toInt = 101 := by rw [hv]; rfl
  have e0 := pS_of (t := k 6) h (show pOf (k 6 p) = some [.inr (0, 1, 1)] by rw [hv]; rfl)
  have hS : aRun false (d + 1) m_X4_passSign [.ref 14, .int (k 6 p)] (aHk sn sf 21 42 aRg (upw k 2 s (k 6 p)) wn wd ws) = some (.inl (some (.int 1)), (aHk sn sf 21 42 aRg (kP (upw k 2 s (k 6 p)) (p + 1)) wn wd ws), (0, 0)) := r_passSign (k := (upw k 2 s (k 6 p))) (p := p) d hl hL hp ⟨h, rfl⟩
  have q0 : p + 1 ≤ L := by omega
  have hN0 : aRun false (d + 1) m_X4_passNumber [.ref 14, .int st, .int 0, .int 1, .int 1] (aHk sn sf 21 42 aRg (kP (upw k 2 s (k 6 p)) (p + 1)) wn wd ws) = some (.inl (some (.int (if 1 ≤ (nRun (k 6) L 1 (p + 1) 0).2.2 then 1 else 0))), (aHk sn sf 21 42 aRg (upw (kP (kP (upw k 2 s (k 6 p)) (p + 1)) (nRun (k 6) L 1 (p + 1) 0).1) 3 s (nRun (k 6) L 1 (p + 1) 0).2.1) wn wd ws), (0, 0)) := r_passNumber0 (k := (kP (upw k 2 s (k 6 p)) (p + 1))) (p := (p + 1)) (le := 1) (mo := 1) d hs hl hL rfl q0 (by omega) (by omega)
  by_cases c0 : 1 ≤ (nRun (k 6) L 1 (p + 1) 0).2.2
  rotate_left
  · have eS : pS (k 6) L p = (false, (nRun (k 6) L 1 (p + 1) 0).1, upd (fun _ => 0) 0 (nRun (k 6) L 1 (p + 1) 0).2.1) := by rw [e0, pI_no c0]
    rw [if_neg c0] at hN0
    rw [eS]
    refine ⟨(upw (kP (kP (upw k 2 s (k 6 p)) (p + 1)) (nRun (k 6) L 1 (p + 1) 0).1) 3 s (nRun (k 6) L 1 (p + 1) 0).2.1), ?_, rfl, pFr_w (by omega) (pFr_p (pFr_p (pFr_w (Or.inl rfl) pFr_rf))), fun q => absurd (show false = true from q) (by decide)⟩
    refine aRun_of rfl (aVn_end (stop := fun p => false) 120 ?_)
    refine And.intro (fun _ => ?_) (fun q => absurd (cF q) (fun r => r ((zI_lt hp hl (by omega) (by omega)).mpr h)))
    refine Exists.intro p (And.intro hi ?_)
    refine And.intro hch ?_
    refine Exists.intro s (And.intro hs ?_)
    refine And.intro (fun q => absurd q (by rw [hvi]; decide)) ?_
    refine And.intro (fun _ => ?_) (And.intro (fun q => absurd (hvi.symm.trans q) (by decide)) (And.intro (fun q => absurd (hvi.symm.trans q) (by decide)) (And.intro (fun q => absurd (hvi.symm.trans q) (by decide)) (And.intro (fun q => absurd (hvi.symm.trans q) (by decide)) (And.intro (fun q => absurd (hvi.symm.trans q) (by decide)) (And.intro (fun q => absurd (hvi.symm.trans q) (by decide)) (And.intro (fun q => absurd (hvi.symm.trans q) (by decide)) (And.intro (fun q => absurd (hvi.symm.trans q) (by decide)) (And.intro (fun q => absurd (hvi.symm.trans q) (by decide)) (And.intro (fun q => absurd (hvi.symm.trans q) (by decide)) (And.intro (fun q => absurd (hvi.symm.trans q) (by decide)) (And.intro (fun q => absurd (hvi.symm.trans q) (by decide)) (And.intro (fun q => absurd (hvi.symm.trans q) (by decide)) (And.intro (fun q => absurd (hvi.symm.trans q) (by decide)) (And.intro (fun q => absurd (hvi.symm.trans q) (by decide)) trivial)))))))))))))))
    refine Exists.intro _ (And.intro hS ?_)
    refine And.intro (fun q => absurd (show false = true from q) (by decide)) (fun _ => ?_)
    refine Exists.intro _ (And.intro hN0 ?_)
    refine And.intro (fun _ => ?_) (fun q => absurd (show true = false from q) (by decide))
    exact And.intro rfl rfl
  rw [if_pos c0] at hN0
  have q1 : (nRun (k 6) L 1 (p + 1) 0).1 ≤ L := (nRun_le (t := k 6) 1 (p + 1) 0 q0).2.1
  have eS : pS (k 6) L p = (true, (nRun (k 6) L 1 (p + 1) 0).1, (upd (fun _ => 0) 0 (nRun (k 6) L 1 (p + 1) 0).2.1)) := by rw [e0, pI_n c0]; rfl
  rw [eS]
  refine ⟨(upw (kP (kP (upw k 2 s (k 6 p)) (p + 1)) (nRun (k 6) L 1 (p + 1) 0).1) 3 s (nRun (k 6) L 1 (p + 1) 0).2.1), ?_, rfl, (pFr_w (by omega) (pFr_p (pFr_p (pFr_w (Or.inl rfl) pFr_rf)))), fun _ => ⟨upw_eq (w := k) (b := 2) (i := s) (x := k 6 p), (upw_eq (w := kP (kP (upw k 2 s (k 6 p)) (p + 1)) (nRun (k 6) L 1 (p + 1) 0).1) (b := 3) (i := s) (x := (nRun (k 6) L 1 (p + 1) 0).2.1)), fun q => absurd q (by rw [hv]; decide), fun q => absurd q (by rw [hv]; decide)⟩⟩
  · refine aRun_of rfl (aVn_end (stop := fun p => false) 120 ?_)
    refine And.intro (fun _ => ?_) (fun q => absurd (cF q) (fun r => r ((zI_lt hp hl (by omega) (by omega)).mpr h)))
    refine Exists.intro p (And.intro hi ?_)
    refine And.intro hch ?_
    refine Exists.intro s (And.intro hs ?_)
    refine And.intro (fun q => absurd q (by rw [hvi]; decide)) ?_
    refine And.intro (fun _ => ?_) (And.intro (fun q => absurd (hvi.symm.trans q) (by decide)) (And.intro (fun q => absurd (hvi.symm.trans q) (by decide)) (And.intro (fun q => absurd (hvi.symm.trans q) (by decide)) (And.intro (fun q => absurd (hvi.symm.trans q) (by decide)) (And.intro (fun q => absurd (hvi.symm.trans q) (by decide)) (And.intro (fun q => absurd (hvi.symm.trans q) (by decide)) (And.intro (fun q => absurd (hvi.symm.trans q) (by decide)) (And.intro (fun q => absurd (hvi.symm.trans q) (by decide)) (And.intro (fun q => absurd (hvi.symm.trans q) (by decide)) (And.intro (fun q => absurd (hvi.symm.trans q) (by decide)) (And.intro (fun q => absurd (hvi.symm.trans q) (by decide)) (And.intro (fun q => absurd (hvi.symm.trans q) (by decide)) (And.intro (fun q => absurd (hvi.symm.trans q) (by decide)) (And.intro (fun q => absurd (hvi.symm.trans q) (by decide)) (And.intro (fun q => absurd (hvi.symm.trans q) (by decide)) trivial)))))))))))))))
    refine Exists.intro _ (And.intro hS ?_)
    refine And.intro (fun q => absurd (show false = true from q) (by decide)) (fun _ => ?_)
    refine Exists.intro _ (And.intro hN0 ?_)
    refine And.intro (fun q => absurd (show false = true from q) (by decide)) (fun _ => ?_)
    exact And.intro rfl rfl
theorem r_passStep_s (d : Nat) (hs : aIx st 20 = some s) (hl : k 7 5 = Int32.ofNat L) (hL : L ≤ 60) (hp : k 7 7 = Int32.ofNat p) (h : p < L) (hch : ((k 6 p).toUInt32 % 65536).toInt32 = k 6 p) (hv : k 6 p = 115) : ∃ k1, aRun false (d + 2) m_X4_passStep [.ref 14, .int st] (aHk sn sf 21 42 aRg k wn wd ws) = some (.inl (some (.int (if (pS (k 6) L p).1 = true then 1 else 0))), (aHk sn sf 21 42 aRg k1 wn wd ws), (0, 0)) ∧ pPost k k1 s p (pS (k 6) L p) := by
  have hi : aIx (k 7 7) 60 = some p := aIx_of hp (by omega) (by omega)
  have hvi : (k 6 p).toInt = 115 := by rw [hv]; rfl
  have e0 := pS_of (t := k 6) h (show pOf (k 6 p) = some [.inr (0, 1, 1)] by rw [hv]; rfl)
  have hS : aRun false (d + 1) m_X4_passSign [.ref 14, .int (k 6 p)] (aHk sn sf 21 42 aRg (upw k 2 s (k 6 p)) wn wd ws) = some (.inl (some (.int 1)), (aHk sn sf 21 42 aRg (kP (upw k 2 s (k 6 p)) (p + 1)) wn wd ws), (0, 0)) := r_passSign (k := (upw k 2 s (k 6 p))) (p := p) d hl hL hp ⟨h, rfl⟩
  have q0 : p + 1 ≤ L := by omega
  have hN0 : aRun false (d + 1) m_X4_passNumber [.ref 14, .int st, .int 0, .int 1, .int 1] (aHk sn sf 21 42 aRg (kP (upw k 2 s (k 6 p)) (p + 1)) wn wd ws) = some (.inl (some (.int (if 1 ≤ (nRun (k 6) L 1 (p + 1) 0).2.2 then 1 else 0))), (aHk sn sf 21 42 aRg (upw (kP (kP (upw k 2 s (k 6 p)) (p + 1)) (nRun (k 6) L 1 (p + 1) 0).1) 3 s (nRun (k 6) L 1 (p + 1) 0).2.1) wn wd ws), (0, 0)) := r_passNumber0 (k := (kP (upw k 2 s (k 6 p)) (p + 1))) (p := (p + 1)) (le := 1) (mo := 1) d hs hl hL rfl q0 (by omega) (by omega)
  by_cases c0 : 1 ≤ (nRun (k 6) L 1 (p + 1) 0).2.2
  rotate_left
  · have eS : pS (k 6) L p = (false, (nRun (k 6) L 1 (p + 1) 0).1, upd (fun _ => 0) 0 (nRun (k 6) L 1 (p + 1) 0).2.1) := by rw [e0, pI_no c0]
    rw [if_neg c0] at hN0
    rw [eS]
    refine ⟨(upw (kP (kP (upw k 2 s (k 6 p)) (p + 1)) (nRun (k 6) L 1 (p + 1) 0).1) 3 s (nRun (k 6) L 1 (p + 1) 0).2.1), ?_, rfl, pFr_w (by omega) (pFr_p (pFr_p (pFr_w (Or.inl rfl) pFr_rf))), fun q => absurd (show false = true from q) (by decide)⟩
    refine aRun_of rfl (aVn_end (stop := fun p => false) 120 ?_)
    refine And.intro (fun _ => ?_) (fun q => absurd (cF q) (fun r => r ((zI_lt hp hl (by omega) (by omega)).mpr h)))
    refine Exists.intro p (And.intro hi ?_)
    refine And.intro hch ?_
    refine Exists.intro s (And.intro hs ?_)
    refine And.intro (fun q => absurd q (by rw [hvi]; decide)) ?_
    refine And.intro (fun q => absurd (hvi.symm.trans q) (by decide)) ?_
    refine And.intro (fun q => absurd (hvi.symm.trans q) (by decide)) ?_
    refine And.intro (fun q => absurd (hvi.symm.trans q) (by decide)) ?_
    refine And.intro (fun q => absurd (hvi.symm.trans q) (by decide)) ?_
    refine And.intro (fun q => absurd (hvi.symm.trans q) (by decide)) ?_
    refine And.intro (fun q => absurd (hvi.symm.trans q) (by decide)) ?_
    refine And.intro (fun q => absurd (hvi.symm.trans q) (by decide)) ?_
    refine And.intro (fun q => absurd (hvi.symm.trans q) (by decide)) ?_
    refine And.intro (fun q => absurd (hvi.symm.trans q) (by decide)) ?_
    refine And.intro (fun q => absurd (hvi.symm.trans q) (by decide)) ?_
    refine And.intro (fun q => absurd (hvi.symm.trans q) (by decide)) ?_
    refine And.intro (fun q => absurd (hvi.symm.trans q) (by decide)) ?_
    refine And.intro (fun q => absurd (hvi.symm.trans q) (by decide)) ?_
    refine And.intro (fun q => absurd (hvi.symm.trans q) (by decide)) ?_
    refine And.intro (fun _ => ?_) (And.intro (fun q => absurd (hvi.symm.trans q) (by decide)) trivial)
    refine Exists.intro _ (And.intro hS ?_)
    refine And.intro (fun q => absurd (show false = true from q) (by decide)) (fun _ => ?_)
    refine Exists.intro _ (And.intro hN0 ?_)
    refine And.intro (fun _ => ?_) (fun q => absurd (show true = false from q) (by decide))
    exact And.intro rfl rfl
  rw [if_pos c0] at hN0
  have q1 : (nRun (k 6) L 1 (p + 1) 0).1 ≤ L := (nRun_le (t := k 6) 1 (p + 1) 0 q0).2.1
  have eS : pS (k 6) L p = (true, (nRun (k 6) L 1 (p + 1) 0).1, (upd (fun _ => 0) 0 (nRun (k 6) L 1 (p + 1) 0).2.1)) := by rw [e0, pI_n c0]; rfl
  rw [eS]
  refine ⟨(upw (kP (kP (upw k 2 s (k 6 p)) (p + 1)) (nRun (k 6) L 1 (p + 1) 0).1) 3 s (nRun (k 6) L 1 (p + 1) 0).2.1), ?_, rfl, (pFr_w (by omega) (pFr_p (pFr_p (pFr_w (Or.inl rfl) pFr_rf)))), fun _ => ⟨upw_eq (w := k) (b := 2) (i := s) (x := k 6 p), (upw_eq (w := kP (kP (upw k 2 s (k 6 p)) (p + 1)) (nRun (k 6) L 1 (p + 1) 0).1) (b := 3) (i := s) (x := (nRun (k 6) L 1 (p + 1) 0).2.1)), fun q => absurd q (by rw [hv]; decide), fun q => absurd q (by rw [hv]; decide)⟩⟩
  · refine aRun_of rfl (aVn_end (stop := fun p => false) 120 ?_)
    refine And.intro (fun _ => ?_) (fun q => absurd (cF q) (fun r => r ((zI_lt hp hl (by omega) (by omega)).mpr h)))
    refine Exists.intro p (And.intro hi ?_)
    refine And.intro hch ?_
    refine Exists.intro s (And.intro hs ?_)
    refine And.intro (fun q => absurd q (by rw [hvi]; decide)) ?_
    refine And.intro (fun q => absurd (hvi.symm.trans q) (by decide)) ?_
    refine And.intro (fun q => absurd (hvi.symm.trans q) (by decide)) ?_
    refine And.intro (fun q => absurd (hvi.symm.trans q) (by decide)) ?_
    refine And.intro (fun q => absurd (hvi.symm.trans q) (by decide)) ?_
    refine And.intro (fun q => absurd (hvi.symm.trans q) (by decide)) ?_
    refine And.intro (fun q => absurd (hvi.symm.trans q) (by decide)) ?_
    refine And.intro (fun q => absurd (hvi.symm.trans q) (by decide)) ?_
    refine And.intro (fun q => absurd (hvi.symm.trans q) (by decide)) ?_
    refine And.intro (fun q => absurd (hvi.symm.trans q) (by decide)) ?_
    refine And.intro (fun q => absurd (hvi.symm.trans q) (by decide)) ?_
    refine And.intro (fun q => absurd (hvi.symm.trans q) (by decide)) ?_
    refine And.intro (fun q => absurd (hvi.symm.trans q) (by decide)) ?_
    refine And.intro (fun q => absurd (hvi.symm.trans q) (by decide)) ?_
    refine And.intro (fun q => absurd (hvi.symm.trans q) (by decide)) ?_
    refine And.intro (fun _ => ?_) (And.intro (fun q => absurd (hvi.symm.trans q) (by decide)) trivial)
    refine Exists.intro _ (And.intro hS ?_)
    refine And.intro (fun q => absurd (show false = true from q) (by decide)) (fun _ => ?_)
    refine Exists.intro _ (And.intro hN0 ?_)
    refine And.intro (fun q => absurd (show false = true from q) (by decide)) (fun _ => ?_)
    exact And.intro rfl rfl
theorem r_passStep_n (d : Nat) (hs : aIx st 20 = some s) (hl : k 7 5 = Int32.ofNat L) (hL : L ≤ 60) (hp : k 7 7 = Int32.ofNat p) (h : p < L) (hch : ((k 6 p).toUInt32 % 65536).toInt32 = k 6 p) (hv : pOf (k 6 p) = none) : ∃ k1, aRun false (d + 2) m_X4_passStep [.ref 14, .int st] (aHk sn sf 21 42 aRg k wn wd ws) = some (.inl (some (.int (if (pS (k 6) L p).1 = true then 1 else 0))), (aHk sn sf 21 42 aRg k1 wn wd ws), (0, 0)) ∧ pPost k k1 s p (pS (k 6) L p) := by
  have hi : aIx (k 7 7) 60 = some p := aIx_of hp (by omega) (by omega)
  have n1 : ¬ k 6 p = 116 := fun q => by rw [q] at hv; exact absurd hv (by decide)
  have n2 : ¬ k 6 p = 103 := fun q => by rw [q] at hv; exact absurd hv (by decide)
  have n3 : ¬ k 6 p = 112 := fun q => by rw [q] at hv; exact absurd hv (by decide)
  have n4 : ¬ k 6 p = 102 := fun q => by rw [q] at hv; exact absurd hv (by decide)
  have n5 : ¬ k 6 p = 101 := fun q => by rw [q] at hv; exact absurd hv (by decide)
  have n6 : ¬ k 6 p = 115 := fun q => by rw [q] at hv; exact absurd hv (by decide)
  rw [pS_no h hv]
  refine ⟨upw k 2 s (k 6 p), ?_, hp, pFr_w (Or.inl rfl) pFr_rf, fun q => absurd (show false = true from q) (by decide)⟩
  refine aRun_of rfl (aVn_end (stop := fun p => false) 120 ?_)
  refine And.intro (fun _ => ?_) (fun q => absurd (cF q) (fun r => r ((zI_lt hp hl (by omega) (by omega)).mpr h)))
  refine Exists.intro p (And.intro hi ?_)
  refine And.intro hch ?_
  refine Exists.intro s (And.intro hs ?_)
  refine And.intro (fun _ => And.intro rfl rfl) ?_
  refine And.intro (fun q => absurd (tI (y := 101) q) n5) ?_
  refine And.intro (fun q => absurd (tI (y := 102) q) n4) ?_
  refine And.intro (fun q => absurd (tI (y := 103) q) n2) ?_
  refine And.intro (fun q => And.intro rfl rfl) ?_
  refine And.intro (fun q => And.intro rfl rfl) ?_
  refine And.intro (fun q => And.intro rfl rfl) ?_
  refine And.intro (fun q => And.intro rfl rfl) ?_
  refine And.intro (fun q => And.intro rfl rfl) ?_
  refine And.intro (fun q => And.intro rfl rfl) ?_
  refine And.intro (fun q => And.intro rfl rfl) ?_
  refine And.intro (fun q => And.intro rfl rfl) ?_
  refine And.intro (fun q => absurd (tI (y := 112) q) n3) ?_
  refine And.intro (fun q => And.intro rfl rfl) ?_
  refine And.intro (fun q => And.intro rfl rfl) ?_
  refine And.intro (fun q => absurd (tI (y := 115) q) n6) ?_
  refine And.intro (fun q => absurd (tI (y := 116) q) n1) ?_
  exact trivial
theorem r_passStep_z (d : Nat) (hs : aIx st 20 = some s) (hl : k 7 5 = Int32.ofNat L) (hL : L ≤ 60) (hp : k 7 7 = Int32.ofNat p) (hpL : p ≤ L) (h : ¬ p < L) : ∃ k1, aRun false (d + 2) m_X4_passStep [.ref 14, .int st] (aHk sn sf 21 42 aRg k wn wd ws) = some (.inl (some (.int (if (pS (k 6) L p).1 = true then 1 else 0))), (aHk sn sf 21 42 aRg k1 wn wd ws), (0, 0)) ∧ pPost k k1 s p (pS (k 6) L p) := by
  rw [pS_end h]
  refine ⟨k, ?_, hp, pFr_rf, fun q => absurd (show false = true from q) (by decide)⟩
  refine aRun_of rfl (aVn_end (stop := fun p => false) 120 ?_)
  refine And.intro (fun q => absurd ((zI_lt hp hl (by omega) (by omega)).mp (cT q)) h) (fun _ => ?_)
  exact And.intro rfl rfl
theorem r_passStep (d : Nat) (hs : aIx st 20 = some s) (hl : k 7 5 = Int32.ofNat L) (hL : L ≤ 60) (hp : k 7 7 = Int32.ofNat p) (hpL : p ≤ L) (hch : p < L → ((k 6 p).toUInt32 % 65536).toInt32 = k 6 p) : ∃ k1, aRun false (d + 2) m_X4_passStep [.ref 14, .int st] (aHk sn sf 21 42 aRg k wn wd ws) = some (.inl (some (.int (if (pS (k 6) L p).1 = true then 1 else 0))), (aHk sn sf 21 42 aRg k1 wn wd ws), (0, 0)) ∧ pPost k k1 s p (pS (k 6) L p) := by
  by_cases h : p < L
  rotate_left
  · exact r_passStep_z d hs hl hL hp hpL h
  by_cases h1 : k 6 p = 116
  · exact r_passStep_t d hs hl hL hp h (hch h) h1
  by_cases h2 : k 6 p = 103
  · exact r_passStep_g d hs hl hL hp h (hch h) h2
  by_cases h3 : k 6 p = 112
  · exact r_passStep_p d hs hl hL hp h (hch h) h3
  by_cases h4 : k 6 p = 102
  · exact r_passStep_f d hs hl hL hp h (hch h) h4
  by_cases h5 : k 6 p = 101
  · exact r_passStep_e d hs hl hL hp h (hch h) h5
  by_cases h6 : k 6 p = 115
  · exact r_passStep_s d hs hl hL hp h (hch h) h6
  exact r_passStep_n d hs hl hL hp h (hch h) (by rw [pOf, if_neg h1, if_neg h2, if_neg h3, if_neg h4, if_neg h5, if_neg h6])
end PT
