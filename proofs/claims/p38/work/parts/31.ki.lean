/-! A WORKS ANYWHERE: what a method does to its own Works, it does there -/
def uW (b q : Nat) : Nat := bif Nat.blt q 8 then q else b + (q - 8)
theorem uW_lo {b q : Nat} (h : q < 8) : uW b q = q := by
  unfold uW
  rw [(Nat.blt_eq).mpr h]
  rfl
theorem uW_hi {b i : Nat} : uW b (8 + i) = b + i := by
  unfold uW
  have h : Nat.blt (8 + i) 8 = false := by
    cases e : Nat.blt (8 + i) 8
    · rfl
    · exact absurd ((Nat.blt_eq).mp e) (by omega)
  rw [h]
  show b + (8 + i - 8) = _
  omega
theorem aWk_len (b : Nat) (w : aW) : (aWk b w).length = 21 := rfl
theorem aWk_ren (b : Nat) (w : aW) : (aWk 8 w).map (aCc (uW b)) = aWk b w := rfl
theorem aHw_ren (b sn : Nat) (sf : Nat → Int32) (w : aW) : (aHw sn sf w).map (aCc (uW b)) = aS0 sn sf ++ aWk b w := rfl
theorem at_app {α : Type} (L1 L2 L3 : List α) (i : Nat) (h : i < L2.length) : (L1 ++ (L2 ++ L3))[L1.length + i]? = L2[i]? := by
  rw [List.getElem?_append_right (by omega), Nat.add_sub_cancel_left, List.getElem?_append_left h]
theorem at_mid {α : Type} (L1 M M1 L2 : List α) (hM : M.length = M1.length) (j : Nat) (h : ¬ (L1.length ≤ j ∧ j < L1.length + M.length)) : (L1 ++ (M ++ L2))[j]? = (L1 ++ (M1 ++ L2))[j]? := by
  by_cases h1 : j < L1.length
  · rw [List.getElem?_append_left h1, List.getElem?_append_left h1]
  · rw [List.getElem?_append_right (by omega), List.getElem?_append_right (by omega), List.getElem?_append_right (by omega), List.getElem?_append_right (by omega), hM]
theorem at_mid3 {α : Type} (L9 L1 M M1 L2 : List α) (hM : M.length = M1.length) (j : Nat) (h : ¬ (L9.length + L1.length ≤ j ∧ j < L9.length + L1.length + M.length)) : (L9 ++ (L1 ++ (M ++ L2)))[j]? = (L9 ++ (L1 ++ (M1 ++ L2)))[j]? := by
  have g := at_mid (L9 ++ L1) M M1 L2 hM j (by rw [List.length_append]; exact h)
  rw [List.append_assoc, List.append_assoc] at g
  exact g
theorem lift {sn : Nat} {sf : Nat → Int32} {w w1 : aW} {d m : Nat} {as : List Value} {x : Option Value ⊕ Nat} {kk : aK} {L0 L2 : aH} {b : Nat} (hb : 8 + L0.length = b) (hr : aRun false d m as (aHw sn sf w) = some (x, aHw sn sf w1, kk)) : aRun false d m (as.map (aCv (uW b))) (aS0 sn sf ++ (L0 ++ (aWk b w ++ L2))) = some (aRv (uW b) x, aS0 sn sf ++ (L0 ++ (aWk b w1 ++ L2)), kk) := by
  have hs8 : (aS0 sn sf).length = 8 := rfl
  have big : ∀ (v : aW) (i : Nat), i < 21 → (aS0 sn sf ++ (L0 ++ (aWk b v ++ L2)))[b + i]? = (aWk b v)[i]? := by
    intro v i hi
    rw [← List.append_assoc, show b + i = (aS0 sn sf ++ L0).length + i by rw [List.length_append, hs8, hb]]
    exact at_app _ _ _ _ hi
  have lo : ∀ (v : aW) (q : Nat), q < 8 → (aS0 sn sf ++ (L0 ++ (aWk b v ++ L2)))[q]? = (aS0 sn sf)[q]? := by
    intro v q hq
    exact List.getElem?_append_left hq
  have hlen : ∀ v, (aHw sn sf v).length = 29 := fun _ => rfl
  have img : ∀ (v : aW) (q : Nat), (aS0 sn sf ++ aWk b v)[q]? = ((aHw sn sf v)[q]?).map (aCc (uW b)) := by
    intro v q
    rw [← List.getElem?_map, aHw_ren]
  have plo : ∀ (v : aW) (q : Nat), q < 8 → (aS0 sn sf ++ aWk b v)[q]? = (aS0 sn sf)[q]? := fun v q hq => List.getElem?_append_left hq
  have phi : ∀ (v : aW) (i : Nat), (aS0 sn sf ++ aWk b v)[8 + i]? = (aWk b v)[i]? := by
    intro v i
    rw [List.getElem?_append_right (by rw [hs8]; omega), hs8, Nat.add_sub_cancel_left]
  have I : aIso (uW b) (aHw sn sf w) (aS0 sn sf ++ (L0 ++ (aWk b w ++ L2))) := by
    refine ⟨fun q c hq => ?_, fun q q1 h1 h2 e => ?_, fun q hq => uW_lo hq⟩
    · have e := img w q
      rw [hq] at e
      by_cases h : q < 8
      · rw [uW_lo h, lo w q h, ← plo w q h]
        exact e
      · obtain ⟨i, rfl⟩ : ∃ i, q = 8 + i := ⟨q - 8, by omega⟩
        have hi : 8 + i < 29 := (List.getElem?_eq_some_iff.mp hq).1
        rw [uW_hi, big w i (by omega), ← phi w i]
        exact e
    · by_cases g1 : q < 8
      · rw [uW_lo g1] at e
        by_cases g2 : q1 < 8
        · rw [uW_lo g2] at e
          exact e
        · obtain ⟨i, rfl⟩ : ∃ i, q1 = 8 + i := ⟨q1 - 8, by omega⟩
          rw [uW_hi] at e
          omega
      · obtain ⟨i, rfl⟩ : ∃ i, q = 8 + i := ⟨q - 8, by omega⟩
        rw [uW_hi] at e
        by_cases g2 : q1 < 8
        · rw [uW_lo g2] at e
          omega
        · obtain ⟨j, rfl⟩ : ∃ j, q1 = 8 + j := ⟨q1 - 8, by omega⟩
          rw [uW_hi] at e
          omega
  obtain ⟨H1, e1, J, -, -, e4⟩ := aRun_ren aSt8_ok d m as _ _ _ I hr
  have im1 : ∀ q, q < 29 → H1[uW b q]? = (aS0 sn sf ++ aWk b w1)[q]? := by
    intro q hq
    obtain ⟨c, hc⟩ : ∃ c, (aHw sn sf w1)[q]? = some c := ⟨_, List.getElem?_eq_getElem (by rw [hlen]; exact hq)⟩
    rw [J.1 q c hc, img, hc]
    rfl
  have eH : H1 = aS0 sn sf ++ (L0 ++ (aWk b w1 ++ L2)) := by
    refine List.ext_getElem? fun j => ?_
    by_cases h8 : j < 8
    · have g := im1 j (by omega)
      rw [uW_lo h8] at g
      rw [lo w1 j h8, g, plo w1 j h8]
    · by_cases hj : b ≤ j ∧ j < b + 21
      · obtain ⟨i, rfl⟩ : ∃ i, j = b + i := ⟨j - b, by omega⟩
        have hi : i < 21 := by omega
        have g := im1 (8 + i) (by omega)
        rw [uW_hi] at g
        rw [big w1 i hi, g, phi w1 i]
      · have f := e4 j (fun q hq e => by
          rw [hlen] at hq
          by_cases g1 : q < 8
          · rw [uW_lo g1] at e
            omega
          · obtain ⟨i, rfl⟩ : ∃ i, q = 8 + i := ⟨q - 8, by omega⟩
            rw [uW_hi] at e
            omega)
        exact f.trans (at_mid3 (aS0 sn sf) L0 (aWk b w) (aWk b w1) L2 rfl j (fun q => hj ⟨by have q1 := q.1; rw [hs8, hb] at q1; exact q1, by have q2 := q.2; rw [aWk_len, hs8, hb] at q2; exact q2⟩))
  rw [e1, eH]
/-! THE KILN'S OWN HEAP. k: 0, 1 the reasons and details; 2 verbs, 3 to 5 numbers, 6 the text; 7: snapshot?, fault, reasons, changes, next, characters, steps, at -/
def aKn0 (pn pd : Nat) (rg : Nat → Option Nat) (k : aW) : aH := [
  aOj 7 [.ref 9, .ref 12, .ref 14, .ref pn, .ref pd, .ref 63, .int (k 7 0), .int (k 7 1)],
  aOj 2 [.int (k 7 2), .ref 10, .ref 11], aAi 3 (k 0), aAi 3 (k 1),
  aOj 0 [.int (k 7 3), .int (k 7 4), .ref 13], (true, .inl (.object RX6, 8, .inr (.inr (.inr (.inr rg))))),
  aOj 4 [.int (k 7 5), .int (k 7 6), .ref 15, .ref 16, .ref 20, .int (k 7 7)], (true, .inl (.char, 20, .inl (k 2))),
  (true, .inl (.array .int, 3, .inr (.inr (.inr (.inr fun i => if i < 3 then some (17 + i) else none))))), aAi 20 (k 3), aAi 20 (k 4), aAi 20 (k 5), (true, .inl (.char, 60, .inl (k 6)))]
def aHk (sn : Nat) (sf : Nat → Int32) (pn pd : Nat) (rg : Nat → Option Nat) (k wn wd ws : aW) : aH := aS0 sn sf ++ (aKn0 pn pd rg k ++ (aWk 21 wn ++ (aWk 42 wd ++ aWk 63 ws)))
section KI
variable {sn : Nat} {sf : Nat → Int32} {pn pd : Nat} {rg : Nat → Option Nat} {k wn wd ws w1 : aW} {n g o d m : Nat} {x y z v u : Int32} {kk : aK} {xx : Option Value ⊕ Nat} {as : List Value}
theorem liftN (hr : aRun false d m as (aHw sn sf wn) = some (xx, aHw sn sf w1, kk)) : aRun false d m (as.map (aCv (uW 21))) (aHk sn sf pn pd rg k wn wd ws) = some (aRv (uW 21) xx, aHk sn sf pn pd rg k w1 wd ws, kk) :=
  lift (b := 21) (L0 := aKn0 pn pd rg k) (L2 := aWk 42 wd ++ aWk 63 ws) rfl hr
theorem liftD (hr : aRun false d m as (aHw sn sf wd) = some (xx, aHw sn sf w1, kk)) : aRun false d m (as.map (aCv (uW 42))) (aHk sn sf pn pd rg k wn wd ws) = some (aRv (uW 42) xx, aHk sn sf pn pd rg k wn w1 ws, kk) :=
  lift (b := 42) (L0 := aKn0 pn pd rg k ++ aWk 21 wn) (L2 := aWk 63 ws) rfl hr
theorem aS_nil : aSum [] ≤ 8 := by decide
/-- System.arraycopy of whole rows -/
theorem aNat_cp {pc : Nat} {ls : List (Option Value)} {r : List Value} {h : aH} {c : Int32} {n q d m0 m1 : Nat} {f e : Nat → Int32} (hc : c = Int32.ofNat n) (hn : n ≤ 60) (hq : h[q]? = some (aAi m0 f)) (hd : h[d]? = some (aAi m1 e)) (h0 : n ≤ m0) (h1 : n ≤ m1) (hr : aSum r ≤ 8) : aNat 502 pc ls (.int c :: .int 0 :: .ref d :: .int 0 :: .ref q :: r) h kk = aGo (pc + 3) ls r (h.set d (aAi m1 (va_cpy f e 0 0 n))) kk := by
  have c0 : ¬ c < 0 := by
    rw [hc]
    have := (zI_le (x := 0) (i := 0) (y := Int32.ofNat n) (n := n) rfl rfl (by omega) (by omega)).mpr (by omega)
    exact Int32.not_lt.mpr this
  have c1 : c.toNatClampNeg = n := zn_of hc (by omega)
  show (if c < 0 ∨ (0 : Int32) < 0 ∨ (0 : Int32) < 0 ∨ 8 < aSum r then none else _) = _
  rw [if_neg (by rintro (q | q | q | q); exact c0 q; exact absurd q (by decide); exact absurd q (by decide); omega)]
  unfold aAr
  rw [hq]
  dsimp only [aAi]
  rw [hd]
  dsimp only [aAi]
  rw [if_pos ⟨rfl, rfl, rfl, rfl, by rw [c1]; show 0 + n ≤ m0; omega, by rw [c1]; show 0 + n ≤ m1; omega⟩, c1]
  rfl
/-- one Works over another: all but the reasons -/
def cp3 (w v : aW) : aW := fun a => match a with
  | 8 => va_cpy (w 8) (v 8) 0 0 8
  | 9 => va_cpy (w 9) (v 9) 0 0 8
  | 16 => fun i => match i with
    | 4 => w 16 4
    | j => v 16 j
  | a => v a
def cp1 (w v : aW) : aW := fun a => match a with
  | 10 => va_cpy (w 10) (v 10) 0 0 6
  | 11 => va_cpy (w 11) (v 11) 0 0 6
  | 12 => va_cpy (w 12) (v 12) 0 0 6
  | 13 => va_cpy (w 13) (v 13) 0 0 24
  | 16 => fun i => match i with
    | 5 => w 16 5
    | j => v 16 j
  | a => v a
def cp5 (w v : aW) : aW := fun a => match a with
  | 1 => va_cpy (w 1) (v 1) 0 0 60
  | 2 => va_cpy (w 2) (v 2) 0 0 60
  | 3 => va_cpy (w 3) (v 3) 0 0 60
  | 4 => va_cpy (w 4) (v 4) 0 0 60
  | 5 => va_cpy (w 5) (v 5) 0 0 60
  | 6 => va_cpy (w 6) (v 6) 0 0 60
  | 7 => va_cpy (w 7) (v 7) 0 0 60
  | 16 => fun i => match i with
    | 3 => w 16 3
    | j => v 16 j
  | a => v a
def cpW (w v : aW) : aW := fun a => match a with
  | 0 => va_cpy (w 0) (v 0) 0 0 3
  | 16 => fun i => match i with
    | 0 => w 16 0
    | 1 => w 16 1
    | 2 => w 16 2
    | j => cp1 w (cp3 w (cp5 w v)) 16 j
  | a => cp1 w (cp3 w (cp5 w v)) a
theorem r_cp5D (d : Nat) : aRun false (d + 1) m_X5_copyFrom [.ref 44, .ref 23] (aHk sn sf pn pd rg k wn wd ws) = some (.inl none, aHk sn sf pn pd rg k wn (cp5 wn wd) ws, (0, 0)) := by
  refine aRun_of rfl (aVn_end (stop := fun p => false) 120 ?_)
  refine Exists.intro _ (And.intro (aNat_cp (n := 60) rfl (by omega) rfl rfl (by omega) (by omega) aS_nil) ?_)
  refine Exists.intro _ (And.intro (aNat_cp (n := 60) rfl (by omega) rfl rfl (by omega) (by omega) aS_nil) ?_)
  refine Exists.intro _ (And.intro (aNat_cp (n := 60) rfl (by omega) rfl rfl (by omega) (by omega) aS_nil) ?_)
  refine Exists.intro _ (And.intro (aNat_cp (n := 60) rfl (by omega) rfl rfl (by omega) (by omega) aS_nil) ?_)
  refine Exists.intro _ (And.intro (aNat_cp (n := 60) rfl (by omega) rfl rfl (by omega) (by omega) aS_nil) ?_)
  refine Exists.intro _ (And.intro (aNat_cp (n := 60) rfl (by omega) rfl rfl (by omega) (by omega) aS_nil) ?_)
  refine Exists.intro _ (And.intro (aNat_cp (n := 60) rfl (by omega) rfl rfl (by omega) (by omega) aS_nil) ?_)
  exact rfl
theorem r_cp3D (d : Nat) : aRun false (d + 1) m_X3_copyFrom [.ref 52, .ref 31] (aHk sn sf pn pd rg k wn wd ws) = some (.inl none, aHk sn sf pn pd rg k wn (cp3 wn wd) ws, (0, 0)) := by
  refine aRun_of rfl (aVn_end (stop := fun p => false) 120 ?_)
  refine Exists.intro _ (And.intro (aNat_cp (n := 8) rfl (by omega) rfl rfl (by omega) (by omega) aS_nil) ?_)
  refine Exists.intro _ (And.intro (aNat_cp (n := 8) rfl (by omega) rfl rfl (by omega) (by omega) aS_nil) ?_)
  exact rfl
theorem r_cp1D (d : Nat) : aRun false (d + 1) m_X1_copyFrom [.ref 55, .ref 34] (aHk sn sf pn pd rg k wn wd ws) = some (.inl none, aHk sn sf pn pd rg k wn (cp1 wn wd) ws, (0, 0)) := by
  refine aRun_of rfl (aVn_end (stop := fun p => false) 120 ?_)
  refine Exists.intro _ (And.intro (aNat_cp (n := 6) rfl (by omega) rfl rfl (by omega) (by omega) aS_nil) ?_)
  refine Exists.intro _ (And.intro (aNat_cp (n := 6) rfl (by omega) rfl rfl (by omega) (by omega) aS_nil) ?_)
  refine Exists.intro _ (And.intro (aNat_cp (n := 6) rfl (by omega) rfl rfl (by omega) (by omega) aS_nil) ?_)
  refine Exists.intro _ (And.intro (aNat_cp (n := 24) rfl (by omega) rfl rfl (by omega) (by omega) aS_nil) ?_)
  exact rfl
theorem r_copyFromD (d : Nat) : aRun false (d + 2) m_X6_copyFrom [.ref 42, .ref 21] (aHk sn sf pn pd rg k wn wd ws) = some (.inl none, aHk sn sf pn pd rg k wn (cpW wn wd) ws, (0, 0)) := by
  refine aRun_of rfl (aVn_end (stop := fun p => false) 120 ?_)
  refine Exists.intro _ (And.intro (r_cp5D d) ?_)
  refine Exists.intro _ (And.intro (r_cp3D (wd := cp5 wn wd) d) ?_)
  refine Exists.intro _ (And.intro (r_cp1D (wd := cp3 wn (cp5 wn wd)) d) ?_)
  refine Exists.intro _ (And.intro (aNat_cp (n := 3) rfl (by omega) rfl rfl (by omega) (by omega) aS_nil) ?_)
  exact rfl
theorem r_cp5S (d : Nat) : aRun false (d + 1) m_X5_copyFrom [.ref 65, .ref 23] (aHk sn sf pn pd rg k wn wd ws) = some (.inl none, aHk sn sf pn pd rg k wn wd (cp5 wn ws), (0, 0)) := by
  refine aRun_of rfl (aVn_end (stop := fun p => false) 120 ?_)
  refine Exists.intro _ (And.intro (aNat_cp (n := 60) rfl (by omega) rfl rfl (by omega) (by omega) aS_nil) ?_)
  refine Exists.intro _ (And.intro (aNat_cp (n := 60) rfl (by omega) rfl rfl (by omega) (by omega) aS_nil) ?_)
  refine Exists.intro _ (And.intro (aNat_cp (n := 60) rfl (by omega) rfl rfl (by omega) (by omega) aS_nil) ?_)
  refine Exists.intro _ (And.intro (aNat_cp (n := 60) rfl (by omega) rfl rfl (by omega) (by omega) aS_nil) ?_)
  refine Exists.intro _ (And.intro (aNat_cp (n := 60) rfl (by omega) rfl rfl (by omega) (by omega) aS_nil) ?_)
  refine Exists.intro _ (And.intro (aNat_cp (n := 60) rfl (by omega) rfl rfl (by omega) (by omega) aS_nil) ?_)
  refine Exists.intro _ (And.intro (aNat_cp (n := 60) rfl (by omega) rfl rfl (by omega) (by omega) aS_nil) ?_)
  exact rfl
theorem r_cp3S (d : Nat) : aRun false (d + 1) m_X3_copyFrom [.ref 73, .ref 31] (aHk sn sf pn pd rg k wn wd ws) = some (.inl none, aHk sn sf pn pd rg k wn wd (cp3 wn ws), (0, 0)) := by
  refine aRun_of rfl (aVn_end (stop := fun p => false) 120 ?_)
  refine Exists.intro _ (And.intro (aNat_cp (n := 8) rfl (by omega) rfl rfl (by omega) (by omega) aS_nil) ?_)
  refine Exists.intro _ (And.intro (aNat_cp (n := 8) rfl (by omega) rfl rfl (by omega) (by omega) aS_nil) ?_)
  exact rfl
theorem r_cp1S (d : Nat) : aRun false (d + 1) m_X1_copyFrom [.ref 76, .ref 34] (aHk sn sf pn pd rg k wn wd ws) = some (.inl none, aHk sn sf pn pd rg k wn wd (cp1 wn ws), (0, 0)) := by
  refine aRun_of rfl (aVn_end (stop := fun p => false) 120 ?_)
  refine Exists.intro _ (And.intro (aNat_cp (n := 6) rfl (by omega) rfl rfl (by omega) (by omega) aS_nil) ?_)
  refine Exists.intro _ (And.intro (aNat_cp (n := 6) rfl (by omega) rfl rfl (by omega) (by omega) aS_nil) ?_)
  refine Exists.intro _ (And.intro (aNat_cp (n := 6) rfl (by omega) rfl rfl (by omega) (by omega) aS_nil) ?_)
  refine Exists.intro _ (And.intro (aNat_cp (n := 24) rfl (by omega) rfl rfl (by omega) (by omega) aS_nil) ?_)
  exact rfl
theorem r_copyFromS (d : Nat) : aRun false (d + 2) m_X6_copyFrom [.ref 63, .ref 21] (aHk sn sf pn pd rg k wn wd ws) = some (.inl none, aHk sn sf pn pd rg k wn wd (cpW wn ws), (0, 0)) := by
  refine aRun_of rfl (aVn_end (stop := fun p => false) 120 ?_)
  refine Exists.intro _ (And.intro (r_cp5S d) ?_)
  refine Exists.intro _ (And.intro (r_cp3S (ws := cp5 wn ws) d) ?_)
  refine Exists.intro _ (And.intro (r_cp1S (ws := cp3 wn (cp5 wn ws)) d) ?_)
  refine Exists.intro _ (And.intro (aNat_cp (n := 3) rfl (by omega) rfl rfl (by omega) (by omega) aS_nil) ?_)
  exact rfl
theorem r_cp5N (d : Nat) : aRun false (d + 1) m_X5_copyFrom [.ref 23, .ref 65] (aHk sn sf pn pd rg k wn wd ws) = some (.inl none, aHk sn sf pn pd rg k (cp5 ws wn) wd ws, (0, 0)) := by
  refine aRun_of rfl (aVn_end (stop := fun p => false) 120 ?_)
  refine Exists.intro _ (And.intro (aNat_cp (n := 60) rfl (by omega) rfl rfl (by omega) (by omega) aS_nil) ?_)
  refine Exists.intro _ (And.intro (aNat_cp (n := 60) rfl (by omega) rfl rfl (by omega) (by omega) aS_nil) ?_)
  refine Exists.intro _ (And.intro (aNat_cp (n := 60) rfl (by omega) rfl rfl (by omega) (by omega) aS_nil) ?_)
  refine Exists.intro _ (And.intro (aNat_cp (n := 60) rfl (by omega) rfl rfl (by omega) (by omega) aS_nil) ?_)
  refine Exists.intro _ (And.intro (aNat_cp (n := 60) rfl (by omega) rfl rfl (by omega) (by omega) aS_nil) ?_)
  refine Exists.intro _ (And.intro (aNat_cp (n := 60) rfl (by omega) rfl rfl (by omega) (by omega) aS_nil) ?_)
  refine Exists.intro _ (And.intro (aNat_cp (n := 60) rfl (by omega) rfl rfl (by omega) (by omega) aS_nil) ?_)
  exact rfl
theorem r_cp3N (d : Nat) : aRun false (d + 1) m_X3_copyFrom [.ref 31, .ref 73] (aHk sn sf pn pd rg k wn wd ws) = some (.inl none, aHk sn sf pn pd rg k (cp3 ws wn) wd ws, (0, 0)) := by
  refine aRun_of rfl (aVn_end (stop := fun p => false) 120 ?_)
  refine Exists.intro _ (And.intro (aNat_cp (n := 8) rfl (by omega) rfl rfl (by omega) (by omega) aS_nil) ?_)
  refine Exists.intro _ (And.intro (aNat_cp (n := 8) rfl (by omega) rfl rfl (by omega) (by omega) aS_nil) ?_)
  exact rfl
theorem r_cp1N (d : Nat) : aRun false (d + 1) m_X1_copyFrom [.ref 34, .ref 76] (aHk sn sf pn pd rg k wn wd ws) = some (.inl none, aHk sn sf pn pd rg k (cp1 ws wn) wd ws, (0, 0)) := by
  refine aRun_of rfl (aVn_end (stop := fun p => false) 120 ?_)
  refine Exists.intro _ (And.intro (aNat_cp (n := 6) rfl (by omega) rfl rfl (by omega) (by omega) aS_nil) ?_)
  refine Exists.intro _ (And.intro (aNat_cp (n := 6) rfl (by omega) rfl rfl (by omega) (by omega) aS_nil) ?_)
  refine Exists.intro _ (And.intro (aNat_cp (n := 6) rfl (by omega) rfl rfl (by omega) (by omega) aS_nil) ?_)
  refine Exists.intro _ (And.intro (aNat_cp (n := 24) rfl (by omega) rfl rfl (by omega) (by omega) aS_nil) ?_)
  exact rfl
theorem r_copyFromN (d : Nat) : aRun false (d + 2) m_X6_copyFrom [.ref 21, .ref 63] (aHk sn sf pn pd rg k wn wd ws) = some (.inl none, aHk sn sf pn pd rg k (cpW ws wn) wd ws, (0, 0)) := by
  refine aRun_of rfl (aVn_end (stop := fun p => false) 120 ?_)
  refine Exists.intro _ (And.intro (r_cp5N d) ?_)
  refine Exists.intro _ (And.intro (r_cp3N (wn := cp5 ws wn) d) ?_)
  refine Exists.intro _ (And.intro (r_cp1N (wn := cp3 ws (cp5 ws wn)) d) ?_)
  refine Exists.intro _ (And.intro (aNat_cp (n := 3) rfl (by omega) rfl rfl (by omega) (by omega) aS_nil) ?_)
  exact rfl
theorem r_freshDraft (d : Nat) : aRun false (d + 3) m_X7_freshDraft [.ref 8] (aHk sn sf 21 42 rg k wn wd ws) = some (.inl (some (.ref 42)), aHk sn sf 21 42 rg k wn (cpW wn wd) ws, (0, 0)) := by
  refine aRun_of rfl (aVn_end (stop := fun p => false) 60 ?_)
  refine Exists.intro _ (And.intro (r_copyFromD d) ?_)
  exact rfl
/-- the reasons told -/
def cpWhy (wd k : aW) : aW := fun a => match a with
  | 0 => va_cpy (wd 14) (k 0) 0 0 3
  | 1 => va_cpy (wd 15) (k 1) 0 0 3
  | 7 => fun i => match i with
    | 2 => wd 16 6
    | j => k 7 j
  | a => k a
theorem r_cpWhy (d : Nat) : aRun false (d + 1) m_X2_copyFrom [.ref 9, .ref 60] (aHk sn sf pn pd rg k wn wd ws) = some (.inl none, aHk sn sf pn pd rg (cpWhy wd k) wn wd ws, (0, 0)) := by
  refine aRun_of rfl (aVn_end (stop := fun p => false) 60 ?_)
  refine Exists.intro _ (And.intro (aNat_cp (n := 3) rfl (by omega) rfl rfl (by omega) (by omega) aS_nil) ?_)
  refine Exists.intro _ (And.intro (aNat_cp (n := 3) rfl (by omega) rfl rfl (by omega) (by omega) aS_nil) ?_)
  exact rfl
/-- a change kept -/
def kKeep (k : aW) (j : Nat) : aW := upw (upw k 7 4 (Int32.ofNat ((j + 1) % 8))) 7 3 (if 8 < k 7 3 + 1 then 8 else k 7 3 + 1)
def aRg : Nat → Option Nat := fun j => if j < 8 then some (84 + 21 * j) else none
theorem rem8 {j : Nat} (hx : x = Int32.ofNat j) (hj : j < 8) : x + 1 - (x + 1) / 8 * 8 = Int32.ofNat ((j + 1) % 8) := by
  subst hx
  match j, hj with
  | 0, _ => decide
  | 1, _ => decide
  | 2, _ => decide
  | 3, _ => decide
  | 4, _ => decide
  | 5, _ => decide
  | 6, _ => decide
  | 7, _ => decide
theorem r_keep (d : Nat) {j : Nat} (hj : k 7 4 = Int32.ofNat j) (hj8 : j < 8) : aRun false (d + 1) m_X0_keep [.ref 12, .ref 21] (aHk sn sf pn pd aRg k wn wd ws) = some (.inl (some (.ref (84 + 21 * j))), aHk sn sf pn pd (va_up aRg j (some 21)) (kKeep k j) wn wd ws, (0, 0)) := by
  have hi : aIx (k 7 4) 8 = some j := aIx_of hj hj8 (by omega)
  have key : ∀ z, z = Int32.ofNat ((j + 1) % 8) → ((.inl (some (.ref (84 + 21 * j))), aHk sn sf pn pd (va_up aRg j (some 21)) (upw (upw k 7 4 z) 7 3 (if 8 < k 7 3 + 1 then 8 else k 7 3 + 1)) wn wd ws, (0, 0)) : aR) = (.inl (some (.ref (84 + 21 * j))), aHk sn sf pn pd (va_up aRg j (some 21)) (kKeep k j) wn wd ws, (0, 0)) := fun z e => by rw [e]; rfl
  refine aRun_of rfl (aVn_end (stop := fun p => false) 60 ?_)
  refine Exists.intro j ?_
  refine Exists.intro (84 + 21 * j) ?_
  refine And.intro hi ?_
  refine And.intro (if_pos hj8) ?_
  refine And.intro rfl ?_
  refine Exists.intro j (And.intro hi ?_)
  refine And.intro (by decide) ?_
  refine Exists.intro _ (And.intro rfl ?_)
  exact key _ (rem8 hj hj8)
/-- what settle makes of a change tried on the draft -/
def kSet (sn : Nat) (sf : Nat → Int32) (k wn ws : aW) (j : Nat) (p : aZ) : aR :=
  if p.1 = -1 then (.inr 2, aHk sn sf 21 42 aRg k wn p.2 ws, (1, 6)) else if p.1 = -2 then (.inr 0, aHk sn sf 21 42 aRg k wn p.2 ws, (1, 6)) else
  if p.1 = -3 then (.inr 1, aHk sn sf 21 42 aRg (cpWhy p.2 k) wn p.2 ws, (1, 6)) else
  (.inl (some (.int p.1)), aHk sn sf 42 (84 + 21 * j) (va_up aRg j (some 21)) (kKeep k j) wn p.2 ws, (0, 0))
theorem r_settle (d : Nat) {j : Nat} (hj : k 7 4 = Int32.ofNat j) (hj8 : j < 8) {p : aZ} : aRun false (d + 2) m_X7_settle [.ref 8, .int p.1] (aHk sn sf 21 42 aRg k wn p.2 ws) = some (kSet sn sf k wn ws j p) := by
  refine aRun_of rfl (aVn_end (stop := fun p => false) 60 ?_)
  refine And.intro (fun c => ?_) (fun c => ?_)
  rotate_left
  · exact (if_pos (Decidable.not_not.mp (cF c)) : kSet sn sf k wn ws j p = _).symm
  have h1 : ¬ p.1 = -1 := cT c
  refine And.intro (fun c => ?_) (fun c => ?_)
  rotate_left
  · exact ((if_neg h1).trans (if_pos (Decidable.not_not.mp (cF c))) : kSet sn sf k wn ws j p = _).symm
  have h2 : ¬ p.1 = -2 := cT c
  refine And.intro (fun c => ?_) (fun c => ?_)
  rotate_left
  · refine Exists.intro _ (And.intro (r_cpWhy d) ?_)
    exact ((if_neg h1).trans ((if_neg h2).trans (if_pos (Decidable.not_not.mp (cF c)))) : kSet sn sf k wn ws j p = _).symm
  have h3 : ¬ p.1 = -3 := cT c
  refine Exists.intro _ (And.intro (r_keep d hj hj8) ?_)
  exact ((if_neg h1).trans ((if_neg h2).trans (if_neg h3)) : kSet sn sf k wn ws j p = _).symm
end KI
