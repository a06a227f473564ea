/-! THE MODEL READS: one step, its first sign -/
section ZC
variable {sn : Nat} {sf : Nat → Int32} {m m1 m2 w : aW} {n g o i j k f L p : Nat} {x y z u v t c b : Int32} {q : Nat × Int32}
theorem aText_i {pc : Nat} {ls : List (Option Value)} {kk : aK} (hx : 0 ≤ x ∧ x < 65536) : aText 504 pc ls [.int x, .ref 7] (aHn sn sf m) kk = aGo (pc + 3) ls [.int (aFind (aStr 91) x 0)] (aHn sn sf m) kk := by
  show (if aSum [] ≤ 8 then (if 0 ≤ x ∧ x < 65536 then _ else none) else none) = _
  rw [if_pos aS_nil, if_pos hx]
theorem l_rsN (d : Nat) {r : aR} {hi : Option Value} (u3 u4 u5 : Option Value) (hb : ¬ (b = 0 ∧ p < L)) (hl : m 9 4 = Int32.ofNat L) (hL : L ≤ 60) (hp : p ≤ L) (h : aEnd (aStep (aRun false (d + 5)) aCls [] aB_X8_readStep none false) (43, [some (.ref 8), some (.int (4 * m 9 8)), none, none, none, none], [.int (-1)], aHn sn sf (mPl m p b), (0, 0)) r) : aEnd (aStep (aRun false (d + 5)) aCls [] aB_X8_readStep none false) (0, [some (.ref 8), none, none, none, none, none], [], aHn sn sf (mPl m p b), (0, 0)) r := by
  by_cases h0 : b = 0
  · have h1 : ¬ p < L := fun q => hb ⟨h0, q⟩
    refine aVn_end (stop := fun p => p == 43) 60 ?_
    refine And.intro (fun c => absurd h0 (cT c)) (fun _ => ?_)
    refine And.intro (fun _ => ?_) (fun c => absurd (zgeF c (x := Int32.ofNat p) (y := m 9 4) rfl hl (by omega) (by omega)) (by omega))
    exact h
  · refine aVn_end (stop := fun p => p == 43) 60 ?_
    refine And.intro (fun _ => ?_) (fun c => absurd (cF c) (fun q => q h0))
    exact h
theorem l_rsY (d : Nat) {r : aR} (hpL : p < L) (hl : m 9 4 = Int32.ofNat L) (hL : L ≤ 60) (hc : 0 ≤ m 7 p ∧ m 7 p < 65536) (h : aEnd (aStep (aRun false (d + 5)) aCls [] aB_X8_readStep none false) (43, [some (.ref 8), some (.int (4 * m 9 8)), none, none, none, none], [.int (aFind (aStr 91) (m 7 p) 0)], aHn sn sf (mPl m p 0), (0, 0)) r) : aEnd (aStep (aRun false (d + 5)) aCls [] aB_X8_readStep none false) (0, [some (.ref 8), none, none, none, none, none], [], aHn sn sf (mPl m p 0), (0, 0)) r := by
  have ix : aIx (Int32.ofNat p) 60 = some p := aIx_of rfl (by omega) (by omega)
  refine aVn_end (stop := fun p => p == 43) 60 ?_
  refine And.intro (fun c => absurd rfl (cT c)) (fun _ => ?_)
  refine And.intro (fun c => absurd (zgeT c (x := Int32.ofNat p) (y := m 9 4) rfl hl (by omega) (by omega)) (by omega)) (fun _ => ?_)
  refine Exists.intro p (And.intro ix ?_)
  refine Exists.intro _ (And.intro (aText_i hc) ?_)
  exact h
end ZC
