/-! THE CLASS: a text is parsed -/
/-- where the steps that are passed begin; the fault -/
def pGo (t : Nat → Int32) (L : Nat) : Nat → Nat → List Nat × Int32
  | 0, p => ([], Int32.ofNat p)
  | f + 1, p => if (pS t L p).1 = true then (if (pS t L p).2.1 < L then (if t (pS t L p).2.1 = 59 then (p :: (pGo t L f ((pS t L p).2.1 + 1)).1, (pGo t L f ((pS t L p).2.1 + 1)).2) else ([p], Int32.ofNat (pS t L p).2.1)) else ([p], -1)) else ([], Int32.ofNat (pS t L p).2.1)
/-- all but the steps, their number and the place -/
def pAll (k1 k : aW) : Prop := ∀ a j, ¬ (a = 7 ∧ (j = 6 ∨ j = 7)) → ¬ (a = 2 ∨ a = 3 ∨ a = 4 ∨ a = 5) → k1 a j = k a j
/-- row s holds the step that begins at p -/
def pRow (t : Nat → Int32) (L : Nat) (k : aW) (s p : Nat) : Prop := (pS t L p).1 = true ∧ k 2 s = t p ∧ k 3 s = (pS t L p).2.2 0 ∧ (t p = 116 ∨ t p = 103 ∨ t p = 112 → k 4 s = (pS t L p).2.2 1) ∧ (t p = 103 → k 5 s = (pS t L p).2.2 2)
theorem pS_pos {t : Nat → Int32} {L p : Nat} (h : p ≤ L) : p ≤ (pS t L p).2.1 ∧ (pS t L p).2.1 ≤ L := by
  by_cases c : p < L
  · cases e : pOf (t p) with
    | none =>
      rw [pS_no c e]
      exact ⟨Nat.le_refl _, h⟩
    | some l =>
      rw [pS_of c e]
      have := pIts_pos t L l (p + 1) (fun _ => 0) (by omega)
      omega
  · rw [pS_end c]
    exact ⟨Nat.le_refl _, h⟩
theorem pFr_row {t : Nat → Int32} {L s s1 p : Nat} {k1 k : aW} (h : pFr s k1 k) (hne : ¬ s1 = s) (r : pRow t L k s1 p) : pRow t L k1 s1 p := by
  unfold pRow at r ⊢
  rw [h 2 s1 (by omega) (by omega), h 3 s1 (by omega) (by omega), h 4 s1 (by omega) (by omega), h 5 s1 (by omega) (by omega)]
  exact r
section PG
variable {sn : Nat} {sf : Nat → Int32} {k wn wd ws : aW} {n g o i j L p s : Nat} {x y z v u c st : Int32}
theorem l_parse (d : Nat) (hl : k 7 5 = Int32.ofNat L) (hL : L ≤ 60) (hch : ∀ j, j < L → ((k 6 j).toUInt32 % 65536).toInt32 = k 6 j) : ∀ (f i p : Nat) (ki : aW) (st : Int32), i + f = 20 → st = Int32.ofNat i → p ≤ L → ki 7 7 = Int32.ofNat p → ki 7 6 = Int32.ofNat i → pAll ki k →
    ∃ k1, aEnd (aStep (aRun false (d + 2)) aCls [] aB_X4_parse (some .int) false) (12, [some (.ref 14), some (.int st)], [], (aHk sn sf 21 42 aRg ki wn wd ws), (0, 0)) (.inl (some (.int (pGo (k 6) L f p).2)), (aHk sn sf 21 42 aRg k1 wn wd ws), (0, 0)) ∧ pAll k1 k ∧ k1 7 6 = Int32.ofNat (i + (pGo (k 6) L f p).1.length) ∧ (∀ m p', m < i → pRow (k 6) L ki m p' → pRow (k 6) L k1 m p') ∧ ∀ m p', (pGo (k 6) L f p).1[m]? = some p' → pRow (k 6) L k1 (i + m) p'
  | 0, i, p, ki, st, hi, hst, hpL, hp, hs, ha => by
    refine ⟨ki, ?_, ha, hs, fun m p' _ h => h, fun m p' h => by cases h⟩
    refine aVn_end (stop := fun p => p == 12) 60 ?_
    refine And.intro (fun _ => ?_) (fun q => absurd (zgeF (y := 20) (n := 20) q hst rfl (by omega) (by omega)) (by omega))
    exact aRi hp
  | f + 1, i, p, ki, st, hi, hst, hpL, hp, hs, ha => by
    have e6 : ki 6 = k 6 := funext fun j => ha 6 j (by omega) (by omega)
    have hl1 : ki 7 5 = Int32.ofNat L := (ha 7 5 (by omega) (by omega)).trans hl
    have hs20 : aIx st 20 = some i := aIx_of hst (by omega) (by omega)
    obtain ⟨k1, hrun, hp1, hfr, hrow⟩ := r_passStep (sn := sn) (sf := sf) (wn := wn) (wd := wd) (ws := ws) d hs20 hl1 hL hp hpL (fun h => by rw [e6]; exact hch p h)
    rw [e6] at hrun hp1 hrow
    have hpos := pS_pos (t := k 6) hpL
    have ha1 : pAll k1 k := fun a j h1 h2 => (hfr a j (fun q => h1 ⟨q.1, Or.inr q.2⟩) (fun q => h2 q.1)).trans (ha a j h1 h2)
    have hs1 : k1 7 6 = Int32.ofNat i := (hfr 7 6 (by omega) (by omega)).trans hs
    have hl2 : k1 7 5 = Int32.ofNat L := (ha1 7 5 (by omega) (by omega)).trans hl
    have old : ∀ m p', m < i → pRow (k 6) L ki m p' → pRow (k 6) L k1 m p' := fun m p' hm h => pFr_row hfr (by omega) h
    by_cases c1 : (pS (k 6) L p).1 = true
    rotate_left
    · have eG : pGo (k 6) L (f + 1) p = ([], Int32.ofNat (pS (k 6) L p).2.1) := if_neg c1
      rw [if_neg c1] at hrun
      rw [eG]
      refine ⟨k1, ?_, ha1, hs1, old, fun m p' h => by cases h⟩
      refine aVn_end (stop := fun p => p == 12) 60 ?_
      refine And.intro (fun q => absurd (zgeT (y := 20) (n := 20) q hst rfl (by omega) (by omega)) (by omega)) (fun _ => ?_)
      refine Exists.intro _ (And.intro hrun ?_)
      refine And.intro (fun q => absurd (show false = true from q) (by decide)) (fun _ => ?_)
      exact aRi hp1
    rw [if_pos c1] at hrun
    have hnew : pRow (k 6) L (upw k1 7 6 (k1 7 6 + 1)) i p := ⟨c1, (hrow c1).1, (hrow c1).2.1, (hrow c1).2.2.1, (hrow c1).2.2.2⟩
    have hs2 : (upw k1 7 6 (k1 7 6 + 1)) 7 6 = Int32.ofNat (i + 1) := upw_eq.trans (zI_s hs1)
    have ha2 : pAll (upw k1 7 6 (k1 7 6 + 1)) k := fun a j h1 h2 => (upw_ne (fun q => h1 ⟨q.1, Or.inl q.2⟩)).trans (ha1 a j h1 h2)
    have old2 : ∀ m p', m < i → pRow (k 6) L ki m p' → pRow (k 6) L (upw k1 7 6 (k1 7 6 + 1)) m p' := fun m p' hm h => old m p' hm h
    by_cases c2 : (pS (k 6) L p).2.1 < L
    rotate_left
    · have eG : pGo (k 6) L (f + 1) p = ([p], -1) := (if_pos c1).trans (if_neg c2)
      rw [eG]
      refine ⟨upw k1 7 6 (k1 7 6 + 1), ?_, ha2, hs2, old2, fun m p' h => ?_⟩
      · refine aVn_end (stop := fun p => p == 12) 60 ?_
        refine And.intro (fun q => absurd (zgeT (y := 20) (n := 20) q hst rfl (by omega) (by omega)) (by omega)) (fun _ => ?_)
        refine Exists.intro _ (And.intro hrun ?_)
        refine And.intro (fun _ => ?_) (fun q => absurd (show true = false from q) (by decide))
        refine And.intro (fun q => absurd ((zI_lt hp1 hl2 (by omega) (by omega)).mp (cT q)) c2) (fun _ => ?_)
        exact rfl
      · match m, h with
        | 0, h => cases h; exact hnew
    by_cases c3 : k 6 (pS (k 6) L p).2.1 = 59
    rotate_left
    · have eG : pGo (k 6) L (f + 1) p = ([p], Int32.ofNat (pS (k 6) L p).2.1) := (if_pos c1).trans ((if_pos c2).trans (if_neg c3))
      rw [eG]
      have e16 : (upw k1 7 6 (k1 7 6 + 1)) 6 = k 6 := funext fun j => ha2 6 j (by omega) (by omega)
      have hC : aRun false (d + 2) m_X4_passSign [.ref 14, .int 59] (aHk sn sf 21 42 aRg (upw k1 7 6 (k1 7 6 + 1)) wn wd ws) = some (.inl (some (.int 0)), (aHk sn sf 21 42 aRg (upw k1 7 6 (k1 7 6 + 1)) wn wd ws), (0, 0)) := r_passSign0 (k := upw k1 7 6 (k1 7 6 + 1)) (p := (pS (k 6) L p).2.1) (d + 1) hl2 hL hp1 hpos.2 (by rw [e16]; exact fun q => c3 q.2)
      refine ⟨upw k1 7 6 (k1 7 6 + 1), ?_, ha2, hs2, old2, fun m p' h => ?_⟩
      · refine aVn_end (stop := fun p => p == 12) 60 ?_
        refine And.intro (fun q => absurd (zgeT (y := 20) (n := 20) q hst rfl (by omega) (by omega)) (by omega)) (fun _ => ?_)
        refine Exists.intro _ (And.intro hrun ?_)
        refine And.intro (fun _ => ?_) (fun q => absurd (show true = false from q) (by decide))
        refine And.intro (fun _ => ?_) (fun q => absurd (cF q) (fun r => r ((zI_lt hp1 hl2 (by omega) (by omega)).mpr c2)))
        refine Exists.intro _ (And.intro hC ?_)
        refine And.intro (fun q => absurd (show false = true from q) (by decide)) (fun _ => ?_)
        exact aRi hp1
      · match m, h with
        | 0, h => cases h; exact hnew
    have eG : pGo (k 6) L (f + 1) p = (p :: (pGo (k 6) L f ((pS (k 6) L p).2.1 + 1)).1, (pGo (k 6) L f ((pS (k 6) L p).2.1 + 1)).2) := (if_pos c1).trans ((if_pos c2).trans (if_pos c3))
    have e16 : (upw k1 7 6 (k1 7 6 + 1)) 6 = k 6 := funext fun j => ha2 6 j (by omega) (by omega)
    have hC : aRun false (d + 2) m_X4_passSign [.ref 14, .int 59] (aHk sn sf 21 42 aRg (upw k1 7 6 (k1 7 6 + 1)) wn wd ws) = some (.inl (some (.int 1)), (aHk sn sf 21 42 aRg (kP (upw k1 7 6 (k1 7 6 + 1)) ((pS (k 6) L p).2.1 + 1)) wn wd ws), (0, 0)) := r_passSign (k := upw k1 7 6 (k1 7 6 + 1)) (p := (pS (k 6) L p).2.1) (d + 1) hl2 hL hp1 (by rw [e16]; exact ⟨c2, c3⟩)
    obtain ⟨k4, h1, h2, h3, h4, h5⟩ := l_parse d hl hL hch f (i + 1) ((pS (k 6) L p).2.1 + 1) (kP (upw k1 7 6 (k1 7 6 + 1)) ((pS (k 6) L p).2.1 + 1)) (st + 1) (by omega) (zI_s hst) (by omega) upw_eq ((upw_ne (by omega)).trans hs2) (fun a j h1 h2 => (upw_ne (fun q => h1 ⟨q.1, Or.inr q.2⟩)).trans (ha2 a j h1 h2))
    rw [eG]
    refine ⟨k4, ?_, h2, ?_, fun m p' hm h => h4 m p' (by omega) (old2 m p' hm h), fun m p' h => ?_⟩
    · refine aVn_end (stop := fun p => p == 12) 60 ?_
      refine And.intro (fun q => absurd (zgeT (y := 20) (n := 20) q hst rfl (by omega) (by omega)) (by omega)) (fun _ => ?_)
      refine Exists.intro _ (And.intro hrun ?_)
      refine And.intro (fun _ => ?_) (fun q => absurd (show true = false from q) (by decide))
      refine And.intro (fun _ => ?_) (fun q => absurd (cF q) (fun r => r ((zI_lt hp1 hl2 (by omega) (by omega)).mpr c2)))
      refine Exists.intro _ (And.intro hC ?_)
      refine And.intro (fun _ => ?_) (fun q => absurd (show true = false from q) (by decide))
      exact h1
    · rw [h3]
      congr 1
      show i + 1 + _ = i + (_ + 1)
      omega
    · match m, h with
      | 0, h => cases h; exact h4 i p (by omega) hnew
      | m + 1, h =>
        have := h5 m p' h
        rw [show i + (m + 1) = i + 1 + m by omega]
        exact this
theorem r_parse (d : Nat) (hl : k 7 5 = Int32.ofNat L) (hL : L ≤ 60) (hch : ∀ j, j < L → ((k 6 j).toUInt32 % 65536).toInt32 = k 6 j) : ∃ k1, aRun false (d + 3) m_X4_parse [.ref 14] (aHk sn sf 21 42 aRg k wn wd ws) = some (.inl (some (.int (pGo (k 6) L 20 0).2)), (aHk sn sf 21 42 aRg k1 wn wd ws), (0, 0)) ∧ pAll k1 k ∧ k1 7 6 = Int32.ofNat (pGo (k 6) L 20 0).1.length ∧ ∀ m p', (pGo (k 6) L 20 0).1[m]? = some p' → pRow (k 6) L k1 m p' := by
  obtain ⟨k1, h1, h2, h3, -, h5⟩ := l_parse (sn := sn) (sf := sf) (wn := wn) (wd := wd) (ws := ws) d hl hL hch 20 0 0 (upw (upw k 7 7 0) 7 6 0) 0 (by omega) rfl (by omega) ((upw_ne (by omega)).trans upw_eq) upw_eq (fun a j q1 q2 => (upw_ne (fun q => q1 ⟨q.1, Or.inl q.2⟩)).trans (upw_ne (fun q => q1 ⟨q.1, Or.inr q.2⟩)))
  rw [Nat.zero_add] at h3
  refine ⟨k1, ?_, h2, h3, fun m p' h => ?_⟩
  · refine aRun_of rfl (aVn_end (stop := fun p => p == 12) 60 ?_)
    exact h1
  · have := h5 m p' h
    rw [Nat.zero_add] at this
    exact this
end PG
