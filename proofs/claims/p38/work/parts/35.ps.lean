/-! THE CLASS: a step of a text -/
theorem upw_ne {w : aW} {a b i j : Nat} {x : Int32} (h : ¬ (a = b ∧ j = i)) : upw w b i x a j = w a j := by
  show (if a = b then upd (w b) i x else w a) j = _
  by_cases e : a = b
  · subst e
    rw [if_pos rfl]
    exact if_neg (fun q => h ⟨rfl, q⟩)
  · rw [if_neg e]
theorem upw_eq {w : aW} {b i : Nat} {x : Int32} : upw w b i x b i = x := by
  show (if b = b then upd (w b) i x else w b) i = _
  rw [if_pos rfl]
  exact if_pos rfl
theorem upw_id {w : aW} {b i : Nat} {x : Int32} (h : w b i = x) : upw w b i x = w := by
  funext a j
  by_cases e : a = b ∧ j = i
  · obtain ⟨rfl, rfl⟩ := e
    rw [upw_eq, h]
  · exact upw_ne e
theorem upw_up {w : aW} {b i : Nat} {x y : Int32} : upw (upw w b i x) b i y = upw w b i y := by
  funext a j
  by_cases e : a = b ∧ j = i
  · obtain ⟨rfl, rfl⟩ := e
    rw [upw_eq, upw_eq]
  · rw [upw_ne e, upw_ne e, upw_ne e]
def kP (k : aW) (p : Nat) : aW := upw k 7 7 (Int32.ofNat p)
/-- digits from place p on, at most m: where they end, their number, how many -/
def nRun (t : Nat → Int32) (L : Nat) : Nat → Nat → Int32 → Nat × Int32 × Nat
  | 0, p, a => (p, a, 0)
  | m + 1, p, a => if p < L ∧ 48 ≤ t p ∧ t p ≤ 57 then ((nRun t L m (p + 1) (10 * a + (t p - 48))).1, (nRun t L m (p + 1) (10 * a + (t p - 48))).2.1, (nRun t L m (p + 1) (10 * a + (t p - 48))).2.2 + 1) else (p, a, 0)
theorem nRun_s {t : Nat → Int32} {L m p : Nat} {a : Int32} (h : p < L ∧ 48 ≤ t p ∧ t p ≤ 57) : nRun t L (m + 1) p a = ((nRun t L m (p + 1) (10 * a + (t p - 48))).1, (nRun t L m (p + 1) (10 * a + (t p - 48))).2.1, (nRun t L m (p + 1) (10 * a + (t p - 48))).2.2 + 1) := if_pos h
theorem nRun_n {t : Nat → Int32} {L m p : Nat} {a : Int32} (h : ¬ (p < L ∧ 48 ≤ t p ∧ t p ≤ 57)) : nRun t L (m + 1) p a = (p, a, 0) := if_neg h
theorem nRun_le {t : Nat → Int32} {L : Nat} : ∀ (m p : Nat) (a : Int32), p ≤ L → p + (nRun t L m p a).2.2 = (nRun t L m p a).1 ∧ (nRun t L m p a).1 ≤ L ∧ (nRun t L m p a).2.2 ≤ m
  | 0, p, a, h => ⟨rfl, h, Nat.le_refl _⟩
  | m + 1, p, a, h => by
    by_cases c : p < L ∧ 48 ≤ t p ∧ t p ≤ 57
    · rw [nRun_s c]
      obtain ⟨h1, h2, h3⟩ := nRun_le (t := t) (L := L) m (p + 1) (10 * a + (t p - 48)) (by omega)
      dsimp only
      omega
    · rw [nRun_n c]
      exact ⟨rfl, h, Nat.zero_le _⟩
section PS
variable {sn : Nat} {sf : Nat → Int32} {k wn wd ws : aW} {n g o i j L p s : Nat} {x y z v u c : Int32}
theorem r_passSign (d : Nat) (hl : k 7 5 = Int32.ofNat L) (hL : L ≤ 60) (hp : k 7 7 = Int32.ofNat p) (h : p < L ∧ k 6 p = c) : aRun false (d + 1) m_X4_passSign [.ref 14, .int c] (aHk sn sf 21 42 aRg k wn wd ws) = some (.inl (some (.int 1)), aHk sn sf 21 42 aRg (kP k (p + 1)) wn wd ws, (0, 0)) := by
  have hi : aIx (k 7 7) 60 = some p := aIx_of hp (by omega) (by omega)
  have e1 : k 7 7 + 1 = Int32.ofNat (p + 1) := zI_s hp
  refine aRun_of rfl (aVn_end (stop := fun p => false) 60 ?_)
  refine And.intro (fun q => absurd (zgeT q hp hl (by omega) (by omega)) (by omega)) (fun _ => ?_)
  refine Exists.intro p (And.intro hi ?_)
  refine And.intro (fun _ => ?_) (fun q => absurd h.2 (cF q))
  exact And.intro rfl (congrArg (fun u => ((.inl (some (.int 1)), aHk sn sf 21 42 aRg (upw k 7 7 u) wn wd ws, (0, 0)) : aR)) e1)
theorem r_passSign0 (d : Nat) (hl : k 7 5 = Int32.ofNat L) (hL : L ≤ 60) (hp : k 7 7 = Int32.ofNat p) (hpL : p ≤ L) (h : ¬ (p < L ∧ k 6 p = c)) : aRun false (d + 1) m_X4_passSign [.ref 14, .int c] (aHk sn sf 21 42 aRg k wn wd ws) = some (.inl (some (.int 0)), (aHk sn sf 21 42 aRg k wn wd ws), (0, 0)) := by
  by_cases h1 : p < L
  · have hi : aIx (k 7 7) 60 = some p := aIx_of hp (by omega) (by omega)
    refine aRun_of rfl (aVn_end (stop := fun p => false) 60 ?_)
    refine And.intro (fun q => absurd (zgeT q hp hl (by omega) (by omega)) (by omega)) (fun _ => ?_)
    refine Exists.intro p (And.intro hi ?_)
    refine And.intro (fun q => absurd ⟨h1, cT q⟩ h) (fun q => ?_)
    exact And.intro rfl rfl
  · refine aRun_of rfl (aVn_end (stop := fun p => false) 60 ?_)
    refine And.intro (fun _ => ?_) (fun q => absurd (zgeF q hp hl (by omega) (by omega)) h1)
    exact And.intro rfl rfl
theorem l_passNumber0 {F : aF} {st le mo : Int32} (hs : aIx st 20 = some s) (hl : k 7 5 = Int32.ofNat L) (hL : L ≤ 60) : ∀ (m i p : Nat) (a dg : Int32), i + m ≤ 9 → p ≤ L → mo = Int32.ofNat (i + m) → dg = Int32.ofNat i →
    aEnd (aStep F aCls [] aB_X4_passNumber (some .boolean) false) (6, [some (.ref 14), some (.int st), some (.int 0), some (.int le), some (.int mo), some (.int a), some (.int dg)], [], (aHk sn sf 21 42 aRg (kP k p) wn wd ws), (0, 0)) (.inl (some (.int (if Int32.ofNat (i + (nRun (k 6) L m p a).2.2) < le then 0 else 1))), aHk sn sf 21 42 aRg (upw (kP k (nRun (k 6) L m p a).1) 3 s (nRun (k 6) L m p a).2.1) wn wd ws, (0, 0)) := by
  intro m
  induction m with
  | zero =>
    intro i p a dg hm hp hmo hdg
    refine aVn_end (stop := fun p => p == 6) 60 ?_
    refine And.intro (fun _ => ?_) (fun q => absurd (zgeF q hdg hmo (by omega) (by omega)) (by omega))
    refine Exists.intro 0 ?_
    refine Exists.intro 17 ?_
    refine And.intro rfl ?_
    refine And.intro rfl ?_
    refine Exists.intro s (And.intro hs ?_)
    refine And.intro (fun q => ?_) (fun q => ?_)
    · have q1 : dg < le := cT q
      rw [hdg] at q1
      exact And.intro rfl (aRi (if_pos q1).symm)
    · have q1 : ¬ dg < le := cF q
      rw [hdg] at q1
      exact And.intro rfl (aRi (if_neg q1).symm)
  | succ m ih =>
    intro i p a dg hm hp hmo hdg
    by_cases c : p < L ∧ 48 ≤ k 6 p ∧ k 6 p ≤ 57
    · have e := nRun_s (m := m) (a := a) c
      have q := ih (i + 1) (p + 1) (10 * a + (k 6 p - 48)) (dg + 1) (by omega) (by omega) (by rw [hmo]; congr 1; omega) (zI_s hdg)
      rw [show i + 1 + (nRun (k 6) L m (p + 1) (10 * a + (k 6 p - 48))).2.2 = i + ((nRun (k 6) L m (p + 1) (10 * a + (k 6 p - 48))).2.2 + 1) by omega] at q
      rw [e]
      have hi : aIx (kP k p 7 7) 60 = some p := aIx_of upw_eq (by omega) (by omega)
      have hp7 : kP k p 7 7 = Int32.ofNat p := upw_eq
      have e6 : upw (kP k p) 7 7 (kP k p 7 7 + 1) = kP k (p + 1) := by
        rw [zI_s hp7]
        exact upw_up
      rw [← e6] at q
      refine aVn_end (stop := fun p => p == 6) 60 ?_
      refine And.intro (fun q => absurd (zgeT q hdg hmo (by omega) (by omega)) (by omega)) (fun _ => ?_)
      refine And.intro (fun q => absurd (zgeT q hp7 hl (by omega) (by omega)) (by omega)) (fun _ => ?_)
      refine Exists.intro p (And.intro hi ?_)
      refine And.intro (fun q => absurd c.2.1 (Int32.not_le.mpr (cT q))) (fun _ => ?_)
      refine Exists.intro p (And.intro hi ?_)
      refine And.intro (fun q => absurd c.2.2 (Int32.not_le.mpr (cT q))) (fun _ => ?_)
      refine Exists.intro p (And.intro hi ?_)
      exact q
    · have e := nRun_n (m := m) (a := a) c
      have fin : aEnd (aStep F aCls [] aB_X4_passNumber (some .boolean) false) (88, [some (.ref 14), some (.int st), some (.int 0), some (.int le), some (.int mo), some (.int a), some (.int dg)], [], (aHk sn sf 21 42 aRg (kP k p) wn wd ws), (0, 0)) (.inl (some (.int (if Int32.ofNat i < le then 0 else 1))), aHk sn sf 21 42 aRg (upw (kP k p) 3 s a) wn wd ws, (0, 0)) := by
        refine aVn_end (stop := fun p => p == 6) 60 ?_
        refine Exists.intro 0 ?_
        refine Exists.intro 17 ?_
        refine And.intro rfl ?_
        refine And.intro rfl ?_
        refine Exists.intro s (And.intro hs ?_)
        refine And.intro (fun q => ?_) (fun q => ?_)
        · have q1 : dg < le := cT q
          rw [hdg] at q1
          exact And.intro rfl (aRi (if_pos q1).symm)
        · have q1 : ¬ dg < le := cF q
          rw [hdg] at q1
          exact And.intro rfl (aRi (if_neg q1).symm)
      rw [e]
      have hp7 : kP k p 7 7 = Int32.ofNat p := upw_eq
      by_cases h1 : p < L
      · have hi : aIx (kP k p 7 7) 60 = some p := aIx_of upw_eq (by omega) (by omega)
        refine aVn_end (stop := fun p => p == 6 || p == 88) 60 ?_
        refine And.intro (fun q => absurd (zgeT q hdg hmo (by omega) (by omega)) (by omega)) (fun _ => ?_)
        refine And.intro (fun q => absurd (zgeT q hp7 hl (by omega) (by omega)) (by omega)) (fun _ => ?_)
        refine Exists.intro p (And.intro hi ?_)
        refine And.intro (fun q => ?_) (fun q => ?_)
        · exact fin
        have q1 : ¬ k 6 p < 48 := cF q
        refine Exists.intro p (And.intro hi ?_)
        refine And.intro (fun q => ?_) (fun q => ?_)
        · exact fin
        have q2 : ¬ 57 < k 6 p := cF q
        exact absurd ⟨h1, Int32.not_lt.mp q1, Int32.not_lt.mp q2⟩ c
      · refine aVn_end (stop := fun p => p == 6 || p == 88) 60 ?_
        refine And.intro (fun q => absurd (zgeT q hdg hmo (by omega) (by omega)) (by omega)) (fun _ => ?_)
        refine And.intro (fun q => ?_) (fun q => absurd (zgeF q hp7 hl (by omega) (by omega)) h1)
        exact fin
theorem r_passNumber0 (d : Nat) {st : Int32} {le mo : Nat} (hs : aIx st 20 = some s) (hl : k 7 5 = Int32.ofNat L) (hL : L ≤ 60) (hp : k 7 7 = Int32.ofNat p) (hpL : p ≤ L) (hmo : mo ≤ 9) (hle : le ≤ 9) : aRun false (d + 1) m_X4_passNumber [.ref 14, .int st, .int 0, .int (Int32.ofNat le), .int (Int32.ofNat mo)] (aHk sn sf 21 42 aRg k wn wd ws) = some (.inl (some (.int (if le ≤ (nRun (k 6) L mo p 0).2.2 then 1 else 0))), aHk sn sf 21 42 aRg (upw (kP k (nRun (k 6) L mo p 0).1) 3 s (nRun (k 6) L mo p 0).2.1) wn wd ws, (0, 0)) := by
  have main := l_passNumber0 (sn := sn) (sf := sf) (k := k) (wn := wn) (wd := wd) (ws := ws) (F := aRun false d) (le := Int32.ofNat le) hs hl hL mo 0 p 0 0 (by omega) hpL (by rw [Nat.zero_add]) rfl
  have e : kP k p = k := upw_id hp
  have e2 : (if Int32.ofNat (0 + (nRun (k 6) L mo p 0).2.2) < Int32.ofNat le then (0 : Int32) else 1) = (if le ≤ (nRun (k 6) L mo p 0).2.2 then 1 else 0) := by
    have h3 := (nRun_le (t := k 6) mo p 0 hpL).2.2
    have := zI_lt (x := Int32.ofNat (nRun (k 6) L mo p 0).2.2) (y := Int32.ofNat le) rfl rfl (by omega) (by omega)
    rw [Nat.zero_add]
    by_cases q : le ≤ (nRun (k 6) L mo p 0).2.2
    · rw [if_pos q, if_neg (fun r => absurd (this.mp r) (by omega))]
    · rw [if_neg q, if_pos (this.mpr (by omega))]
  rw [e, e2] at main
  refine aRun_of rfl (aVn_end (stop := fun p => p == 6) 60 ?_)
  exact main
theorem l_passNumber1 {F : aF} {st le mo : Int32} (hs : aIx st 20 = some s) (hl : k 7 5 = Int32.ofNat L) (hL : L ≤ 60) : ∀ (m i p : Nat) (a dg : Int32), i + m ≤ 9 → p ≤ L → mo = Int32.ofNat (i + m) → dg = Int32.ofNat i →
    aEnd (aStep F aCls [] aB_X4_passNumber (some .boolean) false) (6, [some (.ref 14), some (.int st), some (.int 1), some (.int le), some (.int mo), some (.int a), some (.int dg)], [], (aHk sn sf 21 42 aRg (kP k p) wn wd ws), (0, 0)) (.inl (some (.int (if Int32.ofNat (i + (nRun (k 6) L m p a).2.2) < le then 0 else 1))), aHk sn sf 21 42 aRg (upw (kP k (nRun (k 6) L m p a).1) 4 s (nRun (k 6) L m p a).2.1) wn wd ws, (0, 0)) := by
  intro m
  induction m with
  | zero =>
    intro i p a dg hm hp hmo hdg
    refine aVn_end (stop := fun p => p == 6) 60 ?_
    refine And.intro (fun _ => ?_) (fun q => absurd (zgeF q hdg hmo (by omega) (by omega)) (by omega))
    refine Exists.intro 1 ?_
    refine Exists.intro 18 ?_
    refine And.intro rfl ?_
    refine And.intro rfl ?_
    refine Exists.intro s (And.intro hs ?_)
    refine And.intro (fun q => ?_) (fun q => ?_)
    · have q1 : dg < le := cT q
      rw [hdg] at q1
      exact And.intro rfl (aRi (if_pos q1).symm)
    · have q1 : ¬ dg < le := cF q
      rw [hdg] at q1
      exact And.intro rfl (aRi (if_neg q1).symm)
  | succ m ih =>
    intro i p a dg hm hp hmo hdg
    by_cases c : p < L ∧ 48 ≤ k 6 p ∧ k 6 p ≤ 57
    · have e := nRun_s (m := m) (a := a) c
      have q := ih (i + 1) (p + 1) (10 * a + (k 6 p - 48)) (dg + 1) (by omega) (by omega) (by rw [hmo]; congr 1; omega) (zI_s hdg)
      rw [show i + 1 + (nRun (k 6) L m (p + 1) (10 * a + (k 6 p - 48))).2.2 = i + ((nRun (k 6) L m (p + 1) (10 * a + (k 6 p - 48))).2.2 + 1) by omega] at q
      rw [e]
      have hi : aIx (kP k p 7 7) 60 = some p := aIx_of upw_eq (by omega) (by omega)
      have hp7 : kP k p 7 7 = Int32.ofNat p := upw_eq
      have e6 : upw (kP k p) 7 7 (kP k p 7 7 + 1) = kP k (p + 1) := by
        rw [zI_s hp7]
        exact upw_up
      rw [← e6] at q
      refine aVn_end (stop := fun p => p == 6) 60 ?_
      refine And.intro (fun q => absurd (zgeT q hdg hmo (by omega) (by omega)) (by omega)) (fun _ => ?_)
      refine And.intro (fun q => absurd (zgeT q hp7 hl (by omega) (by omega)) (by omega)) (fun _ => ?_)
      refine Exists.intro p (And.intro hi ?_)
      refine And.intro (fun q => absurd c.2.1 (Int32.not_le.mpr (cT q))) (fun _ => ?_)
      refine Exists.intro p (And.intro hi ?_)
      refine And.intro (fun q => absurd c.2.2 (Int32.not_le.mpr (cT q))) (fun _ => ?_)
      refine Exists.intro p (And.intro hi ?_)
      exact q
    · have e := nRun_n (m := m) (a := a) c
      have fin : aEnd (aStep F aCls [] aB_X4_passNumber (some .boolean) false) (88, [some (.ref 14), some (.int st), some (.int 1), some (.int le), some (.int mo), some (.int a), some (.int dg)], [], (aHk sn sf 21 42 aRg (kP k p) wn wd ws), (0, 0)) (.inl (some (.int (if Int32.ofNat i < le then 0 else 1))), aHk sn sf 21 42 aRg (upw (kP k p) 4 s a) wn wd ws, (0, 0)) := by
        refine aVn_end (stop := fun p => p == 6) 60 ?_
        refine Exists.intro 1 ?_
        refine Exists.intro 18 ?_
        refine And.intro rfl ?_
        refine And.intro rfl ?_
        refine Exists.intro s (And.intro hs ?_)
        refine And.intro (fun q => ?_) (fun q => ?_)
        · have q1 : dg < le := cT q
          rw [hdg] at q1
          exact And.intro rfl (aRi (if_pos q1).symm)
        · have q1 : ¬ dg < le := cF q
          rw [hdg] at q1
          exact And.intro rfl (aRi (if_neg q1).symm)
      rw [e]
      have hp7 : kP k p 7 7 = Int32.ofNat p := upw_eq
      by_cases h1 : p < L
      · have hi : aIx (kP k p 7 7) 60 = some p := aIx_of upw_eq (by omega) (by omega)
        refine aVn_end (stop := fun p => p == 6 || p == 88) 60 ?_
        refine And.intro (fun q => absurd (zgeT q hdg hmo (by omega) (by omega)) (by omega)) (fun _ => ?_)
        refine And.intro (fun q => absurd (zgeT q hp7 hl (by omega) (by omega)) (by omega)) (fun _ => ?_)
        refine Exists.intro p (And.intro hi ?_)
        refine And.intro (fun q => ?_) (fun q => ?_)
        · exact fin
        have q1 : ¬ k 6 p < 48 := cF q
        refine Exists.intro p (And.intro hi ?_)
        refine And.intro (fun q => ?_) (fun q => ?_)
        · exact fin
        have q2 : ¬ 57 < k 6 p := cF q
        exact absurd ⟨h1, Int32.not_lt.mp q1, Int32.not_lt.mp q2⟩ c
      · refine aVn_end (stop := fun p => p == 6 || p == 88) 60 ?_
        refine And.intro (fun q => absurd (zgeT q hdg hmo (by omega) (by omega)) (by omega)) (fun _ => ?_)
        refine And.intro (fun q => ?_) (fun q => absurd (zgeF q hp7 hl (by omega) (by omega)) h1)
        exact fin
theorem r_passNumber1 (d : Nat) {st : Int32} {le mo : Nat} (hs : aIx st 20 = some s) (hl : k 7 5 = Int32.ofNat L) (hL : L ≤ 60) (hp : k 7 7 = Int32.ofNat p) (hpL : p ≤ L) (hmo : mo ≤ 9) (hle : le ≤ 9) : aRun false (d + 1) m_X4_passNumber [.ref 14, .int st, .int 1, .int (Int32.ofNat le), .int (Int32.ofNat mo)] (aHk sn sf 21 42 aRg k wn wd ws) = some (.inl (some (.int (if le ≤ (nRun (k 6) L mo p 0).2.2 then 1 else 0))), aHk sn sf 21 42 aRg (upw (kP k (nRun (k 6) L mo p 0).1) 4 s (nRun (k 6) L mo p 0).2.1) wn wd ws, (0, 0)) := by
  have main := l_passNumber1 (sn := sn) (sf := sf) (k := k) (wn := wn) (wd := wd) (ws := ws) (F := aRun false d) (le := Int32.ofNat le) hs hl hL mo 0 p 0 0 (by omega) hpL (by rw [Nat.zero_add]) rfl
  have e : kP k p = k := upw_id hp
  have e2 : (if Int32.ofNat (0 + (nRun (k 6) L mo p 0).2.2) < Int32.ofNat le then (0 : Int32) else 1) = (if le ≤ (nRun (k 6) L mo p 0).2.2 then 1 else 0) := by
    have h3 := (nRun_le (t := k 6) mo p 0 hpL).2.2
    have := zI_lt (x := Int32.ofNat (nRun (k 6) L mo p 0).2.2) (y := Int32.ofNat le) rfl rfl (by omega) (by omega)
    rw [Nat.zero_add]
    by_cases q : le ≤ (nRun (k 6) L mo p 0).2.2
    · rw [if_pos q, if_neg (fun r => absurd (this.mp r) (by omega))]
    · rw [if_neg q, if_pos (this.mpr (by omega))]
  rw [e, e2] at main
  refine aRun_of rfl (aVn_end (stop := fun p => p == 6) 60 ?_)
  exact main
theorem l_passNumber2 {F : aF} {st le mo : Int32} (hs : aIx st 20 = some s) (hl : k 7 5 = Int32.ofNat L) (hL : L ≤ 60) : ∀ (m i p : Nat) (a dg : Int32), i + m ≤ 9 → p ≤ L → mo = Int32.ofNat (i + m) → dg = Int32.ofNat i →
    aEnd (aStep F aCls [] aB_X4_passNumber (some .boolean) false) (6, [some (.ref 14), some (.int st), some (.int 2), some (.int le), some (.int mo), some (.int a), some (.int dg)], [], (aHk sn sf 21 42 aRg (kP k p) wn wd ws), (0, 0)) (.inl (some (.int (if Int32.ofNat (i + (nRun (k 6) L m p a).2.2) < le then 0 else 1))), aHk sn sf 21 42 aRg (upw (kP k (nRun (k 6) L m p a).1) 5 s (nRun (k 6) L m p a).2.1) wn wd ws, (0, 0)) := by
  intro m
  induction m with
  | zero =>
    intro i p a dg hm hp hmo hdg
    refine aVn_end (stop := fun p => p == 6) 60 ?_
    refine And.intro (fun _ => ?_) (fun q => absurd (zgeF q hdg hmo (by omega) (by omega)) (by omega))
    refine Exists.intro 2 ?_
    refine Exists.intro 19 ?_
    refine And.intro rfl ?_
    refine And.intro rfl ?_
    refine Exists.intro s (And.intro hs ?_)
    refine And.intro (fun q => ?_) (fun q => ?_)
    · have q1 : dg < le := cT q
      rw [hdg] at q1
      exact And.intro rfl (aRi (if_pos q1).symm)
    · have q1 : ¬ dg < le := cF q
      rw [hdg] at q1
      exact And.intro rfl (aRi (if_neg q1).symm)
  | succ m ih =>
    intro i p a dg hm hp hmo hdg
    by_cases c : p < L ∧ 48 ≤ k 6 p ∧ k 6 p ≤ 57
    · have e := nRun_s (m := m) (a := a) c
      have q := ih (i + 1) (p + 1) (10 * a + (k 6 p - 48)) (dg + 1) (by omega) (by omega) (by rw [hmo]; congr 1; omega) (zI_s hdg)
      rw [show i + 1 + (nRun (k 6) L m (p + 1) (10 * a + (k 6 p - 48))).2.2 = i + ((nRun (k 6) L m (p + 1) (10 * a + (k 6 p - 48))).2.2 + 1) by omega] at q
      rw [e]
      have hi : aIx (kP k p 7 7) 60 = some p := aIx_of upw_eq (by omega) (by omega)
      have hp7 : kP k p 7 7 = Int32.ofNat p := upw_eq
      have e6 : upw (kP k p) 7 7 (kP k p 7 7 + 1) = kP k (p + 1) := by
        rw [zI_s hp7]
        exact upw_up
      rw [← e6] at q
      refine aVn_end (stop := fun p => p == 6) 60 ?_
      refine And.intro (fun q => absurd (zgeT q hdg hmo (by omega) (by omega)) (by omega)) (fun _ => ?_)
      refine And.intro (fun q => absurd (zgeT q hp7 hl (by omega) (by omega)) (by omega)) (fun _ => ?_)
      refine Exists.intro p (And.intro hi ?_)
      refine And.intro (fun q => absurd c.2.1 (Int32.not_le.mpr (cT q))) (fun _ => ?_)
      refine Exists.intro p (And.intro hi ?_)
      refine And.intro (fun q => absurd c.2.2 (Int32.not_le.mpr (cT q))) (fun _ => ?_)
      refine Exists.intro p (And.intro hi ?_)
      exact q
    · have e := nRun_n (m := m) (a := a) c
      have fin : aEnd (aStep F aCls [] aB_X4_passNumber (some .boolean) false) (88, [some (.ref 14), some (.int st), some (.int 2), some (.int le), some (.int mo), some (.int a), some (.int dg)], [], (aHk sn sf 21 42 aRg (kP k p) wn wd ws), (0, 0)) (.inl (some (.int (if Int32.ofNat i < le then 0 else 1))), aHk sn sf 21 42 aRg (upw (kP k p) 5 s a) wn wd ws, (0, 0)) := by
        refine aVn_end (stop := fun p => p == 6) 60 ?_
        refine Exists.intro 2 ?_
        refine Exists.intro 19 ?_
        refine And.intro rfl ?_
        refine And.intro rfl ?_
        refine Exists.intro s (And.intro hs ?_)
        refine And.intro (fun q => ?_) (fun q => ?_)
        · have q1 : dg < le := cT q
          rw [hdg] at q1
          exact And.intro rfl (aRi (if_pos q1).symm)
        · have q1 : ¬ dg < le := cF q
          rw [hdg] at q1
          exact And.intro rfl (aRi (if_neg q1).symm)
      rw [e]
      have hp7 : kP k p 7 7 = Int32.ofNat p := upw_eq
      by_cases h1 : p < L
      · have hi : aIx (kP k p 7 7) 60 = some p := aIx_of upw_eq (by omega) (by omega)
        refine aVn_end (stop := fun p => p == 6 || p == 88) 60 ?_
        refine And.intro (fun q => absurd (zgeT q hdg hmo (by omega) (by omega)) (by omega)) (fun _ => ?_)
        refine And.intro (fun q => absurd (zgeT q hp7 hl (by omega) (by omega)) (by omega)) (fun _ => ?_)
        refine Exists.intro p (And.intro hi ?_)
        refine And.intro (fun q => ?_) (fun q => ?_)
        · exact fin
        have q1 : ¬ k 6 p < 48 := cF q
        refine Exists.intro p (And.intro hi ?_)
        refine And.intro (fun q => ?_) (fun q => ?_)
        · exact fin
        have q2 : ¬ 57 < k 6 p := cF q
        exact absurd ⟨h1, Int32.not_lt.mp q1, Int32.not_lt.mp q2⟩ c
      · refine aVn_end (stop := fun p => p == 6 || p == 88) 60 ?_
        refine And.intro (fun q => absurd (zgeT q hdg hmo (by omega) (by omega)) (by omega)) (fun _ => ?_)
        refine And.intro (fun q => ?_) (fun q => absurd (zgeF q hp7 hl (by omega) (by omega)) h1)
        exact fin
theorem r_passNumber2 (d : Nat) {st : Int32} {le mo : Nat} (hs : aIx st 20 = some s) (hl : k 7 5 = Int32.ofNat L) (hL : L ≤ 60) (hp : k 7 7 = Int32.ofNat p) (hpL : p ≤ L) (hmo : mo ≤ 9) (hle : le ≤ 9) : aRun false (d + 1) m_X4_passNumber [.ref 14, .int st, .int 2, .int (Int32.ofNat le), .int (Int32.ofNat mo)] (aHk sn sf 21 42 aRg k wn wd ws) = some (.inl (some (.int (if le ≤ (nRun (k 6) L mo p 0).2.2 then 1 else 0))), aHk sn sf 21 42 aRg (upw (kP k (nRun (k 6) L mo p 0).1) 5 s (nRun (k 6) L mo p 0).2.1) wn wd ws, (0, 0)) := by
  have main := l_passNumber2 (sn := sn) (sf := sf) (k := k) (wn := wn) (wd := wd) (ws := ws) (F := aRun false d) (le := Int32.ofNat le) hs hl hL mo 0 p 0 0 (by omega) hpL (by rw [Nat.zero_add]) rfl
  have e : kP k p = k := upw_id hp
  have e2 : (if Int32.ofNat (0 + (nRun (k 6) L mo p 0).2.2) < Int32.ofNat le then (0 : Int32) else 1) = (if le ≤ (nRun (k 6) L mo p 0).2.2 then 1 else 0) := by
    have h3 := (nRun_le (t := k 6) mo p 0 hpL).2.2
    have := zI_lt (x := Int32.ofNat (nRun (k 6) L mo p 0).2.2) (y := Int32.ofNat le) rfl rfl (by omega) (by omega)
    rw [Nat.zero_add]
    by_cases q : le ≤ (nRun (k 6) L mo p 0).2.2
    · rw [if_pos q, if_neg (fun r => absurd (this.mp r) (by omega))]
    · rw [if_neg q, if_pos (this.mpr (by omega))]
  rw [e, e2] at main
  refine aRun_of rfl (aVn_end (stop := fun p => p == 6) 60 ?_)
  exact main
end PS
