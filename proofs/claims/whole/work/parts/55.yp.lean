/-! SAGGARS' LINKS: one saggar put on the kiln's floor or on another, or taken down -/
section YP
variable {w v : aW} {s : Nat → Int32} {n g o i j k f b L b1 L1 : Nat} {x y z u t c : Int32}
theorem nd_len : ∀ (n : Nat) (l : List Nat), l.Nodup → (∀ e, e ∈ l → e < n) → l.length ≤ n
  | 0, l, _, h => by
    match l, h with
    | [], _ => exact Nat.le_refl _
    | a :: l, h => exact absurd (h a List.mem_cons_self) (by omega)
  | n + 1, l, nd, h => by
    by_cases c : n ∈ l
    · have e := List.length_erase_of_mem c
      have ih := nd_len n (l.erase n) (nd.erase n) (fun e he => by
        have q := (List.Nodup.mem_erase_iff nd).mp he
        have := h e q.2
        have := q.1
        omega)
      omega
    · have ih := nd_len n l nd (fun e he => by
        have := h e he
        have : ¬ e = n := fun q => c (q ▸ he)
        omega)
      omega
theorem okP_f (p : okP w j b L) (q : okP w j b1 L1) (h : b < 100000 ∧ b1 < 100000 ∧ L < 100000 ∧ L1 < 100000) : b = b1 ∧ L = L1 :=
  ⟨ofN_ne h.1 h.2.1 (p.1.symm.trans q.1), ofN_ne h.2.2.1 h.2.2.2 (p.2.symm.trans q.2)⟩
theorem okS_under (ok : okS w g) (hj : j < g) (hb : b < 4) (hL : L < 8) (p : okP w j b (L + 1)) : ∃ i, i < g ∧ okP w i b L := by
  rcases ok.1 j hj with ⟨q, -⟩ | ⟨b1, L1, h1, h2, h3, h4⟩
  · exact absurd q (okP_k hb p)
  · obtain ⟨rfl, e⟩ := okP_f h3 p ⟨by omega, by omega, by omega, by omega⟩
    exact h4 L e
theorem chain_of (ok : okS w g) (hb : b < 4) : ∀ (L k : Nat), L < 8 → k < g → okP w k b L → ∃ l : List Nat, l.Nodup ∧ l.length = L + 1 ∧ ∀ e, e ∈ l → e < g ∧ ∃ L', L' ≤ L ∧ okP w e b L'
  | 0, k, hL, hk, p => ⟨[k], by simp, rfl, fun e he => by
    have : e = k := List.mem_singleton.mp he
    subst this
    exact ⟨hk, 0, Nat.le_refl _, p⟩⟩
  | L + 1, k, hL, hk, p => by
    obtain ⟨i, hi, q⟩ := okS_under ok hk hb (by omega) p
    obtain ⟨l, h1, h2, h3⟩ := chain_of ok hb L i (by omega) hi q
    refine ⟨k :: l, List.nodup_cons.mpr ⟨fun hm => ?_, h1⟩, by rw [List.length_cons, h2], fun e he => ?_⟩
    · obtain ⟨-, L', hL', p'⟩ := h3 k hm
      have := (okP_f p p' ⟨by omega, by omega, by omega, by omega⟩).2
      omega
    · rcases List.mem_cons.mp he with rfl | he
      · exact ⟨hk, L + 1, Nat.le_refl _, p⟩
      · obtain ⟨h4, L', hL', p'⟩ := h3 e he
        exact ⟨h4, L', by omega, p'⟩
/-- there is room above a saggar while one stands on the floor -/
theorem lv_up8 (ok : okS w g) (hg : g ≤ 8) (hb : b < 4) (hL : L < 8) (hk : k < g) (p : okP w k b L) (hi : i < g) (h8 : w 8 i = -1) : L + 1 < 8 := by
  obtain ⟨l, h1, h2, h3⟩ := chain_of ok hb L k hL hk p
  have q := nd_len g (i :: l) (List.nodup_cons.mpr ⟨fun hm => by
    obtain ⟨-, L', -, p'⟩ := h3 i hm
    exact okP_k hb p' h8, h1⟩) (fun e he => by
      rcases List.mem_cons.mp he with rfl | he
      · exact hi
      · exact (h3 e he).1)
  rw [List.length_cons, h2] at q
  omega
theorem wAt_iff (h : ∀ k, k < g → (okP v k b L ↔ okP w k b L)) : wAt v g (Int32.ofNat b) (Int32.ofNat L) = wAt w g (Int32.ofNat b) (Int32.ofNat L) :=
  aFd_congr _ _ g 0 fun j _ hj => decide_eq_decide.mpr (h j (by omega))
theorem wUp_of (hj : j < 100000) (hb : b < 4) (p : okP w j b L) : wUp w g (Int32.ofNat j) = wAt w g (Int32.ofNat b) (Int32.ofNat (L + 1)) := by
  unfold wUp
  rw [zn_of rfl hj, if_neg (okP_k hb p), p.1, p.2]
  congr 1
  exact zI_s rfl
theorem wDn_of (hj : j < 100000) (hb : b < 4) (p : okP w j b (L + 1)) : wDn w g (Int32.ofNat j) = wAt w g (Int32.ofNat b) (Int32.ofNat L) := by
  unfold wDn
  rw [zn_of rfl hj, if_neg (okP_k hb p), p.1, p.2, sub1]
theorem wUp_f (hj : j < 8) (h : w 8 j = -1) : wUp w g (Int32.ofNat j) = -1 := by
  unfold wUp
  rw [zn_of rfl (by omega), if_pos h]
theorem up_cg (hj : j < 8) (hb : b < 4) (p : okP w j b L) (q : okP v j b L) (h : ∀ k, k < g → (okP v k b (L + 1) ↔ okP w k b (L + 1))) : wUp v g (Int32.ofNat j) = wUp w g (Int32.ofNat j) := by
  rw [wUp_of (by omega) hb p, wUp_of (by omega) hb q]
  exact wAt_iff h
theorem dn_cg (okv : okS v g) (okw : okS w g) (hg : g ≤ 8) (hj : j < g) (hb : b < 4) : ∀ (L : Nat), okP w j b L → okP v j b L → (∀ L', L = L' + 1 → ∀ k, k < g → (okP v k b L' ↔ okP w k b L')) → wDn v g (Int32.ofNat j) = wDn w g (Int32.ofNat j)
  | 0, p, q, _ => by rw [wDn_0 okw (by omega) hg hb p, wDn_0 okv (by omega) hg hb q]
  | L + 1, p, q, h => by
    rw [wDn_of (by omega) hb p, wDn_of (by omega) hb q]
    exact wAt_iff (h L rfl)
def wSt (w : aW) (i : Nat) (x y : Int32) : aW := upw (upw w 8 i x) 9 i y
theorem wSt_ne (h : ¬ j = i) : (okP (wSt w i x y) j b L ↔ okP w j b L) := by
  unfold okP wSt
  rw [upw_ne (by omega), upw_ne (by omega), upw_ne (by omega), upw_ne (by omega)]
theorem wSt_eq : okP (wSt w i (Int32.ofNat b) (Int32.ofNat L)) i b L := by
  unfold okP wSt
  rw [upw_ne (by omega), upw_eq]
  exact ⟨rfl, upw_eq⟩
theorem wSt_8 : wSt w i x y 8 i = x := by
  unfold wSt
  rw [upw_ne (by omega), upw_eq]
theorem wSt_9 : wSt w i x y 9 i = y := upw_eq
theorem wSt_out {a : Nat} (h : ¬ ((a = 8 ∨ a = 9) ∧ j = i)) : wSt w i x y a j = w a j := by
  unfold wSt
  rw [upw_ne (by omega), upw_ne (by omega)]
theorem okS_stand (ok : okS w g) (hg : g ≤ 8) (hi : i < g) (h8 : w 8 i = -1) (hb : b < 4) (hL : L < 8) (free : ∀ j, j < g → ¬ okP w j b L) (und : ∀ L', L = L' + 1 → ∃ k, k < g ∧ okP w k b L') : okS (wSt w i (Int32.ofNat b) (Int32.ofNat L)) g := by
  have oldn : ∀ k b1 L1, b1 < 4 → okP w k b1 L1 → okP (wSt w i (Int32.ofNat b) (Int32.ofNat L)) k b1 L1 := fun k b1 L1 hb p => (wSt_ne (fun e : k = i => okP_k hb p (by rw [e]; exact h8))).mpr p
  refine ⟨fun j hj => ?_, fun j k hj hk hn e8 e9 => ?_⟩
  · by_cases e : j = i
    · subst e
      refine Or.inr ⟨b, L, hb, hL, wSt_eq, fun L' hL' => ?_⟩
      obtain ⟨k, hk, p⟩ := und L' hL'
      exact ⟨k, hk, oldn k b L' hb p⟩
    · rcases ok.1 j hj with ⟨q1, q2⟩ | ⟨b1, L1, h1, h2, h3, h4⟩
      · exact Or.inl ⟨(wSt_out (by omega)).trans q1, (wSt_out (by omega)).trans q2⟩
      · refine Or.inr ⟨b1, L1, h1, h2, oldn j b1 L1 h1 h3, fun L' hL' => ?_⟩
        obtain ⟨k, hk, p⟩ := h4 L' hL'
        exact ⟨k, hk, oldn k b1 L' h1 p⟩
  · by_cases ej : j = i
    · by_cases ek : k = i
      · omega
      · subst ej
        rw [wSt_8, wSt_out (by omega)] at e8
        rw [wSt_9, wSt_out (by omega)] at e9
        exact absurd ⟨e8.symm, e9.symm⟩ (free k hk)
    · by_cases ek : k = i
      · subst ek
        rw [wSt_8, wSt_out (by omega)] at e8
        rw [wSt_9, wSt_out (by omega)] at e9
        exact absurd ⟨e8, e9⟩ (free j hj)
      · rw [wSt_out (by omega)] at hn
        rw [wSt_out (by omega), wSt_out (by omega)] at e8 e9
        exact ok.2 j k hj hk hn e8 e9
theorem okS_down (ok : okS w g) (hi : i < g) (hb : b < 4) (hL : L < 8) (p : okP w i b L) (top : ∀ j, j < g → ¬ okP w j b (L + 1)) : okS (wSt w i (-1) (-1)) g := by
  refine ⟨fun j hj => ?_, fun j k hj hk hn e8 e9 => ?_⟩
  · by_cases e : j = i
    · subst e
      exact Or.inl ⟨wSt_8, wSt_9⟩
    · rcases ok.1 j hj with ⟨q1, q2⟩ | ⟨b1, L1, h1, h2, h3, h4⟩
      · exact Or.inl ⟨(wSt_out (by omega)).trans q1, (wSt_out (by omega)).trans q2⟩
      · refine Or.inr ⟨b1, L1, h1, h2, (wSt_ne e).mpr h3, fun L' hL' => ?_⟩
        obtain ⟨k, hk, q⟩ := h4 L' hL'
        refine ⟨k, hk, (wSt_ne (fun ek => ?_)).mpr q⟩
        subst ek
        obtain ⟨rfl, rfl⟩ := okP_f p q ⟨by omega, by omega, by omega, by omega⟩
        exact top j hj (hL' ▸ h3)
  · by_cases ej : j = i
    · subst ej
      exact absurd wSt_8 hn
    · by_cases ek : k = i
      · subst ek
        rw [wSt_8] at e8
        exact absurd e8 hn
      · rw [wSt_out (by omega)] at hn
        rw [wSt_out (by omega), wSt_out (by omega)] at e8 e9
        exact ok.2 j k hj hk hn e8 e9
end YP
