section DRZ
set_option maxRecDepth 20000
variable {sn : Nat} {sf : Nat → Int32} {w : aW} {l : List aW} {k : aW} {H E : aH} {d n0 : Nat} {P : aR → Prop}
theorem aS0_cl : mCl (aS0 sn sf) := fun q e hq => by
  match q with
  | 0 => cases hq
  | 1 => cases hq
  | 2 => cases hq
  | 3 => cases hq
  | 4 => cases hq
  | 5 => cases hq
  | 6 => cases hq
  | 7 => cases hq
  | q + 8 => cases hq
theorem aS1_cl : mCl (aS0 sn sf ++ [nCl 7]) := fun q e hq => by
  match q with
  | 0 => cases hq
  | 1 => cases hq
  | 2 => cases hq
  | 3 => cases hq
  | 4 => cases hq
  | 5 => cases hq
  | 6 => cases hq
  | 7 => cases hq
  | 8 =>
    cases hq
    intro v hv
    have hv : v ∈ (List.range (aNf 7)).map fun j => defaultValue (aTy 7 j) := hv
    obtain ⟨j, -, rfl⟩ := List.mem_map.mp hv
    cases aTy 7 j <;> rfl
  | q + 9 => cases hq
/-- the draw, from the new kiln on -/
theorem d_all (hsn : sn < 100000) (hn : n0 ≤ 252 + E.length) (O : OK sn sf w0 [] k0 H) (he : ∀ w l k H kk, OK sn sf w l k H → Gt w → Lx w → ow w = 2 → (∀ i, i < 2 → w 12 i = 0) → kB 1100 kk → P (.inl (some (.ref 8)), H ++ E, kk)) : mE (mFd n0 d) (dS 8 H E none none none none none [] 244 5831) P := by
  refine d_1 (m := 980) O hn rfl rfl rfl rfl ⟨by decide, by decide⟩ fun w l k H p q O hs hw hA hk => ?_
  have g2 := d_2 (P := P) (d := d) (m := 982) (n0 := n0) (sn := sn) (sf := sf) (E := E) hsn hn (fun w l k H o4 o5 p q O hw20 hA hk => ?_) 5 0 0 w l k H none none 139 p q rfl rfl O hs (by omega) (by omega) (by omega) hA hk
  · rw [hw] at g2
    exact g2
  · -- the glazes
    have h98 : mE (mFd n0 d) (dS 100 H E (some (Int32.ofNat (nw w))) (some 0) o4 o5 none [] p q) P := by
      refine d_3 (m := 987) (o5 := o5) hsn hn hw20 rfl (fun w2 l k H o4 p q O hw2 hA hk => ?_) (nw w) 0 0 w l k H o4 p q (by omega) rfl O rfl hA hk
      refine d_4 O hsn hn fun s hs3 hs6 => ?_
      refine d_5 (m := 987 + nw w) hsn hn hs6 hw20 rfl (fun w3 l k H o5 p q O hw3 hg3 h13 D hk => ?_) s 0 0 w2 l k H o5 p q (by omega) rfl O hw2 hA.1 (fun j hj => hA.2.2.2 j (by omega)) ⟨hA.2.2.1, fun j hj => by have := hA.1; omega, hA.2.1⟩ hk
      have h263 : mE (mFd n0 d) (dS 266 H E (some (Int32.ofNat (nw w))) (some (Int32.ofNat s)) (some 0) o5 none [] p q) P := by
        refine d_6 (m := 987 + nw w + 2 * s) hsn hn hs6 hs3 hw20 rfl rfl (fun w4 l k H o5 o6 p q O hg4 D hk => ?_) (nw w) 0 0 w3 l k H o5 none p q (by omega) rfl O hw3 hg3 (fun j _ hj => h13 j hj) D hk
        refine d_7 (m := 987 + nw w + 2 * s + nw w) O hsn hn D hk fun v best w5 l k H p q O hg5 D hk => ?_
        have h416 : mE (mFd n0 d) (dS 419 H E (some (Int32.ofNat (nw w))) (some (Int32.ofNat s)) (some (sh v 1)) (some best) (some 0) [] p q) P := by
          refine d_8 (m := 987 + nw w + 2 * s + nw w + 4) hn hs6 rfl (fun w6 l k H o6 p q O D hk => ?_) s 0 0 w5 l k H p q (by omega) rfl O (hg5.trans hg4) D hk
          refine d_9 O hn D hk fun w7 l k H p q O G L ho h12 hk => ?_
          exact he w7 l k H (p, q) O G L ho h12 (kB_le hk (by omega))
        refine mVn_P (stop := fun p => p == 419) 60 ?_
        exact h416
      refine mVn_P (stop := fun p => p == 266) 60 ?_
      exact h263
    refine mVn_P (stop := fun p => p == 100) 60 ?_
    exact h98
/-- drawn: a kiln as is asked, none left out -/
theorem L_drawn (hsn : sn < 100000) : ∃ w l k H kk, mRun (d + 10) m_L_drawn [.ref 5] (aS0 sn sf) = some (.inl (some (.ref 8)), H, kk) ∧ kB 1100 kk ∧ OK sn sf w l k H ∧ Gt w ∧ Lx w ∧ ow w = 2 ∧ ∀ i, i < 2 → w 12 i = 0 := by
  have h8 := d_all (d := d) (n0 := 8) (E := []) (H := aS0 sn sf ++ T7) (P := fun r => ∃ w l k H kk, r = (.inl (some (.ref 8)), H, kk) ∧ kB 1100 kk ∧ OK sn sf w l k H ∧ Gt w ∧ Lx w ∧ ow w = 2 ∧ ∀ i, i < 2 → w 12 i = 0) hsn (by show 8 ≤ 252 + 0; omega) OK0 (fun w l k H kk O G L ho h12 hk => ⟨w, l, k, H, kk, by rw [List.append_nil], hk, O, G, L, ho, h12⟩)
  have e8 : (aS0 sn sf ++ T7) ++ ([] : aH) = aS0 sn sf ++ T7 := List.append_nil _
  have h8 : mE (mFd 8 d) (8, [some (.ref 5), some (.ref 8), none, none, none, none, none], [], aS0 sn sf ++ T7, (244, 5831)) (fun r => ∃ w l k H kk, r = (.inl (some (.ref 8)), H, kk) ∧ kB 1100 kk ∧ OK sn sf w l k H ∧ Gt w ∧ Lx w ∧ ow w = 2 ∧ ∀ i, i < 2 → w 12 i = 0) := by
    rw [← e8]
    exact h8
  have h7 := n7 (sn := sn) (sf := sf) (d + 5)
  have h0 : mE (mStep (aS0 sn sf).length (d + 9) (mRun (d + 9)) [] aB_L_drawn (some (.object "SaggarKiln"))) (0, aIn 7 [.ref 5], [], aS0 sn sf, (0, 0)) (fun r => ∃ w l k H kk, r = (.inl (some (.ref 8)), H, kk) ∧ kB 1100 kk ∧ OK sn sf w l k H ∧ Gt w ∧ Lx w ∧ ow w = 2 ∧ ∀ i, i < 2 → w 12 i = 0) := by
    refine mVn_P (stop := fun p => p == 8) 60 ?_
    refine And.intro ⟨aS0_cl, ⟨by show 8 ≤ 8; omega, by show 8 ≤ 8; omega, rfl⟩⟩ ?_
    refine And.intro ⟨aS1_cl, ⟨by show 8 ≤ 9; omega, by show 8 ≤ 9; omega, rfl⟩⟩ ?_
    refine And.intro rfl ?_
    refine Exists.intro _ (And.intro h7 ?_)
    exact h8
  obtain ⟨r, e1, w, l, k, H, kk, rfl, q⟩ := mRun_P (m := m_L_drawn) rfl h0
  exact ⟨w, l, k, H, kk, e1, q⟩
/-- the law answers yes -/
theorem L_law_to (hsn : sn < 100000) : ∃ ls h1 kk, aTo (mStep 8 (d + 10) (mRun (d + 10)) [] aB_L_law (some .boolean)) (0, aIn 2 [.ref 5], [], aS0 sn sf, (0, 0)) (51, ls, [.int 1], h1, kk) ∧ kB 2000 kk := by
  obtain ⟨w, l, k, H, kk, e1, b1, O, G, L, ho, h12⟩ := L_drawn (d := d) (sf := sf) hsn
  have hok : wOk w (nw w) (gw w) (ow w) := ok_okk O
  have hl := ok_len O
  have e2 := L_stacks (E := []) (d := d + 2) O (Ld_of hok L)
  rw [List.append_nil] at e2
  obtain ⟨f, e3⟩ := L_stores (E := []) (d := d + 2) O G (fun c hc => by cases hc)
  rw [List.append_nil] at e3
  have hE1 : mPl (hA6 [] f) := mPl_i (fun c hc => by cases hc)
  obtain ⟨l4, k4, H4, kk4, e4, b4, O4⟩ := L_sells (E := hA6 [] f) (d := d + 2) O ho h12
  obtain ⟨l5, k5, H5, E5, kk5, e5, b5, O5, hE5, hl5⟩ := L_fires (E := hA6 [] f) (d := d + 1) O4 G hsn hE1
  obtain ⟨h6, kk6, e6, b6⟩ := L_undone (E := E5) (d := d) O5 hsn hE5
  have hl4 := ok_len O4
  have hl5' := ok_len O5
  have g : ∀ {H E : aH} {st : List Value}, H.length = 252 → mLs 252 [some (.ref 5), some (.ref 8)] st = true → mG 8 [some (.ref 5), some (.ref 8)] st (H ++ E) := fun hl hs => mG2 hl (by omega) hs
  have g0 : ∀ {st : List Value}, mLs 252 [some (.ref 5), some (.ref 8)] st = true → mG 8 [some (.ref 5), some (.ref 8)] st H := fun {st} hs => ⟨by omega, by omega, by rw [hl]; exact hs⟩
  have hkk : kB 2000 (0 + kk.1 + 0 + 1 + kk4.1 + kk5.1 + kk6.1, 0 + kk.2 + 0 + 6 + kk4.2 + kk5.2 + kk6.2) := by
    have a1 := b1.1
    have a2 := b1.2
    have a3 := b4.1
    have a4 := b4.2
    have a5 := b5.1
    have a6 := b5.2
    have a7 := b6.1
    have a8 := b6.2
    exact ⟨by show 0 + kk.1 + 0 + 1 + kk4.1 + kk5.1 + kk6.1 ≤ 2000; omega, by show 0 + kk.2 + 0 + 6 + kk4.2 + kk5.2 + kk6.2 ≤ 6 * 2000; omega⟩
  have h0 : mVn 8 (d + 10) (mRun (d + 10)) [] aB_L_law (some .boolean) (fun p => p == 51) 60 (0, aIn 2 [.ref 5], [], aS0 sn sf, (0, 0)) (fun z => match z with | .inl t => ∃ ls h1 kk, t = (51, ls, [.int 1], h1, kk) ∧ kB 2000 kk | .inr _ => False) := by
    refine And.intro ⟨by show 8 ≤ 8; omega, by show 8 ≤ 8; omega, rfl⟩ ?_
    refine Exists.intro _ (Exists.intro _ (Exists.intro _ (And.intro e1 ?_)))
    refine And.intro (g0 rfl) ?_
    refine Exists.intro _ (Exists.intro _ (Exists.intro _ (And.intro e2 ?_)))
    refine And.intro (fun q => absurd q (by decide)) (fun _ => ?_)
    refine And.intro (g0 rfl) ?_
    refine Exists.intro _ (Exists.intro _ (Exists.intro _ (And.intro e3 ?_)))
    refine And.intro (fun q => absurd q (by decide)) (fun _ => ?_)
    refine And.intro (g hl rfl) ?_
    refine Exists.intro _ (Exists.intro _ (Exists.intro _ (And.intro e4 ?_)))
    refine And.intro (fun q => absurd q (by decide)) (fun _ => ?_)
    refine And.intro (g hl4 rfl) ?_
    refine Exists.intro _ (Exists.intro _ (Exists.intro _ (And.intro e5 ?_)))
    refine And.intro (fun q => absurd q (by decide)) (fun _ => ?_)
    refine And.intro (g hl5' rfl) ?_
    refine Exists.intro _ (Exists.intro _ (Exists.intro _ (And.intro e6 ?_)))
    refine And.intro (fun q => absurd q (by decide)) (fun _ => ?_)
    exact Exists.intro _ (Exists.intro h6 (Exists.intro _ (And.intro rfl hkk)))
  obtain ⟨z, e, q⟩ := mVn_ok 60 _ h0
  cases z with
  | inl t =>
    obtain ⟨ls, h1, kk9, rfl, hk⟩ := q
    exact ⟨ls, h1, kk9, e, hk⟩
  | inr r => exact q.elim
end DRZ
