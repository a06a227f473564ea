/-! THE MODEL'S ANSWERS: a sign -/
section YS1
variable {sn : Nat} {sf : Nat → Int32} {m w : aW} {n g o i : Nat} {x y : Int32}
theorem okW_st (h : okW w g i) : aIx (w 1 i) 6 = some (zn (w 1 i)) ∧ ((aSg5 (zn (w 1 i))).toUInt32 % 65536).toInt32 = aSg5 (zn (w 1 i)) := by
  rcases h.2.2 with ⟨e, -⟩ | ⟨e, -⟩ | ⟨e, -⟩ | ⟨e, -⟩ | ⟨e, -⟩ | ⟨e, -⟩ <;> (rw [e]; decide)
theorem y_wsign (d : Nat) (R : Rl w (m 0) n g o) (ok : wOkA w n g o) (hx : ¬ (0 ≤ x ∧ x < w 16 3)) : aRun false (d + 7) m_X8_sign [.ref 8, .int x] (aHn sn sf m) = some (.inl (some (.int 32)), aHn sn sf (upw m 9 2 1), (0, 0)) := by
  refine aRun_of rfl (aVn_end (stop := fun p => false) 60 ?_)
  refine Exists.intro _ (And.intro (y_isWare (v := 0) (d + 4) R ok (if_neg hx).symm) ?_)
  refine And.intro (fun _ => ?_) (fun q => absurd (show true = false from q) (by decide))
  refine And.intro (fun q => absurd (show (1 : Int32) ≤ 0 from cT q) (by decide)) (fun _ => ?_)
  exact And.intro rfl rfl
theorem aText_c {pc : Nat} {ls : List (Option Value)} {kk : aK} {j : Nat} (hx : aIx x 6 = some j) : aText 503 pc ls [.int x, .ref 6] (aHn sn sf m) kk = aGo (pc + 3) ls [.int (aSg5 j)] (aHn sn sf m) kk := by
  show (if aSum [] ≤ 8 then aAt x 6 _ else none) = _
  rw [if_pos aS_nil]
  unfold aAt
  rw [hx]
  rfl
theorem y_wsignY (d : Nat) (R : Rl w (m 0) n g o) (ok : wOkA w n g o) (hx : 0 ≤ x ∧ x < w 16 3) : aRun false (d + 7) m_X8_sign [.ref 8, .int x] (aHn sn sf m) = some (.inl (some (.int (aSg5 (zn (w 1 (zn x)))))), aHn sn sf (upw m 9 2 0), (0, 0)) := by
  have hxx := aIx_lt hx ok.1.1 ok.1.2.1 (by omega)
  obtain ⟨h1, h2⟩ := okW_st (ok.2.1 _ hxx.2.1)
  refine aRun_of rfl (aVn_end (stop := fun p => false) 60 ?_)
  refine Exists.intro _ (And.intro (y_isWare (v := 1) (d + 4) R ok (if_pos hx).symm) ?_)
  refine And.intro (fun q => absurd (show false = true from q) (by decide)) (fun _ => ?_)
  refine And.intro (fun _ => ?_) (fun q => absurd (show (0 : Int32) ≤ 0 by decide) (cF q))
  refine Exists.intro _ (And.intro (y_state (m := upw m 9 2 0) (d + 4) R ok hxx.2.2 hxx.2.1) ?_)
  refine Exists.intro _ (And.intro (aText_c h1) ?_)
  exact And.intro (by show (_ == _) = true; rw [beq_iff_eq]; exact h2) rfl
end YS1
/-! THE LAW'S RUN: to its end with 1 -/
/-- the law's last instruction, with 1, that much made -/
def aFi (B : aK) (t : aS) : Prop := t.1 = 2329 ∧ t.2.2.1 = [.int 1] ∧ t.2.2.2.2.1 ≤ B.1 ∧ t.2.2.2.2.2 ≤ B.2
def aFn (F : aS → Option (aS ⊕ aR)) (B : aK) (s : aS) : Prop := ∃ t, aTo F s t ∧ aFi B t
def aKf (F : aS → Option (aS ⊕ aR)) (B : aK) : aS ⊕ aR → Prop := fun z => match z with
  | .inl t => aFn F B t
  | .inr _ => False
section FN
variable {call : aF} {hd : aD} {cd : List aI} {rt : Option FieldType} {B : aK}
theorem aVn_fn {stop : Nat → Bool} {s : aS} (n : Nat) (w : aVn call hd cd rt stop n s (aKf (aStep call aCls hd cd rt false) B)) : aFn (aStep call aCls hd cd rt false) B s := by
  obtain ⟨z, h1, h2⟩ := aVn_ok n s w
  cases z with
  | inl t =>
    obtain ⟨t1, q1, q2⟩ := h2
    exact ⟨t1, aTo.trans h1 q1, q2⟩
  | inr q => cases h2
theorem q_itl {u : Nat → Nat} (hst : (cd.all fun q => aSt8 q.1 q.2.1) = true) (hcall : ∀ (h H : aH), aIso u h H → ∀ a as r, call a as h = some r → ∃ H1, call a (as.map (aCv u)) H = some (aRv u r.1, H1, r.2.2) ∧ aFr u h H r.2.1 H1) : ∀ (n : Nat) (t : aS) (H : aH) (z : aS), aIso u t.2.2.2.1 H → aIt (aStep call aCls hd cd rt false) n t = some (.inl z) → ∃ H1, aIt (aStep call aCls hd cd rt false) n (t.1, aLm u t.2.1, t.2.2.1.map (aCv u), H, t.2.2.2.2) = some (.inl (z.1, aLm u z.2.1, z.2.2.1.map (aCv u), H1, z.2.2.2.2))
  | 0, t, H, z, I, h => by
    cases h
    exact ⟨H, rfl⟩
  | n + 1, t, H, z, I, h => by
    have key : aRr u t.2.2.2.1 H (aStep call aCls hd cd rt false t) (aStep call aCls hd cd rt false (t.1, aLm u t.2.1, t.2.2.1.map (aCv u), H, t.2.2.2.2)) := by
      unfold aStep
      dsimp only
      cases hc : cd[t.1]? with
      | none => exact q_none
      | some q =>
        obtain ⟨i, a, b, v⟩ := q
        exact q_ex I (hcall _ _ I) (List.all_eq_true.mp hst _ (List.mem_of_getElem? hc))
    cases hf : aStep call aCls hd cd rt false t with
    | none => rw [aIt_non hf] at h; cases h
    | some x =>
      cases x with
      | inl w =>
        rw [aIt_inl hf] at h
        obtain ⟨H1, e1, F1⟩ := key _ hf
        obtain ⟨H2, e2⟩ := q_itl hst hcall n w H1 z F1.1 h
        exact ⟨H2, by rw [aIt_inl e1]; exact e2⟩
      | inr q => rw [aIt_inr hf] at h; cases h
theorem fn_ren {u : Nat → Nat} {d pc : Nat} {ls : List (Option Value)} {st : List Value} {h H : aH} {k : aK} (hst : (cd.all fun q => aSt8 q.1 q.2.1) = true) (I : aIso u h H) (hf : aFn (aStep (aRun false d) aCls hd cd rt false) B (pc, ls, st, h, k)) : aFn (aStep (aRun false d) aCls hd cd rt false) B (pc, aLm u ls, st.map (aCv u), H, k) := by
  obtain ⟨t, ⟨n, hn⟩, f1, f2, f3, f4⟩ := hf
  obtain ⟨H1, e1⟩ := q_itl (u := u) hst (fun h H I a as r hr => aRun_ren aSt8_ok d a as h H r I hr) n (pc, ls, st, h, k) H t I hn
  exact ⟨_, ⟨n, e1⟩, f1, by show t.2.2.1.map _ = _; rw [f2]; rfl, f3, f4⟩
end FN
theorem law_st8 : (aB_L_law.all fun q => aSt8 q.1 q.2.1) = true := by decide +kernel
