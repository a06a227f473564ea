/-! THE LAW'S MACHINE: WHAT A RUN SAYS, THE MACHINE DOES -/
theorem mKind_2 {i : Instr} {a : Nat} (h : mKind i a = 2) : ∃ idx, i = .invokestatic idx ∧ 133 ≤ a ∧ ¬ 500 ≤ a := by
  unfold mKind at h
  split at h
  · cases h
  · split at h <;> cases h
  · cases h
  · rename_i idx
    split at h
    · cases h
    · exact ⟨idx, rfl, by omega, by omega⟩
  · cases h
/-- the making of texts stands at one place alone -/
def mMacT : Bool := (List.range 165).all fun m => match aProg[m]? with
  | some (_, cd, _) => cd.zipIdx.all fun q => decide (mKind q.1.1 q.1.2.1 < 3) || (m == 164 && q.2 == 375)
  | none => true
set_option maxRecDepth 100000 in
theorem mMacT_ok : mMacT = true := by decide +kernel
theorem mMacT_at {m o n pc : Nat} {cd : List aI} {hd : aD} {rt : Option FieldType} {x : aI} (hm : aProg[m]? = some (o, cd, hd, rt, n)) (h165 : m < 165) (hx : cd[pc]? = some x) (h3 : ¬ mKind x.1 x.2.1 < 3) : m = 164 ∧ pc = 375 := by
  have h1 := List.all_eq_true.mp mMacT_ok m (List.mem_range.mpr h165)
  rw [hm] at h1
  have h2 := List.all_eq_true.mp h1 (x, pc) (List.mem_zipIdx_iff_getElem?.mpr hx)
  rw [Bool.or_eq_true, Bool.and_eq_true] at h2
  rcases h2 with h2 | h2
  · exact absurd (of_decide_eq_true h2) h3
  · exact ⟨eq_of_beq h2.1, eq_of_beq h2.2⟩
/-- what is owed of the making of a text -/
def mMacOk (l : Launch) (D : va_G) (ka : FieldType → ClassId) (d : Nat) (mr : aF) : Prop :=
  ∀ (p : Program) (e : Env) (R : Room) (s : State) (m : MethodId) (args : Array Value) (below : List Frame) (meth : Method) (c : Code) (sg : Nat → Nat) (A : Nat → Prop) (nL : Nat) (hd : aD) (cd : List aI) (rt : Option FieldType) (hh : List (Nat × Nat × Nat × Nat)) (n0 : Nat) (ls : List (Option Value)) (st : List Value) (h : aH) (k : aK) (z : aS ⊕ aR),
    aBd p l R s m args meth c D ka sg A nL 9 d cL_undone false false (aRun false d) hd cd rt hh → mMac mr n0 ls st h k = some z → mGl p l e R s m args below meth c D ka sg A nL n0 (375, ls, st, h, k) z
section MIT
variable {p : Program} {l : Launch} {e : Env} {R : Room} {s : State} {m : MethodId} {args : Array Value} {below : List Frame} {meth : Method} {c : Code} {D : va_G} {ka : FieldType → ClassId} {sg : Nat → Nat} {A : Nat → Prop} {nL o d n0 : Nat} {cc : ByteArray} {ini : Bool} {hd : aD} {cd : List aI} {rt : Option FieldType} {hh : List (Nat × Nat × Nat × Nat)} {mr : aF}
theorem m_one (hl : l.stackTraces = false) (B : aBd p l R s m args meth c D ka sg A nL o d cc false ini (aRun false d) hd cd rt hh) (hS : mSnd l D ka d mr) (hM : mMacOk l D ka d mr) (h9 : ∀ (pc : Nat) (x : aI), cd[pc]? = some x → ¬ mKind x.1 x.2.1 < 3 → pc = 375 ∧ cc = cL_undone ∧ o = 9 ∧ ini = false) {t : aS} {z : aS ⊕ aR} (hz : mStep n0 d mr hd cd rt t = some z) : mGl p l e R s m args below meth c D ka sg A nL n0 t z := by
  unfold mStep at hz
  split at hz
  · cases hz
  · rename_i i a b v hi
    have hok := B.2.2.2.2.2.2.2 _ _ hi
    split at hz
    · exact m_plain hl B hok hz
    · split at hz
      · rename_i g
        exact m_make hl B g.1 g.2.1 g.2.2.1 g.2.2.2 hok hz
      · cases hz
    · rename_i h2
      obtain ⟨idx, rfl, a1, a2⟩ := mKind_2 h2
      split at hz
      · rename_i g
        exact m_call B hl hS g.2.1 g.2.2 a1 hok a2 hz
      · cases hz
    · rename_i k0 k1 k2
      obtain ⟨e1, rfl, rfl, rfl⟩ := h9 _ _ hi (by
        show ¬ mKind i a < 3
        intro q
        have : mKind i a = 0 ∨ mKind i a = 1 ∨ mKind i a = 2 := by omega
        rcases this with q | q | q
        · exact k0 q
        · exact k1 q
        · exact k2 q)
      obtain ⟨pc, ls, st, h, k⟩ := t
      have e1 : pc = 375 := e1
      subst e1
      exact hM p e R s m args below meth c sg A nL hd cd rt hh n0 ls st h k z B hz
theorem m_it (hl : l.stackTraces = false) (B : aBd p l R s m args meth c D ka sg A nL o d cc false ini (aRun false d) hd cd rt hh) (hS : mSnd l D ka d mr) (hM : mMacOk l D ka d mr) (h9 : ∀ (pc : Nat) (x : aI), cd[pc]? = some x → ¬ mKind x.1 x.2.1 < 3 → pc = 375 ∧ cc = cL_undone ∧ o = 9 ∧ ini = false) : ∀ (n : Nat) (t : aS) (r : aR), aIt (mStep n0 d mr hd cd rt) n t = some (.inr r) → (t.2.2.2.2.1 ≤ r.2.2.1 ∧ t.2.2.2.2.2 ≤ r.2.2.2) ∧ (r.2.2.1 ≤ R.cells → r.2.2.2 ≤ R.slots → mSim p l e R s m args below meth c (mEq below D ka sg A n0 args s r) D ka sg A nL n0 t)
  | 0, t, r, h => by cases h
  | n + 1, t, r, h => by
    cases hf : mStep n0 d mr hd cd rt t with
    | none => rw [aIt_non hf] at h; cases h
    | some x =>
      cases x with
      | inl u =>
        rw [aIt_inl hf] at h
        obtain ⟨⟨k1, k2⟩, k3⟩ := m_one (e := e) (below := below) hl B hS hM h9 hf
        obtain ⟨⟨k4, k5⟩, k6⟩ := m_it hl B hS hM h9 n u r h
        exact ⟨⟨Nat.le_trans k1 k4, Nat.le_trans k2 k5⟩, fun g1 g2 => k3 (Nat.le_trans k4 g1) (Nat.le_trans k5 g2) _ (k6 g1 g2)⟩
      | inr q =>
        rw [aIt_inr hf] at h
        cases h
        exact m_one (e := e) (below := below) hl B hS hM h9 hf
end MIT
theorem mEq_out {below : List Frame} {D : va_G} {ka : FieldType → ClassId} {sg : Nat → Nat} {A : Nat → Prop} {n0 : Nat} {args : Array Value} {s : State} {r : aR} {t : State} (h : mEq below D ka sg A n0 args s r t) : vx_MQ below (fun a st o t => ∃ s2, mAg n0 sg s2 ∧ aQc D ka s2 A false r a st o t) (fun E st t => ∃ s2, mAg n0 sg s2 ∧ aXC D ka s2 A false r E st t) args s r.2.2.1 r.2.2.2 A t := by
  obtain ⟨s2, g, o, e1, e2, e3⟩ := h
  refine ⟨o, e1, e2, ?_⟩
  rcases e3 with ⟨q1, q2⟩ | ⟨q, e4, e5⟩
  · exact Or.inl ⟨⟨s2, g, q1⟩, q2⟩
  · exact Or.inr ⟨q, e4, vx_T_mono (fun E st t hx => ⟨s2, g, hx⟩) e5⟩
theorem mSnd_all {l : Launch} {D : va_G} {ka : FieldType → ClassId} (hl : l.stackTraces = false) (hM : ∀ d, mSnd l D ka d (mRun d) → mMacOk l D ka d (mRun d)) : ∀ d, mSnd l D ka d (mRun d)
  | 0 => by
    intro sg A a as h r hr
    cases hr
  | d + 1 => by
    intro sg A a as h r hr hcat ha hlen y b hyb
    have IH := mSnd_all (D := D) (ka := ka) hl hM d
    have IA := aSnd_all (D := D) (ka := ka) (sg := sg) (A := A) (al := false) hl d
    obtain ⟨o, cd, hd, rt, n, y', b', np, st, e1, e2, ⟨q1, q2, q3, q4, e3⟩, g1, g2, g3, g4, g5, g6, g7, g8⟩ := aMok_spec ha
    cases Option.some.inj (e2.symm.trans hyb)
    obtain ⟨o9, cd9, hd9, rt9, n9, hm, ⟨N, hit⟩⟩ := mRun_ex hr
    cases Option.some.inj (e1.symm.trans hm)
    have hok := aOk_all a ha
    unfold aOkM at hok
    rw [e1, e2] at hok
    have hlen2 : as.length ≤ n := by
      unfold aNa at hlen
      rw [e3] at hlen
      dsimp only at hlen
      omega
    have h9 : ∀ (pc : Nat) (x : aI), cd[pc]? = some x → ¬ mKind x.1 x.2.1 < 3 → pc = 375 ∧ b = cL_undone ∧ o = 9 ∧ (y.name == "<init>") = false := fun pc x hx h3 => by
      obtain ⟨rfl, rfl⟩ := mMacT_at e1 ha hx h3
      cases Option.some.inj (show some (y, b) = some (yL_undone, cL_undone) from e2.symm)
      exact ⟨rfl, rfl, (congrArg (fun z : Option (Nat × List aI × aD × Option FieldType × Nat) => match z with | some q => q.1 | none => 0) (e1.symm.trans (show aProg[164]? = some (9, aB_L_undone, [], some .boolean, 7) from rfl)) : o = 9), by decide⟩
    have key : ∀ (ws : List Cond) (hh : List (Nat × Nat × Nat × Nat)) (p : Program) (e : Env) (s : State) (m : MethodId) (args : Array Value) (below : List Frame) (meth : Method) (c : Code) (s₁ : State), (∀ w ∈ aWg, w ∈ ws) → aHm (aOwn o) hh hd = true → BodyLoose p l y (headSpec ws (aRm (d + 1) r.2.2)) b n rt e s m args below meth c s₁ → c.maxLocals = n → c.exceptionTable.toList = tableOf hh → aPc D ka sg A false as h args s →
        W p l e (headSpec ws (aRm (d + 1) r.2.2)).room s m args below meth c s.heap [] 0 0 (vx_MQ below (fun a st o t => ∃ s2, mAg h.length sg s2 ∧ aQc D ka s2 A false r a st o t) (fun E st t => ∃ s2, mAg h.length sg s2 ∧ aXC D ka s2 A false r E st t) args s r.2.2.1 r.2.2.2 A) (entryFrame m args n) := by
      intro ws hh p e s m args below meth c s₁ hws hhm B hml htb hP
      obtain ⟨hv, hrel, hkn, hA, hal⟩ := hP
      have hts := atoms_spec (ws := ws) B.pre
      have hown : s.vm.findClass y.cls = some m.cls := findClass_of_methodNamed B.named
      rw [g1] at hown
      have BD : aBd p l (aRm (d + 1) r.2.2) s m args meth c D ka sg A n o d b false (y.name == "<init>") (aRun false d) hd cd rt hh :=
        ⟨⟨B.exec, B.bytes, hml, hown, fun w hw => hts w (hws w hw), hkn, hA, hl⟩, ⟨Nat.le_of_eq rfl, by show 60 * d + 220 ≤ 60 * (d + 1) + 160; omega⟩, fun hi => (name_of_methodNamed B.named B.method).1.trans (eq_of_beq hi), ⟨htb, hhm⟩, B.notSynchronized, B.returns, IA, aOk_at hok⟩
      have hsim := (m_it (e := e) (below := below) (n0 := h.length) hl BD IH (hM d IH) h9 N _ _ hit).2 (Nat.le_refl _) (Nat.le_refl _)
      subst hv
      have hW := hsim sg mAg.rf s.heap [] _ hrel va_S.rf (aLoc_in hlen2 hcat) (fun z => by cases z)
      rw [lg_entry_eq]
      exact W_mono (fun t ht => mEq_out ht) hW
    by_cases hd0 : hd = []
    · subst hd0
      refine vx_ofW (ws' := aWg) g2 (aWs_plain e1 e2 rfl) (fun p e s m args below meth c s₁ B hml ht hP => ?_)
      refine key (aWs a) [] p e s m args below meth c s₁ (fun w hw => ?_) rfl B hml ?_ hP
      · rw [aWs_plain e1 e2 rfl]
        exact List.mem_cons_of_mem _ hw
      · exact List.eq_nil_iff_forall_not_mem.mpr fun z hz => ht z hz
    · have hd1 : hd.isEmpty = false := by cases hd with
        | nil => exact absurd rfl hd0
        | cons _ _ => rfl
      rw [if_neg (by rw [hd1]; decide)] at g6
      refine vx_ofWH (ws' := aWg) (hh := aHh a) g2 (aWs_with e1 e2 hd1) (fun p e s m args below meth c s₁ B hml hP => ?_)
      refine key (aWs a) (aHh a) p e s m args below meth c s₁ (fun w hw => ?_) g6.2 B hml ?_ hP
      · rw [aWs_with e1 e2 hd1]
        exact List.mem_cons_of_mem _ hw
      · refine vx_table (x := y) B (bytes := b) (maxL' := n) (ret' := rt) (atoms_spec (ws := aWs a) B.pre _ ?_)
        rw [aWs_with e1 e2 hd1]
        exact List.mem_cons_self
