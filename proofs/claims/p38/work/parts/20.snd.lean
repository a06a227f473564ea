/-! WHAT A RUN SAYS, THE MACHINE DOES -/
theorem aOk_at {o : Nat} {ini : Bool} {b : ByteArray} {cd : List aI} (h : (cd.zipIdx.all fun q => aOkI o ini b q.2 q.1.1 q.1.2.1 q.1.2.2.1 q.1.2.2.2) = true) : ∀ (pc : Nat) (x : aI), cd[pc]? = some x → aOkI o ini b pc x.1 x.2.1 x.2.2.1 x.2.2.2 = true := by
  intro pc x hx
  exact List.all_eq_true.mp h (x, pc) (List.mem_zipIdx_iff_getElem?.mpr hx)
theorem aLoc_in {sg : Nat → Nat} {as : List Value} {n : Nat} (hn : as.length ≤ n) (hc : ∀ v ∈ as, v.category = 1) : aLoc sg ((lg_sl (as.map (aCv sg)) ++ List.replicate (n - (lg_sl (as.map (aCv sg))).length) Slot.unset).toArray) n (aIn n as) := by
  have e : ∀ vs : List Value, (∀ v ∈ vs, v.category = 1) → lg_sl (vs.map (aCv sg)) = vs.map fun v => Slot.val (aCv sg v) := by
    intro vs
    induction vs with
    | nil => intro _; rfl
    | cons v r ih =>
      intro h
      have h1 := ih fun w hw => h w (List.mem_cons_of_mem _ hw)
      have h2 : (aCv sg v).category = 1 := (aCv_cat sg v).trans (h v List.mem_cons_self)
      unfold lg_sl at h1 ⊢
      rw [List.map_cons, List.flatMap_cons, h1, if_neg (by rw [h2]; decide)]
      rfl
  have hl : (lg_sl (as.map (aCv sg))).length = as.length := by rw [e as hc, List.length_map]
  have hv := lv_entry (as.map (aCv sg)) (n := n) (by rw [hl]; exact hn)
  refine ⟨hv.1, hv.2.1, ?_, ?_⟩
  · unfold aIn
    rw [List.length_append, List.length_map, List.length_replicate]
    omega
  · intro i v hi
    have hlt : i < as.length := by
      by_cases hlt : i < as.length
      · exact hlt
      · unfold aIn at hi
        rw [List.getElem?_append_right (by rw [List.length_map]; omega), List.getElem?_replicate] at hi
        split at hi <;> cases hi
    unfold aIn at hi
    rw [List.getElem?_append_left (by rw [List.length_map]; exact hlt), List.getElem?_map] at hi
    rw [List.getElem?_toArray, List.getElem?_append_left (by rw [hl]; exact hlt), e as hc, List.getElem?_map]
    cases ha : as[i]? with
    | none => rw [ha] at hi; cases hi
    | some w =>
      rw [ha] at hi
      cases hi
      rfl
section SIT
variable {p : Program} {l : Launch} {e : Env} {R : Room} {s : State} {m : MethodId} {args : Array Value} {below : List Frame} {meth : Method} {c : Code} {D : va_G} {ka : FieldType → ClassId} {sg : Nat → Nat} {A : Nat → Prop} {nL o d : Nat} {cc : ByteArray} {al ini : Bool} {call : aF} {hd : aD} {cd : List aI} {rt : Option FieldType} {hh : List (Nat × Nat × Nat × Nat)}
theorem g_one (B : aBd p l R s m args meth c D ka sg A nL o d cc al ini call hd cd rt hh) {t : aS} {z : aS ⊕ aR} (hz : aStep call aCls hd cd rt al t = some z) : aGl p l e R s m args below meth c D ka sg A nL al t z := by
  unfold aStep at hz
  split at hz
  · cases hz
  · rename_i i a b v hi
    exact g_step B (B.2.2.2.2.2.2.2 _ _ hi) hz
theorem g_it (B : aBd p l R s m args meth c D ka sg A nL o d cc al ini call hd cd rt hh) : ∀ (n : Nat) (t : aS) (r : aR), aIt (aStep call aCls hd cd rt al) n t = some (.inr r) → (t.2.2.2.2.1 ≤ r.2.2.1 ∧ t.2.2.2.2.2 ≤ r.2.2.2) ∧ (r.2.2.1 ≤ R.cells → r.2.2.2 ≤ R.slots → aSim p l e R s m args below meth c (aEq below D ka sg A al args s r) D ka sg A nL al t)
  | 0, t, r, h => by cases h
  | n + 1, t, r, h => by
    cases hf : aStep call aCls hd cd rt al t with
    | none => rw [aIt_non hf] at h; cases h
    | some x =>
      cases x with
      | inl u =>
        rw [aIt_inl hf] at h
        obtain ⟨⟨k1, k2⟩, k3⟩ := g_one (e := e) (below := below) B hf
        obtain ⟨⟨k4, k5⟩, k6⟩ := g_it B n u r h
        exact ⟨⟨Nat.le_trans k1 k4, Nat.le_trans k2 k5⟩, fun g1 g2 => k3 (Nat.le_trans k4 g1) (Nat.le_trans k5 g2) _ (k6 g1 g2)⟩
      | inr q =>
        rw [aIt_inr hf] at h
        cases h
        exact g_one (e := e) (below := below) B hf
end SIT
theorem aSnd_all {l : Launch} {D : va_G} {ka : FieldType → ClassId} {sg : Nat → Nat} {A : Nat → Prop} {al : Bool} (hl : l.stackTraces = false) : ∀ d, aSnd l D ka sg A al d (aRun al d)
  | 0 => by
    intro a as h r hr
    cases hr
  | d + 1 => by
    intro a as h r hr hcat ha hlen y b hyb
    have IH := aSnd_all (D := D) (ka := ka) (sg := sg) (A := A) (al := al) hl d
    obtain ⟨o, cd, hd, rt, n, y', b', np, st, e1, e2, ⟨q1, q2, q3, q4, e3⟩, g1, g2, g3, g4, g5, g6, g7, g8⟩ := aMok_spec ha
    cases Option.some.inj (e2.symm.trans hyb)
    obtain ⟨o9, cd9, hd9, rt9, n9, hm, ⟨N, hit⟩⟩ := aRun_ex hr
    cases Option.some.inj (e1.symm.trans hm)
    have hok := aOk_all a ha
    unfold aOkM at hok
    rw [e1, e2] at hok
    have hlen2 : as.length ≤ n := by
      unfold aNa at hlen
      rw [e3] at hlen
      dsimp only at hlen
      omega
    have key : ∀ (ws : List Cond) (hh : List (Nat × Nat × Nat × Nat)) (p : Program) (e : Env) (s : State) (m : MethodId) (args : Array Value) (below : List Frame) (meth : Method) (c : Code) (s₁ : State), (∀ w ∈ aWg, w ∈ ws) → aHm (aOwn o) hh hd = true → BodyLoose p l y (headSpec ws (aRm (d + 1) r.2.2)) b n rt e s m args below meth c s₁ → c.maxLocals = n → c.exceptionTable.toList = tableOf hh → aPc D ka sg A al as h args s →
        W p l e (headSpec ws (aRm (d + 1) r.2.2)).room s m args below meth c s.heap [] 0 0 (vx_MQ below (aQc D ka sg A al r) (aXC D ka sg A al r) args s r.2.2.1 r.2.2.2 A) (entryFrame m args n) := by
      intro ws hh p e s m args below meth c s₁ hws hhm B hml htb hP
      obtain ⟨hv, hrel, hkn, hA, hal⟩ := hP
      have hts := atoms_spec (ws := ws) B.pre
      have hown : s.vm.findClass y.cls = some m.cls := findClass_of_methodNamed B.named
      rw [g1] at hown
      have BD : aBd p l (aRm (d + 1) r.2.2) s m args meth c D ka sg A n o d b al (y.name == "<init>") (aRun al d) hd cd rt hh :=
        ⟨⟨B.exec, B.bytes, hml, hown, fun w hw => hts w (hws w hw), hkn, hA, hl⟩, ⟨Nat.le_of_eq rfl, by show 60 * d + 220 ≤ 60 * (d + 1) + 160; omega⟩, fun hi => (name_of_methodNamed B.named B.method).1.trans (eq_of_beq hi), ⟨htb, hhm⟩, B.notSynchronized, B.returns, IH, aOk_at hok⟩
      have hsim := (g_it (e := e) (below := below) BD N _ _ hit).2 (Nat.le_refl _) (Nat.le_refl _)
      subst hv
      have hW := hsim s.heap [] _ hrel va_S.rf (aLoc_in hlen2 hcat) hal
      rw [lg_entry_eq]
      exact hW
    by_cases hd0 : hd = []
    · subst hd0
      refine vx_ofW (ws' := aWg) g2 (aWs_plain e1 e2 rfl) (fun p e s m args below meth c s₁ B hml ht hP => ?_)
      refine key (aWs a) [] p e s m args below meth c s₁ (fun w hw => ?_) rfl B hml ?_ hP
      · rw [aWs_plain e1 e2 rfl]
        exact List.mem_cons_of_mem _ hw
      · exact List.eq_nil_iff_forall_not_mem.mpr fun z hz => ht z hz
    · have hd1 : hd.isEmpty = false := by cases hd with
        | nil => exact absurd rfl hd0
        | cons _ _ => rfl
      rw [if_neg (by rw [hd1]; decide)] at g6
      refine vx_ofWH (ws' := aWg) (hh := aHh a) g2 (aWs_with e1 e2 hd1) (fun p e s m args below meth c s₁ B hml hP => ?_)
      refine key (aWs a) (aHh a) p e s m args below meth c s₁ (fun w hw => ?_) g6.2 B hml ?_ hP
      · rw [aWs_with e1 e2 hd1]
        exact List.mem_cons_of_mem _ hw
      · refine vx_table (x := y) B (bytes := b) (maxL' := n) (ret' := rt) (atoms_spec (ws := aWs a) B.pre _ ?_)
        rw [aWs_with e1 e2 hd1]
        exact List.mem_cons_self
