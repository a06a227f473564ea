/-! THE MAKING AND READING OF A TEXT IS SOUND -/
theorem aKh.narrow {sg : Nat → Nat} {A B : Nat → Prop} {U : State} {H : Heap} (h : aKh sg A U H) (hAB : ∀ q, B q → A q) : aKh sg B U H :=
  ⟨fun i hi => (h.1 i hi).narrow hAB, h.2.1.narrow hAB, h.2.2.1.narrow hAB, fun q hq => (h.2.2.2.1 q hq).elim fun a ha => ha.elim fun v hv => ⟨a, v, hv.1, hv.2.narrow hAB⟩, h.2.2.2.2.elim fun t q => ⟨t, q.1.narrow hAB, q.2.narrow hAB⟩⟩
theorem r_more {D : va_G} {ka : FieldType → ClassId} {sg : Nat → Nat} {A B : Nat → Prop} {U : State} {h : aH} {H H1 : Heap} (hr : aRel D ka sg A U h H) (ho : ∀ x : Nat, x < H.size → H1[x]? = H[x]?) (h1 : ∀ x : Nat, x < H.size → A x → B x) (h2 : ∀ x, B x → A x) : aRel D ka sg B U h H1 := by
  refine ⟨fun q c hq => ?_, hr.2⟩
  have hc := hr.1 q c hq
  obtain ⟨w, e⟩ := c
  cases w <;> cases e
  · obtain ⟨f, g1, g2⟩ := hc
    exact ⟨f, g1, (g2.kept (fun a g _ => ho a g)).narrow h2⟩
  · exact fun hi => (hc hi).elim fun v hv => ⟨v, (hv.kept (fun a g _ => ho a g)).narrow h2⟩
  · obtain ⟨g1, g2⟩ := hc
    have hl : sg q < H.size := (Array.getElem?_eq_some_iff.mp g2).1
    exact ⟨h1 _ hl g1, by rw [ho _ hl]; exact g2⟩
  · obtain ⟨g1, r, g2, g3⟩ := hc
    have hl : sg q < H.size := by
      obtain ⟨cell, g4, -⟩ := g3
      exact (Array.getElem?_eq_some_iff.mp g4).1
    exact ⟨h1 _ hl g1, r, g2, g3.kept (ho _ hl)⟩
/-- a cell that is not to be written, in another heap that has it too -/
theorem on_ro {D : va_G} {ka : FieldType → ClassId} {sg s2 : Nat → Nat} {A : Nat → Prop} {U : State} {H H2 : Heap} {q : Nat} {e : aE} (h : aOn D ka sg A U H q (false, e)) (hs : s2 q = sg q) (hk : ∀ a : Nat, a < H.size → ¬ A a → H2[a]? = H[a]?) : aOn D ka s2 A U H2 q (false, e) := by
  cases e
  · obtain ⟨f, g1, g2⟩ := h
    refine ⟨f, g1, ?_⟩
    rw [hs]
    exact g2.kept hk
  · intro hi
    obtain ⟨v, hv⟩ := h hi
    refine ⟨v, ?_⟩
    rw [hs]
    exact hv.kept hk
theorem on_rw {D : va_G} {ka : FieldType → ClassId} {sg : Nat → Nat} {A B : Nat → Prop} {U : State} {H : Heap} {q : Nat} {e : aE} (h : aOn D ka sg B U H q (true, e)) (hB : ∀ x, B x → A x) : aOn D ka sg A U H q (true, e) := by
  cases e
  · exact ⟨hB _ h.1, h.2⟩
  · exact ⟨hB _ h.1, h.2⟩
theorem mMac_inv {mr : aF} {n0 : Nat} {ls : List (Option Value)} {st : List Value} {h : aH} {k : aK} {z : aS ⊕ aR} (hz : mMac mr n0 ls st h k = some z) : ∃ c o x h1 kk, ls[5]? = some (some (.int c)) ∧ st = [.ref o] ∧ (mCl h ∧ 0 ≤ c ∧ 8 ≤ h.length ∧ n0 ≤ h.length ∧ mLs h.length ls st = true) ∧ mr 153 [.ref o, .ref h.length] (h ++ [(false, .inr (mTx c, []))]) = some (.inl (some (.int x)), h1, kk) ∧ h1.length = h.length + 1 ∧ z = .inl (466, ls, [.int x], h1.take h.length, (k.1 + (8 + kk.1), k.2 + (100 + kk.2))) := by
  unfold mMac at hz
  split at hz
  · rename_i c o h5
    split at hz
    · rename_i g
      split at hz
      · rename_i x h1 kk e1
        split at hz
        · rename_i e2
          cases hz
          exact ⟨c, o, x, h1, kk, h5, rfl, g, e1, e2, rfl⟩
        · cases hz
      · cases hz
    · cases hz
  · cases hz
theorem add_app {h : aH} {x : aE} {j : Nat} {c : aE} (hj : (h ++ [((false, x) : aC)])[j]? = some (true, c)) : h[j]? = some (true, c) := by
  by_cases hlt : j < h.length
  · rw [List.getElem?_append_left hlt] at hj
    exact hj
  · have hj2 := (List.getElem?_eq_some_iff.mp hj).1
    rw [List.length_append] at hj2
    have hj2 : j < h.length + 1 := hj2
    obtain rfl : j = h.length := by omega
    rw [List.getElem?_append_right (Nat.le_refl _), Nat.sub_self] at hj
    cases hj
section MMO
variable {l : Launch} {D : va_G} {ka : FieldType → ClassId} {d : Nat}
theorem mMac_ok (hl : l.stackTraces = false) (hS : mSnd l D ka d (mRun d)) : mMacOk l D ka d (mRun d) := by
  intro p e R s m args below meth c sg A nL hd cd rt hh n0 ls st h k z B hz
  obtain ⟨c0, o, x, h1, kk, h5, rfl, ⟨hcl, hc0, h8, hn, hls⟩, hmr, hl1, rfl⟩ := mMac_inv hz
  refine ⟨⟨Nat.le_add_right _ _, Nat.le_add_right _ _⟩, fun g1 g2 Q K s2 g H locs L a1 a2 a3 a4 => ?_⟩
  have g1 : k.1 + (8 + kk.1) ≤ R.cells := g1
  have g2 : k.2 + (100 + kk.2) ≤ R.slots := g2
  unfold mLs at hls
  rw [Bool.and_eq_true] at hls
  have ho : o < h.length := by
    have h9 := List.all_eq_true.mp hls.2 (.ref o) List.mem_cons_self
    exact of_decide_eq_true h9
  have C := (B.re g (aSnd_all hl d) (al2 := false)).1
  obtain ⟨hx, hb, hml, hown, hts0, hKn, hA, -⟩ := id C
  have hown : s.vm.findClass RL = some m.cls := hown
  have hts : ∀ w ∈ bWg, w.before args s = true := bWg_hts hts0 hKn.1.2.2.2.2.2.2.1
  obtain ⟨cSB, iSB, hSB⟩ := u_known (C := RSB) (T := TSB) (N := 4) hts bLay (hts _ xl_n.2.1)
  obtain ⟨cST, iST, hST⟩ := u_known (C := RST) (T := TST) (N := 4) hts sLay (hts _ sl_n.2.1)
  obtain ⟨cA, hAr, hRA⟩ := va_RAof (ty := .byte) (hts _ bl_O3.2.2.2) (fun C h => by cases h)
  have hf : s.vm.findClass "[B" = some cA := hRA
  obtain ⟨DB, hKs⟩ : ∃ DB : va_G, va_K DB sCl [(cA, .byte)] s := by
    refine ⟨(fun ci => match ci with | 0 => cSB | _ => cST, fun ci => match ci with | 0 => iSB | _ => iST), fun ci q hq => ?_, fun i q hq => ?_⟩
    · match ci, hq with
      | 0, hq => cases hq; exact hSB
      | 1, hq => cases hq; exact hST
      | ci + 2, hq => cases hq
    · match i, hq with
      | 0, hq => cases hq; exact ⟨hAr, hRA⟩
      | i + 1, hq => cases hq
  have hT : ∀ q, q ∈ aTxt → ∃ a v, vk_R RL q.1 q.2.1 a s ∧ jStr q.2.2 a v A s s.heap := hKn.2.2.2.2.1
  obtain ⟨aS, vS, -, jS⟩ := hT (247, "t", 91) (by decide +kernel)
  have b1 := B.2.1.1
  have b2 := B.2.1.2
  have X : xCx p s m args c DB cA A R := ⟨hx, hb, hown, hts, hKs, hf, jS.1, jS.2.1, hKn.2.2.2.2.2, hA, by omega, by omega⟩
  have hL5 : L[5]? = some (.val (.int c0)) := a3.2.2.2 5 _ h5
  show W p l e R s m args below meth c H locs k.1 k.2 Q (F0 m 375 L [.ref (s2 o)])
  refine x_text (o := s2 o) X hT a2 hc0 hL5 ⟨by omega, by omega⟩ (a3.1.trans hml.symm) (fun H1 locs1 q w hq hw hq1 hw1 hG z1 o1 S1 => ?_)
  have hsz0 := a2.1
  obtain ⟨A', hA'⟩ : ∃ A' : Nat → Prop, A' = fun x => A x ∧ x ≠ q ∧ x ≠ w := ⟨_, rfl⟩
  have hAA : ∀ x, A' x → A x := fun x hx => by
    rw [hA'] at hx
    exact hx.1
  have hAb : ∀ x, A x → x ≠ q → x ≠ w → A' x := fun x h1 h2 h3 => by
    rw [hA']
    exact ⟨h1, h2, h3⟩
  have hAq : ¬ A' q := fun h => by
    rw [hA'] at h
    exact h.2.1 rfl
  have hAw : ¬ A' w := fun h => by
    rw [hA'] at h
    exact h.2.2 rfl
  obtain ⟨s3, hs3⟩ : ∃ s3 : Nat → Nat, s3 = fun x => if x = h.length then q else s2 x := ⟨_, rfl⟩
  have g3 : mAg h.length s2 s3 := fun x hx => by
    rw [hs3]
    exact if_neg (by omega)
  have e3 : s3 h.length = q := by
    rw [hs3]
    exact if_pos rfl
  have r1 : aRel D ka s3 A' s h H1 := r_more (g3.rel hcl a1) o1 (fun x hx hx2 => hAb x hx2 (by omega) (by omega)) hAA
  have r2 : aRel D ka s3 A' s (h ++ [(false, .inr (mTx c0, []))]) H1 := by
    refine ⟨fun j cj hj => ?_, fun j j1 cj cj1 hj hj1 hs => r1.2 j j1 cj cj1 (add_app hj) (add_app hj1) hs⟩
    by_cases hlt : j < h.length
    · rw [List.getElem?_append_left hlt] at hj
      exact r1.1 j cj hj
    · have hj2 := (List.getElem?_eq_some_iff.mp hj).1
      rw [List.length_append] at hj2
      have hj2 : j < h.length + 1 := hj2
      obtain rfl : j = h.length := by omega
      rw [List.getElem?_append_right (Nat.le_refl _), Nat.sub_self] at hj
      cases hj
      exact fun _ => ⟨w, by rw [e3]; exact gStr.j (hG A' hAA hAq hAw)⟩
  have k3 := g3.kn hKn
  have hcon := hS s3 A' 153 [.ref o, .ref h.length] (h ++ [(false, .inr (mTx c0, []))]) (.inl (some (.int x)), h1, kk) hmr (fun v hv => by
    rcases List.mem_cons.mp hv with rfl | hv
    · rfl
    · rw [List.mem_singleton.mp hv]
      rfl) (by decide) (by show 2 = aNa 153; decide +kernel) yL_read cL_read rfl
  have hcon : vx_Met l yL_read (aWs 153) (aRm d kk) (aPc D ka s3 A' false [.ref o, .ref h.length] (h ++ [(false, .inr (mTx c0, []))])) (fun a st o t => ∃ s4, mAg (h ++ [((false, .inr (mTx c0, [])) : aC)]).length s3 s4 ∧ aQc D ka s4 A' false (.inl (some (.int x)), h1, kk) a st o t) (fun E st t => ∃ s4, mAg (h ++ [((false, .inr (mTx c0, [])) : aC)]).length s3 s4 ∧ aXC D ka s4 A' false (.inl (some (.int x)), h1, kk) E st t) kk.1 kk.2 A' := hcon
  rw [aWs_plain (a := 153) (o := 9) (n := 3) (cd := aB_L_read) (hd := []) (rt := some .int) (y := yL_read) (b := cL_read) rfl rfl rfl] at hcon
  have hmet := vx_toMet hcon (fun E st t hq => by
    obtain ⟨s4, -, hq⟩ := hq
    exact aXC_ret E st t hq)
  have hcw := a_cwS (kd := kk) (R := R) (d := d) (y := yL_read) (b := cL_read) (n := 3) (rt := some .int) (np := 2) (idx := 267) C ⟨xwa (by decide +kernel), xwa (by decide +kernel), by decide, by decide, by decide +kernel, by decide⟩ (xwa (by decide +kernel)) (xwa (by decide +kernel)) b1 b2
  have hpre : PreS s H1 (aPc D ka s3 A' false [.ref o, .ref h.length] (h ++ [(false, .inr (mTx c0, []))])) (([.ref o, .ref h.length] : List Value).map (aCv s3)) := ⟨aPc.blind, fun U hU hW => ⟨rfl, by rw [hU]; exact r2.moved hW.alike, ⟨k3.1.warm hW, by rw [hU]; exact (k3.2.moved hW.alike (fun k tx a h => vk_R.warm hW h) S1.2.1).narrow hAA⟩, fun y hy => by
    rw [hU] at hy
    exact hAb y (hA y (by omega)) (by omega) (by omega), fun h => by cases h⟩⟩
  have hrun := va_runS (As := ([.ref o, .ref h.length] : List Value).map (aCv s3)) (rest := []) (g := F0 m 463 L [.ref q, .ref (s2 o)]) (locs := locs1) (cells := k.1 + 8) (slots := k.2 + 100) (below := below) (meth := meth) (e := e) ⟨C.1, C.2.1, C.2.2.1, C.2.2.2.1, C.2.2.2.2.1⟩ hmet hcw hpre rfl rfl a3.1 (by
    show [Value.ref q, Value.ref (s2 o)] = [Value.ref (s3 h.length), Value.ref (s3 o)]
    rw [e3, g3 o (Or.inl ho)]) (by show 2 * 0 + 0 ≤ 8; decide) (by show decode cL_undone 463 = .ok (.invokestatic 267, 3); decide +kernel) ⟨by omega, by omega⟩
  intro T hTh Y
  obtain ⟨v9, st₀, t, T', Ls, h0, X', hLs, e1, e2, ⟨s4, hag, v1, ev, eo, hrel, hF, -⟩, stp⟩ := hrun T hTh Y
  cases ev
  cases eo
  obtain ⟨kz, k4, k5⟩ := vx_keep h0 e1 S1 (fun _ _ z => hAA _ z) (fun _ z => hAA _ z) hLs hF
  have hal : s.vm.Alike t.vm := by
    rw [← e2]
    exact X'.warmed.alike
  have g4 : mAg h.length s2 s4 := g3.trans hag (by rw [List.length_append]; omega)
  have r3 : aRel D ka s4 A' s h1 T'.heap := by
    rw [e1]
    exact hrel.moved hal.symm
  have hkp := mRun_kp d 153 _ _ _ hmr
  have tk : ∀ {j : Nat} {cj : aC}, (h1.take h.length)[j]? = some cj → j < h.length ∧ h1[j]? = some cj := fun {j cj} hj => by
    have hjl := (List.getElem?_eq_some_iff.mp hj).1
    rw [List.length_take, hl1] at hjl
    have hjl : j < h.length := by omega
    rw [List.getElem?_take_of_lt hjl] at hj
    exact ⟨hjl, hj⟩
  have r4 : aRel D ka s4 A s (h1.take h.length) T'.heap := by
    refine ⟨fun j cj hj => ?_, fun j j1 cj cj1 hj hj1 hs => r3.2 j j1 cj cj1 (tk hj).2 (tk hj1).2 hs⟩
    obtain ⟨hjl, hj⟩ := tk hj
    obtain ⟨w9, ej⟩ := cj
    cases w9
    · have h6 := hkp.2 j ej (by rw [List.length_append]; omega) hj
      rw [List.getElem?_append_left hjl] at h6
      exact on_ro (a1.1 j _ h6) (g4 j (Or.inl hjl)) (fun a ha hn => (k4 a (by omega) (fun z => hn (hAA a z))).trans (o1 a ha))
    · exact on_rw (r3.1 j _ hj) hAA
  rw [Nat.add_assoc k.1, Nat.add_assoc k.2] at X'
  obtain ⟨t2, c1, c2⟩ := K s4 (g.trans g4 hn) T'.heap _ L r4 k5 (g4.loc hls.1 a3) (fun z => by cases z) T' rfl X'
  exact ⟨t2, stp t2 c1, c2⟩
end MMO
