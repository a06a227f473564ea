/-! THE CLAIM OUT OF ONE WALK OF THE LAW'S BODY. Your part is whole_start (and what it stands on); all else here is the same for every law, but numbers. -/
def R_law : String := "SaggarKilnLaw"
def lw_P (b : Addr) (xs : List Int32) (args : Array Value) (s : State) : Prop := args = #[.ref b] ∧ s.IntsAt b xs ∧ xs.length ≤ 260 ∧ (Jvm.Cond.and given_1 narrow_1).before args s = true
/-- what a walk over the start with the record d0 says of its end, said of the start itself -/
theorem lw_closed {s t : State} {o : Outcome} {d0 : Drawn} {L : List Loc} {k n : Nat} (hd0 : s.drawn.sameBut d0 lw_cs) (hv : ∃ v, o = .returned v) (hW : (s.setDrawn d0).WarmedH t.vm) (hs : (s.setDrawn d0).sameButNew ({ t with vm := s.vm } : State) L k n) : State.butDraws s t lw_cs (fun t1 => Framed s o t1 L k n) := by
  have h2 : t.drawn = d0 := congrArg State.drawn hs.1
  refine ⟨⟨hv, hW, State.sameButNew.setDrawn hs s.drawn⟩, ?_, by decide⟩
  rw [h2]
  exact hd0
def lw_Q (_ : Array Value) (s : State) (o : Outcome) (t : State) : Prop := o = .returned (some (.int 1)) ∧ State.butDraws s t lw_cs (fun t1 => Framed s o t1 [] 600222 7295254)
def lw_Z (below : List Frame) (a : Array Value) (s : State) : State → Prop := fun t => ∃ o, t.status = .running ∧ Ended t below o ∧ lw_Q a s o t
/-- the law's own end, with 1 on the stack, nothing written that was there before, its room as the claim has it; d0: the record of draws at this point (at the entry s.drawn: begin with 'refine W.base ?_' and 'have hd0 := Drawn.sameBut.refl s.drawn lw_cs') -/
theorem lw_ret {p : Program} {l : Launch} {e : Env} {s : State} {m : MethodId} {below : List Frame} {meth : Method} {c : Code} {b : Nat} {d0 : Drawn} (hd0 : s.drawn.sameBut d0 lw_cs) (hx : p.tables.exec = Jvm.exec) (hb : c.code = code) (hr : meth.sig.returnType = ret) (hlocks : meth.locks = false) {pc : Nat} {H : Heap} {ls : Array Slot} (hdg : decode code pc = .ok (.ireturn, 1)) : W p l e room_1 (s.setDrawn d0) m #[Value.ref b] below meth c H [] 600222 7295254 (lw_Z below #[Value.ref b] s) (F0 m pc ls [.int 1]) := by
  intro T hT X
  obtain ⟨fs, hret, hrun, hended, hW, hframe⟩ := X.leave (v := some (.int 1)) (hlocks := hlocks) (fun h => by rw [hr] at h; cases h)
  have hmeth' : T.vm.method? m = some meth := X.method'
  refine ⟨T.setFrames fs, ?_, .returned (some (.int 1)), hrun, hended, rfl, lw_closed hd0 ⟨_, rfl⟩ hW hframe⟩
  jvm_step X.here [X.here.top, hx, hb, hdg, hmeth', hr, ret, narrow_b1]
  (try refine ⟨rfl, ?_⟩); (try refine ⟨rfl, ?_⟩)
  first | (intro acts; rw [hret _ acts rfl rfl rfl]) | rw [hret _ _ rfl rfl rfl]
  exact Steps.refl _
/-- what holds at the law's entry: the machine, the code, the tables' words (any of lw_tbl by 'hts w (by decide +kernel)'), the script of L ints xs at the cell b, what the Statement gives of the start (any of its parts by flat_of_before) -/
def lw_At (p : Program) (s : State) (m : MethodId) (meth : Method) (c : Code) (b L : Nat) (xs : Nat → Int32) : Prop :=
  p.tables.exec = Jvm.exec ∧ c.code = code ∧ meth.sig.returnType = ret ∧ c.maxLocals = 2 ∧ s.vm.findClass R_law = some m.cls ∧ (∀ w ∈ lw_tbl, w.before #[Value.ref b] s = true) ∧ va_X b L xs s s.heap ∧ b < s.heap.size ∧ meth.locks = false ∧ (Jvm.Cond.and given_1 narrow_1).before #[Value.ref b] s = true ∧ c.exceptionTable.toList = []
theorem aS0_ro {sn : Nat} {sf : Nat → Int32} {q : Nat} {c : aE} (h : (aS0 sn sf)[q]? = some (true, c)) : False := by
  match q, h with
  | 0, h => cases h
  | 1, h => cases h
  | 2, h => cases h
  | 3, h => cases h
  | 4, h => cases h
  | 5, h => cases h
  | 6, h => cases h
  | 7, h => cases h
  | q + 8, h => cases h
theorem aS0_rel {D : va_G} {ka : FieldType → ClassId} {sg : Nat → Nat} {s : State} {b L : Nat} {xs : Nat → Int32} (h5 : sg 5 = b) (ht : ∀ i, i < 5 → va_T (aTb i).1 (sg i) (aTb i).2.1 (fun j => .int ((aTb i).2.2 j)) (fun q => s.heap.size ≤ q) s s.heap) (h6 : ∃ v, jStr 90 (sg 6) v (fun q => s.heap.size ≤ q) s s.heap) (hX : va_X b L xs s s.heap) (hb : b < s.heap.size) : aRel D ka sg (fun q => s.heap.size ≤ q) s (aS0 L xs) s.heap := by
  refine ⟨fun q c hq => ?_, fun q q1 c c1 h _ _ => (aS0_ro h).elim⟩
  match q, hq with
  | 0, hq => cases hq; exact ⟨_, rfl, ht 0 (by decide)⟩
  | 1, hq => cases hq; exact ⟨_, rfl, ht 1 (by decide)⟩
  | 2, hq => cases hq; exact ⟨_, rfl, ht 2 (by decide)⟩
  | 3, hq => cases hq; exact ⟨_, rfl, ht 3 (by decide)⟩
  | 4, hq => cases hq; exact ⟨_, rfl, ht 4 (by decide)⟩
  | 5, hq =>
    cases hq
    obtain ⟨scr, g1, g2, g3, g4, g5⟩ := hX
    refine ⟨_, rfl, scr, by rw [h5]; exact g1, g2, g3, Nat.le_of_eq g4.symm, ?_, g5, ?_⟩
    · rw [g4]
    · rw [h5]
      show ¬ s.heap.size ≤ b
      omega
  | 6, hq => cases hq; exact fun _ => h6
  | 7, hq => cases hq; exact fun h => absurd h (by decide)
  | q + 8, hq => cases hq
set_option maxRecDepth 100000 in
theorem d_51 : decode code 51 = .ok (.ireturn, 1) := by decide +kernel
theorem law_kb : (aB_L_law.all fun q => decide (mKind q.1 q.2.1 < 3)) = true := by decide +kernel
theorem law_k (pc : Nat) (x : aI) (hx : aB_L_law[pc]? = some x) (h3 : ¬ mKind x.1 x.2.1 < 3) : pc = 375 ∧ code = cL_undone ∧ (9 : Nat) = 9 ∧ false = false :=
  absurd (of_decide_eq_true (List.all_eq_true.mp law_kb x (List.mem_of_getElem? hx))) h3
section MTO
variable {p : Program} {l : Launch} {e : Env} {R : Room} {s : State} {m : MethodId} {args : Array Value} {below : List Frame} {meth : Method} {c : Code} {D : va_G} {ka : FieldType → ClassId} {sg : Nat → Nat} {A : Nat → Prop} {nL o d n0 : Nat} {cc : ByteArray} {ini : Bool} {hd : aD} {cd : List aI} {rt : Option FieldType} {hh : List (Nat × Nat × Nat × Nat)} {mr : aF}
theorem m_to (hl : l.stackTraces = false) (B : aBd p l R s m args meth c D ka sg A nL o d cc false ini (aRun false d) hd cd rt hh) (hS : mSnd l D ka d mr) (hM : mMacOk l D ka d mr) (h9 : ∀ (pc : Nat) (x : aI), cd[pc]? = some x → ¬ mKind x.1 x.2.1 < 3 → pc = 375 ∧ cc = cL_undone ∧ o = 9 ∧ ini = false) : ∀ (n : Nat) (t u : aS), aIt (mStep n0 d mr hd cd rt) n t = some (.inl u) → (t.2.2.2.2.1 ≤ u.2.2.2.2.1 ∧ t.2.2.2.2.2 ≤ u.2.2.2.2.2) ∧ (u.2.2.2.2.1 ≤ R.cells → u.2.2.2.2.2 ≤ R.slots → ∀ Q, mSim p l e R s m args below meth c Q D ka sg A nL n0 u → mSim p l e R s m args below meth c Q D ka sg A nL n0 t)
  | 0, t, u, h => by
    cases h
    exact ⟨⟨Nat.le_refl _, Nat.le_refl _⟩, fun _ _ _ K => K⟩
  | n + 1, t, u, h => by
    cases hf : mStep n0 d mr hd cd rt t with
    | none => rw [aIt_non hf] at h; cases h
    | some x =>
      cases x with
      | inl v =>
        rw [aIt_inl hf] at h
        obtain ⟨⟨k1, k2⟩, k3⟩ := m_one (e := e) (below := below) hl B hS hM h9 hf
        obtain ⟨⟨k4, k5⟩, k6⟩ := m_to hl B hS hM h9 n v u h
        exact ⟨⟨Nat.le_trans k1 k4, Nat.le_trans k2 k5⟩, fun g1 g2 Q K => k3 (Nat.le_trans k4 g1) (Nat.le_trans k5 g2) Q (k6 g1 g2 Q K)⟩
      | inr q =>
        rw [aIt_inr hf] at h
        cases h
end MTO
theorem fl_tr : ∀ l : Launch, l.flags = flags0 → l.stackTraces = false := by
  intro l h
  unfold Launch.stackTraces
  rw [h]
  decide
/-- from the entry, for every script of at most 260 ints, the law comes to its end with true -/
theorem whole_start {p : Program} {e : Env} {s : State} {m : MethodId} {below : List Frame} {meth : Method} {c : Code} (l : Launch) (hflags : l.flags = flags0) {b L : Nat} {xs : Nat → Int32} (hL : L ≤ 260) (C0 : lw_At p s m meth c b L xs) : W p l e room_1 s m #[Value.ref b] below meth c s.heap [] 0 0 (lw_Z below #[Value.ref b] s) (entryFrame m ([Value.ref b] : List Value).toArray 2) := by
  obtain ⟨hx, hb, hr, hml, hown, hts, hX, hbl, hlocks, hgv, htb⟩ := id C0
  have hg : ∀ w ∈ lw_gv, w.before #[Value.ref b] s = true := flat_of_before _ hgv
  have hl := fl_tr l hflags
  obtain ⟨D, ka, sg, hs8, hs5, hkn, htt, hj6⟩ := st_kn hts hg b
  have hwg : ∀ w ∈ aWg, w.before #[Value.ref b] s = true := fun w hw => hts w (List.mem_filter.mp hw).1
  have hM : ∀ d, mSnd l D ka d (mRun d) → mMacOk l D ka d (mRun d) := fun d => mMac_ok hl
  have BD : aBd p l room_1 s m #[Value.ref b] meth c D ka sg (fun q => s.heap.size ≤ q) 2 9 10 code false false (aRun false 10) [] aB_L_law (some .boolean) [] :=
    ⟨⟨hx, hb, hml, hown, hwg, hkn, fun _ h => h, hl⟩, ⟨by decide, by decide⟩, fun h => (by cases h), ⟨htb, rfl⟩, hlocks, hr, aSnd_all hl 10, aK_law⟩
  obtain ⟨ls, h1, kk, ⟨N, hit⟩, hk⟩ := L_law_to (sn := L) (sf := xs) (d := 0) (by omega)
  have hk1 : kk.1 ≤ 2000 := hk.1
  have hk2 : kk.2 ≤ 6 * 2000 := hk.2
  have f3 : kk.1 ≤ 600222 := Nat.le_trans hk1 (by decide)
  have f4 : kk.2 ≤ 7295254 := Nat.le_trans hk2 (by decide)
  have K0 : mSim p l e room_1 s m #[Value.ref b] below meth c (lw_Z below #[Value.ref b] s) D ka sg (fun q => s.heap.size ≤ q) 2 8 (51, ls, [.int 1], h1, kk) := by
    intro s2 g H locs Lv r1 r2 r3 r4
    refine va_forget r2.2.2 (W.widen (k := 600222) (n := 7295254) f3 f4 ?_)
    exact lw_ret (d0 := s.drawn) (Drawn.sameBut.refl s.drawn lw_cs) hx hb hr hlocks d_51
  have K1 := (m_to (e := e) (below := below) hl BD (mSnd_all hl hM 10) (hM 10 (mSnd_all hl hM 10)) law_k N _ _ hit).2 f3 f4 _ K0
  have hR := aS0_rel (D := D) (ka := ka) hs5 htt hj6 hX hbl
  have G := K1 sg mAg.rf s.heap [] _ hR va_S.rf (aLoc_in (n := 2) (as := [.ref 5]) (by decide) (fun v hv => by cases List.mem_singleton.mp hv; rfl)) (fun h => by cases h)
  have eb : List.map (aCv sg) [Value.ref 5] = [Value.ref b] := by
    show [Value.ref (sg 5)] = _
    rw [hs5]
  rw [eb] at G
  rw [lg_entry_eq]
  exact G
set_option maxHeartbeats 4000000 in
theorem lw_walk (l : Launch) (hflags : l.flags = flags0) (b : Addr) (xs : List Int32) : MetFree l x (headSpec (Jvm.Cond.code x code maxLocals ret :: tables_1) room_1) (lw_P b xs) (fun _ _ _ _ _ => True) lw_Q := by
  refine MetFree.of_bodyS (code := code) (maxLocals := maxLocals) (ret := ret) (by decide) ?_ ?_
  · intro args s m h hn
    obtain ⟨meth, c, h1, h2, h3, h4, h5, h6, -, -⟩ := Cond.code_spec hn (atoms_spec (ws := Jvm.Cond.code x code maxLocals ret :: tables_1) h _ List.mem_cons_self)
    exact ⟨meth, c, h1, h2, h3, h4, h5, h6⟩
  · intro p e s m args below meth c s₁ B hml0 hP _
    obtain ⟨rfl, hx, hbd, hgv⟩ := hP
    obtain ⟨scr, harrAt, hlist, hof, hsmall⟩ := hx
    obtain ⟨hcb, hkn, -, -⟩ := State.arrayAt?_spec harrAt
    have hown : s.vm.findClass R_law = some m.cls := findClass_of_methodNamed B.named
    have hts0 : ∀ c ∈ (Jvm.Cond.code x code maxLocals ret :: tables_1), c.before #[Value.ref b] s = true := atoms_spec (ws := Jvm.Cond.code x code maxLocals ret :: tables_1) B.pre
    have hts : ∀ w ∈ lw_tbl, w.before #[Value.ref b] s = true := k2_hts_sels lw_privs (fun w hw => hts0 w (List.mem_cons_of_mem _ hw)) lw_privs_ok
    have hml : c.maxLocals = 2 := B.maxLocals_eq (hts0 _ List.mem_cons_self)
    have X₀ : Stand p l e room_1 s m #[Value.ref b] below meth c s₁ [] 0 0 := Stand.of_body B
    have hh0 : s₁.heap = s.heap := by rw [B.state]; rfl
    have htb : c.exceptionTable.toList = [] := by
      obtain ⟨meth9, c9, h1, h2, -, -, -, -, h7, -⟩ := Cond.code_spec B.named (hts0 _ List.mem_cons_self)
      cases Option.some.inj (h1.symm.trans B.method)
      cases Option.some.inj (h2.symm.trans X₀.code)
      rw [Array.isEmpty_iff.mp h7]
    have hsz : scr.slots.size = xs.length := by rw [← Array.length_toList, hlist, List.length_map]
    have hval : ∀ j : Nat, j < xs.length → scr.slots[j]? = some (.int (xs.getD j 0)) := fun j hj => by
      rw [← Array.getElem?_toList, hlist]
      simp [hj]
    have hbl : b < s.heap.size := (Array.getElem?_eq_some_iff.mp hcb).1
    have hX : va_X b xs.length (fun j => xs.getD j 0) s s.heap := ⟨scr, hcb, hof, hkn, hsz, hval⟩
    have K : W p l e room_1 s m #[Value.ref b] below meth c s₁.heap [] 0 0 (lw_Z below #[Value.ref b] s) (entryFrame m ([Value.ref b] : List Value).toArray 2) := by
      rw [hh0]
      exact whole_start l hflags hbd ⟨B.exec, B.bytes, B.returns, hml, hown, hts, hX, hbl, B.notSynchronized, hgv, htb⟩
    obtain ⟨t, a1, o, b1, b2, b3⟩ := K s₁ rfl X₀
    exact ⟨t, o, a1, b1, b2, b3⟩
theorem lw_pre_spec {args : Array Value} {s : State} (h : (Jvm.Cond.and given_1 narrow_1).before args s = true) (hr : rest_1_c.before args s = true) : ∃ (b : Addr) (xs : List Int32), lw_P b xs args s := by
  have hs := flat_of_before _ h
  have hq := flat_of_before _ hr
  have hc : (Cond.count 1).before args s = true := hs _ (by decide +kernel)
  have harr : (Cond.arrayOf (.arg 0) .int).before args s = true := hs _ (by decide +kernel)
  have hle : (Cond.le (.length (.arg 0)) (.int 260)).before args s = true := hs _ (by decide +kernel)
  have hlen : (Cond.isInt (.length (.arg 0))).before args s = true := hq _ (by decide +kernel)
  have hall : (Cond.all (.arg 0) (.isInt (.elem (.arg 0) (.index 0)))).before args s = true := hq _ (by decide +kernel)
  obtain ⟨b, xs, hb, hx⟩ := State.ints_of_pre rfl harr hlen hall
  have hsm : xs.length < 2 ^ 31 := hx.choose_spec.2.2.2
  have hev : (Term.length (.arg 0)).eval args s none [] s = some (.int xs.length.toInt32) := hx.length_eval hb
  have hv := Cond.le_ints hev (show (Term.int 260).eval args s none [] s = some (.int 260) from rfl)
  have hd : xs.length.toInt32 ≤ 260 := by
    simpa [Cond.before, Cond.holds, hv] using hle
  have hN : xs.length ≤ 260 := (Int32.ofNat_le_ofNat hsm (by decide)).mp (show Int32.ofNat xs.length ≤ Int32.ofNat 260 from hd)
  exact ⟨b, xs, Cond.one_arg hc (show args[0]? = some (.ref b) from hb), hx, hN, h⟩
theorem lw_comes (l : Launch) (hflags : l.flags = flags0) : Comes l x (Jvm.Cond.code x code maxLocals ret :: tables_1) room_1 (fun tb e args s => Calls_1 tb e args s ∧ rest_1 tb e args s ∧ Pre_1 tb e args s)
    (fun _ _ args s o t => lw_Q args s o t) := by
  intro p e ha hc hk s m args below hf hfit hheap happ hpre
  obtain ⟨b, xs, hP⟩ := lw_pre_spec hpre.2.2 hpre.2.1
  obtain ⟨k, o, h1, h2, h3, hQ⟩ := lw_walk l hflags b xs p e ha hc hk s m args below hf ((Spec.applies_iff_loose hf).mp happ).1 hP trivial
  exact ⟨k, o, h1, h2, h3, hQ⟩
theorem lw_frame {s t : State} {o : Outcome} {args : Array Value} (h : State.butDraws s t lw_cs (fun t1 => Framed s o t1 [] 600222 7295254)) :
    State.butDraws s t [Jvm.Choice.named "NaN.bits"] (fun t1 => Framed s o t1 (fieldLocs frame_1_writes args s ++ arrayLocs frame_1_arrays args s ++ staticLocs frame_1_statics s) 600222 7295254) := h
theorem lw_limb (L : Cond) (hL : ∀ (args : Array Value) (s t : State), L.after args s (.returned (some (.int 1))) t = true) :
    ArmFor flags0 classFile x code maxLocals ret World_1 tables_1 room_1 Calls_1 rest_1 Pre_1
      (fun tb e a s o t => postC L tb e a s o t ∧ State.butDraws s t [Jvm.Choice.named "NaN.bits"] (fun t1 => Framed s o t1 (fieldLocs frame_1_writes a s ++ arrayLocs frame_1_arrays a s ++ staticLocs frame_1_statics s) 600222 7295254)) := by
  intro l hflags _ _ p e ha hc hk s m args below hf hfit hheap happ hpre
  obtain ⟨k, o, h1, h2, h3, rfl, hF⟩ := lw_comes l hflags p e ha hc hk s m args below hf hfit hheap happ hpre
  exact ⟨k, _, h1, h2, h3, hL args s _, lw_frame hF⟩
theorem i_vc : Claimed_1_1 ∧ Claimed_1_2 := ⟨lw_limb limb_1_1 (fun args s t => by simp [limb_1_1, Cond.after, Cond.holds, Cond.value]), lw_limb limb_1_2 (fun args s t => Cond.after_iff.mpr (by
  first | (rw [show limb_1_2 = Cond.eq .result (.int 1) from rfl, Cond.eq_ints (x := 1) (y := 1) rfl rfl]; simp; done) | (simp [limb_1_2, Cond.value, Term.eval]; done)))⟩
