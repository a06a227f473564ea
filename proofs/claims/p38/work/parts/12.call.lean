/-! SOUNDNESS: calls -/
theorem vx_toMet {l : Launch} {y : MethodName} {ws : List Cond} {rm : Room} {Pc : Array Value → State → Prop} {Qc : Array Value → State → Outcome → State → Prop} {XC : String → State → State → Prop} {mc ms : Nat} {free : Addr → Prop} (h : vx_Met l y ws rm Pc Qc XC mc ms free) (hx : ∀ E st t, ¬ XC E st t) : Met l y ws rm Pc Qc mc ms free := by
  intro p e ha hc hk s m args below hf hap hP hK
  obtain ⟨n, o, h1, h2, h3, h4⟩ := h p e ha hc hk s m args below hf hap hP hK
  refine ⟨n, o, h1, h2, h3, ?_⟩
  rcases h4 with h4 | ⟨q, -, E, ce, L, hX, -⟩
  · exact h4
  · exact absurd hX (hx _ _ _)
theorem aWg_good {ws : List Cond} (h : ∀ w ∈ ws, w ∈ aWg) : GoodIn aWg ws := fun w hw => ⟨h w hw, good_of_word (List.mem_filter.mp (h w hw)).2⟩
theorem aXC_ret {D : va_G} {ka : FieldType → ClassId} {sg : Nat → Nat} {A : Nat → Prop} {al : Bool} {v : Option Value} {h : aH} {d : aK} : ∀ E st t, ¬ aXC D ka sg A al (.inl v, h, d) E st t := by
  rintro E st t ⟨x, h1, -⟩
  cases h1
section SNC
variable {p : Program} {l : Launch} {e : Env} {R : Room} {s : State} {m : MethodId} {args : Array Value} {below : List Frame} {meth : Method} {c : Code} {Q : State → Prop} {D : va_G} {ka : FieldType → ClassId} {sg : Nat → Nat} {A : Nat → Prop} {nL : Nat} {own : String} {cc : ByteArray} {al : Bool}
variable {pc : Nat} {ls : List (Option Value)} {st r : List Value} {h : aH} {k : aK} {x y : Int32}
theorem a_pre (C : aCx p l s m args c D ka sg A nL own cc) {H : Heap} {locs : List Loc} (h1 : aRel D ka sg A s h H) (h2 : va_S A s.heap H locs) (h4 : al = true → ∀ j : Nat, sg (h.length + j) = H.size + j) {as : List Value} : PreS s H (aPc D ka sg A al as h) (as.map (aCv sg)) := by
  refine ⟨aPc.blind, fun U hU hW => ⟨rfl, ?_, ⟨C.2.2.2.2.2.1.1.warm hW, ?_⟩, fun q hq => C.2.2.2.2.2.2.1 q (Nat.le_trans h2.1 (by rw [← hU]; exact hq)), fun ha j => by rw [hU]; exact h4 ha j⟩⟩
  · rw [hU]
    exact h1.moved hW.alike
  · rw [hU]
    exact C.2.2.2.2.2.1.2.moved hW.alike (fun k tx a h => vk_R.warm hW h) h2.2.1
theorem a_recv (C : aCx p l s m args c D ka sg A nL own cc) {H : Heap} (h1 : aRel D ka sg A s h H) {q ci : Nat} {fs : List Value} {rc : vw_C} (hq : h[q]? = some (true, .inr (ci, fs))) (hc : aCl[ci]? = some rc) : ∃ cellB : Cell, H[sg q]? = some cellB ∧ cellB.vm.isStatics = false ∧ s.vm.findClass rc.1 = some cellB.cls := by
  obtain ⟨-, r', hr', cell, g1, g2, g3, -⟩ := h1.1 q _ hq
  cases Option.some.inj (hr'.symm.trans hc)
  exact ⟨cell, g1, by rw [g3]; rfl, by rw [g2]; exact (C.2.2.2.2.2.1.1.1 ci _ hc).2.1⟩
/-- behind a call that returned -/
theorem a_ret (C : aCx p l s m args c D ka sg A nL own cc) {H : Heap} {locs : List Loc} {L : Array Slot} {st0 : List Value} {v : Option Value} {h' : aH} {d : aK} {a : Array Value} (h2 : va_S A s.heap H locs) (h3 : aLoc sg L nL ls) (hr : va_Run p l e R s m args below meth c H locs k.1 k.2 d.1 d.2 (F0 m pc L st0) (r.map (aCv sg)) (aQc D ka sg A al (.inl v, h', d) a) A) (K : aSim p l e R s m args below meth c Q D ka sg A nL al (pc + 3, ls, v.toList ++ r, h', (k.1 + d.1, k.2 + d.2))) : W p l e R s m args below meth c H locs k.1 k.2 Q (F0 m pc L st0) := by
  intro T hT X
  obtain ⟨v9, st₀, t, T', Ls, h0, X', hL, e1, e2, ⟨v1, ev, eo, hrel, hF, hsz⟩, stp⟩ := hr T hT X
  cases ev
  cases eo
  obtain ⟨-, -, k3⟩ := vx_keep h0 e1 h2 (fun _ _ z => z) (fun _ z => z) hL hF
  have hal : s.vm.Alike t.vm := by rw [← e2]; exact X'.warmed.alike
  obtain ⟨t2, a1, b1⟩ := K T'.heap _ L (by rw [e1]; exact hrel.moved hal.symm) k3 h3 (fun ha j => by rw [e1]; exact hsz ha j) T' rfl X'
  refine ⟨t2, stp t2 ?_, b1⟩
  have e9 : (v.map (aCv sg)).toList ++ r.map (aCv sg) = (v.toList ++ r).map (aCv sg) := by cases v <;> rfl
  show Steps p.tables e below (T'.setTop (F0 m (pc + 3) L ((v.map (aCv sg)).toList ++ r.map (aCv sg)))) t2
  rw [e9]
  exact a1
/-- .. that threw -/
theorem a_thr (C : aCx p l s m args c D ka sg A nL own cc) {H : Heap} {locs : List Loc} {L : Array Slot} {st0 : List Value} {x9 : Nat} {h' : aH} {d : aK} {a : Array Value} (h2 : va_S A s.heap H locs) (hr : vx_Run p l e R s m args below meth c H locs k.1 k.2 d.1 d.2 (F0 m pc L st0) (r.map (aCv sg)) (aQc D ka sg A al (.inr x9, h', d) a) (aXC D ka sg A al (.inr x9, h', d)) A)
    (K : ∀ (H1 : Heap) (locs1 : List Loc) (ce : Cell) (q9 : Addr), x9 < 6 → aRel D ka sg A s h' H1 → va_S A s.heap H1 locs1 → (al = true → ∀ j : Nat, sg (h'.length + j) = H1.size + j) → H1[q9]? = some ce → ce.vm = .none → s.vm.findClass (aExc x9) = some ce.cls → vx_W p l e R s m args below meth c H1 locs1 (k.1 + d.1) (k.2 + d.2) Q (F0 m pc L (r.map (aCv sg))) q9) : W p l e R s m args below meth c H locs k.1 k.2 Q (F0 m pc L st0) := by
  intro T hT X
  rcases hr T hT X with ⟨v9, st₀, t, T', Ls, h0, X', hL, e1, e2, ⟨v1, ev, -⟩, stp⟩ | ⟨q, st₀, t, T', Ls, E, ce, h0, X', hL, e1, e2, ⟨x1, ev, hx6, eE, hrel, hF, hsz⟩, hce, hcv, hcl, stp⟩
  · cases ev
  · cases ev
    obtain ⟨-, -, k3⟩ := vx_keep h0 e1 h2 (fun _ _ z => z) (fun _ z => z) hL hF
    have hal : s.vm.Alike t.vm := by rw [← e2]; exact X'.warmed.alike
    obtain ⟨t2, a1, b1⟩ := K T'.heap _ ce q hx6 (by rw [e1]; exact hrel.moved hal.symm) k3 (fun ha j => by rw [e1]; exact hsz ha j) (by rw [e1]; exact hce) hcv (by rw [← eE]; exact hcl) T' rfl X'
    exact ⟨t2, stp.trans a1, b1⟩
/-- a contract, as a call uses it -/
def aCon (l : Launch) (D : va_G) (ka : FieldType → ClassId) (sg : Nat → Nat) (A : Nat → Prop) (al : Bool) (d : Nat) (y : MethodName) (ws : List Cond) (as : List Value) (h : aH) (r : aR) : Prop :=
  vx_Met l y ws (aRm d r.2.2) (aPc D ka sg A al as h) (aQc D ka sg A al r) (aXC D ka sg A al r) r.2.2.1 r.2.2.2 A
theorem a_sum (r : List Value) : ((r.map (aCv sg)).map fun v => v.category).sum = aSum r := by
  unfold aSum
  rw [List.map_map]
  congr 1
  exact List.map_congr_left fun v _ => aCv_cat sg v
theorem a_args (as r : List Value) : (as.reverse ++ r).map (aCv sg) = (as.map (aCv sg)).reverse ++ r.map (aCv sg) := by
  rw [List.map_append, List.map_reverse]
variable {d : Nat} {y : MethodName} {b : ByteArray} {n idx np : Nat} {rt : Option FieldType} {as : List Value} {q ci : Nat} {fs : List Value} {rc : vw_C} {v : Option Value} {h' : aH} {kd : aK} {x9 : Nat}
/-- what a method's row says: its code among the words, its class ready, its parameters -/
def aMy (y : MethodName) (b : ByteArray) (n : Nat) (rt : Option FieldType) (np : Nat) : Prop :=
  Cond.code y b n rt ∈ aWg ∧ Cond.initialized y.cls ∈ aWg ∧ y.cls ≠ "java/lang/invoke/MethodHandle" ∧ y.cls ≠ "java/lang/invoke/VarHandle" ∧ (parseMethodDescriptor y.desc).map (fun d => d.parameters.length) = some np ∧ n ≤ 40
theorem a_rm (hf : d + 7 ≤ R.frames) (hl : 60 * d + 220 ≤ R.locals) (hn : n ≤ 40) : (aRm d kd).frames + 1 ≤ R.frames ∧ 8 + (n + 11) + (aRm d kd).locals ≤ R.locals := by
  unfold aRm
  dsimp only
  omega
theorem a_cwV (C : aCx p l s m args c D ka sg A nL own cc) (hy : aMy y b n rt np) (hl : Cond.methodLink own idx y ∈ aWg) (hi : Cond.instanceMethod y ∈ aWg) (hs : Cond.selects y.cls y y ∈ aWg) (hf : d + 7 ≤ R.frames) (hlo : 60 * d + 220 ≤ R.locals) : CallW R s args own y.cls idx y b n rt (Cond.code y b n rt :: aWg) (aRm d kd) kd.1 kd.2 np :=
  cwV np C.2.2.2.2.1 (aWg_good (fun w hw => by
    simp only [wsV, List.cons_append, List.nil_append, List.mem_cons] at hw
    rcases hw with rfl | rfl | rfl | rfl | rfl | hw
    · exact hl
    · exact hi
    · exact hs
    · exact hy.2.1
    · exact hy.1
    · exact hw)) rfl rfl rfl ⟨rfl, hy.2.2.1, hy.2.2.2.1, hy.2.2.2.2.1⟩ (a_rm hf hlo hy.2.2.2.2.2)
theorem a_cwS (C : aCx p l s m args c D ka sg A nL own cc) (hy : aMy y b n rt np) (hl : Cond.methodLink own idx y ∈ aWg) (hs : Cond.static y ∈ aWg) (hf : d + 7 ≤ R.frames) (hlo : 60 * d + 220 ≤ R.locals) : CallB R s args own idx y b n rt (Cond.code y b n rt :: aWg) (aRm d kd) kd.1 kd.2 np ∧ (Cond.static y).before args s = true :=
  va_cwS np C.2.2.2.2.1 (aWg_good (fun w hw => by
    simp only [va_wsS, List.cons_append, List.nil_append, List.mem_cons] at hw
    rcases hw with rfl | rfl | rfl | rfl | hw
    · exact hl
    · exact hs
    · exact hy.2.1
    · exact hy.1
    · exact hw)) rfl rfl rfl ⟨hy.2.2.1, hy.2.2.2.1, hy.2.2.2.2.1⟩ (a_rm hf hlo hy.2.2.2.2.2)
theorem s_callV (C : aCx p l s m args c D ka sg A nL own cc) (hcon : aCon l D ka sg A al d y (Cond.code y b n rt :: aWg) (.ref q :: as) h (.inl v, h', kd)) (hy : aMy y b n rt np) (hl : Cond.methodLink own idx y ∈ aWg) (hi : Cond.instanceMethod y ∈ aWg) (hs : Cond.selects y.cls y y ∈ aWg) (hf : d + 7 ≤ R.frames) (hlo : 60 * d + 220 ≤ R.locals) (hq : h[q]? = some (true, .inr (ci, fs))) (hc : aCl[ci]? = some rc) (hrc : rc.1 = y.cls) (hn : as.length = np) (hr : aSum r ≤ 8) (hk : k.1 + kd.1 ≤ R.cells ∧ k.2 + kd.2 ≤ R.slots) (hd : decode cc pc = .ok (.invokevirtual idx, 3)) (K : aSim p l e R s m args below meth c Q D ka sg A nL al (pc + 3, ls, v.toList ++ r, h', (k.1 + kd.1, k.2 + kd.2))) : aSim p l e R s m args below meth c Q D ka sg A nL al (pc, ls, as.reverse ++ .ref q :: r, h, k) := by
  intro H locs L h1 h2 h3 h4
  have hrun := va_runV (As := as.map (aCv sg)) (b := sg q) (rest := r.map (aCv sg)) (g := F0 m pc L ((as.reverse ++ .ref q :: r).map (aCv sg))) (locs := locs) (cells := k.1) (slots := k.2) (below := below) (meth := meth) (e := e) ⟨C.1, C.2.1, C.2.2.1, C.2.2.2.1, C.2.2.2.2.1⟩ (vx_toMet hcon aXC_ret) (a_cwV C hy hl hi hs hf hlo) ⟨aPc.blind, by rw [← hrc]; exact a_recv C h1 hq hc, (a_pre C h1 h2 h4 (as := .ref q :: as)).2⟩ rfl (by rw [List.length_map]; exact hn) h3.1 (a_args as _) (by show 2 * 0 + _ ≤ 8; rw [a_sum]; omega) hd hk
  exact a_ret C h2 h3 hrun K
theorem s_callS (C : aCx p l s m args c D ka sg A nL own cc) (hcon : aCon l D ka sg A al d y (Cond.code y b n rt :: aWg) as h (.inl v, h', kd)) (hy : aMy y b n rt np) (hl : Cond.methodLink own idx y ∈ aWg) (hs : Cond.static y ∈ aWg) (hf : d + 7 ≤ R.frames) (hlo : 60 * d + 220 ≤ R.locals) (hn : as.length = np) (hr : aSum r ≤ 8) (hk : k.1 + kd.1 ≤ R.cells ∧ k.2 + kd.2 ≤ R.slots) (hd : decode cc pc = .ok (.invokestatic idx, 3)) (K : aSim p l e R s m args below meth c Q D ka sg A nL al (pc + 3, ls, v.toList ++ r, h', (k.1 + kd.1, k.2 + kd.2))) : aSim p l e R s m args below meth c Q D ka sg A nL al (pc, ls, as.reverse ++ r, h, k) := by
  intro H locs L h1 h2 h3 h4
  have hrun := va_runS (As := as.map (aCv sg)) (rest := r.map (aCv sg)) (g := F0 m pc L ((as.reverse ++ r).map (aCv sg))) (locs := locs) (cells := k.1) (slots := k.2) (below := below) (meth := meth) (e := e) ⟨C.1, C.2.1, C.2.2.1, C.2.2.2.1, C.2.2.2.2.1⟩ (vx_toMet hcon aXC_ret) (a_cwS C hy hl hs hf hlo) (a_pre C h1 h2 h4) rfl (by rw [List.length_map]; exact hn) h3.1 (a_args as _) (by show 2 * 0 + _ ≤ 8; rw [a_sum]; omega) hd hk
  exact a_ret C h2 h3 hrun K
theorem s_callI (C : aCx p l s m args c D ka sg A nL own cc) (hcon : aCon l D ka sg A al d y (Cond.code y b n none :: aWg) (.ref q :: as) h (.inl v, h', kd)) (hy : aMy y b n none np) (hl : Cond.methodLink own idx y ∈ aWg) (hi : Cond.instanceMethod y ∈ aWg) (hy1 : y.name = "<init>") (hf : d + 7 ≤ R.frames) (hlo : 60 * d + 220 ≤ R.locals) (hn : as.length = np) (hr : aSum r ≤ 8) (hk : k.1 + kd.1 ≤ R.cells ∧ k.2 + kd.2 ≤ R.slots) (hd : decode cc pc = .ok (.invokespecial idx, 3)) (K : aSim p l e R s m args below meth c Q D ka sg A nL al (pc + 3, ls, v.toList ++ r, h', (k.1 + kd.1, k.2 + kd.2))) : aSim p l e R s m args below meth c Q D ka sg A nL al (pc, ls, as.reverse ++ .ref q :: r, h, k) := by
  intro H locs L h1 h2 h3 h4
  have hrun := va_runI (As := as.map (aCv sg)) (b := sg q) (rest := r.map (aCv sg)) (g := F0 m pc L ((as.reverse ++ .ref q :: r).map (aCv sg))) (locs := locs) (cells := k.1) (slots := k.2) (below := below) (meth := meth) (e := e) ⟨C.1, C.2.1, C.2.2.1, C.2.2.2.1, C.2.2.2.2.1⟩ (vx_toMet hcon aXC_ret) (cwI np C.2.2.2.2.1 (aWg_good (fun w hw => by
    rcases List.mem_cons.mp hw with rfl | hw
    · exact hy.1
    · exact hw)) rfl rfl rfl (C.2.2.2.2.1 _ hy.2.1) (C.2.2.2.2.1 _ hl) (C.2.2.2.2.1 _ hi) hy1 ⟨hy.2.2.1, hy.2.2.2.1, hy.2.2.2.2.1⟩ (a_rm hf hlo hy.2.2.2.2.2)) (a_pre C h1 h2 h4 (as := .ref q :: as)) rfl (by rw [List.length_map]; exact hn) h3.1 (a_args as _) (by show 2 * 0 + _ ≤ 8; rw [a_sum]; omega) hd hk
  exact a_ret C h2 h3 hrun K
theorem s_callIN (C : aCx p l s m args c D ka sg A nL own cc) (hcon : aCon l D ka sg A al d y (Cond.code y b n none :: aWg) (.ref q :: as) h (.inl v, h', kd)) (hy : aMy y b n none np) (hl : (own, idx, y) ∈ aNestM) (hi : Cond.instanceMethod y ∈ aWg) (hy1 : y.name = "<init>") (hf : d + 7 ≤ R.frames) (hlo : 60 * d + 220 ≤ R.locals) (hn : as.length = np) (hr : aSum r ≤ 8) (hk : k.1 + kd.1 ≤ R.cells ∧ k.2 + kd.2 ≤ R.slots) (hd : decode cc pc = .ok (.invokespecial idx, 3)) (K : aSim p l e R s m args below meth c Q D ka sg A nL al (pc + 3, ls, v.toList ++ r, h', (k.1 + kd.1, k.2 + kd.2))) : aSim p l e R s m args below meth c Q D ka sg A nL al (pc, ls, as.reverse ++ .ref q :: r, h, k) := by
  intro H locs L h1 h2 h3 h4
  have hrun := va_runIN (As := as.map (aCv sg)) (b := sg q) (rest := r.map (aCv sg)) (g := F0 m pc L ((as.reverse ++ .ref q :: r).map (aCv sg))) (locs := locs) (cells := k.1) (slots := k.2) (below := below) (meth := meth) (e := e) ⟨C.1, C.2.1, C.2.2.1, C.2.2.2.1, C.2.2.2.2.1⟩ (vx_toMet hcon aXC_ret) ⟨va_cnB np C.2.2.2.2.1 (aWg_good (fun w hw => by
    rcases List.mem_cons.mp hw with rfl | hw
    · exact hy.1
    · exact hw)) rfl rfl rfl (C.2.2.2.2.2.1.1.2.2.2.1 _ hl) (C.2.2.2.2.1 _ hy.2.1) ⟨hy.2.2.1, hy.2.2.2.1, hy.2.2.2.2.1⟩ (a_rm hf hlo hy.2.2.2.2.2), hy1, C.2.2.2.2.1 _ hi⟩ (a_pre C h1 h2 h4 (as := .ref q :: as)) rfl (by rw [List.length_map]; exact hn) h3.1 (a_args as _) (by show 2 * 0 + _ ≤ 8; rw [a_sum]; omega) hd hk
  exact a_ret C h2 h3 hrun K
theorem s_callSN (C : aCx p l s m args c D ka sg A nL own cc) (hcon : aCon l D ka sg A al d y (Cond.code y b n rt :: aWg) as h (.inl v, h', kd)) (hy : aMy y b n rt np) (hl : (own, idx, y) ∈ aNestM) (hs : Cond.static y ∈ aWg) (hf : d + 7 ≤ R.frames) (hlo : 60 * d + 220 ≤ R.locals) (hn : as.length = np) (hr : aSum r ≤ 8) (hk : k.1 + kd.1 ≤ R.cells ∧ k.2 + kd.2 ≤ R.slots) (hd : decode cc pc = .ok (.invokestatic idx, 3)) (K : aSim p l e R s m args below meth c Q D ka sg A nL al (pc + 3, ls, v.toList ++ r, h', (k.1 + kd.1, k.2 + kd.2))) : aSim p l e R s m args below meth c Q D ka sg A nL al (pc, ls, as.reverse ++ r, h, k) := by
  intro H locs L h1 h2 h3 h4
  have hrun := va_runSN (As := as.map (aCv sg)) (rest := r.map (aCv sg)) (g := F0 m pc L ((as.reverse ++ r).map (aCv sg))) (locs := locs) (cells := k.1) (slots := k.2) (below := below) (meth := meth) (e := e) ⟨C.1, C.2.1, C.2.2.1, C.2.2.2.1, C.2.2.2.2.1⟩ (vx_toMet hcon aXC_ret) ⟨va_cnB np C.2.2.2.2.1 (aWg_good (fun w hw => by
    rcases List.mem_cons.mp hw with rfl | hw
    · exact hy.1
    · exact hw)) rfl rfl rfl (C.2.2.2.2.2.1.1.2.2.2.1 _ hl) (C.2.2.2.2.1 _ hy.2.1) ⟨hy.2.2.1, hy.2.2.2.1, hy.2.2.2.2.1⟩ (a_rm hf hlo hy.2.2.2.2.2), C.2.2.2.2.1 _ hs, trivial⟩ (a_pre C h1 h2 h4) rfl (by rw [List.length_map]; exact hn) h3.1 (a_args as _) (by show 2 * 0 + _ ≤ 8; rw [a_sum]; omega) hd hk
  exact a_ret C h2 h3 hrun K
theorem s_callSW (C : aCx p l s m args c D ka sg A nL own cc) {hh : List (Nat × Nat × Nat × Nat)} (hcon : aCon l D ka sg A al d y (Cond.codeWith y b n rt hh :: aWg) as h (.inl v, h', kd)) (hcw : Cond.codeWith y b n rt hh ∈ aWg) (hin : Cond.initialized y.cls ∈ aWg) (hp1 : y.cls ≠ "java/lang/invoke/MethodHandle") (hp2 : y.cls ≠ "java/lang/invoke/VarHandle") (hp3 : (parseMethodDescriptor y.desc).map (fun d => d.parameters.length) = some np) (hn40 : n ≤ 40) (hl : Cond.methodLink own idx y ∈ aWg) (hs : Cond.static y ∈ aWg) (hf : d + 7 ≤ R.frames) (hlo : 60 * d + 220 ≤ R.locals) (hn : as.length = np) (hr : aSum r ≤ 8) (hk : k.1 + kd.1 ≤ R.cells ∧ k.2 + kd.2 ≤ R.slots) (hd : decode cc pc = .ok (.invokestatic idx, 3)) (K : aSim p l e R s m args below meth c Q D ka sg A nL al (pc + 3, ls, v.toList ++ r, h', (k.1 + kd.1, k.2 + kd.2))) : aSim p l e R s m args below meth c Q D ka sg A nL al (pc, ls, as.reverse ++ r, h, k) := by
  intro H locs L h1 h2 h3 h4
  have hrun := vx_runSW (As := as.map (aCv sg)) (rest := r.map (aCv sg)) (g := F0 m pc L ((as.reverse ++ r).map (aCv sg))) (locs := locs) (cells := k.1) (slots := k.2) (below := below) (meth := meth) (e := e) ⟨C.1, C.2.1, C.2.2.1, C.2.2.2.1, C.2.2.2.2.1⟩ (vx_toMet hcon aXC_ret) (vx_cwSW np C.2.2.2.2.1 (aWg_good (fun w hw => by
    simp only [va_wsS, List.cons_append, List.nil_append, List.mem_cons] at hw
    rcases hw with rfl | rfl | rfl | rfl | hw
    · exact hl
    · exact hs
    · exact hin
    · exact hcw
    · exact hw)) rfl rfl rfl ⟨hp1, hp2, hp3⟩ (a_rm hf hlo hn40)) (a_pre C h1 h2 h4) rfl (by rw [List.length_map]; exact hn) h3.1 (a_args as _) (by show 2 * 0 + _ ≤ 8; rw [a_sum]; omega) hd hk
  exact a_ret C h2 h3 hrun K
/-- a call that throws: what the caller owes then -/
def aThr (p : Program) (l : Launch) (e : Env) (R : Room) (s : State) (m : MethodId) (args : Array Value) (below : List Frame) (meth : Method) (c : Code) (Q : State → Prop) (D : va_G) (ka : FieldType → ClassId) (sg : Nat → Nat) (A : Nat → Prop) (nL : Nat) (al : Bool) (pc : Nat) (ls : List (Option Value)) (r : List Value) (h' : aH) (k : aK) (x9 : Nat) : Prop :=
  ∀ (H1 : Heap) (locs1 : List Loc) (L : Array Slot) (ce : Cell) (q9 : Addr), x9 < 6 → aRel D ka sg A s h' H1 → va_S A s.heap H1 locs1 → aLoc sg L nL ls → (al = true → ∀ j : Nat, sg (h'.length + j) = H1.size + j) → H1[q9]? = some ce → ce.vm = .none → s.vm.findClass (aExc x9) = some ce.cls → vx_W p l e R s m args below meth c H1 locs1 k.1 k.2 Q (F0 m pc L (r.map (aCv sg))) q9
theorem t_callV (C : aCx p l s m args c D ka sg A nL own cc) (hcon : aCon l D ka sg A al d y (Cond.code y b n rt :: aWg) (.ref q :: as) h (.inr x9, h', kd)) (hy : aMy y b n rt np) (hl : Cond.methodLink own idx y ∈ aWg) (hi : Cond.instanceMethod y ∈ aWg) (hs : Cond.selects y.cls y y ∈ aWg) (hf : d + 7 ≤ R.frames) (hlo : 60 * d + 220 ≤ R.locals) (hq : h[q]? = some (true, .inr (ci, fs))) (hc : aCl[ci]? = some rc) (hrc : rc.1 = y.cls) (hn : as.length = np) (hr : aSum r ≤ 8) (hk : k.1 + kd.1 ≤ R.cells ∧ k.2 + kd.2 ≤ R.slots) (hd : decode cc pc = .ok (.invokevirtual idx, 3)) (K : aThr p l e R s m args below meth c Q D ka sg A nL al pc ls r h' (k.1 + kd.1, k.2 + kd.2) x9) : aSim p l e R s m args below meth c Q D ka sg A nL al (pc, ls, as.reverse ++ .ref q :: r, h, k) := by
  intro H locs L h1 h2 h3 h4
  have hrun := vx_runV (As := as.map (aCv sg)) (b := sg q) (rest := r.map (aCv sg)) (g := F0 m pc L ((as.reverse ++ .ref q :: r).map (aCv sg))) (locs := locs) (cells := k.1) (slots := k.2) (below := below) (meth := meth) (e := e) ⟨C.1, C.2.1, C.2.2.1, C.2.2.2.1, C.2.2.2.2.1⟩ hcon (a_cwV C hy hl hi hs hf hlo) ⟨aPc.blind, by rw [← hrc]; exact a_recv C h1 hq hc, (a_pre C h1 h2 h4 (as := .ref q :: as)).2⟩ rfl (by rw [List.length_map]; exact hn) h3.1 (a_args as _) (by show 2 * 0 + _ ≤ 8; rw [a_sum]; omega) hd hk
  exact a_thr C h2 hrun (fun H1 locs1 ce q9 g1 g2 g3 g4 => K H1 locs1 L ce q9 g1 g2 g3 h3 g4)
theorem t_callS (C : aCx p l s m args c D ka sg A nL own cc) (hcon : aCon l D ka sg A al d y (Cond.code y b n rt :: aWg) as h (.inr x9, h', kd)) (hy : aMy y b n rt np) (hl : Cond.methodLink own idx y ∈ aWg) (hs : Cond.static y ∈ aWg) (hf : d + 7 ≤ R.frames) (hlo : 60 * d + 220 ≤ R.locals) (hn : as.length = np) (hr : aSum r ≤ 8) (hk : k.1 + kd.1 ≤ R.cells ∧ k.2 + kd.2 ≤ R.slots) (hd : decode cc pc = .ok (.invokestatic idx, 3)) (K : aThr p l e R s m args below meth c Q D ka sg A nL al pc ls r h' (k.1 + kd.1, k.2 + kd.2) x9) : aSim p l e R s m args below meth c Q D ka sg A nL al (pc, ls, as.reverse ++ r, h, k) := by
  intro H locs L h1 h2 h3 h4
  have hrun := vx_runS (As := as.map (aCv sg)) (rest := r.map (aCv sg)) (g := F0 m pc L ((as.reverse ++ r).map (aCv sg))) (locs := locs) (cells := k.1) (slots := k.2) (below := below) (meth := meth) (e := e) ⟨C.1, C.2.1, C.2.2.1, C.2.2.2.1, C.2.2.2.2.1⟩ hcon (a_cwS C hy hl hs hf hlo) (a_pre C h1 h2 h4) rfl (by rw [List.length_map]; exact hn) h3.1 (a_args as _) (by show 2 * 0 + _ ≤ 8; rw [a_sum]; omega) hd hk
  exact a_thr C h2 hrun (fun H1 locs1 ce q9 g1 g2 g3 g4 => K H1 locs1 L ce q9 g1 g2 g3 h3 g4)
end SNC
