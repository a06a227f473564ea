/-! THE LAW'S MACHINE IS SOUND, STEP BY STEP -/
/-- a contract of the law's method -/
def mCon (l : Launch) (D : va_G) (ka : FieldType → ClassId) (sg : Nat → Nat) (A : Nat → Prop) (d : Nat) (y : MethodName) (ws : List Cond) (as : List Value) (h : aH) (r : aR) : Prop :=
  vx_Met l y ws (aRm d r.2.2) (aPc D ka sg A false as h) (fun a st o t => ∃ s2, mAg h.length sg s2 ∧ aQc D ka s2 A false r a st o t) (fun E st t => ∃ s2, mAg h.length sg s2 ∧ aXC D ka s2 A false r E st t) r.2.2.1 r.2.2.2 A
def mSnd (l : Launch) (D : va_G) (ka : FieldType → ClassId) (d : Nat) (mr : aF) : Prop :=
  ∀ (sg : Nat → Nat) (A : Nat → Prop) (a : Nat) (as : List Value) (h : aH) (r : aR), mr a as h = some r → (∀ v ∈ as, v.category = 1) → a < 165 → as.length = aNa a → ∀ (y : MethodName) (b : ByteArray), aYs[a]? = some (y, b) → mCon l D ka sg A d y (aWs a) as h r
section MSN
variable {p : Program} {l : Launch} {e : Env} {R : Room} {s : State} {m : MethodId} {args : Array Value} {below : List Frame} {meth : Method} {c : Code} {Q : State → Prop} {D : va_G} {ka : FieldType → ClassId} {sg s2 : Nat → Nat} {A : Nat → Prop} {nL o d : Nat} {cc : ByteArray} {al ini : Bool} {call : aF} {hd : aD} {cd : List aI} {rt : Option FieldType} {hh : List (Nat × Nat × Nat × Nat)}
variable {pc n0 : Nat} {ls : List (Option Value)} {st r : List Value} {h : aH} {k : aK} {x y : Int32} {z : aS ⊕ aR} {mr : aF}
theorem aBd.re (g : mAg n0 sg s2) (B : aBd p l R s m args meth c D ka sg A nL o d cc al ini call hd cd rt hh) {al2 : Bool} {call2 : aF} (hS : aSnd l D ka s2 A al2 d call2) : aBd p l R s m args meth c D ka s2 A nL o d cc al2 ini call2 hd cd rt hh :=
  ⟨⟨B.1.1, B.1.2.1, B.1.2.2.1, B.1.2.2.2.1, B.1.2.2.2.2.1, g.kn B.1.2.2.2.2.2.1, B.1.2.2.2.2.2.2⟩, B.2.1, B.2.2.1, B.2.2.2.1, B.2.2.2.2.1, B.2.2.2.2.2.1, hS, B.2.2.2.2.2.2.2⟩
/-- from that state, wherever what was made since lies -/
def mSim (p : Program) (l : Launch) (e : Env) (R : Room) (s : State) (m : MethodId) (args : Array Value) (below : List Frame) (meth : Method) (c : Code) (Q : State → Prop) (D : va_G) (ka : FieldType → ClassId) (sg : Nat → Nat) (A : Nat → Prop) (nL n0 : Nat) (t : aS) : Prop :=
  ∀ s2, mAg n0 sg s2 → aSim p l e R s m args below meth c Q D ka s2 A nL false t
/-- the end that is owed -/
def mEq (below : List Frame) (D : va_G) (ka : FieldType → ClassId) (sg : Nat → Nat) (A : Nat → Prop) (n0 : Nat) (args : Array Value) (s : State) (r : aR) : State → Prop := fun t => ∃ s2, mAg n0 sg s2 ∧ aEq below D ka s2 A false args s r t
theorem W_mono {H : Heap} {locs : List Loc} {k1 k2 : Nat} {Q2 : State → Prop} {g : JFrame} (hQ : ∀ t, Q t → Q2 t) (w : W p l e R s m args below meth c H locs k1 k2 Q g) : W p l e R s m args below meth c H locs k1 k2 Q2 g := fun T hT X => (w T hT X).elim fun t q => ⟨t, q.1, hQ t q.2⟩
/-- as aGl, over all placings -/
def mGl (p : Program) (l : Launch) (e : Env) (R : Room) (s : State) (m : MethodId) (args : Array Value) (below : List Frame) (meth : Method) (c : Code) (D : va_G) (ka : FieldType → ClassId) (sg : Nat → Nat) (A : Nat → Prop) (nL n0 : Nat) (t : aS) : aS ⊕ aR → Prop
  | .inl u => (t.2.2.2.2.1 ≤ u.2.2.2.2.1 ∧ t.2.2.2.2.2 ≤ u.2.2.2.2.2) ∧ (u.2.2.2.2.1 ≤ R.cells → u.2.2.2.2.2 ≤ R.slots → ∀ Q, mSim p l e R s m args below meth c Q D ka sg A nL n0 u → mSim p l e R s m args below meth c Q D ka sg A nL n0 t)
  | .inr r => (t.2.2.2.2.1 ≤ r.2.2.1 ∧ t.2.2.2.2.2 ≤ r.2.2.2) ∧ (r.2.2.1 ≤ R.cells → r.2.2.2 ≤ R.slots → mSim p l e R s m args below meth c (mEq below D ka sg A n0 args s r) D ka sg A nL n0 t)
/-- a step of the machine that makes nothing -/
theorem m_plain (hl : l.stackTraces = false) (B : aBd p l R s m args meth c D ka sg A nL o d cc false ini (aRun false d) hd cd rt hh) {i : Instr} {a b : Nat} {v : Int32} (hok : aOkI o ini cc pc i a b v = true) (hz : aEx (aRun false d) aCls hd cd rt false i a b v pc ls st h k = some z) : mGl p l e R s m args below meth c D ka sg A nL n0 (pc, ls, st, h, k) z := by
  have G : ∀ s2, mAg n0 sg s2 → aGl p l e R s m args below meth c D ka s2 A nL false (pc, ls, st, h, k) z := fun s2 g => g_step (B.re g (aSnd_all hl d)) hok hz
  cases z with
  | inl u => exact ⟨(G sg mAg.rf).1, fun g1 g2 Q K s2 g => (G s2 g).2 g1 g2 Q (K s2 g)⟩
  | inr r => exact ⟨(G sg mAg.rf).1, fun g1 g2 s2 g H locs L h1 h2 h3 h4 => W_mono (fun t ht => ⟨s2, g, ht⟩) ((G s2 g).2 g1 g2 H locs L h1 h2 h3 h4)⟩
theorem vx_T_mono {XC XC2 : String → State → State → Prop} {st t : State} {q : Addr} {mc ms : Nat} {free : Addr → Prop} (hX : ∀ E st t, XC E st t → XC2 E st t) (h : vx_T XC st q t mc ms free) : vx_T XC2 st q t mc ms free := by
  obtain ⟨E, ce, L, h1, h2⟩ := h
  exact ⟨E, ce, L, hX _ _ _ h1, h2⟩
/-- a step that makes something, placed anew -/
theorem m_make (hl : l.stackTraces = false) (B : aBd p l R s m args meth c D ka sg A nL o d cc false ini (aRun false d) hd cd rt hh) (hcl : mCl h) (h8 : 8 ≤ h.length) (hn : n0 ≤ h.length) (hls : mLs h.length ls st = true) {i : Instr} {a b : Nat} {v : Int32} (hok : aOkI o ini cc pc i a b v = true) (hz : aEx (aRun true d) aCls hd cd rt true i a b v pc ls st h k = some z) : mGl p l e R s m args below meth c D ka sg A nL n0 (pc, ls, st, h, k) z := by
  unfold mLs at hls
  rw [Bool.and_eq_true] at hls
  have key : ∀ s2, mAg n0 sg s2 → ∀ (H : Heap) (locs : List Loc) (L : Array Slot) (Q : State → Prop), (∀ s3, mAg n0 sg s3 → aSim p l e R s m args below meth c Q D ka s3 A nL true (pc, ls, st, h, k)) → aRel D ka s2 A s h H → va_S A s.heap H locs → aLoc s2 L nL ls → W p l e R s m args below meth c H locs k.1 k.2 Q (F0 m pc L (st.map (aCv s2))) := by
    intro s2 g H locs L Q K h1 h2 h3
    have g3 : mAg h.length s2 (mNx s2 h.length H.size) := mNx_ag
    have w := K (mNx s2 h.length H.size) (g.trans g3 hn) H locs L (g3.rel hcl h1) h2 (g3.loc hls.1 h3) (fun _ j => mNx_al h8 j)
    have e9 : (st.map (aCv (mNx s2 h.length H.size))) = st.map (aCv s2) := g3.map hls.2
    have w : W p l e R s m args below meth c H locs k.1 k.2 Q (F0 m pc L (st.map (aCv (mNx s2 h.length H.size)))) := w
    rw [e9] at w
    exact w
  have G : ∀ s2, mAg n0 sg s2 → aGl p l e R s m args below meth c D ka s2 A nL true (pc, ls, st, h, k) z := fun s2 g => g_step (B.re g (aSnd_all hl d)) hok hz
  cases z with
  | inl u => exact ⟨(G sg mAg.rf).1, fun g1 g2 Q K s2 g H locs L h1 h2 h3 _ => key s2 g H locs L Q (fun s3 q => (G s3 q).2 g1 g2 Q (fun H locs L a1 a2 a3 _ => K s3 q H locs L a1 a2 a3 (fun z => by cases z))) h1 h2 h3⟩
  | inr r => exact ⟨(G sg mAg.rf).1, fun g1 g2 s2 g H locs L h1 h2 h3 _ => key s2 g H locs L _ (fun s3 q H locs L a1 a2 a3 a4 => W_mono (fun t ht => ⟨s3, q, by
      obtain ⟨o9, e1, e2, e3⟩ := ht
      refine ⟨o9, e1, e2, ?_⟩
      rcases e3 with ⟨⟨v, q1, q2, q3, q4, q5⟩, q6⟩ | ⟨q, e4, e5⟩
      · exact Or.inl ⟨⟨v, q1, q2, q3, q4, fun z => by cases z⟩, q6⟩
      · refine Or.inr ⟨q, e4, ?_⟩
        exact vx_T_mono (fun E st t hx => by
          obtain ⟨x9, q1, q2, q3, q4, q5, q6⟩ := hx
          exact ⟨x9, q1, q2, q3, q4, q5, fun z => by cases z⟩) e5⟩) ((G s3 q).2 g1 g2 H locs L a1 a2 a3 a4)) h1 h2 h3⟩
/-- a call of the law's own -/
theorem m_ret {H : Heap} {locs : List Loc} {L : Array Slot} {st0 : List Value} {w : Option Value} {h' : aH} {dk : aK} {a : Array Value} {hl : Nat} (h2 : va_S A s.heap H locs) (h3 : aLoc sg L nL ls) (hlo : ls.all (mLo hl) = true) (hst : r.all (mV1 hl) = true) (hr : va_Run p l e R s m args below meth c H locs k.1 k.2 dk.1 dk.2 (F0 m pc L st0) (r.map (aCv sg)) (fun st o t => ∃ s2, mAg hl sg s2 ∧ aQc D ka s2 A false (.inl w, h', dk) a st o t) A) (K : ∀ s2, mAg hl sg s2 → aSim p l e R s m args below meth c Q D ka s2 A nL false (pc + 3, ls, w.toList ++ r, h', (k.1 + dk.1, k.2 + dk.2))) : W p l e R s m args below meth c H locs k.1 k.2 Q (F0 m pc L st0) := by
  intro T hT X
  obtain ⟨v9, st₀, t, T', Ls, h0, X', hL, e1, e2, ⟨s2, hag, v1, ev, eo, hrel, hF, hsz⟩, stp⟩ := hr T hT X
  cases ev
  cases eo
  obtain ⟨-, -, k3⟩ := vx_keep h0 e1 h2 (fun _ _ z => z) (fun _ z => z) hL hF
  have hal : s.vm.Alike t.vm := by rw [← e2]; exact X'.warmed.alike
  obtain ⟨t2, a1, b1⟩ := K s2 hag T'.heap _ L (by rw [e1]; exact hrel.moved hal.symm) k3 (hag.loc hlo h3) (fun z => by cases z) T' rfl X'
  refine ⟨t2, stp t2 ?_, b1⟩
  have e9 : (w.map (aCv s2)).toList ++ r.map (aCv sg) = (w.toList ++ r).map (aCv s2) := by
    rw [List.map_append, hag.map hst]
    cases w <;> rfl
  show Steps p.tables e below (T'.setTop (F0 m (pc + 3) L ((w.map (aCv s2)).toList ++ r.map (aCv sg)))) t2
  rw [e9]
  exact a1
theorem aL4_133 : (aLtab.all fun e => e.2.2.1 != 4 || decide (e.2.2.2.1 < 133)) = true := by decide +kernel
theorem aL4_4 {idx a : Nat} (h : aL4 o idx 4 a = true) : a < 133 := by
  obtain ⟨q, hq, h⟩ := List.any_eq_true.mp h
  simp only [Bool.and_eq_true, beq_iff_eq] at h
  have h2 := List.all_eq_true.mp aL4_133 _ hq
  rw [h.2.2.1, h.2.2.2] at h2
  simpa using h2
theorem m_cwSW {own : String} {y : MethodName} {b : ByteArray} {n np idx : Nat} {kd : aK} (C : aCx p l s m args c D ka sg A nL own cc) (hcw : Cond.codeWith y b n rt hh ∈ aWg) (hin : Cond.initialized y.cls ∈ aWg) (hp1 : y.cls ≠ "java/lang/invoke/MethodHandle") (hp2 : y.cls ≠ "java/lang/invoke/VarHandle") (hp3 : (parseMethodDescriptor y.desc).map (fun d => d.parameters.length) = some np) (hn40 : n ≤ 40) (hl : Cond.methodLink own idx y ∈ aWg) (hs : Cond.static y ∈ aWg) (hf : d + 7 ≤ R.frames) (hlo : 60 * d + 220 ≤ R.locals) : vx_CSW R s args own idx y b n rt hh (Cond.codeWith y b n rt hh :: aWg) (aRm d kd) kd.1 kd.2 np :=
  vx_cwSW np C.2.2.2.2.1 (aWg_good (fun w hw => by
    simp only [va_wsS, List.cons_append, List.nil_append, List.mem_cons] at hw
    rcases hw with rfl | rfl | rfl | rfl | hw
    · exact hl
    · exact hs
    · exact hin
    · exact hcw
    · exact hw)) rfl rfl rfl ⟨hp1, hp2, hp3⟩ (a_rm hf hlo hn40)
theorem mV1_drop {n b : Nat} (hs : st.all (mV1 n) = true) : (st.drop b).all (mV1 n) = true := List.all_eq_true.mpr fun v hv => List.all_eq_true.mp hs v (List.mem_of_mem_drop hv)
theorem m_call (B : aBd p l R s m args meth c D ka sg A nL o d cc false ini (aRun false d) hd cd rt hh) (hl : l.stackTraces = false) (hS : mSnd l D ka d mr) (hn : n0 ≤ h.length) (hls : mLs h.length ls st = true) {idx a b : Nat} {v : Int32} (ha133 : 133 ≤ a) (hok : aOkI o ini cc pc (.invokestatic idx) a b v = true) (ha500 : ¬ 500 ≤ a) (hz : mCall mr a b pc ls st h k = some z) : mGl p l e R s m args below meth c D ka sg A nL n0 (pc, ls, st, h, k) z := by
  unfold mLs at hls
  rw [Bool.and_eq_true] at hls
  obtain ⟨h1, h2⟩ := (Bool.and_eq_true _ _).mp hok
  have hdg : decode cc pc = .ok (.invokestatic idx, 3) := aD3 h1 rfl
  simp only [Bool.and_eq_true, Bool.or_eq_true, beq_iff_eq] at h2
  have hk : ∃ wh : Bool, ((wh = false ∧ aL4 o idx 1 a = true) ∨ (wh = true ∧ aL4 o idx 5 a = true)) ∧ aArg a b 1 wh false = true := by
    rcases h2 with ⟨rfl, h2⟩ | ⟨rfl, h2⟩ | ⟨rfl, h2⟩ | ⟨h2, h3⟩ | ⟨rfl, ⟨h2, h3⟩ | ⟨h2, h3⟩⟩
    · omega
    · omega
    · omega
    · exact ⟨false, Or.inl ⟨rfl, h2⟩, h3⟩
    · have := aL4_4 h2
      omega
    · exact ⟨true, Or.inr ⟨rfl, h2⟩, h3⟩
  obtain ⟨wh, hL, hA⟩ := hk
  unfold mCall at hz
  split at hz
  case isFalse => cases hz
  rename_i q
  obtain ⟨q1, q2, q3⟩ := q
  split at hz
  case h_2 => cases hz
  rename_i w h' kd hmr
  have q3 : ∀ v ∈ (st.take b).reverse, v.category = 1 := fun v hv => eq_of_beq (List.all_eq_true.mp q3 v (List.mem_reverse.mp hv))
  obtain ⟨ha, o9, cd9, hd9, rt9, n9, y9, b9, np, e1, e2, e3, e4, e5, e6, e7, e8, e9, e10, e11, e12, e13⟩ := aArg_ok hA
  rw [if_pos rfl] at e11
  obtain rfl : b = np := e4
  have s2e : st = ((st.take b).reverse).reverse ++ st.drop b := by rw [List.reverse_reverse, List.take_append_drop]
  have hlen : ((st.take b).reverse).length = b := by rw [List.length_reverse, List.length_take]; omega
  cases hz
  refine ⟨⟨Nat.le_add_right _ _, Nat.le_add_right _ _⟩, fun g1 g2 Q K s2 g H locs L a1 a2 a3 a4 => ?_⟩
  have C := (B.re g (aSnd_all hl d) (al2 := false)).1
  have hcon := hS s2 A a _ h _ hmr q3 ha (by rw [hlen, e3]) y9 b9 e2
  have hK : ∀ s3, mAg h.length s2 s3 → aSim p l e R s m args below meth c Q D ka s3 A nL false (pc + 3, ls, w.toList ++ st.drop b, h', (k.1 + kd.1, k.2 + kd.2)) := fun s3 g3 => K s3 (g.trans g3 hn)
  have hx : ∀ E st t, ¬ ∃ s3, mAg h.length s2 s3 ∧ aXC D ka s3 A false (.inl w, h', kd) E st t := fun E st t hq => by
    obtain ⟨s3, -, hq⟩ := hq
    exact aXC_ret E st t hq
  show W p l e R s m args below meth c H locs k.1 k.2 Q (F0 m pc L (st.map (aCv s2)))
  rw [s2e]
  rcases hL with ⟨rfl, hL⟩ | ⟨rfl, hL⟩
  · have e9 : hd9.isEmpty = true := e9
    rw [if_pos e9] at e10
    rw [aWs_plain e1 e2 e9] at hcon
    obtain ⟨p9, hp9⟩ := aL4_ok hL
    have hmy : aMy y9 b9 n9 rt9 b := ⟨e10, e8, e12, e13, e7, e6⟩
    have hrun := va_runS (As := (st.take b).reverse.map (aCv s2)) (rest := (st.drop b).map (aCv s2)) (g := F0 m pc L ((((st.take b).reverse).reverse ++ st.drop b).map (aCv s2))) (locs := locs) (cells := k.1) (slots := k.2) (below := below) (meth := meth) (e := e) ⟨C.1, C.2.1, C.2.2.1, C.2.2.2.1, C.2.2.2.2.1⟩ (vx_toMet hcon hx) (a_cwS C hmy (aL4_link hp9 (Or.inr (Or.inl rfl)) e2) e11 B.2.1.1 B.2.1.2) (a_pre C a1 a2 a4) rfl (by rw [List.length_map]; exact hlen) a3.1 (a_args _ _) (by show 2 * 0 + _ ≤ 8; rw [a_sum]; omega) hdg ⟨g1, g2⟩
    exact m_ret a2 a3 hls.1 (mV1_drop hls.2) hrun hK
  · have e9 : hd9.isEmpty = false := e9
    rw [if_neg (by rw [e9]; decide)] at e10
    rw [aWs_with e1 e2 e9] at hcon
    obtain ⟨p9, hp9⟩ := aL4_ok hL
    have hrun := vx_runSW (As := (st.take b).reverse.map (aCv s2)) (rest := (st.drop b).map (aCv s2)) (g := F0 m pc L ((((st.take b).reverse).reverse ++ st.drop b).map (aCv s2))) (locs := locs) (cells := k.1) (slots := k.2) (below := below) (meth := meth) (e := e) ⟨C.1, C.2.1, C.2.2.1, C.2.2.2.1, C.2.2.2.2.1⟩ (vx_toMet hcon hx) (m_cwSW C e10 e8 e12 e13 e7 e6 (aL4_link hp9 (Or.inr (Or.inr (Or.inr rfl))) e2) e11 B.2.1.1 B.2.1.2) (a_pre C a1 a2 a4) rfl (by rw [List.length_map]; exact hlen) a3.1 (a_args _ _) (by show 2 * 0 + _ ≤ 8; rw [a_sum]; omega) hdg ⟨g1, g2⟩
    exact m_ret a2 a3 hls.1 (mV1_drop hls.2) hrun hK
end MSN
