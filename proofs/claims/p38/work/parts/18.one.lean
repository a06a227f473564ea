/-! ONE STEP IS SOUND: calls -/
def aNa (a : Nat) : Nat := match aMtab[a]? with
  | some (_, _, _, _, np, st) => np + (1 - st)
  | none => 0
/-- the calls' answers hold of the machine -/
def aSnd (l : Launch) (D : va_G) (ka : FieldType → ClassId) (sg : Nat → Nat) (A : Nat → Prop) (al : Bool) (d : Nat) (call : aF) : Prop :=
  ∀ (a : Nat) (as : List Value) (h : aH) (r : aR), call a as h = some r → (∀ v ∈ as, v.category = 1) → a < 165 → as.length = aNa a → ∀ (y : MethodName) (b : ByteArray), aYs[a]? = some (y, b) → aCon l D ka sg A al d y (aWs a) as h r
theorem aWs_plain {a o n : Nat} {cd : List aI} {hd : aD} {rt : Option FieldType} {y : MethodName} {b : ByteArray} (e1 : aProg[a]? = some (o, cd, hd, rt, n)) (e2 : aYs[a]? = some (y, b)) (he : hd.isEmpty = true) : aWs a = Cond.code y b n rt :: aWg := by
  unfold aWs
  rw [e1, e2]
  cases hd with
  | nil => rfl
  | cons _ _ => cases he
theorem aWs_with {a o n : Nat} {cd : List aI} {hd : aD} {rt : Option FieldType} {y : MethodName} {b : ByteArray} (e1 : aProg[a]? = some (o, cd, hd, rt, n)) (e2 : aYs[a]? = some (y, b)) (he : hd.isEmpty = false) : aWs a = Cond.codeWith y b n rt (aHh a) :: aWg := by
  unfold aWs
  rw [e1, e2]
  cases hd with
  | nil => cases he
  | cons _ _ => rfl
section STC
variable {p : Program} {l : Launch} {e : Env} {R : Room} {s : State} {m : MethodId} {args : Array Value} {below : List Frame} {meth : Method} {c : Code} {D : va_G} {ka : FieldType → ClassId} {sg : Nat → Nat} {A : Nat → Prop} {nL o d : Nat} {cc : ByteArray} {al ini : Bool} {call : aF} {hd : aD} {cd : List aI} {rt : Option FieldType} {hh : List (Nat × Nat × Nat × Nat)}
variable {pc : Nat} {ls : List (Option Value)} {st r : List Value} {h : aH} {k : aK} {x y : Int32}
/-- what holds of a body -/
def aBd (p : Program) (l : Launch) (R : Room) (s : State) (m : MethodId) (args : Array Value) (meth : Method) (c : Code) (D : va_G) (ka : FieldType → ClassId) (sg : Nat → Nat) (A : Nat → Prop) (nL o d : Nat) (cc : ByteArray) (al ini : Bool) (call : aF) (hd : aD) (cd : List aI) (rt : Option FieldType) (hh : List (Nat × Nat × Nat × Nat)) : Prop :=
  aCx p l s m args c D ka sg A nL (aOwn o) cc ∧ (d + 7 ≤ R.frames ∧ 60 * d + 220 ≤ R.locals) ∧ (ini = true → meth.name = "<init>") ∧ (c.exceptionTable.toList = tableOf hh ∧ aHm (aOwn o) hh hd = true) ∧ meth.locks = false ∧ meth.sig.returnType = rt ∧ aSnd l D ka sg A al d call ∧ ∀ (pc : Nat) (x : aI), cd[pc]? = some x → aOkI o ini cc pc x.1 x.2.1 x.2.2.1 x.2.2.2 = true
def aGl (p : Program) (l : Launch) (e : Env) (R : Room) (s : State) (m : MethodId) (args : Array Value) (below : List Frame) (meth : Method) (c : Code) (D : va_G) (ka : FieldType → ClassId) (sg : Nat → Nat) (A : Nat → Prop) (nL : Nat) (al : Bool) (t : aS) : aS ⊕ aR → Prop
  | .inl u => (t.2.2.2.2.1 ≤ u.2.2.2.2.1 ∧ t.2.2.2.2.2 ≤ u.2.2.2.2.2) ∧ (u.2.2.2.2.1 ≤ R.cells → u.2.2.2.2.2 ≤ R.slots → ∀ Q, aSim p l e R s m args below meth c Q D ka sg A nL al u → aSim p l e R s m args below meth c Q D ka sg A nL al t)
  | .inr r => (t.2.2.2.2.1 ≤ r.2.2.1 ∧ t.2.2.2.2.2 ≤ r.2.2.2) ∧ (r.2.2.1 ≤ R.cells → r.2.2.2 ≤ R.slots → aSim p l e R s m args below meth c (aEq below D ka sg A al args s r) D ka sg A nL al t)
theorem aGl.go {t : aS} {pc1 : Nat} {ls1 : List (Option Value)} {st1 : List Value} {h1 : aH} {k1 : aK} {z : aS ⊕ aR} (hz : aGo pc1 ls1 st1 h1 k1 = some z) (hk : t.2.2.2.2.1 ≤ k1.1 ∧ t.2.2.2.2.2 ≤ k1.2) (K : k1.1 ≤ R.cells → k1.2 ≤ R.slots → ∀ Q, aSim p l e R s m args below meth c Q D ka sg A nL al (pc1, ls1, st1, h1, k1) → aSim p l e R s m args below meth c Q D ka sg A nL al t) : aGl p l e R s m args below meth c D ka sg A nL al t z := by
  cases hz
  exact ⟨hk, K⟩
theorem aBd.out (B : aBd p l R s m args meth c D ka sg A nL o d cc al ini call hd cd rt hh) (h0 : hd = []) : ∀ z ∈ c.exceptionTable.toList, False := by
  obtain ⟨-, -, -, ⟨h1, h2⟩, -⟩ := B
  subst h0
  cases hh with
  | nil =>
    intro z hz
    rw [h1] at hz
    cases hz
  | cons q r =>
    obtain ⟨q1, q2, q3, q4⟩ := q
    cases h2
theorem g_back (B : aBd p l R s m args meth c D ka sg A nL o d cc al ini call hd cd rt hh) {t : aS} (hk : t.2.2.2.2 = k) {nt : Bool} {r0 : aR} {z : aS ⊕ aR} (hz : aBack nt hd cd pc ls r k (some r0) = some z)
    (Kr : ∀ v h' kd, r0 = (.inl v, h', kd) → k.1 + kd.1 ≤ R.cells ∧ k.2 + kd.2 ≤ R.slots → ∀ Q, aSim p l e R s m args below meth c Q D ka sg A nL al (pc + 3, ls, v.toList ++ r, h', (k.1 + kd.1, k.2 + kd.2)) → aSim p l e R s m args below meth c Q D ka sg A nL al t)
    (Kt : nt = false → ∀ x9 h' kd, r0 = (.inr x9, h', kd) → k.1 + kd.1 ≤ R.cells ∧ k.2 + kd.2 ≤ R.slots → ∀ Q, aThr p l e R s m args below meth c Q D ka sg A nL al pc ls r h' (k.1 + kd.1, k.2 + kd.2) x9 → aSim p l e R s m args below meth c Q D ka sg A nL al t) : aGl p l e R s m args below meth c D ka sg A nL al t z := by
  subst hk
  obtain ⟨x0, h', kd⟩ := r0
  cases x0 with
  | inl v => exact aGl.go hz ⟨Nat.le_add_right _ _, Nat.le_add_right _ _⟩ (fun g1 g2 Q K => Kr v h' kd rfl ⟨g1, g2⟩ Q K)
  | inr x9 =>
    unfold aBack at hz
    dsimp only at hz
    split at hz
    · cases hz
    rename_i hnt
    have hnt : nt = false := by cases nt with
      | true => exact absurd rfl hnt
      | false => rfl
    split at hz
    · split at hz
      · rename_i h0
        cases hz
        exact ⟨⟨Nat.le_add_right _ _, Nat.le_add_right _ _⟩, fun g1 g2 => Kt hnt x9 h' kd rfl ⟨g1, g2⟩ _ (e_out (B.out h0) B.2.2.2.2.1)⟩
      · cases hz
    · rename_i t9 ht
      split at hz
      · rename_i n _ hn
        split at hz
        · rename_i hm
          exact aGl.go hz ⟨Nat.le_add_right _ _, Nat.le_add_right _ _⟩ (fun g1 g2 Q K => Kt hnt x9 h' kd rfl ⟨g1, g2⟩ Q (s_catch_n B.1 B.2.2.2.1.1 B.2.2.2.1.2 ht hm (aD1 (B.2.2.2.2.2.2.2 _ _ hn) rfl) K))
        · cases hz
      · rename_i n _ hn
        split at hz
        · rename_i hm
          exact aGl.go hz ⟨Nat.le_add_right _ _, Nat.le_add_right _ _⟩ (fun g1 g2 Q K => Kt hnt x9 h' kd rfl ⟨g1, g2⟩ Q (s_catch B.1 B.2.2.2.1.1 B.2.2.2.1.2 ht hm (aD2 (B.2.2.2.2.2.2.2 _ _ hn) rfl) K))
        · cases hz
      · cases hz
theorem aArg_ok {a b st : Nat} {wh ini : Bool} (h : aArg a b st wh ini = true) : a < 165 ∧ ∃ (o : Nat) (cd : List aI) (hd : aD) (rt : Option FieldType) (n : Nat) (y : MethodName) (b9 : ByteArray) (np : Nat), aProg[a]? = some (o, cd, hd, rt, n) ∧ aYs[a]? = some (y, b9) ∧ aNa a = b ∧ b = np + (1 - st) ∧ y.cls = aOwn o ∧ n ≤ 40 ∧ (parseMethodDescriptor y.desc).map (fun d => d.parameters.length) = some np ∧ Cond.initialized y.cls ∈ aWg ∧ hd.isEmpty = !wh ∧
    (if hd.isEmpty = true then Cond.code y b9 n rt ∈ aWg else Cond.codeWith y b9 n rt (aHh a) ∈ aWg) ∧ (if st = 1 then Cond.static y ∈ aWg else Cond.instanceMethod y ∈ aWg ∧ o < 8 ∧ (if ini = true then y.name = "<init>" ∧ rt = none else Cond.selects y.cls y y ∈ aWg)) ∧ y.cls ≠ "java/lang/invoke/MethodHandle" ∧ y.cls ≠ "java/lang/invoke/VarHandle" := by
  unfold aArg at h
  rw [Bool.and_eq_true] at h
  have ha := of_decide_eq_true h.1
  obtain ⟨o, cd, hd, rt, n, y, b9, np, st9, e1, e2, ⟨q1, q2, q3, q4, e3⟩, g1, g2, g3, g4, -, g6, g7, g8⟩ := aMok_spec ha
  have h2 := h.2
  rw [e1, e2, e3] at h2
  simp only [Bool.and_eq_true, beq_iff_eq] at h2
  obtain ⟨rfl, h4, h5, h6⟩ := h2
  refine ⟨ha, o, cd, hd, rt, n, y, b9, np, e1, e2, ?_, h4, g1, g3, g4, g7, h5, ?_, ?_, by rw [g1]; exact aOwn_ne o⟩
  · unfold aNa
    rw [e3, h4]
  · split
    · rename_i q
      rw [if_pos q] at g6
      exact g6
    · rename_i q
      rw [if_neg q] at g6
      exact g6.1
  · by_cases hs : st9 = 1
    · rw [if_pos hs] at g8 ⊢
      exact g8
    · rw [if_neg hs] at g8 h6 ⊢
      rw [Bool.and_eq_true] at h6
      refine ⟨g8.1, of_decide_eq_true h6.1, ?_⟩
      have h7 := h6.2
      cases ini with
      | true =>
        rw [if_pos rfl, Bool.and_eq_true] at h7
        rw [if_pos rfl]
        exact ⟨eq_of_beq h7.1, Option.isNone_iff_eq_none.mp h7.2⟩
      | false =>
        rw [if_neg (by decide)] at h7 ⊢
        exact g8.2 (by simpa using h7)
theorem aCall_ex {nt : Bool} {a b : Nat} {z : aS ⊕ aR} (hz : aCall nt call hd cd a b pc ls st h k = some z) : b ≤ st.length ∧ aSum (st.drop b) ≤ 8 ∧ (∀ v ∈ (st.take b).reverse, v.category = 1) ∧ ∃ r0, call a (st.take b).reverse h = some r0 ∧ aBack nt hd cd pc ls (st.drop b) k (some r0) = some z := by
  unfold aCall at hz
  split at hz
  · rename_i q
    obtain ⟨q1, q2, q3⟩ := q
    refine ⟨q1, q2, fun v hv => eq_of_beq (List.all_eq_true.mp q3 v (List.mem_reverse.mp hv)), ?_⟩
    cases hc : call a (st.take b).reverse h with
    | none => rw [hc] at hz; cases hz
    | some r0 => exact ⟨r0, rfl, by rw [hc] at hz; exact hz⟩
  · cases hz
theorem aRecv_ex {cls : Nat → Nat} {a b : Nat} (h9 : aRecv cls a b st h = true) : ∃ q fs, st[b - 1]? = some (.ref q) ∧ h[q]? = some (true, .inr (cls a, fs)) ∧ 1 ≤ b := by
  unfold aRecv at h9
  split at h9
  · rename_i q hq
    split at h9
    · rename_i ci fs hc
      rw [Bool.and_eq_true] at h9
      have e := eq_of_beq h9.1
      subst e
      exact ⟨q, fs, hq, hc, of_decide_eq_true h9.2⟩
    · cases h9
  · cases h9
theorem a_split {b : Nat} {v : Value} (hb : b + 1 ≤ st.length) (hv : st[b]? = some v) : st.take (b + 1) = st.take b ++ [v] ∧ st = ((st.take b).reverse).reverse ++ v :: st.drop (b + 1) := by
  have h1 : st.take (b + 1) = st.take b ++ [v] := by
    rw [List.take_add_one, hv]
    rfl
  refine ⟨h1, ?_⟩
  rw [List.reverse_reverse]
  conv => lhs; rw [← List.take_append_drop (b + 1) st, h1]
  rw [List.append_assoc]
  rfl
theorem aCls_of {a o n : Nat} {cd : List aI} {hd : aD} {rt : Option FieldType} (e1 : aProg[a]? = some (o, cd, hd, rt, n)) : aCls a = o := by
  unfold aCls
  rw [e1]
theorem aCl_own {ci : Nat} {rc : vw_C} (h : aCl[ci]? = some rc) : rc.1 = aOwn ci := by
  match ci, h with
  | 0, h => cases h; rfl
  | 1, h => cases h; rfl
  | 2, h => cases h; rfl
  | 3, h => cases h; rfl
  | 4, h => cases h; rfl
  | 5, h => cases h; rfl
  | 6, h => cases h; rfl
  | 7, h => cases h; rfl
  | n + 8, h => simp at h
theorem aL4_link {o idx kind a p : Nat} {y : MethodName} {b : ByteArray} (h : aLok (o, idx, kind, a, p) = true) (hk : kind = 0 ∨ kind = 1 ∨ kind = 2 ∨ kind = 5) (e2 : aYs[a]? = some (y, b)) : Cond.methodLink (aOwn o) idx y ∈ aWg := by
  rcases hk with rfl | rfl | rfl | rfl <;> (unfold aLok at h; dsimp only at h; rw [e2] at h; exact aIs_in h)
theorem aL4_nest {o idx kind a p : Nat} {y : MethodName} {b : ByteArray} (h : aLok (o, idx, kind, a, p) = true) (hk : kind = 3 ∨ kind = 4) (e2 : aYs[a]? = some (y, b)) : (aOwn o, idx, y) ∈ aNestM := by
  rcases hk with rfl | rfl <;> (unfold aLok at h; dsimp only at h; rw [e2] at h; exact of_decide_eq_true h)
theorem a_con (B : aBd p l R s m args meth c D ka sg A nL o d cc al ini call hd cd rt hh) {a b o9 n9 : Nat} {cd9 : List aI} {hd9 : aD} {rt9 : Option FieldType} {y9 : MethodName} {b9 : ByteArray} {r0 : aR} (ha : a < 165) (b1 : b ≤ st.length) (b3 : ∀ v ∈ (st.take b).reverse, v.category = 1) (b4 : call a (st.take b).reverse h = some r0) (e3 : aNa a = b) (e1 : aProg[a]? = some (o9, cd9, hd9, rt9, n9)) (e2 : aYs[a]? = some (y9, b9)) : aCon l D ka sg A al d y9 (aWs a) (st.take b).reverse h r0 :=
  B.2.2.2.2.2.2.1 a _ h r0 b4 b3 ha (by rw [List.length_reverse, List.length_take, e3]; omega) y9 b9 e2
theorem g_callV (B : aBd p l R s m args meth c D ka sg A nL o d cc al ini call hd cd rt hh) {nt : Bool} {idx a b : Nat} {z : aS ⊕ aR} (hL : aL4 o idx 0 a = true) (hA : aArg a b 0 false false = true) (hdg : decode cc pc = .ok (.invokevirtual idx, 3)) (hr : aRecv aCls a b st h = true) (hz : aCall nt call hd cd a b pc ls st h k = some z) : aGl p l e R s m args below meth c D ka sg A nL al (pc, ls, st, h, k) z := by
  obtain ⟨b1, b2, b3, r0, b4, b5⟩ := aCall_ex hz
  obtain ⟨q, fs, c1, c2, c3⟩ := aRecv_ex hr
  obtain ⟨ha, o9, cd9, hd9, rt9, n9, y9, b9, np, e1, e2, e3, e4, e5, e6, e7, e8, e9, e10, e11, e12, e13⟩ := aArg_ok hA
  obtain ⟨p9, hp9⟩ := aL4_ok hL
  have e9 : hd9.isEmpty = true := e9
  rw [if_pos e9] at e10
  rw [if_neg (by decide)] at e11
  obtain ⟨f1, f3, f2⟩ := e11
  rw [if_neg (by decide)] at f2
  obtain rfl : b = np + 1 := e4
  rw [Nat.add_sub_cancel] at c1
  obtain ⟨s1, s2⟩ := a_split b1 c1
  have ho9 : aCls a = o9 := aCls_of e1
  rw [ho9] at c2
  obtain ⟨rc, hrc, -⟩ := aCl_nf _ f3
  have hcon := a_con B ha b1 b3 b4 e3 e1 e2
  rw [aWs_plain e1 e2 e9, s1, List.reverse_append] at hcon
  have hlen : ((st.take np).reverse).length = np := by rw [List.length_reverse, List.length_take]; omega
  have hmy : aMy y9 b9 n9 rt9 np := ⟨e10, e8, e12, e13, e7, e6⟩
  refine g_back B rfl b5 (fun v h' kd er hk Q K => ?_) (fun _ x9 h' kd er hk Q K => ?_)
  · subst er
    rw [s2]
    exact s_callV B.1 hcon hmy (aL4_link hp9 (Or.inl rfl) e2) f1 f2 B.2.1.1 B.2.1.2 c2 hrc ((aCl_own hrc).trans e5.symm) hlen b2 hk hdg K
  · subst er
    rw [s2]
    exact t_callV B.1 hcon hmy (aL4_link hp9 (Or.inl rfl) e2) f1 f2 B.2.1.1 B.2.1.2 c2 hrc ((aCl_own hrc).trans e5.symm) hlen b2 hk hdg K
theorem g_callS (B : aBd p l R s m args meth c D ka sg A nL o d cc al ini call hd cd rt hh) {nt : Bool} {idx a b : Nat} {z : aS ⊕ aR} (hL : aL4 o idx 1 a = true) (hA : aArg a b 1 false false = true) (hdg : decode cc pc = .ok (.invokestatic idx, 3)) (hz : aCall nt call hd cd a b pc ls st h k = some z) : aGl p l e R s m args below meth c D ka sg A nL al (pc, ls, st, h, k) z := by
  obtain ⟨b1, b2, b3, r0, b4, b5⟩ := aCall_ex hz
  obtain ⟨ha, o9, cd9, hd9, rt9, n9, y9, b9, np, e1, e2, e3, e4, e5, e6, e7, e8, e9, e10, e11, e12, e13⟩ := aArg_ok hA
  obtain ⟨p9, hp9⟩ := aL4_ok hL
  have e9 : hd9.isEmpty = true := e9
  rw [if_pos e9] at e10
  rw [if_pos rfl] at e11
  obtain rfl : b = np := e4
  have s2 : st = ((st.take b).reverse).reverse ++ st.drop b := by rw [List.reverse_reverse, List.take_append_drop]
  have hcon := a_con B ha b1 b3 b4 e3 e1 e2
  rw [aWs_plain e1 e2 e9] at hcon
  have hlen : ((st.take b).reverse).length = b := by rw [List.length_reverse, List.length_take]; omega
  have hmy : aMy y9 b9 n9 rt9 b := ⟨e10, e8, e12, e13, e7, e6⟩
  refine g_back B rfl b5 (fun v h' kd er hk Q K => ?_) (fun _ x9 h' kd er hk Q K => ?_)
  · subst er
    rw [s2]
    exact s_callS B.1 hcon hmy (aL4_link hp9 (Or.inr (Or.inl rfl)) e2) e11 B.2.1.1 B.2.1.2 hlen b2 hk hdg K
  · subst er
    rw [s2]
    exact t_callS B.1 hcon hmy (aL4_link hp9 (Or.inr (Or.inl rfl)) e2) e11 B.2.1.1 B.2.1.2 hlen b2 hk hdg K
theorem g_callI (B : aBd p l R s m args meth c D ka sg A nL o d cc al ini call hd cd rt hh) {idx a b kind : Nat} {z : aS ⊕ aR} (hkd : kind = 2 ∨ kind = 3) (hL : aL4 o idx kind a = true) (hA : aArg a b 0 false true = true) (hdg : decode cc pc = .ok (.invokespecial idx, 3)) (hr : aRecv aCls a b st h = true) (hz : aCall true call hd cd a b pc ls st h k = some z) : aGl p l e R s m args below meth c D ka sg A nL al (pc, ls, st, h, k) z := by
  obtain ⟨b1, b2, b3, r0, b4, b5⟩ := aCall_ex hz
  obtain ⟨q, fs, c1, c2, c3⟩ := aRecv_ex hr
  obtain ⟨ha, o9, cd9, hd9, rt9, n9, y9, b9, np, e1, e2, e3, e4, e5, e6, e7, e8, e9, e10, e11, e12, e13⟩ := aArg_ok hA
  obtain ⟨p9, hp9⟩ := aL4_ok hL
  have e9 : hd9.isEmpty = true := e9
  rw [if_pos e9] at e10
  rw [if_neg (by decide)] at e11
  obtain ⟨f1, f3, f2⟩ := e11
  rw [if_pos rfl] at f2
  obtain ⟨f2, f4⟩ := f2
  subst f4
  obtain rfl : b = np + 1 := e4
  rw [Nat.add_sub_cancel] at c1
  obtain ⟨s1, s2⟩ := a_split b1 c1
  have hcon := a_con B ha b1 b3 b4 e3 e1 e2
  rw [aWs_plain e1 e2 e9, s1, List.reverse_append] at hcon
  have hlen : ((st.take np).reverse).length = np := by rw [List.length_reverse, List.length_take]; omega
  have hmy : aMy y9 b9 n9 none np := ⟨e10, e8, e12, e13, e7, e6⟩
  refine g_back B rfl b5 (fun v h' kd er hk Q K => ?_) (fun hn => by cases hn)
  subst er
  rw [s2]
  rcases hkd with rfl | rfl
  · exact s_callI B.1 hcon hmy (aL4_link hp9 (Or.inr (Or.inr (Or.inl rfl))) e2) f1 f2 B.2.1.1 B.2.1.2 hlen b2 hk hdg K
  · exact s_callIN B.1 hcon hmy (aL4_nest hp9 (Or.inl rfl) e2) f1 f2 B.2.1.1 B.2.1.2 hlen b2 hk hdg K
theorem g_callSN (B : aBd p l R s m args meth c D ka sg A nL o d cc al ini call hd cd rt hh) {idx a b : Nat} {z : aS ⊕ aR} (hL : aL4 o idx 4 a = true) (hA : aArg a b 1 false false = true) (hdg : decode cc pc = .ok (.invokestatic idx, 3)) (hz : aCall true call hd cd a b pc ls st h k = some z) : aGl p l e R s m args below meth c D ka sg A nL al (pc, ls, st, h, k) z := by
  obtain ⟨b1, b2, b3, r0, b4, b5⟩ := aCall_ex hz
  obtain ⟨ha, o9, cd9, hd9, rt9, n9, y9, b9, np, e1, e2, e3, e4, e5, e6, e7, e8, e9, e10, e11, e12, e13⟩ := aArg_ok hA
  obtain ⟨p9, hp9⟩ := aL4_ok hL
  have e9 : hd9.isEmpty = true := e9
  rw [if_pos e9] at e10
  rw [if_pos rfl] at e11
  obtain rfl : b = np := e4
  have s2 : st = ((st.take b).reverse).reverse ++ st.drop b := by rw [List.reverse_reverse, List.take_append_drop]
  have hcon := a_con B ha b1 b3 b4 e3 e1 e2
  rw [aWs_plain e1 e2 e9] at hcon
  have hlen : ((st.take b).reverse).length = b := by rw [List.length_reverse, List.length_take]; omega
  have hmy : aMy y9 b9 n9 rt9 b := ⟨e10, e8, e12, e13, e7, e6⟩
  refine g_back B rfl b5 (fun v h' kd er hk Q K => ?_) (fun hn => by cases hn)
  subst er
  rw [s2]
  exact s_callSN B.1 hcon hmy (aL4_nest hp9 (Or.inr rfl) e2) e11 B.2.1.1 B.2.1.2 hlen b2 hk hdg K
theorem g_callSW (B : aBd p l R s m args meth c D ka sg A nL o d cc al ini call hd cd rt hh) {idx a b : Nat} {z : aS ⊕ aR} (hL : aL4 o idx 5 a = true) (hA : aArg a b 1 true false = true) (hdg : decode cc pc = .ok (.invokestatic idx, 3)) (hz : aCall true call hd cd a b pc ls st h k = some z) : aGl p l e R s m args below meth c D ka sg A nL al (pc, ls, st, h, k) z := by
  obtain ⟨b1, b2, b3, r0, b4, b5⟩ := aCall_ex hz
  obtain ⟨ha, o9, cd9, hd9, rt9, n9, y9, b9, np, e1, e2, e3, e4, e5, e6, e7, e8, e9, e10, e11, e12, e13⟩ := aArg_ok hA
  obtain ⟨p9, hp9⟩ := aL4_ok hL
  have e9 : hd9.isEmpty = false := e9
  rw [if_neg (by rw [e9]; decide)] at e10
  rw [if_pos rfl] at e11
  obtain rfl : b = np := e4
  have s2 : st = ((st.take b).reverse).reverse ++ st.drop b := by rw [List.reverse_reverse, List.take_append_drop]
  have hcon := a_con B ha b1 b3 b4 e3 e1 e2
  rw [aWs_with e1 e2 e9] at hcon
  have hlen : ((st.take b).reverse).length = b := by rw [List.length_reverse, List.length_take]; omega
  refine g_back B rfl b5 (fun v h' kd er hk Q K => ?_) (fun hn => by cases hn)
  subst er
  rw [s2]
  exact s_callSW B.1 hcon e10 e8 e12 e13 e7 e6 (aL4_link hp9 (Or.inr (Or.inr (Or.inr rfl))) e2) e11 B.2.1.1 B.2.1.2 hlen b2 hk hdg K
end STC
