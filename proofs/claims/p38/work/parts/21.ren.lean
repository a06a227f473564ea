/-! RENAMING: a run on a few cells is a run on a heap that holds those cells elsewhere -/
def aCc (u : Nat → Nat) (c : aC) : aC := (c.1, match c.2 with
  | .inl x => .inl (x.1, aCa u x.2)
  | .inr x => .inr (x.1, x.2.map (aCv u)))
def aIso (u : Nat → Nat) (h H : aH) : Prop := (∀ (q : Nat) (c : aC), h[q]? = some c → H[u q]? = some (aCc u c)) ∧ (∀ q q1 : Nat, q < h.length → q1 < h.length → u q = u q1 → q = q1) ∧ ∀ q, q < 8 → u q = q
def aFr (u : Nat → Nat) (h H h1 H1 : aH) : Prop := aIso u h1 H1 ∧ h1.length = h.length ∧ H1.length = H.length ∧ ∀ j : Nat, (∀ q, q < h.length → u q ≠ j) → H1[j]? = H[j]?
def aRv (u : Nat → Nat) (r : Option Value ⊕ Nat) : Option Value ⊕ Nat := match r with
  | .inl v => .inl (v.map (aCv u))
  | .inr e => .inr e
def aLm (u : Nat → Nat) (ls : List (Option Value)) : List (Option Value) := ls.map (Option.map (aCv u))
/-- where the one step comes to something, the other comes to its image -/
def aRr (u : Nat → Nat) (h H : aH) (x X : Option (aS ⊕ aR)) : Prop := ∀ z, x = some z → match z with
  | .inl t => ∃ H1, X = some (.inl (t.1, aLm u t.2.1, t.2.2.1.map (aCv u), H1, t.2.2.2.2)) ∧ aFr u h H t.2.2.2.1 H1
  | .inr r => ∃ H1, X = some (.inr (aRv u r.1, H1, r.2.2)) ∧ aFr u h H r.2.1 H1
section REN
variable {u : Nat → Nat} {h H h1 H1 : aH} {x X : Option (aS ⊕ aR)} {pc : Nat} {ls : List (Option Value)} {st : List Value} {k : aK}
theorem aFr.rf (I : aIso u h H) : aFr u h H h H := ⟨I, rfl, rfl, fun _ _ => rfl⟩
theorem aFr.trans {h2 H2 : aH} (F : aFr u h H h1 H1) (G : aFr u h1 H1 h2 H2) : aFr u h H h2 H2 :=
  ⟨G.1, G.2.1.trans F.2.1, G.2.2.1.trans F.2.2.1, fun j hj => (G.2.2.2 j (by rw [F.2.1]; exact hj)).trans (F.2.2.2 j hj)⟩
theorem aIso.lt (I : aIso u h H) {q : Nat} {c : aC} (hq : h[q]? = some c) : u q < H.length := (List.getElem?_eq_some_iff.mp (I.1 q c hq)).1
theorem aFr.set (I : aIso u h H) {q : Nat} {c0 c C : aC} (hq : h[q]? = some c0) (hc : C = aCc u c) : aFr u h H (h.set q c) (H.set (u q) C) := by
  subst hc
  have hl : q < h.length := (List.getElem?_eq_some_iff.mp hq).1
  refine ⟨⟨fun j d hj => ?_, fun j j1 hj hj1 => ?_, I.2.2⟩, List.length_set, List.length_set, fun j hj => ?_⟩
  · by_cases e : j = q
    · subst e
      rw [List.getElem?_set_self hl] at hj
      cases hj
      rw [List.getElem?_set_self (I.lt hq)]
    · rw [List.getElem?_set_ne (Ne.symm e)] at hj
      have hjl : j < h.length := (List.getElem?_eq_some_iff.mp hj).1
      rw [List.getElem?_set_ne (fun e2 => e (I.2.1 j q hjl hl e2.symm))]
      exact I.1 j d hj
  · rw [List.length_set] at hj hj1
    exact I.2.1 j j1 hj hj1
  · exact List.getElem?_set_ne (hj q hl)
theorem q_none : aRr u h H none X := fun z hz => by cases hz
theorem q_go {h2 : aH} {H2 : aH} {pc1 : Nat} {ls1 LS : List (Option Value)} {st1 ST : List Value} {k1 : aK} (F : aFr u h H h2 H2) (hl : LS = aLm u ls1) (hs : ST = st1.map (aCv u)) : aRr u h H (aGo pc1 ls1 st1 h2 k1) (aGo pc1 LS ST H2 k1) := by
  intro z hz
  cases hz
  subst hl
  subst hs
  exact ⟨H2, rfl, F⟩
theorem q_fin {h2 : aH} {H2 : aH} {r : Option Value ⊕ Nat} {k1 : aK} (F : aFr u h H h2 H2) : aRr u h H (some (.inr (r, h2, k1))) (some (.inr (aRv u r, H2, k1))) := by
  intro z hz
  cases hz
  exact ⟨H2, rfl, F⟩
theorem q_ite {c C : Prop} {dc : Decidable c} {dC : Decidable C} (e : c → C) (K : c → aRr u h H x X) {Y : Option (aS ⊕ aR)} : aRr u h H (if c then x else none) (if C then X else Y) := by
  by_cases g : c
  · rw [if_pos g, if_pos (e g)]
    exact K g
  · rw [if_neg g]
    exact q_none
theorem q_not {c C : Prop} {dc : Decidable c} {dC : Decidable C} (e : C → c) (K : ¬ c → aRr u h H x X) {Y : Option (aS ⊕ aR)} : aRr u h H (if c then none else x) (if C then Y else X) := by
  by_cases g : c
  · rw [if_pos g]
    exact q_none
  · rw [if_neg g, if_neg (fun g2 => g (e g2))]
    exact K g
theorem q_P1 {f F : Int32 → List Value → Option (aS ⊕ aR)} (K : ∀ x r, st = .int x :: r → aRr u h H (f x r) (F x (r.map (aCv u)))) : aRr u h H (aP1 st f) (aP1 (st.map (aCv u)) F) := by
  unfold aP1
  split
  · rename_i x r
    exact K x r rfl
  · exact q_none
theorem q_P2 {f F : Int32 → Int32 → List Value → Option (aS ⊕ aR)} (K : ∀ x y r, st = .int y :: .int x :: r → aRr u h H (f x y r) (F x y (r.map (aCv u)))) : aRr u h H (aP2 st f) (aP2 (st.map (aCv u)) F) := by
  unfold aP2
  split
  · rename_i y x r
    exact K x y r rfl
  · exact q_none
theorem q_Pr {f F : Nat → List Value → Option (aS ⊕ aR)} (K : ∀ q r, st = .ref q :: r → aRr u h H (f q r) (F (u q) (r.map (aCv u)))) : aRr u h H (aPr st f) (aPr (st.map (aCv u)) F) := by
  unfold aPr
  split
  · rename_i q r
    exact K q r rfl
  · exact q_none
theorem q_Pir {f F : Int32 → Nat → List Value → Option (aS ⊕ aR)} (K : ∀ i q r, st = .int i :: .ref q :: r → aRr u h H (f i q r) (F i (u q) (r.map (aCv u)))) : aRr u h H (aPir st f) (aPir (st.map (aCv u)) F) := by
  unfold aPir
  split
  · rename_i i q r
    exact K i q r rfl
  · exact q_none
theorem q_Pvir {f F : Value → Int32 → Nat → List Value → Option (aS ⊕ aR)} (K : ∀ x i q r, st = x :: .int i :: .ref q :: r → aRr u h H (f x i q r) (F (aCv u x) i (u q) (r.map (aCv u)))) : aRr u h H (aPvir st f) (aPvir (st.map (aCv u)) F) := by
  unfold aPvir
  split
  · rename_i x i q r
    exact K x i q r rfl
  · exact q_none
theorem q_Ob (I : aIso u h H) {q : Nat} {f F : Bool → Nat → List Value → Option (aS ⊕ aR)} (K : ∀ w ci fs, h[q]? = some (w, .inr (ci, fs)) → aRr u h H (f w ci fs) (F w ci (fs.map (aCv u)))) : aRr u h H (aOb h q f) (aOb H (u q) F) := by
  unfold aOb
  split
  · rename_i w ci fs hq
    rw [show H[u q]? = some (w, .inr (ci, fs.map (aCv u))) from I.1 q _ hq]
    exact K w ci fs hq
  · exact q_none
theorem q_Ar (I : aIso u h H) {q : Nat} {f F : Bool → FieldType → vp_A → Option (aS ⊕ aR)} (K : ∀ w ty n y, h[q]? = some (w, .inl (ty, n, y)) → aRr u h H (f w ty (n, y)) (F w ty (aCa u (n, y)))) : aRr u h H (aAr h q f) (aAr H (u q) F) := by
  unfold aAr
  split
  · rename_i w ty y hq
    rw [show H[u q]? = some (w, .inl (ty, aCa u y)) from I.1 q _ hq]
    obtain ⟨n, y⟩ := y
    exact K w ty n y hq
  · exact q_none
theorem q_At {i : Int32} {n : Nat} {f F : Nat → Option (aS ⊕ aR)} (K : ∀ j, aIx i n = some j → aRr u h H (f j) (F j)) : aRr u h H (aAt i n f) (aAt i n F) := by
  unfold aAt
  split
  · rename_i j hj
    exact K j hj
  · exact q_none
theorem aSum_ren (r : List Value) : aSum (r.map (aCv u)) = aSum r := by
  unfold aSum
  rw [List.map_map]
  congr 1
  exact List.map_congr_left fun v _ => aCv_cat u v
theorem aFit_ren (ty : FieldType) (y : Value) : aFit ty (aCv u y) = aFit ty y := by
  cases y <;> cases ty <;> rfl
theorem aLm_at {n : Nat} {v : Value} (hv : ls[n]? = some (some v)) : (aLm u ls)[n]? = some (some (aCv u v)) := by
  unfold aLm
  rw [List.getElem?_map, hv]
  rfl
theorem aLm_set {n : Nat} {o : Option Value} : (aLm u ls).set n (o.map (aCv u)) = aLm u (ls.set n o) := by
  unfold aLm
  rw [List.map_set]
theorem aMay_ren {n : Nat} : aMay (aLm u ls) n = aMay ls n := by
  unfold aMay aLm
  rw [List.length_map]
  congr 1
  cases n with
  | zero => rfl
  | succ j =>
    dsimp only
    rw [List.getElem?_map]
    cases hj : ls[j]? with
    | none => rfl
    | some o =>
      cases o with
      | none => rfl
      | some v => exact congrArg (fun c => c == 1) (aCv_cat u v)
end REN
/-- statics and strings lie at the first places -/
def aSt8 (i : Instr) (a : Nat) : Bool := match i with
  | .getstatic _ => decide (a < 8)
  | .ldc _ => decide (a < 8)
  | _ => true
section RENX
variable {u : Nat → Nat} {h H h1 H1 : aH} {x X : Option (aS ⊕ aR)} {pc : Nat} {ls : List (Option Value)} {st : List Value} {k : aK}
variable {call : aF} {cls : Nat → Nat} {hd : aD} {cd : List aI} {rt : Option FieldType} {a b : Nat} {v : Int32} {nt : Bool}
theorem q_back {r0 : aR} (F : aFr u h H r0.2.1 H1) : aRr u h H (aBack nt hd cd pc ls st k (some r0)) (aBack nt hd cd pc (aLm u ls) (st.map (aCv u)) k (some (aRv u r0.1, H1, r0.2.2))) := by
  obtain ⟨x0, h', kd⟩ := r0
  cases x0 with
  | inl w => exact q_go F rfl (by cases w <;> rfl)
  | inr e =>
    cases nt with
    | true => exact q_none
    | false =>
      cases hh : aHd hd pc e with
      | none =>
        have e1 : ∀ (L : List (Option Value)) (S : List Value) (g : aH), aBack false hd cd pc L S k (some (.inr e, g, kd)) = if hd = [] then some (.inr (.inr e, g, (k.1 + kd.1, k.2 + kd.2))) else none := by
          intro L S g
          unfold aBack
          dsimp only
          rw [if_neg (by decide), hh]
        show aRr u h H (aBack false hd cd pc ls st k (some (.inr e, h', kd))) (aBack false hd cd pc (aLm u ls) (st.map (aCv u)) k (some (.inr e, H1, kd)))
        rw [e1, e1]
        exact q_ite id (fun _ => q_fin (r := .inr e) F)
      | some t =>
        have e1 : ∀ (L : List (Option Value)) (S : List Value) (g : aH), aBack false hd cd pc L S k (some (.inr e, g, kd)) = match cd[t]? with
            | some (.astore_n n, _) => if aMay L n.val then aGo (t + 1) (L.set n.val none) [] g (k.1 + kd.1, k.2 + kd.2) else none
            | some (.astore n, _) => if aMay L n then aGo (t + 2) (L.set n none) [] g (k.1 + kd.1, k.2 + kd.2) else none
            | _ => none := by
          intro L S g
          unfold aBack
          dsimp only
          rw [if_neg (by decide), hh]
          rfl
        show aRr u h H (aBack false hd cd pc ls st k (some (.inr e, h', kd))) (aBack false hd cd pc (aLm u ls) (st.map (aCv u)) k (some (.inr e, H1, kd)))
        intro z hz
        rw [e1] at hz ⊢
        split at hz
        · rename_i n _ hn
          exact q_ite (fun g => by rw [aMay_ren]; exact g) (fun _ => q_go F (aLm_set (o := none)) rfl) z hz
        · rename_i n _ hn
          exact q_ite (fun g => by rw [aMay_ren]; exact g) (fun _ => q_go F (aLm_set (o := none)) rfl) z hz
        · cases hz
theorem q_call (hcall : ∀ a as r, call a as h = some r → ∃ H1, call a (as.map (aCv u)) H = some (aRv u r.1, H1, r.2.2) ∧ aFr u h H r.2.1 H1) : aRr u h H (aCall nt call hd cd a b pc ls st h k) (aCall nt call hd cd a b pc (aLm u ls) (st.map (aCv u)) H k) := by
  unfold aCall
  refine q_ite (fun g => ?_) (fun g => ?_)
  · rw [List.length_map, ← List.map_drop, aSum_ren, ← List.map_take, List.all_map]
    refine ⟨g.1, g.2.1, ?_⟩
    rw [← g.2.2]
    congr 1
    funext w
    exact congrArg (fun c => c == 1) (aCv_cat u w)
  · cases hc : call a (st.take b).reverse h with
    | none => exact q_none
    | some r0 =>
      obtain ⟨H1, e, F⟩ := hcall a _ r0 hc
      rw [← List.map_take, ← List.map_reverse, e, ← List.map_drop]
      exact q_back F
theorem aRecv_ren (I : aIso u h H) (g : aRecv cls a b st h = true) : aRecv cls a b (st.map (aCv u)) H = true := by
  obtain ⟨q, fs, g1, g2, g3⟩ := aRecv_ex g
  unfold aRecv
  rw [List.getElem?_map, g1]
  dsimp only [Option.map, aCv]
  rw [show H[u q]? = some (true, .inr (cls a, fs.map (aCv u))) from I.1 q _ g2]
  dsimp only
  rw [beq_self_eq_true, decide_eq_true g3]
  rfl
theorem q_text (I : aIso u h H) : aRr u h H (aText a pc ls st h k) (aText a pc (aLm u ls) (st.map (aCv u)) H k) := by
  unfold aText
  split
  · refine q_Pir fun i q r _ => ?_
    rw [aSum_ren]
    exact q_ite id fun _ => q_Ob I fun w ci fs hq => q_ite id fun _ => q_At fun j hj => q_go (aFr.rf I) rfl rfl
  · refine q_Pr fun q r _ => ?_
    rw [aSum_ren]
    exact q_ite id fun _ => q_Ob I fun w ci fs hq => q_ite id fun _ => q_go (aFr.rf I) rfl rfl
  · exact q_none
theorem q_nat (I : aIso u h H) : aRr u h H (aNat a pc ls st h k) (aNat a pc (aLm u ls) (st.map (aCv u)) H k) := by
  unfold aNat
  split
  · refine q_P2 fun x y r _ => ?_
    rw [aSum_ren]
    exact q_ite id fun _ => q_go (aFr.rf I) rfl rfl
  · refine q_P2 fun x y r _ => ?_
    rw [aSum_ren]
    exact q_ite id fun _ => q_go (aFr.rf I) rfl rfl
  · split
    · rename_i n dp d sp q r
      show aRr u h H _ (if n < 0 ∨ dp < 0 ∨ sp < 0 ∨ 8 < aSum (r.map (aCv u)) then none else _)
      rw [aSum_ren]
      refine q_not id fun _ => q_Ar I fun w0 ty0 n0 y0 hq => q_Ar I fun w1 ty1 n1 y1 hd => ?_
      rcases y0 with f | y0 | y0 | y0 | y0 <;> try exact q_none
      rcases y1 with g | y1 | y1 | y1 | y1 <;> try exact q_none
      exact q_ite id fun _ => q_go (aFr.set I hd rfl) rfl rfl
    · exact q_none
  · exact q_none

theorem q_ex (I : aIso u h H) (hcall : ∀ a as r, call a as h = some r → ∃ H1, call a (as.map (aCv u)) H = some (aRv u r.1, H1, r.2.2) ∧ aFr u h H r.2.1 H1) {i : Instr} (hst : aSt8 i a = true) : aRr u h H (aEx call cls hd cd rt false i a b v pc ls st h k) (aEx call cls hd cd rt false i a b v pc (aLm u ls) (st.map (aCv u)) H k) := by
  have R := aFr.rf I
  cases i with
  | iconst n =>
    exact q_go R rfl rfl
  | bipush n =>
    exact q_go R rfl rfl
  | sipush n =>
    exact q_go R rfl rfl
  | ldc n =>
    have h8 : a < 8 := of_decide_eq_true hst
    by_cases hb : b = 1
    · show aRr u h H (if b = 1 then _ else _) (if b = 1 then _ else _)
      rw [if_pos hb, if_pos hb]
      exact q_go R rfl rfl
    show aRr u h H (if b = 1 then _ else _) (if b = 1 then _ else _)
    rw [if_neg hb, if_neg hb]
    intro z hz
    split at hz
    · rename_i w ci fs hq
      have hq2 := I.1 a _ hq
      rw [I.2.2 a h8] at hq2
      rw [hq2]
      exact q_ite id (fun _ => q_go R rfl (by show _ = aCv u (.ref a) :: _; rw [show aCv u (.ref a) = .ref a from congrArg Value.ref (I.2.2 a h8)])) z hz
    · cases hz
  | ldc2_w n =>
    exact q_go R rfl rfl
  | lstore_n n =>
    rcases st with _ | ⟨y, r⟩
    · exact q_none
    cases y <;> try exact q_none
    rename_i y
    show aRr u h H (if aMay ls n.val = true ∧ n.val + 1 < ls.length then _ else none) (if aMay (aLm u ls) n.val = true ∧ n.val + 1 < (aLm u ls).length then _ else none)
    rw [aMay_ren, show (aLm u ls).length = ls.length from List.length_map _]
    refine q_ite id fun _ => q_go R ?_ rfl
    rw [show (aLm u ls).set n.val (some (.long y)) = aLm u (ls.set n.val (some (.long y))) from aLm_set (o := some (.long y))]
    exact aLm_set (o := none)
  | iushr =>
    exact q_P2 fun _ _ _ _ => q_go R rfl rfl
  | ifnull o =>
    exact q_Pr fun _ _ _ => q_go R rfl rfl
  | lload_n n =>
    intro z hz
    unfold aEx at hz
    dsimp only at hz
    split at hz
    · rename_i y hy
      have e : aEx call cls hd cd rt false (.lload_n n) a b v pc (aLm u ls) (st.map (aCv u)) H k = aGo (pc + 1) (aLm u ls) (.long y :: st.map (aCv u)) H k := by
        unfold aEx
        dsimp only
        rw [aLm_at hy]
        rfl
      rw [e]
      exact q_go R rfl rfl z hz
    · cases hz
  | ladd =>
    rcases st with _ | ⟨y, _ | ⟨x9, r⟩⟩
    · exact q_none
    · cases y <;> exact q_none
    cases y <;> try exact q_none
    all_goals cases x9 <;> try exact q_none
    exact q_go R rfl rfl
  | lmul =>
    rcases st with _ | ⟨y, _ | ⟨x9, r⟩⟩
    · exact q_none
    · cases y <;> exact q_none
    cases y <;> try exact q_none
    all_goals cases x9 <;> try exact q_none
    exact q_go R rfl rfl
  | iload_n n =>
    intro z hz
    unfold aEx at hz
    dsimp only at hz
    split at hz
    · rename_i y hy
      have e : aEx call cls hd cd rt false (.iload_n n) a b v pc (aLm u ls) (st.map (aCv u)) H k = aGo (pc + 1) (aLm u ls) (.int y :: st.map (aCv u)) H k := by
        unfold aEx
        dsimp only
        rw [aLm_at hy]
        rfl
      rw [e]
      exact q_go R rfl rfl z hz
    · cases hz
  | iload n =>
    intro z hz
    unfold aEx at hz
    dsimp only at hz
    split at hz
    · rename_i y hy
      have e : aEx call cls hd cd rt false (.iload n) a b v pc (aLm u ls) (st.map (aCv u)) H k = aGo (pc + 2) (aLm u ls) (.int y :: st.map (aCv u)) H k := by
        unfold aEx
        dsimp only
        rw [aLm_at hy]
        rfl
      rw [e]
      exact q_go R rfl rfl z hz
    · cases hz
  | aload_n n =>
    intro z hz
    unfold aEx at hz
    dsimp only at hz
    split at hz
    · rename_i y hy
      have e : aEx call cls hd cd rt false (.aload_n n) a b v pc (aLm u ls) (st.map (aCv u)) H k = aGo (pc + 1) (aLm u ls) (.ref (u y) :: st.map (aCv u)) H k := by
        unfold aEx
        dsimp only
        rw [aLm_at hy]
        rfl
      rw [e]
      exact q_go R rfl rfl z hz
    · cases hz
  | aload n =>
    intro z hz
    unfold aEx at hz
    dsimp only at hz
    split at hz
    · rename_i y hy
      have e : aEx call cls hd cd rt false (.aload n) a b v pc (aLm u ls) (st.map (aCv u)) H k = aGo (pc + 2) (aLm u ls) (.ref (u y) :: st.map (aCv u)) H k := by
        unfold aEx
        dsimp only
        rw [aLm_at hy]
        rfl
      rw [e]
      exact q_go R rfl rfl z hz
    · cases hz
  | fload n =>
    intro z hz
    unfold aEx at hz
    dsimp only at hz
    split at hz
    · rename_i y hy
      have e : aEx call cls hd cd rt false (.fload n) a b v pc (aLm u ls) (st.map (aCv u)) H k = aGo (pc + 2) (aLm u ls) (.float y :: st.map (aCv u)) H k := by
        unfold aEx
        dsimp only
        rw [aLm_at hy]
        rfl
      rw [e]
      exact q_go R rfl rfl z hz
    · cases hz
  | dload n =>
    intro z hz
    unfold aEx at hz
    dsimp only at hz
    split at hz
    · rename_i y hy
      have e : aEx call cls hd cd rt false (.dload n) a b v pc (aLm u ls) (st.map (aCv u)) H k = aGo (pc + 2) (aLm u ls) (.double y :: st.map (aCv u)) H k := by
        unfold aEx
        dsimp only
        rw [aLm_at hy]
        rfl
      rw [e]
      exact q_go R rfl rfl z hz
    · cases hz
  | iinc n w =>
    intro z hz
    unfold aEx at hz
    dsimp only at hz
    split at hz
    · rename_i y hy
      have e : aEx call cls hd cd rt false (.iinc n w) a b v pc (aLm u ls) (st.map (aCv u)) H k = if aMay ls n then aGo (pc + 3) ((aLm u ls).set n (some (.int (y + v)))) (st.map (aCv u)) H k else none := by
        unfold aEx
        dsimp only
        rw [aLm_at hy, aMay_ren]
        rfl
      rw [e]
      exact q_ite id (fun _ => q_go R (aLm_set (o := some (.int (y + v)))) rfl) z hz
    · cases hz
  | istore_n n =>
    refine q_P1 fun y r _ => ?_
    rw [aMay_ren]
    exact q_ite id fun _ => q_go R (aLm_set (o := some (.int y))) rfl
  | istore n =>
    refine q_P1 fun y r _ => ?_
    rw [aMay_ren]
    exact q_ite id fun _ => q_go R (aLm_set (o := some (.int y))) rfl
  | astore_n n =>
    refine q_Pr fun y r _ => ?_
    rw [aMay_ren]
    exact q_ite id fun _ => q_go R (aLm_set (o := some (.ref y))) rfl
  | astore n =>
    refine q_Pr fun y r _ => ?_
    rw [aMay_ren]
    exact q_ite id fun _ => q_go R (aLm_set (o := some (.ref y))) rfl
  | fstore n =>
    rcases st with _ | ⟨y, r⟩
    · exact q_none
    cases y <;> try exact q_none
    rename_i y
    show aRr u h H (if aMay ls n = true then _ else none) (if aMay (aLm u ls) n = true then _ else none)
    rw [aMay_ren]
    exact q_ite id fun _ => q_go R (aLm_set (o := some (.float y))) rfl
  | dstore n =>
    rcases st with _ | ⟨y, r⟩
    · exact q_none
    cases y <;> try exact q_none
    rename_i y
    show aRr u h H (if aMay ls n = true ∧ n + 1 < ls.length then _ else none) (if aMay (aLm u ls) n = true ∧ n + 1 < (aLm u ls).length then _ else none)
    rw [aMay_ren, show (aLm u ls).length = ls.length from List.length_map _]
    refine q_ite id fun _ => q_go R ?_ rfl
    rw [show (aLm u ls).set n (some (.double y)) = aLm u (ls.set n (some (.double y))) from aLm_set (o := some (.double y))]
    exact aLm_set (o := none)
  | iadd =>
    exact q_P2 fun _ _ _ _ => q_go R rfl rfl
  | isub =>
    exact q_P2 fun _ _ _ _ => q_go R rfl rfl
  | imul =>
    exact q_P2 fun _ _ _ _ => q_go R rfl rfl
  | iand =>
    exact q_P2 fun _ _ _ _ => q_go R rfl rfl
  | idiv =>
    exact q_P2 fun _ _ _ _ => q_not id fun _ => q_go R rfl rfl
  | irem =>
    exact q_P2 fun _ _ _ _ => q_not id fun _ => q_go R rfl rfl
  | i2l =>
    exact q_P1 fun _ _ _ => q_go R rfl rfl
  | i2c =>
    exact q_P1 fun _ _ _ => q_go R rfl rfl
  | i2f =>
    exact q_P1 fun _ _ _ => q_go R rfl rfl
  | i2d =>
    exact q_P1 fun _ _ _ => q_go R rfl rfl
  | f2d =>
    rcases st with _ | ⟨y, r⟩
    · exact q_none
    cases y <;> try exact q_none
    rename_i y
    exact q_ite id fun _ => q_go R rfl rfl
  | fdiv =>
    rcases st with _ | ⟨y, _ | ⟨x9, r⟩⟩
    · exact q_none
    · cases y <;> exact q_none
    cases y <;> try exact q_none
    all_goals cases x9 <;> try exact q_none
    exact q_ite id fun _ => q_go R rfl rfl
  | ddiv =>
    rcases st with _ | ⟨y, _ | ⟨x9, r⟩⟩
    · exact q_none
    · cases y <;> exact q_none
    cases y <;> try exact q_none
    all_goals cases x9 <;> try exact q_none
    exact q_ite id fun _ => q_go R rfl rfl
  | fconst n =>
    exact q_ite id fun _ => q_go R rfl rfl
  | dconst n =>
    exact q_ite id fun _ => q_go R rfl rfl
  | lcmp =>
    rcases st with _ | ⟨y, _ | ⟨x9, r⟩⟩
    · exact q_none
    · cases y <;> exact q_none
    cases y <;> try exact q_none
    all_goals cases x9 <;> try exact q_none
    exact q_go R rfl rfl
  | fcmp op =>
    rcases st with _ | ⟨y, _ | ⟨x9, r⟩⟩
    · exact q_none
    · cases y <;> exact q_none
    cases y <;> try exact q_none
    all_goals cases x9 <;> try exact q_none
    exact q_go R rfl rfl
  | dcmp op =>
    rcases st with _ | ⟨y, _ | ⟨x9, r⟩⟩
    · exact q_none
    · cases y <;> exact q_none
    cases y <;> try exact q_none
    all_goals cases x9 <;> try exact q_none
    exact q_go R rfl rfl
  | dup =>
    rcases st with _ | ⟨y, r⟩
    · exact q_none
    exact q_ite (fun g => (aCv_cat u y).trans g) fun _ => q_go R rfl rfl
  | dup2 =>
    rcases st with _ | ⟨y, _ | ⟨x9, r⟩⟩
    · exact q_none
    · exact q_none
    exact q_ite (fun g => ⟨(aCv_cat u y).trans g.1, (aCv_cat u x9).trans g.2⟩) fun _ => q_go R rfl rfl
  | ifCond c o =>
    exact q_P1 fun _ _ _ => q_go R rfl rfl
  | if_icmp c o =>
    exact q_P2 fun _ _ _ _ => q_go R rfl rfl
  | goto o =>
    exact q_go R rfl rfl
  | tableswitch dflt lo hi offs =>
    refine q_P1 fun y r _ => ?_
    split
    · exact q_go R rfl rfl
    · split
      · exact q_ite id fun _ => q_go R rfl rfl
      · exact q_none
  | lookupswitch dflt ps =>
    exact q_P1 fun y r _ => q_ite id fun _ => q_go R rfl rfl
  | getfield n =>
    refine q_Pr fun q r _ => q_Ob I fun w ci fs hq => q_ite id fun _ => ?_
    rw [List.getElem?_map]
    cases fs[b]? with
    | none => exact q_none
    | some y => exact q_go R rfl rfl
  | putfield n =>
    rcases st with _ | ⟨y, _ | ⟨x9, r⟩⟩
    · exact q_none
    · exact q_none
    cases x9 <;> try exact q_none
    rename_i q
    refine q_Ob I fun w ci fs hq => q_ite (fun g => ?_) fun _ => q_go (aFr.set I hq ?_) rfl rfl
    · rw [List.length_map, aFit_ren]
      exact g
    · unfold aCc
      dsimp only
      rw [List.map_set]
  | getstatic n =>
    have h8 : a < 8 := of_decide_eq_true hst
    exact q_go R rfl (by show _ = aCv u (.ref a) :: _; rw [show aCv u (.ref a) = .ref a from congrArg Value.ref (I.2.2 a h8)])
  | iaload =>
    refine q_Pir fun i q r _ => q_Ar I fun w ty n y hq => ?_
    cases ty <;> try exact q_none
    rcases y with y | y | y | y | y <;> try exact q_none
    exact q_At fun j _ => q_go R rfl rfl
  | caload =>
    refine q_Pir fun i q r _ => q_Ar I fun w ty n y hq => ?_
    cases ty <;> try exact q_none
    rcases y with y | y | y | y | y <;> try exact q_none
    exact q_At fun j _ => q_go R rfl rfl
  | laload =>
    refine q_Pir fun i q r _ => q_Ar I fun w ty n y hq => ?_
    cases ty <;> try exact q_none
    rcases y with y | y | y | y | y <;> try exact q_none
    exact q_At fun j _ => q_go R rfl rfl
  | aaload =>
    refine q_Pir fun i q r _ => q_Ar I fun w ty n y hq => ?_
    rcases y with y | y | y | y | y <;> try exact q_none
    refine q_ite id fun _ => q_At fun j _ => ?_
    show aRr u h H (match y j with | some y => _ | none => none) (match (y j).map u with | some y => _ | none => none)
    cases y j with
    | none => exact q_none
    | some y => exact q_go R rfl rfl
  | iastore =>
    refine q_Pvir fun x i q r _ => q_Ar I fun w ty n y hq => ?_
    cases x <;> try exact q_none
    all_goals cases ty <;> try exact q_none
    all_goals rcases y with y | y | y | y | y <;> try exact q_none
    exact q_ite id fun _ => q_At fun j _ => q_go (aFr.set I hq rfl) rfl rfl
  | lastore =>
    refine q_Pvir fun x i q r _ => q_Ar I fun w ty n y hq => ?_
    cases x <;> try exact q_none
    all_goals cases ty <;> try exact q_none
    all_goals rcases y with y | y | y | y | y <;> try exact q_none
    exact q_ite id fun _ => q_At fun j _ => q_go (aFr.set I hq rfl) rfl rfl
  | castore =>
    refine q_Pvir fun x i q r _ => q_Ar I fun w ty n y hq => ?_
    cases x <;> try exact q_none
    all_goals cases ty <;> try exact q_none
    all_goals rcases y with y | y | y | y | y <;> try exact q_none
    exact q_ite id fun _ => q_At fun j _ => q_go (aFr.set I hq rfl) rfl rfl
  | aastore =>
    refine q_Pvir fun x i q r _ => q_Ar I fun w ty n y hq => ?_
    cases x <;> try exact q_none
    rename_i x
    rcases y with y | y | y | y | y <;> try exact q_none
    refine q_Ob I fun w1 ci fs hx => q_ite id fun _ => q_At fun j _ => q_go (aFr.set I hq ?_) rfl rfl
    unfold aCc aCa
    dsimp only
    refine congrArg (fun g => (true, Sum.inl (FieldType.object RX6, n, Sum.inr (Sum.inr (Sum.inr (Sum.inr g)))))) (funext fun z => ?_)
    unfold va_up
    split <;> rfl
  | arraylength =>
    exact q_Pr fun q r _ => q_Ar I fun w ty n y hq => q_ite id fun _ => q_go R rfl rfl
  | newarray t =>
    exact q_P1 fun n r _ => q_ite (fun g => absurd g.1 (by decide)) fun g => absurd g.1 (by decide)
  | anewarray n =>
    exact q_P1 fun n r _ => q_ite (fun g => absurd g.1 (by decide)) fun g => absurd g.1 (by decide)
  | multianewarray n d =>
    rcases st with _ | ⟨y, _ | ⟨x9, r⟩⟩
    · exact q_none
    · cases y <;> exact q_none
    cases y <;> try exact q_none
    cases x9 <;> try exact q_none
  | new n =>
    show aRr u h H (if a = 999 then none else if 100 ≤ a then (if false = false ∧ hd = [] ∧ aSum st ≤ 8 then _ else none) else if false = true then _ else none) (if a = 999 then none else if 100 ≤ a then (if false = false ∧ hd = [] ∧ aSum (st.map (aCv u)) ≤ 8 then _ else none) else if false = true then _ else none)
    by_cases h9 : a = 999
    · rw [if_pos h9]
      exact q_none
    rw [if_neg h9, if_neg h9]
    by_cases ha : 100 ≤ a
    · rw [if_pos ha, if_pos ha, aSum_ren]
      exact q_ite id fun _ => q_fin (r := .inr (a - 100)) R
    · rw [if_neg ha]
      exact q_none
  | invokevirtual n =>
    show aRr u h H (if 500 ≤ a then _ else _) (if 500 ≤ a then _ else _)
    by_cases ha : 500 ≤ a
    · rw [if_pos ha, if_pos ha]
      exact q_text I
    · rw [if_neg ha, if_neg ha]
      exact q_ite (aRecv_ren I) fun _ => q_call hcall
  | invokestatic n =>
    show aRr u h H (if 500 ≤ a then _ else _) (if 500 ≤ a then _ else _)
    by_cases ha : 500 ≤ a
    · rw [if_pos ha, if_pos ha]
      exact q_nat I
    · rw [if_neg ha, if_neg ha]
      exact q_call hcall
  | invokespecial n =>
    show aRr u h H (if a = 600 then _ else _) (if a = 600 then _ else _)
    by_cases ha : a = 600
    · rw [if_pos ha, if_pos ha]
      refine q_Pr fun q r _ => ?_
      rw [aSum_ren]
      exact q_ite id fun _ => q_go R rfl rfl
    · rw [if_neg ha, if_neg ha]
      exact q_ite (aRecv_ren I) fun _ => q_call hcall
  | ireturn =>
    rcases st with _ | ⟨y, _ | ⟨x9, r⟩⟩
    · exact q_none
    · cases y <;> try exact q_none
      cases rt with
      | none => exact q_none
      | some ty => exact q_ite id fun _ => q_fin (r := .inl (some (.int _))) R
    · cases y <;> exact q_none
  | freturn =>
    rcases st with _ | ⟨y, _ | ⟨x9, r⟩⟩
    · exact q_none
    · cases y <;> try exact q_none
      exact q_ite id fun _ => q_fin (r := .inl (some (.float _))) R
    · cases y <;> exact q_none
  | dreturn =>
    rcases st with _ | ⟨y, _ | ⟨x9, r⟩⟩
    · exact q_none
    · cases y <;> try exact q_none
      exact q_ite id fun _ => q_fin (r := .inl (some (.double _))) R
    · cases y <;> exact q_none
  | lreturn =>
    rcases st with _ | ⟨y, _ | ⟨x9, r⟩⟩
    · exact q_none
    · cases y <;> try exact q_none
      exact q_ite id fun _ => q_fin (r := .inl (some (.long _))) R
    · cases y <;> exact q_none
  | areturn =>
    rcases st with _ | ⟨y, _ | ⟨x9, r⟩⟩
    · exact q_none
    · cases y <;> try exact q_none
      exact q_ite id fun _ => q_fin (r := .inl (some (.ref _))) R
    · cases y <;> exact q_none
  | return_ =>
    rcases st with _ | ⟨y, r⟩
    · exact q_ite id fun _ => q_fin (r := .inl none) R
    · exact q_none
  | _ => exact q_none
end RENX
/-- statics' and strings' places, all through the program -/
def aSt8s : Bool := aProg.all fun m => m.2.1.all fun q => aSt8 q.1 q.2.1
theorem q_it {u : Nat → Nat} {call : aF} {hd : aD} {cd : List aI} {rt : Option FieldType} (hst : (cd.all fun q => aSt8 q.1 q.2.1) = true) (hcall : ∀ (h H : aH), aIso u h H → ∀ a as r, call a as h = some r → ∃ H1, call a (as.map (aCv u)) H = some (aRv u r.1, H1, r.2.2) ∧ aFr u h H r.2.1 H1) : ∀ (n : Nat) (t : aS) (H : aH) (r : aR), aIso u t.2.2.2.1 H → aIt (aStep call aCls hd cd rt false) n t = some (.inr r) → ∃ H1, aIt (aStep call aCls hd cd rt false) n (t.1, aLm u t.2.1, t.2.2.1.map (aCv u), H, t.2.2.2.2) = some (.inr (aRv u r.1, H1, r.2.2)) ∧ aFr u t.2.2.2.1 H r.2.1 H1
  | 0, t, H, r, I, h => by cases h
  | n + 1, t, H, r, I, h => by
    have key : aRr u t.2.2.2.1 H (aStep call aCls hd cd rt false t) (aStep call aCls hd cd rt false (t.1, aLm u t.2.1, t.2.2.1.map (aCv u), H, t.2.2.2.2)) := by
      unfold aStep
      dsimp only
      cases hc : cd[t.1]? with
      | none => exact q_none
      | some q =>
        obtain ⟨i, a, b, v⟩ := q
        exact q_ex I (hcall _ _ I) (List.all_eq_true.mp hst _ (List.mem_of_getElem? hc))
    cases hf : aStep call aCls hd cd rt false t with
    | none => rw [aIt_non hf] at h; cases h
    | some x =>
      cases x with
      | inl w =>
        rw [aIt_inl hf] at h
        obtain ⟨H1, e1, F1⟩ := key _ hf
        obtain ⟨H2, e2, F2⟩ := q_it hst hcall n w H1 r F1.1 h
        exact ⟨H2, by rw [aIt_inl e1]; exact e2, F1.trans F2⟩
      | inr q =>
        rw [aIt_inr hf] at h
        cases h
        obtain ⟨H1, e1, F1⟩ := key _ hf
        exact ⟨H1, by rw [aIt_inr e1], F1⟩
theorem aRun_ren {u : Nat → Nat} (hst : aSt8s = true) : ∀ (d m : Nat) (as : List Value) (h H : aH) (r : aR), aIso u h H → aRun false d m as h = some r → ∃ H1, aRun false d m (as.map (aCv u)) H = some (aRv u r.1, H1, r.2.2) ∧ aFr u h H r.2.1 H1
  | 0, m, as, h, H, r, I, hr => by cases hr
  | d + 1, m, as, h, H, r, I, hr => by
    obtain ⟨o, cd, hd, rt, n, hm, N, hit⟩ := aRun_ex hr
    obtain ⟨H1, e1, F1⟩ := q_it (u := u) (call := aRun false d) (hd := hd) (cd := cd) (rt := rt) (List.all_eq_true.mp hst _ (List.mem_of_getElem? hm)) (fun h H I a as r hr => aRun_ren hst d a as h H r I hr) N (0, aIn n as, [], h, (0, 0)) H r I hit
    refine ⟨H1, aRun_of hm ⟨N, ?_⟩, F1⟩
    rw [← e1]
    have e2 : aIn n (as.map (aCv u)) = aLm u (aIn n as) := by
      unfold aIn aLm
      rw [List.length_map, List.map_append, List.map_map, List.map_map, List.map_replicate]
      rfl
    rw [e2]
    rfl
set_option maxRecDepth 100000 in
theorem aSt8_ok : aSt8s = true := by decide +kernel
