/-! MAKING CELLS: what a constructor does on a small heap, it does anywhere -/
def aIni (a : Nat) : Bool := [m_X0_init, m_X1_init, m_X2_init, m_X3_init, m_X4_init, m_X5_init, m_X6_init, m_X7_init].contains a
def aUs (i : Instr) (a : Nat) (v : Int32) : Bool := match i with
  | .newarray _ => true
  | .anewarray _ => true
  | .multianewarray _ _ => true
  | .new _ => decide (a < 100)
  | .invokespecial _ => a == 600 || (v == 1 && aIni a)
  | .aload_n _ => true
  | .bipush _ => true
  | .sipush _ => true
  | .iconst _ => true
  | .dup => true
  | .iastore => true
  | .aastore => true
  | .putfield _ => true
  | .getfield _ => true
  | .istore_n _ => true
  | .iload_n _ => true
  | .if_icmp _ _ => true
  | .iinc _ _ => true
  | .goto _ => true
  | .return_ => true
  | .nop => true
  | _ => false
def aFx (u : Nat → Nat) (H h1 H1 : aH) : Prop := aIso u h1 H1 ∧ (∀ j, u (h1.length + j) = H1.length + j) ∧ ∀ j : Nat, (∀ q, u q ≠ j) → H1[j]? = H[j]?
def aRx (u : Nat → Nat) (H : aH) (x X : Option (aS ⊕ aR)) : Prop := ∀ z, x = some z → match z with
  | .inl t => ∃ H1, X = some (.inl (t.1, aLm u t.2.1, t.2.2.1.map (aCv u), H1, t.2.2.2.2)) ∧ aFx u H t.2.2.2.1 H1
  | .inr r => ∃ H1, X = some (.inr (aRv u r.1, H1, r.2.2)) ∧ aFx u H r.2.1 H1
section REX
variable {u : Nat → Nat} {h H h1 H1 : aH} {x X : Option (aS ⊕ aR)} {pc : Nat} {ls : List (Option Value)} {st : List Value} {k : aK}
variable {call : aF} {cls : Nat → Nat} {hd : aD} {cd : List aI} {rt : Option FieldType} {a b : Nat} {v : Int32}
theorem x_of (hu : ∀ j, u (h.length + j) = H.length + j) (F : aFr u h H h1 H1) : aFx u H h1 H1 :=
  ⟨F.1, fun j => by rw [F.2.1, F.2.2.1]; exact hu j, fun j hj => F.2.2.2 j fun q _ => hj q⟩
theorem x_rr (hu : ∀ j, u (h.length + j) = H.length + j) (r : aRr u h H x X) : aRx u H x X := by
  intro z hz
  have := r z hz
  cases z with
  | inl t =>
    obtain ⟨H1, e, F⟩ := this
    exact ⟨H1, e, x_of hu F⟩
  | inr t =>
    obtain ⟨H1, e, F⟩ := this
    exact ⟨H1, e, x_of hu F⟩
theorem x_none : aRx u H none X := fun z hz => by cases hz
/-- new cells at the end -/
theorem x_app (I : aIso u h H) (hu : ∀ j, u (h.length + j) = H.length + j) {cs Cs : aH} (e : Cs = cs.map (aCc u)) : aFx u H (h ++ cs) (H ++ Cs) := by
  subst e
  have hh := hu 0
  refine ⟨⟨fun q c hq => ?_, fun q q1 g1 g2 e => ?_, I.2.2⟩, fun j => ?_, fun j hj => ?_⟩
  · by_cases l : q < h.length
    · rw [List.getElem?_append_left l] at hq
      have := I.1 q c hq
      rw [List.getElem?_append_left (List.getElem?_eq_some_iff.mp this).1]
      exact this
    · obtain ⟨j, rfl⟩ : ∃ j, q = h.length + j := ⟨q - h.length, by omega⟩
      rw [List.getElem?_append_right (by omega), Nat.add_sub_cancel_left] at hq
      rw [hu, List.getElem?_append_right (by omega), Nat.add_sub_cancel_left, List.getElem?_map, hq]
      rfl
  · have key : ∀ q, q < h.length → u q < H.length := fun q l => by
      obtain ⟨c, hc⟩ : ∃ c, h[q]? = some c := ⟨_, List.getElem?_eq_getElem l⟩
      exact I.lt hc
    by_cases l : q < h.length
    · by_cases l1 : q1 < h.length
      · exact I.2.1 q q1 l l1 e
      · obtain ⟨j, rfl⟩ : ∃ j, q1 = h.length + j := ⟨q1 - h.length, by omega⟩
        rw [hu] at e
        have := key q l
        omega
    · obtain ⟨i, rfl⟩ : ∃ j, q = h.length + j := ⟨q - h.length, by omega⟩
      rw [hu] at e
      by_cases l1 : q1 < h.length
      · have := key q1 l1
        omega
      · obtain ⟨j, rfl⟩ : ∃ j, q1 = h.length + j := ⟨q1 - h.length, by omega⟩
        rw [hu] at e
        omega
  · rw [List.length_append, List.length_append, List.length_map, Nat.add_assoc, hu, Nat.add_assoc]
  · by_cases l : j < H.length
    · exact List.getElem?_append_left l
    · obtain ⟨i, rfl⟩ : ∃ i, j = H.length + i := ⟨j - H.length, by omega⟩
      exact absurd (hu i) (hj _)
theorem x_go {pc1 : Nat} {ls1 LS : List (Option Value)} {st1 ST : List Value} {h2 H2 : aH} {k1 : aK} (F : aFx u H h2 H2) (hl : LS = aLm u ls1) (hs : ST = st1.map (aCv u)) : aRx u H (aGo pc1 ls1 st1 h2 k1) (aGo pc1 LS ST H2 k1) := by
  intro z hz
  cases hz
  subst hl hs
  exact ⟨H2, rfl, F⟩
theorem x_ite {c : Prop} {dc : Decidable c} {Y : Option (aS ⊕ aR)} (K : c → aRx u H x X) : aRx u H (if c then x else none) (if c then X else Y) := by
  by_cases g : c
  · rw [if_pos g, if_pos g]
    exact K g
  · rw [if_neg g]
    exact x_none
theorem dv_cv (ty : FieldType) : aCv u (defaultValue ty) = defaultValue ty := by cases ty <;> rfl
theorem x_P1 {f F : Int32 → List Value → Option (aS ⊕ aR)} (K : ∀ x r, st = .int x :: r → aRx u H (f x r) (F x (r.map (aCv u)))) : aRx u H (aP1 st f) (aP1 (st.map (aCv u)) F) := by
  unfold aP1
  split
  · rename_i x r
    exact K x r rfl
  · exact x_none
theorem x_P2 {f F : Int32 → Int32 → List Value → Option (aS ⊕ aR)} (K : ∀ x y r, st = .int y :: .int x :: r → aRx u H (f x y r) (F x y (r.map (aCv u)))) : aRx u H (aP2 st f) (aP2 (st.map (aCv u)) F) := by
  unfold aP2
  split
  · rename_i y x r
    exact K x y r rfl
  · exact x_none
def aNc : aF := fun _ _ _ => none
theorem x_ex (I : aIso u h H) (hu : ∀ j, u (h.length + j) = H.length + j) (hcall : ∀ a as r, aIni a = true → call a as h = some r → ∃ H1, call a (as.map (aCv u)) H = some (aRv u r.1, H1, r.2.2) ∧ aFx u H r.2.1 H1) {i : Instr} (hs : aUs i a v = true) : aRx u H (aEx call cls hd cd rt true i a b v pc ls st h k) (aEx call cls hd cd rt true i a b v pc (aLm u ls) (st.map (aCv u)) H k) := by
  have old : ∀ {j : Instr}, aSt8 j a = true → aRx u H (aEx aNc cls hd cd rt false j a b v pc ls st h k) (aEx aNc cls hd cd rt false j a b v pc (aLm u ls) (st.map (aCv u)) H k) := fun h8 => x_rr hu (q_ex I (fun a as r q => by cases q) h8)
  have h0 : u h.length = H.length := hu 0
  have one : ∀ (c : aC) (pc1 : Nat) (k1 : aK) (r : List Value) (C : aC), C = aCc u c → aRx u H (aGo pc1 ls (.ref h.length :: r) (h ++ [c]) k1) (aGo pc1 (aLm u ls) (.ref H.length :: r.map (aCv u)) (H ++ [C]) k1) := fun c pc1 k1 r C e => x_go (x_app I hu (by rw [e]; rfl)) rfl (by show _ = Value.ref (u h.length) :: _; rw [h0])
  cases i with
  | newarray t =>
    refine x_P1 fun n r _ => x_ite fun g => ?_
    cases t with
    | int => exact one _ _ _ _ _ rfl
    | char => exact one _ _ _ _ _ rfl
    | long => exact one _ _ _ _ _ rfl
    | _ => exact x_none
  | anewarray t =>
    refine x_P1 fun n r _ => x_ite fun g => ?_
    exact one _ _ _ _ _ rfl
  | multianewarray t n =>
    show aRx u H (aP2 st fun x y r => if true = true ∧ x = 3 ∧ y = 20 then _ else none) (aP2 (st.map (aCv u)) fun x y r => if true = true ∧ x = 3 ∧ y = 20 then _ else none)
    refine x_P2 fun x y r _ => x_ite fun g => ?_
    refine x_go (x_app I hu ?_) rfl (by show _ = Value.ref (u h.length) :: _; rw [h0])
    have e : (fun i => if i < 3 then some (H.length + 1 + i) else none) = fun i => (if i < 3 then some (h.length + 1 + i) else none : Option Nat).map u := funext fun i => by
      by_cases c : i < 3
      · rw [if_pos c, if_pos c]
        show _ = some (u (h.length + 1 + i))
        rw [show h.length + 1 + i = h.length + (1 + i) by omega, hu, show H.length + 1 + i = H.length + (1 + i) by omega]
      · rw [if_neg c, if_neg c]
        rfl
    show [_, _, _, _] = [_, _, _, _]
    rw [e]
    rfl
  | new t =>
    have ha : ¬ 100 ≤ a := by
      have := of_decide_eq_true (show decide (a < 100) = true from hs)
      omega
    have h9 : ¬ a = 999 := by omega
    show aRx u H (if a = 999 then _ else if 100 ≤ a then _ else if true = true then _ else none) (if a = 999 then _ else if 100 ≤ a then _ else if true = true then _ else none)
    rw [if_neg h9, if_neg h9, if_neg ha, if_neg ha, if_pos rfl, if_pos rfl]
    refine one _ _ _ _ _ ?_
    show (true, Sum.inr (a, _)) = (true, Sum.inr (a, _))
    rw [List.map_map]
    congr 3
    exact List.map_congr_left fun j _ => (dv_cv _).symm
  | invokespecial n =>
    by_cases h6 : a = 600
    · subst h6
      exact old (j := .invokespecial n) rfl
    · have h2 : v = 1 ∧ aIni a = true := by
        have h3 : (a == 600 || (v == 1 && aIni a)) = true := hs
        rw [Bool.or_eq_true, Bool.and_eq_true] at h3
        rcases h3 with q | q
        · exact absurd (eq_of_beq q) h6
        · exact ⟨eq_of_beq q.1, q.2⟩
      obtain ⟨rfl, hi⟩ := h2
      show aRx u H (if a = 600 then _ else if aRecv cls a b st h = true then _ else none) (if a = 600 then _ else if aRecv cls a b (st.map (aCv u)) H = true then _ else none)
      rw [if_neg h6, if_neg h6]
      by_cases g : aRecv cls a b st h = true
      · rw [if_pos g, if_pos (aRecv_ren I g)]
        show aRx u H (if b ≤ st.length ∧ aSum (st.drop b) ≤ 8 ∧ ((st.take b).all fun x => x.category == 1) = true then aBack true hd cd pc ls (st.drop b) k (call a (st.take b).reverse h) else none) (if b ≤ (st.map (aCv u)).length ∧ aSum ((st.map (aCv u)).drop b) ≤ 8 ∧ (((st.map (aCv u)).take b).all fun x => x.category == 1) = true then aBack true hd cd pc (aLm u ls) ((st.map (aCv u)).drop b) k (call a ((st.map (aCv u)).take b).reverse H) else none)
        have ec : ((st.map (aCv u)).take b).all (fun x => x.category == 1) = (st.take b).all fun x => x.category == 1 := by
          rw [← List.map_take, List.all_map]
          congr 1
          funext x
          show ((aCv u x).category == 1) = _
          rw [aCv_cat]
        rw [List.length_map, ec, ← List.map_drop, aSum_ren]
        refine x_ite fun _ => ?_
        cases hr : call a (st.take b).reverse h with
        | none => exact x_none
        | some r =>
          obtain ⟨H1, e1, F1⟩ := hcall a _ r hi hr
          rw [← List.map_take, ← List.map_reverse, e1]
          obtain ⟨x0, h', kd⟩ := r
          cases x0 with
          | inl w => exact x_go F1 rfl (by cases w <;> (show _ ++ _ = List.map _ (_ ++ _); rw [List.map_append]; rfl))
          | inr e => exact x_none
      · rw [if_neg g]
        exact x_none
  | aload_n n => exact old (j := .aload_n n) rfl
  | bipush n => exact old (j := .bipush n) rfl
  | sipush n => exact old (j := .sipush n) rfl
  | iconst n => exact old (j := .iconst n) rfl
  | dup => exact old (j := .dup) rfl
  | iastore => exact old (j := .iastore) rfl
  | aastore => exact old (j := .aastore) rfl
  | putfield n => exact old (j := .putfield n) rfl
  | getfield n => exact old (j := .getfield n) rfl
  | istore_n n => exact old (j := .istore_n n) rfl
  | iload_n n => exact old (j := .iload_n n) rfl
  | if_icmp c n => exact old (j := .if_icmp c n) rfl
  | iinc n c => exact old (j := .iinc n c) rfl
  | goto n => exact old (j := .goto n) rfl
  | return_ => exact old (j := .return_) rfl
  | nop => exact fun z hz => by cases hz
  | _ => exact Bool.noConfusion hs
end REX
