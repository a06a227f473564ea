/-! ENDS OF WHICH SOMETHING IS SAID; LOOPS WITH WHAT HOLDS IN THEM -/
def mE (F : aS → Option (aS ⊕ aR)) (s : aS) (P : aR → Prop) : Prop := ∃ r, aEnd F s r ∧ P r
def mKe (F : aS → Option (aS ⊕ aR)) (P : aR → Prop) : aS ⊕ aR → Prop := fun z => match z with
  | .inl t => mE F t P
  | .inr q => P q
section MEP
variable {n0 d : Nat} {mr : aF} {hd : aD} {cd : List aI} {rt : Option FieldType} {P : aR → Prop} {F : aS → Option (aS ⊕ aR)}
theorem mVn_P {stop : Nat → Bool} {s : aS} (n : Nat) (w : mVn n0 d mr hd cd rt stop n s (mKe (mStep n0 d mr hd cd rt) P)) : mE (mStep n0 d mr hd cd rt) s P := by
  obtain ⟨z, h1, h2⟩ := mVn_ok n s w
  cases z with
  | inl t =>
    obtain ⟨r, e1, e2⟩ := h2
    exact ⟨r, aTo.fin h1 e1, e2⟩
  | inr q => exact ⟨q, h1, h2⟩
theorem mRun_P {m : Nat} {args : List Value} {h : aH} {o n : Nat} (hm : aProg[m]? = some (o, cd, hd, rt, n)) (he : mE (mStep h.length d (mRun d) hd cd rt) (0, aIn n args, [], h, (0, 0)) P) : ∃ r, mRun (d + 1) m args h = some r ∧ P r := by
  obtain ⟨r, e1, e2⟩ := he
  exact ⟨r, mRun_of hm e1, e2⟩
/-- a loop by a number, with what holds at each of its rounds -/
theorem k_inv {τ : Type} {S : τ → Int32 → aS} {Inv : Nat → τ → Prop} {n : Nat} (hb : ∀ (i : Nat) (x : Int32) (u : τ), i < n → x = Int32.ofNat i → Inv i u → (∀ u1, Inv (i + 1) u1 → mE F (S u1 (x + 1)) P) → mE F (S u x) P) (he : ∀ (x : Int32) (u : τ), x = Int32.ofNat n → Inv n u → mE F (S u x) P) : ∀ (m i : Nat) (x : Int32) (u : τ), i + m = n → x = Int32.ofNat i → Inv i u → mE F (S u x) P
  | 0, i, x, u, h, hx, hu => he x u (by rw [hx]; congr 1) (by rw [← show i = n by omega]; exact hu)
  | m + 1, i, x, u, h, hx, hu => hb i x u (by omega) hx hu (fun u1 h1 => k_inv hb he m (i + 1) (x + 1) u1 (by omega) (zI_s hx) h1)
theorem k_inv0 {τ : Type} {S : τ → Int32 → aS} {Inv : Nat → τ → Prop} {n : Nat} {u : τ} (h0 : Inv 0 u) (hb : ∀ (i : Nat) (x : Int32) (u : τ), i < n → x = Int32.ofNat i → Inv i u → (∀ u1, Inv (i + 1) u1 → mE F (S u1 (x + 1)) P) → mE F (S u x) P) (he : ∀ (x : Int32) (u : τ), x = Int32.ofNat n → Inv n u → mE F (S u x) P) : mE F (S u 0) P := k_inv hb he n 0 0 u (by omega) rfl h0
theorem mE_one {s t : aS} (h : mE F t P) (e : s = t) : mE F s P := e ▸ h
end MEP
section MEE
variable {H E : aH} {c c1 : aC}
theorem e_at (hl : H.length = 252) : (H ++ (E ++ [c]))[252 + E.length]? = some c := by
  rw [← List.append_assoc, List.getElem?_append_right (by rw [List.length_append]; omega), List.length_append, hl, Nat.sub_self]
  rfl
theorem e_set (hl : H.length = 252) : (H ++ (E ++ [c])).set (252 + E.length) c1 = H ++ (E ++ [c1]) := by
  rw [← List.append_assoc, List.set_append_right _ _ (by rw [List.length_append]; omega), List.length_append, hl, Nat.sub_self]
  show (H ++ E) ++ [c1] = _
  rw [List.append_assoc]
theorem e_len (hl : H.length = 252) : (H ++ (E ++ [c])).length = 253 + E.length := by
  rw [List.length_append, List.length_append, hl]
  show 252 + (E.length + 1) = _
  omega
theorem mPl_i {E : aH} (h : mPl E) {n : Nat} {f : Nat → Int32} : mPl (E ++ [(true, .inl (.int, n, .inl f))]) := fun c hc => by
  rcases List.mem_append.mp hc with q | q
  · exact h c q
  · rw [List.mem_singleton.mp q]
    exact Or.inl ⟨n, f, rfl⟩
theorem mPl_l {E : aH} (h : mPl E) {n : Nat} {f : Nat → Int64} : mPl (E ++ [(true, .inl (.long, n, .inr (.inl f)))]) := fun c hc => by
  rcases List.mem_append.mp hc with q | q
  · exact h c q
  · rw [List.mem_singleton.mp q]
    exact Or.inr ⟨n, f, rfl⟩
end MEE
