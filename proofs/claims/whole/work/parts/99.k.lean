/-! THE START: the law over abstract cells, from its first round on -/
def k0 : aW := fun a => match a with
  | 7 => fun i => match i with
    | 1 => -1
    | _ => 0
  | _ => z0
def m0 : aW := fun a => match a with
  | 0 => st0
  | 9 => fun i => match i with
    | 7 => -1
    | _ => 0
  | _ => z0
def W0 : Nat → aW := fun _ => w0
def lo0 : Nat → Int64 := fun _ => 0
def dd0 : Nat → UInt64 := fun _ => 0
theorem ok0 : wOk w0 0 0 0 := by
  refine ⟨⟨rfl, by omega, rfl, by omega, rfl, by omega⟩, fun j hj => by omega, ⟨fun j hj => by omega, fun i j hi => by omega⟩, fun i hi => by omega, ⟨rfl, fun i hi => by omega, fun k hk => rfl⟩, fun i hi => ?_, by decide, by decide⟩
  match i, hi with
  | 0, _ => decide
  | 1, _ => decide
  | 2, _ => decide
theorem Rl0 : Rl w0 st0 0 0 0 := ⟨⟨rfl, rfl, rfl, rfl, rfl, rfl, rfl, rfl, rfl⟩, fun j hj => by omega, fun j hj => by omega, fun j hj => by omega⟩
theorem GI0 : GI k0 W0 m0 := ⟨⟨0, 0, 0, ok0, Rl0⟩, ⟨rfl, fun h => absurd rfl h⟩, ⟨0, 0, by omega, by omega, rfl, rfl, rfl, fun e he => by omega⟩, ⟨0, by omega, rfl, rfl, rfl, fun i => ⟨show (0 : Int32) ≤ 0 by decide, show (0 : Int32) < 65536 by decide⟩⟩, rfl, 0, by omega, rfl, rfl, fun i hi => by omega⟩
def Ka : aH := ([aOj 7 [.ref 9, .ref 12, .ref 14, .ref 21, .ref 42, .ref 63, .int (k0 7 0), .int (k0 7 1)],
  aOj 2 [.int (k0 7 2), .ref 10, .ref 11], aAi 3 (k0 0), aAi 3 (k0 1),
  aOj 0 [.int (k0 7 3), .int (k0 7 4), .ref 13], (true, .inl (.object RX6, 8, .inr (.inr (.inr (.inr aRg)))))] : aH).map (aCc (uW 20))
def Kb : aH := ([aOj 4 [.int (k0 7 5), .int (k0 7 6), .ref 15, .ref 16, .ref 20, .int (k0 7 7)], (true, .inl (.char, 20, .inl (k0 2))),
  (true, .inl (.array .int, 3, .inr (.inr (.inr (.inr fun i => if i < 3 then some (17 + i) else none))))), aAi 20 (k0 3), aAi 20 (k0 4), aAi 20 (k0 5), (true, .inl (.char, 60, .inl (k0 6)))] : aH).map (aCc (uW 20))
def Kc : aH := (aWk 21 w0 ++ (aWk 42 w0 ++ aWk 63 w0)).map (aCc (uW 20))
section SU
variable {sn : Nat} {sf : Nat → Int32}
set_option maxRecDepth 40000 in
theorem KL_seg : KL k0 W0 = Ka ++ ((Kb ++ Kc) ++ RgL W0) := by
  show (aKn0 21 42 aRg k0 ++ (aWk 21 w0 ++ (aWk 42 w0 ++ aWk 63 w0))).map (aCc (uW 20)) ++ RgL W0 = _
  rw [List.map_append]
  show (Ka ++ Kb) ++ Kc ++ RgL W0 = _
  simp only [List.append_assoc]
set_option maxRecDepth 40000 in
theorem eqa : eqHs (kh [.ref 9, .ref 12, .ref 182, .ref 189, .ref 210, .ref 231, .int 0, .int (-1)] 8) (Ka.map (aCc uS)) := by
  refine ⟨Or.inl rfl, Or.inl rfl, Or.inl rfl, Or.inl rfl, Or.inl rfl, Or.inr ⟨_, _, _, _, _, rfl, rfl, fun j hj => ?_⟩, trivial⟩
  match j, hj with
  | 0, _ => rfl
  | 1, _ => rfl
  | 2, _ => rfl
  | 3, _ => rfl
  | 4, _ => rfl
  | 5, _ => rfl
  | 6, _ => rfl
  | 7, _ => rfl
set_option maxRecDepth 40000 in
theorem eqb : eqHs (t4 182) (Kb.map (aCc uS)) := by
  refine ⟨Or.inl rfl, Or.inl rfl, Or.inr ⟨_, _, _, _, _, rfl, rfl, fun j hj => ?_⟩, Or.inl rfl, Or.inl rfl, Or.inl rfl, Or.inl rfl, trivial⟩
  match j, hj with
  | 0, _ => rfl
  | 1, _ => rfl
  | 2, _ => rfl
theorem wk_at {b c : Nat} (h8 : 8 ≤ b) (h : ∀ i, i < 21 → uS (b + 12 + i) = c + i) (w : aW) : ((aWk b w).map (aCc (uW 20))).map (aCc uS) = aWk c w := by
  have e : ∀ i, i < 21 → uS (uW 20 (b + i)) = c + i := fun i hi => by
    rw [uW20 (by omega), show b + i + 12 = b + 12 + i by omega, h i hi]
  simp only [aWk, aOj, aAi, List.map, aCc, aCv, aCa, e 1 (by omega), e 2 (by omega), e 3 (by omega), e 4 (by omega), e 5 (by omega), e 6 (by omega), e 7 (by omega), e 8 (by omega), e 9 (by omega), e 10 (by omega), e 11 (by omega), e 12 (by omega), e 13 (by omega), e 14 (by omega), e 15 (by omega), e 16 (by omega), e 17 (by omega), e 18 (by omega), e 19 (by omega), e 20 (by omega)]
theorem us4 {b : Nat} (hb : 14 ≤ b) (h : b + 21 ≤ 84) : ∀ i, i < 21 → uS (b + 12 + i) = b + 168 + i := fun i hi => by
  rw [show b + 12 + i = 26 + (b - 14 + i) by omega, uS_4 (by omega)]
  omega
theorem us5 {b : Nat} (hb : 84 ≤ b) (h : b + 21 ≤ 252) : ∀ i, i < 21 → uS (b + 12 + i) = b - 70 + i := fun i hi => by
  rw [show b + 12 + i = 96 + (b - 84 + i) by omega, uS_5 (by omega)]
  omega
theorem eqc : Kc.map (aCc uS) = aWk 189 w0 ++ (aWk 210 w0 ++ aWk 231 w0) := by
  unfold Kc
  rw [List.map_append, List.map_append, List.map_append, List.map_append, wk_at (c := 189) (by omega) (us4 (by omega) (by omega)), wk_at (c := 210) (by omega) (us4 (by omega) (by omega)), wk_at (c := 231) (by omega) (us4 (by omega) (by omega))]
theorem eqr : (RgL W0).map (aCc uS) = bk 8 := by
  unfold RgL Rg W0
  simp only [List.flatten_cons, List.flatten_nil, List.map_append, List.map_nil, List.append_nil]
  rw [wk_at (c := 14) (by omega) (us5 (by omega) (by omega)), wk_at (c := 35) (by omega) (us5 (by omega) (by omega)), wk_at (c := 56) (by omega) (us5 (by omega) (by omega)), wk_at (c := 77) (by omega) (us5 (by omega) (by omega)), wk_at (c := 98) (by omega) (us5 (by omega) (by omega)), wk_at (c := 119) (by omega) (us5 (by omega) (by omega)), wk_at (c := 140) (by omega) (us5 (by omega) (by omega)), wk_at (c := 161) (by omega) (us5 (by omega) (by omega))]
  show _ = ((((((([] ++ aWk 14 w0) ++ aWk 35 w0) ++ aWk 56 w0) ++ aWk 77 w0) ++ aWk 98 w0) ++ aWk 119 w0) ++ aWk 140 w0) ++ aWk 161 w0
  simp only [List.append_assoc, List.nil_append]
/-- from the first round on: over cells that are as those that are made, where it counts -/
theorem law_abs (hsn : sn ≤ 3584) : ∃ h, eqHs (aS0 sn sf ++ (T7 ++ (t8 252 ++ O0))) h ∧ aFn FL (768, 15169) (28, [some (.ref 5), some (.ref 8), some (.ref 252), some (.ref 262), some (.ref 263), some (.int 0), none, none, none], [], h, (256, 12097)) := by
  have L := law_loop (sf := sf) hsn 512 0 0 k0 W0 m0 lo0 dd0 none none none (256, 12097) rfl (by omega) (by omega) GI0
  have eh : aLh sn sf lo0 dd0 m0 (KL k0 W0) = aS0 sn sf ++ (aO lo0 dd0 ++ (aMl m0 ++ (Ka ++ ((Kb ++ Kc) ++ RgL W0)))) := by rw [KL_seg]; rfl
  rw [eh] at L
  have I := iso_seg (S := aS0 sn sf) (O := aO lo0 dd0) (M := aMl m0) (K1 := Ka) (K2 := Kb ++ Kc) (K3 := RgL W0) rfl rfl rfl rfl rfl rfl (aS0_c _)
  have r := fn_ren (u := uS) law_st8 I L
  refine ⟨_, ?_, r⟩
  rw [eqr, List.map_append, eqc]
  have eT : T7 ++ (t8 252 ++ O0) = kh [.ref 9, .ref 12, .ref 182, .ref 189, .ref 210, .ref 231, .int 0, .int (-1)] 8 ++ (bk 8 ++ ((t4 182 ++ (aWk 189 w0 ++ (aWk 210 w0 ++ aWk 231 w0))) ++ (t8 252 ++ O0))) := by
    unfold T7
    simp only [List.append_assoc]
  rw [eT]
  exact eqHs.app (eqHs.rf _) (eqHs.app eqa (eqHs.app (eqHs.rf _) (eqHs.app (eqHs.app eqb (eqHs.rf _)) (eqHs.rf _))))
end SU
