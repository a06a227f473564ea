/-! SOUNDNESS: fields, arrays, new things -/
theorem aCl_nf : ∀ ci : Nat, ci < 8 → ∃ r : vw_C, aCl[ci]? = some r ∧ r.2.2 = aNf ci := by
  intro ci h
  match ci, h with
  | 0, _ => exact ⟨_, rfl, rfl⟩
  | 1, _ => exact ⟨_, rfl, rfl⟩
  | 2, _ => exact ⟨_, rfl, rfl⟩
  | 3, _ => exact ⟨_, rfl, rfl⟩
  | 4, _ => exact ⟨_, rfl, rfl⟩
  | 5, _ => exact ⟨_, rfl, rfl⟩
  | 6, _ => exact ⟨_, rfl, rfl⟩
  | 7, _ => exact ⟨_, rfl, rfl⟩
/-- each class: its fields' types, its fields' names apart -/
theorem aCl_ok (ci : Nat) (r : vw_C) (h : aCl[ci]? = some r) : (∀ k, k < r.2.2 → parseFieldDescriptor (r.2.1 k).2.2.1 = some (aTy ci k)) ∧ (∀ a, a < r.2.2 → ∀ b, b < r.2.2 → a ≠ b → (r.2.1 a).2.1 ≠ (r.2.1 b).2.1) ∧ r.2.2 = aNf ci ∧ ci < 8 := by
  match ci, h with
  | 0, h => cases h; exact ⟨tyX0_ok, nmX0, rfl, by decide⟩
  | 1, h => cases h; exact ⟨tyX1_ok, nmX1, rfl, by decide⟩
  | 2, h => cases h; exact ⟨tyX2_ok, nmX2, rfl, by decide⟩
  | 3, h => cases h; exact ⟨tyX3_ok, nmX3, rfl, by decide⟩
  | 4, h => cases h; exact ⟨tyX4_ok, nmX4, rfl, by decide⟩
  | 5, h => cases h; exact ⟨tyX5_ok, nmX5, rfl, by decide⟩
  | 6, h => cases h; exact ⟨tyX6_ok, nmX6, rfl, by decide⟩
  | 7, h => cases h; exact ⟨tyX7_ok, nmX7, rfl, by decide⟩
  | n + 8, h => simp at h
/-- all words of the classes' fields are among the tables' -/
def aLays : List Cond := u_ws RX0 TX0 3 ++ (u_ws RX1 TX1 5 ++ (u_ws RX2 TX2 3 ++ (u_ws RX3 TX3 3 ++ (u_ws RX4 TX4 6 ++ (u_ws RX5 TX5 8 ++ (u_ws RX6 TX6 8 ++ u_ws RX7 TX7 8))))))
set_option maxRecDepth 100000 in
theorem aLays_in : ∀ w ∈ aLays, w ∈ aWg := by decide +kernel
theorem aCl_in (ci : Nat) (r : vw_C) (h : aCl[ci]? = some r) : ∀ w ∈ u_ws r.1 r.2.1 r.2.2, w ∈ aWg := by
  intro w hw
  refine aLays_in w ?_
  unfold aLays
  match ci, h with
  | 0, h => cases h; simp only [List.mem_append]; exact Or.inl hw
  | 1, h => cases h; simp only [List.mem_append]; exact Or.inr (Or.inl hw)
  | 2, h => cases h; simp only [List.mem_append]; exact Or.inr (Or.inr (Or.inl hw))
  | 3, h => cases h; simp only [List.mem_append]; exact Or.inr (Or.inr (Or.inr (Or.inl hw)))
  | 4, h => cases h; simp only [List.mem_append]; exact Or.inr (Or.inr (Or.inr (Or.inr (Or.inl hw))))
  | 5, h => cases h; simp only [List.mem_append]; exact Or.inr (Or.inr (Or.inr (Or.inr (Or.inr (Or.inl hw)))))
  | 6, h => cases h; simp only [List.mem_append]; exact Or.inr (Or.inr (Or.inr (Or.inr (Or.inr (Or.inr (Or.inl hw))))))
  | 7, h => cases h; simp only [List.mem_append]; exact Or.inr (Or.inr (Or.inr (Or.inr (Or.inr (Or.inr (Or.inr hw))))))
  | n + 8, h => simp at h
theorem aFit_ok {sg : Nat → Nat} {ty : FieldType} {x : Value} (h : aFit ty x = true) : narrow ty (aCv sg x) = aCv sg x ∧ fits ty (aCv sg x) = true := by
  cases x with
  | int z =>
    cases ty with
    | int => exact ⟨vp_nar_int z, rfl⟩
    | boolean =>
      have h1 : (z == 0 || z == 1) = true := h
      rw [Bool.or_eq_true] at h1
      rcases h1 with h1 | h1
      · rw [eq_of_beq h1]; show narrow .boolean (.int 0) = .int 0 ∧ fits .boolean (.int 0) = true; decide
      · rw [eq_of_beq h1]; show narrow .boolean (.int 1) = .int 1 ∧ fits .boolean (.int 1) = true; decide
    | char =>
      have e : (z.toUInt32 % 65536).toInt32 = z := eq_of_beq h
      have h1 := pk_nc z
      have h2 := pk_fc z
      rw [e] at h1 h2
      exact ⟨h1, h2⟩
    | _ => exact Bool.noConfusion h
  | float z => cases ty <;> first | exact Bool.noConfusion h | exact ⟨rfl, rfl⟩
  | double z => cases ty <;> first | exact Bool.noConfusion h | exact ⟨rfl, rfl⟩
  | ref z => cases ty <;> first | exact Bool.noConfusion h | exact ⟨rfl, rfl⟩
  | long z => cases ty <;> exact Bool.noConfusion h
  | null => cases ty <;> exact Bool.noConfusion h
  | retAddr z => cases ty <;> exact Bool.noConfusion h
theorem aIx_in {i : Int32} {n j : Nat} (h : aIx i n = some j) : vp_in i n ∧ i.toNatClampNeg = j := by
  unfold aIx at h
  split at h
  · cases h
  · rename_i hn
    cases h
    exact ⟨hn, rfl⟩
section SNH
variable {p : Program} {l : Launch} {e : Env} {R : Room} {s : State} {m : MethodId} {args : Array Value} {below : List Frame} {meth : Method} {c : Code} {Q : State → Prop} {D : va_G} {ka : FieldType → ClassId} {sg : Nat → Nat} {A : Nat → Prop} {nL : Nat} {own : String} {cc : ByteArray} {al : Bool}
variable {pc : Nat} {ls : List (Option Value)} {st r : List Value} {h : aH} {k : aK} {x y : Int32}
theorem s_getfield (C : aCx p l s m args c D ka sg A nL own cc) {idx q ci b : Nat} {fs : List Value} {v : Value} {rc : vw_C} (hq : h[q]? = some (true, .inr (ci, fs))) (hc : aCl[ci]? = some rc) (hb : b < rc.2.2) (hl : Cond.fieldLink own idx (rc.2.1 b).1 (rc.2.1 b).2.1 (rc.2.1 b).2.2.1 ∈ aWg) (hv : fs[b]? = some v) (hd : decode cc pc = .ok (.getfield idx, 3)) (K : aSim p l e R s m args below meth c Q D ka sg A nL al (pc + 3, ls, v :: r, h, k)) : aSim p l e R s m args below meth c Q D ka sg A nL al (pc, ls, .ref q :: r, h, k) := by
  intro H locs L h1 h2 h3 h4
  obtain ⟨hx, hbc, -, hown, hts, hK, -, -⟩ := C
  obtain ⟨-, r', hr', cell, q1, q2, q3, q4⟩ := h1.1 q _ hq
  cases Option.some.inj (hr'.symm.trans hc)
  obtain ⟨hS, hfc, kC, hkC, hkind⟩ := hK.1.1 ci _ hc
  obtain ⟨cf, kf, fi, f, hi, hsl⟩ := hS b hb
  refine W.getf hx hbc hown (hts _ hl) hi (u_facts hfc hkC (u_lays hts (aCl_in ci _ hc) hb) hi).1 q1 (by rw [q3]; exact fun h => by cases h) (v := aCv sg v) ?_ rfl rfl hd (K H locs L h1 h2 h3 h4)
  rw [hsl, q4 b hb]
  simp [vp_V, hv]
theorem a_apart {ci : Nat} {rc : vw_C} (hts : ∀ w ∈ aWg, w.before args s = true) (hK : aKn D ka sg A s) (hc : aCl[ci]? = some rc) : ∀ x y, x < rc.2.2 → y < rc.2.2 → x ≠ y → (D.2 ci) x ≠ (D.2 ci) y := by
  intro x y hx hy hne
  obtain ⟨hS, -⟩ := hK.1.1 ci _ hc
  obtain ⟨hty, hnm, -, -⟩ := aCl_ok ci rc hc
  obtain ⟨_, _, _, fa, hia, ea⟩ := hS x hx
  obtain ⟨_, _, _, fb, hib, eb⟩ := hS y hy
  rw [← ea, ← eb]
  refine u_apart (u_lays hts (aCl_in ci _ hc) hx) (u_lays hts (aCl_in ci _ hc) hy) hia hib ?_
  rw [(State.fieldFound?_type hia (hty x hx)).1, (State.fieldFound?_type hib (hty y hy)).1]
  exact hnm x hx y hy hne
theorem s_putfield (C : aCx p l s m args c D ka sg A nL own cc) {idx q ci b : Nat} {fs : List Value} {v : Value} {rc : vw_C} (hq : h[q]? = some (true, .inr (ci, fs))) (hc : aCl[ci]? = some rc) (hb : b < rc.2.2) (hl : Cond.fieldLink own idx (rc.2.1 b).1 (rc.2.1 b).2.1 (rc.2.1 b).2.2.1 ∈ aWg) (hfin : (rc.2.1 b).2.2.2 = false ∨ (meth.name = "<init>" ∧ (rc.2.1 b).1 = own)) (hv : aFit (aTy ci b) v = true) (hfs : b < fs.length) (hd : decode cc pc = .ok (.putfield idx, 3)) (K : aSim p l e R s m args below meth c Q D ka sg A nL al (pc + 3, ls, r, h.set q (true, .inr (ci, fs.set b v)), k)) : aSim p l e R s m args below meth c Q D ka sg A nL al (pc, ls, v :: .ref q :: r, h, k) := by
  intro H locs L h1 h2 h3 h4
  have hap := a_apart (args := args) C.2.2.2.2.1 C.2.2.2.2.2.1 hc
  obtain ⟨hx, hbc, -, hown, hts, hK, -, -⟩ := C
  obtain ⟨hAq, r', hr', cell, q1, q2, q3, q4⟩ := h1.1 q _ hq
  cases Option.some.inj (hr'.symm.trans hc)
  obtain ⟨hS, hfc, kC, hkC, hkind⟩ := hK.1.1 ci _ hc
  obtain ⟨cf, kf, fi, f, hi, hsl⟩ := hS b hb
  obtain ⟨hty, -, -, -⟩ := aCl_ok ci _ hc
  obtain ⟨hn, hfit⟩ := aFit_ok (sg := sg) hv
  have hlay := hts _ (aCl_in ci _ hc _ (u_in_lay hb))
  have hst := (u_facts hfc hkC (u_lays hts (aCl_in ci _ hc) hb) hi).1
  have hnew : ∀ H' : Heap, H'[sg q]? = some (cell.setSlot f.slot (aCv sg v)) → H'.size = H.size → (∀ a : Nat, a ≠ sg q → H'[a]? = H[a]?) → W p l e R s m args below meth c H' (locs ++ [⟨sg q, f.slot⟩]) k.1 k.2 Q (F0 m (pc + 3) L (r.map (aCv sg))) := by
    intro H' e1 e2 e3
    refine K H' _ L (h1.set hq hAq ⟨hAq, _, hc, ?_⟩ e3) (h2.put e2 e3 hAq) h3 (fun ha j => ?_)
    · rw [hsl] at e1
      refine t_OB.to (V := updV (vp_V (fs.map (aCv sg))) b (aCv sg v)) ⟨_, e1, q2, q3, t_set q4 hap hb _⟩ (fun j _ => ?_)
      rw [vp_updV_set (by rw [List.length_map]; exact hfs), List.map_set]
    · rw [List.length_set, e2]
      exact h4 ha j
  rcases Bool.eq_false_or_eq_true (rc.2.1 b).2.2.2 with hf | hf
  · obtain ⟨hin, hdecl⟩ := hfin.resolve_left (fun q => by rw [hf] at q; cases q)
    unfold u_lay at hlay
    rw [if_pos hf] at hlay
    have hcf : m.cls = cf := by
      obtain ⟨_, _, c', _, _, _, -, -, hf', -, -, -, hown2, -⟩ := Cond.laysFinal_spec hlay
      have e1 : c' = cf := by have := hi.symm.trans hf'; simp at this; exact this.1.symm
      rw [hdecl] at hown2
      rw [← e1]; exact Option.some.inj (hown.symm.trans hown2)
    have h6 := u_fits hfc hkC hkind (Or.inr hlay) hi (hty b hb) hn hfit
    exact W.putFinK hx hbc hown (hts _ hl) hi hst hcf hin (by rw [q2]; exact h6) q1 q3 (by rw [hsl]; exact k2_hasslot (q4 b hb)) rfl rfl hd hnew
  · unfold u_lay at hlay
    rw [if_neg (by rw [hf]; decide)] at hlay
    have h6 := u_store hfc hkC hkind hlay hi (hty b hb) hn hfit
    exact W.putK hx hbc (f := f) ⟨hown, hts _ hl, ⟨_, _, _, hi⟩, hst⟩ (by rw [q2]; exact h6) q1 q3 (by rw [hsl]; exact k2_hasslot (q4 b hb)) rfl rfl hd hnew
end SNH
