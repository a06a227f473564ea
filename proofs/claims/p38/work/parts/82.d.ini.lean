/-! String.<init>, StringBuilder.toString: walked -/
theorem bA_4 {sb v q z : Nat} : ∀ x, bA sb v x → bA4 sb v q z x := fun _ h => h.elim Or.inl (fun h => Or.inr (Or.inl h))
section SIN
variable {l : Launch} {n sb v q z : Nat} {D : va_G} {cA : ClassId} {f : Nat → Int32}
theorem s_initA (hv : sb ≠ v) (hqs : q ≠ sb) (hqv : q ≠ v) (hn : n ≤ 15) (hfit : ∀ i, i < n → fits .byte (.int (f i)) = true) : sCon l syA prog_27_method_150_code 5 3 [.ref q, .ref sb, .null] D cA sb v n f q z := by
  refine s_of (by decide) (fun p e s m below meth c hx hb hml hown hts hlk hret hnm hP hO hz hK hKs hf => ?_)
  have hS : va_S (bA4 sb v q z) s.heap s.heap [] := va_S.rf
  have hL := lv_entry [.ref q, .ref sb, .null] (n := 5) (Nat.le_of_ble_eq_true rfl)
  generalize ((lg_sl [.ref q, .ref sb, .null] ++ List.replicate (5 - (lg_sl [.ref q, .ref sb, .null]).length) Slot.unset).toArray) = L at hL ⊢
  have hL : lv_has L 5 [(0, .ref q), (1, .ref sb), (2, .null)] := hL
  have hqk : ∀ {H H1 : Heap} {u : Value}, va_P D sCl [sO q u] H → (∀ x : Nat, x < H.size → ¬ bA sb v x → H1[x]? = H[x]?) → va_P D sCl [sO q u] H1 := fun {H H1 u} h hk => h.kept (fun k x hx => by
    match k, hx with
    | 0, hx =>
      cases hx
      exact hk q (h 0 _ rfl).lt (fun g => g.elim hqs hqv)
    | k + 1, hx => cases hx)
  refine lv_aload_n hx hb (k := 0) (i := 0) (x := q) (by decide +kernel) rfl (lv_at hL 0 rfl) ?_
  refine b_objI (own := RST) (idx := 1) hx hb hown (hts _ sl_1) (hts _ bl_O3.2.1) (hts _ bl_O3.2.2.1) (by rw [hml]; exact hL.1) (by decide +kernel) (Nat.le_of_ble_eq_true rfl) (Nat.le_of_ble_eq_true rfl) ?_
  refine lv_aload_n hx hb (k := 1) (i := 1) (x := sb) (by decide +kernel) rfl (lv_at hL 1 rfl) ?_
  refine b_callU (vs := []) (rest := []) (own := RST) (A0 := bA4 sb v q z) (H0 := s.heap) hx hb hml hown hts hP (hK.narrow bA_4) hS bA_4 b_val bU_Val ⟨Nat.le_of_ble_eq_true rfl, Nat.le_of_ble_eq_true rfl⟩ rfl hL.1 (by decide) ⟨Nat.zero_le _, Nat.zero_le _⟩ (by decide +kernel) (fun H1 locs1 hP1 hq1 hS1 => ?_)
  have hO1 := hqk hO hq1.2
  refine lv_astore_n hx hb (k := 3) (i := 3) (nL := 5) (by decide +kernel) rfl hL (by decide) rfl (fun L1 hL1 => ?_)
  have hL1 : lv_has L1 5 [(3, .ref v), (0, .ref q), (1, .ref sb), (2, .null)] := hL1
  refine lv_aload_n hx hb (k := 1) (i := 1) (x := sb) (by decide +kernel) rfl (lv_at hL1 2 rfl) ?_
  refine b_callO (vs := []) (rest := []) (own := RST) (A0 := bA4 sb v q z) (H0 := s.heap) hx hb hml hown hts hP1 ((hK.kept hS1.2.1).narrow bA_4) hS1 bA_4 b_len bO_Len ⟨Nat.le_of_ble_eq_true rfl, Nat.le_of_ble_eq_true rfl⟩ rfl hL1.1 (by decide) ⟨Nat.zero_le _, Nat.zero_le _⟩ (by decide +kernel) (fun H2 locs2 hP2 hq2 hS2 => ?_)
  have hO2 := hqk hO1 hq2.2
  refine lv_istore hx hb (i := 4) (nL := 5) (by decide +kernel) hL1 (by decide) rfl (fun L2 hL2 => ?_)
  have hL2 : lv_has L2 5 [(4, .int (Int32.ofNat n)), (3, .ref v), (0, .ref q), (1, .ref sb), (2, .null)] := hL2
  refine lv_aload_n hx hb (k := 1) (i := 1) (x := sb) (by decide +kernel) rfl (lv_at hL2 3 rfl) ?_
  refine b_callU (vs := []) (rest := []) (own := RST) (A0 := bA4 sb v q z) (H0 := s.heap) hx hb hml hown hts hP2 ((hK.kept hS2.2.1).narrow bA_4) hS2 bA_4 b_isL bU_IsS ⟨Nat.le_of_ble_eq_true rfl, Nat.le_of_ble_eq_true rfl⟩ rfl hL2.1 (by decide) ⟨Nat.zero_le _, Nat.zero_le _⟩ (by decide +kernel) (fun H3 locs3 hP3 hq3 hS3 => ?_)
  have hO3 := hqk hO2 hq3.2
  refine lv_if_eq hx hb (x := 1) (off := 22) (tgt := 41) (by decide +kernel) (by decide) (fun h => absurd h (by decide)) (fun _ => ?_)
  refine lv_aload_n hx hb (k := 0) (i := 0) (x := q) (by decide +kernel) rfl (lv_at hL2 2 rfl) ?_
  refine lv_iconst hx hb (n := 0) (v := 0) (by decide +kernel) rfl ?_
  have hD3 : va_D (bA4 sb v q z) (bWs cA sb v n f ++ [sO q .null]) := D_of (by
    show [sb, v, q].Nodup
    simp only [List.nodup_cons, List.mem_cons, List.not_mem_nil, or_false, List.nodup_nil, and_true, not_false_eq_true]
    omega) (fun x hx => by
    have hx : x ∈ [(sb, _), (v, _), sO q .null] := hx
    simp only [List.mem_cons, List.not_mem_nil, or_false] at hx
    rcases hx with rfl | rfl | rfl
    · exact Or.inl rfl
    · exact Or.inr (Or.inl rfl)
    · exact Or.inr (Or.inr (Or.inl rfl)))
  refine va_putF (v := .int 0) (ty := .byte) hx hb hts sLay tyST tST_ok nST hown hKs ((s_up hP3).app hO3) hD3 hS3 2 rfl rfl 1 (by decide) (hts _ sl_9.2) (fun _ z => z) rfl hnm rfl rfl rfl rfl (by decide) (by decide +kernel) (fun H4 locs4 hP4 _ hS4 => ?_)
  have hP4 : va_P D sCl (bWs cA sb v n f ++ [sO q .null]) H4 := hP4
  have hO4 : va_P D sCl [sO q .null] H4 := hP4.sub [2] rfl
  have hz4 : z ≤ H4.size := by rw [← hz]; exact hS4.1
  have hq4 : q < H4.size := (hO4 0 _ rfl).lt
  have hs4 : sb < H4.size := (hP4 0 _ rfl).lt
  have hv4 : v < H4.size := (hP4 1 _ rfl).lt
  have h34 : ∀ x, bA3 sb v H4.size x → bA4 sb v q z x := fun x g => by
    rcases g with g | g | g
    · exact Or.inl g
    · exact Or.inr (Or.inl g)
    · exact Or.inr (Or.inr (Or.inr (Nat.le_trans hz4 g)))
  refine lv_aload_n hx hb (k := 0) (i := 0) (x := q) (by decide +kernel) rfl (lv_at hL2 2 rfl) ?_
  refine lv_aload_n hx hb (k := 3) (i := 3) (x := v) (by decide +kernel) rfl (lv_at hL2 1 rfl) ?_
  refine lv_iconst hx hb (n := 0) (v := 0) (by decide +kernel) rfl ?_
  refine lv_iload hx hb (i := 4) (x := Int32.ofNat n) (by decide +kernel) (lv_at hL2 0 rfl) ?_
  refine q_callS (vs := [.ref v, .int 0, .int (Int32.ofNat n)]) (rest := [.ref q]) (own := RST) (A0 := bA4 sb v q z) (H0 := s.heap) (k3 := 1) (k4 := n) (z := H4.size) hx hb hml hown hts (s_lo hP4) rfl ((hK.kept hS4.2.1).narrow h34) hf hS4 h34 (q_rng hv hn hfit) kmRng kl_54.1 kl_54.2 ⟨Nat.le_of_ble_eq_true rfl, Nat.le_of_ble_eq_true rfl⟩ rfl hL2.1 (Nat.le_of_ble_eq_true rfl) ⟨by show 0 + 1 ≤ 1; decide, by show 0 + n ≤ n; omega⟩ rfl (Nat.zero_add n) (by decide +kernel) (fun H5 locs5 w hw hP5 hq5 hS5 => ?_)
  have hO5 : va_P D sCl [sO q .null] H5 := hO4.kept (fun k x hx => by
    match k, hx with
    | 0, hx =>
      cases hx
      refine hq5.2 q hq4 (fun g => ?_)
      rcases g with g | g | g
      · exact hqs g
      · exact hqv g
      · omega
    | k + 1, hx => cases hx)
  have hB5 : va_P D sCl [sB cA w n f] H5 := fun k x hx => by
    match k, hx with
    | 0, hx =>
      cases hx
      exact hP5 2 _ rfl
    | k + 1, hx => cases hx
  have hD5 : va_D (bA4 sb v q z) ([sO q .null] ++ [sB cA w n f]) := D_of (by
    show [q, w].Nodup
    simp only [List.nodup_cons, List.mem_cons, List.not_mem_nil, or_false, List.nodup_nil, and_true, not_false_eq_true]
    omega) (fun x hx => by
    have hx : x ∈ [sO q .null, sB cA w n f] := hx
    simp only [List.mem_cons, List.not_mem_nil, or_false] at hx
    rcases hx with rfl | rfl
    · exact Or.inr (Or.inr (Or.inl rfl))
    · exact Or.inr (Or.inr (Or.inr (Nat.le_trans hz4 hw))))
  refine va_putF (v := .ref w) (ty := .array .byte) hx hb hts sLay tyST tST_ok nST hown hKs (hO5.app hB5) hD5 hS5 0 rfl rfl 0 (by decide) (hts _ sl_9.1) (fun _ z => z) rfl hnm rfl rfl rfl rfl (by decide) (by decide +kernel) (fun H6 locs6 hP6 _ hS6 => ?_)
  have hP6 : va_P D sCl [sO q (.ref w), sB cA w n f] H6 := hP6
  refine lv_goto hx hb (off := 59) (tgt := 97) (by decide +kernel) (by decide) ?_
  exact s_vret hx hb hret hlk (Nat.le_trans hz4 hw) hP6 hS6 (by decide +kernel)
theorem s_initB (hv : sb ≠ v) (hqs : q ≠ sb) (hqv : q ≠ v) (hn : n ≤ 15) (hfit : ∀ i, i < n → fits .byte (.int (f i)) = true) : sCon l syB prog_27_method_53_code 2 4 [.ref q, .ref sb] D cA sb v n f q z := by
  refine s_of (by decide) (fun p e s m below meth c hx hb hml hown hts hlk hret hnm hP hO hz hK hKs hf => ?_)
  have hS : va_S (bA4 sb v q z) s.heap s.heap [] := va_S.rf
  refine lv_aload_n hx hb (k := 0) (i := 0) (x := q) (by decide +kernel) rfl rfl ?_
  refine lv_aload_n hx hb (k := 1) (i := 1) (x := sb) (by decide +kernel) rfl rfl ?_
  refine lv_null hx hb (by decide +kernel) ?_
  refine s_call (np := 2) (vs := [.ref sb, .null]) (rest := []) (own := RST) (A0 := bA4 sb v q z) (H0 := s.heap) (k3 := 1) (k4 := n) hx hb hml hown hts hP hO hz hK hKs hf hS (fun _ z => z) (s_initA hv hqs hqv hn hfit) smA ⟨by decide, by decide, by decide, by decide +kernel⟩ ⟨Nat.le_of_ble_eq_true rfl, Nat.le_of_ble_eq_true rfl⟩ rfl rfl (by decide) ⟨by show 0 + 1 ≤ 1; decide, by show 0 + n ≤ n; omega⟩ rfl (Nat.zero_add n) (by decide +kernel) (fun H1 locs1 w hw hO1 hq1 hS1 => ?_)
  exact s_vret hx hb hret hlk hw hO1 hS1 (by decide +kernel)
end SIN
/-! toString -/
def tPc (D : va_G) (cA : ClassId) (sb v n : Nat) (f : Nat → Int32) (z : Nat) : Array Value → State → Prop := fun av U => av = [Value.ref sb].toArray ∧ va_P D bCl (bWs cA sb v n f) U.heap ∧ U.heap.size = z ∧ bKn D cA (bA3 sb v z) none U U.heap ∧ va_K D sCl [(cA, .byte)] U ∧ U.vm.findClass "[B" = some cA
def tQc (D : va_G) (cA : ClassId) (sb v n : Nat) (f : Nat → Int32) (z : Nat) : Array Value → State → Outcome → State → Prop := fun _ st o t => (∃ q w, z ≤ q ∧ z ≤ w ∧ o = .returned (some (.ref q)) ∧ va_P D sCl [sO q (.ref w), sB cA w n f] t.heap) ∧ va_F (bA3 sb v z) st t
def tRm (n : Nat) : Room := { frames := 6, cells := 2, slots := 4 + n, locals := 190 }
def tCon (l : Launch) (D : va_G) (cA : ClassId) (sb v n : Nat) (f : Nat → Int32) (z : Nat) : Prop :=
  Met l syTo (Cond.code syTo prog_28_method_42_code 1 (some (.object RST)) :: bWg) (tRm n) (tPc D cA sb v n f z) (tQc D cA sb v n f z) 2 (4 + n) (bA3 sb v z)
theorem tPc.blind {D : va_G} {cA : ClassId} {sb v n z : Nat} {f : Nat → Int32} : FrameBlind (tPc D cA sb v n f z) := by
  intro x U g mk h
  exact ⟨h.1, h.2.1, h.2.2.1, bKn.moved (U := U.calling g mk x) (Vm.Alike.refl U.vm) h.2.2.2.1, va_K.moved (U := U.calling g mk x) (Vm.Alike.refl U.vm) h.2.2.2.2.1, h.2.2.2.2.2⟩
section STO
variable {p : Program} {l : Launch} {e : Env} {R : Room} {s : State} {m : MethodId} {args : Array Value} {below : List Frame} {meth : Method} {c : Code} {H : Heap} {locs : List Loc} {Q : State → Prop} {A0 : Nat → Prop} {H0 : Heap} {own : String} {cc : ByteArray}
variable {pc k1 k2 k3 k4 idx nL n sb v q z w : Nat} {L : Array Slot} {rest st0 : List Value} {b : ByteArray} {D : va_G} {cA : ClassId} {f : Nat → Int32}
theorem t_aret {st : Array Value} (hx : p.tables.exec = Jvm.exec) (hb : c.code = b) (hr : meth.sig.returnType = some (.object RST)) (hlocks : meth.locks = false) (hzq : z ≤ q) (hzw : z ≤ w) (hO : va_P D sCl [sO q (.ref w), sB cA w n f] H) (hS : va_S (bA3 sb v z) s.heap H locs) (hdg : decode b pc = .ok (.areturn, 1)) : W p l e R s m st below meth c H locs 2 (4 + n) (vx_MQ below (tQc D cA sb v n f z) (fun _ _ _ => False) st s 2 (4 + n) (bA3 sb v z)) (F0 m pc L [.ref q]) :=
  vx_ret (W.aret hx hb hr (Or.inl ⟨_, rfl⟩) (Or.inr ⟨q, rfl⟩) (fun t ht _ => ⟨⟨q, w, hzq, hzw, rfl, by rw [ht]; exact hO⟩, hS.F ht⟩) hS.2.2 hdg hlocks)
theorem t_to (hv : sb ≠ v) (hn : n ≤ 15) (hfit : ∀ i, i < n → fits .byte (.int (f i)) = true) : tCon l D cA sb v n f z := by
  refine vx_toMet (XC := fun _ _ _ => False) (vx_ofW (ws' := bWg) (by decide) rfl (fun p e s m args below meth c s₁ B hml ht hP => ?_)) (fun _ _ _ h => h)
  obtain ⟨rfl, hP, hz, hK, hKs, hf⟩ := hP
  have hts0 := atoms_spec (ws := Cond.code syTo prog_28_method_42_code 1 (some (.object RST)) :: bWg) B.pre
  have hts : ∀ w ∈ bWg, w.before [Value.ref sb].toArray s = true := fun w hw => hts0 w (List.mem_cons_of_mem _ hw)
  have hx := B.exec
  have hb := B.bytes
  have hown : s.vm.findClass RSB = some m.cls := findClass_of_methodNamed B.named
  rw [lg_entry_eq]
  show W p l e (tRm n) s m [Value.ref sb].toArray below meth c s.heap [] 0 0 (vx_MQ below (tQc D cA sb v n f z) (fun _ _ _ => False) [Value.ref sb].toArray s 2 (4 + n) (bA3 sb v z)) (F0 m 0 ((lg_sl [Value.ref sb] ++ List.replicate (1 - (lg_sl [Value.ref sb]).length) Slot.unset).toArray) [])
  have hKn := hKs.1 1 _ rfl
  refine W.newcK hx hb hown (hts _ sl_n.1) (hts _ sl_n.2.1) (hts _ sl_n.2.2) rfl (by show decode prog_28_method_42_code 0 = .ok (.new 18, 3); decide +kernel) (by show 0 + 1 ≤ 2; decide) (by show 0 + 4 ≤ 4 + n; omega) hKn.2.1 hz fun H1 kC hkC e1 z1 o1 => ?_
  show W p l e (tRm n) s m [Value.ref sb].toArray below meth c H1 [] (0 + 1) (0 + 4) (vx_MQ below (tQc D cA sb v n f z) (fun _ _ _ => False) [Value.ref sb].toArray s 2 (4 + n) (bA3 sb v z)) (F0 m 3 ((lg_sl [Value.ref sb] ++ List.replicate (1 - (lg_sl [Value.ref sb]).length) Slot.unset).toArray) [.ref z])
  have hsb : sb < z := by rw [← hz]; exact (hP 0 _ rfl).lt
  have hvb : v < z := by rw [← hz]; exact (hP 1 _ rfl).lt
  have hP1 : va_P D bCl (bWs cA sb v n f) H1 := hP.kept (fun k x hx => by
    match k, hx with
    | 0, hx => cases hx; exact o1 sb hsb
    | 1, hx => cases hx; exact o1 v hvb
    | k + 2, hx => cases hx)
  have hO1 : va_P D sCl [sO z .null] H1 := fun k x hx => by
    match k, hx with
    | 0, hx =>
      cases hx
      refine ⟨_, rfl, (u_born tyST hts sLay hKn hkC e1 tST_ok).to (fun j hj => ?_)⟩
      match j, hj with
      | 0, _ => rfl
      | 1, _ => rfl
      | 2, _ => rfl
      | 3, _ => rfl
      | j + 4, hj => exact absurd hj (by show ¬ j + 4 < 4; omega)
    | k + 1, hx => cases hx
  have hS1 : va_S (bA3 sb v z) s.heap H1 [] := ⟨by omega, fun q g1 _ => o1 q (by omega), fun _ h => nomatch h⟩
  have h43 : ∀ x, bA4 sb v z (z + 1) x → bA3 sb v z x := fun x g => by
    rcases g with g | g | g | g
    · exact Or.inl g
    · exact Or.inr (Or.inl g)
    · exact Or.inr (Or.inr (by omega))
    · exact Or.inr (Or.inr (by omega))
  refine lv_dup hx hb (by decide +kernel) rfl ?_
  refine lv_aload_n hx hb (k := 0) (i := 0) (x := sb) (by decide +kernel) rfl rfl ?_
  refine s_call (np := 1) (vs := [.ref sb]) (rest := [.ref z]) (own := RSB) (A0 := bA3 sb v z) (H0 := s.heap) (k3 := 2) (k4 := 4 + n) (q := z) (z := z + 1) hx hb (hml.trans rfl) hown hts hP1 hO1 z1 ((hK.kept hS1.2.1).narrow h43) hKs hf hS1 h43 (s_initB hv (by omega) (by omega) hn hfit) smB ⟨by decide, by decide, by decide, by decide +kernel⟩ ⟨Nat.le_of_ble_eq_true rfl, Nat.le_of_ble_eq_true rfl⟩ rfl rfl (Nat.le_of_ble_eq_true rfl) ⟨by show 0 + 1 + 1 ≤ 2; decide, by show 0 + 4 + n ≤ 4 + n; omega⟩ rfl (by omega) (by decide +kernel) (fun H2 locs2 w hw hO2 hq2 hS2 => ?_)
  exact t_aret hx hb B.returns B.notSynchronized (Nat.le_refl z) (by omega) hO2 hS2 (by decide +kernel)
theorem t_call (hx : p.tables.exec = Jvm.exec) (hb : c.code = cc) (hml : c.maxLocals = nL) (hown : s.vm.findClass own = some m.cls) (hts : ∀ w ∈ bWg, w.before args s = true) (hP : va_P D bCl (bWs cA sb v n f) H) (hz : H.size = z) (hK : bKn D cA (bA3 sb v z) none s H) (hKs : va_K D sCl [(cA, .byte)] s) (hf : s.vm.findClass "[B" = some cA) (hS : va_S A0 H0 H locs) (hAA : ∀ x, bA3 sb v z x → A0 x)
    (hcon : tCon l D cA sb v n f z) (hy : bMs syTo prog_28_method_42_code 1 (some (.object RST)) 0) (hl : Cond.methodLink own idx syTo ∈ bWg) (hi : Cond.instanceMethod syTo ∈ bWg) (hs : Cond.selects syTo.cls syTo syTo ∈ bWg) (hR : 7 ≤ R.frames ∧ 210 ≤ R.locals) (hsz : L.size = nL) (hr : (rest.map fun v => v.category).sum ≤ 8) (hk : k1 + 2 ≤ R.cells ∧ k2 + (4 + n) ≤ R.slots) (hd : decode cc pc = .ok (.invokevirtual idx, 3))
    (K : ∀ (H1 : Heap) (locs1 : List Loc) (q w : Nat), z ≤ q → z ≤ w → va_P D sCl [sO q (.ref w), sB cA w n f] H1 → (H.size ≤ H1.size ∧ ∀ x : Nat, x < H.size → ¬ bA3 sb v z x → H1[x]? = H[x]?) → va_S A0 H0 H1 locs1 → W p l e R s m args below meth c H1 locs1 (k1 + 2) (k2 + (4 + n)) Q (F0 m (pc + 3) L (.ref q :: rest))) : W p l e R s m args below meth c H locs k1 k2 Q (F0 m pc L (.ref sb :: rest)) := by
  have hcw : CallW R s args own syTo.cls idx syTo prog_28_method_42_code 1 (some (.object RST)) (Cond.code syTo prog_28_method_42_code 1 (some (.object RST)) :: bWg) (tRm n) 2 (4 + n) 0 := cwV 0 hts (bWg_good (fun w hw => by
    simp only [wsV, List.cons_append, List.nil_append, List.mem_cons] at hw
    rcases hw with rfl | rfl | rfl | rfl | rfl | hw
    · exact hl
    · exact hi
    · exact hs
    · exact hy.2.1
    · exact hy.1
    · exact hw)) rfl rfl rfl ⟨rfl, hy.2.2.1, hy.2.2.2.1, hy.2.2.2.2⟩ ⟨by show 6 + 1 ≤ R.frames; omega, by show 8 + (1 + 11) + 190 ≤ R.locals; omega⟩
  have hrun := va_runV (As := []) (b := sb) (rest := rest) (g := F0 m pc L (.ref sb :: rest)) (locs := locs) (cells := k1) (slots := k2) (below := below) (meth := meth) (e := e) ⟨hx, hb, hml, hown, hts⟩ hcon hcw ⟨tPc.blind, va_recv (q0 := 0) (ci := 0) (cl := bCl) hK.1 hP rfl rfl, fun U hU hW => ⟨rfl, by rw [hU]; exact hP, by rw [hU]; exact hz, by rw [hU]; exact hK.moved hW.alike, hKs.moved hW.alike, by rw [hW.alike.findClass]; exact hf⟩⟩ rfl rfl hsz rfl (by show 2 * 0 + _ ≤ 8; omega) hd hk
  intro T hT X
  obtain ⟨v9, st₀, t, T', Ls, h0, X', hL, e1, e2, ⟨⟨q, w, hq, hw, eo, hO⟩, hF⟩, stp⟩ := hrun T hT X
  cases eo
  unfold va_F at hF
  rw [h0] at hF
  obtain ⟨t2, a1, b1⟩ := K t.heap (locs ++ Ls) q w hq hw hO hF ⟨Nat.le_trans hS.1 hF.1, fun q g1 g2 => by
    rw [hF.2 q (Nat.lt_of_lt_of_le g1 hS.1) (fun z => g2 (hAA q z))]
    exact hS.2.1 q g1 g2, fun q hq => by
    rcases List.mem_append.mp hq with h | h
    · exact hS.2.2 q h
    · exact hAA _ (hL q h)⟩ T' e1 X'
  exact ⟨t2, stp t2 a1, b1⟩
end STO
