/-! Arrays.copyOfRange, copyOfRangeByte: walked; a new array of the letters that count -/
def qRm (d n : Nat) : Room := { frames := d + 1, cells := 1, slots := n, locals := 30 * d + 40 }
def qCon (l : Launch) (y : MethodName) (b : ByteArray) (nL d : Nat) (vs : List Value) (D : va_G) (cA : ClassId) (sb v n : Nat) (f : Nat → Int32) (z : Nat) : Prop :=
  Met l y (Cond.code y b nL (some (.array .byte)) :: bWg) (qRm d n) (kPc D cA sb v n f z vs) (kQc D cA sb v n f z) 1 n (bA3 sb v z)
theorem bA_3 {sb v z : Nat} : ∀ q, bA sb v q → bA3 sb v z q := fun _ h => h.elim Or.inl (fun h => Or.inr (Or.inl h))
theorem kD {cA : ClassId} {sb v n z w : Nat} {f g : Nat → Int32} (hv : sb ≠ v) (hs : sb ≠ w) (hw : v ≠ w) (hz : z ≤ w) : va_D (bA3 sb v z) (kWs cA sb v n f w g) := by
  refine ⟨fun i j p q hp hq e => ?_, fun k q hq => ?_⟩
  · match i, j, hp, hq with
    | 0, 0, _, _ => rfl
    | 1, 1, _, _ => rfl
    | 2, 2, _, _ => rfl
    | 0, 1, hp, hq => cases hp; cases hq; exact absurd e hv
    | 1, 0, hp, hq => cases hp; cases hq; exact absurd e.symm hv
    | 0, 2, hp, hq => cases hp; cases hq; exact absurd e hs
    | 2, 0, hp, hq => cases hp; cases hq; exact absurd e.symm hs
    | 1, 2, hp, hq => cases hp; cases hq; exact absurd e hw
    | 2, 1, hp, hq => cases hp; cases hq; exact absurd e.symm hw
    | i + 3, _, hp, _ => cases hp
    | 0, j + 3, _, hq => cases hq
    | 1, j + 3, _, hq => cases hq
    | 2, j + 3, _, hq => cases hq
  · match k, hq with
    | 0, hq => cases hq; exact Or.inl rfl
    | 1, hq => cases hq; exact Or.inr (Or.inl rfl)
    | 2, hq => cases hq; exact Or.inr (Or.inr hz)
    | k + 3, hq => cases hq
section SBQ
variable {p : Program} {l : Launch} {e : Env} {R : Room} {s : State} {m : MethodId} {args : Array Value} {below : List Frame} {meth : Method} {c : Code} {H : Heap} {locs : List Loc} {Q : State → Prop} {A0 : Nat → Prop} {H0 : Heap} {own : String} {cc : ByteArray}
variable {pc k1 k2 k3 k4 d idx nl nL np sb v n z w : Nat} {L : Array Slot} {rest st0 vs : List Value} {y : MethodName} {b : ByteArray} {D : va_G} {cA : ClassId} {f : Nat → Int32}
theorem q_of (hy : plainName y.cls = true) (body : ∀ (p : Program) (e : Env) (s : State) (m : MethodId) (below : List Frame) (meth : Method) (c : Code), p.tables.exec = Jvm.exec → c.code = b → c.maxLocals = nl → s.vm.findClass y.cls = some m.cls → (∀ w ∈ bWg, w.before vs.toArray s = true) → meth.locks = false → meth.sig.returnType = some (.array .byte) → va_P D bCl (bWs cA sb v n f) s.heap → s.heap.size = z → bKn D cA (bA3 sb v z) none s s.heap → s.vm.findClass "[B" = some cA →
      W p l e (qRm d n) s m vs.toArray below meth c s.heap [] 0 0 (vx_MQ below (kQc D cA sb v n f z) (fun _ _ _ => False) vs.toArray s 1 n (bA3 sb v z)) (F0 m 0 ((lg_sl vs ++ List.replicate (nl - (lg_sl vs).length) Slot.unset).toArray) [])) : qCon l y b nl d vs D cA sb v n f z := by
  refine vx_toMet (XC := fun _ _ _ => False) (vx_ofW (ws' := bWg) hy rfl (fun p e s m args below meth c s₁ B hml ht hP => ?_)) (fun _ _ _ h => h)
  obtain ⟨rfl, hP, hz, hK, hf⟩ := hP
  have hts := atoms_spec (ws := Cond.code y b nl (some (.array .byte)) :: bWg) B.pre
  have hw := body p e s m below meth c B.exec B.bytes hml (findClass_of_methodNamed B.named) (fun w hw => hts w (List.mem_cons_of_mem _ hw)) B.notSynchronized B.returns hP hz hK hf
  rw [← lg_entry_eq] at hw
  exact hw
theorem q_pre (hP : va_P D bCl (bWs cA sb v n f) H) (hz : H.size = z) (hK : bKn D cA (bA3 sb v z) none s H) (hf : s.vm.findClass "[B" = some cA) : PreS s H (kPc D cA sb v n f z vs) vs :=
  ⟨kPc.blind, fun U hU hW => ⟨rfl, by rw [hU]; exact hP, by rw [hU]; exact hz, by rw [hU]; exact hK.moved hW.alike, by rw [hW.alike.findClass]; exact hf⟩⟩
theorem q_ret {x : Array Value} (hS : va_S A0 H0 H locs) (hAA : ∀ q, bA3 sb v z q → A0 q) (hk3 : k1 + 1 = k3) (hk4 : k2 + n = k4) (hr : va_Run p l e R s m args below meth c H locs k1 k2 1 n (F0 m pc L st0) rest (kQc D cA sb v n f z x) (bA3 sb v z)) (K : ∀ (H1 : Heap) (locs1 : List Loc) (w : Nat), z ≤ w → va_P D bCl (kWs cA sb v n f w (va_cpy f (fun _ => 0) 0 0 n)) H1 → (H.size ≤ H1.size ∧ ∀ q : Nat, q < H.size → ¬ bA3 sb v z q → H1[q]? = H[q]?) → va_S A0 H0 H1 locs1 → W p l e R s m args below meth c H1 locs1 k3 k4 Q (F0 m (pc + 3) L (.ref w :: rest))) : W p l e R s m args below meth c H locs k1 k2 Q (F0 m pc L st0) := by
  subst hk3
  subst hk4
  intro T hT X
  obtain ⟨v9, st₀, t, T', Ls, h0, X', hL, e1, e2, ⟨⟨w, hw, eo, hp⟩, hF⟩, stp⟩ := hr T hT X
  cases eo
  unfold va_F at hF
  rw [h0] at hF
  obtain ⟨t2, a1, b1⟩ := K t.heap (locs ++ Ls) w hw hp hF ⟨Nat.le_trans hS.1 hF.1, fun q g1 g2 => by
    rw [hF.2 q (Nat.lt_of_lt_of_le g1 hS.1) (fun z => g2 (hAA q z))]
    exact hS.2.1 q g1 g2, fun q hq => by
    rcases List.mem_append.mp hq with h | h
    · exact hS.2.2 q h
    · exact hAA _ (hL q h)⟩ T' e1 X'
  exact ⟨t2, stp t2 a1, b1⟩
theorem q_callS (hx : p.tables.exec = Jvm.exec) (hb : c.code = cc) (hml : c.maxLocals = nL) (hown : s.vm.findClass own = some m.cls) (hts : ∀ w ∈ bWg, w.before args s = true) (hP : va_P D bCl (bWs cA sb v n f) H) (hz : H.size = z) (hK : bKn D cA (bA3 sb v z) none s H) (hf : s.vm.findClass "[B" = some cA) (hS : va_S A0 H0 H locs) (hAA : ∀ q, bA3 sb v z q → A0 q)
    (hcon : qCon l y b nl d vs D cA sb v n f z) (hy : bMs y b nl (some (.array .byte)) np) (hl : Cond.methodLink own idx y ∈ bWg) (hs : Cond.static y ∈ bWg) (hR : d + 2 ≤ R.frames ∧ 8 + (nl + 11) + (30 * d + 40) ≤ R.locals) (hn : vs.length = np) (hsz : L.size = nL) (hr : (rest.map fun v => v.category).sum ≤ 8) (hk : k1 + 1 ≤ R.cells ∧ k2 + n ≤ R.slots) (hk3 : k1 + 1 = k3) (hk4 : k2 + n = k4) (hd : decode cc pc = .ok (.invokestatic idx, 3))
    (K : ∀ (H1 : Heap) (locs1 : List Loc) (w : Nat), z ≤ w → va_P D bCl (kWs cA sb v n f w (va_cpy f (fun _ => 0) 0 0 n)) H1 → (H.size ≤ H1.size ∧ ∀ q : Nat, q < H.size → ¬ bA3 sb v z q → H1[q]? = H[q]?) → va_S A0 H0 H1 locs1 → W p l e R s m args below meth c H1 locs1 k3 k4 Q (F0 m (pc + 3) L (.ref w :: rest))) : W p l e R s m args below meth c H locs k1 k2 Q (F0 m pc L (vs.reverse ++ rest)) := by
  have hcw : CallB R s args own idx y b nl (some (.array .byte)) (Cond.code y b nl (some (.array .byte)) :: bWg) (qRm d n) 1 n np ∧ (Cond.static y).before args s = true := va_cwS np hts (bWg_good (fun w hw => by
    simp only [va_wsS, List.cons_append, List.nil_append, List.mem_cons] at hw
    rcases hw with rfl | rfl | rfl | rfl | hw
    · exact hl
    · exact hs
    · exact hy.2.1
    · exact hy.1
    · exact hw)) rfl rfl rfl ⟨hy.2.2.1, hy.2.2.2.1, hy.2.2.2.2⟩ hR
  have hrun := va_runS (As := vs) (rest := rest) (g := F0 m pc L (vs.reverse ++ rest)) (locs := locs) (cells := k1) (slots := k2) (below := below) (meth := meth) (e := e) ⟨hx, hb, hml, hown, hts⟩ hcon hcw (q_pre hP hz hK hf) rfl hn hsz rfl (by show 2 * 0 + _ ≤ 8; omega) hd hk
  exact q_ret hS hAA hk3 hk4 hrun K
end SBQ
section SBQ2
variable {l : Launch} {n sb v z : Nat} {D : va_G} {cA : ClassId} {f : Nat → Int32}
theorem q_byt (hv : sb ≠ v) (hn : n ≤ 15) (hfit : ∀ i, i < n → fits .byte (.int (f i)) = true) : qCon l kyByt prog_36_method_133_code 5 1 [.ref v, .int 0, .int (Int32.ofNat n)] D cA sb v n f z := by
  have en : (Int32.ofNat n).toNatClampNeg = n := b_nat (by omega)
  have hn0 : (0 : Int32) ≤ Int32.ofNat n ∧ Int32.ofNat n - 0 = Int32.ofNat n ∧ (if Int32.ofNat n < 16 - 0 then Int32.ofNat n else 16 - 0) = Int32.ofNat n := by
    have : ∀ k : Fin 16, (0 : Int32) ≤ Int32.ofNat k.val ∧ Int32.ofNat k.val - 0 = Int32.ofNat k.val ∧ (if Int32.ofNat k.val < 16 - 0 then Int32.ofNat k.val else 16 - 0) = Int32.ofNat k.val := by decide +kernel
    exact this ⟨n, by omega⟩
  refine q_of (by decide) (fun p e s m below meth c hx hb hml hown hts hlk hret hP hz hK hf => ?_)
  have hS : va_S (bA3 sb v z) s.heap s.heap [] := va_S.rf
  have hL := lv_entry [.ref v, .int 0, .int (Int32.ofNat n)] (n := 5) (Nat.le_of_ble_eq_true rfl)
  generalize ((lg_sl [.ref v, .int 0, .int (Int32.ofNat n)] ++ List.replicate (5 - (lg_sl [.ref v, .int 0, .int (Int32.ofNat n)]).length) Slot.unset).toArray) = L at hL ⊢
  have hL : lv_has L 5 [(0, .ref v), (1, .int 0), (2, .int (Int32.ofNat n))] := hL
  refine lv_iload_n hx hb (k := 1) (i := 1) (x := 0) (by decide +kernel) rfl (lv_at hL 1 rfl) ?_
  refine lv_iload_n hx hb (k := 2) (i := 2) (x := Int32.ofNat n) (by decide +kernel) rfl (lv_at hL 2 rfl) ?_
  refine b_callS (vs := [.int 0, .int (Int32.ofNat n)]) (rest := []) (own := RAS) (A0 := bA3 sb v z) (H0 := s.heap) hx hb hml hown hts hP (hK.narrow bA_3) hS bA_3 (k_chk hn0.1) kmChk kl_343.1 kl_343.2 ⟨Nat.le_of_ble_eq_true rfl, Nat.le_of_ble_eq_true rfl⟩ rfl hL.1 (by decide) ⟨Nat.zero_le _, Nat.zero_le _⟩ (by decide +kernel) (fun H1 locs1 hP1 hq1 hS1 => ?_)
  refine lv_iload_n hx hb (k := 2) (i := 2) (x := Int32.ofNat n) (by decide +kernel) rfl (lv_at hL 2 rfl) ?_
  refine lv_iload_n hx hb (k := 1) (i := 1) (x := 0) (by decide +kernel) rfl (lv_at hL 1 rfl) ?_
  refine lv_isub hx hb (by decide +kernel) ?_
  rw [hn0.2.1]
  refine lv_istore_n hx hb (k := 3) (i := 3) (nL := 5) (by decide +kernel) rfl hL (by decide) rfl (fun L1 hL1 => ?_)
  have hL1 : lv_has L1 5 [(3, .int (Int32.ofNat n)), (0, .ref v), (1, .int 0), (2, .int (Int32.ofNat n))] := hL1
  refine lv_iload_n hx hb (k := 3) (i := 3) (x := Int32.ofNat n) (by decide +kernel) rfl (lv_at hL1 0 rfl) ?_
  refine b_newb (z := H1.size) (N := n) hx hb (hts _ bl_O3.2.2.2) (by decide +kernel) (b_neg (by omega)) en (by omega) (by show 0 + 1 ≤ 1; decide) (by show 0 + n ≤ n; omega) rfl (fun H2 cB e1 z1 o1 hNm => ?_)
  obtain rfl : cB = cA := Option.some.inj (hNm.symm.trans hf)
  rw [Nat.zero_add n]
  have hsb : sb < H1.size := (hP1 0 _ rfl).lt
  have hvb : v < H1.size := (hP1 1 _ rfl).lt
  have hzw : z ≤ H1.size := by rw [← hz]; exact hS1.1
  have hP2 : va_P D bCl (kWs cB sb v n f H1.size (fun _ => 0)) H2 := (hP1.kept (fun k q hk => by
    match k, hk with
    | 0, hk => cases hk; exact o1 sb hsb
    | 1, hk => cases hk; exact o1 v hvb
    | k + 2, hk => cases hk)).app (fun k q hk => by
    match k, hk with
    | 0, hk => cases hk; exact e1
    | k + 1, hk => cases hk)
  have hD2 : va_D (bA3 sb v z) (kWs cB sb v n f H1.size (fun _ => 0)) := kD hv (Nat.ne_of_lt hsb) (Nat.ne_of_lt hvb) hzw
  have hS2 : va_S (bA3 sb v z) s.heap H2 locs1 := ⟨Nat.le_trans hS1.1 (by omega), fun q g1 g2 => (o1 q (Nat.lt_of_lt_of_le g1 hS1.1)).trans (hS1.2.1 q g1 g2), hS1.2.2⟩
  refine lv_astore hx hb (i := 4) (nL := 5) (by decide +kernel) hL1 (by decide) rfl (fun L2 hL2 => ?_)
  have hL2 : lv_has L2 5 [(4, .ref H1.size), (3, .int (Int32.ofNat n)), (0, .ref v), (1, .int 0), (2, .int (Int32.ofNat n))] := hL2
  refine lv_aload_n hx hb (k := 0) (i := 0) (x := v) (by decide +kernel) rfl (lv_at hL2 2 rfl) ?_
  refine lv_iload_n hx hb (k := 1) (i := 1) (x := 0) (by decide +kernel) rfl (lv_at hL2 3 rfl) ?_
  refine lv_aload hx hb (i := 4) (x := H1.size) (by decide +kernel) (lv_at hL2 0 rfl) ?_
  refine lv_iconst hx hb (n := 0) (v := 0) (by decide +kernel) rfl ?_
  refine lv_aload_n hx hb (k := 0) (i := 0) (x := v) (by decide +kernel) rfl (lv_at hL2 2 rfl) ?_
  refine va_alen hx hb hK.1 hP2 1 0 rfl rfl (v := 16) rfl (by decide +kernel) ?_
  refine lv_iload_n hx hb (k := 1) (i := 1) (x := 0) (by decide +kernel) rfl (lv_at hL2 3 rfl) ?_
  refine lv_isub hx hb (by decide +kernel) ?_
  refine lv_iload_n hx hb (k := 3) (i := 3) (x := Int32.ofNat n) (by decide +kernel) rfl (lv_at hL2 1 rfl) ?_
  refine va_mmin (own := RAS) (index := 304) hx hb (by rw [hml, hL2.1]) hown (hts _ kl_304.1) (hts _ kl_304.2) (hts _ kmMin.2.1) (hts _ kmMin.1) (Nat.le_of_ble_eq_true rfl) (Nat.le_of_ble_eq_true rfl) (Nat.le_refl 1) (Nat.le_refl n) (by decide +kernel) ?_
  rw [hn0.2.2]
  refine va_copyi (own := RAS) (index := 150) (ty := .byte) hx hb (by rw [hml, hL2.1]) hown (hts _ kl_150) (hts _ (bWg_a bl_nat)) (hts _ (bWg_a bl_sta)) (hts _ (bWg_a bl_sys)) hK.1 hP2 hD2 hS2 1 2 0 0 rfl rfl rfl rfl rfl (by decide) (by decide) (b_neg (by omega)) (by rw [en]; show 0 + n ≤ 16; omega) (by rw [en]; show 0 + n ≤ n; omega) (fun i hi => by
    rw [en] at hi
    rw [show (0 : Int32).toNatClampNeg + i = i from Nat.zero_add i]
    exact hfit i hi) (Nat.le_of_ble_eq_true rfl) (Nat.le_of_ble_eq_true rfl) (by decide +kernel) (fun H3 locs3 hP3 _ hS3 => ?_)
  rw [en] at hP3
  have hP3 : va_P D bCl (kWs cB sb v n f H1.size (va_cpy f (fun _ => 0) 0 0 n)) H3 := hP3
  refine lv_aload hx hb (i := 4) (x := H1.size) (by decide +kernel) (lv_at hL2 0 rfl) ?_
  exact k_aret hx hb hret hlk hzw hP3 hS3 (by decide +kernel)
theorem q_rng (hv : sb ≠ v) (hn : n ≤ 15) (hfit : ∀ i, i < n → fits .byte (.int (f i)) = true) : qCon l kyRng prog_36_method_132_code 3 2 [.ref v, .int 0, .int (Int32.ofNat n)] D cA sb v n f z := by
  have hne : ¬ Int32.ofNat n = 16 := by
    have : ∀ k : Fin 16, ¬ Int32.ofNat k.val = 16 := by decide +kernel
    exact this ⟨n, by omega⟩
  refine q_of (by decide) (fun p e s m below meth c hx hb hml hown hts hlk hret hP hz hK hf => ?_)
  have hS : va_S (bA3 sb v z) s.heap s.heap [] := va_S.rf
  have hL := lv_entry [.ref v, .int 0, .int (Int32.ofNat n)] (n := 3) (Nat.le_of_ble_eq_true rfl)
  generalize ((lg_sl [.ref v, .int 0, .int (Int32.ofNat n)] ++ List.replicate (3 - (lg_sl [.ref v, .int 0, .int (Int32.ofNat n)]).length) Slot.unset).toArray) = L at hL ⊢
  have hL : lv_has L 3 [(0, .ref v), (1, .int 0), (2, .int (Int32.ofNat n))] := hL
  refine lv_iload_n hx hb (k := 1) (i := 1) (x := 0) (by decide +kernel) rfl (lv_at hL 1 rfl) ?_
  refine lv_if_ne hx hb (off := 9) (tgt := 10) (by decide +kernel) (by decide) (fun h => absurd rfl h) (fun _ => ?_)
  refine lv_iload_n hx hb (k := 2) (i := 2) (x := Int32.ofNat n) (by decide +kernel) rfl (lv_at hL 2 rfl) ?_
  refine lv_aload_n hx hb (k := 0) (i := 0) (x := v) (by decide +kernel) rfl (lv_at hL 0 rfl) ?_
  refine va_alen hx hb hK.1 hP 1 0 rfl rfl (v := 16) rfl (by decide +kernel) ?_
  refine lv_icmp_eq hx hb (off := 10) (tgt := 17) (by decide +kernel) (by decide) (fun h => absurd h hne) (fun _ => ?_)
  refine lv_aload_n hx hb (k := 0) (i := 0) (x := v) (by decide +kernel) rfl (lv_at hL 0 rfl) ?_
  refine lv_iload_n hx hb (k := 1) (i := 1) (x := 0) (by decide +kernel) rfl (lv_at hL 1 rfl) ?_
  refine lv_iload_n hx hb (k := 2) (i := 2) (x := Int32.ofNat n) (by decide +kernel) rfl (lv_at hL 2 rfl) ?_
  refine q_callS (vs := [.ref v, .int 0, .int (Int32.ofNat n)]) (rest := []) (own := RAS) (A0 := bA3 sb v z) (H0 := s.heap) (k3 := 1) (k4 := n) hx hb hml hown hts hP hz hK hf hS (fun _ z => z) (q_byt hv hn hfit) kmByt kl_339.1 kl_339.2 ⟨by show 1 + 2 ≤ 3; decide, by show 8 + (5 + 11) + (30 * 1 + 40) ≤ 30 * 2 + 40; decide⟩ rfl hL.1 (by decide) ⟨by show 0 + 1 ≤ 1; decide, by show 0 + n ≤ n; omega⟩ rfl (Nat.zero_add n) (by decide +kernel) (fun H1 locs1 w hw hP1 hq1 hS1 => ?_)
  exact k_aret hx hb hret hlk hw hP1 hS1 (by decide +kernel)
end SBQ2
