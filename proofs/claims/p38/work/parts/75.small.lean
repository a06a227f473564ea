/-! THE BUILDER'S SMALL METHODS -/
def byIsL : MethodName := ⟨RAB, "isLatin1", "()Z"⟩
def byVal : MethodName := ⟨RAB, "getValue", "()[B"⟩
def byEns : MethodName := ⟨RAB, "ensureCapacityInternal", "(I)V"⟩
def byInf : MethodName := ⟨RAB, "inflateIfNeededFor", "(Ljava/lang/String;)V"⟩
def byPut : MethodName := ⟨RAB, "putStringAt", "(ILjava/lang/String;)V"⟩
def byApS : MethodName := ⟨RAB, "append", "(Ljava/lang/String;)Ljava/lang/AbstractStringBuilder;"⟩
def byApI : MethodName := ⟨RAB, "append", "(I)Ljava/lang/AbstractStringBuilder;"⟩
def bW1 : List Cond := [.initialized RAB, .instanceMethod byIsL, .selects RSB byIsL byIsL, .code byIsL prog_12_method_68_code 1 (some .boolean), .sameMethod RAB RAB "isLatin1" "()Z", .methodLink RAB 83 byIsL,
  .instanceMethod byVal, .selects RSB byVal byVal, .code byVal prog_12_method_64_code 1 (some (.array .byte)), .sameMethod RAB RAB "getValue" "()[B",
  .instanceMethod byEns, .code byEns prog_12_method_9_code 3 none, .sameMethod RAB RAB "ensureCapacityInternal" "(I)V", .methodLink RAB 100 byEns,
  .instanceMethod byInf, .code byInf prog_12_method_71_code 2 none, .sameMethod RAB RAB "inflateIfNeededFor" "(Ljava/lang/String;)V", .methodLink RAB 397 byInf,
  .instanceMethod byPut, .code byPut prog_12_method_73_code 3 none, .sameMethod RAB RAB "putStringAt" "(ILjava/lang/String;)V", .methodLink RAB 208 byPut,
  .fieldLink RAB 18 "java/lang/String" "COMPACT_STRINGS" "Z", .fieldLink RAB 22 RAB "coder" "B", .fieldLink RAB 15 RAB "value" "[B", .fieldLink RAB 79 RAB "count" "I",
  u_lay RSB TSB 0, u_lay RSB TSB 1, u_lay RSB TSB 2, u_lay RSB TSB 3]
set_option maxRecDepth 100000 in
theorem bW1_ok : (bW1.all fun w => decide (w ∈ aWg)) = true := by decide +kernel
theorem bw {w : Cond} (h : w ∈ bW1) : w ∈ bWg := bWg_a (of_decide_eq_true (List.all_eq_true.mp bW1_ok w h))
theorem bLay : ∀ w ∈ u_ws RSB TSB 4, w ∈ bWg := fun w h => bw (by
  have h : w ∈ [u_lay RSB TSB 0, u_lay RSB TSB 1, u_lay RSB TSB 2, u_lay RSB TSB 3] := h
  exact List.mem_append_right (bW1.take 26) h)
theorem bSelP {y : MethodName} (h : y ∈ aPvB) : Cond.selects RSB y y ∈ bWg := List.mem_append_left _ (List.mem_map.mpr ⟨y, h, rfl⟩)
theorem bU_IsL : bU RAB 83 byIsL prog_12_method_68_code 1 (some .boolean) 0 := ⟨⟨bw (by decide +kernel), bw (by decide +kernel), bw (by decide +kernel), bw (by decide +kernel), bw (by decide +kernel), bw (by decide +kernel)⟩, by decide, by decide, by decide +kernel⟩
theorem bU_Ens : bU RAB 100 byEns prog_12_method_9_code 3 none 1 := ⟨⟨bw (by decide +kernel), bw (by decide +kernel), bSelP (by decide), bw (by decide +kernel), bw (by decide +kernel), bw (by decide +kernel)⟩, by decide, by decide, by decide +kernel⟩
theorem bU_Inf : bU RAB 397 byInf prog_12_method_71_code 2 none 1 := ⟨⟨bw (by decide +kernel), bw (by decide +kernel), bSelP (by decide), bw (by decide +kernel), bw (by decide +kernel), bw (by decide +kernel)⟩, by decide, by decide, by decide +kernel⟩
theorem bU_Put : bU RAB 208 byPut prog_12_method_73_code 3 none 2 := ⟨⟨bw (by decide +kernel), bw (by decide +kernel), bSelP (by decide), bw (by decide +kernel), bw (by decide +kernel), bw (by decide +kernel)⟩, by decide, by decide, by decide +kernel⟩
theorem bl_18 : Cond.fieldLink RAB 18 "java/lang/String" "COMPACT_STRINGS" "Z" ∈ bWg := bw (by decide +kernel)
section SB2
variable {p : Program} {l : Launch} {e : Env} {R : Room} {s : State} {m : MethodId} {args : Array Value} {below : List Frame} {meth : Method} {c : Code} {H : Heap} {locs : List Loc} {Q : State → Prop} {own : String} {cc : ByteArray}
variable {pc sb v n : Nat} {L : Array Slot} {rest : List Value} {D : va_G} {cA : ClassId} {f : Nat → Int32} {tx : Option (List Int32 × Nat × Nat)}
theorem b_zret {z : Int32} {ty : FieldType} {st : Array Value} (hx : p.tables.exec = Jvm.exec) (hb : c.code = cc) (hr : meth.sig.returnType = some ty) (hn : narrow ty (.int z) = .int z) (hlocks : meth.locks = false) (hP : va_P D bCl (bWs cA sb v n f) H) (hS : va_S (bA sb v) s.heap H locs) (hdg : decode cc pc = .ok (.ireturn, 1)) : W p l e R s m st below meth c H locs 0 0 (vx_MQ below (bQc D cA sb v n f (some (.int z))) (fun _ _ _ => False) st s 0 0 (bA sb v)) (F0 m pc L [.int z]) :=
  vx_ret (W.zret hx hb hr hn (fun t ht _ => ⟨rfl, by rw [ht]; exact hP, hS.F ht⟩) hS.2.2 hdg hlocks)
theorem b_aret {z : Nat} {ty : FieldType} {st : Array Value} (hx : p.tables.exec = Jvm.exec) (hb : c.code = cc) (hr : meth.sig.returnType = some ty) (hty : (∃ n, ty = .object n) ∨ ∃ t, ty = .array t) (hlocks : meth.locks = false) (hP : va_P D bCl (bWs cA sb v n f) H) (hS : va_S (bA sb v) s.heap H locs) (hdg : decode cc pc = .ok (.areturn, 1)) : W p l e R s m st below meth c H locs 0 0 (vx_MQ below (bQc D cA sb v n f (some (.ref z))) (fun _ _ _ => False) st s 0 0 (bA sb v)) (F0 m pc L [.ref z]) :=
  vx_ret (W.aret hx hb hr hty (Or.inr ⟨z, rfl⟩) (fun t ht _ => ⟨rfl, by rw [ht]; exact hP, hS.F ht⟩) hS.2.2 hdg hlocks)
theorem b_vret {st : Array Value} (hx : p.tables.exec = Jvm.exec) (hb : c.code = cc) (hr : meth.sig.returnType = none) (hlocks : meth.locks = false) (hP : va_P D bCl (bWs cA sb v n f) H) (hS : va_S (bA sb v) s.heap H locs) (hdg : decode cc pc = .ok (.return_, 1)) : W p l e R s m st below meth c H locs 0 0 (vx_MQ below (bQc D cA sb v n f none) (fun _ _ _ => False) st s 0 0 (bA sb v)) (F0 m pc L []) :=
  vx_ret (W.vret hx hb hr (fun t ht _ => ⟨rfl, by rw [ht]; exact hP, hS.F ht⟩) hS.2.2 hdg hlocks)
theorem b_getv (hx : p.tables.exec = Jvm.exec) (hb : c.code = cc) (hts : ∀ w ∈ bWg, w.before args s = true) (hown : s.vm.findClass RAB = some m.cls) (hK : bKn D cA (bA sb v) tx s s.heap) (hP : va_P D bCl (bWs cA sb v n f) H) (hd : decode cc pc = .ok (.getfield 15, 3)) (K : W p l e R s m args below meth c H locs 0 0 Q (F0 m (pc + 3) L (.ref v :: rest))) : W p l e R s m args below meth c H locs 0 0 Q (F0 m pc L (.ref sb :: rest)) :=
  va_get hx hb hts bLay hown hK.1 hP 0 rfl rfl 0 (by decide) (hts _ (bw (by decide +kernel))) (fun _ z => z) rfl hd K
theorem b_getc (hx : p.tables.exec = Jvm.exec) (hb : c.code = cc) (hts : ∀ w ∈ bWg, w.before args s = true) (hown : s.vm.findClass RAB = some m.cls) (hK : bKn D cA (bA sb v) tx s s.heap) (hP : va_P D bCl (bWs cA sb v n f) H) (hd : decode cc pc = .ok (.getfield 22, 3)) (K : W p l e R s m args below meth c H locs 0 0 Q (F0 m (pc + 3) L (.int 0 :: rest))) : W p l e R s m args below meth c H locs 0 0 Q (F0 m pc L (.ref sb :: rest)) :=
  va_get hx hb hts bLay hown hK.1 hP 0 rfl rfl 1 (by decide) (hts _ (bw (by decide +kernel))) (fun _ z => z) rfl hd K
theorem b_getn (hx : p.tables.exec = Jvm.exec) (hb : c.code = cc) (hts : ∀ w ∈ bWg, w.before args s = true) (hown : s.vm.findClass RAB = some m.cls) (hK : bKn D cA (bA sb v) tx s s.heap) (hP : va_P D bCl (bWs cA sb v n f) H) (hd : decode cc pc = .ok (.getfield 79, 3)) (K : W p l e R s m args below meth c H locs 0 0 Q (F0 m (pc + 3) L (.int (Int32.ofNat n) :: rest))) : W p l e R s m args below meth c H locs 0 0 Q (F0 m pc L (.ref sb :: rest)) :=
  va_get hx hb hts bLay hown hK.1 hP 0 rfl rfl 3 (by decide) (hts _ (bw (by decide +kernel))) (fun _ z => z) rfl hd K
theorem b_isL : bCon l byIsL prog_12_method_68_code 1 (some .boolean) 0 [.ref sb] (some (.int 1)) D cA sb v n f n f tx := by
  refine b_of (by decide) (fun p e s m below meth c hx hb hml hown hts hlk hret hP hK => ?_)
  have hS : va_S (bA sb v) s.heap s.heap [] := va_S.rf
  refine va_gets hx hb hK.2.1 hS hown (hts _ bl_18) (fun _ z => z) (by decide +kernel) ?_
  refine lv_if_eq hx hb (off := 14) (tgt := 17) (by decide +kernel) (by decide) (fun h => absurd h (by decide)) (fun _ => ?_)
  refine lv_aload_n hx hb (k := 0) (i := 0) (x := sb) (by decide +kernel) rfl rfl ?_
  refine b_getc hx hb hts hown hK hP (by decide +kernel) ?_
  refine lv_if_ne hx hb (off := 7) (tgt := 17) (by decide +kernel) (by decide) (fun h => absurd rfl h) (fun _ => ?_)
  refine lv_iconst hx hb (n := 1) (v := 1) (by decide +kernel) rfl ?_
  refine lv_goto hx hb (off := 4) (tgt := 18) (by decide +kernel) (by decide) ?_
  exact b_zret hx hb hret rfl hlk hP hS (by decide +kernel)
theorem b_val : bCon l byVal prog_12_method_64_code 1 (some (.array .byte)) 0 [.ref sb] (some (.ref v)) D cA sb v n f n f tx := by
  refine b_of (by decide) (fun p e s m below meth c hx hb hml hown hts hlk hret hP hK => ?_)
  have hS : va_S (bA sb v) s.heap s.heap [] := va_S.rf
  refine lv_aload_n hx hb (k := 0) (i := 0) (x := sb) (by decide +kernel) rfl rfl ?_
  refine b_getv hx hb hts hown hK hP (by decide +kernel) ?_
  exact b_aret hx hb hret (Or.inr ⟨_, rfl⟩) hlk hP hS (by decide +kernel)
/-- sixteen letters are room enough -/
theorem b_ens {k : Int32} (hk : k - 16 ≤ 0) : bCon l byEns prog_12_method_9_code 3 none 0 [.ref sb, .int k] none D cA sb v n f n f tx := by
  refine b_of (by decide) (fun p e s m below meth c hx hb hml hown hts hlk hret hP hK => ?_)
  have hL := lv_entry [.ref sb, .int k] (n := 3) (Nat.le_of_ble_eq_true rfl)
  generalize ((lg_sl [.ref sb, .int k] ++ List.replicate (3 - (lg_sl [.ref sb, .int k]).length) Slot.unset).toArray) = L at hL ⊢
  have hL : lv_has L 3 [(0, .ref sb), (1, .int k)] := hL
  have hS : va_S (bA sb v) s.heap s.heap [] := va_S.rf
  refine lv_aload_n hx hb (k := 0) (i := 0) (x := sb) (by decide +kernel) rfl (lv_at hL 0 rfl) ?_
  refine b_getv hx hb hts hown hK hP (by decide +kernel) ?_
  refine va_alen hx hb hK.1 hP 1 0 rfl rfl (v := 16) rfl (by decide +kernel) ?_
  refine lv_aload_n hx hb (k := 0) (i := 0) (x := sb) (by decide +kernel) rfl (lv_at hL 0 rfl) ?_
  refine b_getc hx hb hts hown hK hP (by decide +kernel) ?_
  refine lv_ishr hx hb (by decide +kernel) ?_
  refine lv_istore_n hx hb (k := 2) (i := 2) (nL := 3) (by decide +kernel) rfl hL (by decide) rfl (fun L1 hL1 => ?_)
  refine lv_iload_n hx hb (k := 1) (i := 1) (x := k) (by decide +kernel) rfl (lv_at hL1 2 rfl) ?_
  refine lv_iload_n hx hb (k := 2) (i := 2) (x := 16) (by decide +kernel) rfl (lv_at hL1 0 rfl) ?_
  refine lv_isub hx hb (by decide +kernel) ?_
  refine lv_if_le hx hb (off := 24) (tgt := 38) (by decide +kernel) (by decide) (fun _ => ?_) (fun h => absurd hk h)
  exact b_vret hx hb hret hlk hP hS (by decide +kernel)
end SB2
