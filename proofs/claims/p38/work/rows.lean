section
/-- arrays over arrays, what the tables say: as the kit's va_AO, for an array's component -/
def va_AOA (t : FieldType) (U : State) : Prop := (Cond.arrayOver (.array t)).before #[] U = true
theorem va_AOA.of {t : FieldType} {A : Array Value} {U : State} (h : (Cond.arrayOver (.array t)).before A U = true) : va_AOA t U := h
theorem va_AOA.use {t : FieldType} {A : Array Value} {U : State} (h : va_AOA t U) : (Cond.arrayOver (.array t)).before A U = true := h
theorem va_AOA.moved {t : FieldType} {u U : State} (hvm : u.vm.Alike U.vm) (h : va_AOA t u) : va_AOA t U := by
  obtain ⟨comp, c, k, h1, h2, h3, h4, h5⟩ := arrayOverA_spec h
  obtain ⟨k', hk', he⟩ := hvm.2.2 _ _ h3
  have hi : (U.vm.classes.findIdx? fun (x : Class) => match x.kind with | .array component _ => component == comp | _ => false) = some c := by
    have e : U.vm.bare = u.vm.bare := by first | exact hvm.bare_eq | exact hvm.bare_eq.symm
    have e2 := va_idx_bare U.vm comp
    rw [e] at e2
    exact e2.symm.trans ((va_idx_bare u.vm comp).trans h2)
  have hkind : k'.kind = .array comp (.array t) := by rw [he]; exact h4
  have f1 : U.vm.findClass (FieldType.array t).toString = some comp := by rw [hvm.findClass]; exact h1
  have f2 : U.vm.findClass ("[" ++ (FieldType.array t).toString) = some c := by rw [hvm.findClass]; exact h5
  unfold va_AOA Cond.before Cond.holds
  simp only [Cond.value]
  rw [f1, Option.bind_some]
  refine (congrArg (fun o : Option Nat => (o.bind (fun c => (U.vm.classes[c]?).map fun (k : Class) => match k.kind with | .array _ ty => decide (ty = FieldType.array t) && decide (U.vm.findClass ("[" ++ (FieldType.array t).toString) = some c) | _ => false) == some true)) hi).trans ?_
  simp [hk', hkind, f2]
/-! ===== BEGIN words of one list among another's, by their places ===== -/
theorem goodIn_r {big : List Cond} (ws : List Cond) (ps : List Nat) (hp : ws = ps.filterMap (fun i => big[i]?)) (h : ws.all goodWord = true) : GoodIn big ws := by
  intro w hw
  have h1 := List.all_eq_true.mp h w hw
  rw [hp] at hw
  obtain ⟨i, -, hi⟩ := List.mem_filterMap.mp hw
  have hm : w ∈ big := by first | exact List.mem_of_getElem? hi | exact List.getElem?_mem hi
  exact ⟨hm, good_of_word h1⟩
theorem goodIn_app {big a b : List Cond} (ha : GoodIn big a) (hb : GoodIn big b) : GoodIn big (a ++ b) := fun w h => (List.mem_append.mp h).elim (ha w) (hb w)
theorem goodIn_ca {big a b : List Cond} {c : Cond} (ha : GoodIn big (c :: a)) (hb : GoodIn big b) : GoodIn big (c :: (a ++ b)) := fun w h => (List.mem_cons.mp h).elim (fun e => ha w (List.mem_cons.mpr (Or.inl e))) (fun h => (List.mem_append.mp h).elim (fun h => ha w (List.mem_cons.mpr (Or.inr h))) (hb w))
theorem goodIn_sub {big ws : List Cond} (hm : ∀ w ∈ ws, w ∈ big) (h : ws.all goodWord = true) : GoodIn big ws := fun w hw => ⟨hm w hw, good_of_word (List.all_eq_true.mp h w hw)⟩
/-! ===== END ===== -/

/-! ===== BEGIN new T[n][m]: the outer array a place, the inner ones among the pooled ===== -/
/-- f, but v at every address of l -/
def vr_up {α : Type} (f : Nat → α) (l : List Nat) (v : α) : Nat → α := fun a => if a ∈ l then v else f a
theorem vr_up_in {α : Type} {f : Nat → α} {l : List Nat} {v : α} {a : Nat} (h : a ∈ l) : vr_up f l v a = v := if_pos h
theorem vr_up_ne {α : Type} {f : Nat → α} {l : List Nat} {v : α} {a : Nat} (h : a ∉ l) : vr_up f l v a = f a := if_neg h
theorem vr_rows {L l : List Nat} {f : Nat → va_E} {e : va_E} (h : ∀ a, a ∈ l → a ∉ L) : va_pl L f ++ l.map (fun a => (a, e)) = va_pl (L ++ l) (vr_up f l e) := by
  unfold va_pl
  rw [List.map_append]
  congr 1
  · apply List.map_congr_left
    intro a ha
    rw [vr_up_ne (fun q => h a q ha)]
  · apply List.map_congr_left
    intro a ha
    rw [vr_up_in ha]
theorem vr_lay {X rows : va_W} {x : Nat × va_E} {pl : va_W} {D : va_G} {cl : List vw_C} {H : Heap} (hP : va_P D cl (((X ++ pl) ++ [x]) ++ rows) H) : va_P D cl ((X ++ [x]) ++ (pl ++ rows)) H := by
  rw [List.append_assoc (X ++ pl)] at hP
  have h := va_P.swap hP
  rw [← List.append_assoc X] at h
  have h2 := va_P.swap h
  rw [List.append_assoc (X ++ [x])] at h2
  exact h2
theorem vr_layD {X rows : va_W} {x : Nat × va_E} {pl : va_W} {A : Nat → Prop} (hD : va_D A (((X ++ pl) ++ [x]) ++ rows)) : va_D A ((X ++ [x]) ++ (pl ++ rows)) := by
  rw [List.append_assoc (X ++ pl)] at hD
  have h := va_D.swap hD
  rw [← List.append_assoc X] at h
  have h2 := va_D.swap h
  rw [List.append_assoc (X ++ [x])] at h2
  exact h2
theorem vr_outer (c : ClassId) (N h0 : Nat) : ∀ i : Nat, Jvm.Free.Multi.outerC c N h0 i = arrV c N (fun j => va_rf (if j < i then some (h0 + 1 + j) else none))
  | 0 => by
    show ({ cls := c, slots := Array.replicate N .null, vm := .none } : Cell) = _
    rw [arrV_new]
    refine congrArg (arrV c N) (funext fun j => ?_)
    simp [va_rf]
  | i + 1 => by
    show (Jvm.Free.Multi.outerC c N h0 i).setSlot i (.ref (h0 + 1 + i)) = _
    rw [vr_outer c N h0 i, arrV_store]
    refine congrArg (arrV c N) (funext fun j => ?_)
    by_cases e : j = i
    · subst e
      simp [updV, va_rf]
    · by_cases h : j < i
      · simp [updV, e, h, Nat.lt_succ_of_lt h]
      · simp [updV, e, h, show ¬ j < i + 1 by omega]
section VGM
variable {p : Program} {l : Launch} {e : Env} {R : Room} {s : State} {m : MethodId} {args : Array Value} {below : List Frame} {meth : Method} {c : Code} {H : Heap} {locs : List Loc} {cells slots : Nat} {Q : State → Prop}
variable {cc : ByteArray} {pc : Nat} {ls : Array Slot} {rest : List Value} {D : va_G} {cl : List vw_C} {A : Nat → Prop} {a : Nat} {tys : List (ClassId × FieldType)} {ws : va_W} {H0 : Heap}
theorem va_mna {X : va_W} {L : List Nat} {f : Nat → va_E} {cc : ByteArray} (hexec : p.tables.exec = Jvm.exec) (hb : c.code = cc) {own : String} {index : Nat} {ty : FieldType} {cy : ClassId} (hown : s.vm.findClass own = some m.cls) (hclink : (Cond.classLink own index ("[" ++ (FieldType.array ty).toString)).before args s = true) (hover : va_AOA ty s) (harr : (Cond.arrayClass ty).before args s = true) (hcy : s.vm.findClass (FieldType.array ty).toString = some cy)
    (hK : va_K D cl tys s) (hP : va_P D cl (X ++ va_pl L f) H) (hD : va_D A (X ++ va_pl L f)) (hS : va_S A H0 H locs) (hA : ∀ q, H0.size ≤ q → A q) {n k : Int32} {N' K' : Nat} {z : vp_A} (hn : ¬ n < 0) (hk : ¬ k < 0) (hN : n.toNatClampNeg = N') (hM : k.toNatClampNeg = K')
    (hb1 : N' * 4 ≤ 536870912) (hb2 : K' * componentBytes ty ≤ 536870912) (hb3 : K' ≤ 536870912) (hdf : fits ty (defaultValue ty) = true) (hdd : (defaultValue ty).isDefault = true) (hcells : cells + (1 + N') ≤ R.cells) (hslots : slots + (N' + N' * K') ≤ R.slots) (hz : ∀ c : ClassId, Jvm.Free.Multi.innerC c K' (defaultValue ty) = vp_cell c z) (hdg : decode cc pc = .ok (.multianewarray index 2, 4))
    (kk : ∀ (q : Nat) (r : Nat → Nat) (cA : ClassId) (H1 : Heap), (∀ i j : Nat, i < N' → j < N' → r i = r j → i = j) → (∀ i : Nat, i < N' → r i ∉ L) → va_K D cl (tys ++ [(cA, .array ty)]) s →
      va_P D cl ((X ++ [(q, .inl (cA, N', .inr (.inr (.inr (.inr (fun i => if i < N' then some (r i) else none))))))]) ++ va_pl (L ++ (List.range N').map r) (vr_up f ((List.range N').map r) (.inl (cy, z)))) H1 → va_D A ((X ++ [(q, .inl (cA, N', .inr (.inr (.inr (.inr (fun i => if i < N' then some (r i) else none))))))]) ++ va_pl (L ++ (List.range N').map r) (vr_up f ((List.range N').map r) (.inl (cy, z)))) → va_S A H0 H1 locs →
      W p l e R s m args below meth c H1 locs (cells + 1 + N') (slots + N' + N' * K') Q (F0 m (pc + 4) ls (.ref q :: rest))) : W p l e R s m args below meth c H locs cells slots Q (F0 m pc ls (.int k :: .int n :: rest)) := by
  subst hN
  subst hM
  intro T hT Xs
  obtain ⟨vm₁, cA, comp, -, fA, fC, hO, -, X', step⟩ := Xs.multianewarray2F hexec hown hclink (va_AOA.use hover) harr (g := F0 m pc ls (.int k :: .int n :: rest)) rfl (by rw [hb]; exact hdg) rfl hn hk hb1 hb2 hb3 hdf hdd hcells hslots
  have ec : some cy = some comp := hcy.symm.trans fC
  cases ec
  generalize hF : Jvm.Free.Multi.fill (T.setVm vm₁) cA cy n.toNatClampNeg k.toNatClampNeg (defaultValue ty) n.toNatClampNeg = F at X' step
  have hTh : (T.setVm vm₁).heap = H := hT
  obtain ⟨f1, f2, -, -⟩ := Jvm.Free.Multi.fill_facts (T.setVm vm₁) cA cy n.toNatClampNeg k.toNatClampNeg (defaultValue ty) n.toNatClampNeg
  rw [hF, hTh] at f1 f2
  have hold : ∀ x : Nat, x < H.size → F.heap[x]? = H[x]? := fun x hx => by
    have := Jvm.Free.Multi.fill_old (T.setVm vm₁) cA cy n.toNatClampNeg k.toNatClampNeg (defaultValue ty) (a := x) (by rw [hTh]; exact hx) n.toNatClampNeg
    rw [hF, hTh] at this
    exact this
  have hrow : ∀ j : Nat, j < n.toNatClampNeg → F.heap[H.size + 1 + j]? = some (vp_cell cy z) := fun j hj => by
    have := Jvm.Free.Multi.fill_inner (T.setVm vm₁) cA cy n.toNatClampNeg k.toNatClampNeg (defaultValue ty) n.toNatClampNeg j hj
    rw [hF, hTh, hz] at this
    exact this
  have hout : Jvm.Free.Multi.outerC cA n.toNatClampNeg H.size n.toNatClampNeg = vp_cell cA (n.toNatClampNeg, .inr (.inr (.inr (.inr (fun i => if i < n.toNatClampNeg then some (H.size + 1 + i) else none))))) := by
    rw [vp_cell_q]
    exact vr_outer cA n.toNatClampNeg H.size n.toNatClampNeg
  rw [hout] at f2
  have hlt : ∀ a, a ∈ L → a < H.size := fun a ha => by
    obtain ⟨k9, hk9⟩ := va_pl_get (X := X) (f := f) ha
    exact (hP k9 _ hk9).lt
  have hnl : ∀ i : Nat, i < n.toNatClampNeg → H.size + 1 + i ∉ L := fun i _ h => by
    have := hlt _ h
    omega
  have hnm : ∀ a, a ∈ (List.range n.toNatClampNeg).map (fun i => H.size + 1 + i) → a ∉ L := fun a ha h => by
    obtain ⟨i, -, rfl⟩ := List.mem_map.mp ha
    have := hlt _ h
    omega
  have hP0 : va_P D cl (X ++ va_pl L f) F.heap := hP.kept (fun k9 x hx => hold x.1 ((hP k9 x hx).lt))
  have hP1 : va_P D cl ((X ++ va_pl L f) ++ [(H.size, .inl (cA, n.toNatClampNeg, .inr (.inr (.inr (.inr (fun i => if i < n.toNatClampNeg then some (H.size + 1 + i) else none))))))]) F.heap := hP0.app (fun k9 x hx => by
    have h0 : k9 < 1 := (List.getElem?_eq_some_iff.mp hx).1
    rw [show k9 = 0 by omega] at hx
    cases hx
    exact f2)
  have hP2 : va_P D cl (((X ++ va_pl L f) ++ [(H.size, .inl (cA, n.toNatClampNeg, .inr (.inr (.inr (.inr (fun i => if i < n.toNatClampNeg then some (H.size + 1 + i) else none))))))]) ++ ((List.range n.toNatClampNeg).map (fun i => H.size + 1 + i)).map (fun a => (a, .inl (cy, z)))) F.heap := hP1.app (fun k9 x hx => by
    obtain ⟨a, ha, rfl⟩ := List.mem_map.mp (List.mem_of_getElem? hx)
    obtain ⟨i, hi, rfl⟩ := List.mem_map.mp ha
    exact hrow i (List.mem_range.mp hi))
  have hD2 : va_D A (((X ++ va_pl L f) ++ [(H.size, .inl (cA, n.toNatClampNeg, .inr (.inr (.inr (.inr (fun i => if i < n.toNatClampNeg then some (H.size + 1 + i) else none))))))]) ++ ((List.range n.toNatClampNeg).map (fun i => H.size + 1 + i)).map (fun a => (a, .inl (cy, z)))) := by
    have hD1 := hD.push (e := .inl (cA, n.toNatClampNeg, .inr (.inr (.inr (.inr (fun i => if i < n.toNatClampNeg then some (H.size + 1 + i) else none)))))) hP rfl (hA _ hS.1)
    generalize hW1 : (X ++ va_pl L f) ++ [(H.size, .inl (cA, n.toNatClampNeg, .inr (.inr (.inr (.inr (fun i => if i < n.toNatClampNeg then some (H.size + 1 + i) else none))))))] = W1 at hD1 hP1 ⊢
    have hle : ∀ (k9 : Nat) (x : Nat × va_E), W1[k9]? = some x → x.1 ≤ H.size := fun k9 x hx => by
      rw [← hW1] at hx
      by_cases hl : k9 < (X ++ va_pl L f).length
      · rw [List.getElem?_append_left hl] at hx
        exact Nat.le_of_lt ((hP k9 x hx).lt)
      · rw [List.getElem?_append_right (by omega)] at hx
        have h0 : k9 - (X ++ va_pl L f).length < 1 := (List.getElem?_eq_some_iff.mp hx).1
        rw [show k9 - (X ++ va_pl L f).length = 0 by omega] at hx
        cases hx
        exact Nat.le_refl _
    have hr : ∀ (k9 : Nat) (x : Nat × va_E), (((List.range n.toNatClampNeg).map (fun i => H.size + 1 + i)).map (fun a => ((a, .inl (cy, z)) : Nat × va_E)))[k9]? = some x → x.1 = H.size + 1 + k9 := fun k9 x hx => by
      rw [List.getElem?_map, List.getElem?_map] at hx
      by_cases h9 : k9 < n.toNatClampNeg
      · rw [List.getElem?_range h9] at hx
        cases hx
        rfl
      · have hn0 : (List.range n.toNatClampNeg)[k9]? = none := List.getElem?_eq_none (by rw [List.length_range]; omega)
        rw [hn0] at hx
        cases hx
    refine ⟨fun i j x y hi hj hxy => ?_, fun k9 x hx => ?_⟩
    · by_cases h1 : i < W1.length <;> by_cases h2 : j < W1.length
      · rw [List.getElem?_append_left h1] at hi
        rw [List.getElem?_append_left h2] at hj
        exact hD1.1 i j x y hi hj hxy
      · rw [List.getElem?_append_left h1] at hi
        rw [List.getElem?_append_right (by omega)] at hj
        have := hle _ _ hi
        have := hr _ _ hj
        omega
      · rw [List.getElem?_append_right (by omega)] at hi
        rw [List.getElem?_append_left h2] at hj
        have := hle _ _ hj
        have := hr _ _ hi
        omega
      · rw [List.getElem?_append_right (by omega)] at hi hj
        have := hr _ _ hi
        have := hr _ _ hj
        omega
    · by_cases h1 : k9 < W1.length
      · rw [List.getElem?_append_left h1] at hx
        exact hD1.2 k9 x hx
      · rw [List.getElem?_append_right (by omega)] at hx
        have := hr _ _ hx
        exact hA _ (by have := hS.1; omega)
  have hAr : ArrOfT s cA (.array ty) := fun N9 z9 => by
    obtain ⟨-, k9, hk9, cm9, hkk9⟩ := (hO 0 0 0).1
    exact ⟨(fun q hq => by cases hq), k9, hk9, cm9, hkk9⟩
  have hK2 : va_K D cl (tys ++ [(cA, .array ty)]) s := ⟨hK.1, fun k9 x hx => by
    by_cases hl : k9 < tys.length
    · rw [List.getElem?_append_left hl] at hx
      exact hK.2 k9 x hx
    · rw [List.getElem?_append_right (by omega)] at hx
      have h0 : k9 - tys.length < 1 := (List.getElem?_eq_some_iff.mp hx).1
      rw [show k9 - tys.length = 0 by omega] at hx
      cases hx
      exact ⟨hAr, fA⟩⟩
  obtain ⟨t, a1, b1⟩ := kk H.size (fun i => H.size + 1 + i) cA F.heap (fun i j _ _ h => by have h9 : H.size + 1 + i = H.size + 1 + j := h; omega) hnl hK2 (by rw [← vr_rows hnm]; exact vr_lay hP2) (by rw [← vr_rows hnm]; exact vr_layD hD2) ⟨by rw [f1]; have := hS.1; omega, fun x h1 h2 => (hold x (Nat.lt_of_lt_of_le h1 hS.1)).trans (hS.2.1 x h1 h2), hS.2.2⟩ F rfl X'
  refine ⟨t, step t ?_, b1⟩
  have e : T.heap.size = H.size := by rw [hT]
  rw [e]
  exact a1
end VGM
/-! ===== END ===== -/

/-! ===== BEGIN exceptions that leave a method, and their catching by the caller (launches without stack traces) ===== -/
section VXA
/-! The laws vx_back, vx_callV, vx_callS, vx_callSW, vx_throw0, vx_throwS follow proofs of the library, with one case more: JvmDerived/Free/Laws.lean (Back.of_free), Shelf42/LK1.lean (callV, callS), Shelf/KitTraced.lean (throwNew0V, throwNewS). -/
/-- where a method has thrown q: the class by its name, the cell, what was written, the world -/
def vx_T (XC : String → State → State → Prop) (st : State) (q : Addr) (t : State) (mc ms : Nat) (free : Addr → Prop) : Prop :=
  ∃ (E : String) (ce : Cell) (L : List Loc), XC E st t ∧ t.heap[q]? = some ce ∧ ce.vm = .none ∧ st.vm.findClass E = some ce.cls ∧ st.WarmedH t.vm ∧ st.sameButNew ({ t with vm := st.vm } : State) L mc ms ∧ ∀ z ∈ L, free z.base
def vx_Q (Qc : Array Value → State → Outcome → State → Prop) (XC : String → State → State → Prop) (mc ms : Nat) (free : Addr → Prop) : Array Value → State → Outcome → State → Prop := fun a st o t =>
  (Qc a st o t ∧ ∃ L, FrameEnd st o t L mc ms ∧ ∀ q ∈ L, free q.base) ∨ ∃ q, o = .threw q ∧ vx_T XC st q t mc ms free
/-- a callee that returns or throws -/
def vx_Met (l : Launch) (y : MethodName) (ws : List Cond) (rm : Room) (Pc : Array Value → State → Prop) (Qc : Array Value → State → Outcome → State → Prop) (XC : String → State → State → Prop) (mc ms : Nat) (free : Addr → Prop) : Prop :=
  MetFree l y (headSpec ws rm) Pc (fun _ _ _ _ _ => True) (vx_Q Qc XC mc ms free)
def vx_Post (XC : String → State → State → Prop) (mc ms : Nat) (free : Addr → Prop) : Pt → Array Value → Addr → Pt → Prop := fun A a q B =>
  ∃ (g : JFrame) (mk : MethodId) (t : State) (L : List Loc) (E : String) (ce : Cell), B.U.heap = t.heap ∧ B.U.vm = t.vm ∧ XC E (A.U.calling g mk a) t ∧ t.heap[q]? = some ce ∧ ce.vm = .none ∧ A.U.vm.findClass E = some ce.cls ∧ B.locs = A.locs ++ L ∧ (∀ z ∈ L, free z.base) ∧ B.cells = A.cells + mc ∧ B.slots = A.slots + ms
def vx_Back (l : Launch) (R : Room) (p : Program) (e : Env) (below : List Frame) (s : State) (sargs : Array Value) (y : MethodName) (len W9 : Nat)
    (Pre : Pt → Array Value → Prop) (Post : Pt → Array Value → Option Value → Pt → Prop) (PostX : Pt → Array Value → Addr → Pt → Prop) : Prop :=
  ∀ (m : MethodId) (meth : Method) (c : Code) (A : Pt) (g : JFrame) (ig : Instr) (mk : MethodId) (a : Array Value),
    Stand p l e R s m sargs below meth c A.U A.locs A.cells A.slots → g.method = m → g.locals.size = c.maxLocals → decode c.code g.pc = .ok (ig, len) →
    2 * g.monitorRoom + (g.stack.map fun v => v.category).sum ≤ W9 → A.U.methodNamed? y = some mk → Pre A a →
    (∃ (v : Option Value) (B : Pt), Stand p l e R s m sargs below meth c B.U B.locs B.cells B.slots ∧ Post A a v B ∧
      Steps p.tables e below (doInvoke e (A.U.setTop g) [] mk a).1 (B.U.setTop { g with pc := g.pc + len, stack := v.toList ++ g.stack })) ∨
    (∃ (q : Addr) (B : Pt), Stand p l e R s m sargs below meth c B.U B.locs B.cells B.slots ∧ PostX A a q B ∧
      Steps p.tables e below (doInvoke e (A.U.setTop g) [] mk a).1 ((B.U.setTop g).pushFrame (.throwing q)))
section Payer
variable {l : Launch} {R : Room} {p : Program} {e : Env} {below : List Frame} {s : State} {sargs : Array Value} {y : MethodName} {len W9 : Nat}
theorem vx_back {ws : List Cond} {rm : Room} {Pc : Array Value → State → Prop} {Qc : Array Value → State → Outcome → State → Prop} {XC : String → State → State → Prop} {mc ms : Nat} {free : Addr → Prop} {bytes : ByteArray} {maxL : Nat} {ret : Option FieldType}
    (hM : vx_Met l y ws rm Pc Qc XC mc ms free) (hblind : FrameBlind Pc) (hrc : rm.cells = mc) (hrs : rm.slots = ms)
    (hframes : rm.frames + 1 ≤ R.frames) (hlocals : W9 + (maxL + 11) + rm.locals ≤ R.locals)
    (hws : ∀ w ∈ ws, ∀ a' U, s.WarmedH U.vm → w.before a' U = true) (hcode : Cond.code y bytes maxL ret ∈ ws) (hinit : ∀ a' U, s.WarmedH U.vm → (Cond.initialized y.cls).before a' U = true) :
    vx_Back l R p e below s sargs y len W9 (PreOf R mc ms Pc) (PostOf Qc mc ms free) (vx_Post XC mc ms free) := by
  intro m meth c A g ig mk a X hg hsize hdg hW hn hp
  have h1 : (headSpec ws rm).pre.before a A.U = true := atoms_intro fun w hw => hws w hw _ _ X.warmed
  have h2 : (Cond.code y bytes maxL ret).before a A.U = true := hws _ hcode _ _ X.warmed
  have h3 : (Cond.initialized y.cls).before a A.U = true := hinit _ _ X.warmed
  have h4 : A.cells + (headSpec ws rm).room.cells ≤ R.cells := by rw [show (headSpec ws rm).room.cells = mc from hrc]; exact hp.1
  have h5 : A.slots + (headSpec ws rm).room.slots ≤ R.slots := by rw [show (headSpec ws rm).room.slots = ms from hrs]; exact hp.2.1
  have hPc : Pc a (A.U.calling g mk a) := hblind _ _ _ _ hp.2.2
  obtain ⟨U, Ls, c0, s0⟩ := A
  dsimp only [Pt.U, Pt.locs, Pt.cells, Pt.slots] at h1 h2 h3 h4 h5 X hn hPc ⊢
  obtain ⟨methY, cY, hmY, hcY, -, hlY, -, -, -, -⟩ := Cond.code_spec hn h2
  obtain ⟨kY, hkY, -⟩ := className_of_methodNamed hn
  have hinitY : kY.init = .initialized := Cond.initialized_spec (findClass_of_methodNamed hn) hkY h3
  have h : At U g.method c below := by rw [hg]; exact X.here
  have hlocals9 : W9 + (maxL + 11) + (headSpec ws rm).room.locals ≤ R.locals := hlocals
  have happ : (headSpec ws rm).appliesLoose y e.platform (U.calling g mk a) = true :=
    Spec.appliesLoose_calling (g := g) h hdg hn hkY hinitY
      (X.room_calling (g := g) (R' := (headSpec ws rm).room) hsize hmY hcY hframes (by rw [hlY]; omega) h4 h5) h1
  obtain ⟨mid, hmid⟩ := h.above
  have hfr : (U.setTop g).frames = (.java g :: mid) ++ below := by rw [State.frames_setTop' g h.top, hmid]; rfl
  obtain ⟨o, s₂, hsteps, -, hend, hq⟩ := Steps.callFree hM p X.admits X.cas X.clock (acts := []) hfr happ hPc trivial
  have hq' : vx_Q Qc XC mc ms free a (U.calling g mk a) o s₂ := hq
  rw [State.frames_setTop' g h.top] at hend
  obtain ⟨g₀, hg0⟩ := Option.isSome_iff_exists.mp h.top
  obtain ⟨r, hr⟩ := State.topJava?_eq_some.mp hg0
  have hr' : (({ U with heap := s₂.heap, slotsUsed := s₂.slotsUsed } : State).setVm s₂.vm).frames = .java g₀ :: r := hr
  rcases hq' with ⟨hqc, L, hfe, hL⟩ | ⟨q, rfl, E, ce, L, hx, hce, hcv, hcl, hW₂, hsm, hL⟩
  · obtain ⟨⟨v, rfl⟩, hW₂, e2, q2, q3, q4, q5, q6⟩ := id hfe
    have e3 : s₂ = ({ (U.calling g mk a).setFrames s₂.frames with heap := s₂.heap, slotsUsed := s₂.slotsUsed } : State).setVm s₂.vm := by
      have : s₂ = ({ s₂ with vm := (U.calling g mk a).vm } : State).setVm s₂.vm := rfl
      rw [e2] at this
      exact this
    obtain ⟨c₂, i₂, len₂, hc₂, hd₂, hf₂⟩ := hend
    have hW' : U.WarmedH s₂.vm := hW₂
    have hcc : c₂ = c := by
      have h1 : s₂.code? g.method = U.code? g.method := by
        rw [State.code?_eq, State.code?_eq, hW'.alike.method?]
      exact Option.some.inj (hc₂.symm.trans (h1.trans h.code))
    subst hcc
    have hlen : len₂ = len := by rw [hdg] at hd₂; cases hd₂; rfl
    subst hlen
    have hs₂ : s₂ = (({ U with heap := s₂.heap, slotsUsed := s₂.slotsUsed } : State).setVm s₂.vm).setTop { g with pc := g.pc + len₂, stack := v.toList ++ g.stack } := by
      refine e3.trans ?_
      rw [hf₂, State.calling_eq h.top, State.setFrames_setFrames, State.setTop_of_frames _ hr', hr]
      rfl
    have hsame : U.sameButNew ({ U with heap := s₂.heap, slotsUsed := s₂.slotsUsed } : State) L mc ms := by
      refine ⟨?_, q2, q3, q4, q5, q6⟩
      obtain ⟨t, ht, -⟩ := State.frames_cons hr
      show ({ U with heap := s₂.heap, slotsUsed := s₂.slotsUsed } : State) = { U.setFrames U.frames with heap := s₂.heap, slotsUsed := s₂.slotsUsed }
      rw [State.setFrames_self ht]
    subst hg
    refine Or.inl ⟨v, ⟨(({ U with heap := s₂.heap, slotsUsed := s₂.slotsUsed } : State).setVm s₂.vm), Ls ++ L, c0 + mc, s0 + ms⟩,
      ⟨X.admits, X.cas, X.clock, X.frames, X.room, X.hears, X.method, X.code, (X.here.setHeapUsed s₂.heap s₂.slotsUsed).setVm hW'.alike, X.tail, State.WarmedH.trans X.warmed hW', X.limits, X.bytes, X.same.trans (hsame.setVm s.vm)⟩,
      ⟨g, mk, s₂, L, rfl, rfl, hqc, rfl, hL, rfl, rfl⟩, ?_⟩
    show Steps p.tables e below _ ((({ U with heap := s₂.heap, slotsUsed := s₂.slotsUsed } : State).setVm s₂.vm).setTop { g with pc := g.pc + len₂, stack := v.toList ++ g.stack })
    rw [← hs₂]
    exact hsteps
  · obtain ⟨e2, q2, q3, q4, q5, q6⟩ := id hsm
    have e3 : s₂ = ({ (U.calling g mk a).setFrames s₂.frames with heap := s₂.heap, slotsUsed := s₂.slotsUsed } : State).setVm s₂.vm := by
      have : s₂ = ({ s₂ with vm := (U.calling g mk a).vm } : State).setVm s₂.vm := rfl
      rw [e2] at this
      exact this
    have hf₂ : s₂.frames = .throwing q :: .java g :: U.frames.tail := hend
    have hW' : U.WarmedH s₂.vm := hW₂
    have hs₂ : s₂ = ((({ U with heap := s₂.heap, slotsUsed := s₂.slotsUsed } : State).setVm s₂.vm).setTop g).pushFrame (.throwing q) := by
      refine e3.trans ?_
      rw [hf₂, State.calling_eq h.top, State.setFrames_setFrames, State.pushFrame, State.frames_setTop _ hr', State.setTop_of_frames _ hr', State.setFrames_setFrames, hr]
      rfl
    have hsame : U.sameButNew ({ U with heap := s₂.heap, slotsUsed := s₂.slotsUsed } : State) L mc ms := by
      refine ⟨?_, q2, q3, q4, q5, q6⟩
      obtain ⟨t, ht, -⟩ := State.frames_cons hr
      show ({ U with heap := s₂.heap, slotsUsed := s₂.slotsUsed } : State) = { U.setFrames U.frames with heap := s₂.heap, slotsUsed := s₂.slotsUsed }
      rw [State.setFrames_self ht]
    subst hg
    refine Or.inr ⟨q, ⟨(({ U with heap := s₂.heap, slotsUsed := s₂.slotsUsed } : State).setVm s₂.vm), Ls ++ L, c0 + mc, s0 + ms⟩,
      ⟨X.admits, X.cas, X.clock, X.frames, X.room, X.hears, X.method, X.code, (X.here.setHeapUsed s₂.heap s₂.slotsUsed).setVm hW'.alike, X.tail, State.WarmedH.trans X.warmed hW', X.limits, X.bytes, X.same.trans (hsame.setVm s.vm)⟩,
      ⟨g, mk, s₂, L, E, ce, rfl, rfl, hx, hce, hcv, hcl, rfl, hL, rfl, rfl⟩, ?_⟩
    show Steps p.tables e below _ (((({ U with heap := s₂.heap, slotsUsed := s₂.slotsUsed } : State).setVm s₂.vm).setTop g).pushFrame (.throwing q))
    rw [← hs₂]
    exact hsteps
end Payer
section Calls
variable {p : Program} {l : Launch} {e : Env} {R : Room} {s : State} {m : MethodId} {args : Array Value} {below : List Frame} {meth : Method} {c : Code} {T : State} {locs : List Loc} {cells slots : Nat}
theorem vx_callV (X : Stand p l e R s m args below meth c T locs cells slots) (hexec : p.tables.exec = Jvm.exec) {own C : String} {index : Nat} {y : MethodName} {bytes : ByteArray} {maxL : Nat} {ret : Option FieldType}
    (hown : s.vm.findClass own = some m.cls) (hlink : (Cond.methodLink own index y).before args s = true) (hinst : (Cond.instanceMethod y).before args s = true) (hsel : (Cond.selects C y y).before args s = true)
    (hcode : (Cond.code y bytes maxL ret).before args s = true) (hy : y.cls ≠ "java/lang/invoke/MethodHandle" ∧ y.cls ≠ "java/lang/invoke/VarHandle")
    {W9 : Nat} {Pre : Pt → Array Value → Prop} {Post : Pt → Array Value → Option Value → Pt → Prop} {PostX : Pt → Array Value → Addr → Pt → Prop} (hK : vx_Back l R p e below s args y 3 W9 Pre Post PostX)
    {b : Addr} {cellB : Cell} (hcell : T.heap[b]? = some cellB) (hobj : cellB.vm.isStatics = false) (hcls : s.vm.findClass C = some cellB.cls)
    {g : JFrame} (hg : g.method = m) (hsize : g.locals.size = c.maxLocals) {argsL rest : List Value} (hlen : ∀ sig, parseMethodDescriptor y.desc = some sig → argsL.length = sig.parameters.length)
    (hstack : g.stack = argsL.reverse ++ .ref b :: rest) (hW : 2 * g.monitorRoom + (rest.map fun v => v.category).sum ≤ W9) (hdg : decode c.code g.pc = .ok (.invokevirtual index, 3))
    (hpre : ∀ vm₁, s.WarmedH vm₁ → Pre ⟨T.setVm vm₁, locs, cells, slots⟩ (Value.ref b :: argsL).toArray) :
    (∃ (v : Option Value) (vm₁ : Vm) (B : Pt), s.WarmedH vm₁ ∧ Stand p l e R s m args below meth c B.U B.locs B.cells B.slots ∧ Post ⟨T.setVm vm₁, locs, cells, slots⟩ (Value.ref b :: argsL).toArray v B ∧
      ∀ target, Steps p.tables e below (B.U.setTop { g with pc := g.pc + 3, stack := v.toList ++ rest }) target → Steps p.tables e below (T.setTop g) target) ∨
    (∃ (q : Addr) (vm₁ : Vm) (B : Pt), s.WarmedH vm₁ ∧ Stand p l e R s m args below meth c B.U B.locs B.cells B.slots ∧ PostX ⟨T.setVm vm₁, locs, cells, slots⟩ (Value.ref b :: argsL).toArray q B ∧
      Steps p.tables e below (T.setTop g) ((B.U.setTop { g with stack := rest }).pushFrame (.throwing q))) := by
  obtain ⟨mk, methM, hnamed, hmethM, hstM, habM⟩ := Cond.instanceMethod_spec hinst
  obtain ⟨methM', cM, hmethM', -, -, -, -, -, -, hsigM⟩ := Cond.code_spec hnamed hcode
  cases hmethM.symm.trans hmethM'
  obtain ⟨c2, r2, m2, q1, q2, q3, q4, kP, hkP, hkPi⟩ := Cond.selects_spec hsel
  cases hcls.symm.trans q1
  cases (State.methodFound?_of_named hnamed hy).symm.trans q2
  cases hnamed.symm.trans q3
  have hselP : selectMethod e.platform s.vm cellB.cls mk = .method mk := by rw [Launch.admits_selectMethod X.admits]; exact q4
  obtain ⟨vm₁, X₁, hstep₁⟩ := X.invokevirtual hexec hown hlink hnamed hmethM hstM hkP hkPi hy (a := b) (cell := cellB) hcell
    (fun z h => by rw [h] at hobj; cases hobj) hselP hmethM habM hkP hkPi (g := g) hg (argsL := argsL) (rest := rest) (hlen _ hsigM) hstack hdg
  rcases hK m meth c ⟨T.setVm vm₁, locs, cells, slots⟩ { g with stack := rest } (.invokevirtual index) mk (Value.ref b :: argsL).toArray X₁ hg hsize hdg hW (X₁.named hnamed) (hpre vm₁ X₁.warmed) with ⟨v, B, X', hpost, hsteps⟩ | ⟨q, B, X', hpost, hsteps⟩
  · exact Or.inl ⟨v, vm₁, B, X₁.warmed, X', hpost, fun target h => hstep₁ _ fun acts => by rw [doInvoke_state]; exact hsteps.trans h⟩
  · exact Or.inr ⟨q, vm₁, B, X₁.warmed, X', hpost, hstep₁ _ fun acts => by rw [doInvoke_state]; exact hsteps⟩
theorem vx_callS (X : Stand p l e R s m args below meth c T locs cells slots) (hexec : p.tables.exec = Jvm.exec) {own : String} {index : Nat} {y : MethodName} {bytes : ByteArray} {maxL : Nat} {ret : Option FieldType}
    (hown : s.vm.findClass own = some m.cls) (hlink : (Cond.methodLink own index y).before args s = true) (hstat : (Cond.static y).before args s = true) (hinit : (Cond.initialized y.cls).before args s = true)
    (hcode : (Cond.code y bytes maxL ret).before args s = true) (hy : y.cls ≠ "java/lang/invoke/MethodHandle" ∧ y.cls ≠ "java/lang/invoke/VarHandle")
    {W9 : Nat} {Pre : Pt → Array Value → Prop} {Post : Pt → Array Value → Option Value → Pt → Prop} {PostX : Pt → Array Value → Addr → Pt → Prop} (hK : vx_Back l R p e below s args y 3 W9 Pre Post PostX)
    {g : JFrame} (hg : g.method = m) (hsize : g.locals.size = c.maxLocals) {argsL rest : List Value} (hlen : ∀ sig, parseMethodDescriptor y.desc = some sig → argsL.length = sig.parameters.length)
    (hstack : g.stack = argsL.reverse ++ rest) (hW : 2 * g.monitorRoom + (rest.map fun v => v.category).sum ≤ W9) (hdg : decode c.code g.pc = .ok (.invokestatic index, 3))
    (hpre : ∀ vm₁, s.WarmedH vm₁ → Pre ⟨T.setVm vm₁, locs, cells, slots⟩ argsL.toArray) :
    (∃ (v : Option Value) (vm₁ : Vm) (B : Pt), s.WarmedH vm₁ ∧ Stand p l e R s m args below meth c B.U B.locs B.cells B.slots ∧ Post ⟨T.setVm vm₁, locs, cells, slots⟩ argsL.toArray v B ∧
      ∀ target, Steps p.tables e below (B.U.setTop { g with pc := g.pc + 3, stack := v.toList ++ rest }) target → Steps p.tables e below (T.setTop g) target) ∨
    (∃ (q : Addr) (vm₁ : Vm) (B : Pt), s.WarmedH vm₁ ∧ Stand p l e R s m args below meth c B.U B.locs B.cells B.slots ∧ PostX ⟨T.setVm vm₁, locs, cells, slots⟩ argsL.toArray q B ∧
      Steps p.tables e below (T.setTop g) ((B.U.setTop { g with stack := rest }).pushFrame (.throwing q))) := by
  obtain ⟨mk, hnamed⟩ := Cond.code_named hcode
  obtain ⟨methM, cM, hmethM, -, -, -, -, -, -, hsigM⟩ := Cond.code_spec hnamed hcode
  have hstatic : methM.isStatic = true := Cond.static_spec hnamed hmethM hstat
  obtain ⟨kP, hkP, -⟩ := className_of_methodNamed hnamed
  have hinitP : kP.init = .initialized := Cond.initialized_spec (findClass_of_methodNamed hnamed) hkP hinit
  obtain ⟨vm₁, X₁, hstep₁⟩ := X.invokestatic hexec hown hlink hnamed hmethM hstatic hkP hinitP hy (g := g) hg (argsL := argsL) (rest := rest) (hlen _ hsigM) hstack hdg
  rcases hK m meth c ⟨T.setVm vm₁, locs, cells, slots⟩ { g with stack := rest } (.invokestatic index) mk argsL.toArray X₁ hg hsize hdg hW (X₁.named hnamed) (hpre vm₁ X₁.warmed) with ⟨v, B, X', hpost, hsteps⟩ | ⟨q, B, X', hpost, hsteps⟩
  · exact Or.inl ⟨v, vm₁, B, X₁.warmed, X', hpost, fun target h => hstep₁ _ fun acts => by rw [doInvoke_state]; exact hsteps.trans h⟩
  · exact Or.inr ⟨q, vm₁, B, X₁.warmed, X', hpost, hstep₁ _ fun acts => by rw [doInvoke_state]; exact hsteps⟩
end Calls
theorem vx_cls {s : State} {T : State} {vm₁ : Vm} {E : String} {k : ClassId} (hW : s.WarmedH vm₁) (h : (T.setVm vm₁).vm.findClass E = some k) : s.vm.findClass E = some k := by
  have h1 : vm₁.findClass E = some k := h
  rw [hW.alike.findClass] at h1
  exact h1
/-- the method's frame g, with q thrown over it -/
def vx_W (p : Program) (l : Launch) (e : Env) (R : Room) (s : State) (m : MethodId) (args : Array Value) (below : List Frame) (meth : Method) (c : Code) (H : Heap) (locs : List Loc) (cells slots : Nat) (Q : State → Prop) (g : JFrame) (q : Addr) : Prop :=
  ∀ T : State, T.heap = H → Stand p l e R s m args below meth c T locs cells slots → ∃ t, Steps p.tables e below ((T.setTop g).pushFrame (.throwing q)) t ∧ Q t
def vx_Run (p : Program) (l : Launch) (e : Env) (R : Room) (s : State) (m : MethodId) (args : Array Value) (below : List Frame) (meth : Method) (c : Code) (H : Heap) (locs : List Loc) (cells slots mc ms : Nat) (g : JFrame) (rest : List Value) (Qa : State → Outcome → State → Prop) (XC : String → State → State → Prop) (free : Addr → Prop) : Prop :=
  ∀ T : State, T.heap = H → Stand p l e R s m args below meth c T locs cells slots →
    (∃ (v : Option Value) (st₀ t T' : State) (L : List Loc), st₀.heap = H ∧ Stand p l e R s m args below meth c T' (locs ++ L) (cells + mc) (slots + ms) ∧ (∀ q ∈ L, free q.base) ∧ T'.heap = t.heap ∧ T'.vm = t.vm ∧ Qa st₀ (.returned v) t ∧
      Goes p e below T g T' { g with pc := g.pc + 3, stack := v.toList ++ rest }) ∨
    (∃ (q : Addr) (st₀ t T' : State) (L : List Loc) (E : String) (ce : Cell), st₀.heap = H ∧ Stand p l e R s m args below meth c T' (locs ++ L) (cells + mc) (slots + ms) ∧ (∀ z ∈ L, free z.base) ∧ T'.heap = t.heap ∧ T'.vm = t.vm ∧ XC E st₀ t ∧ t.heap[q]? = some ce ∧ ce.vm = .none ∧ s.vm.findClass E = some ce.cls ∧
      Steps p.tables e below (T.setTop g) ((T'.setTop { g with stack := rest }).pushFrame (.throwing q)))
def vx_X {S : Type} (px : S → Prop) (B : String → S → State → Prop) (A : Nat → Prop) : String → State → State → Prop := fun E st t => ∃ u : S, px u ∧ B E u t ∧ va_F A st t
section Runs
variable {p : Program} {l : Launch} {e : Env} {R : Room} {s : State} {m : MethodId} {args : Array Value} {below : List Frame} {meth : Method} {c : Code} {H : Heap} {locs : List Loc} {cells slots : Nat}
variable {y : MethodName} {bytes cc : ByteArray} {maxL nL mc ms n index : Nat} {ret : Option FieldType} {ws : List Cond} {rm : Room} {Pc : Array Value → State → Prop} {Qc : Array Value → State → Outcome → State → Prop} {XC : String → State → State → Prop} {free : Addr → Prop} {Ts : List Cond} {own C : String} {b : Addr} {As rest : List Value} {g : JFrame}
theorem vx_callBack (cb : CallB R s args own index y bytes maxL ret ws rm mc ms n) (hM : vx_Met l y ws rm Pc Qc XC mc ms free) (hbl : FrameBlind Pc) : vx_Back l R p e below s args y 3 8 (PreOf R mc ms Pc) (PostOf Qc mc ms free) (vx_Post XC mc ms free) := by
  obtain ⟨hrc, hrs, hfr, hlo, hws, hcw, -, hini, -⟩ := cb
  exact vx_back (bytes := bytes) (maxL := maxL) (ret := ret) hM hbl hrc hrs hfr hlo hws hcw (fun a' U hW => word_at hW (Or.inl (by first | rfl | simp [Cond.onTables, Cond.keeps, Cond.steady])) hini)
theorem vx_runV (S : CallFix p m c cc nL s args Ts own) (hM : vx_Met l y ws rm Pc Qc XC mc ms free) (cw : CallW R s args own C index y bytes maxL ret ws rm mc ms n) (hp : PreV s H C b Pc As)
    (hg : g.method = m) (hn : As.length = n) (hsize : g.locals.size = nL) (hstack : g.stack = As.reverse ++ .ref b :: rest) (hW : 2 * g.monitorRoom + (rest.map fun v => v.category).sum ≤ 8) (hdg : decode cc g.pc = .ok (.invokevirtual index, 3)) (hf : cells + mc ≤ R.cells ∧ slots + ms ≤ R.slots) :
    vx_Run p l e R s m args below meth c H locs cells slots mc ms g rest (Qc (Value.ref b :: As).toArray) XC free := by
  have hK : vx_Back l R p e below s args y 3 8 (PreOf R mc ms Pc) (PostOf Qc mc ms free) (vx_Post XC mc ms free) := vx_callBack cw.1 hM hp.1
  obtain ⟨⟨-, -, -, -, -, -, hcode, -, hy, hlen, hl⟩, hin, hse⟩ := cw
  obtain ⟨hx, hb, hml, ho, -⟩ := S
  obtain ⟨-, ⟨cellB, hcB, hoB, hclB⟩, hPc⟩ := hp
  intro T hT X
  rcases vx_callV X hx (C := C) (bytes := bytes) (maxL := maxL) (ret := ret) ho hl hin hse hcode hy hK (by rw [hT]; exact hcB) hoB hclB hg (hsize.trans hml.symm) (argsL := As) (rest := rest) (fun sig h => hn.trans (hlen sig h)) hstack hW (by rw [hb]; exact hdg)
    (fun vm₁ hW₁ => ⟨hf.1, hf.2, hPc (T.setVm vm₁) hT hW₁⟩) with ⟨v, vm₁, ⟨U', l2, c2, s2⟩, hW₁, X', ⟨g', mk, t, L, e1, e2, hq, h1, hL, h2, h3⟩, st⟩ | ⟨q, vm₁, ⟨U', l2, c2, s2⟩, hW₁, X', ⟨g', mk, t, L, E, ce, e1, e2, hq, hce, hcv, hcl, h1, hL, h2, h3⟩, st⟩
  · dsimp only [Pt.U, Pt.locs, Pt.cells, Pt.slots] at X' e1 e2 h1 h2 h3 st
    subst h1; subst h2; subst h3
    exact Or.inl ⟨v, (T.setVm vm₁).calling g' mk (Value.ref b :: As).toArray, t, U', L, hT, X', hL, e1, e2, hq, st⟩
  · dsimp only [Pt.U, Pt.locs, Pt.cells, Pt.slots] at X' e1 e2 h1 h2 h3 st hcl
    subst h1; subst h2; subst h3
    exact Or.inr ⟨q, (T.setVm vm₁).calling g' mk (Value.ref b :: As).toArray, t, U', L, E, ce, hT, X', hL, e1, e2, hq, hce, hcv, vx_cls hW₁ hcl, st⟩
theorem vx_runS (S : CallFix p m c cc nL s args Ts own) (hM : vx_Met l y ws rm Pc Qc XC mc ms free) (cw : CallB R s args own index y bytes maxL ret ws rm mc ms n ∧ (Cond.static y).before args s = true) (hp : PreS s H Pc As)
    (hg : g.method = m) (hn : As.length = n) (hsize : g.locals.size = nL) (hstack : g.stack = As.reverse ++ rest) (hW : 2 * g.monitorRoom + (rest.map fun v => v.category).sum ≤ 8) (hdg : decode cc g.pc = .ok (.invokestatic index, 3)) (hf : cells + mc ≤ R.cells ∧ slots + ms ≤ R.slots) :
    vx_Run p l e R s m args below meth c H locs cells slots mc ms g rest (Qc As.toArray) XC free := by
  have hK : vx_Back l R p e below s args y 3 8 (PreOf R mc ms Pc) (PostOf Qc mc ms free) (vx_Post XC mc ms free) := vx_callBack cw.1 hM hp.1
  obtain ⟨⟨-, -, -, -, -, -, hcode, hini, hy, hlen, hl⟩, hstt⟩ := cw
  obtain ⟨hx, hb, hml, ho, -⟩ := S
  intro T hT X
  rcases vx_callS X hx (bytes := bytes) (maxL := maxL) (ret := ret) ho hl hstt hini hcode hy hK hg (hsize.trans hml.symm) (argsL := As) (rest := rest) (fun sig h => hn.trans (hlen sig h)) hstack hW (by rw [hb]; exact hdg)
    (fun vm₁ hW₁ => ⟨hf.1, hf.2, hp.2 (T.setVm vm₁) hT hW₁⟩) with ⟨v, vm₁, ⟨U', l2, c2, s2⟩, hW₁, X', ⟨g', mk, t, L, e1, e2, hq, h1, hL, h2, h3⟩, st⟩ | ⟨q, vm₁, ⟨U', l2, c2, s2⟩, hW₁, X', ⟨g', mk, t, L, E, ce, e1, e2, hq, hce, hcv, hcl, h1, hL, h2, h3⟩, st⟩
  · dsimp only [Pt.U, Pt.locs, Pt.cells, Pt.slots] at X' e1 e2 h1 h2 h3 st
    subst h1; subst h2; subst h3
    exact Or.inl ⟨v, (T.setVm vm₁).calling g' mk As.toArray, t, U', L, hT, X', hL, e1, e2, hq, st⟩
  · dsimp only [Pt.U, Pt.locs, Pt.cells, Pt.slots] at X' e1 e2 h1 h2 h3 st hcl
    subst h1; subst h2; subst h3
    exact Or.inr ⟨q, (T.setVm vm₁).calling g' mk As.toArray, t, U', L, E, ce, hT, X', hL, e1, e2, hq, hce, hcv, vx_cls hW₁ hcl, st⟩
end Runs
section Rows
variable {p : Program} {l : Launch} {e : Env} {R : Room} {s : State} {m : MethodId} {args : Array Value} {below : List Frame} {meth : Method} {c : Code} {H : Heap} {locs : List Loc} {cells slots : Nat} {Q : State → Prop}
variable {mc ms : Nat} {free : Addr → Prop} {A0 A1 : Nat → Prop} {H0 : Heap} {a : Array Value} {pc : Nat} {ls : Array Slot} {st0 rest : List Value}
theorem vx_keep {st₀ t T' : State} {L : List Loc} (h0 : st₀.heap = H) (e1 : T'.heap = t.heap) (hS : va_S A0 H0 H locs) (hA : ∀ q, q < H.size → A1 q → A0 q) (hf : ∀ q, free q → A0 q) (hL : ∀ q ∈ L, free q.base) (hF : va_F A1 st₀ t) :
    H.size ≤ T'.heap.size ∧ (∀ q : Nat, q < H.size → ¬ A1 q → T'.heap[q]? = H[q]?) ∧ va_S A0 H0 T'.heap (locs ++ L) := by
  obtain ⟨hz, hk⟩ := hF
  rw [h0] at hz hk
  exact ⟨by rw [e1]; exact hz, fun q h1 h2 => by rw [e1]; exact hk q h1 h2,
    ⟨Nat.le_trans hS.1 (by rw [e1]; exact hz), fun q h1 h2 => by rw [e1, hk q (Nat.lt_of_lt_of_le h1 hS.1) (fun z => h2 (hA q (Nat.lt_of_lt_of_le h1 hS.1) z))]; exact hS.2.1 q h1 h2, fun q hq => by
      rcases List.mem_append.mp hq with h | h
      · exact hS.2.2 q h
      · exact hf _ (hL q h)⟩⟩
theorem vx_calli {S SX : Type} {post : Int32 → S → Prop} {px : SX → Prop} {B : S → State → Prop} {BX : String → SX → State → Prop} {AX : Nat → Prop} (hr : vx_Run p l e R s m args below meth c H locs cells slots mc ms (F0 m pc ls st0) rest (va_Qi post B A1 a) (vx_X px BX AX) free) (hS : va_S A0 H0 H locs) (hA : ∀ q, q < H.size → A1 q → A0 q) (hf : ∀ q, free q → A0 q) (hAX : ∀ q, q < H.size → AX q → A0 q)
    (kx : ∀ (E : String) (ce : Cell) (q9 : Addr) (u : SX) (t : State) (H1 : Heap) (locs1 : List Loc), t.heap = H1 → s.vm.Alike t.vm → px u → BX E u t → H.size ≤ H1.size → (∀ q : Nat, q < H.size → ¬ AX q → H1[q]? = H[q]?) → va_S A0 H0 H1 locs1 → H1[q9]? = some ce → ce.vm = .none → s.vm.findClass E = some ce.cls → vx_W p l e R s m args below meth c H1 locs1 (cells + mc) (slots + ms) Q (F0 m pc ls rest) q9)
    (kk : ∀ (r : Int32) (u : S) (t : State) (H1 : Heap) (locs1 : List Loc), t.heap = H1 → s.vm.Alike t.vm → post r u → B u t → H.size ≤ H1.size → (∀ q : Nat, q < H.size → ¬ A1 q → H1[q]? = H[q]?) → va_S A0 H0 H1 locs1 → W p l e R s m args below meth c H1 locs1 (cells + mc) (slots + ms) Q (F0 m (pc + 3) ls (.int r :: rest))) : W p l e R s m args below meth c H locs cells slots Q (F0 m pc ls st0) := by
  intro T hT X
  rcases hr T hT X with ⟨v, st₀, t, T', L, h0, X', hL, e1, e2, ⟨⟨r, u, hv, hp, hb⟩, hF⟩, st⟩ | ⟨q, st₀, t, T', L, E, ce, h0, X', hL, e1, e2, ⟨u, hp, hb, hF⟩, hce, hcv, hcl, st⟩
  · cases hv
    obtain ⟨k1, k2, k3⟩ := vx_keep h0 e1 hS hA hf hL hF
    obtain ⟨t2, a1, b1⟩ := kk r u t T'.heap (locs ++ L) e1.symm (by rw [← e2]; exact X'.warmed.alike) hp hb k1 k2 k3 T' rfl X'
    exact ⟨t2, st t2 a1, b1⟩
  · obtain ⟨k1, k2, k3⟩ := vx_keep h0 e1 hS hAX hf hL hF
    obtain ⟨t2, a1, b1⟩ := kx E ce q u t T'.heap (locs ++ L) e1.symm (by rw [← e2]; exact X'.warmed.alike) hp hb k1 k2 k3 (by rw [e1]; exact hce) hcv hcl T' rfl X'
    exact ⟨t2, st.trans a1, b1⟩
theorem vx_calll {S SX : Type} {post : Int64 → S → Prop} {px : SX → Prop} {B : S → State → Prop} {BX : String → SX → State → Prop} {AX : Nat → Prop} (hr : vx_Run p l e R s m args below meth c H locs cells slots mc ms (F0 m pc ls st0) rest (va_Ql post B A1 a) (vx_X px BX AX) free) (hS : va_S A0 H0 H locs) (hA : ∀ q, q < H.size → A1 q → A0 q) (hf : ∀ q, free q → A0 q) (hAX : ∀ q, q < H.size → AX q → A0 q)
    (kx : ∀ (E : String) (ce : Cell) (q9 : Addr) (u : SX) (t : State) (H1 : Heap) (locs1 : List Loc), t.heap = H1 → s.vm.Alike t.vm → px u → BX E u t → H.size ≤ H1.size → (∀ q : Nat, q < H.size → ¬ AX q → H1[q]? = H[q]?) → va_S A0 H0 H1 locs1 → H1[q9]? = some ce → ce.vm = .none → s.vm.findClass E = some ce.cls → vx_W p l e R s m args below meth c H1 locs1 (cells + mc) (slots + ms) Q (F0 m pc ls rest) q9)
    (kk : ∀ (r : Int64) (u : S) (t : State) (H1 : Heap) (locs1 : List Loc), t.heap = H1 → s.vm.Alike t.vm → post r u → B u t → H.size ≤ H1.size → (∀ q : Nat, q < H.size → ¬ A1 q → H1[q]? = H[q]?) → va_S A0 H0 H1 locs1 → W p l e R s m args below meth c H1 locs1 (cells + mc) (slots + ms) Q (F0 m (pc + 3) ls (.long r :: rest))) : W p l e R s m args below meth c H locs cells slots Q (F0 m pc ls st0) := by
  intro T hT X
  rcases hr T hT X with ⟨v, st₀, t, T', L, h0, X', hL, e1, e2, ⟨⟨r, u, hv, hp, hb⟩, hF⟩, st⟩ | ⟨q, st₀, t, T', L, E, ce, h0, X', hL, e1, e2, ⟨u, hp, hb, hF⟩, hce, hcv, hcl, st⟩
  · cases hv
    obtain ⟨k1, k2, k3⟩ := vx_keep h0 e1 hS hA hf hL hF
    obtain ⟨t2, a1, b1⟩ := kk r u t T'.heap (locs ++ L) e1.symm (by rw [← e2]; exact X'.warmed.alike) hp hb k1 k2 k3 T' rfl X'
    exact ⟨t2, st t2 a1, b1⟩
  · obtain ⟨k1, k2, k3⟩ := vx_keep h0 e1 hS hAX hf hL hF
    obtain ⟨t2, a1, b1⟩ := kx E ce q u t T'.heap (locs ++ L) e1.symm (by rw [← e2]; exact X'.warmed.alike) hp hb k1 k2 k3 (by rw [e1]; exact hce) hcv hcl T' rfl X'
    exact ⟨t2, st.trans a1, b1⟩
theorem vx_callf {S SX : Type} {post : UInt32 → S → Prop} {px : SX → Prop} {B : S → State → Prop} {BX : String → SX → State → Prop} {AX : Nat → Prop} (hr : vx_Run p l e R s m args below meth c H locs cells slots mc ms (F0 m pc ls st0) rest (va_Qf post B A1 a) (vx_X px BX AX) free) (hS : va_S A0 H0 H locs) (hA : ∀ q, q < H.size → A1 q → A0 q) (hf : ∀ q, free q → A0 q) (hAX : ∀ q, q < H.size → AX q → A0 q)
    (kx : ∀ (E : String) (ce : Cell) (q9 : Addr) (u : SX) (t : State) (H1 : Heap) (locs1 : List Loc), t.heap = H1 → s.vm.Alike t.vm → px u → BX E u t → H.size ≤ H1.size → (∀ q : Nat, q < H.size → ¬ AX q → H1[q]? = H[q]?) → va_S A0 H0 H1 locs1 → H1[q9]? = some ce → ce.vm = .none → s.vm.findClass E = some ce.cls → vx_W p l e R s m args below meth c H1 locs1 (cells + mc) (slots + ms) Q (F0 m pc ls rest) q9)
    (kk : ∀ (r : UInt32) (u : S) (t : State) (H1 : Heap) (locs1 : List Loc), t.heap = H1 → s.vm.Alike t.vm → post r u → B u t → H.size ≤ H1.size → (∀ q : Nat, q < H.size → ¬ A1 q → H1[q]? = H[q]?) → va_S A0 H0 H1 locs1 → W p l e R s m args below meth c H1 locs1 (cells + mc) (slots + ms) Q (F0 m (pc + 3) ls (.float r :: rest))) : W p l e R s m args below meth c H locs cells slots Q (F0 m pc ls st0) := by
  intro T hT X
  rcases hr T hT X with ⟨v, st₀, t, T', L, h0, X', hL, e1, e2, ⟨⟨r, u, hv, hp, hb⟩, hF⟩, st⟩ | ⟨q, st₀, t, T', L, E, ce, h0, X', hL, e1, e2, ⟨u, hp, hb, hF⟩, hce, hcv, hcl, st⟩
  · cases hv
    obtain ⟨k1, k2, k3⟩ := vx_keep h0 e1 hS hA hf hL hF
    obtain ⟨t2, a1, b1⟩ := kk r u t T'.heap (locs ++ L) e1.symm (by rw [← e2]; exact X'.warmed.alike) hp hb k1 k2 k3 T' rfl X'
    exact ⟨t2, st t2 a1, b1⟩
  · obtain ⟨k1, k2, k3⟩ := vx_keep h0 e1 hS hAX hf hL hF
    obtain ⟨t2, a1, b1⟩ := kx E ce q u t T'.heap (locs ++ L) e1.symm (by rw [← e2]; exact X'.warmed.alike) hp hb k1 k2 k3 (by rw [e1]; exact hce) hcv hcl T' rfl X'
    exact ⟨t2, st.trans a1, b1⟩
theorem vx_calld {S SX : Type} {post : UInt64 → S → Prop} {px : SX → Prop} {B : S → State → Prop} {BX : String → SX → State → Prop} {AX : Nat → Prop} (hr : vx_Run p l e R s m args below meth c H locs cells slots mc ms (F0 m pc ls st0) rest (va_Qd post B A1 a) (vx_X px BX AX) free) (hS : va_S A0 H0 H locs) (hA : ∀ q, q < H.size → A1 q → A0 q) (hf : ∀ q, free q → A0 q) (hAX : ∀ q, q < H.size → AX q → A0 q)
    (kx : ∀ (E : String) (ce : Cell) (q9 : Addr) (u : SX) (t : State) (H1 : Heap) (locs1 : List Loc), t.heap = H1 → s.vm.Alike t.vm → px u → BX E u t → H.size ≤ H1.size → (∀ q : Nat, q < H.size → ¬ AX q → H1[q]? = H[q]?) → va_S A0 H0 H1 locs1 → H1[q9]? = some ce → ce.vm = .none → s.vm.findClass E = some ce.cls → vx_W p l e R s m args below meth c H1 locs1 (cells + mc) (slots + ms) Q (F0 m pc ls rest) q9)
    (kk : ∀ (r : UInt64) (u : S) (t : State) (H1 : Heap) (locs1 : List Loc), t.heap = H1 → s.vm.Alike t.vm → post r u → B u t → H.size ≤ H1.size → (∀ q : Nat, q < H.size → ¬ A1 q → H1[q]? = H[q]?) → va_S A0 H0 H1 locs1 → W p l e R s m args below meth c H1 locs1 (cells + mc) (slots + ms) Q (F0 m (pc + 3) ls (.double r :: rest))) : W p l e R s m args below meth c H locs cells slots Q (F0 m pc ls st0) := by
  intro T hT X
  rcases hr T hT X with ⟨v, st₀, t, T', L, h0, X', hL, e1, e2, ⟨⟨r, u, hv, hp, hb⟩, hF⟩, st⟩ | ⟨q, st₀, t, T', L, E, ce, h0, X', hL, e1, e2, ⟨u, hp, hb, hF⟩, hce, hcv, hcl, st⟩
  · cases hv
    obtain ⟨k1, k2, k3⟩ := vx_keep h0 e1 hS hA hf hL hF
    obtain ⟨t2, a1, b1⟩ := kk r u t T'.heap (locs ++ L) e1.symm (by rw [← e2]; exact X'.warmed.alike) hp hb k1 k2 k3 T' rfl X'
    exact ⟨t2, st t2 a1, b1⟩
  · obtain ⟨k1, k2, k3⟩ := vx_keep h0 e1 hS hAX hf hL hF
    obtain ⟨t2, a1, b1⟩ := kx E ce q u t T'.heap (locs ++ L) e1.symm (by rw [← e2]; exact X'.warmed.alike) hp hb k1 k2 k3 (by rw [e1]; exact hce) hcv hcl T' rfl X'
    exact ⟨t2, st.trans a1, b1⟩
theorem vx_callv {S SX : Type} {post : S → Prop} {px : SX → Prop} {B : S → State → Prop} {BX : String → SX → State → Prop} {AX : Nat → Prop} (hr : vx_Run p l e R s m args below meth c H locs cells slots mc ms (F0 m pc ls st0) rest (va_Qv post B A1 a) (vx_X px BX AX) free) (hS : va_S A0 H0 H locs) (hA : ∀ q, q < H.size → A1 q → A0 q) (hf : ∀ q, free q → A0 q) (hAX : ∀ q, q < H.size → AX q → A0 q)
    (kx : ∀ (E : String) (ce : Cell) (q9 : Addr) (u : SX) (t : State) (H1 : Heap) (locs1 : List Loc), t.heap = H1 → s.vm.Alike t.vm → px u → BX E u t → H.size ≤ H1.size → (∀ q : Nat, q < H.size → ¬ AX q → H1[q]? = H[q]?) → va_S A0 H0 H1 locs1 → H1[q9]? = some ce → ce.vm = .none → s.vm.findClass E = some ce.cls → vx_W p l e R s m args below meth c H1 locs1 (cells + mc) (slots + ms) Q (F0 m pc ls rest) q9)
    (kk : ∀ (u : S) (t : State) (H1 : Heap) (locs1 : List Loc), t.heap = H1 → s.vm.Alike t.vm → post u → B u t → H.size ≤ H1.size → (∀ q : Nat, q < H.size → ¬ A1 q → H1[q]? = H[q]?) → va_S A0 H0 H1 locs1 → W p l e R s m args below meth c H1 locs1 (cells + mc) (slots + ms) Q (F0 m (pc + 3) ls (rest))) : W p l e R s m args below meth c H locs cells slots Q (F0 m pc ls st0) := by
  intro T hT X
  rcases hr T hT X with ⟨v, st₀, t, T', L, h0, X', hL, e1, e2, ⟨⟨u, hv, hp, hb⟩, hF⟩, st⟩ | ⟨q, st₀, t, T', L, E, ce, h0, X', hL, e1, e2, ⟨u, hp, hb, hF⟩, hce, hcv, hcl, st⟩
  · cases hv
    obtain ⟨k1, k2, k3⟩ := vx_keep h0 e1 hS hA hf hL hF
    obtain ⟨t2, a1, b1⟩ := kk u t T'.heap (locs ++ L) e1.symm (by rw [← e2]; exact X'.warmed.alike) hp hb k1 k2 k3 T' rfl X'
    exact ⟨t2, st t2 a1, b1⟩
  · obtain ⟨k1, k2, k3⟩ := vx_keep h0 e1 hS hAX hf hL hF
    obtain ⟨t2, a1, b1⟩ := kx E ce q u t T'.heap (locs ++ L) e1.symm (by rw [← e2]; exact X'.warmed.alike) hp hb k1 k2 k3 (by rw [e1]; exact hce) hcv hcl T' rfl X'
    exact ⟨t2, st.trans a1, b1⟩
/-- caught by the row x of this method's table; the rows ahead don't take it -/
theorem vx_catch {own name : String} {E : String} {ce : Cell} {q : Addr} (hown : s.vm.findClass own = some m.cls) (pre : List ExceptionTableEntry) (x : ExceptionTableEntry) (suf : List ExceptionTableEntry) (hsplit : c.exceptionTable.toList = pre ++ x :: suf)
    (hpass : ∀ z ∈ pre, covers z pc = false ∨ (z.catchType ≠ 0 ∧ ∃ nm : String, (Cond.classLink own z.catchType nm).before args s = true ∧ va_Nc E nm s)) (hx : covers x pc = true) (h0 : x.catchType ≠ 0)
    (hlink : (Cond.classLink own x.catchType name).before args s = true) (hcast : (Cond.castable E name).before args s = true) (hcell : H[q]? = some ce) (hv : ce.vm = .none) (hcl : s.vm.findClass E = some ce.cls)
    (kk : W p l e R s m args below meth c H locs cells slots Q (F0 m x.handlerPc ls [.ref q])) : vx_W p l e R s m args below meth c H locs cells slots Q (F0 m pc ls rest) q := by
  intro T hT X
  have hpl : e.platform.magicAccessors = ({} : Platform).magicAccessors := by rw [X.admits.platform]
  obtain ⟨c3, c4, hc3, hc4, hasg⟩ := Cond.castable_spec hcast
  cases Option.some.inj (hc3.symm.trans hcl)
  obtain ⟨c5, hc5, hcl5⟩ := Cond.classLink_spec hown hlink e.platform hpl
  cases Option.some.inj (hc4.symm.trans hc5)
  obtain ⟨vm', X', st⟩ := X.thenCaughtThrough q (g := F0 m pc ls rest) rfl (Steps.refl _) (by rw [hT]; exact hcell) (by rw [hv]; rfl) (by obtain ⟨k9, h9, -⟩ := Vm.findClass_spec hcl; exact ⟨k9, h9⟩) pre x suf hsplit
    (fun z hz => by
      rcases hpass z hz with h | ⟨hz0, nm, hl1, hn1⟩
      · exact Or.inl h
      · obtain ⟨c6, hc6, hcl6⟩ := Cond.classLink_spec hown hl1 e.platform hpl
        obtain ⟨a8, b8, h1, h2, h3⟩ := hn1
        cases Option.some.inj (h1.symm.trans hcl)
        cases Option.some.inj (h2.symm.trans hc6)
        exact Or.inr ⟨hz0, _, hcl6, h3⟩) hx (Or.inr ⟨h0, c4, hcl5, hasg⟩)
  obtain ⟨t, a1, b1⟩ := kk (T.setVm vm') hT X'
  exact ⟨t, st.trans a1, b1⟩
end Rows
section Ends
variable {p : Program} {l : Launch} {e : Env} {R : Room} {s : State} {m : MethodId} {args : Array Value} {below : List Frame} {meth : Method} {c : Code} {H : Heap} {locs : List Loc} {cells slots : Nat} {Q : State → Prop}
variable {mc ms : Nat} {free : Addr → Prop} {A0 A1 : Nat → Prop} {H0 : Heap} {a : Array Value} {ls : Array Slot} {st0 rest : List Value}
variable {Qc : Array Value → State → Outcome → State → Prop} {XC : String → State → State → Prop}
/-- what a body that may throw owes at its end -/
def vx_MQ (below : List Frame) (Qc : Array Value → State → Outcome → State → Prop) (XC : String → State → State → Prop) (a : Array Value) (s : State) (mc ms : Nat) (free : Addr → Prop) : State → Prop := fun t =>
  ∃ o, t.status = .running ∧ Ended t below o ∧ vx_Q Qc XC mc ms free a s o t
theorem vx_ret {g : JFrame} {mc ms : Nat} (k : W p l e R s m args below meth c H locs cells slots (MQ below Qc args s mc ms free) g) : W p l e R s m args below meth c H locs cells slots (vx_MQ below Qc XC args s mc ms free) g := by
  intro T hT X
  obtain ⟨t, a1, o, b1, b2, b3, b4⟩ := k T hT X
  exact ⟨t, a1, o, b1, b2, Or.inl ⟨b3, b4⟩⟩
/-- not caught here: it goes on to the caller -/
theorem vx_widen {g : JFrame} {q : Addr} {k n : Nat} (h1 : cells ≤ k) (h2 : slots ≤ n) (kk : vx_W p l e R s m args below meth c H locs k n Q g q) : vx_W p l e R s m args below meth c H locs cells slots Q g q := fun T hT X => kk T hT (stand_widen X h1 h2)
theorem vx_out {pc : Nat} {E : String} {ce : Cell} {q : Addr} {mc ms : Nat} (hout : ∀ x ∈ c.exceptionTable.toList, covers x pc = false) (hlocks : meth.locks = false) (hcell : H[q]? = some ce) (hv : ce.vm = .none) (hcl : s.vm.findClass E = some ce.cls)
    (hx : ∀ t : State, t.heap = H → s.vm.Alike t.vm → XC E s t) (hf : ∀ z ∈ locs, free z.base) (hc : cells ≤ mc) (hs : slots ≤ ms) :
    vx_W p l e R s m args below meth c H locs cells slots (vx_MQ below Qc XC args s mc ms free) (F0 m pc ls rest) q := by
  intro T hT X
  obtain ⟨st1, hrun, hend, hW, hsm⟩ := X.leaveThrown q (g := F0 m pc ls rest) rfl rfl rfl hout hlocks
  have hcell9 : (T.setFrames (.throwing q :: below)).heap[q]? = some ce := by
    show T.heap[q]? = some ce
    rw [hT]; exact hcell
  exact ⟨_, st1, .threw q, hrun, hend, Or.inr ⟨q, rfl, E, ce, locs, hx _ hT hW.alike, hcell9, hv, hcl, hW, hsm.mono hc hs, hf⟩⟩
theorem vx_frame {U : State} {k n : Nat} (h : s.sameButNew ({ U with vm := s.vm } : State) locs k n) : s.heap.size ≤ U.heap.size ∧ ∀ q : Nat, q < s.heap.size → (∀ z ∈ locs, z.base ≠ q) → U.heap[q]? = s.heap[q]? := by
  obtain ⟨-, h2, -, -, -, h6⟩ := h
  refine ⟨h2, fun q hq hz => ?_⟩
  obtain ⟨c9, e1, e2, e3, e4⟩ := h6 q _ (Array.getElem?_eq_getElem hq)
  have hs : c9.slots = (s.heap[q]).slots := Array.ext_getElem? fun i => e4 i fun hm => hz _ hm rfl
  have h9 : c9 = s.heap[q] := by
    rw [hs] at e2
    exact e2
  have e5 : U.heap[q]? = some c9 := e1
  rw [e5, h9, Array.getElem?_eq_getElem hq]
/-- the words of a throw but the four that speak of the heap -/
def vx_no (w : Cond) : Bool := decide (w ≠ .isRef (.static Bundle.tN "UNASSIGNED_STACK" Bundle.steD)) && decide (w ≠ .isRef (.static Bundle.tN "SUPPRESSED_SENTINEL" Bundle.listD)) && decide (w ≠ .laysStatic Bundle.tN "UNASSIGNED_STACK" Bundle.steD) && decide (w ≠ .laysStatic Bundle.tN "SUPPRESSED_SENTINEL" Bundle.listD)
def vx_at0 (own : String) (ic : Nat) (X : String) (names : List String) : List Cond := (Bundle.ownAtoms0 own ic X names).filter vx_no
def vx_atS (own : String) (ic : Nat) (X : String) (names : List String) : List Cond := (Bundle.ownAtoms own ic X names).filter vx_no
/-- a word that the tables alone decide, or a good one -/
def vx_ot (w : Cond) : Bool := w.onTables || goodWord w
theorem vx_ot_at {args a' : Array Value} {s U : State} {w : Cond} (hW : s.WarmedH U.vm) (hvm : s.vm = U.vm) (hg : vx_ot w = true) (h : w.before args s = true) : w.before a' U = true := by
  simp only [vx_ot, Bool.or_eq_true] at hg
  rcases hg with hg | hg
  · exact va_tabs hg hvm h
  · exact word_at hW (good_of_word hg) h
/-- a list's words: the good ones out of the method's own list, the others by premises of their own -/
theorem vx_hat {args : Array Value} {s : State} {L B : List Cond} (h1 : ∀ w ∈ L.filter goodWord, w.before args s = true) (h2 : ∀ w ∈ L.filter (fun w => !goodWord w), w ∈ B) (h3 : ∀ w ∈ B, w.before args s = true) : ∀ w ∈ L, w.before args s = true := by
  intro w hw
  by_cases g : goodWord w = true
  · exact h1 w (List.mem_filter.mpr ⟨hw, g⟩)
  · refine h3 w (h2 w (List.mem_filter.mpr ⟨hw, ?_⟩))
    show (!goodWord w) = true
    cases hgw : goodWord w
    · rfl
    · exact absurd hgw g
theorem vx_c {args : Array Value} {s : State} {w : Cond} {B : List Cond} (h : w.before args s = true) (t : ∀ w ∈ B, w.before args s = true) : ∀ w' ∈ w :: B, w'.before args s = true := fun w' h' => (List.mem_cons.mp h').elim (fun e => by rw [e]; exact h) (t w')
theorem vx_n {args : Array Value} {s : State} : ∀ w ∈ ([] : List Cond), w.before args s = true := fun _ h => nomatch h
theorem vx_own {args : Array Value} {s : State} {L : List Cond} (h1 : ∀ w ∈ L.filter vx_no, w.before args s = true)
    (hU : (Cond.isRef (.static Bundle.tN "UNASSIGNED_STACK" Bundle.steD)).before args s = true) (hN : (Cond.isRef (.static Bundle.tN "SUPPRESSED_SENTINEL" Bundle.listD)).before args s = true)
    (lU : (Cond.laysStatic Bundle.tN "UNASSIGNED_STACK" Bundle.steD).before args s = true) (lN : (Cond.laysStatic Bundle.tN "SUPPRESSED_SENTINEL" Bundle.listD).before args s = true) : ∀ w ∈ L, w.before args s = true := by
  intro w hw
  by_cases e1 : w = .isRef (.static Bundle.tN "UNASSIGNED_STACK" Bundle.steD)
  · rw [e1]; exact hU
  · by_cases e2 : w = .isRef (.static Bundle.tN "SUPPRESSED_SENTINEL" Bundle.listD)
    · rw [e2]; exact hN
    · by_cases e3 : w = .laysStatic Bundle.tN "UNASSIGNED_STACK" Bundle.steD
      · rw [e3]; exact lU
      · by_cases e4 : w = .laysStatic Bundle.tN "SUPPRESSED_SENTINEL" Bundle.listD
        · rw [e4]; exact lN
        · exact h1 w (List.mem_filter.mpr ⟨hw, by unfold vx_no; rw [decide_eq_true e1, decide_eq_true e2, decide_eq_true e3, decide_eq_true e4]; rfl⟩)
/-- where a static field lies, its class's statics cell in H -/
def vx_L (C n d : String) (A : Nat → Prop) (U : State) (H : Heap) : Prop := ∃ (c : ClassId) (k : Class) (i : Nat) (f : Field) (a : Nat) (cell : Cell), U.vm.findClass C = some c ∧ U.fieldFound? C n d = some (c, k, i, f) ∧ f.isStatic = true ∧ k.statics = some a ∧ H[a]? = some cell ∧ cell.vm.isStatics = true ∧ cell.cls = c ∧ f.slot < cell.slots.size ∧ k.staticTypes[f.slot]? = some f.type ∧ ¬ A a
theorem vx_L.moved {C n d : String} {A : Nat → Prop} {u U : State} {H : Heap} (hvm : u.vm.Alike U.vm) (h : vx_L C n d A u H) : vx_L C n d A U H := by
  obtain ⟨c, k, i, f, a, cell, h1, h2, h3, h4, h5, h6, h7, h8, h9, h10⟩ := h
  obtain ⟨k', hi', he⟩ := State.fieldFound?_setVm hvm h2
  exact ⟨c, k', i, f, a, cell, by rw [hvm.findClass]; exact h1, hi', h3, by rw [he]; exact h4, h5, h6, h7, h8, by rw [he]; exact h9, h10⟩
theorem vx_L.kept {C n d : String} {A : Nat → Prop} {U : State} {H H1 : Heap} (h : vx_L C n d A U H) (hq : ∀ a : Nat, a < H.size → ¬ A a → H1[a]? = H[a]?) : vx_L C n d A U H1 := by
  obtain ⟨c, k, i, f, a, cell, h1, h2, h3, h4, h5, h6, h7, h8, h9, h10⟩ := h
  exact ⟨c, k, i, f, a, cell, h1, h2, h3, h4, by rw [hq a (Array.getElem?_eq_some_iff.mp h5).1 h10]; exact h5, h6, h7, h8, h9, h10⟩
theorem vx_L.narrow {C n d : String} {A B : Nat → Prop} {U : State} {H : Heap} (h : vx_L C n d A U H) (hAB : ∀ q, B q → A q) : vx_L C n d B U H := by
  obtain ⟨c, k, i, f, a, cell, h1, h2, h3, h4, h5, h6, h7, h8, h9, h10⟩ := h
  exact ⟨c, k, i, f, a, cell, h1, h2, h3, h4, h5, h6, h7, h8, h9, fun z => h10 (hAB _ z)⟩
theorem vx_L.word {C n d : String} {A : Nat → Prop} {s : State} {args : Array Value} (h : vx_L C n d A s s.heap) : (Cond.laysStatic C n d).before args s = true := by
  obtain ⟨c, k, i, f, a, cell, h1, h2, h3, h4, h5, h6, h7, h8, h9, -⟩ := h
  show (Cond.laysStatic C n d).holds args s none s [] = true
  exact Cond.laysStatic_of h1 h2 h3 h4 h5 h6 h7 h8 h9
/-- .. and what it holds: null or some reference -/
def vx_Zq (C n d : String) (A : Nat → Prop) (U : State) (H : Heap) : Prop := va_Zq C n d A U H ∧ vx_L C n d A U H
theorem vx_Zq.moved {C n d : String} {A : Nat → Prop} {u U : State} {H : Heap} (hvm : u.vm.Alike U.vm) (h : vx_Zq C n d A u H) : vx_Zq C n d A U H := ⟨va_Zq.moved hvm h.1, vx_L.moved hvm h.2⟩
theorem vx_Zq.kept {C n d : String} {A : Nat → Prop} {U : State} {H H1 : Heap} (h : vx_Zq C n d A U H) (hq : ∀ a : Nat, a < H.size → ¬ A a → H1[a]? = H[a]?) : vx_Zq C n d A U H1 := ⟨va_Zq.kept h.1 hq, vx_L.kept h.2 hq⟩
theorem vx_Zq.narrow {C n d : String} {A B : Nat → Prop} {U : State} {H : Heap} (h : vx_Zq C n d A U H) (hAB : ∀ q, B q → A q) : vx_Zq C n d B U H := ⟨va_Zq.narrow h.1 hAB, vx_L.narrow h.2 hAB⟩
theorem vx_Zqof {args : Array Value} {s : State} {C n d : String} {A : Nat → Prop} (hl : (Cond.laysStatic C n d).before args s = true) (hini : (Cond.initialized C).before args s = true) (h : (Cond.isRef (.static C n d)).before args s = true) (hA : ∀ a : Nat, a < s.heap.size → ¬ A a) : vx_Zq C n d A s s.heap := by
  refine ⟨va_Zqof hl hini h hA, ?_⟩
  obtain ⟨c, k, i, f, a, cell, h1, h2, h3, h4, h5, h6, h7, h8, h9⟩ := Cond.laysStatic_spec hl
  exact ⟨c, k, i, f, a, cell, h1, h2, h3, h4, h5, h6, h7, h8, h9, hA a (Array.getElem?_eq_some_iff.mp h5).1⟩
theorem vx_isRef {C n d : String} {v : Value} {A : Nat → Prop} {s : State} {args : Array Value} (h : va_Z C n d v A s s.heap) (hv : v.isRef = true) : (Cond.isRef (.static C n d)).before args s = true := by
  obtain ⟨cf, kf, fi, f, a, cell, h1, h2, h3, h4, h5, h6, h7, -⟩ := h
  have he : (Term.static C n d).eval args s none [] s = some v := by
    simp [Term.eval, State.fieldNamed?, h1, h2, h4, h5, h6, h7]
  simp only [Cond.before, Cond.holds, Cond.value, he]
  cases v <;> simp_all [Value.isRef]
theorem vx_isRefq {C n d : String} {A : Nat → Prop} {s : State} {args : Array Value} (h : va_Zq C n d A s s.heap) : (Cond.isRef (.static C n d)).before args s = true := by
  rcases h with h | ⟨t, h⟩
  · exact vx_isRef h rfl
  · exact vx_isRef h rfl
/-- the same frame, seen from here: as if the method were called anew in this heap -/
theorem vx_rebase {T : State} (X : Stand p l e R s m args below meth c T locs cells slots) {R' : Room} (hf : R'.frames ≤ R.frames) (hl : R'.locals ≤ R.locals) (hc : cells + R'.cells ≤ R.cells) (hs : slots + R'.slots ≤ R.slots) :
    Stand p l e R' ((T.setVm s.vm).setFrames (.invoking m args :: below)) m args below meth c T [] 0 0 := by
  have htop : (T.setVm s.vm).topJava?.isSome := X.here.top
  have hF : ((T.setVm s.vm).setFrames (.invoking m args :: below)).frames = .invoking m args :: below := State.frames_setFrames _ (State.cur_lt_of_top htop)
  obtain ⟨g₀, hg0⟩ := Option.isSome_iff_exists.mp htop
  obtain ⟨r, hr⟩ := State.topJava?_eq_some.mp hg0
  have hl9 : e.platform.stackLimits (T.setVm s.vm).me = e.platform.stackLimits s.me := X.limits
  have hb9 : (T.setVm s.vm).me.stackBytes = s.me.stackBytes := X.bytes
  refine ⟨X.admits, X.cas, X.clock, hF, ?_, X.hears, X.method, X.code, X.here, X.tail, X.warmed, ?_, ?_, ?_⟩
  · have h := X.room
    have hU : ((T.setVm s.vm).setFrames (.invoking m args :: below)).localsInUse = s.localsInUse := by
      rw [State.localsInUse_invoking hF (meth := meth) (c := c) X.method X.code, State.localsInUse_invoking X.frames X.method X.code]
    simp only [State.hasRoom, Bool.and_eq_true, decide_eq_true_eq] at h ⊢
    obtain ⟨⟨⟨⟨h1, h2, h3, h4, h5, h6⟩, h7⟩, h8⟩, h9⟩ := h
    rw [X.frames, List.length_cons] at h2 h3
    have q1 := X.heapSize
    have q2 := X.used
    simp only [hF, hU, List.length_cons, State.stackLimits_setFrames, State.stackBytes_setFrames, hl9, hb9]
    refine ⟨⟨⟨⟨by omega, by omega, by omega, by omega, by omega, h6⟩, ?_⟩, ?_⟩, X.book⟩
    · show T.heap.size + R'.cells ≤ e.platform.maxCells
      omega
    · show T.slotsUsed + R'.slots ≤ e.platform.maxSlots
      omega
  · rw [State.stackLimits_setFrames]; rfl
  · rw [State.stackBytes_setFrames]; rfl
  · refine ⟨?_, Nat.le_refl _, Nat.le_refl _, ?_, ?_, fun a c9 h9 => ⟨c9, h9, rfl, rfl, fun _ _ => rfl⟩⟩
    · obtain ⟨t, ht, -⟩ := State.frames_cons hr
      show T.setVm s.vm = { ((T.setVm s.vm).setFrames (.invoking m args :: below)).setFrames (T.setVm s.vm).frames with heap := T.heap, slotsUsed := T.slotsUsed }
      rw [State.setFrames_setFrames, State.setFrames_self ht]
      rfl
    · show T.slotsUsed = T.slotsUsed + ((T.heap.toList.drop T.heap.size).map (·.slots.size)).sum
      rw [List.drop_eq_nil_of_le (Nat.le_of_eq Array.length_toList)]
      rfl
    · show ((T.heap.toList.drop T.heap.size).map (·.slots.size)).sum ≤ 0
      rw [List.drop_eq_nil_of_le (Nat.le_of_eq Array.length_toList)]
      exact Nat.le_refl _
/-- 'throw new E()': new; dup; invokespecial; athrow -/
theorem vx_throw0 {cc : ByteArray} {pc : Nat} (hexec : p.tables.exec = Jvm.exec) (hb : c.code = cc) (hl : l.stackTraces = false) {own cls : String} {names : List String} {ik ic mc ms : Nat} {A : Nat → Prop}
    (hown : s.vm.findClass own = some m.cls) (hcls : Bundle.fit cls = true) (hnames : ∀ n ∈ names, Bundle.fit n = true)
    (hk : (Cond.classLink own ik cls).before args s = true) (hini : (Cond.initialized cls).before args s = true) (hat : ∀ w ∈ vx_at0 own ic cls names, w.before args s = true)
    (hgood : ∀ w ∈ Cond.classLink own ik cls :: Cond.initialized cls :: vx_at0 own ic cls names, vx_ot w = true)
    (hU : vx_Zq Bundle.tN "UNASSIGNED_STACK" Bundle.steD A s s.heap) (hN : vx_Zq Bundle.tN "SUPPRESSED_SENTINEL" Bundle.listD A s s.heap) (hS : va_S A s.heap H locs) (hsize : ls.size = c.maxLocals)
    (d0 : decode cc pc = .ok (.new ik, 3)) (d3 : decode cc (pc + 3) = .ok (.dup, 1)) (d4 : decode cc (pc + 4) = .ok (.invokespecial ic, 3)) (d7 : decode cc (pc + 7) = .ok (.athrow, 1))
    (hout : ∀ x ∈ c.exceptionTable.toList, covers x (pc + 7) = false)
    (hRframes : names.length + 3 < R.frames) (hRlocals : (rest.map fun v => v.category).sum + (13 * (names.length + 1) + 42) ≤ R.locals) (hRcells : cells + 1 ≤ R.cells) (hRslots : slots + 6 ≤ R.slots) (hlocks : meth.locks = false)
    (hx : ∀ t : State, s.vm.Alike t.vm → H.size ≤ t.heap.size → (∀ q : Nat, q < H.size → t.heap[q]? = H[q]?) → XC cls s t)
    (hf : ∀ z ∈ locs, free z.base) (hc : cells + 1 ≤ mc) (hs : slots + 6 ≤ ms) :
    W p l e R s m args below meth c H locs cells slots (vx_MQ below Qc XC args s mc ms free) (F0 m pc ls rest) := by
  intro T hT X
  have htr : e.platform.stackTraces = false := (show e.platform.stackTraces = l.stackTraces by rw [X.admits.platform]).trans hl
  have Y := vx_rebase X (R' := { frames := R.frames, locals := R.locals, cells := 1, slots := 6 }) (Nat.le_refl _) (Nat.le_refl _) hRcells hRslots
  obtain ⟨s', hA⟩ : ∃ z, z = (T.setVm s.vm).setFrames (.invoking m args :: below) := ⟨_, rfl⟩
  rw [← hA] at Y
  have hvm : s'.vm = s.vm := by rw [hA]; rfl
  have hhp : s'.heap = H := by rw [hA]; exact hT
  have hW0 : s.WarmedH s'.vm := by rw [hvm]; exact State.WarmedH.refl s
  have hat' : ∀ w ∈ vx_at0 own ic cls names, w.before args s' = true := fun w hw => vx_ot_at hW0 hvm.symm (hgood w (List.mem_cons_of_mem _ (List.mem_cons_of_mem _ hw))) (hat w hw)
  have hk' : (Cond.classLink own ik cls).before args s' = true := vx_ot_at hW0 hvm.symm (hgood _ List.mem_cons_self) hk
  have hini' : (Cond.initialized cls).before args s' = true := vx_ot_at hW0 hvm.symm (hgood _ (List.mem_cons_of_mem _ List.mem_cons_self)) hini
  have hU' : vx_Zq Bundle.tN "UNASSIGNED_STACK" Bundle.steD A s' s'.heap := by rw [hhp]; exact vx_Zq.moved hW0.alike (hU.kept hS.2.1)
  have hN' : vx_Zq Bundle.tN "SUPPRESSED_SENTINEL" Bundle.listD A s' s'.heap := by rw [hhp]; exact vx_Zq.moved hW0.alike (hN.kept hS.2.1)
  have h : ∀ w ∈ Bundle.ownAtoms0 own ic cls names, w.before args s' = true := vx_own hat' (vx_isRefq hU'.1) (vx_isRefq hN'.1) hU'.2.word hN'.2.word
  have hown' : s'.vm.findClass own = some m.cls := by rw [hvm]; exact hown
  have hins : (Cond.instantiable cls 6).before args s' = true := h _ (by simp [Bundle.ownAtoms0])
  obtain ⟨vm₁, cX, kX, hfX, hkX, -, -, X₁, st1⟩ := Y.newCold hexec (own := own) (C := cls) (index := ik) (n := 6) hown' hk' hins hini'
    (g := F0 m pc ls rest) rfl (by rw [hb]; exact d0) (Nat.le_refl _) (Nat.le_refl _)
  generalize hT1 : (T.setVm vm₁).pushCell { cls := cX, slots := kX.instanceTypes.map defaultValue, vm := .none } = T1 at X₁ st1
  have hcat : (Value.ref T.heap.size).category = 1 := rfl
  have hcellA : T1.heap[T.heap.size]? = some (freshCell cX kX) := by rw [← hT1]; exact State.heap_pushCell_size _ _
  have d3' : decode c.code (pc + 3) = .ok (.dup, 1) := by rw [hb]; exact d3
  obtain ⟨U, hsteps, hrun, hend, hW, hsame, ce, hce, hO⟩ := X₁.ctorThrow0 hexec htr (own := own) (cls := cls) (names := names) (ic := ic) hown' hcls hnames h (fun x hx => nomatch hx) hfX hkX hcellA (by rw [hhp, hT]; exact Nat.le_refl _)
    (g := { method := m, pc := pc + 4, locals := ls, stack := .ref T.heap.size :: .ref T.heap.size :: rest, locked := none }) rfl hsize rfl rfl (rest := rest) rfl
    (by rw [hb]; exact d4) (by rw [hb]; exact d7) hout hRframes (by simp only [List.map_cons, List.sum_cons, hcat]; omega) hlocks
  obtain ⟨f1, f2⟩ := vx_frame hsame
  rw [hhp] at f1 f2
  have hWs : s.WarmedH U.vm := State.WarmedH.trans hW0 hW
  have hcl : s.vm.findClass cls = some ce.cls := by
    have h9 := hO.cls
    rw [hvm] at h9
    exact h9
  have hall : s.sameButNew ({ U with vm := s.vm } : State) locs mc ms := by
    subst hA
    obtain ⟨e1, e2⟩ := hsame
    rw [State.setFrames_setFrames] at e1
    have h2 : (T.setVm s.vm).sameButNew ({ U with vm := s.vm } : State) [] (0 + 1) (0 + 6) := ⟨e1, e2⟩
    have h3 := X.same.trans h2
    rw [List.append_nil] at h3
    exact h3.mono hc hs
  refine ⟨U, ?_, .threw T.heap.size, hrun, hend, Or.inr ⟨T.heap.size, rfl, cls, ce, locs, hx U hWs.alike f1 (fun q hq => f2 q hq (fun z hz => nomatch hz)), hce, hO.vm, hcl, hWs, hall, hf⟩⟩
  refine st1 _ ?_
  show Steps p.tables e below (T1.setTop { method := m, pc := pc + 3, locals := ls, stack := .ref T.heap.size :: rest, locked := none }) _
  jvm_step X₁.here [X₁.here.top, hexec, d3', Value.category]
  exact hsteps
/-- 'throw new E("text")': new; dup; ldc; invokespecial; athrow -/
theorem vx_throwS {cc : ByteArray} {pc : Nat} (hexec : p.tables.exec = Jvm.exec) (hb : c.code = cc) (hl : l.stackTraces = false) {own cls text : String} {names : List String} {ik is ic mc ms sa : Nat} {A : Nat → Prop}
    (hown : s.vm.findClass own = some m.cls) (hcls : Bundle.fit cls = true) (hnames : ∀ n ∈ names, Bundle.fit n = true)
    (hk : (Cond.classLink own ik cls).before args s = true) (hini : (Cond.initialized cls).before args s = true) (hstr : vk_R own is text sa s) (hat : ∀ w ∈ vx_atS own ic cls names, w.before args s = true)
    (hgood : ∀ w ∈ Cond.classLink own ik cls :: Cond.initialized cls :: vx_atS own ic cls names, vx_ot w = true)
    (hU : vx_Zq Bundle.tN "UNASSIGNED_STACK" Bundle.steD A s s.heap) (hN : vx_Zq Bundle.tN "SUPPRESSED_SENTINEL" Bundle.listD A s s.heap) (hS : va_S A s.heap H locs) (hsize : ls.size = c.maxLocals)
    (d0 : decode cc pc = .ok (.new ik, 3)) (d3 : decode cc (pc + 3) = .ok (.dup, 1)) (d4 : decode cc (pc + 4) = .ok (.ldc is, 2)) (d6 : decode cc (pc + 6) = .ok (.invokespecial ic, 3)) (d9 : decode cc (pc + 9) = .ok (.athrow, 1))
    (hout : ∀ x ∈ c.exceptionTable.toList, covers x (pc + 9) = false)
    (hRframes : names.length + 3 < R.frames) (hRlocals : (rest.map fun v => v.category).sum + (13 * (names.length + 1) + 43) ≤ R.locals) (hRcells : cells + 1 ≤ R.cells) (hRslots : slots + 6 ≤ R.slots) (hlocks : meth.locks = false)
    (hx : ∀ t : State, s.vm.Alike t.vm → H.size ≤ t.heap.size → (∀ q : Nat, q < H.size → t.heap[q]? = H[q]?) → XC cls s t)
    (hf : ∀ z ∈ locs, free z.base) (hc : cells + 1 ≤ mc) (hs : slots + 6 ≤ ms) :
    W p l e R s m args below meth c H locs cells slots (vx_MQ below Qc XC args s mc ms free) (F0 m pc ls rest) := by
  intro T hT X
  have htr : e.platform.stackTraces = false := (show e.platform.stackTraces = l.stackTraces by rw [X.admits.platform]).trans hl
  have Y := vx_rebase X (R' := { frames := R.frames, locals := R.locals, cells := 1, slots := 6 }) (Nat.le_refl _) (Nat.le_refl _) hRcells hRslots
  obtain ⟨s', hA⟩ : ∃ z, z = (T.setVm s.vm).setFrames (.invoking m args :: below) := ⟨_, rfl⟩
  rw [← hA] at Y
  have hvm : s'.vm = s.vm := by rw [hA]; rfl
  have hhp : s'.heap = H := by rw [hA]; exact hT
  have hW0 : s.WarmedH s'.vm := by rw [hvm]; exact State.WarmedH.refl s
  have hat' : ∀ w ∈ vx_atS own ic cls names, w.before args s' = true := fun w hw => vx_ot_at hW0 hvm.symm (hgood w (List.mem_cons_of_mem _ (List.mem_cons_of_mem _ hw))) (hat w hw)
  have hk' : (Cond.classLink own ik cls).before args s' = true := vx_ot_at hW0 hvm.symm (hgood _ List.mem_cons_self) hk
  have hini' : (Cond.initialized cls).before args s' = true := vx_ot_at hW0 hvm.symm (hgood _ (List.mem_cons_of_mem _ List.mem_cons_self)) hini
  have hU' : vx_Zq Bundle.tN "UNASSIGNED_STACK" Bundle.steD A s' s'.heap := by rw [hhp]; exact vx_Zq.moved hW0.alike (hU.kept hS.2.1)
  have hN' : vx_Zq Bundle.tN "SUPPRESSED_SENTINEL" Bundle.listD A s' s'.heap := by rw [hhp]; exact vx_Zq.moved hW0.alike (hN.kept hS.2.1)
  have h : ∀ w ∈ Bundle.ownAtoms own ic cls names, w.before args s' = true := vx_own hat' (vx_isRefq hU'.1) (vx_isRefq hN'.1) hU'.2.word hN'.2.word
  have hown' : s'.vm.findClass own = some m.cls := by rw [hvm]; exact hown
  have hins : (Cond.instantiable cls 6).before args s' = true := h _ (by simp [Bundle.ownAtoms])
  obtain ⟨vm₁, cX, kX, hfX, hkX, -, -, X₁, st1⟩ := Y.newCold hexec (own := own) (C := cls) (index := ik) (n := 6) hown' hk' hins hini'
    (g := F0 m pc ls rest) rfl (by rw [hb]; exact d0) (Nat.le_refl _) (Nat.le_refl _)
  generalize hT1 : (T.setVm vm₁).pushCell { cls := cX, slots := kX.instanceTypes.map defaultValue, vm := .none } = T1 at X₁ st1
  have hcat : (Value.ref T.heap.size).category = 1 := rfl
  have hcellA : T1.heap[T.heap.size]? = some (freshCell cX kX) := by rw [← hT1]; exact State.heap_pushCell_size _ _
  have d3' : decode c.code (pc + 3) = .ok (.dup, 1) := by rw [hb]; exact d3
  have d4' : decode c.code (pc + 4) = .ok (.ldc is, 2) := by rw [hb]; exact d4
  have hstr' : vk_R own is text sa s' := vk_R.warm hW0 hstr
  obtain ⟨U, hsteps, hrun, hend, hW, hsame, ce, hce, hO⟩ := X₁.ctorThrowS hexec htr (own := own) (cls := cls) (names := names) (ic := ic) hown' hcls hnames h (fun x hx => nomatch hx) hfX hkX hcellA (by rw [hhp, hT]; exact Nat.le_refl _) (msg := .ref sa) rfl
    (g := { method := m, pc := pc + 6, locals := ls, stack := .ref sa :: .ref T.heap.size :: .ref T.heap.size :: rest, locked := none }) rfl hsize rfl rfl (rest := rest) rfl
    (by rw [hb]; exact d6) (by rw [hb]; exact d9) hout hRframes (by simp only [List.map_cons, List.sum_cons, hcat]; omega) hlocks
  obtain ⟨f1, f2⟩ := vx_frame hsame
  rw [hhp] at f1 f2
  have hWs : s.WarmedH U.vm := State.WarmedH.trans hW0 hW
  have hcl : s.vm.findClass cls = some ce.cls := by
    have h9 := hO.cls
    rw [hvm] at h9
    exact h9
  have hall : s.sameButNew ({ U with vm := s.vm } : State) locs mc ms := by
    subst hA
    obtain ⟨e1, e2⟩ := hsame
    rw [State.setFrames_setFrames] at e1
    have h2 : (T.setVm s.vm).sameButNew ({ U with vm := s.vm } : State) [] (0 + 1) (0 + 6) := ⟨e1, e2⟩
    have h3 := X.same.trans h2
    rw [List.append_nil] at h3
    exact h3.mono hc hs
  refine ⟨U, ?_, .threw T.heap.size, hrun, hend, Or.inr ⟨T.heap.size, rfl, cls, ce, locs, hx U hWs.alike f1 (fun q hq => f2 q hq (fun z hz => nomatch hz)), hce, hO.vm, hcl, hWs, hall, hf⟩⟩
  refine st1 _ ?_
  show Steps p.tables e below (T1.setTop { method := m, pc := pc + 3, locals := ls, stack := .ref T.heap.size :: rest, locked := none }) _
  jvm_step X₁.here [X₁.here.top, hexec, d3', Value.category]
  exact X₁.ldcString hexec (own := own) (text := text) (index := is) (a := sa) hown' hstr'.1 hstr'.2
    (g := { method := m, pc := pc + 4, locals := ls, stack := .ref T.heap.size :: .ref T.heap.size :: rest, locked := none }) rfl d4' _ hsteps
/-- 'throw new E("text")', the text by a wide index -/
theorem vx_throwSW {cc : ByteArray} {pc : Nat} (hexec : p.tables.exec = Jvm.exec) (hb : c.code = cc) (hl : l.stackTraces = false) {own cls text : String} {names : List String} {ik is ic mc ms sa : Nat} {A : Nat → Prop}
    (hown : s.vm.findClass own = some m.cls) (hcls : Bundle.fit cls = true) (hnames : ∀ n ∈ names, Bundle.fit n = true)
    (hk : (Cond.classLink own ik cls).before args s = true) (hini : (Cond.initialized cls).before args s = true) (hstr : vk_R own is text sa s) (hat : ∀ w ∈ vx_atS own ic cls names, w.before args s = true)
    (hgood : ∀ w ∈ Cond.classLink own ik cls :: Cond.initialized cls :: vx_atS own ic cls names, vx_ot w = true)
    (hU : vx_Zq Bundle.tN "UNASSIGNED_STACK" Bundle.steD A s s.heap) (hN : vx_Zq Bundle.tN "SUPPRESSED_SENTINEL" Bundle.listD A s s.heap) (hS : va_S A s.heap H locs) (hsize : ls.size = c.maxLocals)
    (d0 : decode cc pc = .ok (.new ik, 3)) (d3 : decode cc (pc + 3) = .ok (.dup, 1)) (d4 : decode cc (pc + 4) = .ok (.ldc_w is, 3)) (d7 : decode cc (pc + 7) = .ok (.invokespecial ic, 3)) (d10 : decode cc (pc + 10) = .ok (.athrow, 1))
    (hout : ∀ x ∈ c.exceptionTable.toList, covers x (pc + 10) = false)
    (hRframes : names.length + 3 < R.frames) (hRlocals : (rest.map fun v => v.category).sum + (13 * (names.length + 1) + 43) ≤ R.locals) (hRcells : cells + 1 ≤ R.cells) (hRslots : slots + 6 ≤ R.slots) (hlocks : meth.locks = false)
    (hx : ∀ t : State, s.vm.Alike t.vm → H.size ≤ t.heap.size → (∀ q : Nat, q < H.size → t.heap[q]? = H[q]?) → XC cls s t)
    (hf : ∀ z ∈ locs, free z.base) (hc : cells + 1 ≤ mc) (hs : slots + 6 ≤ ms) :
    W p l e R s m args below meth c H locs cells slots (vx_MQ below Qc XC args s mc ms free) (F0 m pc ls rest) := by
  intro T hT X
  have htr : e.platform.stackTraces = false := (show e.platform.stackTraces = l.stackTraces by rw [X.admits.platform]).trans hl
  have Y := vx_rebase X (R' := { frames := R.frames, locals := R.locals, cells := 1, slots := 6 }) (Nat.le_refl _) (Nat.le_refl _) hRcells hRslots
  obtain ⟨s', hA⟩ : ∃ z, z = (T.setVm s.vm).setFrames (.invoking m args :: below) := ⟨_, rfl⟩
  rw [← hA] at Y
  have hvm : s'.vm = s.vm := by rw [hA]; rfl
  have hhp : s'.heap = H := by rw [hA]; exact hT
  have hW0 : s.WarmedH s'.vm := by rw [hvm]; exact State.WarmedH.refl s
  have hat' : ∀ w ∈ vx_atS own ic cls names, w.before args s' = true := fun w hw => vx_ot_at hW0 hvm.symm (hgood w (List.mem_cons_of_mem _ (List.mem_cons_of_mem _ hw))) (hat w hw)
  have hk' : (Cond.classLink own ik cls).before args s' = true := vx_ot_at hW0 hvm.symm (hgood _ List.mem_cons_self) hk
  have hini' : (Cond.initialized cls).before args s' = true := vx_ot_at hW0 hvm.symm (hgood _ (List.mem_cons_of_mem _ List.mem_cons_self)) hini
  have hU' : vx_Zq Bundle.tN "UNASSIGNED_STACK" Bundle.steD A s' s'.heap := by rw [hhp]; exact vx_Zq.moved hW0.alike (hU.kept hS.2.1)
  have hN' : vx_Zq Bundle.tN "SUPPRESSED_SENTINEL" Bundle.listD A s' s'.heap := by rw [hhp]; exact vx_Zq.moved hW0.alike (hN.kept hS.2.1)
  have h : ∀ w ∈ Bundle.ownAtoms own ic cls names, w.before args s' = true := vx_own hat' (vx_isRefq hU'.1) (vx_isRefq hN'.1) hU'.2.word hN'.2.word
  have hown' : s'.vm.findClass own = some m.cls := by rw [hvm]; exact hown
  have hins : (Cond.instantiable cls 6).before args s' = true := h _ (by simp [Bundle.ownAtoms])
  obtain ⟨vm₁, cX, kX, hfX, hkX, -, -, X₁, st1⟩ := Y.newCold hexec (own := own) (C := cls) (index := ik) (n := 6) hown' hk' hins hini'
    (g := F0 m pc ls rest) rfl (by rw [hb]; exact d0) (Nat.le_refl _) (Nat.le_refl _)
  generalize hT1 : (T.setVm vm₁).pushCell { cls := cX, slots := kX.instanceTypes.map defaultValue, vm := .none } = T1 at X₁ st1
  have hcat : (Value.ref T.heap.size).category = 1 := rfl
  have hcellA : T1.heap[T.heap.size]? = some (freshCell cX kX) := by rw [← hT1]; exact State.heap_pushCell_size _ _
  have d3' : decode c.code (pc + 3) = .ok (.dup, 1) := by rw [hb]; exact d3
  have d4' : decode c.code (pc + 4) = .ok (.ldc_w is, 3) := by rw [hb]; exact d4
  have hstr' : vk_R own is text sa s' := vk_R.warm hW0 hstr
  obtain ⟨U, hsteps, hrun, hend, hW, hsame, ce, hce, hO⟩ := X₁.ctorThrowS hexec htr (own := own) (cls := cls) (names := names) (ic := ic) hown' hcls hnames h (fun x hx => nomatch hx) hfX hkX hcellA (by rw [hhp, hT]; exact Nat.le_refl _) (msg := .ref sa) rfl
    (g := { method := m, pc := pc + 7, locals := ls, stack := .ref sa :: .ref T.heap.size :: .ref T.heap.size :: rest, locked := none }) rfl hsize rfl rfl (rest := rest) rfl
    (by rw [hb]; exact d7) (by rw [hb]; exact d10) hout hRframes (by simp only [List.map_cons, List.sum_cons, hcat]; omega) hlocks
  obtain ⟨f1, f2⟩ := vx_frame hsame
  rw [hhp] at f1 f2
  have hWs : s.WarmedH U.vm := State.WarmedH.trans hW0 hW
  have hcl : s.vm.findClass cls = some ce.cls := by
    have h9 := hO.cls
    rw [hvm] at h9
    exact h9
  have hall : s.sameButNew ({ U with vm := s.vm } : State) locs mc ms := by
    subst hA
    obtain ⟨e1, e2⟩ := hsame
    rw [State.setFrames_setFrames] at e1
    have h2 : (T.setVm s.vm).sameButNew ({ U with vm := s.vm } : State) [] (0 + 1) (0 + 6) := ⟨e1, e2⟩
    have h3 := X.same.trans h2
    rw [List.append_nil] at h3
    exact h3.mono hc hs
  refine ⟨U, ?_, .threw T.heap.size, hrun, hend, Or.inr ⟨T.heap.size, rfl, cls, ce, locs, hx U hWs.alike f1 (fun q hq => f2 q hq (fun z hz => nomatch hz)), hce, hO.vm, hcl, hWs, hall, hf⟩⟩
  refine st1 _ ?_
  show Steps p.tables e below (T1.setTop { method := m, pc := pc + 3, locals := ls, stack := .ref T.heap.size :: rest, locked := none }) _
  jvm_step X₁.here [X₁.here.top, hexec, d3', Value.category]
  exact X₁.ldcStringW hexec (own := own) (text := text) (index := is) (a := sa) hown' hstr'.1 hstr'.2
    (g := { method := m, pc := pc + 4, locals := ls, stack := .ref T.heap.size :: .ref T.heap.size :: rest, locked := none }) rfl d4' _ hsteps
end Ends
section Bodies
variable {l : Launch}
theorem vx_ofW {y : MethodName} {ws ws' : List Cond} {rm : Room} {Pc : Array Value → State → Prop} {Qc : Array Value → State → Outcome → State → Prop} {XC : String → State → State → Prop} {mc ms : Nat} {free : Addr → Prop} {cc : ByteArray} {maxL : Nat} {ret : Option FieldType}
    (hy : plainName y.cls = true) (hw : ws = Cond.code y cc maxL ret :: ws')
    (body : ∀ p e s m args below meth c s₁, BodyLoose p l y (headSpec ws rm) cc maxL ret e s m args below meth c s₁ → c.maxLocals = maxL → (∀ x ∈ c.exceptionTable.toList, False) → Pc args s →
      W p l e (headSpec ws rm).room s m args below meth c s.heap [] 0 0 (vx_MQ below Qc XC args s mc ms free) (entryFrame m args maxL)) : vx_Met l y ws rm Pc Qc XC mc ms free := by
  refine MetFree.of_bodyS (code := cc) (maxLocals := maxL) (ret := ret) hy ?_ ?_
  · intro args s m h hn
    obtain ⟨meth, c, h1, h2, h3, h4, h5, h6, -, -⟩ := Cond.code_spec hn (atoms_spec (ws := ws) h _ (by rw [hw]; exact List.mem_cons_self))
    exact ⟨meth, c, h1, h2, h3, h4, h5, h6⟩
  · intro p e s m args below meth c s₁ B hml hP _
    have hh0 : s₁.heap = s.heap := by rw [B.state]; rfl
    have ht : ∀ x ∈ c.exceptionTable.toList, False := by
      obtain ⟨meth9, c9, h1, h2, -, -, -, -, h7, -⟩ := Cond.code_spec B.named (atoms_spec (ws := ws) B.pre _ (by rw [hw]; exact List.mem_cons_self))
      cases Option.some.inj (h1.symm.trans B.method)
      cases Option.some.inj (h2.symm.trans (Stand.of_body B).code)
      intro x hx
      rw [Array.isEmpty_iff.mp h7] at hx
      cases hx
    obtain ⟨t, a1, o, b1, b2, b3⟩ := body p e s m args below meth c s₁ B hml ht hP s₁ hh0 (Stand.of_body B)
    exact ⟨t, o, a1, b1, b2, b3⟩
/-- the table of a body with handlers -/
theorem vx_table {p : Program} {x y : MethodName} {S : Spec} {cc bytes : ByteArray} {maxL maxL' : Nat} {ret ret' : Option FieldType} {e : Env} {s s₁ : State} {m : MethodId} {args : Array Value} {below : List Frame} {meth : Method} {c : Code} {hh : List (Nat × Nat × Nat × Nat)}
    (B : BodyLoose p l y S cc maxL ret e s m args below meth c s₁) (h : (Cond.codeWith y bytes maxL' ret' hh).before args s = true) : c.exceptionTable.toList = tableOf hh := by
  obtain ⟨m9, meth9, c9, hn9, h1, h2, -, -, h6, -⟩ := Cond.codeWith_spec h
  cases Option.some.inj (hn9.symm.trans B.named)
  cases Option.some.inj (h1.symm.trans B.method)
  cases Option.some.inj (h2.symm.trans (Stand.of_body B).code)
  rw [← h6, table_eq]
end Bodies
end VXA
/-! ===== END ===== -/
/-! ===== BEGIN a static call of a method with an exception table ===== -/
section VXS
variable {p : Program} {l : Launch} {e : Env} {R : Room} {s : State} {m : MethodId} {args : Array Value} {below : List Frame} {meth : Method} {c : Code} {T : State} {H : Heap} {locs : List Loc} {cells slots : Nat}
abbrev vx_CSW (R : Room) (s : State) (args : Array Value) (own : String) (index : Nat) (y : MethodName) (bytes : ByteArray) (maxL : Nat) (ret : Option FieldType) (hh : List (Nat × Nat × Nat × Nat)) (ws : List Cond) (rm : Room) (mc ms n : Nat) : Prop :=
  (rm.cells = mc ∧ rm.slots = ms ∧ rm.frames + 1 ≤ R.frames ∧ 8 + (maxL + 11) + rm.locals ≤ R.locals ∧ (∀ w ∈ ws, ∀ (a' : Array Value) (U : State), s.WarmedH U.vm → w.before a' U = true) ∧ Cond.codeWith y bytes maxL ret hh ∈ ws) ∧
  (Cond.codeWith y bytes maxL ret hh).before args s = true ∧ (Cond.initialized y.cls).before args s = true ∧ (y.cls ≠ "java/lang/invoke/MethodHandle" ∧ y.cls ≠ "java/lang/invoke/VarHandle") ∧
  (∀ sig, parseMethodDescriptor y.desc = some sig → n = sig.parameters.length) ∧ (Cond.methodLink own index y).before args s = true ∧ (Cond.static y).before args s = true
theorem vx_cwSW {own : String} {index maxL mc ms : Nat} {y : MethodName} {bytes : ByteArray} {ret : Option FieldType} {hh : List (Nat × Nat × Nat × Nat)} {Ts ws ws' : List Cond} {rm : Room} (n : Nat) (ht : ∀ w ∈ Ts, w.before args s = true) (hT : GoodIn Ts (va_wsS own index y ws)) (hw : ws = Cond.codeWith y bytes maxL ret hh :: ws') (hrc : rm.cells = mc) (hrs : rm.slots = ms)
    (hd : y.cls ≠ "java/lang/invoke/MethodHandle" ∧ y.cls ≠ "java/lang/invoke/VarHandle" ∧ (parseMethodDescriptor y.desc).map (fun d => d.parameters.length) = some n) (hR : rm.frames + 1 ≤ R.frames ∧ 8 + (maxL + 11) + rm.locals ≤ R.locals) :
    vx_CSW R s args own index y bytes maxL ret hh ws rm mc ms n := by
  have ok : ∀ w ∈ va_wsS own index y ws, w.before args s = true := fun w h => ht w (hT w h).1
  have hG : GoodIn Ts ws := fun w h => hT w (by unfold va_wsS; exact List.mem_append_right _ h)
  have hc : Cond.codeWith y bytes maxL ret hh ∈ ws := by rw [hw]; exact List.mem_cons_self
  refine ⟨⟨hrc, hrs, hR.1, hR.2, pay_in ht hG, hc⟩, ht _ (hG _ hc).1, ok _ (by simp [va_wsS]), ⟨hd.1, hd.2.1⟩, fun sig h => ?_, ok _ (by simp [va_wsS]), ok _ (by simp [va_wsS])⟩
  have h2 := hd.2.2
  rw [h] at h2
  exact (Option.some.inj h2).symm
theorem vx_callSW (X : Stand p l e R s m args below meth c T locs cells slots) (hexec : p.tables.exec = Jvm.exec) {own : String} {index : Nat} {y : MethodName} {bytes : ByteArray} {maxL : Nat} {ret : Option FieldType} {hh : List (Nat × Nat × Nat × Nat)}
    (hown : s.vm.findClass own = some m.cls) (hlink : (Cond.methodLink own index y).before args s = true) (hstat : (Cond.static y).before args s = true) (hinit : (Cond.initialized y.cls).before args s = true)
    (hcode : (Cond.codeWith y bytes maxL ret hh).before args s = true) (hy : y.cls ≠ "java/lang/invoke/MethodHandle" ∧ y.cls ≠ "java/lang/invoke/VarHandle")
    {W9 : Nat} {Pre : Pt → Array Value → Prop} {Post : Pt → Array Value → Option Value → Pt → Prop} (hK : Back l R p e below s args y 3 W9 Pre Post)
    {g : JFrame} (hg : g.method = m) (hsize : g.locals.size = c.maxLocals) {argsL rest : List Value} (hlen : ∀ sig, parseMethodDescriptor y.desc = some sig → argsL.length = sig.parameters.length)
    (hstack : g.stack = argsL.reverse ++ rest) (hW : 2 * g.monitorRoom + (rest.map fun v => v.category).sum ≤ W9) (hdg : decode c.code g.pc = .ok (.invokestatic index, 3))
    (hpre : ∀ vm₁, s.WarmedH vm₁ → Pre ⟨T.setVm vm₁, locs, cells, slots⟩ argsL.toArray) :
    ∃ (v : Option Value) (vm₁ : Vm) (B : Pt), s.WarmedH vm₁ ∧ Stand p l e R s m args below meth c B.U B.locs B.cells B.slots ∧ Post ⟨T.setVm vm₁, locs, cells, slots⟩ argsL.toArray v B ∧
      ∀ target, Steps p.tables e below (B.U.setTop { g with pc := g.pc + 3, stack := v.toList ++ rest }) target → Steps p.tables e below (T.setTop g) target := by
  obtain ⟨mk, methM, cM, hnamed, hmethM, -, -, -, -, -, -, hsigM⟩ := Cond.codeWith_spec hcode
  have hstatic : methM.isStatic = true := Cond.static_spec hnamed hmethM hstat
  obtain ⟨kP, hkP, -⟩ := className_of_methodNamed hnamed
  have hinitP : kP.init = .initialized := Cond.initialized_spec (findClass_of_methodNamed hnamed) hkP hinit
  obtain ⟨vm₁, X₁, hstep₁⟩ := X.invokestatic hexec hown hlink hnamed hmethM hstatic hkP hinitP hy (g := g) hg (argsL := argsL) (rest := rest) (hlen _ hsigM) hstack hdg
  obtain ⟨v, B, X', hpost, hsteps⟩ := hK m meth c ⟨T.setVm vm₁, locs, cells, slots⟩ { g with stack := rest } (.invokestatic index) mk argsL.toArray X₁ hg hsize hdg hW (X₁.named hnamed) (hpre vm₁ X₁.warmed)
  exact ⟨v, vm₁, B, X₁.warmed, X', hpost, fun target h => hstep₁ _ fun acts => by rw [doInvoke_state]; exact hsteps.trans h⟩
theorem vx_runSW {y : MethodName} {bytes cc : ByteArray} {maxL nL mc ms n index : Nat} {ret : Option FieldType} {hh : List (Nat × Nat × Nat × Nat)} {ws : List Cond} {rm : Room} {Pc : Array Value → State → Prop} {Qc : Array Value → State → Outcome → State → Prop} {free : Addr → Prop} {Ts : List Cond} {own : String} {As rest : List Value} {g : JFrame}
    (S : CallFix p m c cc nL s args Ts own) (hM : Met l y ws rm Pc Qc mc ms free) (cw : vx_CSW R s args own index y bytes maxL ret hh ws rm mc ms n) (hp : PreS s H Pc As)
    (hg : g.method = m) (hn : As.length = n) (hsize : g.locals.size = nL) (hstack : g.stack = As.reverse ++ rest) (hW : 2 * g.monitorRoom + (rest.map fun v => v.category).sum ≤ 8) (hdg : decode cc g.pc = .ok (.invokestatic index, 3)) (hf : cells + mc ≤ R.cells ∧ slots + ms ≤ R.slots) :
    va_Run p l e R s m args below meth c H locs cells slots mc ms g rest (Qc As.toArray) (free) := by
  obtain ⟨⟨hrc, hrs, hfr, hlo, hws, hcw⟩, hcode, hini, hy, hlen, hl, hstt⟩ := cw
  have hK : Back l R p e below s args y 3 8 (PreOf R mc ms Pc) (PostOf Qc mc ms free) := va_backW (hh := hh) (bytes := bytes) (maxL := maxL) (ret := ret) hM hp.1 hrc hrs hfr hlo hws hcw (fun a' U hW => word_at hW (Or.inl (by first | rfl | simp [Cond.onTables, Cond.keeps, Cond.steady])) hini)
  obtain ⟨hx, hb, hml, ho, -⟩ := S
  intro T hT X
  obtain ⟨v, vm₁, ⟨U', l2, c2, s2⟩, hW₁, X', ⟨g', mk, t, L, e1, e2, hq, h1, hL, h2, h3⟩, st⟩ := vx_callSW X hx (hh := hh) (bytes := bytes) (maxL := maxL) (ret := ret) ho hl hstt hini hcode hy hK hg (hsize.trans hml.symm) (argsL := As) (rest := rest) (fun sig h => hn.trans (hlen sig h)) hstack hW (by rw [hb]; exact hdg)
    (fun vm₁ hW₁ => ⟨hf.1, hf.2, hp.2 (T.setVm vm₁) hT hW₁⟩)
  dsimp only [Pt.U, Pt.locs, Pt.cells, Pt.slots] at X' e1 e2 h1 h2 h3 st
  subst h1; subst h2; subst h3
  exact ⟨v, (T.setVm vm₁).calling g' mk As.toArray, t, U', L, hT, X', hL, e1, e2, hq, st⟩
/-- not caught here, past rows that name other classes: it goes on to the caller -/
theorem vx_outP {p : Program} {l : Launch} {e : Env} {R : Room} {s : State} {m : MethodId} {args : Array Value} {below : List Frame} {meth : Method} {c : Code} {H : Heap} {locs : List Loc} {cells slots : Nat} {free : Addr → Prop} {ls : Array Slot} {rest : List Value} {Qc : Array Value → State → Outcome → State → Prop} {XC : String → State → State → Prop}
    {pc : Nat} {own E : String} {ce : Cell} {q : Addr} {mc ms : Nat} (hown : s.vm.findClass own = some m.cls) (hlocks : meth.locks = false)
    (hpass : ∀ z ∈ c.exceptionTable.toList, covers z pc = false ∨ (z.catchType ≠ 0 ∧ ∃ nm : String, (Cond.classLink own z.catchType nm).before args s = true ∧ va_Nc E nm s)) (hcell : H[q]? = some ce) (hv : ce.vm = .none) (hcl : s.vm.findClass E = some ce.cls)
    (hx : ∀ t : State, t.heap = H → s.vm.Alike t.vm → XC E s t) (hf : ∀ z ∈ locs, free z.base) (hc : cells ≤ mc) (hs : slots ≤ ms) :
    vx_W p l e R s m args below meth c H locs cells slots (vx_MQ below Qc XC args s mc ms free) (F0 m pc ls rest) q := by
  intro T hT X
  have hpl : e.platform.magicAccessors = ({} : Platform).magicAccessors := by rw [X.admits.platform]
  obtain ⟨vm', hW', X', st⟩ := X.outThrough hlocks q (g := F0 m pc ls rest) rfl rfl rfl (cell := ce) (by rw [hT]; exact hcell) (by rw [hv]; rfl)
    (by obtain ⟨k9, h9, -⟩ := Vm.findClass_spec hcl; exact ⟨k9, h9⟩) (fun z hz => by
      rcases hpass z hz with h | ⟨hz0, nm, hl1, hn1⟩
      · exact Or.inl h
      · obtain ⟨c6, hc6, hcl6⟩ := Cond.classLink_spec hown hl1 e.platform hpl
        obtain ⟨a8, b8, h1, h2, h3⟩ := hn1
        cases Option.some.inj (h1.symm.trans hcl)
        cases Option.some.inj (h2.symm.trans hc6)
        exact Or.inr ⟨hz0, _, hcl6, h3⟩)
  obtain ⟨g₀, hfr⟩ := X'.frames_eq
  have hcell9 : ((T.setVm vm').setFrames (.throwing q :: below)).heap[q]? = some ce := by
    show T.heap[q]? = some ce
    rw [hT]; exact hcell
  have hend : Ended ((T.setVm vm').setFrames (.throwing q :: below)) below (.threw q) := State.frames_setFrames _ (State.cur_lt_of_frames hfr)
  refine ⟨(T.setVm vm').setFrames (.throwing q :: below), ?_, .threw q, X'.here.running, hend, Or.inr ⟨q, rfl, E, ce, locs, hx _ hT (X'.ends _).1.alike, hcell9, hv, hcl, (X'.ends _).1, (X'.ends _).2.mono hc hs, hf⟩⟩
  rw [X.pushThrowing_eq]
  exact st
/-- a thing of a world lies in the heap -/
theorem vx_lt {D : va_G} {cl : List vw_C} {ws : va_W} {H1 : Heap} (h : va_P D cl ws H1) {k : Nat} {q : Nat × va_E} (hk : ws[k]? = some q) : q.1 < H1.size := (h k q hk).lt
end VXS
/-! ===== END ===== -/
/-! ===== BEGIN methods with a table of their own: called by a name, returning or throwing ===== -/
section VXH
/-! vx_backW, vx_callVX, vx_callSX, vx_callVW, vx_runVW, vx_runVX, vx_runSX, vx_ofWH follow the same proofs as their sisters above (Free/Laws.lean, Shelf42/LK1.lean); vx_outP calls Shelf42/NT130.lean (outThrough). -/
section
variable {l : Launch} {R : Room} {p : Program} {e : Env} {below : List Frame} {s : State} {sargs : Array Value} {y : MethodName} {len W9 : Nat}
theorem vx_backW {ws : List Cond} {rm : Room} {Pc : Array Value → State → Prop} {Qc : Array Value → State → Outcome → State → Prop} {XC : String → State → State → Prop} {mc ms : Nat} {free : Addr → Prop} {bytes : ByteArray} {maxL : Nat} {ret : Option FieldType} {hh : List (Nat × Nat × Nat × Nat)}
    (hM : vx_Met l y ws rm Pc Qc XC mc ms free) (hblind : FrameBlind Pc) (hrc : rm.cells = mc) (hrs : rm.slots = ms)
    (hframes : rm.frames + 1 ≤ R.frames) (hlocals : W9 + (maxL + 11) + rm.locals ≤ R.locals)
    (hws : ∀ w ∈ ws, ∀ a' U, s.WarmedH U.vm → w.before a' U = true) (hcode : Cond.codeWith y bytes maxL ret hh ∈ ws) (hinit : ∀ a' U, s.WarmedH U.vm → (Cond.initialized y.cls).before a' U = true) :
    vx_Back l R p e below s sargs y len W9 (PreOf R mc ms Pc) (PostOf Qc mc ms free) (vx_Post XC mc ms free) := by
  intro m meth c A g ig mk a X hg hsize hdg hW hn hp
  have h1 : (headSpec ws rm).pre.before a A.U = true := atoms_intro fun w hw => hws w hw _ _ X.warmed
  have h2 : (Cond.codeWith y bytes maxL ret hh).before a A.U = true := hws _ hcode _ _ X.warmed
  have h3 : (Cond.initialized y.cls).before a A.U = true := hinit _ _ X.warmed
  have h4 : A.cells + (headSpec ws rm).room.cells ≤ R.cells := by rw [show (headSpec ws rm).room.cells = mc from hrc]; exact hp.1
  have h5 : A.slots + (headSpec ws rm).room.slots ≤ R.slots := by rw [show (headSpec ws rm).room.slots = ms from hrs]; exact hp.2.1
  have hPc : Pc a (A.U.calling g mk a) := hblind _ _ _ _ hp.2.2
  obtain ⟨U, Ls, c0, s0⟩ := A
  dsimp only [Pt.U, Pt.locs, Pt.cells, Pt.slots] at h1 h2 h3 h4 h5 X hn hPc ⊢
  obtain ⟨m9, methY, cY, hn9, hmY, hcY, -, hlY, -⟩ := Cond.codeWith_spec h2
  cases Option.some.inj (hn9.symm.trans hn)
  obtain ⟨kY, hkY, -⟩ := className_of_methodNamed hn
  have hinitY : kY.init = .initialized := Cond.initialized_spec (findClass_of_methodNamed hn) hkY h3
  have h : At U g.method c below := by rw [hg]; exact X.here
  have hlocals9 : W9 + (maxL + 11) + (headSpec ws rm).room.locals ≤ R.locals := hlocals
  have happ : (headSpec ws rm).appliesLoose y e.platform (U.calling g mk a) = true :=
    Spec.appliesLoose_calling (g := g) h hdg hn hkY hinitY
      (X.room_calling (g := g) (R' := (headSpec ws rm).room) hsize hmY hcY hframes (by rw [hlY]; omega) h4 h5) h1
  obtain ⟨mid, hmid⟩ := h.above
  have hfr : (U.setTop g).frames = (.java g :: mid) ++ below := by rw [State.frames_setTop' g h.top, hmid]; rfl
  obtain ⟨o, s₂, hsteps, -, hend, hq⟩ := Steps.callFree hM p X.admits X.cas X.clock (acts := []) hfr happ hPc trivial
  have hq' : vx_Q Qc XC mc ms free a (U.calling g mk a) o s₂ := hq
  rw [State.frames_setTop' g h.top] at hend
  obtain ⟨g₀, hg0⟩ := Option.isSome_iff_exists.mp h.top
  obtain ⟨r, hr⟩ := State.topJava?_eq_some.mp hg0
  have hr' : (({ U with heap := s₂.heap, slotsUsed := s₂.slotsUsed } : State).setVm s₂.vm).frames = .java g₀ :: r := hr
  rcases hq' with ⟨hqc, L, hfe, hL⟩ | ⟨q, rfl, E, ce, L, hx, hce, hcv, hcl, hW₂, hsm, hL⟩
  · obtain ⟨⟨v, rfl⟩, hW₂, e2, q2, q3, q4, q5, q6⟩ := id hfe
    have e3 : s₂ = ({ (U.calling g mk a).setFrames s₂.frames with heap := s₂.heap, slotsUsed := s₂.slotsUsed } : State).setVm s₂.vm := by
      have : s₂ = ({ s₂ with vm := (U.calling g mk a).vm } : State).setVm s₂.vm := rfl
      rw [e2] at this
      exact this
    obtain ⟨c₂, i₂, len₂, hc₂, hd₂, hf₂⟩ := hend
    have hW' : U.WarmedH s₂.vm := hW₂
    have hcc : c₂ = c := by
      have h1 : s₂.code? g.method = U.code? g.method := by
        rw [State.code?_eq, State.code?_eq, hW'.alike.method?]
      exact Option.some.inj (hc₂.symm.trans (h1.trans h.code))
    subst hcc
    have hlen : len₂ = len := by rw [hdg] at hd₂; cases hd₂; rfl
    subst hlen
    have hs₂ : s₂ = (({ U with heap := s₂.heap, slotsUsed := s₂.slotsUsed } : State).setVm s₂.vm).setTop { g with pc := g.pc + len₂, stack := v.toList ++ g.stack } := by
      refine e3.trans ?_
      rw [hf₂, State.calling_eq h.top, State.setFrames_setFrames, State.setTop_of_frames _ hr', hr]
      rfl
    have hsame : U.sameButNew ({ U with heap := s₂.heap, slotsUsed := s₂.slotsUsed } : State) L mc ms := by
      refine ⟨?_, q2, q3, q4, q5, q6⟩
      obtain ⟨t, ht, -⟩ := State.frames_cons hr
      show ({ U with heap := s₂.heap, slotsUsed := s₂.slotsUsed } : State) = { U.setFrames U.frames with heap := s₂.heap, slotsUsed := s₂.slotsUsed }
      rw [State.setFrames_self ht]
    subst hg
    refine Or.inl ⟨v, ⟨(({ U with heap := s₂.heap, slotsUsed := s₂.slotsUsed } : State).setVm s₂.vm), Ls ++ L, c0 + mc, s0 + ms⟩,
      ⟨X.admits, X.cas, X.clock, X.frames, X.room, X.hears, X.method, X.code, (X.here.setHeapUsed s₂.heap s₂.slotsUsed).setVm hW'.alike, X.tail, State.WarmedH.trans X.warmed hW', X.limits, X.bytes, X.same.trans (hsame.setVm s.vm)⟩,
      ⟨g, mk, s₂, L, rfl, rfl, hqc, rfl, hL, rfl, rfl⟩, ?_⟩
    show Steps p.tables e below _ ((({ U with heap := s₂.heap, slotsUsed := s₂.slotsUsed } : State).setVm s₂.vm).setTop { g with pc := g.pc + len₂, stack := v.toList ++ g.stack })
    rw [← hs₂]
    exact hsteps
  · obtain ⟨e2, q2, q3, q4, q5, q6⟩ := id hsm
    have e3 : s₂ = ({ (U.calling g mk a).setFrames s₂.frames with heap := s₂.heap, slotsUsed := s₂.slotsUsed } : State).setVm s₂.vm := by
      have : s₂ = ({ s₂ with vm := (U.calling g mk a).vm } : State).setVm s₂.vm := rfl
      rw [e2] at this
      exact this
    have hf₂ : s₂.frames = .throwing q :: .java g :: U.frames.tail := hend
    have hW' : U.WarmedH s₂.vm := hW₂
    have hs₂ : s₂ = ((({ U with heap := s₂.heap, slotsUsed := s₂.slotsUsed } : State).setVm s₂.vm).setTop g).pushFrame (.throwing q) := by
      refine e3.trans ?_
      rw [hf₂, State.calling_eq h.top, State.setFrames_setFrames, State.pushFrame, State.frames_setTop _ hr', State.setTop_of_frames _ hr', State.setFrames_setFrames, hr]
      rfl
    have hsame : U.sameButNew ({ U with heap := s₂.heap, slotsUsed := s₂.slotsUsed } : State) L mc ms := by
      refine ⟨?_, q2, q3, q4, q5, q6⟩
      obtain ⟨t, ht, -⟩ := State.frames_cons hr
      show ({ U with heap := s₂.heap, slotsUsed := s₂.slotsUsed } : State) = { U.setFrames U.frames with heap := s₂.heap, slotsUsed := s₂.slotsUsed }
      rw [State.setFrames_self ht]
    subst hg
    refine Or.inr ⟨q, ⟨(({ U with heap := s₂.heap, slotsUsed := s₂.slotsUsed } : State).setVm s₂.vm), Ls ++ L, c0 + mc, s0 + ms⟩,
      ⟨X.admits, X.cas, X.clock, X.frames, X.room, X.hears, X.method, X.code, (X.here.setHeapUsed s₂.heap s₂.slotsUsed).setVm hW'.alike, X.tail, State.WarmedH.trans X.warmed hW', X.limits, X.bytes, X.same.trans (hsame.setVm s.vm)⟩,
      ⟨g, mk, s₂, L, E, ce, rfl, rfl, hx, hce, hcv, hcl, rfl, hL, rfl, rfl⟩, ?_⟩
    show Steps p.tables e below _ (((({ U with heap := s₂.heap, slotsUsed := s₂.slotsUsed } : State).setVm s₂.vm).setTop g).pushFrame (.throwing q))
    rw [← hs₂]
    exact hsteps
end
variable {p : Program} {l : Launch} {e : Env} {R : Room} {s : State} {m : MethodId} {args : Array Value} {below : List Frame} {meth : Method} {c : Code} {T : State} {H : Heap} {locs : List Loc} {cells slots : Nat}
theorem vx_callVX (X : Stand p l e R s m args below meth c T locs cells slots) (hexec : p.tables.exec = Jvm.exec) {own C : String} {index : Nat} {y : MethodName} {bytes : ByteArray} {maxL : Nat} {ret : Option FieldType} {hh : List (Nat × Nat × Nat × Nat)}
    (hown : s.vm.findClass own = some m.cls) (hlink : (Cond.methodLink own index y).before args s = true) (hinst : (Cond.instanceMethod y).before args s = true) (hsel : (Cond.selects C y y).before args s = true)
    (hcode : (Cond.codeWith y bytes maxL ret hh).before args s = true) (hy : y.cls ≠ "java/lang/invoke/MethodHandle" ∧ y.cls ≠ "java/lang/invoke/VarHandle")
    {W9 : Nat} {Pre : Pt → Array Value → Prop} {Post : Pt → Array Value → Option Value → Pt → Prop} {PostX : Pt → Array Value → Addr → Pt → Prop} (hK : vx_Back l R p e below s args y 3 W9 Pre Post PostX)
    {b : Addr} {cellB : Cell} (hcell : T.heap[b]? = some cellB) (hobj : cellB.vm.isStatics = false) (hcls : s.vm.findClass C = some cellB.cls)
    {g : JFrame} (hg : g.method = m) (hsize : g.locals.size = c.maxLocals) {argsL rest : List Value} (hlen : ∀ sig, parseMethodDescriptor y.desc = some sig → argsL.length = sig.parameters.length)
    (hstack : g.stack = argsL.reverse ++ .ref b :: rest) (hW : 2 * g.monitorRoom + (rest.map fun v => v.category).sum ≤ W9) (hdg : decode c.code g.pc = .ok (.invokevirtual index, 3))
    (hpre : ∀ vm₁, s.WarmedH vm₁ → Pre ⟨T.setVm vm₁, locs, cells, slots⟩ (Value.ref b :: argsL).toArray) :
    (∃ (v : Option Value) (vm₁ : Vm) (B : Pt), s.WarmedH vm₁ ∧ Stand p l e R s m args below meth c B.U B.locs B.cells B.slots ∧ Post ⟨T.setVm vm₁, locs, cells, slots⟩ (Value.ref b :: argsL).toArray v B ∧
      ∀ target, Steps p.tables e below (B.U.setTop { g with pc := g.pc + 3, stack := v.toList ++ rest }) target → Steps p.tables e below (T.setTop g) target) ∨
    (∃ (q : Addr) (vm₁ : Vm) (B : Pt), s.WarmedH vm₁ ∧ Stand p l e R s m args below meth c B.U B.locs B.cells B.slots ∧ PostX ⟨T.setVm vm₁, locs, cells, slots⟩ (Value.ref b :: argsL).toArray q B ∧
      Steps p.tables e below (T.setTop g) ((B.U.setTop { g with stack := rest }).pushFrame (.throwing q))) := by
  obtain ⟨mk, methM, hnamed, hmethM, hstM, habM⟩ := Cond.instanceMethod_spec hinst
  obtain ⟨m8, methM', cM, hn8, hmethM', -, -, -, -, -, -, hsigM⟩ := Cond.codeWith_spec hcode
  cases Option.some.inj (hn8.symm.trans hnamed)
  cases hmethM.symm.trans hmethM'
  obtain ⟨c2, r2, m2, q1, q2, q3, q4, kP, hkP, hkPi⟩ := Cond.selects_spec hsel
  cases hcls.symm.trans q1
  cases (State.methodFound?_of_named hnamed hy).symm.trans q2
  cases hnamed.symm.trans q3
  have hselP : selectMethod e.platform s.vm cellB.cls mk = .method mk := by rw [Launch.admits_selectMethod X.admits]; exact q4
  obtain ⟨vm₁, X₁, hstep₁⟩ := X.invokevirtual hexec hown hlink hnamed hmethM hstM hkP hkPi hy (a := b) (cell := cellB) hcell
    (fun z h => by rw [h] at hobj; cases hobj) hselP hmethM habM hkP hkPi (g := g) hg (argsL := argsL) (rest := rest) (hlen _ hsigM) hstack hdg
  rcases hK m meth c ⟨T.setVm vm₁, locs, cells, slots⟩ { g with stack := rest } (.invokevirtual index) mk (Value.ref b :: argsL).toArray X₁ hg hsize hdg hW (X₁.named hnamed) (hpre vm₁ X₁.warmed) with ⟨v, B, X', hpost, hsteps⟩ | ⟨q, B, X', hpost, hsteps⟩
  · exact Or.inl ⟨v, vm₁, B, X₁.warmed, X', hpost, fun target h => hstep₁ _ fun acts => by rw [doInvoke_state]; exact hsteps.trans h⟩
  · exact Or.inr ⟨q, vm₁, B, X₁.warmed, X', hpost, hstep₁ _ fun acts => by rw [doInvoke_state]; exact hsteps⟩
theorem vx_callSX (X : Stand p l e R s m args below meth c T locs cells slots) (hexec : p.tables.exec = Jvm.exec) {own : String} {index : Nat} {y : MethodName} {bytes : ByteArray} {maxL : Nat} {ret : Option FieldType} {hh : List (Nat × Nat × Nat × Nat)}
    (hown : s.vm.findClass own = some m.cls) (hlink : (Cond.methodLink own index y).before args s = true) (hstat : (Cond.static y).before args s = true) (hinit : (Cond.initialized y.cls).before args s = true)
    (hcode : (Cond.codeWith y bytes maxL ret hh).before args s = true) (hy : y.cls ≠ "java/lang/invoke/MethodHandle" ∧ y.cls ≠ "java/lang/invoke/VarHandle")
    {W9 : Nat} {Pre : Pt → Array Value → Prop} {Post : Pt → Array Value → Option Value → Pt → Prop} {PostX : Pt → Array Value → Addr → Pt → Prop} (hK : vx_Back l R p e below s args y 3 W9 Pre Post PostX)
    {g : JFrame} (hg : g.method = m) (hsize : g.locals.size = c.maxLocals) {argsL rest : List Value} (hlen : ∀ sig, parseMethodDescriptor y.desc = some sig → argsL.length = sig.parameters.length)
    (hstack : g.stack = argsL.reverse ++ rest) (hW : 2 * g.monitorRoom + (rest.map fun v => v.category).sum ≤ W9) (hdg : decode c.code g.pc = .ok (.invokestatic index, 3))
    (hpre : ∀ vm₁, s.WarmedH vm₁ → Pre ⟨T.setVm vm₁, locs, cells, slots⟩ argsL.toArray) :
    (∃ (v : Option Value) (vm₁ : Vm) (B : Pt), s.WarmedH vm₁ ∧ Stand p l e R s m args below meth c B.U B.locs B.cells B.slots ∧ Post ⟨T.setVm vm₁, locs, cells, slots⟩ argsL.toArray v B ∧
      ∀ target, Steps p.tables e below (B.U.setTop { g with pc := g.pc + 3, stack := v.toList ++ rest }) target → Steps p.tables e below (T.setTop g) target) ∨
    (∃ (q : Addr) (vm₁ : Vm) (B : Pt), s.WarmedH vm₁ ∧ Stand p l e R s m args below meth c B.U B.locs B.cells B.slots ∧ PostX ⟨T.setVm vm₁, locs, cells, slots⟩ argsL.toArray q B ∧
      Steps p.tables e below (T.setTop g) ((B.U.setTop { g with stack := rest }).pushFrame (.throwing q))) := by
  obtain ⟨mk, methM, cM, hnamed, hmethM, -, -, -, -, -, -, hsigM⟩ := Cond.codeWith_spec hcode
  have hstatic : methM.isStatic = true := Cond.static_spec hnamed hmethM hstat
  obtain ⟨kP, hkP, -⟩ := className_of_methodNamed hnamed
  have hinitP : kP.init = .initialized := Cond.initialized_spec (findClass_of_methodNamed hnamed) hkP hinit
  obtain ⟨vm₁, X₁, hstep₁⟩ := X.invokestatic hexec hown hlink hnamed hmethM hstatic hkP hinitP hy (g := g) hg (argsL := argsL) (rest := rest) (hlen _ hsigM) hstack hdg
  rcases hK m meth c ⟨T.setVm vm₁, locs, cells, slots⟩ { g with stack := rest } (.invokestatic index) mk argsL.toArray X₁ hg hsize hdg hW (X₁.named hnamed) (hpre vm₁ X₁.warmed) with ⟨v, B, X', hpost, hsteps⟩ | ⟨q, B, X', hpost, hsteps⟩
  · exact Or.inl ⟨v, vm₁, B, X₁.warmed, X', hpost, fun target h => hstep₁ _ fun acts => by rw [doInvoke_state]; exact hsteps.trans h⟩
  · exact Or.inr ⟨q, vm₁, B, X₁.warmed, X', hpost, hstep₁ _ fun acts => by rw [doInvoke_state]; exact hsteps⟩
theorem vx_callVW (X : Stand p l e R s m args below meth c T locs cells slots) (hexec : p.tables.exec = Jvm.exec) {own C : String} {index : Nat} {y : MethodName} {bytes : ByteArray} {maxL : Nat} {ret : Option FieldType} {hh : List (Nat × Nat × Nat × Nat)}
    (hown : s.vm.findClass own = some m.cls) (hlink : (Cond.methodLink own index y).before args s = true) (hinst : (Cond.instanceMethod y).before args s = true) (hsel : (Cond.selects C y y).before args s = true)
    (hcode : (Cond.codeWith y bytes maxL ret hh).before args s = true) (hy : y.cls ≠ "java/lang/invoke/MethodHandle" ∧ y.cls ≠ "java/lang/invoke/VarHandle")
    {W9 : Nat} {Pre : Pt → Array Value → Prop} {Post : Pt → Array Value → Option Value → Pt → Prop} (hK : Back l R p e below s args y 3 W9 Pre Post)
    {b : Addr} {cellB : Cell} (hcell : T.heap[b]? = some cellB) (hobj : cellB.vm.isStatics = false) (hcls : s.vm.findClass C = some cellB.cls)
    {g : JFrame} (hg : g.method = m) (hsize : g.locals.size = c.maxLocals) {argsL rest : List Value} (hlen : ∀ sig, parseMethodDescriptor y.desc = some sig → argsL.length = sig.parameters.length)
    (hstack : g.stack = argsL.reverse ++ .ref b :: rest) (hW : 2 * g.monitorRoom + (rest.map fun v => v.category).sum ≤ W9) (hdg : decode c.code g.pc = .ok (.invokevirtual index, 3))
    (hpre : ∀ vm₁, s.WarmedH vm₁ → Pre ⟨T.setVm vm₁, locs, cells, slots⟩ (Value.ref b :: argsL).toArray) :
    ∃ (v : Option Value) (vm₁ : Vm) (B : Pt), s.WarmedH vm₁ ∧ Stand p l e R s m args below meth c B.U B.locs B.cells B.slots ∧ Post ⟨T.setVm vm₁, locs, cells, slots⟩ (Value.ref b :: argsL).toArray v B ∧
      ∀ target, Steps p.tables e below (B.U.setTop { g with pc := g.pc + 3, stack := v.toList ++ rest }) target → Steps p.tables e below (T.setTop g) target := by
  obtain ⟨mk, methM, hnamed, hmethM, hstM, habM⟩ := Cond.instanceMethod_spec hinst
  obtain ⟨m8, methM', cM, hn8, hmethM', -, -, -, -, -, -, hsigM⟩ := Cond.codeWith_spec hcode
  cases Option.some.inj (hn8.symm.trans hnamed)
  cases hmethM.symm.trans hmethM'
  obtain ⟨c2, r2, m2, q1, q2, q3, q4, kP, hkP, hkPi⟩ := Cond.selects_spec hsel
  cases hcls.symm.trans q1
  cases (State.methodFound?_of_named hnamed hy).symm.trans q2
  cases hnamed.symm.trans q3
  have hselP : selectMethod e.platform s.vm cellB.cls mk = .method mk := by rw [Launch.admits_selectMethod X.admits]; exact q4
  obtain ⟨vm₁, X₁, hstep₁⟩ := X.invokevirtual hexec hown hlink hnamed hmethM hstM hkP hkPi hy (a := b) (cell := cellB) hcell
    (fun z h => by rw [h] at hobj; cases hobj) hselP hmethM habM hkP hkPi (g := g) hg (argsL := argsL) (rest := rest) (hlen _ hsigM) hstack hdg
  obtain ⟨v, B, X', hpost, hsteps⟩ := hK m meth c ⟨T.setVm vm₁, locs, cells, slots⟩ { g with stack := rest } (.invokevirtual index) mk (Value.ref b :: argsL).toArray X₁ hg hsize hdg hW (X₁.named hnamed) (hpre vm₁ X₁.warmed)
  exact ⟨v, vm₁, B, X₁.warmed, X', hpost, fun target h => hstep₁ _ fun acts => by rw [doInvoke_state]; exact hsteps.trans h⟩
abbrev vx_CVW (R : Room) (s : State) (args : Array Value) (own C : String) (index : Nat) (y : MethodName) (bytes : ByteArray) (maxL : Nat) (ret : Option FieldType) (hh : List (Nat × Nat × Nat × Nat)) (ws : List Cond) (rm : Room) (mc ms n : Nat) : Prop :=
  (rm.cells = mc ∧ rm.slots = ms ∧ rm.frames + 1 ≤ R.frames ∧ 8 + (maxL + 11) + rm.locals ≤ R.locals ∧ (∀ w ∈ ws, ∀ (a' : Array Value) (U : State), s.WarmedH U.vm → w.before a' U = true) ∧ Cond.codeWith y bytes maxL ret hh ∈ ws) ∧
  (Cond.codeWith y bytes maxL ret hh).before args s = true ∧ (Cond.initialized y.cls).before args s = true ∧ (y.cls ≠ "java/lang/invoke/MethodHandle" ∧ y.cls ≠ "java/lang/invoke/VarHandle") ∧
  (∀ sig, parseMethodDescriptor y.desc = some sig → n = sig.parameters.length) ∧ (Cond.methodLink own index y).before args s = true ∧ (Cond.instanceMethod y).before args s = true ∧ (Cond.selects C y y).before args s = true
theorem vx_cwVW {own C : String} {index maxL mc ms : Nat} {y : MethodName} {bytes : ByteArray} {ret : Option FieldType} {hh : List (Nat × Nat × Nat × Nat)} {Ts ws ws' : List Cond} {rm : Room} (n : Nat) (ht : ∀ w ∈ Ts, w.before args s = true) (hT : GoodIn Ts (wsV own index C y ws)) (hw : ws = Cond.codeWith y bytes maxL ret hh :: ws') (hrc : rm.cells = mc) (hrs : rm.slots = ms)
    (hd : y.cls = C ∧ y.cls ≠ "java/lang/invoke/MethodHandle" ∧ y.cls ≠ "java/lang/invoke/VarHandle" ∧ (parseMethodDescriptor y.desc).map (fun d => d.parameters.length) = some n) (hR : rm.frames + 1 ≤ R.frames ∧ 8 + (maxL + 11) + rm.locals ≤ R.locals) :
    vx_CVW R s args own C index y bytes maxL ret hh ws rm mc ms n := by
  obtain ⟨hC, hd⟩ := hd
  subst hC
  have ok : ∀ w ∈ wsV own index y.cls y ws, w.before args s = true := fun w h => ht w (hT w h).1
  have hG : GoodIn Ts ws := fun w h => hT w (by unfold wsV; exact List.mem_append_right _ h)
  have hc : Cond.codeWith y bytes maxL ret hh ∈ ws := by rw [hw]; exact List.mem_cons_self
  refine ⟨⟨hrc, hrs, hR.1, hR.2, pay_in ht hG, hc⟩, ht _ (hG _ hc).1, ok _ (by simp [wsV]), ⟨hd.1, hd.2.1⟩, fun sig h => ?_, ok _ (by simp [wsV]), ok _ (by simp [wsV]), ok _ (by simp [wsV])⟩
  have h2 := hd.2.2
  rw [h] at h2
  exact (Option.some.inj h2).symm
theorem vx_runVW {y : MethodName} {bytes cc : ByteArray} {maxL nL mc ms n index : Nat} {ret : Option FieldType} {hh : List (Nat × Nat × Nat × Nat)} {ws : List Cond} {rm : Room} {Pc : Array Value → State → Prop} {Qc : Array Value → State → Outcome → State → Prop} {free : Addr → Prop} {Ts : List Cond} {own C : String} {b : Addr} {As rest : List Value} {g : JFrame}
    (S : CallFix p m c cc nL s args Ts own) (hM : Met l y ws rm Pc Qc mc ms free) (cw : vx_CVW R s args own C index y bytes maxL ret hh ws rm mc ms n) (hp : PreV s H C b Pc As)
    (hg : g.method = m) (hn : As.length = n) (hsize : g.locals.size = nL) (hstack : g.stack = As.reverse ++ .ref b :: rest) (hW : 2 * g.monitorRoom + (rest.map fun v => v.category).sum ≤ 8) (hdg : decode cc g.pc = .ok (.invokevirtual index, 3)) (hf : cells + mc ≤ R.cells ∧ slots + ms ≤ R.slots) :
    va_Run p l e R s m args below meth c H locs cells slots mc ms g rest (Qc (Value.ref b :: As).toArray) free := by
  obtain ⟨⟨hrc, hrs, hfr, hlo, hws, hcw⟩, hcode, hini, hy, hlen, hl, hin, hse⟩ := cw
  have hK : Back l R p e below s args y 3 8 (PreOf R mc ms Pc) (PostOf Qc mc ms free) := va_backW (hh := hh) (bytes := bytes) (maxL := maxL) (ret := ret) hM hp.1 hrc hrs hfr hlo hws hcw (fun a' U hW => word_at hW (Or.inl (by first | rfl | simp [Cond.onTables, Cond.keeps, Cond.steady])) hini)
  obtain ⟨hx, hb, hml, ho, -⟩ := S
  obtain ⟨-, ⟨cellB, hcB, hoB, hclB⟩, hPc⟩ := hp
  intro T hT X
  obtain ⟨v, vm₁, ⟨U', l2, c2, s2⟩, hW₁, X', ⟨g', mk, t, L, e1, e2, hq, h1, hL, h2, h3⟩, st⟩ := vx_callVW X hx (C := C) (hh := hh) (bytes := bytes) (maxL := maxL) (ret := ret) ho hl hin hse hcode hy hK (by rw [hT]; exact hcB) hoB hclB hg (hsize.trans hml.symm) (argsL := As) (rest := rest) (fun sig h => hn.trans (hlen sig h)) hstack hW (by rw [hb]; exact hdg)
    (fun vm₁ hW₁ => ⟨hf.1, hf.2, hPc (T.setVm vm₁) hT hW₁⟩)
  dsimp only [Pt.U, Pt.locs, Pt.cells, Pt.slots] at X' e1 e2 h1 h2 h3 st
  subst h1; subst h2; subst h3
  exact ⟨v, (T.setVm vm₁).calling g' mk (Value.ref b :: As).toArray, t, U', L, hT, X', hL, e1, e2, hq, st⟩
section
variable {y : MethodName} {bytes cc : ByteArray} {maxL nL mc ms n index : Nat} {ret : Option FieldType} {ws : List Cond} {rm : Room} {Pc : Array Value → State → Prop} {Qc : Array Value → State → Outcome → State → Prop} {XC : String → State → State → Prop} {free : Addr → Prop} {Ts : List Cond} {own C : String} {b : Addr} {As rest : List Value} {g : JFrame}
theorem vx_runVX {hh : List (Nat × Nat × Nat × Nat)} (S : CallFix p m c cc nL s args Ts own) (hM : vx_Met l y ws rm Pc Qc XC mc ms free) (cw : vx_CVW R s args own C index y bytes maxL ret hh ws rm mc ms n) (hp : PreV s H C b Pc As)
    (hg : g.method = m) (hn : As.length = n) (hsize : g.locals.size = nL) (hstack : g.stack = As.reverse ++ .ref b :: rest) (hW : 2 * g.monitorRoom + (rest.map fun v => v.category).sum ≤ 8) (hdg : decode cc g.pc = .ok (.invokevirtual index, 3)) (hf : cells + mc ≤ R.cells ∧ slots + ms ≤ R.slots) :
    vx_Run p l e R s m args below meth c H locs cells slots mc ms g rest (Qc (Value.ref b :: As).toArray) XC free := by
  obtain ⟨⟨hrc, hrs, hfr, hlo, hws, hcw⟩, hcode, hini, hy, hlen, hl, hin, hse⟩ := cw
  have hK : vx_Back l R p e below s args y 3 8 (PreOf R mc ms Pc) (PostOf Qc mc ms free) (vx_Post XC mc ms free) := vx_backW (hh := hh) (bytes := bytes) (maxL := maxL) (ret := ret) hM hp.1 hrc hrs hfr hlo hws hcw (fun a' U hW => word_at hW (Or.inl (by first | rfl | simp [Cond.onTables, Cond.keeps, Cond.steady])) hini)
  obtain ⟨hx, hb, hml, ho, -⟩ := S
  obtain ⟨-, ⟨cellB, hcB, hoB, hclB⟩, hPc⟩ := hp
  intro T hT X
  rcases vx_callVX X hx (C := C) (hh := hh) (bytes := bytes) (maxL := maxL) (ret := ret) ho hl hin hse hcode hy hK (by rw [hT]; exact hcB) hoB hclB hg (hsize.trans hml.symm) (argsL := As) (rest := rest) (fun sig h => hn.trans (hlen sig h)) hstack hW (by rw [hb]; exact hdg)
    (fun vm₁ hW₁ => ⟨hf.1, hf.2, hPc (T.setVm vm₁) hT hW₁⟩) with ⟨v, vm₁, ⟨U', l2, c2, s2⟩, hW₁, X', ⟨g', mk, t, L, e1, e2, hq, h1, hL, h2, h3⟩, st⟩ | ⟨q, vm₁, ⟨U', l2, c2, s2⟩, hW₁, X', ⟨g', mk, t, L, E, ce, e1, e2, hq, hce, hcv, hcl, h1, hL, h2, h3⟩, st⟩
  · dsimp only [Pt.U, Pt.locs, Pt.cells, Pt.slots] at X' e1 e2 h1 h2 h3 st
    subst h1; subst h2; subst h3
    exact Or.inl ⟨v, (T.setVm vm₁).calling g' mk (Value.ref b :: As).toArray, t, U', L, hT, X', hL, e1, e2, hq, st⟩
  · dsimp only [Pt.U, Pt.locs, Pt.cells, Pt.slots] at X' e1 e2 h1 h2 h3 st hcl
    subst h1; subst h2; subst h3
    exact Or.inr ⟨q, (T.setVm vm₁).calling g' mk (Value.ref b :: As).toArray, t, U', L, E, ce, hT, X', hL, e1, e2, hq, hce, hcv, vx_cls hW₁ hcl, st⟩
theorem vx_runSX {hh : List (Nat × Nat × Nat × Nat)} (S : CallFix p m c cc nL s args Ts own) (hM : vx_Met l y ws rm Pc Qc XC mc ms free) (cw : vx_CSW R s args own index y bytes maxL ret hh ws rm mc ms n) (hp : PreS s H Pc As)
    (hg : g.method = m) (hn : As.length = n) (hsize : g.locals.size = nL) (hstack : g.stack = As.reverse ++ rest) (hW : 2 * g.monitorRoom + (rest.map fun v => v.category).sum ≤ 8) (hdg : decode cc g.pc = .ok (.invokestatic index, 3)) (hf : cells + mc ≤ R.cells ∧ slots + ms ≤ R.slots) :
    vx_Run p l e R s m args below meth c H locs cells slots mc ms g rest (Qc As.toArray) XC free := by
  obtain ⟨⟨hrc, hrs, hfr, hlo, hws, hcw⟩, hcode, hini, hy, hlen, hl, hstt⟩ := cw
  have hK : vx_Back l R p e below s args y 3 8 (PreOf R mc ms Pc) (PostOf Qc mc ms free) (vx_Post XC mc ms free) := vx_backW (hh := hh) (bytes := bytes) (maxL := maxL) (ret := ret) hM hp.1 hrc hrs hfr hlo hws hcw (fun a' U hW => word_at hW (Or.inl (by first | rfl | simp [Cond.onTables, Cond.keeps, Cond.steady])) hini)
  obtain ⟨hx, hb, hml, ho, -⟩ := S
  intro T hT X
  rcases vx_callSX X hx (hh := hh) (bytes := bytes) (maxL := maxL) (ret := ret) ho hl hstt hini hcode hy hK hg (hsize.trans hml.symm) (argsL := As) (rest := rest) (fun sig h => hn.trans (hlen sig h)) hstack hW (by rw [hb]; exact hdg)
    (fun vm₁ hW₁ => ⟨hf.1, hf.2, hp.2 (T.setVm vm₁) hT hW₁⟩) with ⟨v, vm₁, ⟨U', l2, c2, s2⟩, hW₁, X', ⟨g', mk, t, L, e1, e2, hq, h1, hL, h2, h3⟩, st⟩ | ⟨q, vm₁, ⟨U', l2, c2, s2⟩, hW₁, X', ⟨g', mk, t, L, E, ce, e1, e2, hq, hce, hcv, hcl, h1, hL, h2, h3⟩, st⟩
  · dsimp only [Pt.U, Pt.locs, Pt.cells, Pt.slots] at X' e1 e2 h1 h2 h3 st
    subst h1; subst h2; subst h3
    exact Or.inl ⟨v, (T.setVm vm₁).calling g' mk As.toArray, t, U', L, hT, X', hL, e1, e2, hq, st⟩
  · dsimp only [Pt.U, Pt.locs, Pt.cells, Pt.slots] at X' e1 e2 h1 h2 h3 st hcl
    subst h1; subst h2; subst h3
    exact Or.inr ⟨q, (T.setVm vm₁).calling g' mk As.toArray, t, U', L, E, ce, hT, X', hL, e1, e2, hq, hce, hcv, vx_cls hW₁ hcl, st⟩
end
end VXH
theorem vx_ofWH {l : Launch} {y : MethodName} {ws ws' : List Cond} {rm : Room} {Pc : Array Value → State → Prop} {Qc : Array Value → State → Outcome → State → Prop} {XC : String → State → State → Prop} {mc ms : Nat} {free : Addr → Prop} {cc : ByteArray} {maxL : Nat} {ret : Option FieldType} {hh : List (Nat × Nat × Nat × Nat)}
    (hy : plainName y.cls = true) (hw : ws = Cond.codeWith y cc maxL ret hh :: ws')
    (body : ∀ p e s m args below meth c s₁, BodyLoose p l y (headSpec ws rm) cc maxL ret e s m args below meth c s₁ → c.maxLocals = maxL → Pc args s →
      W p l e (headSpec ws rm).room s m args below meth c s.heap [] 0 0 (vx_MQ below Qc XC args s mc ms free) (entryFrame m args maxL)) : vx_Met l y ws rm Pc Qc XC mc ms free := by
  refine MetFree.of_bodyS (code := cc) (maxLocals := maxL) (ret := ret) hy ?_ ?_
  · intro args s m h hn
    obtain ⟨m9, meth, c, hn9, h1, h2, h3, h4, -, h5, h6, -⟩ := Cond.codeWith_spec (atoms_spec (ws := ws) h _ (by rw [hw]; exact List.mem_cons_self))
    cases hn.symm.trans hn9
    exact ⟨meth, c, h1, h2, h3, h4, h5, h6⟩
  · intro p e s m args below meth c s₁ B hml hP _
    have hh0 : s₁.heap = s.heap := by rw [B.state]; rfl
    obtain ⟨t, a1, o, b1, b2, b3⟩ := body p e s m args below meth c s₁ B hml hP s₁ hh0 (Stand.of_body B)
    exact ⟨t, o, a1, b1, b2, b3⟩
/-! ===== END ===== -/
end
section
-- ===== PART A: goes FIRST, ahead of the names: the tables' words, and 'selects' of the private methods out of them =====
/-- a private method of a class that the tables say can be made, by its rows of tables_1 -/
def lw_okq (q : MethodName × Nat) : Prop := (q.1.cls ≠ "java/lang/invoke/MethodHandle" ∧ q.1.cls ≠ "java/lang/invoke/VarHandle") ∧ Cond.instantiable q.1.cls q.2 ∈ tables_1 ∧ Cond.privateMethod q.1 ∈ tables_1 ∧ Cond.instanceMethod q.1 ∈ tables_1
theorem lw_p0 : lw_okq (⟨"SaggarKiln", "freshDraft", "()LSaggarKiln$Works;"⟩, 8) := ⟨⟨by decide +kernel, by decide +kernel⟩, List.mem_of_getElem? (i := 35) (by decide +kernel), List.mem_of_getElem? (i := 268) (by decide +kernel), List.mem_of_getElem? (i := 269) (by decide +kernel)⟩
theorem lw_p1 : lw_okq (⟨"SaggarKiln", "settle", "(I)I"⟩, 8) := ⟨⟨by decide +kernel, by decide +kernel⟩, List.mem_of_getElem? (i := 35) (by decide +kernel), List.mem_of_getElem? (i := 309) (by decide +kernel), List.mem_of_getElem? (i := 310) (by decide +kernel)⟩
theorem lw_p2 : lw_okq (⟨"java/lang/Throwable", "fillInStackTrace", "(I)Ljava/lang/Throwable;"⟩, 6) := ⟨⟨by decide +kernel, by decide +kernel⟩, List.mem_of_getElem? (i := 355) (by decide +kernel), List.mem_of_getElem? (i := 353) (by decide +kernel), List.mem_of_getElem? (i := 354) (by decide +kernel)⟩
theorem lw_p3 : lw_okq (⟨"SaggarKiln$Works", "weightOf", "(I)I"⟩, 8) := ⟨⟨by decide +kernel, by decide +kernel⟩, List.mem_of_getElem? (i := 70) (by decide +kernel), List.mem_of_getElem? (i := 534) (by decide +kernel), List.mem_of_getElem? (i := 535) (by decide +kernel)⟩
theorem lw_p4 : lw_okq (⟨"SaggarKiln$Works", "overloadedBelow", "(III)I"⟩, 8) := ⟨⟨by decide +kernel, by decide +kernel⟩, List.mem_of_getElem? (i := 70) (by decide +kernel), List.mem_of_getElem? (i := 543) (by decide +kernel), List.mem_of_getElem? (i := 544) (by decide +kernel)⟩
theorem lw_p5 : lw_okq (⟨"SaggarKiln$Works", "roomIn", "(I)I"⟩, 8) := ⟨⟨by decide +kernel, by decide +kernel⟩, List.mem_of_getElem? (i := 70) (by decide +kernel), List.mem_of_getElem? (i := 602) (by decide +kernel), List.mem_of_getElem? (i := 603) (by decide +kernel)⟩
theorem lw_p6 : lw_okq (⟨"SaggarKiln$Works", "isToFire", "(I)Z"⟩, 8) := ⟨⟨by decide +kernel, by decide +kernel⟩, List.mem_of_getElem? (i := 70) (by decide +kernel), List.mem_of_getElem? (i := 617) (by decide +kernel), List.mem_of_getElem? (i := 618) (by decide +kernel)⟩
theorem lw_p7 : lw_okq (⟨"SaggarKiln$Works", "gradeByFiring", "(II)I"⟩, 8) := ⟨⟨by decide +kernel, by decide +kernel⟩, List.mem_of_getElem? (i := 70) (by decide +kernel), List.mem_of_getElem? (i := 626) (by decide +kernel), List.mem_of_getElem? (i := 627) (by decide +kernel)⟩
theorem lw_p8 : lw_okq (⟨"SaggarKiln", "needSaggar", "(I)V"⟩, 8) := ⟨⟨by decide +kernel, by decide +kernel⟩, List.mem_of_getElem? (i := 35) (by decide +kernel), List.mem_of_getElem? (i := 694) (by decide +kernel), List.mem_of_getElem? (i := 695) (by decide +kernel)⟩
theorem lw_p9 : lw_okq (⟨"SaggarKiln", "needWare", "(I)V"⟩, 8) := ⟨⟨by decide +kernel, by decide +kernel⟩, List.mem_of_getElem? (i := 35) (by decide +kernel), List.mem_of_getElem? (i := 761) (by decide +kernel), List.mem_of_getElem? (i := 762) (by decide +kernel)⟩
theorem lw_p10 : lw_okq (⟨"SaggarKiln", "needOrder", "(I)V"⟩, 8) := ⟨⟨by decide +kernel, by decide +kernel⟩, List.mem_of_getElem? (i := 35) (by decide +kernel), List.mem_of_getElem? (i := 933) (by decide +kernel), List.mem_of_getElem? (i := 934) (by decide +kernel)⟩
theorem lw_p11 : lw_okq (⟨"SaggarKiln$Works", "countFor", "(II)I"⟩, 8) := ⟨⟨by decide +kernel, by decide +kernel⟩, List.mem_of_getElem? (i := 70) (by decide +kernel), List.mem_of_getElem? (i := 944) (by decide +kernel), List.mem_of_getElem? (i := 945) (by decide +kernel)⟩
theorem lw_p12 : lw_okq (⟨"SaggarKiln$Works", "lackingKind", "(I)I"⟩, 8) := ⟨⟨by decide +kernel, by decide +kernel⟩, List.mem_of_getElem? (i := 70) (by decide +kernel), List.mem_of_getElem? (i := 958) (by decide +kernel), List.mem_of_getElem? (i := 959) (by decide +kernel)⟩
theorem lw_p13 : lw_okq (⟨"SaggarKiln$Works", "takeSet", "(I)V"⟩, 8) := ⟨⟨by decide +kernel, by decide +kernel⟩, List.mem_of_getElem? (i := 70) (by decide +kernel), List.mem_of_getElem? (i := 962) (by decide +kernel), List.mem_of_getElem? (i := 963) (by decide +kernel)⟩
theorem lw_p14 : lw_okq (⟨"SaggarKiln$StepText", "passStep", "(I)Z"⟩, 6) := ⟨⟨by decide +kernel, by decide +kernel⟩, List.mem_of_getElem? (i := 201) (by decide +kernel), List.mem_of_getElem? (i := 1335) (by decide +kernel), List.mem_of_getElem? (i := 1336) (by decide +kernel)⟩
theorem lw_p15 : lw_okq (⟨"SaggarKiln$StepText", "passSign", "(C)Z"⟩, 6) := ⟨⟨by decide +kernel, by decide +kernel⟩, List.mem_of_getElem? (i := 201) (by decide +kernel), List.mem_of_getElem? (i := 1339) (by decide +kernel), List.mem_of_getElem? (i := 1340) (by decide +kernel)⟩
def lw_privs_1 : List (MethodName × Nat) := [(⟨"SaggarKiln", "freshDraft", "()LSaggarKiln$Works;"⟩, 8), (⟨"SaggarKiln", "settle", "(I)I"⟩, 8), (⟨"java/lang/Throwable", "fillInStackTrace", "(I)Ljava/lang/Throwable;"⟩, 6), (⟨"SaggarKiln$Works", "weightOf", "(I)I"⟩, 8), (⟨"SaggarKiln$Works", "overloadedBelow", "(III)I"⟩, 8), (⟨"SaggarKiln$Works", "roomIn", "(I)I"⟩, 8), (⟨"SaggarKiln$Works", "isToFire", "(I)Z"⟩, 8), (⟨"SaggarKiln$Works", "gradeByFiring", "(II)I"⟩, 8), (⟨"SaggarKiln", "needSaggar", "(I)V"⟩, 8), (⟨"SaggarKiln", "needWare", "(I)V"⟩, 8), (⟨"SaggarKiln", "needOrder", "(I)V"⟩, 8), (⟨"SaggarKiln$Works", "countFor", "(II)I"⟩, 8), (⟨"SaggarKiln$Works", "lackingKind", "(I)I"⟩, 8), (⟨"SaggarKiln$Works", "takeSet", "(I)V"⟩, 8), (⟨"SaggarKiln$StepText", "passStep", "(I)Z"⟩, 6), (⟨"SaggarKiln$StepText", "passSign", "(C)Z"⟩, 6)]
theorem lw_r1 : ∀ q ∈ lw_privs_1, lw_okq q := List.forall_mem_cons.mpr ⟨lw_p0, List.forall_mem_cons.mpr ⟨lw_p1, List.forall_mem_cons.mpr ⟨lw_p2, List.forall_mem_cons.mpr ⟨lw_p3, List.forall_mem_cons.mpr ⟨lw_p4, List.forall_mem_cons.mpr ⟨lw_p5, List.forall_mem_cons.mpr ⟨lw_p6, List.forall_mem_cons.mpr ⟨lw_p7, List.forall_mem_cons.mpr ⟨lw_p8, List.forall_mem_cons.mpr ⟨lw_p9, List.forall_mem_cons.mpr ⟨lw_p10, List.forall_mem_cons.mpr ⟨lw_p11, List.forall_mem_cons.mpr ⟨lw_p12, List.forall_mem_cons.mpr ⟨lw_p13, List.forall_mem_cons.mpr ⟨lw_p14, List.forall_mem_cons.mpr ⟨lw_p15, fun _ h => absurd h List.not_mem_nil⟩⟩⟩⟩⟩⟩⟩⟩⟩⟩⟩⟩⟩⟩⟩⟩
theorem lw_p16 : lw_okq (⟨"SaggarKiln$StepText", "passNumber", "(IIII)Z"⟩, 6) := ⟨⟨by decide +kernel, by decide +kernel⟩, List.mem_of_getElem? (i := 201) (by decide +kernel), List.mem_of_getElem? (i := 1343) (by decide +kernel), List.mem_of_getElem? (i := 1344) (by decide +kernel)⟩
theorem lw_p17 : lw_okq (⟨"SaggarKiln", "doStep", "(LSaggarKiln$Works;I)I"⟩, 8) := ⟨⟨by decide +kernel, by decide +kernel⟩, List.mem_of_getElem? (i := 35) (by decide +kernel), List.mem_of_getElem? (i := 1352) (by decide +kernel), List.mem_of_getElem? (i := 1353) (by decide +kernel)⟩
def lw_privs_2 : List (MethodName × Nat) := [(⟨"SaggarKiln$StepText", "passNumber", "(IIII)Z"⟩, 6), (⟨"SaggarKiln", "doStep", "(LSaggarKiln$Works;I)I"⟩, 8)]
theorem lw_r2 : ∀ q ∈ lw_privs_2, lw_okq q := List.forall_mem_cons.mpr ⟨lw_p16, List.forall_mem_cons.mpr ⟨lw_p17, fun _ h => absurd h List.not_mem_nil⟩⟩
def lw_privs : List (MethodName × Nat) := lw_privs_1 ++ (lw_privs_2)
def lw_tbl : List Cond := k2_sels lw_privs ++ tables_1
theorem lw_privs_ok : ∀ q ∈ lw_privs, lw_okq q := by
  show ∀ q ∈ lw_privs_1 ++ (lw_privs_2), lw_okq q
  exact List.forall_mem_append.mpr ⟨lw_r1, lw_r2⟩
/-- the streams that the claim lets the run draw from -/
abbrev lw_cs : List Choice := [Jvm.Choice.named "NaN.bits"]
theorem lw_bits : nanBits ∈ lw_cs := by first | decide | exact List.mem_cons_self | simp [lw_cs, nanBits]
def RX0 : String := "SaggarKiln$History"
def TX0 : u_T := fun k => match k with
  | 0 => ("SaggarKiln$History", "count", "I", false)
  | 1 => ("SaggarKiln$History", "next", "I", false)
  | _ => ("SaggarKiln$History", "ring", "[LSaggarKiln$Works;", true)
def tyX0 : Nat → FieldType := fun k => match k with
  | 0 => .int
  | 1 => .int
  | _ => .array (.object "SaggarKiln$Works")
abbrev wsX00 : List Cond := u_ws RX0 TX0 3
theorem nmX0 : ∀ a, a < 3 → ∀ b, b < 3 → a ≠ b → (TX0 a).2.1 ≠ (TX0 b).2.1 := by decide +kernel
theorem tyX0_ok : ∀ k, k < 3 → parseFieldDescriptor (TX0 k).2.2.1 = some (tyX0 k) := by decide +kernel
abbrev cX0_init : ByteArray := prog_2_method_1_code
def yX0_init : MethodName := ⟨RX0, "<init>", "()V"⟩
abbrev cX0_keep : ByteArray := prog_2_method_2_code
def yX0_keep : MethodName := ⟨RX0, "keep", "(LSaggarKiln$Works;)LSaggarKiln$Works;"⟩
abbrev cX0_exchangeLatest : ByteArray := prog_2_method_3_code
def yX0_exchangeLatest : MethodName := ⟨RX0, "exchangeLatest", "(LSaggarKiln$Works;)LSaggarKiln$Works;"⟩
def RX1 : String := "SaggarKiln$Orders"
def TX1 : u_T := fun k => match k with
  | 0 => ("SaggarKiln$Orders", "count", "I", false)
  | 1 => ("SaggarKiln$Orders", "glaze", "[I", true)
  | 2 => ("SaggarKiln$Orders", "areSeconds", "[I", true)
  | 3 => ("SaggarKiln$Orders", "sold", "[I", true)
  | _ => ("SaggarKiln$Orders", "asked", "[I", true)
def tyX1 : Nat → FieldType := fun k => match k with
  | 0 => .int
  | 1 => .array .int
  | 2 => .array .int
  | 3 => .array .int
  | _ => .array .int
abbrev wsX10 : List Cond := u_ws RX1 TX1 5
theorem nmX1 : ∀ a, a < 5 → ∀ b, b < 5 → a ≠ b → (TX1 a).2.1 ≠ (TX1 b).2.1 := by decide +kernel
theorem tyX1_ok : ∀ k, k < 5 → parseFieldDescriptor (TX1 k).2.2.1 = some (tyX1 k) := by decide +kernel
abbrev cX1_init : ByteArray := prog_3_method_1_code
def yX1_init : MethodName := ⟨RX1, "<init>", "()V"⟩
abbrev cX1_copyFrom : ByteArray := prog_3_method_2_code
def yX1_copyFrom : MethodName := ⟨RX1, "copyFrom", "(LSaggarKiln$Orders;)V"⟩
abbrev cX1_has : ByteArray := prog_3_method_3_code
def yX1_has : MethodName := ⟨RX1, "has", "(I)Z"⟩
abbrev cX1_add : ByteArray := prog_3_method_4_code
def yX1_add : MethodName := ⟨RX1, "add", "(IZ)I"⟩
abbrev cX1_ask : ByteArray := prog_3_method_5_code
def yX1_ask : MethodName := ⟨RX1, "ask", "(III)V"⟩
abbrev cX1_askedOf : ByteArray := prog_3_method_6_code
def yX1_askedOf : MethodName := ⟨RX1, "askedOf", "(II)I"⟩
abbrev cX1_countSold : ByteArray := prog_3_method_7_code
def yX1_countSold : MethodName := ⟨RX1, "countSold", "()I"⟩
abbrev cX1_countSoldOf : ByteArray := prog_3_method_8_code
def yX1_countSoldOf : MethodName := ⟨RX1, "countSoldOf", "(I)I"⟩
abbrev cX1_numberOf : ByteArray := prog_3_method_9_code
def yX1_numberOf : MethodName := ⟨RX1, "numberOf", "(II)I"⟩
def RX2 : String := "SaggarKiln$Reasons"
def TX2 : u_T := fun k => match k with
  | 0 => ("SaggarKiln$Reasons", "count", "I", false)
  | 1 => ("SaggarKiln$Reasons", "reason", "[I", true)
  | _ => ("SaggarKiln$Reasons", "detail", "[I", true)
def tyX2 : Nat → FieldType := fun k => match k with
  | 0 => .int
  | 1 => .array .int
  | _ => .array .int
abbrev wsX20 : List Cond := u_ws RX2 TX2 3
theorem nmX2 : ∀ a, a < 3 → ∀ b, b < 3 → a ≠ b → (TX2 a).2.1 ≠ (TX2 b).2.1 := by decide +kernel
theorem tyX2_ok : ∀ k, k < 3 → parseFieldDescriptor (TX2 k).2.2.1 = some (tyX2 k) := by decide +kernel
abbrev cX2_init : ByteArray := prog_4_method_1_code
def yX2_init : MethodName := ⟨RX2, "<init>", "()V"⟩
abbrev cX2_copyFrom : ByteArray := prog_4_method_2_code
def yX2_copyFrom : MethodName := ⟨RX2, "copyFrom", "(LSaggarKiln$Reasons;)V"⟩
abbrev cX2_refuse : ByteArray := prog_4_method_3_code
def yX2_refuse : MethodName := ⟨RX2, "refuse", "(II)I"⟩
abbrev cX2_note : ByteArray := prog_4_method_4_code
def yX2_note : MethodName := ⟨RX2, "note", "(II)V"⟩
abbrev cX2_noteAhead : ByteArray := prog_4_method_5_code
def yX2_noteAhead : MethodName := ⟨RX2, "noteAhead", "(II)V"⟩
def RX3 : String := "SaggarKiln$Saggars"
def TX3 : u_T := fun k => match k with
  | 0 => ("SaggarKiln$Saggars", "count", "I", false)
  | 1 => ("SaggarKiln$Saggars", "bung", "[I", true)
  | _ => ("SaggarKiln$Saggars", "level", "[I", true)
def tyX3 : Nat → FieldType := fun k => match k with
  | 0 => .int
  | 1 => .array .int
  | _ => .array .int
abbrev wsX30 : List Cond := u_ws RX3 TX3 3
theorem nmX3 : ∀ a, a < 3 → ∀ b, b < 3 → a ≠ b → (TX3 a).2.1 ≠ (TX3 b).2.1 := by decide +kernel
theorem tyX3_ok : ∀ k, k < 3 → parseFieldDescriptor (TX3 k).2.2.1 = some (tyX3 k) := by decide +kernel
abbrev cX3_init : ByteArray := prog_5_method_1_code
def yX3_init : MethodName := ⟨RX3, "<init>", "()V"⟩
abbrev cX3_copyFrom : ByteArray := prog_5_method_2_code
def yX3_copyFrom : MethodName := ⟨RX3, "copyFrom", "(LSaggarKiln$Saggars;)V"⟩
abbrev cX3_has : ByteArray := prog_5_method_3_code
def yX3_has : MethodName := ⟨RX3, "has", "(I)Z"⟩
abbrev cX3_add : ByteArray := prog_5_method_4_code
def yX3_add : MethodName := ⟨RX3, "add", "()I"⟩
abbrev cX3_place : ByteArray := prog_5_method_5_code
def yX3_place : MethodName := ⟨RX3, "place", "(III)V"⟩
abbrev cX3_isInKiln : ByteArray := prog_5_method_6_code
def yX3_isInKiln : MethodName := ⟨RX3, "isInKiln", "(I)Z"⟩
abbrev cX3_at : ByteArray := prog_5_method_7_code
def yX3_at : MethodName := ⟨RX3, "at", "(II)I"⟩
abbrev cX3_above : ByteArray := prog_5_method_8_code
def yX3_above : MethodName := ⟨RX3, "above", "(I)I"⟩
abbrev cX3_below : ByteArray := prog_5_method_9_code
def yX3_below : MethodName := ⟨RX3, "below", "(I)I"⟩
abbrev cX3_heatThere : ByteArray := prog_5_method_10_code
def yX3_heatThere : MethodName := ⟨RX3, "heatThere", "(II)I"⟩
abbrev cX3_countInKiln : ByteArray := prog_5_method_11_code
def yX3_countInKiln : MethodName := ⟨RX3, "countInKiln", "()I"⟩
def RX4 : String := "SaggarKiln$StepText"
def TX4 : u_T := fun k => match k with
  | 0 => ("SaggarKiln$StepText", "length", "I", false)
  | 1 => ("SaggarKiln$StepText", "steps", "I", false)
  | 2 => ("SaggarKiln$StepText", "verbs", "[C", true)
  | 3 => ("SaggarKiln$StepText", "numbers", "[[I", true)
  | 4 => ("SaggarKiln$StepText", "signs", "[C", true)
  | _ => ("SaggarKiln$StepText", "at", "I", false)
def tyX4 : Nat → FieldType := fun k => match k with
  | 0 => .int
  | 1 => .int
  | 2 => .array .char
  | 3 => .array (.array .int)
  | 4 => .array .char
  | _ => .int
abbrev wsX40 : List Cond := u_ws RX4 TX4 6
theorem nmX4 : ∀ a, a < 6 → ∀ b, b < 6 → a ≠ b → (TX4 a).2.1 ≠ (TX4 b).2.1 := by decide +kernel
theorem tyX4_ok : ∀ k, k < 6 → parseFieldDescriptor (TX4 k).2.2.1 = some (tyX4 k) := by decide +kernel
abbrev cX4_init : ByteArray := prog_6_method_1_code
def yX4_init : MethodName := ⟨RX4, "<init>", "()V"⟩
abbrev cX4_isFull : ByteArray := prog_6_method_2_code
def yX4_isFull : MethodName := ⟨RX4, "isFull", "()Z"⟩
abbrev cX4_add : ByteArray := prog_6_method_3_code
def yX4_add : MethodName := ⟨RX4, "add", "(C)V"⟩
abbrev cX4_clear : ByteArray := prog_6_method_4_code
def yX4_clear : MethodName := ⟨RX4, "clear", "()V"⟩
abbrev cX4_parse : ByteArray := prog_6_method_5_code
def yX4_parse : MethodName := ⟨RX4, "parse", "()I"⟩
abbrev cX4_passStep : ByteArray := prog_6_method_6_code
def yX4_passStep : MethodName := ⟨RX4, "passStep", "(I)Z"⟩
abbrev cX4_passSign : ByteArray := prog_6_method_7_code
def yX4_passSign : MethodName := ⟨RX4, "passSign", "(C)Z"⟩
abbrev cX4_passNumber : ByteArray := prog_6_method_8_code
def yX4_passNumber : MethodName := ⟨RX4, "passNumber", "(IIII)Z"⟩
def RX5 : String := "SaggarKiln$Wares"
def TX5 : u_T := fun k => match k with
  | 0 => ("SaggarKiln$Wares", "count", "I", false)
  | 1 => ("SaggarKiln$Wares", "state", "[I", true)
  | 2 => ("SaggarKiln$Wares", "glaze", "[I", true)
  | 3 => ("SaggarKiln$Wares", "thickness", "[I", true)
  | 4 => ("SaggarKiln$Wares", "saggar", "[I", true)
  | 5 => ("SaggarKiln$Wares", "grade", "[I", true)
  | 6 => ("SaggarKiln$Wares", "kind", "[I", true)
  | _ => ("SaggarKiln$Wares", "bone", "[I", true)
def tyX5 : Nat → FieldType := fun k => match k with
  | 0 => .int
  | 1 => .array .int
  | 2 => .array .int
  | 3 => .array .int
  | 4 => .array .int
  | 5 => .array .int
  | 6 => .array .int
  | _ => .array .int
abbrev wsX50 : List Cond := u_ws RX5 TX5 8
theorem nmX5 : ∀ a, a < 8 → ∀ b, b < 8 → a ≠ b → (TX5 a).2.1 ≠ (TX5 b).2.1 := by decide +kernel
theorem tyX5_ok : ∀ k, k < 8 → parseFieldDescriptor (TX5 k).2.2.1 = some (tyX5 k) := by decide +kernel
abbrev cX5_init : ByteArray := prog_7_method_1_code
def yX5_init : MethodName := ⟨RX5, "<init>", "()V"⟩
abbrev cX5_copyFrom : ByteArray := prog_7_method_2_code
def yX5_copyFrom : MethodName := ⟨RX5, "copyFrom", "(LSaggarKiln$Wares;)V"⟩
abbrev cX5_has : ByteArray := prog_7_method_3_code
def yX5_has : MethodName := ⟨RX5, "has", "(I)Z"⟩
abbrev cX5_add : ByteArray := prog_7_method_4_code
def yX5_add : MethodName := ⟨RX5, "add", "(II)V"⟩
abbrev cX5_sizeOf : ByteArray := prog_7_method_5_code
def yX5_sizeOf : MethodName := ⟨RX5, "sizeOf", "(I)I"⟩
abbrev cX5_needOf : ByteArray := prog_7_method_6_code
def yX5_needOf : MethodName := ⟨RX5, "needOf", "(I)I"⟩
abbrev cX5_isGlazed : ByteArray := prog_7_method_7_code
def yX5_isGlazed : MethodName := ⟨RX5, "isGlazed", "(I)Z"⟩
abbrev cX5_meltingHeatOf : ByteArray := prog_7_method_8_code
def yX5_meltingHeatOf : MethodName := ⟨RX5, "meltingHeatOf", "(I)I"⟩
abbrev cX5_flowAt : ByteArray := prog_7_method_9_code
def yX5_flowAt : MethodName := ⟨RX5, "flowAt", "(II)I"⟩
abbrev cX5_takeOut : ByteArray := prog_7_method_10_code
def yX5_takeOut : MethodName := ⟨RX5, "takeOut", "(I)V"⟩
abbrev cX5_isInStore : ByteArray := prog_7_method_11_code
def yX5_isInStore : MethodName := ⟨RX5, "isInStore", "(III)Z"⟩
abbrev cX5_countInStore : ByteArray := prog_7_method_12_code
def yX5_countInStore : MethodName := ⟨RX5, "countInStore", "(III)I"⟩
abbrev cX5_countInState : ByteArray := prog_7_method_13_code
def yX5_countInState : MethodName := ⟨RX5, "countInState", "(I)I"⟩
abbrev cX5_countSold : ByteArray := prog_7_method_14_code
def yX5_countSold : MethodName := ⟨RX5, "countSold", "(I)I"⟩
abbrev cX5_countOfGrade : ByteArray := prog_7_method_15_code
def yX5_countOfGrade : MethodName := ⟨RX5, "countOfGrade", "(I)I"⟩
abbrev cX5_countFired : ByteArray := prog_7_method_16_code
def yX5_countFired : MethodName := ⟨RX5, "countFired", "()I"⟩
abbrev cX5_countIn : ByteArray := prog_7_method_17_code
def yX5_countIn : MethodName := ⟨RX5, "countIn", "(I)I"⟩
abbrev cX5_sizeIn : ByteArray := prog_7_method_18_code
def yX5_sizeIn : MethodName := ⟨RX5, "sizeIn", "(I)I"⟩
abbrev cX5_sizeOfAll : ByteArray := prog_7_method_19_code
def yX5_sizeOfAll : MethodName := ⟨RX5, "sizeOfAll", "()I"⟩
abbrev cX5_numberOf : ByteArray := prog_7_method_20_code
def yX5_numberOf : MethodName := ⟨RX5, "numberOf", "(II)I"⟩
def RX6 : String := "SaggarKiln$Works"
def TX6 : u_T := fun k => match k with
  | 0 => ("SaggarKiln$Works", "wares", "LSaggarKiln$Wares;", true)
  | 1 => ("SaggarKiln$Works", "saggars", "LSaggarKiln$Saggars;", true)
  | 2 => ("SaggarKiln$Works", "orders", "LSaggarKiln$Orders;", true)
  | 3 => ("SaggarKiln$Works", "why", "LSaggarKiln$Reasons;", true)
  | 4 => ("SaggarKiln$Works", "settings", "[I", true)
  | 5 => ("SaggarKiln$Works", "stock", "I", false)
  | 6 => ("SaggarKiln$Works", "bought", "I", false)
  | _ => ("SaggarKiln$Works", "firings", "I", false)
def tyX6 : Nat → FieldType := fun k => match k with
  | 0 => .object "SaggarKiln$Wares"
  | 1 => .object "SaggarKiln$Saggars"
  | 2 => .object "SaggarKiln$Orders"
  | 3 => .object "SaggarKiln$Reasons"
  | 4 => .array .int
  | 5 => .int
  | 6 => .int
  | _ => .int
abbrev wsX60 : List Cond := u_ws RX6 TX6 8
theorem nmX6 : ∀ a, a < 8 → ∀ b, b < 8 → a ≠ b → (TX6 a).2.1 ≠ (TX6 b).2.1 := by decide +kernel
theorem tyX6_ok : ∀ k, k < 8 → parseFieldDescriptor (TX6 k).2.2.1 = some (tyX6 k) := by decide +kernel
abbrev cX6_init : ByteArray := prog_8_method_1_code
def yX6_init : MethodName := ⟨RX6, "<init>", "()V"⟩
abbrev cX6_copyFrom : ByteArray := prog_8_method_2_code
def yX6_copyFrom : MethodName := ⟨RX6, "copyFrom", "(LSaggarKiln$Works;)V"⟩
abbrev cX6_changeSetting : ByteArray := prog_8_method_3_code
def yX6_changeSetting : MethodName := ⟨RX6, "changeSetting", "(II)I"⟩
abbrev cX6_buyClay : ByteArray := prog_8_method_4_code
def yX6_buyClay : MethodName := ⟨RX6, "buyClay", "(I)I"⟩
abbrev cX6_throwWares : ByteArray := prog_8_method_5_code
def yX6_throwWares : MethodName := ⟨RX6, "throwWares", "(III)I"⟩
abbrev cX6_coatWare : ByteArray := prog_8_method_6_code
def yX6_coatWare : MethodName := ⟨RX6, "coatWare", "(III)I"⟩
abbrev cX6_addSaggar : ByteArray := prog_8_method_7_code
def yX6_addSaggar : MethodName := ⟨RX6, "addSaggar", "()I"⟩
abbrev cX6_standInKiln : ByteArray := prog_8_method_8_code
def yX6_standInKiln : MethodName := ⟨RX6, "standInKiln", "(III)I"⟩
abbrev cX6_standOnFloor : ByteArray := prog_8_method_9_code
def yX6_standOnFloor : MethodName := ⟨RX6, "standOnFloor", "(I)I"⟩
abbrev cX6_putWare : ByteArray := prog_8_method_10_code
def yX6_putWare : MethodName := ⟨RX6, "putWare", "(II)I"⟩
abbrev cX6_fireWares : ByteArray := prog_8_method_11_code
def yX6_fireWares : MethodName := ⟨RX6, "fireWares", "(I)I"⟩
abbrev cX6_emptySaggar : ByteArray := prog_8_method_12_code
def yX6_emptySaggar : MethodName := ⟨RX6, "emptySaggar", "(I)I"⟩
abbrev cX6_addOrder : ByteArray := prog_8_method_13_code
def yX6_addOrder : MethodName := ⟨RX6, "addOrder", "(IIIIIZ)I"⟩
abbrev cX6_sellSet : ByteArray := prog_8_method_14_code
def yX6_sellSet : MethodName := ⟨RX6, "sellSet", "(I)I"⟩
abbrev cX6_noteFailedStep : ByteArray := prog_8_method_15_code
def yX6_noteFailedStep : MethodName := ⟨RX6, "noteFailedStep", "(II)V"⟩
abbrev cX6_sellAllSets : ByteArray := prog_8_method_16_code
def yX6_sellAllSets : MethodName := ⟨RX6, "sellAllSets", "(I)I"⟩
abbrev cX6_setsByDivision : ByteArray := prog_8_method_17_code
def yX6_setsByDivision : MethodName := ⟨RX6, "setsByDivision", "(I)I"⟩
abbrev cX6_lackingKind : ByteArray := prog_8_method_18_code
def yX6_lackingKind : MethodName := ⟨RX6, "lackingKind", "(I)I"⟩
abbrev cX6_countFor : ByteArray := prog_8_method_19_code
def yX6_countFor : MethodName := ⟨RX6, "countFor", "(II)I"⟩
abbrev cX6_takeSet : ByteArray := prog_8_method_20_code
def yX6_takeSet : MethodName := ⟨RX6, "takeSet", "(I)V"⟩
abbrev cX6_isThereToFire : ByteArray := prog_8_method_21_code
def yX6_isThereToFire : MethodName := ⟨RX6, "isThereToFire", "()Z"⟩
abbrev cX6_firstsBy : ByteArray := prog_8_method_22_code
def yX6_firstsBy : MethodName := ⟨RX6, "firstsBy", "(I)I"⟩
abbrev cX6_isToFire : ByteArray := prog_8_method_23_code
def yX6_isToFire : MethodName := ⟨RX6, "isToFire", "(I)Z"⟩
abbrev cX6_gradeByFiring : ByteArray := prog_8_method_24_code
def yX6_gradeByFiring : MethodName := ⟨RX6, "gradeByFiring", "(II)I"⟩
abbrev cX6_gradeAt : ByteArray := prog_8_method_25_code
def yX6_gradeAt : MethodName := ⟨RX6, "gradeAt", "(II)I"⟩
abbrev cX6_weightOf : ByteArray := prog_8_method_26_code
def yX6_weightOf : MethodName := ⟨RX6, "weightOf", "(I)I"⟩
abbrev cX6_roomIn : ByteArray := prog_8_method_27_code
def yX6_roomIn : MethodName := ⟨RX6, "roomIn", "(I)I"⟩
abbrev cX6_overloadedBelow : ByteArray := prog_8_method_28_code
def yX6_overloadedBelow : MethodName := ⟨RX6, "overloadedBelow", "(III)I"⟩
abbrev cX6_weightAbove : ByteArray := prog_8_method_29_code
def yX6_weightAbove : MethodName := ⟨RX6, "weightAbove", "(I)I"⟩
abbrev cX6_weightOfRestOfBung : ByteArray := prog_8_method_30_code
def yX6_weightOfRestOfBung : MethodName := ⟨RX6, "weightOfRestOfBung", "(I)I"⟩
abbrev cX6_sumOfLoads : ByteArray := prog_8_method_31_code
def yX6_sumOfLoads : MethodName := ⟨RX6, "sumOfLoads", "()I"⟩
abbrev cX6_numberOfSaggar : ByteArray := prog_8_method_32_code
def yX6_numberOfSaggar : MethodName := ⟨RX6, "numberOfSaggar", "(II)I"⟩
abbrev cX6_accountOf : ByteArray := prog_8_method_33_code
def yX6_accountOf : MethodName := ⟨RX6, "accountOf", "(I)I"⟩
abbrev cX6_isClayBalanced : ByteArray := prog_8_method_34_code
def yX6_isClayBalanced : MethodName := ⟨RX6, "isClayBalanced", "()Z"⟩
abbrev cX6_areSalesBalanced : ByteArray := prog_8_method_35_code
def yX6_areSalesBalanced : MethodName := ⟨RX6, "areSalesBalanced", "()Z"⟩
abbrev cX6_areLoadsBalanced : ByteArray := prog_8_method_36_code
def yX6_areLoadsBalanced : MethodName := ⟨RX6, "areLoadsBalanced", "()Z"⟩
def RX7 : String := "SaggarKiln"
def TX7 : u_T := fun k => match k with
  | 0 => ("SaggarKiln", "reasons", "LSaggarKiln$Reasons;", true)
  | 1 => ("SaggarKiln", "history", "LSaggarKiln$History;", true)
  | 2 => ("SaggarKiln", "text", "LSaggarKiln$StepText;", true)
  | 3 => ("SaggarKiln", "now", "LSaggarKiln$Works;", false)
  | 4 => ("SaggarKiln", "draft", "LSaggarKiln$Works;", false)
  | 5 => ("SaggarKiln", "snapshot", "LSaggarKiln$Works;", true)
  | 6 => ("SaggarKiln", "hasSnapshot", "Z", false)
  | _ => ("SaggarKiln", "fault", "I", false)
def tyX7 : Nat → FieldType := fun k => match k with
  | 0 => .object "SaggarKiln$Reasons"
  | 1 => .object "SaggarKiln$History"
  | 2 => .object "SaggarKiln$StepText"
  | 3 => .object "SaggarKiln$Works"
  | 4 => .object "SaggarKiln$Works"
  | 5 => .object "SaggarKiln$Works"
  | 6 => .boolean
  | _ => .int
abbrev wsX70 : List Cond := u_ws RX7 TX7 8
theorem nmX7 : ∀ a, a < 8 → ∀ b, b < 8 → a ≠ b → (TX7 a).2.1 ≠ (TX7 b).2.1 := by decide +kernel
theorem tyX7_ok : ∀ k, k < 8 → parseFieldDescriptor (TX7 k).2.2.1 = some (tyX7 k) := by decide +kernel
abbrev cX7_init : ByteArray := prog_1_method_1_code
def yX7_init : MethodName := ⟨RX7, "<init>", "()V"⟩
abbrev cX7_set : ByteArray := prog_1_method_2_code
def yX7_set : MethodName := ⟨RX7, "set", "(II)I"⟩
abbrev cX7_clay : ByteArray := prog_1_method_3_code
def yX7_clay : MethodName := ⟨RX7, "clay", "(I)I"⟩
abbrev cX7_cast : ByteArray := prog_1_method_4_code
def yX7_cast : MethodName := ⟨RX7, "cast", "(III)I"⟩
abbrev cX7_glaze : ByteArray := prog_1_method_5_code
def yX7_glaze : MethodName := ⟨RX7, "glaze", "(III)I"⟩
abbrev cX7_saggar : ByteArray := prog_1_method_6_code
def yX7_saggar : MethodName := ⟨RX7, "saggar", "()I"⟩
abbrev cX7_stack : ByteArray := prog_1_method_7_code
def yX7_stack : MethodName := ⟨RX7, "stack", "(III)I"⟩
abbrev cX7_unstack : ByteArray := prog_1_method_8_code
def yX7_unstack : MethodName := ⟨RX7, "unstack", "(I)I"⟩
abbrev cX7_put : ByteArray := prog_1_method_9_code
def yX7_put : MethodName := ⟨RX7, "put", "(II)I"⟩
abbrev cX7_fire : ByteArray := prog_1_method_10_code
def yX7_fire : MethodName := ⟨RX7, "fire", "(I)I"⟩
abbrev cX7_empty : ByteArray := prog_1_method_11_code
def yX7_empty : MethodName := ⟨RX7, "empty", "(I)I"⟩
abbrev cX7_order : ByteArray := prog_1_method_12_code
def yX7_order : MethodName := ⟨RX7, "order", "(IIIIIZ)I"⟩
abbrev cX7_sell : ByteArray := prog_1_method_13_code
def yX7_sell : MethodName := ⟨RX7, "sell", "(I)I"⟩
abbrev cX7_ware : ByteArray := prog_1_method_14_code
def yX7_ware : MethodName := ⟨RX7, "ware", "(II)I"⟩
abbrev cX7_saggarOf : ByteArray := prog_1_method_15_code
def yX7_saggarOf : MethodName := ⟨RX7, "saggarOf", "(II)I"⟩
abbrev cX7_load : ByteArray := prog_1_method_16_code
def yX7_load : MethodName := ⟨RX7, "load", "(I)I"⟩
abbrev cX7_loadAgain : ByteArray := prog_1_method_17_code
def yX7_loadAgain : MethodName := ⟨RX7, "loadAgain", "(I)I"⟩
abbrev cX7_orderOf : ByteArray := prog_1_method_18_code
def yX7_orderOf : MethodName := ⟨RX7, "orderOf", "(II)I"⟩
abbrev cX7_sign : ByteArray := prog_1_method_19_code
def yX7_sign : MethodName := ⟨RX7, "sign", "(I)C"⟩
abbrev cX7_store : ByteArray := prog_1_method_20_code
def yX7_store : MethodName := ⟨RX7, "store", "(IIZ)I"⟩
abbrev cX7_heatAt : ByteArray := prog_1_method_21_code
def yX7_heatAt : MethodName := ⟨RX7, "heatAt", "(II)I"⟩
abbrev cX7_wouldBe : ByteArray := prog_1_method_22_code
def yX7_wouldBe : MethodName := ⟨RX7, "wouldBe", "(II)I"⟩
abbrev cX7_bestHeat : ByteArray := prog_1_method_23_code
def yX7_bestHeat : MethodName := ⟨RX7, "bestHeat", "(Z)I"⟩
abbrev cX7_sets : ByteArray := prog_1_method_24_code
def yX7_sets : MethodName := ⟨RX7, "sets", "(I)I"⟩
abbrev cX7_setsAgain : ByteArray := prog_1_method_25_code
def yX7_setsAgain : MethodName := ⟨RX7, "setsAgain", "(I)I"⟩
abbrev cX7_append : ByteArray := prog_1_method_26_code
def yX7_append : MethodName := ⟨RX7, "append", "(C)I"⟩
abbrev cX7_read : ByteArray := prog_1_method_27_code
def yX7_read : MethodName := ⟨RX7, "read", "()I"⟩
abbrev cX7_refusal : ByteArray := prog_1_method_29_code
def yX7_refusal : MethodName := ⟨RX7, "refusal", "(IZ)I"⟩
abbrev cX7_account : ByteArray := prog_1_method_30_code
def yX7_account : MethodName := ⟨RX7, "account", "(I)I"⟩
abbrev cX7_isBalanced : ByteArray := prog_1_method_31_code
def yX7_isBalanced : MethodName := ⟨RX7, "isBalanced", "()Z"⟩
abbrev cX7_firstShare : ByteArray := prog_1_method_32_code
def yX7_firstShare : MethodName := ⟨RX7, "firstShare", "()D"⟩
abbrev cX7_meanLoad : ByteArray := prog_1_method_33_code
def yX7_meanLoad : MethodName := ⟨RX7, "meanLoad", "()F"⟩
abbrev cX7_undo : ByteArray := prog_1_method_34_code
def yX7_undo : MethodName := ⟨RX7, "undo", "()I"⟩
abbrev cX7_freshDraft : ByteArray := prog_1_method_37_code
def yX7_freshDraft : MethodName := ⟨RX7, "freshDraft", "()LSaggarKiln$Works;"⟩
abbrev cX7_settle : ByteArray := prog_1_method_38_code
def yX7_settle : MethodName := ⟨RX7, "settle", "(I)I"⟩
abbrev cX7_doStep : ByteArray := prog_1_method_39_code
def yX7_doStep : MethodName := ⟨RX7, "doStep", "(LSaggarKiln$Works;I)I"⟩
abbrev cX7_needWare : ByteArray := prog_1_method_40_code
def yX7_needWare : MethodName := ⟨RX7, "needWare", "(I)V"⟩
abbrev cX7_needSaggar : ByteArray := prog_1_method_41_code
def yX7_needSaggar : MethodName := ⟨RX7, "needSaggar", "(I)V"⟩
abbrev cX7_needOrder : ByteArray := prog_1_method_42_code
def yX7_needOrder : MethodName := ⟨RX7, "needOrder", "(I)V"⟩
abbrev cX7_needRange : ByteArray := prog_1_method_43_code
def yX7_needRange : MethodName := ⟨RX7, "needRange", "(III)V"⟩
abbrev cX7_isFrom : ByteArray := prog_1_method_44_code
def yX7_isFrom : MethodName := ⟨RX7, "isFrom", "(III)Z"⟩
def RX8 : String := "SaggarKilnModel"
def TX8 : u_T := fun k => match k with
  | _ => ("", "", "", false)
def tyX8 : Nat → FieldType := fun k => match k with
  | _ => .int
abbrev wsX80 : List Cond := u_ws RX8 TX8 0
theorem nmX8 : ∀ a, a < 0 → ∀ b, b < 0 → a ≠ b → (TX8 a).2.1 ≠ (TX8 b).2.1 := by decide +kernel
theorem tyX8_ok : ∀ k, k < 0 → parseFieldDescriptor (TX8 k).2.2.1 = some (tyX8 k) := by decide +kernel
def RL : String := "SaggarKilnLaw"
abbrev cL_cell : ByteArray := method_2_code
def yL_cell : MethodName := ⟨RL, "cell", "([II)I"⟩
abbrev cL_set : ByteArray := method_3_code
def yL_set : MethodName := ⟨RL, "set", "(LSaggarKiln;II)I"⟩
abbrev cL_clay : ByteArray := method_4_code
def yL_clay : MethodName := ⟨RL, "clay", "(LSaggarKiln;I)I"⟩
abbrev cL_cast : ByteArray := method_5_code
def yL_cast : MethodName := ⟨RL, "cast", "(LSaggarKiln;III)I"⟩
abbrev cL_glaze : ByteArray := method_6_code
def yL_glaze : MethodName := ⟨RL, "glaze", "(LSaggarKiln;III)I"⟩
abbrev cL_saggar : ByteArray := method_7_code
def yL_saggar : MethodName := ⟨RL, "saggar", "(LSaggarKiln;)I"⟩
abbrev cL_stack : ByteArray := method_8_code
def yL_stack : MethodName := ⟨RL, "stack", "(LSaggarKiln;III)I"⟩
abbrev cL_unstack : ByteArray := method_9_code
def yL_unstack : MethodName := ⟨RL, "unstack", "(LSaggarKiln;I)I"⟩
abbrev cL_put : ByteArray := method_10_code
def yL_put : MethodName := ⟨RL, "put", "(LSaggarKiln;II)I"⟩
abbrev cL_fire : ByteArray := method_11_code
def yL_fire : MethodName := ⟨RL, "fire", "(LSaggarKiln;I)I"⟩
abbrev cL_empty : ByteArray := method_12_code
def yL_empty : MethodName := ⟨RL, "empty", "(LSaggarKiln;I)I"⟩
abbrev cL_order : ByteArray := method_13_code
def yL_order : MethodName := ⟨RL, "order", "(LSaggarKiln;IIIIIZ)I"⟩
abbrev cL_sell : ByteArray := method_14_code
def yL_sell : MethodName := ⟨RL, "sell", "(LSaggarKiln;I)I"⟩
abbrev cL_ware : ByteArray := method_15_code
def yL_ware : MethodName := ⟨RL, "ware", "(LSaggarKiln;II)I"⟩
abbrev cL_of : ByteArray := method_16_code
def yL_of : MethodName := ⟨RL, "of", "(LSaggarKiln;II)I"⟩
abbrev cL_heatAt : ByteArray := method_17_code
def yL_heatAt : MethodName := ⟨RL, "heatAt", "(LSaggarKiln;II)I"⟩
abbrev cL_wouldBe : ByteArray := method_18_code
def yL_wouldBe : MethodName := ⟨RL, "wouldBe", "(LSaggarKiln;II)I"⟩
abbrev cL_best : ByteArray := method_19_code
def yL_best : MethodName := ⟨RL, "best", "(LSaggarKiln;Z)I"⟩
abbrev cL_append : ByteArray := method_20_code
def yL_append : MethodName := ⟨RL, "append", "(LSaggarKiln;C)I"⟩
abbrev cL_reads : ByteArray := method_21_code
def yL_reads : MethodName := ⟨RL, "reads", "(LSaggarKiln;)I"⟩
abbrev cL_read : ByteArray := method_22_code
def yL_read : MethodName := ⟨RL, "read", "(LSaggarKiln;Ljava/lang/String;)I"⟩
abbrev cL_refusal : ByteArray := method_23_code
def yL_refusal : MethodName := ⟨RL, "refusal", "(LSaggarKiln;IZ)I"⟩
abbrev cL_undo : ByteArray := method_24_code
def yL_undo : MethodName := ⟨RL, "undo", "(LSaggarKiln;)I"⟩
abbrev cL_drawn : ByteArray := method_25_code
def yL_drawn : MethodName := ⟨RL, "drawn", "([I)LSaggarKiln;"⟩
abbrev cL_law : ByteArray := code
def yL_law : MethodName := ⟨RL, "law", "([I)Z"⟩
abbrev cL_stacks : ByteArray := method_27_code
def yL_stacks : MethodName := ⟨RL, "stacks", "(LSaggarKiln;)Z"⟩
abbrev cL_store : ByteArray := method_28_code
def yL_store : MethodName := ⟨RL, "store", "(LSaggarKiln;IIZ)I"⟩
abbrev cL_stores : ByteArray := method_29_code
def yL_stores : MethodName := ⟨RL, "stores", "(LSaggarKiln;)Z"⟩
abbrev cL_sets : ByteArray := method_30_code
def yL_sets : MethodName := ⟨RL, "sets", "(LSaggarKiln;IZ)I"⟩
abbrev cL_sells : ByteArray := method_31_code
def yL_sells : MethodName := ⟨RL, "sells", "(LSaggarKiln;)Z"⟩
abbrev cL_fires : ByteArray := method_32_code
def yL_fires : MethodName := ⟨RL, "fires", "([ILSaggarKiln;)Z"⟩
abbrev cL_sum : ByteArray := method_33_code
def yL_sum : MethodName := ⟨RL, "sum", "(LSaggarKiln;)J"⟩
abbrev cL_undone : ByteArray := method_34_code
def yL_undone : MethodName := ⟨RL, "undone", "([ILSaggarKiln;)Z"⟩
end
section
/-! THE ABSTRACT MACHINE. A heap is a list of cells; a reference is a place in it. A cell: may it be written, and what it is: an array (its components' type, its length and contents) or an object (number of its class, its fields). -/
abbrev aCl : List vw_C := [(RX0, TX0, 3), (RX1, TX1, 5), (RX2, TX2, 3), (RX3, TX3, 3), (RX4, TX4, 6), (RX5, TX5, 8), (RX6, TX6, 8), (RX7, TX7, 8)]
def aTy (ci : Nat) : Nat → FieldType := match ci with
  | 0 => tyX0
  | 1 => tyX1
  | 2 => tyX2
  | 3 => tyX3
  | 4 => tyX4
  | 5 => tyX5
  | 6 => tyX6
  | _ => tyX7
def aNf (ci : Nat) : Nat := match ci with
  | 0 => 3
  | 1 => 5
  | 2 => 3
  | 3 => 3
  | 4 => 6
  | 5 => 8
  | 6 => 8
  | _ => 8
abbrev aE : Type := (FieldType × vp_A) ⊕ (Nat × List Value)
abbrev aC : Type := Bool × aE
abbrev aH : Type := List aC
/-- an instruction, and what its places in the tables say: two numbers and an int -/
abbrev aI : Type := Instr × Nat × Nat × Int32
/-- counts: cells and slots made so far -/
abbrev aK : Type := Nat × Nat
/-- pc, locals, stack, heap, counts -/
abbrev aS : Type := Nat × List (Option Value) × List Value × aH × aK
/-- an answer (none: void) or an exception's number; heap; counts -/
abbrev aR : Type := (Option Value ⊕ Nat) × aH × aK
abbrev aF : Type := Nat → List Value → aH → Option aR
/-- handlers: from, to, where, which exception -/
abbrev aD : Type := List (Nat × Nat × Nat × Nat)
def aIx (i : Int32) (n : Nat) : Option Nat := if i < 0 ∨ n ≤ i.toNatClampNeg then none else some i.toNatClampNeg
/-- the arrays' component types that there are -/
def aTk (ty : FieldType) : Bool := match ty with
  | .int => true
  | .char => true
  | .long => true
  | .object n => n == RX6
  | .array .int => true
  | _ => false
def aGo (pc : Nat) (ls : List (Option Value)) (st : List Value) (h : aH) (k : aK) : Option (aS ⊕ aR) := some (.inl (pc, ls, st, h, k))
def aP1 (st : List Value) (f : Int32 → List Value → Option (aS ⊕ aR)) : Option (aS ⊕ aR) := match st with
  | .int x :: r => f x r
  | _ => none
def aP2 (st : List Value) (f : Int32 → Int32 → List Value → Option (aS ⊕ aR)) : Option (aS ⊕ aR) := match st with
  | .int y :: .int x :: r => f x y r
  | _ => none
def aPr (st : List Value) (f : Nat → List Value → Option (aS ⊕ aR)) : Option (aS ⊕ aR) := match st with
  | .ref q :: r => f q r
  | _ => none
/-- an index over an array -/
def aPir (st : List Value) (f : Int32 → Nat → List Value → Option (aS ⊕ aR)) : Option (aS ⊕ aR) := match st with
  | .int i :: .ref q :: r => f i q r
  | _ => none
def aPvir (st : List Value) (f : Value → Int32 → Nat → List Value → Option (aS ⊕ aR)) : Option (aS ⊕ aR) := match st with
  | x :: .int i :: .ref q :: r => f x i q r
  | _ => none
def aOb (h : aH) (q : Nat) (f : Bool → Nat → List Value → Option (aS ⊕ aR)) : Option (aS ⊕ aR) := match h[q]? with
  | some (w, .inr (ci, fs)) => f w ci fs
  | _ => none
def aAr (h : aH) (q : Nat) (f : Bool → FieldType → vp_A → Option (aS ⊕ aR)) : Option (aS ⊕ aR) := match h[q]? with
  | some (w, .inl (ty, x)) => f w ty x
  | _ => none
def aAt (i : Int32) (n : Nat) (f : Nat → Option (aS ⊕ aR)) : Option (aS ⊕ aR) := match aIx i n with
  | some j => f j
  | none => none
/-- does a value suit a field or an answer of that type -/
def aFit (ty : FieldType) (x : Value) : Bool := match ty, x with
  | .int, .int _ => true
  | .boolean, .int z => z == 0 || z == 1
  | .char, .int z => (z.toUInt32 % 65536).toInt32 == z
  | .float, .float _ => true
  | .double, .double _ => true
  | .object _, .ref _ => true
  | .array _, .ref _ => true
  | _, _ => false
/-- may a value of one slot be stored at place i: the place is there, and no long or double stands before it -/
def aMay (ls : List (Option Value)) (i : Nat) : Bool := decide (i < ls.length) && (match i with
  | 0 => true
  | j + 1 => match ls[j]? with
    | some (some x) => x.category == 1
    | _ => true)
def aSum (st : List Value) : Nat := (st.map fun x => x.category).sum
def aCond (c : ClassFile.Cond) (x y : Int32) : Bool := match c with
  | .eq => decide (x = y)
  | .ne => decide (x ≠ y)
  | .lt => decide (x < y)
  | .ge => decide (y ≤ x)
  | .gt => decide (y < x)
  | .le => decide (x ≤ y)
def aHd : aD → Nat → Nat → Option Nat
  | [], _, _ => none
  | (f, t, w, e) :: r, pc, x => if f ≤ pc ∧ pc < t ∧ e = x then some w else aHd r pc x
/-- behind a call -/
def aBack (nt : Bool) (hd : aD) (cd : List aI) (pc : Nat) (ls : List (Option Value)) (rest : List Value) (k : aK) (r : Option aR) : Option (aS ⊕ aR) := match r with
  | none => none
  | some (.inl v, h, d) => aGo (pc + 3) ls (v.toList ++ rest) h (k.1 + d.1, k.2 + d.2)
  | some (.inr e, h, d) => if nt = true then none else match aHd hd pc e with
    | none => if hd = [] then some (.inr (.inr e, h, (k.1 + d.1, k.2 + d.2))) else none
    | some t => match cd[t]? with
      | some (.astore_n n, _) => if aMay ls n.val then aGo (t + 1) (ls.set n.val none) [] h (k.1 + d.1, k.2 + d.2) else none
      | some (.astore n, _) => if aMay ls n then aGo (t + 2) (ls.set n none) [] h (k.1 + d.1, k.2 + d.2) else none
      | _ => none
/-- Math.max, min, System.arraycopy -/
def aNat (a : Nat) (pc : Nat) (ls : List (Option Value)) (st : List Value) (h : aH) (k : aK) : Option (aS ⊕ aR) := match a with
  | 500 => aP2 st fun x y r => if aSum r ≤ 8 then aGo (pc + 3) ls (.int (if x < y then y else x) :: r) h k else none
  | 501 => aP2 st fun x y r => if aSum r ≤ 8 then aGo (pc + 3) ls (.int (if y < x then y else x) :: r) h k else none
  | 502 => match st with
    | .int n :: .int dp :: .ref d :: .int sp :: .ref q :: r =>
      if n < 0 ∨ dp < 0 ∨ sp < 0 ∨ 8 < aSum r then none else
      aAr h q fun w0 ty0 x0 => aAr h d fun w1 ty1 x1 => match x0.2, x1.2 with
        | .inl f, .inl g => if w0 = true ∧ w1 = true ∧ ty0 = .int ∧ ty1 = .int ∧ sp.toNatClampNeg + n.toNatClampNeg ≤ x0.1 ∧ dp.toNatClampNeg + n.toNatClampNeg ≤ x1.1 then
            aGo (pc + 3) ls r (h.set d (true, .inl (.int, x1.1, .inl (va_cpy f g sp.toNatClampNeg dp.toNatClampNeg n.toNatClampNeg)))) k else none
        | _, _ => none
    | _ => none
  | _ => none
/-- a call: of the program's own method a with b arguments (this counted) -/
def aCall (nt : Bool) (call : aF) (hd : aD) (cd : List aI) (a b : Nat) (pc : Nat) (ls : List (Option Value)) (st : List Value) (h : aH) (k : aK) : Option (aS ⊕ aR) :=
  if b ≤ st.length ∧ aSum (st.drop b) ≤ 8 ∧ ((st.take b).all fun x => x.category == 1) = true then aBack nt hd cd pc ls (st.drop b) k (call a (st.take b).reverse h) else none
/-- the object that a call is made on: the last of its arguments on the stack -/
def aRecv (cls : Nat → Nat) (a b : Nat) (st : List Value) (h : aH) : Bool := match st[b - 1]? with
  | some (.ref q) => match h[q]? with
    | some (true, .inr (ci, _)) => ci == cls a && decide (1 ≤ b)
    | _ => false
  | _ => false
/-- texts: 90 "gsfiox", 91 to 95 the parts of a text, from 100 on whole texts, by their three digits -/
def aStr (ci : Nat) : List Int32 := if ci = 90 then [103, 115, 102, 105, 111, 120] else if ci = 91 then [116] else if ci = 92 then [42, 50, 59, 101] else if ci = 93 then [59, 102, 49, 50] else if ci = 94 then [48] else if ci < 100 then [] else
  [116, Int32.ofNat (48 + (ci - 100) / 55), 42, 50, 59, 101, Int32.ofNat (48 + (ci - 100) / 11 % 5)] ++ (if (ci - 100) % 11 = 0 then [] else [59, 102, 49, 50, Int32.ofNat (47 + (ci - 100) % 11), 48])
/-- charAt and length of those -/
def aText (a : Nat) (pc : Nat) (ls : List (Option Value)) (st : List Value) (h : aH) (k : aK) : Option (aS ⊕ aR) := match a with
  | 503 => aPir st fun i q r => if aSum r ≤ 8 then aOb h q fun _ ci _ => if 90 ≤ ci ∧ ci < 400 then aAt i (aStr ci).length fun j => aGo (pc + 3) ls (.int ((aStr ci).getD j 0) :: r) h k else none else none
  | 505 => aPr st fun q r => if aSum r ≤ 8 then aOb h q fun _ ci _ => if 90 ≤ ci ∧ ci < 400 then aGo (pc + 3) ls (.int (Int32.ofNat (aStr ci).length) :: r) h k else none else none
  | _ => none
/-- one step -/
def aEx (call : aF) (cls : Nat → Nat) (hd : aD) (cd : List aI) (rt : Option FieldType) (al : Bool) (i : Instr) (a b : Nat) (v : Int32) (pc : Nat) (ls : List (Option Value)) (st : List Value) (h : aH) (k : aK) : Option (aS ⊕ aR) := match i with
  | .iconst _ => aGo (pc + 1) ls (.int v :: st) h k
  | .bipush _ => aGo (pc + 2) ls (.int v :: st) h k
  | .sipush _ => aGo (pc + 3) ls (.int v :: st) h k
  | .ldc _ => if b = 1 then aGo (pc + 2) ls (.int v :: st) h k else match h[a]? with
    | some (_, .inr (ci, _)) => if ci = b then aGo (pc + 2) ls (.ref a :: st) h k else none
    | _ => none
  | .ldc2_w _ => aGo (pc + 3) ls (.long v.toInt64 :: st) h k
  | .lload_n n => match ls[n.val]? with
    | some (some (.long x)) => aGo (pc + 1) ls (.long x :: st) h k
    | _ => none
  | .lstore_n n => match st with
    | .long x :: r => if aMay ls n.val ∧ n.val + 1 < ls.length then aGo (pc + 1) ((ls.set n.val (some (.long x))).set (n.val + 1) none) r h k else none
    | _ => none
  | .ladd => match st with
    | .long y :: .long x :: r => aGo (pc + 1) ls (.long (x + y) :: r) h k
    | _ => none
  | .lmul => match st with
    | .long y :: .long x :: r => aGo (pc + 1) ls (.long (x * y) :: r) h k
    | _ => none
  | .iushr => aP2 st fun x y r => aGo (pc + 1) ls (.int (x.toUInt32 >>> (y.toUInt32 &&& Int32.toUInt32 31)).toInt32 :: r) h k
  | .ifnull _ => aPr st fun _ r => aGo (pc + 3) ls r h k
  | .iload_n n => match ls[n.val]? with
    | some (some (.int x)) => aGo (pc + 1) ls (.int x :: st) h k
    | _ => none
  | .iload n => match ls[n]? with
    | some (some (.int x)) => aGo (pc + 2) ls (.int x :: st) h k
    | _ => none
  | .aload_n n => match ls[n.val]? with
    | some (some (.ref x)) => aGo (pc + 1) ls (.ref x :: st) h k
    | _ => none
  | .aload n => match ls[n]? with
    | some (some (.ref x)) => aGo (pc + 2) ls (.ref x :: st) h k
    | _ => none
  | .fload n => match ls[n]? with
    | some (some (.float x)) => aGo (pc + 2) ls (.float x :: st) h k
    | _ => none
  | .dload n => match ls[n]? with
    | some (some (.double x)) => aGo (pc + 2) ls (.double x :: st) h k
    | _ => none
  | .istore_n n => aP1 st fun x r => if aMay ls n.val then aGo (pc + 1) (ls.set n.val (some (.int x))) r h k else none
  | .istore n => aP1 st fun x r => if aMay ls n then aGo (pc + 2) (ls.set n (some (.int x))) r h k else none
  | .astore_n n => aPr st fun x r => if aMay ls n.val then aGo (pc + 1) (ls.set n.val (some (.ref x))) r h k else none
  | .astore n => aPr st fun x r => if aMay ls n then aGo (pc + 2) (ls.set n (some (.ref x))) r h k else none
  | .fstore n => match st with
    | .float x :: r => if aMay ls n then aGo (pc + 2) (ls.set n (some (.float x))) r h k else none
    | _ => none
  | .dstore n => match st with
    | .double x :: r => if aMay ls n ∧ n + 1 < ls.length then aGo (pc + 2) ((ls.set n (some (.double x))).set (n + 1) none) r h k else none
    | _ => none
  | .iinc n _ => match ls[n]? with
    | some (some (.int x)) => if aMay ls n then aGo (pc + 3) (ls.set n (some (.int (x + v)))) st h k else none
    | _ => none
  | .iadd => aP2 st fun x y r => aGo (pc + 1) ls (.int (x + y) :: r) h k
  | .isub => aP2 st fun x y r => aGo (pc + 1) ls (.int (x - y) :: r) h k
  | .imul => aP2 st fun x y r => aGo (pc + 1) ls (.int (x * y) :: r) h k
  | .iand => aP2 st fun x y r => aGo (pc + 1) ls (.int (x &&& y) :: r) h k
  | .idiv => aP2 st fun x y r => if y = 0 then none else aGo (pc + 1) ls (.int (x / y) :: r) h k
  | .irem => aP2 st fun x y r => if y = 0 then none else aGo (pc + 1) ls (.int (x - x / y * y) :: r) h k
  | .i2l => aP1 st fun x r => aGo (pc + 1) ls (.long x.toInt64 :: r) h k
  | .i2c => aP1 st fun x r => aGo (pc + 1) ls (.int (x.toUInt32 % 65536).toInt32 :: r) h k
  | .i2f => aP1 st fun x r => aGo (pc + 1) ls (.float (FP.i2f x) :: r) h k
  | .i2d => aP1 st fun x r => aGo (pc + 1) ls (.double (FP.i2d x) :: r) h k
  | .f2d => match st with
    | .float x :: r => if FP.f2d x &&& 0x7fffffffffffffff ≤ 0x7ff0000000000000 then aGo (pc + 1) ls (.double (FP.f2d x) :: r) h k else none
    | _ => none
  | .fdiv => match st with
    | .float y :: .float x :: r => if FP.fdiv x y &&& 0x7fffffff ≤ 0x7f800000 then aGo (pc + 1) ls (.float (FP.fdiv x y) :: r) h k else none
    | _ => none
  | .ddiv => match st with
    | .double y :: .double x :: r => if FP.ddiv x y &&& 0x7fffffffffffffff ≤ 0x7ff0000000000000 then aGo (pc + 1) ls (.double (FP.ddiv x y) :: r) h k else none
    | _ => none
  | .fconst n => if n = 0 then aGo (pc + 1) ls (.float FP.fconst0 :: st) h k else none
  | .dconst n => if n = 0 then aGo (pc + 1) ls (.double FP.dconst0 :: st) h k else none
  | .lcmp => match st with
    | .long y :: .long x :: r => aGo (pc + 1) ls (.int (lg_cmp x y) :: r) h k
    | _ => none
  | .fcmp op => match st with
    | .float y :: .float x :: r => aGo (pc + 1) ls (.int (Op.cmpValue (FP.fcmp x y) op) :: r) h k
    | _ => none
  | .dcmp op => match st with
    | .double y :: .double x :: r => aGo (pc + 1) ls (.int (Op.cmpValue (FP.dcmp x y) op) :: r) h k
    | _ => none
  | .dup => match st with
    | x :: r => if x.category = 1 then aGo (pc + 1) ls (x :: x :: r) h k else none
    | _ => none
  | .dup2 => match st with
    | x :: y :: r => if x.category = 1 ∧ y.category = 1 then aGo (pc + 1) ls (x :: y :: x :: y :: r) h k else none
    | _ => none
  | .ifCond c _ => aP1 st fun x r => aGo (if aCond c x 0 = true then a else pc + 3) ls r h k
  | .if_icmp c _ => aP2 st fun x y r => aGo (if aCond c x y = true then a else pc + 3) ls r h k
  | .goto _ => aGo a ls st h k
  | .tableswitch dflt lo hi offs => aP1 st fun x r => if x.toInt < lo ∨ hi < x.toInt then aGo a ls r h k else match offs[(x.toInt - lo).toNat]? with
    | some o => if 0 ≤ (pc : Int) + o then aGo ((pc : Int) + o).toNat ls r h k else none
    | none => none
  | .lookupswitch dflt ps => aP1 st fun x r => if 0 ≤ (pc : Int) + Op.lookupswitch.offset ps.toList dflt x.toInt then aGo ((pc : Int) + Op.lookupswitch.offset ps.toList dflt x.toInt).toNat ls r h k else none
  | .getfield _ => aPr st fun q r => aOb h q fun w ci fs => if w = true ∧ ci = a then match fs[b]? with
    | some x => aGo (pc + 3) ls (x :: r) h k
    | none => none else none
  | .putfield _ => match st with
    | x :: .ref q :: r => aOb h q fun w ci fs => if w = true ∧ ci = a ∧ b < fs.length ∧ aFit (aTy a b) x = true then aGo (pc + 3) ls r (h.set q (true, .inr (ci, fs.set b x))) k else none
    | _ => none
  | .getstatic _ => aGo (pc + 3) ls (.ref a :: st) h k
  | .iaload => aPir st fun i q r => aAr h q fun _ ty x => match ty, x.2 with
    | .int, .inl f => aAt i x.1 fun j => aGo (pc + 1) ls (.int (f j) :: r) h k
    | _, _ => none
  | .caload => aPir st fun i q r => aAr h q fun _ ty x => match ty, x.2 with
    | .char, .inl f => aAt i x.1 fun j => aGo (pc + 1) ls (.int (f j) :: r) h k
    | _, _ => none
  | .laload => aPir st fun i q r => aAr h q fun _ ty x => match ty, x.2 with
    | .long, .inr (.inl f) => aAt i x.1 fun j => aGo (pc + 1) ls (.long (f j) :: r) h k
    | _, _ => none
  | .aaload => aPir st fun i q r => aAr h q fun w ty x => match x.2 with
    | .inr (.inr (.inr (.inr f))) => if w = true ∧ ty.isReference = true ∧ aTk ty = true then aAt i x.1 fun j => match f j with
      | some y => aGo (pc + 1) ls (.ref y :: r) h k
      | none => none else none
    | _ => none
  | .iastore => aPvir st fun x i q r => aAr h q fun w ty z => match x, ty, z.2 with
    | .int x, .int, .inl f => if w = true then aAt i z.1 fun j => aGo (pc + 1) ls r (h.set q (true, .inl (.int, z.1, .inl (upd f j x)))) k else none
    | _, _, _ => none
  | .castore => aPvir st fun x i q r => aAr h q fun w ty z => match x, ty, z.2 with
    | .int x, .char, .inl f => if w = true ∧ (x.toUInt32 % 65536).toInt32 = x then aAt i z.1 fun j => aGo (pc + 1) ls r (h.set q (true, .inl (.char, z.1, .inl (upd f j x)))) k else none
    | _, _, _ => none
  | .lastore => aPvir st fun x i q r => aAr h q fun w ty z => match x, ty, z.2 with
    | .long x, .long, .inr (.inl f) => if w = true then aAt i z.1 fun j => aGo (pc + 1) ls r (h.set q (true, .inl (.long, z.1, .inr (.inl (vp_updL f j x))))) k else none
    | _, _, _ => none
  | .aastore => aPvir st fun x i q r => aAr h q fun w ty z => match x, z.2 with
    | .ref y, .inr (.inr (.inr (.inr f))) => aOb h y fun w1 ci _ => if w = true ∧ w1 = true ∧ ci = 6 ∧ ty = .object RX6 then aAt i z.1 fun j => aGo (pc + 1) ls r (h.set q (true, .inl (.object RX6, z.1, .inr (.inr (.inr (.inr (va_up f j (some y)))))))) k else none
    | _, _ => none
  | .arraylength => aPr st fun q r => aAr h q fun _ ty x => if aTk ty = true then aGo (pc + 1) ls (.int (Int32.ofNat x.1) :: r) h k else none
  | .newarray t => aP1 st fun n r => if al = true ∧ 0 ≤ n ∧ n.toNatClampNeg ≤ 100000 then match t with
    | .int => aGo (pc + 2) ls (.ref h.length :: r) (h ++ [(true, .inl (.int, n.toNatClampNeg, .inl fun _ => 0))]) (k.1 + 1, k.2 + n.toNatClampNeg)
    | .char => aGo (pc + 2) ls (.ref h.length :: r) (h ++ [(true, .inl (.char, n.toNatClampNeg, .inl fun _ => 0))]) (k.1 + 1, k.2 + n.toNatClampNeg)
    | .long => aGo (pc + 2) ls (.ref h.length :: r) (h ++ [(true, .inl (.long, n.toNatClampNeg, .inr (.inl fun _ => 0)))]) (k.1 + 1, k.2 + n.toNatClampNeg)
    | _ => none else none
  | .anewarray _ => aP1 st fun n r => if al = true ∧ 0 ≤ n ∧ n.toNatClampNeg ≤ 100000 then aGo (pc + 3) ls (.ref h.length :: r) (h ++ [(true, .inl (.object RX6, n.toNatClampNeg, .inr (.inr (.inr (.inr fun _ => none)))))]) (k.1 + 1, k.2 + n.toNatClampNeg) else none
  | .multianewarray _ _ => match st with
    | .int y :: .int x :: r => if al = true ∧ x = 3 ∧ y = 20 then aGo (pc + 4) ls (.ref h.length :: r) (h ++ [(true, .inl (.array .int, 3, .inr (.inr (.inr (.inr fun i => if i < 3 then some (h.length + 1 + i) else none))))), (true, .inl (.int, 20, .inl fun _ => 0)), (true, .inl (.int, 20, .inl fun _ => 0)), (true, .inl (.int, 20, .inl fun _ => 0))]) (k.1 + 4, k.2 + 63) else none
    | _ => none
  | .new _ => if a = 999 then none else if 100 ≤ a then (if al = false ∧ hd = [] ∧ aSum st ≤ 8 then some (.inr (.inr (a - 100), h, (k.1 + 1, k.2 + 6))) else none) else
    if al = true then aGo (pc + 3) ls (.ref h.length :: st) (h ++ [(true, .inr (a, (List.range (aNf a)).map fun j => defaultValue (aTy a j)))]) (k.1 + 1, k.2 + aNf a) else none
  | .invokevirtual _ => if 500 ≤ a then aText a pc ls st h k else if aRecv cls a b st h = true then aCall (v == 1) call hd cd a b pc ls st h k else none
  | .invokestatic _ => if 500 ≤ a then aNat a pc ls st h k else aCall (v == 1) call hd cd a b pc ls st h k
  | .invokespecial _ => if a = 600 then aPr st fun _ r => if aSum r ≤ 8 then aGo (pc + 3) ls r h k else none else if aRecv cls a b st h = true then aCall (v == 1) call hd cd a b pc ls st h k else none
  | .ireturn => match st with
    | [.int x] => match rt with
      | some ty => if aFit ty (.int x) = true then some (.inr (.inl (some (.int x)), h, k)) else none
      | none => none
    | _ => none
  | .freturn => match st with
    | [.float x] => if rt = some .float then some (.inr (.inl (some (.float x)), h, k)) else none
    | _ => none
  | .dreturn => match st with
    | [.double x] => if rt = some .double then some (.inr (.inl (some (.double x)), h, k)) else none
    | _ => none
  | .lreturn => match st with
    | [.long x] => if rt = some .long then some (.inr (.inl (some (.long x)), h, k)) else none
    | _ => none
  | .areturn => match st with
    | [.ref x] => if rt = some (.object RX6) ∨ rt = some (.object RX7) then some (.inr (.inl (some (.ref x)), h, k)) else none
    | _ => none
  | .return_ => match st with
    | [] => if rt = none then some (.inr (.inl none, h, k)) else none
    | _ => none
  | _ => none
def aStep (call : aF) (cls : Nat → Nat) (hd : aD) (cd : List aI) (rt : Option FieldType) (al : Bool) (s : aS) : Option (aS ⊕ aR) := match cd[s.1]? with
  | none => none
  | some (i, a, b, v) => aEx call cls hd cd rt al i a b v s.1 s.2.1 s.2.2.1 s.2.2.2.1 s.2.2.2.2
/-- n steps, or until an end -/
def aIt (f : aS → Option (aS ⊕ aR)) : Nat → aS → Option (aS ⊕ aR)
  | 0, s => some (.inl s)
  | n + 1, s => match f s with
    | some (.inl t) => aIt f n t
    | x => x
end
section
/-! the program: written by wip/whole/gen.py out of the claim's own listing -/
abbrev aN : aI := (.nop, 0, 0, 0)
def aB_X0_init : List aI := [(.aload_n 0, 0, 0, 0), (.invokespecial 3, 600, 1, 0), aN, aN, (.aload_n 0, 0, 0, 0), (.bipush 8, 0, 0, 8), aN, (.anewarray 9, 0, 0, 0), aN, aN, (.putfield 11, 0, 2, 0), aN, aN, (.iconst 0, 0, 0, 0), (.istore_n 1, 0, 0, 0), (.iload_n 1, 0, 0, 0), (.bipush 8, 0, 0, 8), aN, (.if_icmp .ge 22, 40, 0, 0), aN, aN, (.aload_n 0, 0, 0, 0), (.getfield 11, 0, 2, 0), aN, aN, (.iload_n 1, 0, 0, 0), (.new 9, 6, 0, 0), aN, aN, (.dup, 0, 0, 0), (.invokespecial 17, 56, 1, 1), aN, aN, (.aastore, 0, 0, 0), (.iinc 1 1, 0, 0, 1), aN, aN, (.goto (-22), 15, 0, 0), aN, aN, (.return_, 0, 0, 0)]
def aB_X0_keep : List aI := [(.aload_n 0, 0, 0, 0), (.getfield 11, 0, 2, 0), aN, aN, (.aload_n 0, 0, 0, 0), (.getfield 18, 0, 1, 0), aN, aN, (.aaload, 0, 0, 0), (.astore_n 2, 0, 0, 0), (.aload_n 0, 0, 0, 0), (.getfield 11, 0, 2, 0), aN, aN, (.aload_n 0, 0, 0, 0), (.getfield 18, 0, 1, 0), aN, aN, (.aload_n 1, 0, 0, 0), (.aastore, 0, 0, 0), (.aload_n 0, 0, 0, 0), (.aload_n 0, 0, 0, 0), (.getfield 18, 0, 1, 0), aN, aN, (.iconst 1, 0, 0, 1), (.iadd, 0, 0, 0), (.bipush 8, 0, 0, 8), aN, (.irem, 0, 0, 0), (.putfield 18, 0, 1, 0), aN, aN, (.aload_n 0, 0, 0, 0), (.aload_n 0, 0, 0, 0), (.getfield 22, 0, 0, 0), aN, aN, (.iconst 1, 0, 0, 1), (.iadd, 0, 0, 0), (.bipush 8, 0, 0, 8), aN, (.invokestatic 25, 501, 2, 0), aN, aN, (.putfield 22, 0, 0, 0), aN, aN, (.aload_n 2, 0, 0, 0), (.areturn, 0, 0, 0)]
def aB_X0_exchangeLatest : List aI := [(.aload_n 0, 0, 0, 0), (.aload_n 0, 0, 0, 0), (.getfield 18, 0, 1, 0), aN, aN, (.bipush 8, 0, 0, 8), aN, (.iadd, 0, 0, 0), (.iconst 1, 0, 0, 1), (.isub, 0, 0, 0), (.bipush 8, 0, 0, 8), aN, (.irem, 0, 0, 0), (.putfield 18, 0, 1, 0), aN, aN, (.aload_n 0, 0, 0, 0), (.getfield 11, 0, 2, 0), aN, aN, (.aload_n 0, 0, 0, 0), (.getfield 18, 0, 1, 0), aN, aN, (.aaload, 0, 0, 0), (.astore_n 2, 0, 0, 0), (.aload_n 0, 0, 0, 0), (.getfield 11, 0, 2, 0), aN, aN, (.aload_n 0, 0, 0, 0), (.getfield 18, 0, 1, 0), aN, aN, (.aload_n 1, 0, 0, 0), (.aastore, 0, 0, 0), (.aload_n 0, 0, 0, 0), (.aload_n 0, 0, 0, 0), (.getfield 22, 0, 0, 0), aN, aN, (.iconst 1, 0, 0, 1), (.isub, 0, 0, 0), (.iconst 0, 0, 0, 0), (.invokestatic 31, 500, 2, 0), aN, aN, (.putfield 22, 0, 0, 0), aN, aN, (.aload_n 2, 0, 0, 0), (.areturn, 0, 0, 0)]
def aB_X1_init : List aI := [(.aload_n 0, 0, 0, 0), (.invokespecial 3, 600, 1, 0), aN, aN, (.aload_n 0, 0, 0, 0), (.bipush 6, 0, 0, 6), aN, (.newarray .int, 0, 0, 0), aN, (.putfield 9, 1, 1, 0), aN, aN, (.aload_n 0, 0, 0, 0), (.bipush 6, 0, 0, 6), aN, (.newarray .int, 0, 0, 0), aN, (.putfield 15, 1, 2, 0), aN, aN, (.aload_n 0, 0, 0, 0), (.bipush 6, 0, 0, 6), aN, (.newarray .int, 0, 0, 0), aN, (.putfield 18, 1, 3, 0), aN, aN, (.aload_n 0, 0, 0, 0), (.bipush 24, 0, 0, 24), aN, (.newarray .int, 0, 0, 0), aN, (.putfield 21, 1, 4, 0), aN, aN, (.return_, 0, 0, 0)]
def aB_X1_copyFrom : List aI := [(.aload_n 0, 0, 0, 0), (.aload_n 1, 0, 0, 0), (.getfield 24, 1, 0, 0), aN, aN, (.putfield 24, 1, 0, 0), aN, aN, (.aload_n 1, 0, 0, 0), (.getfield 9, 1, 1, 0), aN, aN, (.iconst 0, 0, 0, 0), (.aload_n 0, 0, 0, 0), (.getfield 9, 1, 1, 0), aN, aN, (.iconst 0, 0, 0, 0), (.bipush 6, 0, 0, 6), aN, (.invokestatic 28, 502, 5, 0), aN, aN, (.aload_n 1, 0, 0, 0), (.getfield 15, 1, 2, 0), aN, aN, (.iconst 0, 0, 0, 0), (.aload_n 0, 0, 0, 0), (.getfield 15, 1, 2, 0), aN, aN, (.iconst 0, 0, 0, 0), (.bipush 6, 0, 0, 6), aN, (.invokestatic 28, 502, 5, 0), aN, aN, (.aload_n 1, 0, 0, 0), (.getfield 18, 1, 3, 0), aN, aN, (.iconst 0, 0, 0, 0), (.aload_n 0, 0, 0, 0), (.getfield 18, 1, 3, 0), aN, aN, (.iconst 0, 0, 0, 0), (.bipush 6, 0, 0, 6), aN, (.invokestatic 28, 502, 5, 0), aN, aN, (.aload_n 1, 0, 0, 0), (.getfield 21, 1, 4, 0), aN, aN, (.iconst 0, 0, 0, 0), (.aload_n 0, 0, 0, 0), (.getfield 21, 1, 4, 0), aN, aN, (.iconst 0, 0, 0, 0), (.bipush 24, 0, 0, 24), aN, (.invokestatic 28, 502, 5, 0), aN, aN, (.return_, 0, 0, 0)]
def aB_X1_has : List aI := [(.iload_n 1, 0, 0, 0), (.ifCond .lt 15, 16, 0, 0), aN, aN, (.iload_n 1, 0, 0, 0), (.aload_n 0, 0, 0, 0), (.getfield 24, 1, 0, 0), aN, aN, (.if_icmp .ge 7, 16, 0, 0), aN, aN, (.iconst 1, 0, 0, 1), (.goto 4, 17, 0, 0), aN, aN, (.iconst 0, 0, 0, 0), (.ireturn, 0, 0, 0)]
def aB_X1_add : List aI := [(.aload_n 0, 0, 0, 0), (.getfield 24, 1, 0, 0), aN, aN, (.bipush 6, 0, 0, 6), aN, (.if_icmp .lt 5, 11, 0, 0), aN, aN, (.iconst (-1), 0, 0, (-1)), (.ireturn, 0, 0, 0), (.aload_n 0, 0, 0, 0), (.getfield 9, 1, 1, 0), aN, aN, (.aload_n 0, 0, 0, 0), (.getfield 24, 1, 0, 0), aN, aN, (.iload_n 1, 0, 0, 0), (.iastore, 0, 0, 0), (.aload_n 0, 0, 0, 0), (.getfield 15, 1, 2, 0), aN, aN, (.aload_n 0, 0, 0, 0), (.getfield 24, 1, 0, 0), aN, aN, (.iload_n 2, 0, 0, 0), (.ifCond .eq 7, 37, 0, 0), aN, aN, (.iconst 1, 0, 0, 1), (.goto 4, 38, 0, 0), aN, aN, (.iconst 0, 0, 0, 0), (.iastore, 0, 0, 0), (.aload_n 0, 0, 0, 0), (.getfield 18, 1, 3, 0), aN, aN, (.aload_n 0, 0, 0, 0), (.getfield 24, 1, 0, 0), aN, aN, (.iconst 0, 0, 0, 0), (.iastore, 0, 0, 0), (.aload_n 0, 0, 0, 0), (.dup, 0, 0, 0), (.getfield 24, 1, 0, 0), aN, aN, (.iconst 1, 0, 0, 1), (.iadd, 0, 0, 0), (.putfield 24, 1, 0, 0), aN, aN, (.aload_n 0, 0, 0, 0), (.getfield 24, 1, 0, 0), aN, aN, (.iconst 1, 0, 0, 1), (.isub, 0, 0, 0), (.ireturn, 0, 0, 0)]
def aB_X1_ask : List aI := [(.aload_n 0, 0, 0, 0), (.iload_n 1, 0, 0, 0), (.invokevirtual 34, 5, 2, 0), aN, aN, (.ifCond .eq 14, 19, 0, 0), aN, aN, (.aload_n 0, 0, 0, 0), (.getfield 21, 1, 4, 0), aN, aN, (.iload_n 1, 0, 0, 0), (.iconst 4, 0, 0, 4), (.imul, 0, 0, 0), (.iload_n 2, 0, 0, 0), (.iadd, 0, 0, 0), (.iload_n 3, 0, 0, 0), (.iastore, 0, 0, 0), (.return_, 0, 0, 0)]
def aB_X1_askedOf : List aI := [(.aload_n 0, 0, 0, 0), (.getfield 21, 1, 4, 0), aN, aN, (.iload_n 1, 0, 0, 0), (.iconst 4, 0, 0, 4), (.imul, 0, 0, 0), (.iload_n 2, 0, 0, 0), (.iadd, 0, 0, 0), (.iaload, 0, 0, 0), (.ireturn, 0, 0, 0)]
def aB_X1_countSold : List aI := [(.iconst 0, 0, 0, 0), (.istore_n 1, 0, 0, 0), (.iconst 0, 0, 0, 0), (.istore_n 2, 0, 0, 0), (.iload_n 2, 0, 0, 0), (.aload_n 0, 0, 0, 0), (.getfield 24, 1, 0, 0), aN, aN, (.if_icmp .ge 18, 27, 0, 0), aN, aN, (.iload_n 1, 0, 0, 0), (.aload_n 0, 0, 0, 0), (.getfield 18, 1, 3, 0), aN, aN, (.iload_n 2, 0, 0, 0), (.iaload, 0, 0, 0), (.iadd, 0, 0, 0), (.istore_n 1, 0, 0, 0), (.iinc 2 1, 0, 0, 1), aN, aN, (.goto (-20), 4, 0, 0), aN, aN, (.iload_n 1, 0, 0, 0), (.ireturn, 0, 0, 0)]
def aB_X1_countSoldOf : List aI := [(.iconst 0, 0, 0, 0), (.istore_n 2, 0, 0, 0), (.iconst 0, 0, 0, 0), (.istore_n 3, 0, 0, 0), (.iload_n 3, 0, 0, 0), (.aload_n 0, 0, 0, 0), (.getfield 24, 1, 0, 0), aN, aN, (.if_icmp .ge 25, 34, 0, 0), aN, aN, (.iload_n 2, 0, 0, 0), (.aload_n 0, 0, 0, 0), (.getfield 18, 1, 3, 0), aN, aN, (.iload_n 3, 0, 0, 0), (.iaload, 0, 0, 0), (.aload_n 0, 0, 0, 0), (.iload_n 3, 0, 0, 0), (.iload_n 1, 0, 0, 0), (.invokevirtual 38, 8, 3, 0), aN, aN, (.imul, 0, 0, 0), (.iadd, 0, 0, 0), (.istore_n 2, 0, 0, 0), (.iinc 3 1, 0, 0, 1), aN, aN, (.goto (-27), 4, 0, 0), aN, aN, (.iload_n 2, 0, 0, 0), (.ireturn, 0, 0, 0)]
def aB_X1_numberOf : List aI := [(.iload_n 2, 0, 0, 0), (.tableswitch 48 4 6 #[27, 34, 41], 49, 0, 0), aN, aN, aN, aN, aN, aN, aN, aN, aN, aN, aN, aN, aN, aN, aN, aN, aN, aN, aN, aN, aN, aN, aN, aN, aN, aN, (.aload_n 0, 0, 0, 0), (.getfield 9, 1, 1, 0), aN, aN, (.iload_n 1, 0, 0, 0), (.iaload, 0, 0, 0), (.ireturn, 0, 0, 0), (.aload_n 0, 0, 0, 0), (.getfield 15, 1, 2, 0), aN, aN, (.iload_n 1, 0, 0, 0), (.iaload, 0, 0, 0), (.ireturn, 0, 0, 0), (.aload_n 0, 0, 0, 0), (.getfield 18, 1, 3, 0), aN, aN, (.iload_n 1, 0, 0, 0), (.iaload, 0, 0, 0), (.ireturn, 0, 0, 0), (.aload_n 0, 0, 0, 0), (.iload_n 1, 0, 0, 0), (.iload_n 2, 0, 0, 0), (.invokevirtual 38, 8, 3, 0), aN, aN, (.ireturn, 0, 0, 0)]
def aB_X2_init : List aI := [(.aload_n 0, 0, 0, 0), (.invokespecial 3, 600, 1, 0), aN, aN, (.aload_n 0, 0, 0, 0), (.iconst 3, 0, 0, 3), (.newarray .int, 0, 0, 0), aN, (.putfield 9, 2, 1, 0), aN, aN, (.aload_n 0, 0, 0, 0), (.iconst 3, 0, 0, 3), (.newarray .int, 0, 0, 0), aN, (.putfield 15, 2, 2, 0), aN, aN, (.return_, 0, 0, 0)]
def aB_X2_copyFrom : List aI := [(.aload_n 0, 0, 0, 0), (.aload_n 1, 0, 0, 0), (.getfield 18, 2, 0, 0), aN, aN, (.putfield 18, 2, 0, 0), aN, aN, (.aload_n 1, 0, 0, 0), (.getfield 9, 2, 1, 0), aN, aN, (.iconst 0, 0, 0, 0), (.aload_n 0, 0, 0, 0), (.getfield 9, 2, 1, 0), aN, aN, (.iconst 0, 0, 0, 0), (.iconst 3, 0, 0, 3), (.invokestatic 22, 502, 5, 0), aN, aN, (.aload_n 1, 0, 0, 0), (.getfield 15, 2, 2, 0), aN, aN, (.iconst 0, 0, 0, 0), (.aload_n 0, 0, 0, 0), (.getfield 15, 2, 2, 0), aN, aN, (.iconst 0, 0, 0, 0), (.iconst 3, 0, 0, 3), (.invokestatic 22, 502, 5, 0), aN, aN, (.return_, 0, 0, 0)]
def aB_X2_refuse : List aI := [(.aload_n 0, 0, 0, 0), (.iload_n 1, 0, 0, 0), (.iload_n 2, 0, 0, 0), (.invokevirtual 28, 15, 3, 0), aN, aN, (.bipush (-3), 0, 0, (-3)), aN, (.ireturn, 0, 0, 0)]
def aB_X2_note : List aI := [(.aload_n 0, 0, 0, 0), (.getfield 9, 2, 1, 0), aN, aN, (.iconst 0, 0, 0, 0), (.iload_n 1, 0, 0, 0), (.iastore, 0, 0, 0), (.aload_n 0, 0, 0, 0), (.getfield 15, 2, 2, 0), aN, aN, (.iconst 0, 0, 0, 0), (.iload_n 2, 0, 0, 0), (.iastore, 0, 0, 0), (.aload_n 0, 0, 0, 0), (.iconst 1, 0, 0, 1), (.putfield 18, 2, 0, 0), aN, aN, (.return_, 0, 0, 0)]
def aB_X2_noteAhead : List aI := [(.aload_n 0, 0, 0, 0), (.getfield 18, 2, 0, 0), aN, aN, (.iconst 2, 0, 0, 2), (.invokestatic 32, 501, 2, 0), aN, aN, (.istore_n 3, 0, 0, 0), (.iload_n 3, 0, 0, 0), (.istore 4, 0, 0, 0), aN, (.iload 4, 0, 0, 0), aN, (.ifCond .le 41, 55, 0, 0), aN, aN, (.aload_n 0, 0, 0, 0), (.getfield 9, 2, 1, 0), aN, aN, (.iload 4, 0, 0, 0), aN, (.aload_n 0, 0, 0, 0), (.getfield 9, 2, 1, 0), aN, aN, (.iload 4, 0, 0, 0), aN, (.iconst 1, 0, 0, 1), (.isub, 0, 0, 0), (.iaload, 0, 0, 0), (.iastore, 0, 0, 0), (.aload_n 0, 0, 0, 0), (.getfield 15, 2, 2, 0), aN, aN, (.iload 4, 0, 0, 0), aN, (.aload_n 0, 0, 0, 0), (.getfield 15, 2, 2, 0), aN, aN, (.iload 4, 0, 0, 0), aN, (.iconst 1, 0, 0, 1), (.isub, 0, 0, 0), (.iaload, 0, 0, 0), (.iastore, 0, 0, 0), (.iinc 4 (-1), 0, 0, (-1)), aN, aN, (.goto (-40), 12, 0, 0), aN, aN, (.aload_n 0, 0, 0, 0), (.getfield 9, 2, 1, 0), aN, aN, (.iconst 0, 0, 0, 0), (.iload_n 1, 0, 0, 0), (.iastore, 0, 0, 0), (.aload_n 0, 0, 0, 0), (.getfield 15, 2, 2, 0), aN, aN, (.iconst 0, 0, 0, 0), (.iload_n 2, 0, 0, 0), (.iastore, 0, 0, 0), (.aload_n 0, 0, 0, 0), (.iload_n 3, 0, 0, 0), (.iconst 1, 0, 0, 1), (.iadd, 0, 0, 0), (.putfield 18, 2, 0, 0), aN, aN, (.return_, 0, 0, 0)]
def aB_X3_init : List aI := [(.aload_n 0, 0, 0, 0), (.invokespecial 3, 600, 1, 0), aN, aN, (.aload_n 0, 0, 0, 0), (.bipush 8, 0, 0, 8), aN, (.newarray .int, 0, 0, 0), aN, (.putfield 9, 3, 1, 0), aN, aN, (.aload_n 0, 0, 0, 0), (.bipush 8, 0, 0, 8), aN, (.newarray .int, 0, 0, 0), aN, (.putfield 15, 3, 2, 0), aN, aN, (.return_, 0, 0, 0)]
def aB_X3_copyFrom : List aI := [(.aload_n 0, 0, 0, 0), (.aload_n 1, 0, 0, 0), (.getfield 18, 3, 0, 0), aN, aN, (.putfield 18, 3, 0, 0), aN, aN, (.aload_n 1, 0, 0, 0), (.getfield 9, 3, 1, 0), aN, aN, (.iconst 0, 0, 0, 0), (.aload_n 0, 0, 0, 0), (.getfield 9, 3, 1, 0), aN, aN, (.iconst 0, 0, 0, 0), (.bipush 8, 0, 0, 8), aN, (.invokestatic 22, 502, 5, 0), aN, aN, (.aload_n 1, 0, 0, 0), (.getfield 15, 3, 2, 0), aN, aN, (.iconst 0, 0, 0, 0), (.aload_n 0, 0, 0, 0), (.getfield 15, 3, 2, 0), aN, aN, (.iconst 0, 0, 0, 0), (.bipush 8, 0, 0, 8), aN, (.invokestatic 22, 502, 5, 0), aN, aN, (.return_, 0, 0, 0)]
def aB_X3_has : List aI := [(.iload_n 1, 0, 0, 0), (.ifCond .lt 15, 16, 0, 0), aN, aN, (.iload_n 1, 0, 0, 0), (.aload_n 0, 0, 0, 0), (.getfield 18, 3, 0, 0), aN, aN, (.if_icmp .ge 7, 16, 0, 0), aN, aN, (.iconst 1, 0, 0, 1), (.goto 4, 17, 0, 0), aN, aN, (.iconst 0, 0, 0, 0), (.ireturn, 0, 0, 0)]
def aB_X3_add : List aI := [(.aload_n 0, 0, 0, 0), (.getfield 18, 3, 0, 0), aN, aN, (.bipush 8, 0, 0, 8), aN, (.if_icmp .lt 5, 11, 0, 0), aN, aN, (.iconst (-1), 0, 0, (-1)), (.ireturn, 0, 0, 0), (.aload_n 0, 0, 0, 0), (.aload_n 0, 0, 0, 0), (.getfield 18, 3, 0, 0), aN, aN, (.iconst (-1), 0, 0, (-1)), (.iconst (-1), 0, 0, (-1)), (.invokevirtual 28, 21, 4, 0), aN, aN, (.aload_n 0, 0, 0, 0), (.dup, 0, 0, 0), (.getfield 18, 3, 0, 0), aN, aN, (.iconst 1, 0, 0, 1), (.iadd, 0, 0, 0), (.putfield 18, 3, 0, 0), aN, aN, (.aload_n 0, 0, 0, 0), (.getfield 18, 3, 0, 0), aN, aN, (.iconst 1, 0, 0, 1), (.isub, 0, 0, 0), (.ireturn, 0, 0, 0)]
def aB_X3_place : List aI := [(.aload_n 0, 0, 0, 0), (.getfield 9, 3, 1, 0), aN, aN, (.iload_n 1, 0, 0, 0), (.iload_n 2, 0, 0, 0), (.iastore, 0, 0, 0), (.aload_n 0, 0, 0, 0), (.getfield 15, 3, 2, 0), aN, aN, (.iload_n 1, 0, 0, 0), (.iload_n 3, 0, 0, 0), (.iastore, 0, 0, 0), (.return_, 0, 0, 0)]
def aB_X3_isInKiln : List aI := [(.iload_n 1, 0, 0, 0), (.ifCond .lt 25, 26, 0, 0), aN, aN, (.iload_n 1, 0, 0, 0), (.aload_n 0, 0, 0, 0), (.getfield 18, 3, 0, 0), aN, aN, (.if_icmp .ge 17, 26, 0, 0), aN, aN, (.aload_n 0, 0, 0, 0), (.getfield 9, 3, 1, 0), aN, aN, (.iload_n 1, 0, 0, 0), (.iaload, 0, 0, 0), (.iconst (-1), 0, 0, (-1)), (.if_icmp .eq 7, 26, 0, 0), aN, aN, (.iconst 1, 0, 0, 1), (.goto 4, 27, 0, 0), aN, aN, (.iconst 0, 0, 0, 0), (.ireturn, 0, 0, 0)]
def aB_X3_at : List aI := [(.iconst 0, 0, 0, 0), (.istore_n 3, 0, 0, 0), (.iload_n 3, 0, 0, 0), (.aload_n 0, 0, 0, 0), (.getfield 18, 3, 0, 0), aN, aN, (.if_icmp .ge 31, 38, 0, 0), aN, aN, (.aload_n 0, 0, 0, 0), (.getfield 9, 3, 1, 0), aN, aN, (.iload_n 3, 0, 0, 0), (.iaload, 0, 0, 0), (.iload_n 1, 0, 0, 0), (.if_icmp .ne 15, 32, 0, 0), aN, aN, (.aload_n 0, 0, 0, 0), (.getfield 15, 3, 2, 0), aN, aN, (.iload_n 3, 0, 0, 0), (.iaload, 0, 0, 0), (.iload_n 2, 0, 0, 0), (.if_icmp .ne 5, 32, 0, 0), aN, aN, (.iload_n 3, 0, 0, 0), (.ireturn, 0, 0, 0), (.iinc 3 1, 0, 0, 1), aN, aN, (.goto (-33), 2, 0, 0), aN, aN, (.iconst (-1), 0, 0, (-1)), (.ireturn, 0, 0, 0)]
def aB_X3_above : List aI := [(.aload_n 0, 0, 0, 0), (.iload_n 1, 0, 0, 0), (.invokevirtual 32, 22, 2, 0), aN, aN, (.ifCond .eq 24, 29, 0, 0), aN, aN, (.aload_n 0, 0, 0, 0), (.aload_n 0, 0, 0, 0), (.getfield 9, 3, 1, 0), aN, aN, (.iload_n 1, 0, 0, 0), (.iaload, 0, 0, 0), (.aload_n 0, 0, 0, 0), (.getfield 15, 3, 2, 0), aN, aN, (.iload_n 1, 0, 0, 0), (.iaload, 0, 0, 0), (.iconst 1, 0, 0, 1), (.iadd, 0, 0, 0), (.invokevirtual 36, 23, 3, 0), aN, aN, (.goto 4, 30, 0, 0), aN, aN, (.iconst (-1), 0, 0, (-1)), (.ireturn, 0, 0, 0)]
def aB_X3_below : List aI := [(.aload_n 0, 0, 0, 0), (.iload_n 1, 0, 0, 0), (.invokevirtual 32, 22, 2, 0), aN, aN, (.ifCond .eq 24, 29, 0, 0), aN, aN, (.aload_n 0, 0, 0, 0), (.aload_n 0, 0, 0, 0), (.getfield 9, 3, 1, 0), aN, aN, (.iload_n 1, 0, 0, 0), (.iaload, 0, 0, 0), (.aload_n 0, 0, 0, 0), (.getfield 15, 3, 2, 0), aN, aN, (.iload_n 1, 0, 0, 0), (.iaload, 0, 0, 0), (.iconst 1, 0, 0, 1), (.isub, 0, 0, 0), (.invokevirtual 36, 23, 3, 0), aN, aN, (.goto 4, 30, 0, 0), aN, aN, (.iconst (-1), 0, 0, (-1)), (.ireturn, 0, 0, 0)]
def aB_X3_heatThere : List aI := [(.iload_n 2, 0, 0, 0), (.bipush 10, 0, 0, 10), aN, (.aload_n 0, 0, 0, 0), (.getfield 15, 3, 2, 0), aN, aN, (.iload_n 1, 0, 0, 0), (.iaload, 0, 0, 0), (.imul, 0, 0, 0), (.isub, 0, 0, 0), (.iconst 5, 0, 0, 5), (.aload_n 0, 0, 0, 0), (.getfield 9, 3, 1, 0), aN, aN, (.iload_n 1, 0, 0, 0), (.iaload, 0, 0, 0), (.imul, 0, 0, 0), (.isub, 0, 0, 0), (.ireturn, 0, 0, 0)]
def aB_X3_countInKiln : List aI := [(.iconst 0, 0, 0, 0), (.istore_n 1, 0, 0, 0), (.iconst 0, 0, 0, 0), (.istore_n 2, 0, 0, 0), (.iload_n 2, 0, 0, 0), (.aload_n 0, 0, 0, 0), (.getfield 18, 3, 0, 0), aN, aN, (.if_icmp .ge 25, 34, 0, 0), aN, aN, (.iload_n 1, 0, 0, 0), (.aload_n 0, 0, 0, 0), (.iload_n 2, 0, 0, 0), (.invokevirtual 32, 22, 2, 0), aN, aN, (.ifCond .eq 7, 25, 0, 0), aN, aN, (.iconst 1, 0, 0, 1), (.goto 4, 26, 0, 0), aN, aN, (.iconst 0, 0, 0, 0), (.iadd, 0, 0, 0), (.istore_n 1, 0, 0, 0), (.iinc 2 1, 0, 0, 1), aN, aN, (.goto (-27), 4, 0, 0), aN, aN, (.iload_n 1, 0, 0, 0), (.ireturn, 0, 0, 0)]
def aB_X4_init : List aI := [(.aload_n 0, 0, 0, 0), (.invokespecial 3, 600, 1, 0), aN, aN, (.aload_n 0, 0, 0, 0), (.bipush 20, 0, 0, 20), aN, (.newarray .char, 0, 0, 0), aN, (.putfield 9, 4, 2, 0), aN, aN, (.aload_n 0, 0, 0, 0), (.iconst 3, 0, 0, 3), (.bipush 20, 0, 0, 20), aN, (.multianewarray 15 2, 0, 0, 0), aN, aN, aN, (.putfield 17, 4, 3, 0), aN, aN, (.aload_n 0, 0, 0, 0), (.bipush 60, 0, 0, 60), aN, (.newarray .char, 0, 0, 0), aN, (.putfield 20, 4, 4, 0), aN, aN, (.return_, 0, 0, 0)]
def aB_X4_isFull : List aI := [(.aload_n 0, 0, 0, 0), (.getfield 23, 4, 0, 0), aN, aN, (.bipush 60, 0, 0, 60), aN, (.if_icmp .lt 7, 13, 0, 0), aN, aN, (.iconst 1, 0, 0, 1), (.goto 4, 14, 0, 0), aN, aN, (.iconst 0, 0, 0, 0), (.ireturn, 0, 0, 0)]
def aB_X4_add : List aI := [(.aload_n 0, 0, 0, 0), (.invokevirtual 27, 29, 1, 0), aN, aN, (.ifCond .ne 23, 27, 0, 0), aN, aN, (.aload_n 0, 0, 0, 0), (.getfield 20, 4, 4, 0), aN, aN, (.aload_n 0, 0, 0, 0), (.getfield 23, 4, 0, 0), aN, aN, (.iload_n 1, 0, 0, 0), (.castore, 0, 0, 0), (.aload_n 0, 0, 0, 0), (.dup, 0, 0, 0), (.getfield 23, 4, 0, 0), aN, aN, (.iconst 1, 0, 0, 1), (.iadd, 0, 0, 0), (.putfield 23, 4, 0, 0), aN, aN, (.return_, 0, 0, 0)]
def aB_X4_clear : List aI := [(.aload_n 0, 0, 0, 0), (.iconst 0, 0, 0, 0), (.putfield 23, 4, 0, 0), aN, aN, (.return_, 0, 0, 0)]
def aB_X4_parse : List aI := [(.aload_n 0, 0, 0, 0), (.iconst 0, 0, 0, 0), (.putfield 31, 4, 5, 0), aN, aN, (.aload_n 0, 0, 0, 0), (.iconst 0, 0, 0, 0), (.putfield 34, 4, 1, 0), aN, aN, (.iconst 0, 0, 0, 0), (.istore_n 1, 0, 0, 0), (.iload_n 1, 0, 0, 0), (.bipush 20, 0, 0, 20), aN, (.if_icmp .ge 59, 74, 0, 0), aN, aN, (.aload_n 0, 0, 0, 0), (.iload_n 1, 0, 0, 0), (.invokevirtual 37, 33, 2, 0), aN, aN, (.ifCond .ne 8, 31, 0, 0), aN, aN, (.aload_n 0, 0, 0, 0), (.getfield 31, 4, 5, 0), aN, aN, (.ireturn, 0, 0, 0), (.aload_n 0, 0, 0, 0), (.dup, 0, 0, 0), (.getfield 34, 4, 1, 0), aN, aN, (.iconst 1, 0, 0, 1), (.iadd, 0, 0, 0), (.putfield 34, 4, 1, 0), aN, aN, (.aload_n 0, 0, 0, 0), (.getfield 31, 4, 5, 0), aN, aN, (.aload_n 0, 0, 0, 0), (.getfield 23, 4, 0, 0), aN, aN, (.if_icmp .lt 5, 54, 0, 0), aN, aN, (.iconst (-1), 0, 0, (-1)), (.ireturn, 0, 0, 0), (.aload_n 0, 0, 0, 0), (.bipush 59, 0, 0, 59), aN, (.invokevirtual 41, 34, 2, 0), aN, aN, (.ifCond .ne 8, 68, 0, 0), aN, aN, (.aload_n 0, 0, 0, 0), (.getfield 31, 4, 5, 0), aN, aN, (.ireturn, 0, 0, 0), (.iinc 1 1, 0, 0, 1), aN, aN, (.goto (-59), 12, 0, 0), aN, aN, (.aload_n 0, 0, 0, 0), (.getfield 31, 4, 5, 0), aN, aN, (.ireturn, 0, 0, 0)]
def aB_X4_passStep : List aI := [(.aload_n 0, 0, 0, 0), (.getfield 31, 4, 5, 0), aN, aN, (.aload_n 0, 0, 0, 0), (.getfield 23, 4, 0, 0), aN, aN, (.if_icmp .lt 5, 13, 0, 0), aN, aN, (.iconst 0, 0, 0, 0), (.ireturn, 0, 0, 0), (.aload_n 0, 0, 0, 0), (.getfield 20, 4, 4, 0), aN, aN, (.aload_n 0, 0, 0, 0), (.getfield 31, 4, 5, 0), aN, aN, (.caload, 0, 0, 0), (.istore_n 2, 0, 0, 0), (.aload_n 0, 0, 0, 0), (.getfield 9, 4, 2, 0), aN, aN, (.iload_n 1, 0, 0, 0), (.iload_n 2, 0, 0, 0), (.castore, 0, 0, 0), (.iload_n 2, 0, 0, 0), (.tableswitch 273 101 116 #[248, 223, 122, 273, 273, 273, 273, 273, 273, 273, 273, 178, 273, 273, 248, 77], 304, 0, 0), aN, aN, aN, aN, aN, aN, aN, aN, aN, aN, aN, aN, aN, aN, aN, aN, aN, aN, aN, aN, aN, aN, aN, aN, aN, aN, aN, aN, aN, aN, aN, aN, aN, aN, aN, aN, aN, aN, aN, aN, aN, aN, aN, aN, aN, aN, aN, aN, aN, aN, aN, aN, aN, aN, aN, aN, aN, aN, aN, aN, aN, aN, aN, aN, aN, aN, aN, aN, aN, aN, aN, aN, aN, aN, aN, aN, (.aload_n 0, 0, 0, 0), (.iload_n 2, 0, 0, 0), (.invokevirtual 41, 34, 2, 0), aN, aN, (.ifCond .eq 38, 151, 0, 0), aN, aN, (.aload_n 0, 0, 0, 0), (.iload_n 1, 0, 0, 0), (.iconst 0, 0, 0, 0), (.iconst 1, 0, 0, 1), (.iconst 1, 0, 0, 1), (.invokevirtual 45, 35, 5, 0), aN, aN, (.ifCond .eq 27, 151, 0, 0), aN, aN, (.aload_n 0, 0, 0, 0), (.bipush 42, 0, 0, 42), aN, (.invokevirtual 41, 34, 2, 0), aN, aN, (.ifCond .eq 18, 151, 0, 0), aN, aN, (.aload_n 0, 0, 0, 0), (.iload_n 1, 0, 0, 0), (.iconst 1, 0, 0, 1), (.iconst 1, 0, 0, 1), (.iconst 2, 0, 0, 2), (.invokevirtual 45, 35, 5, 0), aN, aN, (.ifCond .eq 7, 151, 0, 0), aN, aN, (.iconst 1, 0, 0, 1), (.goto 4, 152, 0, 0), aN, aN, (.iconst 0, 0, 0, 0), (.ireturn, 0, 0, 0), (.aload_n 0, 0, 0, 0), (.iload_n 2, 0, 0, 0), (.invokevirtual 41, 34, 2, 0), aN, aN, (.ifCond .eq 49, 207, 0, 0), aN, aN, (.aload_n 0, 0, 0, 0), (.iload_n 1, 0, 0, 0), (.iconst 0, 0, 0, 0), (.iconst 1, 0, 0, 1), (.iconst 2, 0, 0, 2), (.invokevirtual 45, 35, 5, 0), aN, aN, (.ifCond .eq 38, 207, 0, 0), aN, aN, (.aload_n 0, 0, 0, 0), (.bipush 61, 0, 0, 61), aN, (.invokevirtual 41, 34, 2, 0), aN, aN, (.ifCond .eq 29, 207, 0, 0), aN, aN, (.aload_n 0, 0, 0, 0), (.iload_n 1, 0, 0, 0), (.iconst 1, 0, 0, 1), (.iconst 1, 0, 0, 1), (.iconst 1, 0, 0, 1), (.invokevirtual 45, 35, 5, 0), aN, aN, (.ifCond .eq 18, 207, 0, 0), aN, aN, (.aload_n 0, 0, 0, 0), (.iload_n 1, 0, 0, 0), (.iconst 2, 0, 0, 2), (.iconst 1, 0, 0, 1), (.iconst 1, 0, 0, 1), (.invokevirtual 45, 35, 5, 0), aN, aN, (.ifCond .eq 7, 207, 0, 0), aN, aN, (.iconst 1, 0, 0, 1), (.goto 4, 208, 0, 0), aN, aN, (.iconst 0, 0, 0, 0), (.ireturn, 0, 0, 0), (.aload_n 0, 0, 0, 0), (.iload_n 2, 0, 0, 0), (.invokevirtual 41, 34, 2, 0), aN, aN, (.ifCond .eq 38, 252, 0, 0), aN, aN, (.aload_n 0, 0, 0, 0), (.iload_n 1, 0, 0, 0), (.iconst 0, 0, 0, 0), (.iconst 1, 0, 0, 1), (.iconst 2, 0, 0, 2), (.invokevirtual 45, 35, 5, 0), aN, aN, (.ifCond .eq 27, 252, 0, 0), aN, aN, (.aload_n 0, 0, 0, 0), (.bipush 64, 0, 0, 64), aN, (.invokevirtual 41, 34, 2, 0), aN, aN, (.ifCond .eq 18, 252, 0, 0), aN, aN, (.aload_n 0, 0, 0, 0), (.iload_n 1, 0, 0, 0), (.iconst 1, 0, 0, 1), (.iconst 1, 0, 0, 1), (.iconst 1, 0, 0, 1), (.invokevirtual 45, 35, 5, 0), aN, aN, (.ifCond .eq 7, 252, 0, 0), aN, aN, (.iconst 1, 0, 0, 1), (.goto 4, 253, 0, 0), aN, aN, (.iconst 0, 0, 0, 0), (.ireturn, 0, 0, 0), (.aload_n 0, 0, 0, 0), (.iload_n 2, 0, 0, 0), (.invokevirtual 41, 34, 2, 0), aN, aN, (.ifCond .eq 18, 277, 0, 0), aN, aN, (.aload_n 0, 0, 0, 0), (.iload_n 1, 0, 0, 0), (.iconst 0, 0, 0, 0), (.iconst 4, 0, 0, 4), (.iconst 4, 0, 0, 4), (.invokevirtual 45, 35, 5, 0), aN, aN, (.ifCond .eq 7, 277, 0, 0), aN, aN, (.iconst 1, 0, 0, 1), (.goto 4, 278, 0, 0), aN, aN, (.iconst 0, 0, 0, 0), (.ireturn, 0, 0, 0), (.aload_n 0, 0, 0, 0), (.iload_n 2, 0, 0, 0), (.invokevirtual 41, 34, 2, 0), aN, aN, (.ifCond .eq 18, 302, 0, 0), aN, aN, (.aload_n 0, 0, 0, 0), (.iload_n 1, 0, 0, 0), (.iconst 0, 0, 0, 0), (.iconst 1, 0, 0, 1), (.iconst 1, 0, 0, 1), (.invokevirtual 45, 35, 5, 0), aN, aN, (.ifCond .eq 7, 302, 0, 0), aN, aN, (.iconst 1, 0, 0, 1), (.goto 4, 303, 0, 0), aN, aN, (.iconst 0, 0, 0, 0), (.ireturn, 0, 0, 0), (.iconst 0, 0, 0, 0), (.ireturn, 0, 0, 0)]
def aB_X4_passSign : List aI := [(.aload_n 0, 0, 0, 0), (.getfield 31, 4, 5, 0), aN, aN, (.aload_n 0, 0, 0, 0), (.getfield 23, 4, 0, 0), aN, aN, (.if_icmp .ge 16, 24, 0, 0), aN, aN, (.aload_n 0, 0, 0, 0), (.getfield 20, 4, 4, 0), aN, aN, (.aload_n 0, 0, 0, 0), (.getfield 31, 4, 5, 0), aN, aN, (.caload, 0, 0, 0), (.iload_n 1, 0, 0, 0), (.if_icmp .eq 5, 26, 0, 0), aN, aN, (.iconst 0, 0, 0, 0), (.ireturn, 0, 0, 0), (.aload_n 0, 0, 0, 0), (.dup, 0, 0, 0), (.getfield 31, 4, 5, 0), aN, aN, (.iconst 1, 0, 0, 1), (.iadd, 0, 0, 0), (.putfield 31, 4, 5, 0), aN, aN, (.iconst 1, 0, 0, 1), (.ireturn, 0, 0, 0)]
def aB_X4_passNumber : List aI := [(.iconst 0, 0, 0, 0), (.istore 5, 0, 0, 0), aN, (.iconst 0, 0, 0, 0), (.istore 6, 0, 0, 0), aN, (.iload 6, 0, 0, 0), aN, (.iload 4, 0, 0, 0), aN, (.if_icmp .ge 78, 88, 0, 0), aN, aN, (.aload_n 0, 0, 0, 0), (.getfield 31, 4, 5, 0), aN, aN, (.aload_n 0, 0, 0, 0), (.getfield 23, 4, 0, 0), aN, aN, (.if_icmp .ge 67, 88, 0, 0), aN, aN, (.aload_n 0, 0, 0, 0), (.getfield 20, 4, 4, 0), aN, aN, (.aload_n 0, 0, 0, 0), (.getfield 31, 4, 5, 0), aN, aN, (.caload, 0, 0, 0), (.bipush 48, 0, 0, 48), aN, (.if_icmp .lt 53, 88, 0, 0), aN, aN, (.aload_n 0, 0, 0, 0), (.getfield 20, 4, 4, 0), aN, aN, (.aload_n 0, 0, 0, 0), (.getfield 31, 4, 5, 0), aN, aN, (.caload, 0, 0, 0), (.bipush 57, 0, 0, 57), aN, (.if_icmp .gt 39, 88, 0, 0), aN, aN, (.bipush 10, 0, 0, 10), aN, (.iload 5, 0, 0, 0), aN, (.imul, 0, 0, 0), (.aload_n 0, 0, 0, 0), (.getfield 20, 4, 4, 0), aN, aN, (.aload_n 0, 0, 0, 0), (.getfield 31, 4, 5, 0), aN, aN, (.caload, 0, 0, 0), (.bipush 48, 0, 0, 48), aN, (.isub, 0, 0, 0), (.iadd, 0, 0, 0), (.istore 5, 0, 0, 0), aN, (.iinc 6 1, 0, 0, 1), aN, aN, (.aload_n 0, 0, 0, 0), (.dup, 0, 0, 0), (.getfield 31, 4, 5, 0), aN, aN, (.iconst 1, 0, 0, 1), (.iadd, 0, 0, 0), (.putfield 31, 4, 5, 0), aN, aN, (.goto (-79), 6, 0, 0), aN, aN, (.aload_n 0, 0, 0, 0), (.getfield 17, 4, 3, 0), aN, aN, (.iload_n 2, 0, 0, 0), (.aaload, 0, 0, 0), (.iload_n 1, 0, 0, 0), (.iload 5, 0, 0, 0), aN, (.iastore, 0, 0, 0), (.iload 6, 0, 0, 0), aN, (.iload_n 3, 0, 0, 0), (.if_icmp .lt 7, 108, 0, 0), aN, aN, (.iconst 1, 0, 0, 1), (.goto 4, 109, 0, 0), aN, aN, (.iconst 0, 0, 0, 0), (.ireturn, 0, 0, 0)]
def aB_X5_init : List aI := [(.aload_n 0, 0, 0, 0), (.invokespecial 3, 600, 1, 0), aN, aN, (.aload_n 0, 0, 0, 0), (.bipush 60, 0, 0, 60), aN, (.newarray .int, 0, 0, 0), aN, (.putfield 9, 5, 1, 0), aN, aN, (.aload_n 0, 0, 0, 0), (.bipush 60, 0, 0, 60), aN, (.newarray .int, 0, 0, 0), aN, (.putfield 15, 5, 2, 0), aN, aN, (.aload_n 0, 0, 0, 0), (.bipush 60, 0, 0, 60), aN, (.newarray .int, 0, 0, 0), aN, (.putfield 18, 5, 3, 0), aN, aN, (.aload_n 0, 0, 0, 0), (.bipush 60, 0, 0, 60), aN, (.newarray .int, 0, 0, 0), aN, (.putfield 21, 5, 4, 0), aN, aN, (.aload_n 0, 0, 0, 0), (.bipush 60, 0, 0, 60), aN, (.newarray .int, 0, 0, 0), aN, (.putfield 24, 5, 5, 0), aN, aN, (.aload_n 0, 0, 0, 0), (.bipush 60, 0, 0, 60), aN, (.newarray .int, 0, 0, 0), aN, (.putfield 27, 5, 6, 0), aN, aN, (.aload_n 0, 0, 0, 0), (.bipush 60, 0, 0, 60), aN, (.newarray .int, 0, 0, 0), aN, (.putfield 30, 5, 7, 0), aN, aN, (.return_, 0, 0, 0)]
def aB_X5_copyFrom : List aI := [(.aload_n 0, 0, 0, 0), (.aload_n 1, 0, 0, 0), (.getfield 33, 5, 0, 0), aN, aN, (.putfield 33, 5, 0, 0), aN, aN, (.aload_n 1, 0, 0, 0), (.getfield 9, 5, 1, 0), aN, aN, (.iconst 0, 0, 0, 0), (.aload_n 0, 0, 0, 0), (.getfield 9, 5, 1, 0), aN, aN, (.iconst 0, 0, 0, 0), (.bipush 60, 0, 0, 60), aN, (.invokestatic 37, 502, 5, 0), aN, aN, (.aload_n 1, 0, 0, 0), (.getfield 15, 5, 2, 0), aN, aN, (.iconst 0, 0, 0, 0), (.aload_n 0, 0, 0, 0), (.getfield 15, 5, 2, 0), aN, aN, (.iconst 0, 0, 0, 0), (.bipush 60, 0, 0, 60), aN, (.invokestatic 37, 502, 5, 0), aN, aN, (.aload_n 1, 0, 0, 0), (.getfield 18, 5, 3, 0), aN, aN, (.iconst 0, 0, 0, 0), (.aload_n 0, 0, 0, 0), (.getfield 18, 5, 3, 0), aN, aN, (.iconst 0, 0, 0, 0), (.bipush 60, 0, 0, 60), aN, (.invokestatic 37, 502, 5, 0), aN, aN, (.aload_n 1, 0, 0, 0), (.getfield 21, 5, 4, 0), aN, aN, (.iconst 0, 0, 0, 0), (.aload_n 0, 0, 0, 0), (.getfield 21, 5, 4, 0), aN, aN, (.iconst 0, 0, 0, 0), (.bipush 60, 0, 0, 60), aN, (.invokestatic 37, 502, 5, 0), aN, aN, (.aload_n 1, 0, 0, 0), (.getfield 24, 5, 5, 0), aN, aN, (.iconst 0, 0, 0, 0), (.aload_n 0, 0, 0, 0), (.getfield 24, 5, 5, 0), aN, aN, (.iconst 0, 0, 0, 0), (.bipush 60, 0, 0, 60), aN, (.invokestatic 37, 502, 5, 0), aN, aN, (.aload_n 1, 0, 0, 0), (.getfield 27, 5, 6, 0), aN, aN, (.iconst 0, 0, 0, 0), (.aload_n 0, 0, 0, 0), (.getfield 27, 5, 6, 0), aN, aN, (.iconst 0, 0, 0, 0), (.bipush 60, 0, 0, 60), aN, (.invokestatic 37, 502, 5, 0), aN, aN, (.aload_n 1, 0, 0, 0), (.getfield 30, 5, 7, 0), aN, aN, (.iconst 0, 0, 0, 0), (.aload_n 0, 0, 0, 0), (.getfield 30, 5, 7, 0), aN, aN, (.iconst 0, 0, 0, 0), (.bipush 60, 0, 0, 60), aN, (.invokestatic 37, 502, 5, 0), aN, aN, (.return_, 0, 0, 0)]
def aB_X5_has : List aI := [(.iload_n 1, 0, 0, 0), (.ifCond .lt 15, 16, 0, 0), aN, aN, (.iload_n 1, 0, 0, 0), (.aload_n 0, 0, 0, 0), (.getfield 33, 5, 0, 0), aN, aN, (.if_icmp .ge 7, 16, 0, 0), aN, aN, (.iconst 1, 0, 0, 1), (.goto 4, 17, 0, 0), aN, aN, (.iconst 0, 0, 0, 0), (.ireturn, 0, 0, 0)]
def aB_X5_add : List aI := [(.aload_n 0, 0, 0, 0), (.getfield 33, 5, 0, 0), aN, aN, (.bipush 60, 0, 0, 60), aN, (.if_icmp .lt 4, 10, 0, 0), aN, aN, (.return_, 0, 0, 0), (.aload_n 0, 0, 0, 0), (.getfield 27, 5, 6, 0), aN, aN, (.aload_n 0, 0, 0, 0), (.getfield 33, 5, 0, 0), aN, aN, (.iload_n 1, 0, 0, 0), (.iastore, 0, 0, 0), (.aload_n 0, 0, 0, 0), (.getfield 30, 5, 7, 0), aN, aN, (.aload_n 0, 0, 0, 0), (.getfield 33, 5, 0, 0), aN, aN, (.iload_n 2, 0, 0, 0), (.iastore, 0, 0, 0), (.aload_n 0, 0, 0, 0), (.getfield 9, 5, 1, 0), aN, aN, (.aload_n 0, 0, 0, 0), (.getfield 33, 5, 0, 0), aN, aN, (.iconst 0, 0, 0, 0), (.iastore, 0, 0, 0), (.aload_n 0, 0, 0, 0), (.getfield 15, 5, 2, 0), aN, aN, (.aload_n 0, 0, 0, 0), (.getfield 33, 5, 0, 0), aN, aN, (.iconst (-1), 0, 0, (-1)), (.iastore, 0, 0, 0), (.aload_n 0, 0, 0, 0), (.getfield 18, 5, 3, 0), aN, aN, (.aload_n 0, 0, 0, 0), (.getfield 33, 5, 0, 0), aN, aN, (.iconst 0, 0, 0, 0), (.iastore, 0, 0, 0), (.aload_n 0, 0, 0, 0), (.getfield 21, 5, 4, 0), aN, aN, (.aload_n 0, 0, 0, 0), (.getfield 33, 5, 0, 0), aN, aN, (.iconst (-1), 0, 0, (-1)), (.iastore, 0, 0, 0), (.aload_n 0, 0, 0, 0), (.getfield 24, 5, 5, 0), aN, aN, (.aload_n 0, 0, 0, 0), (.getfield 33, 5, 0, 0), aN, aN, (.iconst 0, 0, 0, 0), (.iastore, 0, 0, 0), (.aload_n 0, 0, 0, 0), (.dup, 0, 0, 0), (.getfield 33, 5, 0, 0), aN, aN, (.iconst 1, 0, 0, 1), (.iadd, 0, 0, 0), (.putfield 33, 5, 0, 0), aN, aN, (.return_, 0, 0, 0)]
def aB_X5_sizeOf : List aI := [(.getstatic 43, 0, 0, 0), aN, aN, (.aload_n 0, 0, 0, 0), (.getfield 27, 5, 6, 0), aN, aN, (.iload_n 1, 0, 0, 0), (.iaload, 0, 0, 0), (.iaload, 0, 0, 0), (.ireturn, 0, 0, 0)]
def aB_X5_needOf : List aI := [(.sipush 1310, 0, 0, 1310), aN, aN, (.iconst 3, 0, 0, 3), (.aload_n 0, 0, 0, 0), (.getfield 30, 5, 7, 0), aN, aN, (.iload_n 1, 0, 0, 0), (.iaload, 0, 0, 0), (.iconst 2, 0, 0, 2), (.idiv, 0, 0, 0), (.imul, 0, 0, 0), (.isub, 0, 0, 0), (.ireturn, 0, 0, 0)]
def aB_X5_isGlazed : List aI := [(.aload_n 0, 0, 0, 0), (.getfield 15, 5, 2, 0), aN, aN, (.iload_n 1, 0, 0, 0), (.iaload, 0, 0, 0), (.iconst (-1), 0, 0, (-1)), (.if_icmp .eq 7, 14, 0, 0), aN, aN, (.iconst 1, 0, 0, 1), (.goto 4, 15, 0, 0), aN, aN, (.iconst 0, 0, 0, 0), (.ireturn, 0, 0, 0)]
def aB_X5_meltingHeatOf : List aI := [(.getstatic 46, 1, 0, 0), aN, aN, (.aload_n 0, 0, 0, 0), (.getfield 15, 5, 2, 0), aN, aN, (.iload_n 1, 0, 0, 0), (.iaload, 0, 0, 0), (.iaload, 0, 0, 0), (.iconst 4, 0, 0, 4), (.aload_n 0, 0, 0, 0), (.getfield 18, 5, 3, 0), aN, aN, (.iload_n 1, 0, 0, 0), (.iaload, 0, 0, 0), (.imul, 0, 0, 0), (.isub, 0, 0, 0), (.ireturn, 0, 0, 0)]
def aB_X5_flowAt : List aI := [(.aload_n 0, 0, 0, 0), (.iload_n 1, 0, 0, 0), (.invokevirtual 49, 42, 2, 0), aN, aN, (.ifCond .ne 5, 10, 0, 0), aN, aN, (.iconst 0, 0, 0, 0), (.ireturn, 0, 0, 0), (.iload_n 2, 0, 0, 0), (.aload_n 0, 0, 0, 0), (.iload_n 1, 0, 0, 0), (.invokevirtual 53, 43, 2, 0), aN, aN, (.isub, 0, 0, 0), (.iconst 0, 0, 0, 0), (.invokestatic 57, 500, 2, 0), aN, aN, (.bipush 10, 0, 0, 10), aN, (.idiv, 0, 0, 0), (.ireturn, 0, 0, 0)]
def aB_X5_takeOut : List aI := [(.aload_n 0, 0, 0, 0), (.getfield 21, 5, 4, 0), aN, aN, (.iload_n 1, 0, 0, 0), (.iconst (-1), 0, 0, (-1)), (.iastore, 0, 0, 0), (.aload_n 0, 0, 0, 0), (.getfield 9, 5, 1, 0), aN, aN, (.iload_n 1, 0, 0, 0), (.iaload, 0, 0, 0), (.iconst 2, 0, 0, 2), (.if_icmp .eq 13, 27, 0, 0), aN, aN, (.aload_n 0, 0, 0, 0), (.getfield 9, 5, 1, 0), aN, aN, (.iload_n 1, 0, 0, 0), (.iconst 0, 0, 0, 0), (.iastore, 0, 0, 0), (.goto 24, 48, 0, 0), aN, aN, (.aload_n 0, 0, 0, 0), (.getfield 9, 5, 1, 0), aN, aN, (.iload_n 1, 0, 0, 0), (.aload_n 0, 0, 0, 0), (.getfield 24, 5, 5, 0), aN, aN, (.iload_n 1, 0, 0, 0), (.iaload, 0, 0, 0), (.iconst 3, 0, 0, 3), (.if_icmp .ne 7, 46, 0, 0), aN, aN, (.iconst 5, 0, 0, 5), (.goto 4, 47, 0, 0), aN, aN, (.iconst 3, 0, 0, 3), (.iastore, 0, 0, 0), (.return_, 0, 0, 0)]
def aB_X5_isInStore : List aI := [(.aload_n 0, 0, 0, 0), (.getfield 9, 5, 1, 0), aN, aN, (.iload_n 1, 0, 0, 0), (.iaload, 0, 0, 0), (.iconst 3, 0, 0, 3), (.if_icmp .ne 27, 34, 0, 0), aN, aN, (.aload_n 0, 0, 0, 0), (.getfield 27, 5, 6, 0), aN, aN, (.iload_n 1, 0, 0, 0), (.iaload, 0, 0, 0), (.iload_n 2, 0, 0, 0), (.if_icmp .ne 17, 34, 0, 0), aN, aN, (.aload_n 0, 0, 0, 0), (.getfield 15, 5, 2, 0), aN, aN, (.iload_n 1, 0, 0, 0), (.iaload, 0, 0, 0), (.iload_n 3, 0, 0, 0), (.if_icmp .ne 7, 34, 0, 0), aN, aN, (.iconst 1, 0, 0, 1), (.goto 4, 35, 0, 0), aN, aN, (.iconst 0, 0, 0, 0), (.ireturn, 0, 0, 0)]
def aB_X5_countInStore : List aI := [(.iconst 0, 0, 0, 0), (.istore 4, 0, 0, 0), aN, (.iconst 0, 0, 0, 0), (.istore 5, 0, 0, 0), aN, (.iload 5, 0, 0, 0), aN, (.aload_n 0, 0, 0, 0), (.getfield 33, 5, 0, 0), aN, aN, (.if_icmp .ge 41, 53, 0, 0), aN, aN, (.iload 4, 0, 0, 0), aN, (.aload_n 0, 0, 0, 0), (.iload 5, 0, 0, 0), aN, (.iload_n 1, 0, 0, 0), (.iload_n 2, 0, 0, 0), (.invokevirtual 63, 46, 4, 0), aN, aN, (.ifCond .eq 18, 43, 0, 0), aN, aN, (.aload_n 0, 0, 0, 0), (.getfield 24, 5, 5, 0), aN, aN, (.iload 5, 0, 0, 0), aN, (.iaload, 0, 0, 0), (.iload_n 3, 0, 0, 0), (.if_icmp .ne 7, 43, 0, 0), aN, aN, (.iconst 1, 0, 0, 1), (.goto 4, 44, 0, 0), aN, aN, (.iconst 0, 0, 0, 0), (.iadd, 0, 0, 0), (.istore 4, 0, 0, 0), aN, (.iinc 5 1, 0, 0, 1), aN, aN, (.goto (-44), 6, 0, 0), aN, aN, (.iload 4, 0, 0, 0), aN, (.ireturn, 0, 0, 0)]
def aB_X5_countInState : List aI := [(.iconst 0, 0, 0, 0), (.istore_n 2, 0, 0, 0), (.iconst 0, 0, 0, 0), (.istore_n 3, 0, 0, 0), (.iload_n 3, 0, 0, 0), (.aload_n 0, 0, 0, 0), (.getfield 33, 5, 0, 0), aN, aN, (.if_icmp .ge 27, 36, 0, 0), aN, aN, (.iload_n 2, 0, 0, 0), (.aload_n 0, 0, 0, 0), (.getfield 9, 5, 1, 0), aN, aN, (.iload_n 3, 0, 0, 0), (.iaload, 0, 0, 0), (.iload_n 1, 0, 0, 0), (.if_icmp .ne 7, 27, 0, 0), aN, aN, (.iconst 1, 0, 0, 1), (.goto 4, 28, 0, 0), aN, aN, (.iconst 0, 0, 0, 0), (.iadd, 0, 0, 0), (.istore_n 2, 0, 0, 0), (.iinc 3 1, 0, 0, 1), aN, aN, (.goto (-29), 4, 0, 0), aN, aN, (.iload_n 2, 0, 0, 0), (.ireturn, 0, 0, 0)]
def aB_X5_countSold : List aI := [(.iconst 0, 0, 0, 0), (.istore_n 2, 0, 0, 0), (.iconst 0, 0, 0, 0), (.istore_n 3, 0, 0, 0), (.iload_n 3, 0, 0, 0), (.aload_n 0, 0, 0, 0), (.getfield 33, 5, 0, 0), aN, aN, (.if_icmp .ge 37, 46, 0, 0), aN, aN, (.iload_n 2, 0, 0, 0), (.aload_n 0, 0, 0, 0), (.getfield 9, 5, 1, 0), aN, aN, (.iload_n 3, 0, 0, 0), (.iaload, 0, 0, 0), (.iconst 4, 0, 0, 4), (.if_icmp .ne 17, 37, 0, 0), aN, aN, (.aload_n 0, 0, 0, 0), (.getfield 27, 5, 6, 0), aN, aN, (.iload_n 3, 0, 0, 0), (.iaload, 0, 0, 0), (.iload_n 1, 0, 0, 0), (.if_icmp .ne 7, 37, 0, 0), aN, aN, (.iconst 1, 0, 0, 1), (.goto 4, 38, 0, 0), aN, aN, (.iconst 0, 0, 0, 0), (.iadd, 0, 0, 0), (.istore_n 2, 0, 0, 0), (.iinc 3 1, 0, 0, 1), aN, aN, (.goto (-39), 4, 0, 0), aN, aN, (.iload_n 2, 0, 0, 0), (.ireturn, 0, 0, 0)]
def aB_X5_countOfGrade : List aI := [(.iconst 0, 0, 0, 0), (.istore_n 2, 0, 0, 0), (.iconst 0, 0, 0, 0), (.istore_n 3, 0, 0, 0), (.iload_n 3, 0, 0, 0), (.aload_n 0, 0, 0, 0), (.getfield 33, 5, 0, 0), aN, aN, (.if_icmp .ge 27, 36, 0, 0), aN, aN, (.iload_n 2, 0, 0, 0), (.aload_n 0, 0, 0, 0), (.getfield 24, 5, 5, 0), aN, aN, (.iload_n 3, 0, 0, 0), (.iaload, 0, 0, 0), (.iload_n 1, 0, 0, 0), (.if_icmp .ne 7, 27, 0, 0), aN, aN, (.iconst 1, 0, 0, 1), (.goto 4, 28, 0, 0), aN, aN, (.iconst 0, 0, 0, 0), (.iadd, 0, 0, 0), (.istore_n 2, 0, 0, 0), (.iinc 3 1, 0, 0, 1), aN, aN, (.goto (-29), 4, 0, 0), aN, aN, (.iload_n 2, 0, 0, 0), (.ireturn, 0, 0, 0)]
def aB_X5_countFired : List aI := [(.aload_n 0, 0, 0, 0), (.getfield 33, 5, 0, 0), aN, aN, (.aload_n 0, 0, 0, 0), (.iconst 0, 0, 0, 0), (.invokevirtual 67, 50, 2, 0), aN, aN, (.isub, 0, 0, 0), (.ireturn, 0, 0, 0)]
def aB_X5_countIn : List aI := [(.iconst 0, 0, 0, 0), (.istore_n 2, 0, 0, 0), (.iconst 0, 0, 0, 0), (.istore_n 3, 0, 0, 0), (.iload_n 3, 0, 0, 0), (.aload_n 0, 0, 0, 0), (.getfield 33, 5, 0, 0), aN, aN, (.if_icmp .ge 27, 36, 0, 0), aN, aN, (.iload_n 2, 0, 0, 0), (.aload_n 0, 0, 0, 0), (.getfield 21, 5, 4, 0), aN, aN, (.iload_n 3, 0, 0, 0), (.iaload, 0, 0, 0), (.iload_n 1, 0, 0, 0), (.if_icmp .ne 7, 27, 0, 0), aN, aN, (.iconst 1, 0, 0, 1), (.goto 4, 28, 0, 0), aN, aN, (.iconst 0, 0, 0, 0), (.iadd, 0, 0, 0), (.istore_n 2, 0, 0, 0), (.iinc 3 1, 0, 0, 1), aN, aN, (.goto (-29), 4, 0, 0), aN, aN, (.iload_n 2, 0, 0, 0), (.ireturn, 0, 0, 0)]
def aB_X5_sizeIn : List aI := [(.iconst 0, 0, 0, 0), (.istore_n 2, 0, 0, 0), (.iconst 0, 0, 0, 0), (.istore_n 3, 0, 0, 0), (.iload_n 3, 0, 0, 0), (.aload_n 0, 0, 0, 0), (.getfield 33, 5, 0, 0), aN, aN, (.if_icmp .ge 36, 45, 0, 0), aN, aN, (.iload_n 2, 0, 0, 0), (.aload_n 0, 0, 0, 0), (.getfield 21, 5, 4, 0), aN, aN, (.iload_n 3, 0, 0, 0), (.iaload, 0, 0, 0), (.iload_n 1, 0, 0, 0), (.if_icmp .ne 16, 36, 0, 0), aN, aN, (.getstatic 43, 0, 0, 0), aN, aN, (.aload_n 0, 0, 0, 0), (.getfield 27, 5, 6, 0), aN, aN, (.iload_n 3, 0, 0, 0), (.iaload, 0, 0, 0), (.iaload, 0, 0, 0), (.goto 4, 37, 0, 0), aN, aN, (.iconst 0, 0, 0, 0), (.iadd, 0, 0, 0), (.istore_n 2, 0, 0, 0), (.iinc 3 1, 0, 0, 1), aN, aN, (.goto (-38), 4, 0, 0), aN, aN, (.iload_n 2, 0, 0, 0), (.ireturn, 0, 0, 0)]
def aB_X5_sizeOfAll : List aI := [(.iconst 0, 0, 0, 0), (.istore_n 1, 0, 0, 0), (.iconst 0, 0, 0, 0), (.istore_n 2, 0, 0, 0), (.iload_n 2, 0, 0, 0), (.aload_n 0, 0, 0, 0), (.getfield 33, 5, 0, 0), aN, aN, (.if_icmp .ge 17, 26, 0, 0), aN, aN, (.iload_n 1, 0, 0, 0), (.aload_n 0, 0, 0, 0), (.iload_n 2, 0, 0, 0), (.invokevirtual 70, 40, 2, 0), aN, aN, (.iadd, 0, 0, 0), (.istore_n 1, 0, 0, 0), (.iinc 2 1, 0, 0, 1), aN, aN, (.goto (-19), 4, 0, 0), aN, aN, (.iload_n 1, 0, 0, 0), (.ireturn, 0, 0, 0)]
def aB_X5_numberOf : List aI := [(.iload_n 2, 0, 0, 0), (.tableswitch 92 0 6 #[43, 50, 57, 64, 71, 78, 85], 93, 0, 0), aN, aN, aN, aN, aN, aN, aN, aN, aN, aN, aN, aN, aN, aN, aN, aN, aN, aN, aN, aN, aN, aN, aN, aN, aN, aN, aN, aN, aN, aN, aN, aN, aN, aN, aN, aN, aN, aN, aN, aN, aN, aN, (.aload_n 0, 0, 0, 0), (.getfield 27, 5, 6, 0), aN, aN, (.iload_n 1, 0, 0, 0), (.iaload, 0, 0, 0), (.ireturn, 0, 0, 0), (.aload_n 0, 0, 0, 0), (.getfield 30, 5, 7, 0), aN, aN, (.iload_n 1, 0, 0, 0), (.iaload, 0, 0, 0), (.ireturn, 0, 0, 0), (.aload_n 0, 0, 0, 0), (.getfield 9, 5, 1, 0), aN, aN, (.iload_n 1, 0, 0, 0), (.iaload, 0, 0, 0), (.ireturn, 0, 0, 0), (.aload_n 0, 0, 0, 0), (.getfield 15, 5, 2, 0), aN, aN, (.iload_n 1, 0, 0, 0), (.iaload, 0, 0, 0), (.ireturn, 0, 0, 0), (.aload_n 0, 0, 0, 0), (.getfield 18, 5, 3, 0), aN, aN, (.iload_n 1, 0, 0, 0), (.iaload, 0, 0, 0), (.ireturn, 0, 0, 0), (.aload_n 0, 0, 0, 0), (.getfield 21, 5, 4, 0), aN, aN, (.iload_n 1, 0, 0, 0), (.iaload, 0, 0, 0), (.ireturn, 0, 0, 0), (.aload_n 0, 0, 0, 0), (.getfield 24, 5, 5, 0), aN, aN, (.iload_n 1, 0, 0, 0), (.iaload, 0, 0, 0), (.ireturn, 0, 0, 0), (.aload_n 0, 0, 0, 0), (.iload_n 1, 0, 0, 0), (.invokevirtual 73, 41, 2, 0), aN, aN, (.ireturn, 0, 0, 0)]
def aB_X6_init : List aI := [(.aload_n 0, 0, 0, 0), (.invokespecial 3, 600, 1, 0), aN, aN, (.aload_n 0, 0, 0, 0), (.iconst 3, 0, 0, 3), (.newarray .int, 0, 0, 0), aN, (.dup, 0, 0, 0), (.iconst 0, 0, 0, 0), (.iconst 3, 0, 0, 3), (.iastore, 0, 0, 0), (.dup, 0, 0, 0), (.iconst 1, 0, 0, 1), (.bipush 40, 0, 0, 40), aN, (.iastore, 0, 0, 0), (.dup, 0, 0, 0), (.iconst 2, 0, 0, 2), (.bipush 16, 0, 0, 16), aN, (.iastore, 0, 0, 0), (.putfield 9, 6, 4, 0), aN, aN, (.aload_n 0, 0, 0, 0), (.new 15, 5, 0, 0), aN, aN, (.dup, 0, 0, 0), (.invokespecial 17, 36, 1, 1), aN, aN, (.putfield 18, 6, 0, 0), aN, aN, (.aload_n 0, 0, 0, 0), (.new 22, 3, 0, 0), aN, aN, (.dup, 0, 0, 0), (.invokespecial 24, 17, 1, 1), aN, aN, (.putfield 25, 6, 1, 0), aN, aN, (.aload_n 0, 0, 0, 0), (.new 29, 1, 0, 0), aN, aN, (.dup, 0, 0, 0), (.invokespecial 31, 3, 1, 1), aN, aN, (.putfield 32, 6, 2, 0), aN, aN, (.aload_n 0, 0, 0, 0), (.new 36, 2, 0, 0), aN, aN, (.dup, 0, 0, 0), (.invokespecial 38, 12, 1, 1), aN, aN, (.putfield 39, 6, 3, 0), aN, aN, (.return_, 0, 0, 0)]
def aB_X6_copyFrom : List aI := [(.aload_n 0, 0, 0, 0), (.getfield 18, 6, 0, 0), aN, aN, (.aload_n 1, 0, 0, 0), (.getfield 18, 6, 0, 0), aN, aN, (.invokevirtual 43, 37, 2, 0), aN, aN, (.aload_n 0, 0, 0, 0), (.getfield 25, 6, 1, 0), aN, aN, (.aload_n 1, 0, 0, 0), (.getfield 25, 6, 1, 0), aN, aN, (.invokevirtual 47, 18, 2, 0), aN, aN, (.aload_n 0, 0, 0, 0), (.getfield 32, 6, 2, 0), aN, aN, (.aload_n 1, 0, 0, 0), (.getfield 32, 6, 2, 0), aN, aN, (.invokevirtual 50, 4, 2, 0), aN, aN, (.aload_n 1, 0, 0, 0), (.getfield 9, 6, 4, 0), aN, aN, (.iconst 0, 0, 0, 0), (.aload_n 0, 0, 0, 0), (.getfield 9, 6, 4, 0), aN, aN, (.iconst 0, 0, 0, 0), (.iconst 3, 0, 0, 3), (.invokestatic 53, 502, 5, 0), aN, aN, (.aload_n 0, 0, 0, 0), (.aload_n 1, 0, 0, 0), (.getfield 59, 6, 5, 0), aN, aN, (.putfield 59, 6, 5, 0), aN, aN, (.aload_n 0, 0, 0, 0), (.aload_n 1, 0, 0, 0), (.getfield 63, 6, 6, 0), aN, aN, (.putfield 63, 6, 6, 0), aN, aN, (.aload_n 0, 0, 0, 0), (.aload_n 1, 0, 0, 0), (.getfield 66, 6, 7, 0), aN, aN, (.putfield 66, 6, 7, 0), aN, aN, (.return_, 0, 0, 0)]
def aB_X6_changeSetting : List aI := [(.iload_n 1, 0, 0, 0), (.iconst 0, 0, 0, 0), (.iconst 2, 0, 0, 2), (.invokestatic 69, 132, 3, 1), aN, aN, (.ifCond .eq 20, 26, 0, 0), aN, aN, (.iload_n 2, 0, 0, 0), (.getstatic 73, 2, 0, 0), aN, aN, (.iload_n 1, 0, 0, 0), (.iaload, 0, 0, 0), (.getstatic 76, 3, 0, 0), aN, aN, (.iload_n 1, 0, 0, 0), (.iaload, 0, 0, 0), (.invokestatic 69, 132, 3, 1), aN, aN, (.ifCond .ne 6, 29, 0, 0), aN, aN, (.bipush (-2), 0, 0, (-2)), aN, (.ireturn, 0, 0, 0), (.aload_n 0, 0, 0, 0), (.getfield 9, 6, 4, 0), aN, aN, (.iload_n 1, 0, 0, 0), (.iaload, 0, 0, 0), (.istore_n 3, 0, 0, 0), (.aload_n 0, 0, 0, 0), (.getfield 9, 6, 4, 0), aN, aN, (.iload_n 1, 0, 0, 0), (.iload_n 2, 0, 0, 0), (.iastore, 0, 0, 0), (.iload_n 3, 0, 0, 0), (.ireturn, 0, 0, 0)]
def aB_X6_buyClay : List aI := [(.iload_n 1, 0, 0, 0), (.iconst 1, 0, 0, 1), (.bipush 99, 0, 0, 99), aN, (.invokestatic 69, 132, 3, 1), aN, aN, (.ifCond .ne 6, 13, 0, 0), aN, aN, (.bipush (-2), 0, 0, (-2)), aN, (.ireturn, 0, 0, 0), (.aload_n 0, 0, 0, 0), (.getfield 59, 6, 5, 0), aN, aN, (.iload_n 1, 0, 0, 0), (.iadd, 0, 0, 0), (.sipush 999, 0, 0, 999), aN, aN, (.if_icmp .le 15, 37, 0, 0), aN, aN, (.aload_n 0, 0, 0, 0), (.getfield 39, 6, 3, 0), aN, aN, (.iconst 1, 0, 0, 1), (.sipush 999, 0, 0, 999), aN, aN, (.invokevirtual 79, 14, 3, 0), aN, aN, (.ireturn, 0, 0, 0), (.aload_n 0, 0, 0, 0), (.dup, 0, 0, 0), (.getfield 59, 6, 5, 0), aN, aN, (.iload_n 1, 0, 0, 0), (.iadd, 0, 0, 0), (.putfield 59, 6, 5, 0), aN, aN, (.aload_n 0, 0, 0, 0), (.dup, 0, 0, 0), (.getfield 63, 6, 6, 0), aN, aN, (.iload_n 1, 0, 0, 0), (.iadd, 0, 0, 0), (.putfield 63, 6, 6, 0), aN, aN, (.aload_n 0, 0, 0, 0), (.getfield 59, 6, 5, 0), aN, aN, (.ireturn, 0, 0, 0)]
def aB_X6_throwWares : List aI := [(.iload_n 1, 0, 0, 0), (.iconst 0, 0, 0, 0), (.iconst 3, 0, 0, 3), (.invokestatic 69, 132, 3, 1), aN, aN, (.ifCond .eq 24, 30, 0, 0), aN, aN, (.iload_n 2, 0, 0, 0), (.iconst 1, 0, 0, 1), (.bipush 20, 0, 0, 20), aN, (.invokestatic 69, 132, 3, 1), aN, aN, (.ifCond .eq 14, 30, 0, 0), aN, aN, (.iload_n 3, 0, 0, 0), (.bipush 30, 0, 0, 30), aN, (.bipush 60, 0, 0, 60), aN, (.invokestatic 69, 132, 3, 1), aN, aN, (.ifCond .ne 6, 33, 0, 0), aN, aN, (.bipush (-2), 0, 0, (-2)), aN, (.ireturn, 0, 0, 0), (.aload_n 0, 0, 0, 0), (.getfield 18, 6, 0, 0), aN, aN, (.getfield 83, 5, 0, 0), aN, aN, (.iload_n 2, 0, 0, 0), (.iadd, 0, 0, 0), (.bipush 60, 0, 0, 60), aN, (.if_icmp .le 14, 58, 0, 0), aN, aN, (.aload_n 0, 0, 0, 0), (.getfield 39, 6, 3, 0), aN, aN, (.iconst 1, 0, 0, 1), (.bipush 60, 0, 0, 60), aN, (.invokevirtual 79, 14, 3, 0), aN, aN, (.ireturn, 0, 0, 0), (.iload_n 2, 0, 0, 0), (.getstatic 86, 0, 0, 0), aN, aN, (.iload_n 1, 0, 0, 0), (.iaload, 0, 0, 0), (.imul, 0, 0, 0), (.istore 4, 0, 0, 0), aN, (.iload 4, 0, 0, 0), aN, (.aload_n 0, 0, 0, 0), (.getfield 59, 6, 5, 0), aN, aN, (.if_icmp .le 16, 89, 0, 0), aN, aN, (.aload_n 0, 0, 0, 0), (.getfield 39, 6, 3, 0), aN, aN, (.iconst 2, 0, 0, 2), (.aload_n 0, 0, 0, 0), (.getfield 59, 6, 5, 0), aN, aN, (.invokevirtual 79, 14, 3, 0), aN, aN, (.ireturn, 0, 0, 0), (.aload_n 0, 0, 0, 0), (.dup, 0, 0, 0), (.getfield 59, 6, 5, 0), aN, aN, (.iload 4, 0, 0, 0), aN, (.isub, 0, 0, 0), (.putfield 59, 6, 5, 0), aN, aN, (.iconst 0, 0, 0, 0), (.istore 5, 0, 0, 0), aN, (.iload 5, 0, 0, 0), aN, (.iload_n 2, 0, 0, 0), (.if_icmp .ge 18, 124, 0, 0), aN, aN, (.aload_n 0, 0, 0, 0), (.getfield 18, 6, 0, 0), aN, aN, (.iload_n 1, 0, 0, 0), (.iload_n 3, 0, 0, 0), (.invokevirtual 89, 39, 3, 0), aN, aN, (.iinc 5 1, 0, 0, 1), aN, aN, (.goto (-18), 103, 0, 0), aN, aN, (.aload_n 0, 0, 0, 0), (.getfield 18, 6, 0, 0), aN, aN, (.getfield 83, 5, 0, 0), aN, aN, (.ireturn, 0, 0, 0)]
def aB_X6_coatWare : List aI := [(.aload_n 0, 0, 0, 0), (.getfield 18, 6, 0, 0), aN, aN, (.iload_n 1, 0, 0, 0), (.invokevirtual 93, 38, 2, 0), aN, aN, (.ifCond .ne 5, 13, 0, 0), aN, aN, (.iconst (-1), 0, 0, (-1)), (.ireturn, 0, 0, 0), (.iload_n 2, 0, 0, 0), (.iconst 0, 0, 0, 0), (.iconst 3, 0, 0, 3), (.invokestatic 69, 132, 3, 1), aN, aN, (.ifCond .eq 13, 32, 0, 0), aN, aN, (.iload_n 3, 0, 0, 0), (.iconst 1, 0, 0, 1), (.bipush 9, 0, 0, 9), aN, (.invokestatic 69, 132, 3, 1), aN, aN, (.ifCond .ne 6, 35, 0, 0), aN, aN, (.bipush (-2), 0, 0, (-2)), aN, (.ireturn, 0, 0, 0), (.aload_n 0, 0, 0, 0), (.getfield 18, 6, 0, 0), aN, aN, (.getfield 97, 5, 1, 0), aN, aN, (.iload_n 1, 0, 0, 0), (.iaload, 0, 0, 0), (.ifCond .eq 21, 65, 0, 0), aN, aN, (.aload_n 0, 0, 0, 0), (.getfield 39, 6, 3, 0), aN, aN, (.iconst 3, 0, 0, 3), (.aload_n 0, 0, 0, 0), (.getfield 18, 6, 0, 0), aN, aN, (.getfield 97, 5, 1, 0), aN, aN, (.iload_n 1, 0, 0, 0), (.iaload, 0, 0, 0), (.invokevirtual 79, 14, 3, 0), aN, aN, (.ireturn, 0, 0, 0), (.aload_n 0, 0, 0, 0), (.getfield 18, 6, 0, 0), aN, aN, (.getfield 100, 5, 2, 0), aN, aN, (.iload_n 1, 0, 0, 0), (.iload_n 2, 0, 0, 0), (.iastore, 0, 0, 0), (.aload_n 0, 0, 0, 0), (.getfield 18, 6, 0, 0), aN, aN, (.getfield 103, 5, 3, 0), aN, aN, (.iload_n 1, 0, 0, 0), (.iload_n 3, 0, 0, 0), (.iastore, 0, 0, 0), (.aload_n 0, 0, 0, 0), (.getfield 18, 6, 0, 0), aN, aN, (.iload_n 1, 0, 0, 0), (.invokevirtual 106, 43, 2, 0), aN, aN, (.ireturn, 0, 0, 0)]
def aB_X6_addSaggar : List aI := [(.aload_n 0, 0, 0, 0), (.getfield 25, 6, 1, 0), aN, aN, (.getfield 110, 3, 0, 0), aN, aN, (.bipush 8, 0, 0, 8), aN, (.if_icmp .lt 14, 23, 0, 0), aN, aN, (.aload_n 0, 0, 0, 0), (.getfield 39, 6, 3, 0), aN, aN, (.iconst 1, 0, 0, 1), (.bipush 8, 0, 0, 8), aN, (.invokevirtual 79, 14, 3, 0), aN, aN, (.ireturn, 0, 0, 0), (.aload_n 0, 0, 0, 0), (.getfield 25, 6, 1, 0), aN, aN, (.invokevirtual 111, 20, 1, 0), aN, aN, (.ireturn, 0, 0, 0)]
def aB_X6_standInKiln : List aI := [(.iload_n 2, 0, 0, 0), (.iconst (-1), 0, 0, (-1)), (.if_icmp .ne 7, 9, 0, 0), aN, aN, (.iconst 1, 0, 0, 1), (.goto 4, 10, 0, 0), aN, aN, (.iconst 0, 0, 0, 0), (.istore 4, 0, 0, 0), aN, (.aload_n 0, 0, 0, 0), (.getfield 25, 6, 1, 0), aN, aN, (.iload_n 1, 0, 0, 0), (.invokevirtual 114, 19, 2, 0), aN, aN, (.ifCond .eq 31, 51, 0, 0), aN, aN, (.iload 4, 0, 0, 0), aN, (.ifCond .eq 15, 40, 0, 0), aN, aN, (.iload_n 3, 0, 0, 0), (.iconst 0, 0, 0, 0), (.iconst 3, 0, 0, 3), (.invokestatic 69, 132, 3, 1), aN, aN, (.ifCond .ne 19, 53, 0, 0), aN, aN, (.goto 14, 51, 0, 0), aN, aN, (.aload_n 0, 0, 0, 0), (.getfield 25, 6, 1, 0), aN, aN, (.iload_n 2, 0, 0, 0), (.invokevirtual 114, 19, 2, 0), aN, aN, (.ifCond .ne 5, 53, 0, 0), aN, aN, (.iconst (-1), 0, 0, (-1)), (.ireturn, 0, 0, 0), (.iload_n 1, 0, 0, 0), (.iload_n 2, 0, 0, 0), (.if_icmp .ne 6, 61, 0, 0), aN, aN, (.bipush (-2), 0, 0, (-2)), aN, (.ireturn, 0, 0, 0), (.aload_n 0, 0, 0, 0), (.getfield 25, 6, 1, 0), aN, aN, (.iload_n 1, 0, 0, 0), (.invokevirtual 115, 22, 2, 0), aN, aN, (.ifCond .eq 13, 82, 0, 0), aN, aN, (.aload_n 0, 0, 0, 0), (.getfield 39, 6, 3, 0), aN, aN, (.iconst 5, 0, 0, 5), (.iload_n 1, 0, 0, 0), (.invokevirtual 79, 14, 3, 0), aN, aN, (.ireturn, 0, 0, 0), (.iload 4, 0, 0, 0), aN, (.ifCond .ne 24, 108, 0, 0), aN, aN, (.aload_n 0, 0, 0, 0), (.getfield 25, 6, 1, 0), aN, aN, (.iload_n 2, 0, 0, 0), (.invokevirtual 115, 22, 2, 0), aN, aN, (.ifCond .ne 13, 108, 0, 0), aN, aN, (.aload_n 0, 0, 0, 0), (.getfield 39, 6, 3, 0), aN, aN, (.iconst 5, 0, 0, 5), (.iload_n 2, 0, 0, 0), (.invokevirtual 79, 14, 3, 0), aN, aN, (.ireturn, 0, 0, 0), (.iload 4, 0, 0, 0), aN, (.ifCond .eq 7, 117, 0, 0), aN, aN, (.iload_n 3, 0, 0, 0), (.goto 12, 126, 0, 0), aN, aN, (.aload_n 0, 0, 0, 0), (.getfield 25, 6, 1, 0), aN, aN, (.getfield 118, 3, 1, 0), aN, aN, (.iload_n 2, 0, 0, 0), (.iaload, 0, 0, 0), (.istore 5, 0, 0, 0), aN, (.iload 4, 0, 0, 0), aN, (.ifCond .eq 7, 137, 0, 0), aN, aN, (.iconst 0, 0, 0, 0), (.goto 14, 148, 0, 0), aN, aN, (.aload_n 0, 0, 0, 0), (.getfield 25, 6, 1, 0), aN, aN, (.getfield 121, 3, 2, 0), aN, aN, (.iload_n 2, 0, 0, 0), (.iaload, 0, 0, 0), (.iconst 1, 0, 0, 1), (.iadd, 0, 0, 0), (.istore 6, 0, 0, 0), aN, (.aload_n 0, 0, 0, 0), (.getfield 25, 6, 1, 0), aN, aN, (.iload 5, 0, 0, 0), aN, (.iload 6, 0, 0, 0), aN, (.invokevirtual 124, 23, 3, 0), aN, aN, (.istore 7, 0, 0, 0), aN, (.iload 7, 0, 0, 0), aN, (.iconst (-1), 0, 0, (-1)), (.if_icmp .eq 15, 181, 0, 0), aN, aN, (.aload_n 0, 0, 0, 0), (.getfield 39, 6, 3, 0), aN, aN, (.bipush 6, 0, 0, 6), aN, (.iload 7, 0, 0, 0), aN, (.invokevirtual 79, 14, 3, 0), aN, aN, (.ireturn, 0, 0, 0), (.aload_n 0, 0, 0, 0), (.iload 5, 0, 0, 0), aN, (.iload 6, 0, 0, 0), aN, (.aload_n 0, 0, 0, 0), (.iload_n 1, 0, 0, 0), (.invokevirtual 127, 81, 2, 0), aN, aN, (.invokevirtual 130, 83, 4, 0), aN, aN, (.istore 8, 0, 0, 0), aN, (.iload 8, 0, 0, 0), aN, (.iconst (-1), 0, 0, (-1)), (.if_icmp .eq 15, 214, 0, 0), aN, aN, (.aload_n 0, 0, 0, 0), (.getfield 39, 6, 3, 0), aN, aN, (.bipush 7, 0, 0, 7), aN, (.iload 8, 0, 0, 0), aN, (.invokevirtual 79, 14, 3, 0), aN, aN, (.ireturn, 0, 0, 0), (.aload_n 0, 0, 0, 0), (.getfield 25, 6, 1, 0), aN, aN, (.iload_n 1, 0, 0, 0), (.iload 5, 0, 0, 0), aN, (.iload 6, 0, 0, 0), aN, (.invokevirtual 134, 21, 4, 0), aN, aN, (.iload 6, 0, 0, 0), aN, (.ireturn, 0, 0, 0)]
def aB_X6_standOnFloor : List aI := [(.aload_n 0, 0, 0, 0), (.getfield 25, 6, 1, 0), aN, aN, (.iload_n 1, 0, 0, 0), (.invokevirtual 114, 19, 2, 0), aN, aN, (.ifCond .ne 5, 13, 0, 0), aN, aN, (.iconst (-1), 0, 0, (-1)), (.ireturn, 0, 0, 0), (.aload_n 0, 0, 0, 0), (.getfield 25, 6, 1, 0), aN, aN, (.iload_n 1, 0, 0, 0), (.invokevirtual 115, 22, 2, 0), aN, aN, (.ifCond .ne 13, 34, 0, 0), aN, aN, (.aload_n 0, 0, 0, 0), (.getfield 39, 6, 3, 0), aN, aN, (.iconst 5, 0, 0, 5), (.iload_n 1, 0, 0, 0), (.invokevirtual 79, 14, 3, 0), aN, aN, (.ireturn, 0, 0, 0), (.aload_n 0, 0, 0, 0), (.getfield 25, 6, 1, 0), aN, aN, (.iload_n 1, 0, 0, 0), (.invokevirtual 138, 24, 2, 0), aN, aN, (.istore_n 2, 0, 0, 0), (.iload_n 2, 0, 0, 0), (.iconst (-1), 0, 0, (-1)), (.if_icmp .eq 14, 59, 0, 0), aN, aN, (.aload_n 0, 0, 0, 0), (.getfield 39, 6, 3, 0), aN, aN, (.bipush 8, 0, 0, 8), aN, (.iload_n 2, 0, 0, 0), (.invokevirtual 79, 14, 3, 0), aN, aN, (.ireturn, 0, 0, 0), (.aload_n 0, 0, 0, 0), (.getfield 25, 6, 1, 0), aN, aN, (.getfield 121, 3, 2, 0), aN, aN, (.iload_n 1, 0, 0, 0), (.iaload, 0, 0, 0), (.istore_n 3, 0, 0, 0), (.aload_n 0, 0, 0, 0), (.getfield 25, 6, 1, 0), aN, aN, (.iload_n 1, 0, 0, 0), (.iconst (-1), 0, 0, (-1)), (.iconst (-1), 0, 0, (-1)), (.invokevirtual 134, 21, 4, 0), aN, aN, (.iload_n 3, 0, 0, 0), (.ireturn, 0, 0, 0)]
def aB_X6_putWare : List aI := [(.aload_n 0, 0, 0, 0), (.getfield 18, 6, 0, 0), aN, aN, (.iload_n 1, 0, 0, 0), (.invokevirtual 93, 38, 2, 0), aN, aN, (.ifCond .eq 14, 22, 0, 0), aN, aN, (.aload_n 0, 0, 0, 0), (.getfield 25, 6, 1, 0), aN, aN, (.iload_n 2, 0, 0, 0), (.invokevirtual 114, 19, 2, 0), aN, aN, (.ifCond .ne 5, 24, 0, 0), aN, aN, (.iconst (-1), 0, 0, (-1)), (.ireturn, 0, 0, 0), (.aload_n 0, 0, 0, 0), (.getfield 18, 6, 0, 0), aN, aN, (.getfield 97, 5, 1, 0), aN, aN, (.iload_n 1, 0, 0, 0), (.iaload, 0, 0, 0), (.ifCond .eq 21, 54, 0, 0), aN, aN, (.aload_n 0, 0, 0, 0), (.getfield 39, 6, 3, 0), aN, aN, (.iconst 3, 0, 0, 3), (.aload_n 0, 0, 0, 0), (.getfield 18, 6, 0, 0), aN, aN, (.getfield 97, 5, 1, 0), aN, aN, (.iload_n 1, 0, 0, 0), (.iaload, 0, 0, 0), (.invokevirtual 79, 14, 3, 0), aN, aN, (.ireturn, 0, 0, 0), (.aload_n 0, 0, 0, 0), (.getfield 18, 6, 0, 0), aN, aN, (.iload_n 1, 0, 0, 0), (.invokevirtual 141, 40, 2, 0), aN, aN, (.istore_n 3, 0, 0, 0), (.aload_n 0, 0, 0, 0), (.iload_n 2, 0, 0, 0), (.invokevirtual 144, 82, 2, 0), aN, aN, (.istore 4, 0, 0, 0), aN, (.iload_n 3, 0, 0, 0), (.iload 4, 0, 0, 0), aN, (.if_icmp .le 14, 87, 0, 0), aN, aN, (.aload_n 0, 0, 0, 0), (.getfield 39, 6, 3, 0), aN, aN, (.iconst 4, 0, 0, 4), (.iload 4, 0, 0, 0), aN, (.invokevirtual 79, 14, 3, 0), aN, aN, (.ireturn, 0, 0, 0), (.aload_n 0, 0, 0, 0), (.aload_n 0, 0, 0, 0), (.getfield 25, 6, 1, 0), aN, aN, (.getfield 118, 3, 1, 0), aN, aN, (.iload_n 2, 0, 0, 0), (.iaload, 0, 0, 0), (.aload_n 0, 0, 0, 0), (.getfield 25, 6, 1, 0), aN, aN, (.getfield 121, 3, 2, 0), aN, aN, (.iload_n 2, 0, 0, 0), (.iaload, 0, 0, 0), (.iload_n 3, 0, 0, 0), (.invokevirtual 130, 83, 4, 0), aN, aN, (.istore 5, 0, 0, 0), aN, (.iload 5, 0, 0, 0), aN, (.iconst (-1), 0, 0, (-1)), (.if_icmp .eq 15, 130, 0, 0), aN, aN, (.aload_n 0, 0, 0, 0), (.getfield 39, 6, 3, 0), aN, aN, (.bipush 7, 0, 0, 7), aN, (.iload 5, 0, 0, 0), aN, (.invokevirtual 79, 14, 3, 0), aN, aN, (.ireturn, 0, 0, 0), (.aload_n 0, 0, 0, 0), (.getfield 18, 6, 0, 0), aN, aN, (.getfield 97, 5, 1, 0), aN, aN, (.iload_n 1, 0, 0, 0), (.iconst 1, 0, 0, 1), (.iastore, 0, 0, 0), (.aload_n 0, 0, 0, 0), (.getfield 18, 6, 0, 0), aN, aN, (.getfield 147, 5, 4, 0), aN, aN, (.iload_n 1, 0, 0, 0), (.iload_n 2, 0, 0, 0), (.iastore, 0, 0, 0), (.iload 4, 0, 0, 0), aN, (.iload_n 3, 0, 0, 0), (.isub, 0, 0, 0), (.ireturn, 0, 0, 0)]
def aB_X6_fireWares : List aI := [(.iload_n 1, 0, 0, 0), (.sipush 1000, 0, 0, 1000), aN, aN, (.sipush 1400, 0, 0, 1400), aN, aN, (.invokestatic 69, 132, 3, 1), aN, aN, (.ifCond .ne 6, 16, 0, 0), aN, aN, (.bipush (-2), 0, 0, (-2)), aN, (.ireturn, 0, 0, 0), (.aload_n 0, 0, 0, 0), (.invokevirtual 150, 76, 1, 0), aN, aN, (.ifCond .ne 14, 34, 0, 0), aN, aN, (.aload_n 0, 0, 0, 0), (.getfield 39, 6, 3, 0), aN, aN, (.bipush 9, 0, 0, 9), aN, (.iconst 0, 0, 0, 0), (.invokevirtual 79, 14, 3, 0), aN, aN, (.ireturn, 0, 0, 0), (.iconst 0, 0, 0, 0), (.istore_n 2, 0, 0, 0), (.iconst 0, 0, 0, 0), (.istore_n 3, 0, 0, 0), (.iload_n 3, 0, 0, 0), (.aload_n 0, 0, 0, 0), (.getfield 18, 6, 0, 0), aN, aN, (.getfield 83, 5, 0, 0), aN, aN, (.if_icmp .ge 60, 106, 0, 0), aN, aN, (.aload_n 0, 0, 0, 0), (.iload_n 3, 0, 0, 0), (.invokevirtual 154, 78, 2, 0), aN, aN, (.ifCond .eq 46, 100, 0, 0), aN, aN, (.aload_n 0, 0, 0, 0), (.iload_n 3, 0, 0, 0), (.iload_n 1, 0, 0, 0), (.invokevirtual 157, 79, 3, 0), aN, aN, (.istore 4, 0, 0, 0), aN, (.aload_n 0, 0, 0, 0), (.getfield 18, 6, 0, 0), aN, aN, (.getfield 97, 5, 1, 0), aN, aN, (.iload_n 3, 0, 0, 0), (.iconst 2, 0, 0, 2), (.iastore, 0, 0, 0), (.aload_n 0, 0, 0, 0), (.getfield 18, 6, 0, 0), aN, aN, (.getfield 160, 5, 5, 0), aN, aN, (.iload_n 3, 0, 0, 0), (.iload 4, 0, 0, 0), aN, (.iastore, 0, 0, 0), (.iload_n 2, 0, 0, 0), (.iload 4, 0, 0, 0), aN, (.iconst 1, 0, 0, 1), (.if_icmp .ne 7, 97, 0, 0), aN, aN, (.iconst 1, 0, 0, 1), (.goto 4, 98, 0, 0), aN, aN, (.iconst 0, 0, 0, 0), (.iadd, 0, 0, 0), (.istore_n 2, 0, 0, 0), (.iinc 3 1, 0, 0, 1), aN, aN, (.goto (-65), 38, 0, 0), aN, aN, (.aload_n 0, 0, 0, 0), (.dup, 0, 0, 0), (.getfield 66, 6, 7, 0), aN, aN, (.iconst 1, 0, 0, 1), (.iadd, 0, 0, 0), (.putfield 66, 6, 7, 0), aN, aN, (.iload_n 2, 0, 0, 0), (.ireturn, 0, 0, 0)]
def aB_X6_emptySaggar : List aI := [(.aload_n 0, 0, 0, 0), (.getfield 25, 6, 1, 0), aN, aN, (.iload_n 1, 0, 0, 0), (.invokevirtual 114, 19, 2, 0), aN, aN, (.ifCond .ne 5, 13, 0, 0), aN, aN, (.iconst (-1), 0, 0, (-1)), (.ireturn, 0, 0, 0), (.aload_n 0, 0, 0, 0), (.getfield 18, 6, 0, 0), aN, aN, (.iload_n 1, 0, 0, 0), (.invokevirtual 163, 52, 2, 0), aN, aN, (.ifCond .ne 14, 35, 0, 0), aN, aN, (.aload_n 0, 0, 0, 0), (.getfield 39, 6, 3, 0), aN, aN, (.bipush 9, 0, 0, 9), aN, (.iconst 0, 0, 0, 0), (.invokevirtual 79, 14, 3, 0), aN, aN, (.ireturn, 0, 0, 0), (.iconst 0, 0, 0, 0), (.istore_n 2, 0, 0, 0), (.iconst 0, 0, 0, 0), (.istore_n 3, 0, 0, 0), (.iload_n 3, 0, 0, 0), (.aload_n 0, 0, 0, 0), (.getfield 18, 6, 0, 0), aN, aN, (.getfield 83, 5, 0, 0), aN, aN, (.if_icmp .ge 51, 98, 0, 0), aN, aN, (.aload_n 0, 0, 0, 0), (.getfield 18, 6, 0, 0), aN, aN, (.getfield 147, 5, 4, 0), aN, aN, (.iload_n 3, 0, 0, 0), (.iaload, 0, 0, 0), (.iload_n 1, 0, 0, 0), (.if_icmp .ne 32, 92, 0, 0), aN, aN, (.aload_n 0, 0, 0, 0), (.getfield 18, 6, 0, 0), aN, aN, (.iload_n 3, 0, 0, 0), (.invokevirtual 166, 45, 2, 0), aN, aN, (.iload_n 2, 0, 0, 0), (.aload_n 0, 0, 0, 0), (.getfield 18, 6, 0, 0), aN, aN, (.getfield 97, 5, 1, 0), aN, aN, (.iload_n 3, 0, 0, 0), (.iaload, 0, 0, 0), (.iconst 3, 0, 0, 3), (.if_icmp .ne 7, 89, 0, 0), aN, aN, (.iconst 1, 0, 0, 1), (.goto 4, 90, 0, 0), aN, aN, (.iconst 0, 0, 0, 0), (.iadd, 0, 0, 0), (.istore_n 2, 0, 0, 0), (.iinc 3 1, 0, 0, 1), aN, aN, (.goto (-56), 39, 0, 0), aN, aN, (.iload_n 2, 0, 0, 0), (.ireturn, 0, 0, 0)]
def aB_X6_addOrder : List aI := [(.iload_n 1, 0, 0, 0), (.iconst 0, 0, 0, 0), (.bipush 6, 0, 0, 6), aN, (.invokestatic 69, 132, 3, 1), aN, aN, (.ifCond .eq 55, 62, 0, 0), aN, aN, (.iload_n 2, 0, 0, 0), (.iconst 0, 0, 0, 0), (.bipush 6, 0, 0, 6), aN, (.invokestatic 69, 132, 3, 1), aN, aN, (.ifCond .eq 45, 62, 0, 0), aN, aN, (.iload_n 3, 0, 0, 0), (.iconst 0, 0, 0, 0), (.bipush 6, 0, 0, 6), aN, (.invokestatic 69, 132, 3, 1), aN, aN, (.ifCond .eq 35, 62, 0, 0), aN, aN, (.iload 4, 0, 0, 0), aN, (.iconst 0, 0, 0, 0), (.bipush 6, 0, 0, 6), aN, (.invokestatic 69, 132, 3, 1), aN, aN, (.ifCond .eq 24, 62, 0, 0), aN, aN, (.iload 5, 0, 0, 0), aN, (.iconst 0, 0, 0, 0), (.iconst 3, 0, 0, 3), (.invokestatic 69, 132, 3, 1), aN, aN, (.ifCond .eq 14, 62, 0, 0), aN, aN, (.iload_n 1, 0, 0, 0), (.iload_n 2, 0, 0, 0), (.iadd, 0, 0, 0), (.iload_n 3, 0, 0, 0), (.iadd, 0, 0, 0), (.iload 4, 0, 0, 0), aN, (.iadd, 0, 0, 0), (.ifCond .ne 6, 65, 0, 0), aN, aN, (.bipush (-2), 0, 0, (-2)), aN, (.ireturn, 0, 0, 0), (.aload_n 0, 0, 0, 0), (.getfield 32, 6, 2, 0), aN, aN, (.getfield 170, 1, 0, 0), aN, aN, (.bipush 6, 0, 0, 6), aN, (.if_icmp .lt 14, 88, 0, 0), aN, aN, (.aload_n 0, 0, 0, 0), (.getfield 39, 6, 3, 0), aN, aN, (.iconst 1, 0, 0, 1), (.bipush 6, 0, 0, 6), aN, (.invokevirtual 79, 14, 3, 0), aN, aN, (.ireturn, 0, 0, 0), (.aload_n 0, 0, 0, 0), (.getfield 32, 6, 2, 0), aN, aN, (.iload 5, 0, 0, 0), aN, (.iload 6, 0, 0, 0), aN, (.invokevirtual 171, 6, 3, 0), aN, aN, (.istore 7, 0, 0, 0), aN, (.aload_n 0, 0, 0, 0), (.getfield 32, 6, 2, 0), aN, aN, (.iload 7, 0, 0, 0), aN, (.iconst 0, 0, 0, 0), (.iload_n 1, 0, 0, 0), (.invokevirtual 174, 7, 4, 0), aN, aN, (.aload_n 0, 0, 0, 0), (.getfield 32, 6, 2, 0), aN, aN, (.iload 7, 0, 0, 0), aN, (.iconst 1, 0, 0, 1), (.iload_n 2, 0, 0, 0), (.invokevirtual 174, 7, 4, 0), aN, aN, (.aload_n 0, 0, 0, 0), (.getfield 32, 6, 2, 0), aN, aN, (.iload 7, 0, 0, 0), aN, (.iconst 2, 0, 0, 2), (.iload_n 3, 0, 0, 0), (.invokevirtual 174, 7, 4, 0), aN, aN, (.aload_n 0, 0, 0, 0), (.getfield 32, 6, 2, 0), aN, aN, (.iload 7, 0, 0, 0), aN, (.iconst 3, 0, 0, 3), (.iload 4, 0, 0, 0), aN, (.invokevirtual 174, 7, 4, 0), aN, aN, (.iload 7, 0, 0, 0), aN, (.ireturn, 0, 0, 0)]
def aB_X6_sellSet : List aI := [(.aload_n 0, 0, 0, 0), (.getfield 32, 6, 2, 0), aN, aN, (.iload_n 1, 0, 0, 0), (.invokevirtual 177, 5, 2, 0), aN, aN, (.ifCond .ne 5, 13, 0, 0), aN, aN, (.iconst (-1), 0, 0, (-1)), (.ireturn, 0, 0, 0), (.aload_n 0, 0, 0, 0), (.iload_n 1, 0, 0, 0), (.invokevirtual 178, 73, 2, 0), aN, aN, (.istore_n 2, 0, 0, 0), (.iload_n 2, 0, 0, 0), (.iconst (-1), 0, 0, (-1)), (.if_icmp .eq 26, 47, 0, 0), aN, aN, (.aload_n 0, 0, 0, 0), (.getfield 39, 6, 3, 0), aN, aN, (.bipush 12, 0, 0, 12), aN, (.iload_n 2, 0, 0, 0), (.invokevirtual 181, 15, 3, 0), aN, aN, (.aload_n 0, 0, 0, 0), (.getfield 39, 6, 3, 0), aN, aN, (.bipush 10, 0, 0, 10), aN, (.iload_n 1, 0, 0, 0), (.invokevirtual 184, 16, 3, 0), aN, aN, (.bipush (-3), 0, 0, (-3)), aN, (.ireturn, 0, 0, 0), (.aload_n 0, 0, 0, 0), (.iload_n 1, 0, 0, 0), (.invokevirtual 187, 75, 2, 0), aN, aN, (.aload_n 0, 0, 0, 0), (.getfield 32, 6, 2, 0), aN, aN, (.getfield 190, 1, 3, 0), aN, aN, (.iload_n 1, 0, 0, 0), (.iaload, 0, 0, 0), (.ireturn, 0, 0, 0)]
def aB_X6_noteFailedStep : List aI := [(.iload_n 2, 0, 0, 0), (.bipush (-3), 0, 0, (-3)), aN, (.if_icmp .eq 13, 16, 0, 0), aN, aN, (.aload_n 0, 0, 0, 0), (.getfield 39, 6, 3, 0), aN, aN, (.bipush 13, 0, 0, 13), aN, (.iconst 0, 0, 0, 0), (.invokevirtual 181, 15, 3, 0), aN, aN, (.aload_n 0, 0, 0, 0), (.getfield 39, 6, 3, 0), aN, aN, (.bipush 11, 0, 0, 11), aN, (.iload_n 1, 0, 0, 0), (.invokevirtual 184, 16, 3, 0), aN, aN, (.return_, 0, 0, 0)]
def aB_X6_sellAllSets : List aI := [(.iconst 0, 0, 0, 0), (.istore_n 2, 0, 0, 0), (.iload_n 2, 0, 0, 0), (.bipush 60, 0, 0, 60), aN, (.if_icmp .ge 23, 28, 0, 0), aN, aN, (.aload_n 0, 0, 0, 0), (.iload_n 1, 0, 0, 0), (.invokevirtual 178, 73, 2, 0), aN, aN, (.iconst (-1), 0, 0, (-1)), (.if_icmp .ne 14, 28, 0, 0), aN, aN, (.aload_n 0, 0, 0, 0), (.iload_n 1, 0, 0, 0), (.invokevirtual 187, 75, 2, 0), aN, aN, (.iinc 2 1, 0, 0, 1), aN, aN, (.goto (-23), 2, 0, 0), aN, aN, (.iload_n 2, 0, 0, 0), (.ireturn, 0, 0, 0)]
def aB_X6_setsByDivision : List aI := [(.bipush 60, 0, 0, 60), aN, (.istore_n 2, 0, 0, 0), (.iconst 0, 0, 0, 0), (.istore_n 3, 0, 0, 0), (.iload_n 3, 0, 0, 0), (.iconst 4, 0, 0, 4), (.if_icmp .ge 39, 46, 0, 0), aN, aN, (.aload_n 0, 0, 0, 0), (.getfield 32, 6, 2, 0), aN, aN, (.iload_n 1, 0, 0, 0), (.iload_n 3, 0, 0, 0), (.invokevirtual 193, 8, 3, 0), aN, aN, (.istore 4, 0, 0, 0), aN, (.iload 4, 0, 0, 0), aN, (.ifCond .le 17, 40, 0, 0), aN, aN, (.iload_n 2, 0, 0, 0), (.aload_n 0, 0, 0, 0), (.iload_n 1, 0, 0, 0), (.iload_n 3, 0, 0, 0), (.invokevirtual 196, 74, 3, 0), aN, aN, (.iload 4, 0, 0, 0), aN, (.idiv, 0, 0, 0), (.invokestatic 199, 501, 2, 0), aN, aN, (.istore_n 2, 0, 0, 0), (.iinc 3 1, 0, 0, 1), aN, aN, (.goto (-38), 5, 0, 0), aN, aN, (.iload_n 2, 0, 0, 0), (.ireturn, 0, 0, 0)]
def aB_X6_lackingKind : List aI := [(.iconst 0, 0, 0, 0), (.istore_n 2, 0, 0, 0), (.iload_n 2, 0, 0, 0), (.iconst 4, 0, 0, 4), (.if_icmp .ge 29, 33, 0, 0), aN, aN, (.aload_n 0, 0, 0, 0), (.iload_n 1, 0, 0, 0), (.iload_n 2, 0, 0, 0), (.invokevirtual 196, 74, 3, 0), aN, aN, (.aload_n 0, 0, 0, 0), (.getfield 32, 6, 2, 0), aN, aN, (.iload_n 1, 0, 0, 0), (.iload_n 2, 0, 0, 0), (.invokevirtual 193, 8, 3, 0), aN, aN, (.if_icmp .ge 5, 27, 0, 0), aN, aN, (.iload_n 2, 0, 0, 0), (.ireturn, 0, 0, 0), (.iinc 2 1, 0, 0, 1), aN, aN, (.goto (-28), 2, 0, 0), aN, aN, (.iconst (-1), 0, 0, (-1)), (.ireturn, 0, 0, 0)]
def aB_X6_countFor : List aI := [(.aload_n 0, 0, 0, 0), (.getfield 18, 6, 0, 0), aN, aN, (.iload_n 2, 0, 0, 0), (.aload_n 0, 0, 0, 0), (.getfield 32, 6, 2, 0), aN, aN, (.getfield 204, 1, 1, 0), aN, aN, (.iload_n 1, 0, 0, 0), (.iaload, 0, 0, 0), (.iconst 1, 0, 0, 1), (.invokevirtual 205, 47, 4, 0), aN, aN, (.istore_n 3, 0, 0, 0), (.aload_n 0, 0, 0, 0), (.getfield 18, 6, 0, 0), aN, aN, (.iload_n 2, 0, 0, 0), (.aload_n 0, 0, 0, 0), (.getfield 32, 6, 2, 0), aN, aN, (.getfield 204, 1, 1, 0), aN, aN, (.iload_n 1, 0, 0, 0), (.iaload, 0, 0, 0), (.iconst 2, 0, 0, 2), (.invokevirtual 205, 47, 4, 0), aN, aN, (.istore 4, 0, 0, 0), aN, (.aload_n 0, 0, 0, 0), (.getfield 32, 6, 2, 0), aN, aN, (.getfield 208, 1, 2, 0), aN, aN, (.iload_n 1, 0, 0, 0), (.iaload, 0, 0, 0), (.iconst 1, 0, 0, 1), (.if_icmp .ne 10, 59, 0, 0), aN, aN, (.iload_n 3, 0, 0, 0), (.iload 4, 0, 0, 0), aN, (.iadd, 0, 0, 0), (.goto 4, 60, 0, 0), aN, aN, (.iload_n 3, 0, 0, 0), (.ireturn, 0, 0, 0)]
def aB_X6_takeSet : List aI := [(.aload_n 0, 0, 0, 0), (.getfield 32, 6, 2, 0), aN, aN, (.getfield 208, 1, 2, 0), aN, aN, (.iload_n 1, 0, 0, 0), (.iaload, 0, 0, 0), (.iconst 1, 0, 0, 1), (.if_icmp .ne 7, 17, 0, 0), aN, aN, (.iconst 2, 0, 0, 2), (.goto 4, 18, 0, 0), aN, aN, (.iconst 1, 0, 0, 1), (.istore_n 2, 0, 0, 0), (.iconst 0, 0, 0, 0), (.istore_n 3, 0, 0, 0), (.iload_n 3, 0, 0, 0), (.iconst 4, 0, 0, 4), (.if_icmp .ge 96, 119, 0, 0), aN, aN, (.aload_n 0, 0, 0, 0), (.getfield 32, 6, 2, 0), aN, aN, (.iload_n 1, 0, 0, 0), (.iload_n 3, 0, 0, 0), (.invokevirtual 193, 8, 3, 0), aN, aN, (.istore 4, 0, 0, 0), aN, (.iconst 0, 0, 0, 0), (.istore 5, 0, 0, 0), aN, (.iload 5, 0, 0, 0), aN, (.aload_n 0, 0, 0, 0), (.getfield 18, 6, 0, 0), aN, aN, (.getfield 83, 5, 0, 0), aN, aN, (.if_icmp .ge 64, 113, 0, 0), aN, aN, (.iload 4, 0, 0, 0), aN, (.ifCond .le 59, 113, 0, 0), aN, aN, (.aload_n 0, 0, 0, 0), (.getfield 18, 6, 0, 0), aN, aN, (.iload 5, 0, 0, 0), aN, (.iload_n 3, 0, 0, 0), (.aload_n 0, 0, 0, 0), (.getfield 32, 6, 2, 0), aN, aN, (.getfield 204, 1, 1, 0), aN, aN, (.iload_n 1, 0, 0, 0), (.iaload, 0, 0, 0), (.invokevirtual 211, 46, 4, 0), aN, aN, (.ifCond .eq 31, 107, 0, 0), aN, aN, (.aload_n 0, 0, 0, 0), (.getfield 18, 6, 0, 0), aN, aN, (.getfield 160, 5, 5, 0), aN, aN, (.iload 5, 0, 0, 0), aN, (.iaload, 0, 0, 0), (.iload_n 2, 0, 0, 0), (.if_icmp .gt 17, 107, 0, 0), aN, aN, (.aload_n 0, 0, 0, 0), (.getfield 18, 6, 0, 0), aN, aN, (.getfield 97, 5, 1, 0), aN, aN, (.iload 5, 0, 0, 0), aN, (.iconst 4, 0, 0, 4), (.iastore, 0, 0, 0), (.iinc 4 (-1), 0, 0, (-1)), aN, aN, (.iinc 5 1, 0, 0, 1), aN, aN, (.goto (-70), 40, 0, 0), aN, aN, (.iinc 3 1, 0, 0, 1), aN, aN, (.goto (-95), 21, 0, 0), aN, aN, (.aload_n 0, 0, 0, 0), (.getfield 32, 6, 2, 0), aN, aN, (.getfield 190, 1, 3, 0), aN, aN, (.iload_n 1, 0, 0, 0), (.dup2, 0, 0, 0), (.iaload, 0, 0, 0), (.iconst 1, 0, 0, 1), (.iadd, 0, 0, 0), (.iastore, 0, 0, 0), (.return_, 0, 0, 0)]
def aB_X6_isThereToFire : List aI := [(.iconst 0, 0, 0, 0), (.istore_n 1, 0, 0, 0), (.iload_n 1, 0, 0, 0), (.aload_n 0, 0, 0, 0), (.getfield 18, 6, 0, 0), aN, aN, (.getfield 83, 5, 0, 0), aN, aN, (.if_icmp .ge 19, 29, 0, 0), aN, aN, (.aload_n 0, 0, 0, 0), (.iload_n 1, 0, 0, 0), (.invokevirtual 154, 78, 2, 0), aN, aN, (.ifCond .eq 5, 23, 0, 0), aN, aN, (.iconst 1, 0, 0, 1), (.ireturn, 0, 0, 0), (.iinc 1 1, 0, 0, 1), aN, aN, (.goto (-24), 2, 0, 0), aN, aN, (.iconst 0, 0, 0, 0), (.ireturn, 0, 0, 0)]
def aB_X6_firstsBy : List aI := [(.iconst 0, 0, 0, 0), (.istore_n 2, 0, 0, 0), (.iconst 0, 0, 0, 0), (.istore_n 3, 0, 0, 0), (.iload_n 3, 0, 0, 0), (.aload_n 0, 0, 0, 0), (.getfield 18, 6, 0, 0), aN, aN, (.getfield 83, 5, 0, 0), aN, aN, (.if_icmp .ge 30, 42, 0, 0), aN, aN, (.aload_n 0, 0, 0, 0), (.iload_n 3, 0, 0, 0), (.invokevirtual 154, 78, 2, 0), aN, aN, (.ifCond .eq 16, 36, 0, 0), aN, aN, (.aload_n 0, 0, 0, 0), (.iload_n 3, 0, 0, 0), (.iload_n 1, 0, 0, 0), (.invokevirtual 157, 79, 3, 0), aN, aN, (.iconst 1, 0, 0, 1), (.if_icmp .ne 6, 36, 0, 0), aN, aN, (.iinc 2 1, 0, 0, 1), aN, aN, (.iinc 3 1, 0, 0, 1), aN, aN, (.goto (-35), 4, 0, 0), aN, aN, (.iload_n 2, 0, 0, 0), (.ireturn, 0, 0, 0)]
def aB_X6_isToFire : List aI := [(.aload_n 0, 0, 0, 0), (.getfield 18, 6, 0, 0), aN, aN, (.getfield 97, 5, 1, 0), aN, aN, (.iload_n 1, 0, 0, 0), (.iaload, 0, 0, 0), (.iconst 1, 0, 0, 1), (.if_icmp .ne 26, 36, 0, 0), aN, aN, (.aload_n 0, 0, 0, 0), (.getfield 25, 6, 1, 0), aN, aN, (.aload_n 0, 0, 0, 0), (.getfield 18, 6, 0, 0), aN, aN, (.getfield 147, 5, 4, 0), aN, aN, (.iload_n 1, 0, 0, 0), (.iaload, 0, 0, 0), (.invokevirtual 115, 22, 2, 0), aN, aN, (.ifCond .eq 7, 36, 0, 0), aN, aN, (.iconst 1, 0, 0, 1), (.goto 4, 37, 0, 0), aN, aN, (.iconst 0, 0, 0, 0), (.ireturn, 0, 0, 0)]
def aB_X6_gradeByFiring : List aI := [(.aload_n 0, 0, 0, 0), (.iload_n 1, 0, 0, 0), (.aload_n 0, 0, 0, 0), (.getfield 25, 6, 1, 0), aN, aN, (.aload_n 0, 0, 0, 0), (.getfield 18, 6, 0, 0), aN, aN, (.getfield 147, 5, 4, 0), aN, aN, (.iload_n 1, 0, 0, 0), (.iaload, 0, 0, 0), (.iload_n 2, 0, 0, 0), (.invokevirtual 214, 26, 3, 0), aN, aN, (.invokevirtual 217, 80, 3, 0), aN, aN, (.ireturn, 0, 0, 0)]
def aB_X6_gradeAt : List aI := [(.aload_n 0, 0, 0, 0), (.getfield 18, 6, 0, 0), aN, aN, (.iload_n 1, 0, 0, 0), (.invokevirtual 220, 41, 2, 0), aN, aN, (.istore_n 3, 0, 0, 0), (.aload_n 0, 0, 0, 0), (.getfield 18, 6, 0, 0), aN, aN, (.iload_n 1, 0, 0, 0), (.iload_n 2, 0, 0, 0), (.invokevirtual 223, 44, 3, 0), aN, aN, (.istore 4, 0, 0, 0), aN, (.aload_n 0, 0, 0, 0), (.getfield 9, 6, 4, 0), aN, aN, (.iconst 1, 0, 0, 1), (.iaload, 0, 0, 0), (.istore 5, 0, 0, 0), aN, (.aload_n 0, 0, 0, 0), (.getfield 9, 6, 4, 0), aN, aN, (.iconst 0, 0, 0, 0), (.iaload, 0, 0, 0), (.istore 6, 0, 0, 0), aN, (.iload_n 2, 0, 0, 0), (.iload_n 3, 0, 0, 0), (.if_icmp .lt 22, 60, 0, 0), aN, aN, (.iload_n 2, 0, 0, 0), (.iload_n 3, 0, 0, 0), (.iconst 2, 0, 0, 2), (.iload 5, 0, 0, 0), aN, (.imul, 0, 0, 0), (.iadd, 0, 0, 0), (.if_icmp .gt 12, 60, 0, 0), aN, aN, (.iload 4, 0, 0, 0), aN, (.iconst 2, 0, 0, 2), (.iload 6, 0, 0, 0), aN, (.imul, 0, 0, 0), (.if_icmp .le 5, 62, 0, 0), aN, aN, (.iconst 3, 0, 0, 3), (.ireturn, 0, 0, 0), (.iload_n 2, 0, 0, 0), (.iload_n 3, 0, 0, 0), (.iload 5, 0, 0, 0), aN, (.iadd, 0, 0, 0), (.if_icmp .gt 21, 88, 0, 0), aN, aN, (.iload 4, 0, 0, 0), aN, (.iload 6, 0, 0, 0), aN, (.if_icmp .gt 14, 88, 0, 0), aN, aN, (.aload_n 0, 0, 0, 0), (.getfield 18, 6, 0, 0), aN, aN, (.iload_n 1, 0, 0, 0), (.invokevirtual 226, 42, 2, 0), aN, aN, (.ifCond .ne 5, 90, 0, 0), aN, aN, (.iconst 2, 0, 0, 2), (.ireturn, 0, 0, 0), (.iconst 1, 0, 0, 1), (.ireturn, 0, 0, 0)]
def aB_X6_weightOf : List aI := [(.iconst 3, 0, 0, 3), (.aload_n 0, 0, 0, 0), (.getfield 18, 6, 0, 0), aN, aN, (.iload_n 1, 0, 0, 0), (.invokevirtual 229, 53, 2, 0), aN, aN, (.iadd, 0, 0, 0), (.ireturn, 0, 0, 0)]
def aB_X6_roomIn : List aI := [(.bipush 6, 0, 0, 6), aN, (.aload_n 0, 0, 0, 0), (.getfield 18, 6, 0, 0), aN, aN, (.iload_n 1, 0, 0, 0), (.invokevirtual 229, 53, 2, 0), aN, aN, (.isub, 0, 0, 0), (.ireturn, 0, 0, 0)]
def aB_X6_overloadedBelow : List aI := [(.iconst 0, 0, 0, 0), (.istore 4, 0, 0, 0), aN, (.iload 4, 0, 0, 0), aN, (.iload_n 2, 0, 0, 0), (.if_icmp .ge 47, 53, 0, 0), aN, aN, (.aload_n 0, 0, 0, 0), (.getfield 25, 6, 1, 0), aN, aN, (.iload_n 1, 0, 0, 0), (.iload 4, 0, 0, 0), aN, (.invokevirtual 124, 23, 3, 0), aN, aN, (.istore 5, 0, 0, 0), aN, (.iload 5, 0, 0, 0), aN, (.iconst (-1), 0, 0, (-1)), (.if_icmp .eq 23, 47, 0, 0), aN, aN, (.aload_n 0, 0, 0, 0), (.iload 5, 0, 0, 0), aN, (.invokevirtual 232, 84, 2, 0), aN, aN, (.iload_n 3, 0, 0, 0), (.iadd, 0, 0, 0), (.aload_n 0, 0, 0, 0), (.getfield 9, 6, 4, 0), aN, aN, (.iconst 2, 0, 0, 2), (.iaload, 0, 0, 0), (.if_icmp .le 6, 47, 0, 0), aN, aN, (.iload 5, 0, 0, 0), aN, (.ireturn, 0, 0, 0), (.iinc 4 1, 0, 0, 1), aN, aN, (.goto (-47), 3, 0, 0), aN, aN, (.iconst (-1), 0, 0, (-1)), (.ireturn, 0, 0, 0)]
def aB_X6_weightAbove : List aI := [(.iconst 0, 0, 0, 0), (.istore_n 2, 0, 0, 0), (.aload_n 0, 0, 0, 0), (.getfield 25, 6, 1, 0), aN, aN, (.iload_n 1, 0, 0, 0), (.invokevirtual 138, 24, 2, 0), aN, aN, (.istore_n 3, 0, 0, 0), (.iconst 0, 0, 0, 0), (.istore 4, 0, 0, 0), aN, (.iload 4, 0, 0, 0), aN, (.bipush 8, 0, 0, 8), aN, (.if_icmp .ge 31, 49, 0, 0), aN, aN, (.iload_n 3, 0, 0, 0), (.iconst (-1), 0, 0, (-1)), (.if_icmp .eq 26, 49, 0, 0), aN, aN, (.iload_n 2, 0, 0, 0), (.aload_n 0, 0, 0, 0), (.iload_n 3, 0, 0, 0), (.invokevirtual 127, 81, 2, 0), aN, aN, (.iadd, 0, 0, 0), (.istore_n 2, 0, 0, 0), (.aload_n 0, 0, 0, 0), (.getfield 25, 6, 1, 0), aN, aN, (.iload_n 3, 0, 0, 0), (.invokevirtual 138, 24, 2, 0), aN, aN, (.istore_n 3, 0, 0, 0), (.iinc 4 1, 0, 0, 1), aN, aN, (.goto (-32), 14, 0, 0), aN, aN, (.iload_n 2, 0, 0, 0), (.ireturn, 0, 0, 0)]
def aB_X6_weightOfRestOfBung : List aI := [(.aload_n 0, 0, 0, 0), (.getfield 25, 6, 1, 0), aN, aN, (.iload_n 1, 0, 0, 0), (.invokevirtual 115, 22, 2, 0), aN, aN, (.ifCond .ne 5, 13, 0, 0), aN, aN, (.iconst 0, 0, 0, 0), (.ireturn, 0, 0, 0), (.iconst 0, 0, 0, 0), (.istore_n 2, 0, 0, 0), (.iconst 0, 0, 0, 0), (.istore_n 3, 0, 0, 0), (.iconst 0, 0, 0, 0), (.istore 4, 0, 0, 0), aN, (.iload 4, 0, 0, 0), aN, (.aload_n 0, 0, 0, 0), (.getfield 25, 6, 1, 0), aN, aN, (.getfield 110, 3, 0, 0), aN, aN, (.if_icmp .ge 75, 104, 0, 0), aN, aN, (.aload_n 0, 0, 0, 0), (.getfield 25, 6, 1, 0), aN, aN, (.getfield 118, 3, 1, 0), aN, aN, (.iload 4, 0, 0, 0), aN, (.iaload, 0, 0, 0), (.aload_n 0, 0, 0, 0), (.getfield 25, 6, 1, 0), aN, aN, (.getfield 118, 3, 1, 0), aN, aN, (.iload_n 1, 0, 0, 0), (.iaload, 0, 0, 0), (.if_icmp .ne 47, 98, 0, 0), aN, aN, (.iload_n 2, 0, 0, 0), (.aload_n 0, 0, 0, 0), (.iload 4, 0, 0, 0), aN, (.invokevirtual 127, 81, 2, 0), aN, aN, (.iadd, 0, 0, 0), (.istore_n 2, 0, 0, 0), (.iload_n 3, 0, 0, 0), (.aload_n 0, 0, 0, 0), (.getfield 25, 6, 1, 0), aN, aN, (.getfield 121, 3, 2, 0), aN, aN, (.iload 4, 0, 0, 0), aN, (.iaload, 0, 0, 0), (.aload_n 0, 0, 0, 0), (.getfield 25, 6, 1, 0), aN, aN, (.getfield 121, 3, 2, 0), aN, aN, (.iload_n 1, 0, 0, 0), (.iaload, 0, 0, 0), (.if_icmp .gt 12, 95, 0, 0), aN, aN, (.aload_n 0, 0, 0, 0), (.iload 4, 0, 0, 0), aN, (.invokevirtual 127, 81, 2, 0), aN, aN, (.goto 4, 96, 0, 0), aN, aN, (.iconst 0, 0, 0, 0), (.iadd, 0, 0, 0), (.istore_n 3, 0, 0, 0), (.iinc 4 1, 0, 0, 1), aN, aN, (.goto (-81), 20, 0, 0), aN, aN, (.iload_n 2, 0, 0, 0), (.iload_n 3, 0, 0, 0), (.isub, 0, 0, 0), (.ireturn, 0, 0, 0)]
def aB_X6_sumOfLoads : List aI := [(.iconst 0, 0, 0, 0), (.istore_n 1, 0, 0, 0), (.iconst 0, 0, 0, 0), (.istore_n 2, 0, 0, 0), (.iload_n 2, 0, 0, 0), (.aload_n 0, 0, 0, 0), (.getfield 25, 6, 1, 0), aN, aN, (.getfield 110, 3, 0, 0), aN, aN, (.if_icmp .ge 17, 29, 0, 0), aN, aN, (.iload_n 1, 0, 0, 0), (.aload_n 0, 0, 0, 0), (.iload_n 2, 0, 0, 0), (.invokevirtual 232, 84, 2, 0), aN, aN, (.iadd, 0, 0, 0), (.istore_n 1, 0, 0, 0), (.iinc 2 1, 0, 0, 1), aN, aN, (.goto (-22), 4, 0, 0), aN, aN, (.iload_n 1, 0, 0, 0), (.ireturn, 0, 0, 0)]
def aB_X6_numberOfSaggar : List aI := [(.iload_n 2, 0, 0, 0), (.tableswitch 89 0 5 #[39, 45, 55, 65, 74, 83], 90, 0, 0), aN, aN, aN, aN, aN, aN, aN, aN, aN, aN, aN, aN, aN, aN, aN, aN, aN, aN, aN, aN, aN, aN, aN, aN, aN, aN, aN, aN, aN, aN, aN, aN, aN, aN, aN, aN, aN, aN, (.aload_n 0, 0, 0, 0), (.iload_n 1, 0, 0, 0), (.invokevirtual 144, 82, 2, 0), aN, aN, (.ireturn, 0, 0, 0), (.aload_n 0, 0, 0, 0), (.getfield 25, 6, 1, 0), aN, aN, (.getfield 121, 3, 2, 0), aN, aN, (.iload_n 1, 0, 0, 0), (.iaload, 0, 0, 0), (.ireturn, 0, 0, 0), (.aload_n 0, 0, 0, 0), (.getfield 25, 6, 1, 0), aN, aN, (.getfield 118, 3, 1, 0), aN, aN, (.iload_n 1, 0, 0, 0), (.iaload, 0, 0, 0), (.ireturn, 0, 0, 0), (.aload_n 0, 0, 0, 0), (.getfield 25, 6, 1, 0), aN, aN, (.iload_n 1, 0, 0, 0), (.invokevirtual 138, 24, 2, 0), aN, aN, (.ireturn, 0, 0, 0), (.aload_n 0, 0, 0, 0), (.getfield 25, 6, 1, 0), aN, aN, (.iload_n 1, 0, 0, 0), (.invokevirtual 235, 25, 2, 0), aN, aN, (.ireturn, 0, 0, 0), (.aload_n 0, 0, 0, 0), (.iload_n 1, 0, 0, 0), (.invokevirtual 127, 81, 2, 0), aN, aN, (.ireturn, 0, 0, 0), (.aload_n 0, 0, 0, 0), (.getfield 18, 6, 0, 0), aN, aN, (.iload_n 1, 0, 0, 0), (.invokevirtual 163, 52, 2, 0), aN, aN, (.ireturn, 0, 0, 0)]
def aB_X6_accountOf : List aI := [(.iload_n 1, 0, 0, 0), (.iconst 1, 0, 0, 1), (.bipush 6, 0, 0, 6), aN, (.invokestatic 69, 132, 3, 1), aN, aN, (.ifCond .eq 14, 21, 0, 0), aN, aN, (.aload_n 0, 0, 0, 0), (.getfield 18, 6, 0, 0), aN, aN, (.iload_n 1, 0, 0, 0), (.iconst 1, 0, 0, 1), (.isub, 0, 0, 0), (.invokevirtual 238, 48, 2, 0), aN, aN, (.ireturn, 0, 0, 0), (.iload_n 1, 0, 0, 0), (.bipush 14, 0, 0, 14), aN, (.bipush 16, 0, 0, 16), aN, (.invokestatic 69, 132, 3, 1), aN, aN, (.ifCond .eq 13, 42, 0, 0), aN, aN, (.aload_n 0, 0, 0, 0), (.getfield 9, 6, 4, 0), aN, aN, (.iload_n 1, 0, 0, 0), (.bipush 14, 0, 0, 14), aN, (.isub, 0, 0, 0), (.iaload, 0, 0, 0), (.ireturn, 0, 0, 0), (.iload_n 1, 0, 0, 0), (.tableswitch 115 0 12 #[65, 115, 115, 115, 115, 115, 115, 73, 81, 89, 97, 105, 110], 158, 0, 0), aN, aN, aN, aN, aN, aN, aN, aN, aN, aN, aN, aN, aN, aN, aN, aN, aN, aN, aN, aN, aN, aN, aN, aN, aN, aN, aN, aN, aN, aN, aN, aN, aN, aN, aN, aN, aN, aN, aN, aN, aN, aN, aN, aN, aN, aN, aN, aN, aN, aN, aN, aN, aN, aN, aN, aN, aN, aN, aN, aN, aN, aN, aN, aN, (.aload_n 0, 0, 0, 0), (.getfield 18, 6, 0, 0), aN, aN, (.getfield 83, 5, 0, 0), aN, aN, (.ireturn, 0, 0, 0), (.aload_n 0, 0, 0, 0), (.getfield 25, 6, 1, 0), aN, aN, (.getfield 110, 3, 0, 0), aN, aN, (.ireturn, 0, 0, 0), (.aload_n 0, 0, 0, 0), (.getfield 25, 6, 1, 0), aN, aN, (.invokevirtual 241, 27, 1, 0), aN, aN, (.ireturn, 0, 0, 0), (.aload_n 0, 0, 0, 0), (.getfield 32, 6, 2, 0), aN, aN, (.getfield 170, 1, 0, 0), aN, aN, (.ireturn, 0, 0, 0), (.aload_n 0, 0, 0, 0), (.getfield 32, 6, 2, 0), aN, aN, (.invokevirtual 244, 9, 1, 0), aN, aN, (.ireturn, 0, 0, 0), (.aload_n 0, 0, 0, 0), (.getfield 66, 6, 7, 0), aN, aN, (.ireturn, 0, 0, 0), (.aload_n 0, 0, 0, 0), (.getfield 63, 6, 6, 0), aN, aN, (.ireturn, 0, 0, 0), (.aload_n 0, 0, 0, 0), (.getfield 59, 6, 5, 0), aN, aN, (.ireturn, 0, 0, 0)]
def aB_X6_isClayBalanced : List aI := [(.aload_n 0, 0, 0, 0), (.getfield 63, 6, 6, 0), aN, aN, (.aload_n 0, 0, 0, 0), (.getfield 59, 6, 5, 0), aN, aN, (.aload_n 0, 0, 0, 0), (.getfield 18, 6, 0, 0), aN, aN, (.invokevirtual 247, 54, 1, 0), aN, aN, (.iadd, 0, 0, 0), (.if_icmp .ne 7, 23, 0, 0), aN, aN, (.iconst 1, 0, 0, 1), (.goto 4, 24, 0, 0), aN, aN, (.iconst 0, 0, 0, 0), (.ireturn, 0, 0, 0)]
def aB_X6_areSalesBalanced : List aI := [(.iconst 0, 0, 0, 0), (.istore_n 1, 0, 0, 0), (.iload_n 1, 0, 0, 0), (.iconst 4, 0, 0, 4), (.if_icmp .ge 30, 34, 0, 0), aN, aN, (.aload_n 0, 0, 0, 0), (.getfield 18, 6, 0, 0), aN, aN, (.iload_n 1, 0, 0, 0), (.invokevirtual 250, 49, 2, 0), aN, aN, (.aload_n 0, 0, 0, 0), (.getfield 32, 6, 2, 0), aN, aN, (.iload_n 1, 0, 0, 0), (.invokevirtual 252, 10, 2, 0), aN, aN, (.if_icmp .eq 5, 28, 0, 0), aN, aN, (.iconst 0, 0, 0, 0), (.ireturn, 0, 0, 0), (.iinc 1 1, 0, 0, 1), aN, aN, (.goto (-29), 2, 0, 0), aN, aN, (.iconst 1, 0, 0, 1), (.ireturn, 0, 0, 0)]
def aB_X6_areLoadsBalanced : List aI := [(.iconst 0, 0, 0, 0), (.istore_n 1, 0, 0, 0), (.iload_n 1, 0, 0, 0), (.aload_n 0, 0, 0, 0), (.getfield 25, 6, 1, 0), aN, aN, (.getfield 110, 3, 0, 0), aN, aN, (.if_icmp .ge 24, 34, 0, 0), aN, aN, (.aload_n 0, 0, 0, 0), (.iload_n 1, 0, 0, 0), (.invokevirtual 232, 84, 2, 0), aN, aN, (.aload_n 0, 0, 0, 0), (.iload_n 1, 0, 0, 0), (.invokevirtual 255, 85, 2, 0), aN, aN, (.if_icmp .eq 5, 28, 0, 0), aN, aN, (.iconst 0, 0, 0, 0), (.ireturn, 0, 0, 0), (.iinc 1 1, 0, 0, 1), aN, aN, (.goto (-29), 2, 0, 0), aN, aN, (.iconst 1, 0, 0, 1), (.ireturn, 0, 0, 0)]
def aB_X7_init : List aI := [(.aload_n 0, 0, 0, 0), (.invokespecial 1, 600, 1, 0), aN, aN, (.aload_n 0, 0, 0, 0), (.new 7, 2, 0, 0), aN, aN, (.dup, 0, 0, 0), (.invokespecial 9, 12, 1, 1), aN, aN, (.putfield 10, 7, 0, 0), aN, aN, (.aload_n 0, 0, 0, 0), (.new 16, 0, 0, 0), aN, aN, (.dup, 0, 0, 0), (.invokespecial 18, 0, 1, 1), aN, aN, (.putfield 19, 7, 1, 0), aN, aN, (.aload_n 0, 0, 0, 0), (.new 23, 4, 0, 0), aN, aN, (.dup, 0, 0, 0), (.invokespecial 25, 28, 1, 1), aN, aN, (.putfield 26, 7, 2, 0), aN, aN, (.aload_n 0, 0, 0, 0), (.new 30, 6, 0, 0), aN, aN, (.dup, 0, 0, 0), (.invokespecial 32, 56, 1, 1), aN, aN, (.putfield 33, 7, 3, 0), aN, aN, (.aload_n 0, 0, 0, 0), (.new 30, 6, 0, 0), aN, aN, (.dup, 0, 0, 0), (.invokespecial 32, 56, 1, 1), aN, aN, (.putfield 37, 7, 4, 0), aN, aN, (.aload_n 0, 0, 0, 0), (.new 30, 6, 0, 0), aN, aN, (.dup, 0, 0, 0), (.invokespecial 32, 56, 1, 1), aN, aN, (.putfield 40, 7, 5, 0), aN, aN, (.aload_n 0, 0, 0, 0), (.iconst (-1), 0, 0, (-1)), (.putfield 43, 7, 7, 0), aN, aN, (.return_, 0, 0, 0)]
def aB_X7_set : List aI := [(.aload_n 0, 0, 0, 0), (.aload_n 0, 0, 0, 0), (.invokevirtual 47, 125, 1, 0), aN, aN, (.iload_n 1, 0, 0, 0), (.iload_n 2, 0, 0, 0), (.invokevirtual 51, 58, 3, 0), aN, aN, (.invokevirtual 55, 126, 2, 0), aN, aN, (.ireturn, 0, 0, 0)]
def aB_X7_clay : List aI := [(.aload_n 0, 0, 0, 0), (.aload_n 0, 0, 0, 0), (.invokevirtual 47, 125, 1, 0), aN, aN, (.iload_n 1, 0, 0, 0), (.invokevirtual 59, 59, 2, 0), aN, aN, (.invokevirtual 55, 126, 2, 0), aN, aN, (.ireturn, 0, 0, 0)]
def aB_X7_cast : List aI := [(.aload_n 0, 0, 0, 0), (.aload_n 0, 0, 0, 0), (.invokevirtual 47, 125, 1, 0), aN, aN, (.iload_n 1, 0, 0, 0), (.iload_n 2, 0, 0, 0), (.iload_n 3, 0, 0, 0), (.invokevirtual 62, 60, 4, 0), aN, aN, (.invokevirtual 55, 126, 2, 0), aN, aN, (.ireturn, 0, 0, 0)]
def aB_X7_glaze : List aI := [(.aload_n 0, 0, 0, 0), (.aload_n 0, 0, 0, 0), (.invokevirtual 47, 125, 1, 0), aN, aN, (.iload_n 1, 0, 0, 0), (.iload_n 2, 0, 0, 0), (.iload_n 3, 0, 0, 0), (.invokevirtual 66, 61, 4, 0), aN, aN, (.invokevirtual 55, 126, 2, 0), aN, aN, (.ireturn, 0, 0, 0)]
def aB_X7_saggar : List aI := [(.aload_n 0, 0, 0, 0), (.aload_n 0, 0, 0, 0), (.invokevirtual 47, 125, 1, 0), aN, aN, (.invokevirtual 69, 62, 1, 0), aN, aN, (.invokevirtual 55, 126, 2, 0), aN, aN, (.ireturn, 0, 0, 0)]
def aB_X7_stack : List aI := [(.aload_n 0, 0, 0, 0), (.aload_n 0, 0, 0, 0), (.invokevirtual 47, 125, 1, 0), aN, aN, (.iload_n 1, 0, 0, 0), (.iload_n 2, 0, 0, 0), (.iload_n 3, 0, 0, 0), (.invokevirtual 73, 63, 4, 0), aN, aN, (.invokevirtual 55, 126, 2, 0), aN, aN, (.ireturn, 0, 0, 0)]
def aB_X7_unstack : List aI := [(.aload_n 0, 0, 0, 0), (.aload_n 0, 0, 0, 0), (.invokevirtual 47, 125, 1, 0), aN, aN, (.iload_n 1, 0, 0, 0), (.invokevirtual 76, 64, 2, 0), aN, aN, (.invokevirtual 55, 126, 2, 0), aN, aN, (.ireturn, 0, 0, 0)]
def aB_X7_put : List aI := [(.aload_n 0, 0, 0, 0), (.aload_n 0, 0, 0, 0), (.invokevirtual 47, 125, 1, 0), aN, aN, (.iload_n 1, 0, 0, 0), (.iload_n 2, 0, 0, 0), (.invokevirtual 79, 65, 3, 0), aN, aN, (.invokevirtual 55, 126, 2, 0), aN, aN, (.ireturn, 0, 0, 0)]
def aB_X7_fire : List aI := [(.aload_n 0, 0, 0, 0), (.aload_n 0, 0, 0, 0), (.invokevirtual 47, 125, 1, 0), aN, aN, (.iload_n 1, 0, 0, 0), (.invokevirtual 82, 66, 2, 0), aN, aN, (.invokevirtual 55, 126, 2, 0), aN, aN, (.ireturn, 0, 0, 0)]
def aB_X7_empty : List aI := [(.aload_n 0, 0, 0, 0), (.aload_n 0, 0, 0, 0), (.invokevirtual 47, 125, 1, 0), aN, aN, (.iload_n 1, 0, 0, 0), (.invokevirtual 85, 67, 2, 0), aN, aN, (.invokevirtual 55, 126, 2, 0), aN, aN, (.ireturn, 0, 0, 0)]
def aB_X7_order : List aI := [(.aload_n 0, 0, 0, 0), (.aload_n 0, 0, 0, 0), (.invokevirtual 47, 125, 1, 0), aN, aN, (.iload_n 1, 0, 0, 0), (.iload_n 2, 0, 0, 0), (.iload_n 3, 0, 0, 0), (.iload 4, 0, 0, 0), aN, (.iload 5, 0, 0, 0), aN, (.iload 6, 0, 0, 0), aN, (.invokevirtual 88, 68, 7, 0), aN, aN, (.invokevirtual 55, 126, 2, 0), aN, aN, (.ireturn, 0, 0, 0)]
def aB_X7_sell : List aI := [(.aload_n 0, 0, 0, 0), (.aload_n 0, 0, 0, 0), (.invokevirtual 47, 125, 1, 0), aN, aN, (.iload_n 1, 0, 0, 0), (.invokevirtual 92, 69, 2, 0), aN, aN, (.invokevirtual 55, 126, 2, 0), aN, aN, (.ireturn, 0, 0, 0)]
def aB_X7_ware : List aI := [(.aload_n 0, 0, 0, 0), (.iload_n 1, 0, 0, 0), (.invokevirtual 95, 128, 2, 0), aN, aN, (.iload_n 2, 0, 0, 0), (.iconst 0, 0, 0, 0), (.bipush 7, 0, 0, 7), aN, (.invokestatic 99, 131, 3, 0), aN, aN, (.aload_n 0, 0, 0, 0), (.getfield 33, 7, 3, 0), aN, aN, (.getfield 103, 6, 0, 0), aN, aN, (.iload_n 1, 0, 0, 0), (.iload_n 2, 0, 0, 0), (.invokevirtual 107, 55, 3, 0), aN, aN, (.ireturn, 0, 0, 0)]
def aB_X7_saggarOf : List aI := [(.aload_n 0, 0, 0, 0), (.iload_n 1, 0, 0, 0), (.invokevirtual 112, 129, 2, 0), aN, aN, (.iload_n 2, 0, 0, 0), (.iconst 0, 0, 0, 0), (.bipush 6, 0, 0, 6), aN, (.invokestatic 99, 131, 3, 0), aN, aN, (.aload_n 0, 0, 0, 0), (.getfield 33, 7, 3, 0), aN, aN, (.iload_n 1, 0, 0, 0), (.iload_n 2, 0, 0, 0), (.invokevirtual 115, 87, 3, 0), aN, aN, (.ireturn, 0, 0, 0)]
def aB_X7_load : List aI := [(.aload_n 0, 0, 0, 0), (.iload_n 1, 0, 0, 0), (.invokevirtual 112, 129, 2, 0), aN, aN, (.aload_n 0, 0, 0, 0), (.getfield 33, 7, 3, 0), aN, aN, (.iload_n 1, 0, 0, 0), (.invokevirtual 118, 84, 2, 0), aN, aN, (.ireturn, 0, 0, 0)]
def aB_X7_loadAgain : List aI := [(.aload_n 0, 0, 0, 0), (.iload_n 1, 0, 0, 0), (.invokevirtual 112, 129, 2, 0), aN, aN, (.aload_n 0, 0, 0, 0), (.getfield 33, 7, 3, 0), aN, aN, (.iload_n 1, 0, 0, 0), (.invokevirtual 121, 85, 2, 0), aN, aN, (.ireturn, 0, 0, 0)]
def aB_X7_orderOf : List aI := [(.aload_n 0, 0, 0, 0), (.iload_n 1, 0, 0, 0), (.invokevirtual 124, 130, 2, 0), aN, aN, (.iload_n 2, 0, 0, 0), (.iconst 0, 0, 0, 0), (.bipush 6, 0, 0, 6), aN, (.invokestatic 99, 131, 3, 0), aN, aN, (.aload_n 0, 0, 0, 0), (.getfield 33, 7, 3, 0), aN, aN, (.getfield 127, 6, 2, 0), aN, aN, (.iload_n 1, 0, 0, 0), (.iload_n 2, 0, 0, 0), (.invokevirtual 131, 11, 3, 0), aN, aN, (.ireturn, 0, 0, 0)]
def aB_X7_sign : List aI := [(.aload_n 0, 0, 0, 0), (.iload_n 1, 0, 0, 0), (.invokevirtual 95, 128, 2, 0), aN, aN, (.getstatic 134, 4, 0, 0), aN, aN, (.aload_n 0, 0, 0, 0), (.getfield 33, 7, 3, 0), aN, aN, (.getfield 103, 6, 0, 0), aN, aN, (.getfield 138, 5, 1, 0), aN, aN, (.iload_n 1, 0, 0, 0), (.iaload, 0, 0, 0), (.caload, 0, 0, 0), (.ireturn, 0, 0, 0)]
def aB_X7_store : List aI := [(.iload_n 1, 0, 0, 0), (.iconst 0, 0, 0, 0), (.iconst 3, 0, 0, 3), (.invokestatic 99, 131, 3, 0), aN, aN, (.iload_n 2, 0, 0, 0), (.iconst (-1), 0, 0, (-1)), (.iconst 3, 0, 0, 3), (.invokestatic 99, 131, 3, 0), aN, aN, (.aload_n 0, 0, 0, 0), (.getfield 33, 7, 3, 0), aN, aN, (.getfield 103, 6, 0, 0), aN, aN, (.iload_n 1, 0, 0, 0), (.iload_n 2, 0, 0, 0), (.iload_n 3, 0, 0, 0), (.ifCond .eq 7, 29, 0, 0), aN, aN, (.iconst 2, 0, 0, 2), (.goto 4, 30, 0, 0), aN, aN, (.iconst 1, 0, 0, 1), (.invokevirtual 142, 47, 4, 0), aN, aN, (.ireturn, 0, 0, 0)]
def aB_X7_heatAt : List aI := [(.aload_n 0, 0, 0, 0), (.iload_n 1, 0, 0, 0), (.invokevirtual 112, 129, 2, 0), aN, aN, (.iload_n 2, 0, 0, 0), (.sipush 1000, 0, 0, 1000), aN, aN, (.sipush 1400, 0, 0, 1400), aN, aN, (.invokestatic 99, 131, 3, 0), aN, aN, (.aload_n 0, 0, 0, 0), (.getfield 33, 7, 3, 0), aN, aN, (.getfield 145, 6, 1, 0), aN, aN, (.iload_n 1, 0, 0, 0), (.invokevirtual 149, 22, 2, 0), aN, aN, (.ifCond .ne 13, 39, 0, 0), aN, aN, (.new 155, 103, 157, 0), aN, aN, aN, aN, aN, aN, aN, aN, aN, (.aload_n 0, 0, 0, 0), (.getfield 33, 7, 3, 0), aN, aN, (.getfield 145, 6, 1, 0), aN, aN, (.iload_n 1, 0, 0, 0), (.iload_n 2, 0, 0, 0), (.invokevirtual 162, 26, 3, 0), aN, aN, (.ireturn, 0, 0, 0)]
def aB_X7_wouldBe : List aI := [(.aload_n 0, 0, 0, 0), (.iload_n 1, 0, 0, 0), (.invokevirtual 95, 128, 2, 0), aN, aN, (.iload_n 2, 0, 0, 0), (.iconst 0, 0, 0, 0), (.sipush 2000, 0, 0, 2000), aN, aN, (.invokestatic 99, 131, 3, 0), aN, aN, (.aload_n 0, 0, 0, 0), (.getfield 33, 7, 3, 0), aN, aN, (.iload_n 1, 0, 0, 0), (.iload_n 2, 0, 0, 0), (.invokevirtual 165, 80, 3, 0), aN, aN, (.ireturn, 0, 0, 0)]
def aB_X7_bestHeat : List aI := [(.aload_n 0, 0, 0, 0), (.getfield 33, 7, 3, 0), aN, aN, (.invokevirtual 168, 76, 1, 0), aN, aN, (.ifCond .ne 13, 20, 0, 0), aN, aN, (.new 155, 103, 172, 0), aN, aN, aN, aN, aN, aN, aN, aN, aN, (.sipush 1000, 0, 0, 1000), aN, aN, (.istore_n 2, 0, 0, 0), (.iconst 0, 0, 0, 0), (.istore_n 3, 0, 0, 0), (.sipush 1000, 0, 0, 1000), aN, aN, (.istore 4, 0, 0, 0), aN, (.iload 4, 0, 0, 0), aN, (.sipush 1400, 0, 0, 1400), aN, aN, (.if_icmp .gt 32, 68, 0, 0), aN, aN, (.aload_n 0, 0, 0, 0), (.getfield 33, 7, 3, 0), aN, aN, (.iload 4, 0, 0, 0), aN, (.invokevirtual 174, 77, 2, 0), aN, aN, (.istore 5, 0, 0, 0), aN, (.iload 5, 0, 0, 0), aN, (.iload_n 3, 0, 0, 0), (.if_icmp .le 9, 62, 0, 0), aN, aN, (.iload 5, 0, 0, 0), aN, (.istore_n 3, 0, 0, 0), (.iload 4, 0, 0, 0), aN, (.istore_n 2, 0, 0, 0), (.iinc 4 10, 0, 0, 10), aN, aN, (.goto (-34), 31, 0, 0), aN, aN, (.iload_n 1, 0, 0, 0), (.ifCond .eq 7, 76, 0, 0), aN, aN, (.iload_n 3, 0, 0, 0), (.goto 4, 77, 0, 0), aN, aN, (.iload_n 2, 0, 0, 0), (.ireturn, 0, 0, 0)]
def aB_X7_sets : List aI := [(.aload_n 0, 0, 0, 0), (.iload_n 1, 0, 0, 0), (.invokevirtual 124, 130, 2, 0), aN, aN, (.aload_n 0, 0, 0, 0), (.invokevirtual 47, 125, 1, 0), aN, aN, (.iload_n 1, 0, 0, 0), (.invokevirtual 177, 71, 2, 0), aN, aN, (.ireturn, 0, 0, 0)]
def aB_X7_setsAgain : List aI := [(.aload_n 0, 0, 0, 0), (.iload_n 1, 0, 0, 0), (.invokevirtual 124, 130, 2, 0), aN, aN, (.aload_n 0, 0, 0, 0), (.getfield 33, 7, 3, 0), aN, aN, (.iload_n 1, 0, 0, 0), (.invokevirtual 180, 72, 2, 0), aN, aN, (.ireturn, 0, 0, 0)]
def aB_X7_append : List aI := [(.aload_n 0, 0, 0, 0), (.getfield 26, 7, 2, 0), aN, aN, (.invokevirtual 183, 29, 1, 0), aN, aN, (.ifCond .eq 13, 20, 0, 0), aN, aN, (.new 186, 104, 188, 0), aN, aN, aN, aN, aN, aN, aN, aN, aN, (.aload_n 0, 0, 0, 0), (.getfield 26, 7, 2, 0), aN, aN, (.iload_n 1, 0, 0, 0), (.invokevirtual 191, 30, 2, 0), aN, aN, (.aload_n 0, 0, 0, 0), (.getfield 26, 7, 2, 0), aN, aN, (.getfield 195, 4, 0, 0), aN, aN, (.ireturn, 0, 0, 0)]
def aB_X7_read : List aI := [(.aload_n 0, 0, 0, 0), (.aload_n 0, 0, 0, 0), (.getfield 26, 7, 2, 0), aN, aN, (.invokevirtual 198, 32, 1, 0), aN, aN, (.putfield 43, 7, 7, 0), aN, aN, (.aload_n 0, 0, 0, 0), (.getfield 26, 7, 2, 0), aN, aN, (.invokevirtual 201, 31, 1, 0), aN, aN, (.aload_n 0, 0, 0, 0), (.getfield 43, 7, 7, 0), aN, aN, (.iconst (-1), 0, 0, (-1)), (.if_icmp .eq 13, 36, 0, 0), aN, aN, (.new 204, 100, 206, 0), aN, aN, aN, aN, aN, aN, aN, aN, aN, (.aload_n 0, 0, 0, 0), (.invokevirtual 47, 125, 1, 0), aN, aN, (.astore_n 1, 0, 0, 0), (.iconst 0, 0, 0, 0), (.istore_n 2, 0, 0, 0), (.iconst 0, 0, 0, 0), (.istore_n 3, 0, 0, 0), (.iload_n 3, 0, 0, 0), (.aload_n 0, 0, 0, 0), (.getfield 26, 7, 2, 0), aN, aN, (.getfield 209, 4, 1, 0), aN, aN, (.if_icmp .ge 30, 83, 0, 0), aN, aN, (.iload_n 2, 0, 0, 0), (.ifCond .lt 26, 83, 0, 0), aN, aN, (.aload_n 0, 0, 0, 0), (.aload_n 1, 0, 0, 0), (.iload_n 3, 0, 0, 0), (.invokevirtual 212, 127, 3, 0), aN, aN, (.istore_n 2, 0, 0, 0), (.iload_n 2, 0, 0, 0), (.ifCond .ge 9, 77, 0, 0), aN, aN, (.aload_n 1, 0, 0, 0), (.iload_n 3, 0, 0, 0), (.iload_n 2, 0, 0, 0), (.invokevirtual 216, 70, 3, 0), aN, aN, (.iinc 3 1, 0, 0, 1), aN, aN, (.goto (-35), 45, 0, 0), aN, aN, (.aload_n 0, 0, 0, 0), (.iload_n 2, 0, 0, 0), (.ifCond .ge 8, 93, 0, 0), aN, aN, (.bipush (-3), 0, 0, (-3)), aN, (.goto 10, 100, 0, 0), aN, aN, (.aload_n 0, 0, 0, 0), (.getfield 26, 7, 2, 0), aN, aN, (.getfield 209, 4, 1, 0), aN, aN, (.invokevirtual 55, 126, 2, 0), aN, aN, (.ireturn, 0, 0, 0)]
def aB_X7_refusal : List aI := [(.iload_n 1, 0, 0, 0), (.iconst 0, 0, 0, 0), (.iconst 2, 0, 0, 2), (.invokestatic 99, 131, 3, 0), aN, aN, (.iload_n 1, 0, 0, 0), (.aload_n 0, 0, 0, 0), (.getfield 10, 7, 0, 0), aN, aN, (.getfield 220, 2, 0, 0), aN, aN, (.if_icmp .lt 13, 27, 0, 0), aN, aN, (.new 155, 103, 223, 0), aN, aN, aN, aN, aN, aN, aN, aN, aN, (.iload_n 2, 0, 0, 0), (.ifCond .eq 15, 43, 0, 0), aN, aN, (.aload_n 0, 0, 0, 0), (.getfield 10, 7, 0, 0), aN, aN, (.getfield 225, 2, 2, 0), aN, aN, (.iload_n 1, 0, 0, 0), (.iaload, 0, 0, 0), (.goto 12, 52, 0, 0), aN, aN, (.aload_n 0, 0, 0, 0), (.getfield 10, 7, 0, 0), aN, aN, (.getfield 228, 2, 1, 0), aN, aN, (.iload_n 1, 0, 0, 0), (.iaload, 0, 0, 0), (.ireturn, 0, 0, 0)]
def aB_X7_account : List aI := [(.iload_n 1, 0, 0, 0), (.iconst 0, 0, 0, 0), (.bipush 18, 0, 0, 18), aN, (.invokestatic 99, 131, 3, 0), aN, aN, (.iload_n 1, 0, 0, 0), (.lookupswitch 44 #[(17, 28), (18, 36)], 0, 0, 0), aN, aN, aN, aN, aN, aN, aN, aN, aN, aN, aN, aN, aN, aN, aN, aN, aN, aN, aN, aN, aN, aN, aN, aN, aN, aN, aN, (.aload_n 0, 0, 0, 0), (.getfield 26, 7, 2, 0), aN, aN, (.getfield 195, 4, 0, 0), aN, aN, (.ireturn, 0, 0, 0), (.aload_n 0, 0, 0, 0), (.getfield 19, 7, 1, 0), aN, aN, (.getfield 231, 0, 0, 0), aN, aN, (.ireturn, 0, 0, 0), (.aload_n 0, 0, 0, 0), (.getfield 33, 7, 3, 0), aN, aN, (.iload_n 1, 0, 0, 0), (.invokevirtual 232, 88, 2, 0), aN, aN, (.ireturn, 0, 0, 0)]
def aB_X7_isBalanced : List aI := [(.aload_n 0, 0, 0, 0), (.getfield 33, 7, 3, 0), aN, aN, (.invokevirtual 235, 89, 1, 0), aN, aN, (.ifCond .eq 27, 34, 0, 0), aN, aN, (.aload_n 0, 0, 0, 0), (.getfield 33, 7, 3, 0), aN, aN, (.invokevirtual 238, 90, 1, 0), aN, aN, (.ifCond .eq 17, 34, 0, 0), aN, aN, (.aload_n 0, 0, 0, 0), (.getfield 33, 7, 3, 0), aN, aN, (.invokevirtual 241, 91, 1, 0), aN, aN, (.ifCond .eq 7, 34, 0, 0), aN, aN, (.iconst 1, 0, 0, 1), (.goto 4, 35, 0, 0), aN, aN, (.iconst 0, 0, 0, 0), (.ireturn, 0, 0, 0)]
def aB_X7_firstShare : List aI := [(.aload_n 0, 0, 0, 0), (.getfield 33, 7, 3, 0), aN, aN, (.getfield 103, 6, 0, 0), aN, aN, (.invokevirtual 244, 51, 1, 0), aN, aN, (.istore_n 1, 0, 0, 0), (.iload_n 1, 0, 0, 0), (.ifCond .ne 13, 25, 0, 0), aN, aN, (.new 247, 105, 249, 0), aN, aN, aN, aN, aN, aN, aN, aN, aN, (.aload_n 0, 0, 0, 0), (.getfield 33, 7, 3, 0), aN, aN, (.getfield 103, 6, 0, 0), aN, aN, (.iconst 1, 0, 0, 1), (.invokevirtual 252, 50, 2, 0), aN, aN, (.i2d, 0, 0, 0), (.iload_n 1, 0, 0, 0), (.i2d, 0, 0, 0), (.ddiv, 0, 0, 0), (.dreturn, 0, 0, 0)]
def aB_X7_meanLoad : List aI := [(.aload_n 0, 0, 0, 0), (.getfield 33, 7, 3, 0), aN, aN, (.getfield 145, 6, 1, 0), aN, aN, (.invokevirtual 255, 27, 1, 0), aN, aN, (.istore_n 1, 0, 0, 0), (.iload_n 1, 0, 0, 0), (.ifCond .ne 14, 26, 0, 0), aN, aN, (.new 247, 105, 258, 1), aN, aN, aN, aN, aN, aN, aN, aN, aN, aN, (.aload_n 0, 0, 0, 0), (.getfield 33, 7, 3, 0), aN, aN, (.invokevirtual 260, 86, 1, 0), aN, aN, (.i2f, 0, 0, 0), (.iload_n 1, 0, 0, 0), (.i2f, 0, 0, 0), (.fdiv, 0, 0, 0), (.freturn, 0, 0, 0)]
def aB_X7_undo : List aI := [(.aload_n 0, 0, 0, 0), (.getfield 19, 7, 1, 0), aN, aN, (.getfield 231, 0, 0, 0), aN, aN, (.ifCond .ne 14, 21, 0, 0), aN, aN, (.new 186, 104, 263, 1), aN, aN, aN, aN, aN, aN, aN, aN, aN, aN, (.aload_n 0, 0, 0, 0), (.aload_n 0, 0, 0, 0), (.getfield 19, 7, 1, 0), aN, aN, (.aload_n 0, 0, 0, 0), (.getfield 33, 7, 3, 0), aN, aN, (.invokevirtual 265, 2, 2, 0), aN, aN, (.putfield 33, 7, 3, 0), aN, aN, (.aload_n 0, 0, 0, 0), (.getfield 19, 7, 1, 0), aN, aN, (.getfield 231, 0, 0, 0), aN, aN, (.ireturn, 0, 0, 0)]
def aB_X7_freshDraft : List aI := [(.aload_n 0, 0, 0, 0), (.getfield 37, 7, 4, 0), aN, aN, (.aload_n 0, 0, 0, 0), (.getfield 33, 7, 3, 0), aN, aN, (.invokevirtual 269, 57, 2, 0), aN, aN, (.aload_n 0, 0, 0, 0), (.getfield 37, 7, 4, 0), aN, aN, (.areturn, 0, 0, 0)]
def aB_X7_settle : List aI := [(.iload_n 1, 0, 0, 0), (.iconst (-1), 0, 0, (-1)), (.if_icmp .ne 14, 16, 0, 0), aN, aN, (.new 283, 102, 285, 1), aN, aN, aN, aN, aN, aN, aN, aN, aN, aN, (.iload_n 1, 0, 0, 0), (.bipush (-2), 0, 0, (-2)), aN, (.if_icmp .ne 14, 33, 0, 0), aN, aN, (.new 204, 100, 288, 1), aN, aN, aN, aN, aN, aN, aN, aN, aN, aN, (.iload_n 1, 0, 0, 0), (.bipush (-3), 0, 0, (-3)), aN, (.if_icmp .ne 28, 64, 0, 0), aN, aN, (.aload_n 0, 0, 0, 0), (.getfield 10, 7, 0, 0), aN, aN, (.aload_n 0, 0, 0, 0), (.getfield 37, 7, 4, 0), aN, aN, (.getfield 290, 6, 3, 0), aN, aN, (.invokevirtual 293, 13, 2, 0), aN, aN, (.new 296, 101, 298, 1), aN, aN, aN, aN, aN, aN, aN, aN, aN, aN, (.aload_n 0, 0, 0, 0), (.getfield 33, 7, 3, 0), aN, aN, (.astore_n 2, 0, 0, 0), (.aload_n 0, 0, 0, 0), (.aload_n 0, 0, 0, 0), (.getfield 37, 7, 4, 0), aN, aN, (.putfield 33, 7, 3, 0), aN, aN, (.aload_n 0, 0, 0, 0), (.aload_n 0, 0, 0, 0), (.getfield 19, 7, 1, 0), aN, aN, (.aload_n 2, 0, 0, 0), (.invokevirtual 301, 1, 2, 0), aN, aN, (.putfield 37, 7, 4, 0), aN, aN, (.iload_n 1, 0, 0, 0), (.ireturn, 0, 0, 0)]
def aB_X7_doStep : List aI := [(.aload_n 0, 0, 0, 0), (.getfield 26, 7, 2, 0), aN, aN, (.getfield 304, 4, 3, 0), aN, aN, (.iconst 0, 0, 0, 0), (.aaload, 0, 0, 0), (.iload_n 2, 0, 0, 0), (.iaload, 0, 0, 0), (.istore_n 3, 0, 0, 0), (.aload_n 0, 0, 0, 0), (.getfield 26, 7, 2, 0), aN, aN, (.getfield 304, 4, 3, 0), aN, aN, (.iconst 1, 0, 0, 1), (.aaload, 0, 0, 0), (.iload_n 2, 0, 0, 0), (.iaload, 0, 0, 0), (.istore 4, 0, 0, 0), aN, (.aload_n 0, 0, 0, 0), (.getfield 26, 7, 2, 0), aN, aN, (.getfield 304, 4, 3, 0), aN, aN, (.iconst 2, 0, 0, 2), (.aaload, 0, 0, 0), (.iload_n 2, 0, 0, 0), (.iaload, 0, 0, 0), (.istore 5, 0, 0, 0), aN, (.aload_n 0, 0, 0, 0), (.getfield 26, 7, 2, 0), aN, aN, (.getfield 308, 4, 2, 0), aN, aN, (.iload_n 2, 0, 0, 0), (.caload, 0, 0, 0), (.lookupswitch 89 #[(101, 83), (102, 77), (103, 59), (112, 69), (116, 49)], 0, 0, 0), aN, aN, aN, aN, aN, aN, aN, aN, aN, aN, aN, aN, aN, aN, aN, aN, aN, aN, aN, aN, aN, aN, aN, aN, aN, aN, aN, aN, aN, aN, aN, aN, aN, aN, aN, aN, aN, aN, aN, aN, aN, aN, aN, aN, aN, aN, aN, aN, (.aload_n 1, 0, 0, 0), (.iload_n 3, 0, 0, 0), (.iload 4, 0, 0, 0), aN, (.bipush 50, 0, 0, 50), aN, (.invokevirtual 62, 60, 4, 0), aN, aN, (.ireturn, 0, 0, 0), (.aload_n 1, 0, 0, 0), (.iload_n 3, 0, 0, 0), (.iload 4, 0, 0, 0), aN, (.iload 5, 0, 0, 0), aN, (.invokevirtual 66, 61, 4, 0), aN, aN, (.ireturn, 0, 0, 0), (.aload_n 1, 0, 0, 0), (.iload_n 3, 0, 0, 0), (.iload 4, 0, 0, 0), aN, (.invokevirtual 79, 65, 3, 0), aN, aN, (.ireturn, 0, 0, 0), (.aload_n 1, 0, 0, 0), (.iload_n 3, 0, 0, 0), (.invokevirtual 82, 66, 2, 0), aN, aN, (.ireturn, 0, 0, 0), (.aload_n 1, 0, 0, 0), (.iload_n 3, 0, 0, 0), (.invokevirtual 85, 67, 2, 0), aN, aN, (.ireturn, 0, 0, 0), (.aload_n 1, 0, 0, 0), (.iload_n 3, 0, 0, 0), (.invokevirtual 92, 69, 2, 0), aN, aN, (.ireturn, 0, 0, 0)]
def aB_X7_needWare : List aI := [(.aload_n 0, 0, 0, 0), (.getfield 33, 7, 3, 0), aN, aN, (.getfield 103, 6, 0, 0), aN, aN, (.iload_n 1, 0, 0, 0), (.invokevirtual 311, 38, 2, 0), aN, aN, (.ifCond .ne 14, 25, 0, 0), aN, aN, (.new 283, 102, 314, 1), aN, aN, aN, aN, aN, aN, aN, aN, aN, aN, (.return_, 0, 0, 0)]
def aB_X7_needSaggar : List aI := [(.aload_n 0, 0, 0, 0), (.getfield 33, 7, 3, 0), aN, aN, (.getfield 145, 6, 1, 0), aN, aN, (.iload_n 1, 0, 0, 0), (.invokevirtual 316, 19, 2, 0), aN, aN, (.ifCond .ne 14, 25, 0, 0), aN, aN, (.new 283, 102, 317, 1), aN, aN, aN, aN, aN, aN, aN, aN, aN, aN, (.return_, 0, 0, 0)]
def aB_X7_needOrder : List aI := [(.aload_n 0, 0, 0, 0), (.getfield 33, 7, 3, 0), aN, aN, (.getfield 127, 6, 2, 0), aN, aN, (.iload_n 1, 0, 0, 0), (.invokevirtual 319, 5, 2, 0), aN, aN, (.ifCond .ne 14, 25, 0, 0), aN, aN, (.new 283, 102, 320, 1), aN, aN, aN, aN, aN, aN, aN, aN, aN, aN, (.return_, 0, 0, 0)]
def aB_X7_needRange : List aI := [(.iload_n 0, 0, 0, 0), (.iload_n 1, 0, 0, 0), (.iload_n 2, 0, 0, 0), (.invokestatic 322, 132, 3, 0), aN, aN, (.ifCond .ne 14, 20, 0, 0), aN, aN, (.new 204, 100, 326, 1), aN, aN, aN, aN, aN, aN, aN, aN, aN, aN, (.return_, 0, 0, 0)]
def aB_X7_isFrom : List aI := [(.iload_n 0, 0, 0, 0), (.iload_n 1, 0, 0, 0), (.if_icmp .lt 12, 14, 0, 0), aN, aN, (.iload_n 0, 0, 0, 0), (.iload_n 2, 0, 0, 0), (.if_icmp .gt 7, 14, 0, 0), aN, aN, (.iconst 1, 0, 0, 1), (.goto 4, 15, 0, 0), aN, aN, (.iconst 0, 0, 0, 0), (.ireturn, 0, 0, 0)]
def aB_L_cell : List aI := [(.iload_n 1, 0, 0, 0), (.aload_n 0, 0, 0, 0), (.arraylength, 0, 0, 0), (.if_icmp .ge 9, 12, 0, 0), aN, aN, (.aload_n 0, 0, 0, 0), (.iload_n 1, 0, 0, 0), (.iaload, 0, 0, 0), (.goto 7, 16, 0, 0), aN, aN, (.ldc 7, 0, 1, 40503), aN, (.iload_n 1, 0, 0, 0), (.imul, 0, 0, 0), (.ireturn, 0, 0, 0)]
def aB_L_set : List aI := [(.aload_n 0, 0, 0, 0), (.iload_n 1, 0, 0, 0), (.iload_n 2, 0, 0, 0), (.invokevirtual 8, 93, 3, 0), aN, aN, (.ireturn, 0, 0, 0), (.astore_n 3, 0, 0, 0), (.iconst (-1), 0, 0, (-1)), (.ireturn, 0, 0, 0)]
def aB_L_clay : List aI := [(.aload_n 0, 0, 0, 0), (.iload_n 1, 0, 0, 0), (.invokevirtual 16, 94, 2, 0), aN, aN, (.ireturn, 0, 0, 0), (.astore_n 2, 0, 0, 0), (.iconst (-1), 0, 0, (-1)), (.ireturn, 0, 0, 0), (.astore_n 2, 0, 0, 0), (.bipush (-2), 0, 0, (-2)), aN, (.ireturn, 0, 0, 0)]
def aB_L_cast : List aI := [(.aload_n 0, 0, 0, 0), (.iload_n 1, 0, 0, 0), (.iload_n 2, 0, 0, 0), (.iload_n 3, 0, 0, 0), (.invokevirtual 22, 95, 4, 0), aN, aN, (.ireturn, 0, 0, 0), (.astore 4, 0, 0, 0), aN, (.iconst (-1), 0, 0, (-1)), (.ireturn, 0, 0, 0), (.astore 4, 0, 0, 0), aN, (.bipush (-2), 0, 0, (-2)), aN, (.ireturn, 0, 0, 0)]
def aB_L_glaze : List aI := [(.aload_n 0, 0, 0, 0), (.iload_n 1, 0, 0, 0), (.iload_n 2, 0, 0, 0), (.iload_n 3, 0, 0, 0), (.invokevirtual 26, 96, 4, 0), aN, aN, (.ireturn, 0, 0, 0), (.astore 4, 0, 0, 0), aN, (.iconst (-1), 0, 0, (-1)), (.ireturn, 0, 0, 0), (.astore 4, 0, 0, 0), aN, (.bipush (-2), 0, 0, (-2)), aN, (.ireturn, 0, 0, 0), (.astore 4, 0, 0, 0), aN, (.bipush (-3), 0, 0, (-3)), aN, (.ireturn, 0, 0, 0)]
def aB_L_saggar : List aI := [(.aload_n 0, 0, 0, 0), (.invokevirtual 31, 97, 1, 0), aN, aN, (.ireturn, 0, 0, 0), (.astore_n 1, 0, 0, 0), (.iconst (-1), 0, 0, (-1)), (.ireturn, 0, 0, 0)]
def aB_L_stack : List aI := [(.aload_n 0, 0, 0, 0), (.iload_n 1, 0, 0, 0), (.iload_n 2, 0, 0, 0), (.iload_n 3, 0, 0, 0), (.invokevirtual 35, 98, 4, 0), aN, aN, (.ireturn, 0, 0, 0), (.astore 4, 0, 0, 0), aN, (.iconst (-1), 0, 0, (-1)), (.ireturn, 0, 0, 0), (.astore 4, 0, 0, 0), aN, (.bipush (-2), 0, 0, (-2)), aN, (.ireturn, 0, 0, 0), (.astore 4, 0, 0, 0), aN, (.bipush (-3), 0, 0, (-3)), aN, (.ireturn, 0, 0, 0)]
def aB_L_unstack : List aI := [(.aload_n 0, 0, 0, 0), (.iload_n 1, 0, 0, 0), (.invokevirtual 38, 99, 2, 0), aN, aN, (.ireturn, 0, 0, 0), (.astore_n 2, 0, 0, 0), (.iconst (-1), 0, 0, (-1)), (.ireturn, 0, 0, 0), (.astore_n 2, 0, 0, 0), (.bipush (-2), 0, 0, (-2)), aN, (.ireturn, 0, 0, 0)]
def aB_L_put : List aI := [(.aload_n 0, 0, 0, 0), (.iload_n 1, 0, 0, 0), (.iload_n 2, 0, 0, 0), (.invokevirtual 41, 100, 3, 0), aN, aN, (.ireturn, 0, 0, 0), (.astore_n 3, 0, 0, 0), (.iconst (-1), 0, 0, (-1)), (.ireturn, 0, 0, 0), (.astore_n 3, 0, 0, 0), (.bipush (-2), 0, 0, (-2)), aN, (.ireturn, 0, 0, 0)]
def aB_L_fire : List aI := [(.aload_n 0, 0, 0, 0), (.iload_n 1, 0, 0, 0), (.invokevirtual 44, 101, 2, 0), aN, aN, (.ireturn, 0, 0, 0), (.astore_n 2, 0, 0, 0), (.iconst (-1), 0, 0, (-1)), (.ireturn, 0, 0, 0), (.astore_n 2, 0, 0, 0), (.bipush (-2), 0, 0, (-2)), aN, (.ireturn, 0, 0, 0)]
def aB_L_empty : List aI := [(.aload_n 0, 0, 0, 0), (.iload_n 1, 0, 0, 0), (.invokevirtual 47, 102, 2, 0), aN, aN, (.ireturn, 0, 0, 0), (.astore_n 2, 0, 0, 0), (.iconst (-1), 0, 0, (-1)), (.ireturn, 0, 0, 0), (.astore_n 2, 0, 0, 0), (.bipush (-2), 0, 0, (-2)), aN, (.ireturn, 0, 0, 0)]
def aB_L_order : List aI := [(.aload_n 0, 0, 0, 0), (.iload_n 1, 0, 0, 0), (.iload_n 2, 0, 0, 0), (.iload_n 3, 0, 0, 0), (.iload 4, 0, 0, 0), aN, (.iload 5, 0, 0, 0), aN, (.iload 6, 0, 0, 0), aN, (.invokevirtual 50, 103, 7, 0), aN, aN, (.ireturn, 0, 0, 0), (.astore 7, 0, 0, 0), aN, (.iconst (-1), 0, 0, (-1)), (.ireturn, 0, 0, 0), (.astore 7, 0, 0, 0), aN, (.bipush (-2), 0, 0, (-2)), aN, (.ireturn, 0, 0, 0)]
def aB_L_sell : List aI := [(.aload_n 0, 0, 0, 0), (.iload_n 1, 0, 0, 0), (.invokevirtual 54, 104, 2, 0), aN, aN, (.ireturn, 0, 0, 0), (.astore_n 2, 0, 0, 0), (.iconst (-1), 0, 0, (-1)), (.ireturn, 0, 0, 0), (.astore_n 2, 0, 0, 0), (.bipush (-2), 0, 0, (-2)), aN, (.ireturn, 0, 0, 0)]
def aB_L_ware : List aI := [(.aload_n 0, 0, 0, 0), (.iload_n 1, 0, 0, 0), (.iload_n 2, 0, 0, 0), (.invokevirtual 57, 105, 3, 0), aN, aN, (.ireturn, 0, 0, 0), (.astore_n 3, 0, 0, 0), (.bipush (-11), 0, 0, (-11)), aN, (.ireturn, 0, 0, 0), (.astore_n 3, 0, 0, 0), (.bipush (-12), 0, 0, (-12)), aN, (.ireturn, 0, 0, 0)]
def aB_L_of : List aI := [(.aload_n 0, 0, 0, 0), (.iload_n 1, 0, 0, 0), (.iload_n 2, 0, 0, 0), (.invokevirtual 60, 106, 3, 0), aN, aN, (.ireturn, 0, 0, 0), (.astore_n 3, 0, 0, 0), (.bipush (-11), 0, 0, (-11)), aN, (.ireturn, 0, 0, 0), (.astore_n 3, 0, 0, 0), (.bipush (-12), 0, 0, (-12)), aN, (.ireturn, 0, 0, 0)]
def aB_L_heatAt : List aI := [(.aload_n 0, 0, 0, 0), (.iload_n 1, 0, 0, 0), (.iload_n 2, 0, 0, 0), (.invokevirtual 63, 112, 3, 0), aN, aN, (.ireturn, 0, 0, 0), (.astore_n 3, 0, 0, 0), (.iconst (-1), 0, 0, (-1)), (.ireturn, 0, 0, 0), (.astore_n 3, 0, 0, 0), (.bipush (-2), 0, 0, (-2)), aN, (.ireturn, 0, 0, 0), (.astore_n 3, 0, 0, 0), (.bipush (-3), 0, 0, (-3)), aN, (.ireturn, 0, 0, 0)]
def aB_L_wouldBe : List aI := [(.aload_n 0, 0, 0, 0), (.iload_n 1, 0, 0, 0), (.iload_n 2, 0, 0, 0), (.invokevirtual 68, 113, 3, 0), aN, aN, (.ireturn, 0, 0, 0), (.astore_n 3, 0, 0, 0), (.iconst (-1), 0, 0, (-1)), (.ireturn, 0, 0, 0), (.astore_n 3, 0, 0, 0), (.bipush (-2), 0, 0, (-2)), aN, (.ireturn, 0, 0, 0)]
def aB_L_best : List aI := [(.aload_n 0, 0, 0, 0), (.iload_n 1, 0, 0, 0), (.invokevirtual 71, 114, 2, 0), aN, aN, (.ireturn, 0, 0, 0), (.astore_n 2, 0, 0, 0), (.iconst (-1), 0, 0, (-1)), (.ireturn, 0, 0, 0)]
def aB_L_append : List aI := [(.aload_n 0, 0, 0, 0), (.iload_n 1, 0, 0, 0), (.invokevirtual 75, 117, 2, 0), aN, aN, (.ireturn, 0, 0, 0), (.astore_n 2, 0, 0, 0), (.iconst (-1), 0, 0, (-1)), (.ireturn, 0, 0, 0)]
def aB_L_reads : List aI := [(.aload_n 0, 0, 0, 0), (.invokevirtual 81, 118, 1, 0), aN, aN, (.ireturn, 0, 0, 0), (.astore_n 1, 0, 0, 0), (.iconst (-1), 0, 0, (-1)), (.ireturn, 0, 0, 0), (.astore_n 1, 0, 0, 0), (.bipush (-2), 0, 0, (-2)), aN, (.ireturn, 0, 0, 0)]
def aB_L_read : List aI := [(.iconst 0, 0, 0, 0), (.istore_n 2, 0, 0, 0), (.iload_n 2, 0, 0, 0), (.aload_n 1, 0, 0, 0), (.invokevirtual 84, 505, 1, 0), aN, aN, (.if_icmp .ge 27, 34, 0, 0), aN, aN, (.aload_n 0, 0, 0, 0), (.aload_n 1, 0, 0, 0), (.iload_n 2, 0, 0, 0), (.invokevirtual 89, 503, 2, 0), aN, aN, (.invokestatic 93, 151, 2, 1), aN, aN, (.iload_n 2, 0, 0, 0), (.iconst 1, 0, 0, 1), (.iadd, 0, 0, 0), (.if_icmp .eq 6, 28, 0, 0), aN, aN, (.bipush (-9), 0, 0, (-9)), aN, (.ireturn, 0, 0, 0), (.iinc 2 1, 0, 0, 1), aN, aN, (.goto (-29), 2, 0, 0), aN, aN, (.aload_n 0, 0, 0, 0), (.invokestatic 98, 152, 1, 1), aN, aN, (.ireturn, 0, 0, 0)]
def aB_L_refusal : List aI := [(.aload_n 0, 0, 0, 0), (.iload_n 1, 0, 0, 0), (.iload_n 2, 0, 0, 0), (.invokevirtual 102, 119, 3, 0), aN, aN, (.ireturn, 0, 0, 0), (.astore_n 3, 0, 0, 0), (.iconst (-1), 0, 0, (-1)), (.ireturn, 0, 0, 0), (.astore_n 3, 0, 0, 0), (.bipush (-2), 0, 0, (-2)), aN, (.ireturn, 0, 0, 0)]
def aB_L_undo : List aI := [(.aload_n 0, 0, 0, 0), (.invokevirtual 106, 124, 1, 0), aN, aN, (.ireturn, 0, 0, 0), (.astore_n 1, 0, 0, 0), (.iconst (-1), 0, 0, (-1)), (.ireturn, 0, 0, 0)]
def aB_L_drawn_0 : List aI := [(.new 9, 7, 0, 0), aN, aN, (.dup, 0, 0, 0), (.invokespecial 109, 92, 1, 1), aN, aN, (.astore_n 1, 0, 0, 0), (.aload_n 1, 0, 0, 0), (.bipush 99, 0, 0, 99), aN, (.invokestatic 110, 135, 2, 1), aN, aN, (.bipush 99, 0, 0, 99), aN, (.if_icmp .ne 15, 31, 0, 0), aN, aN, (.aload_n 1, 0, 0, 0), (.bipush 40, 0, 0, 40), aN, (.invokestatic 110, 135, 2, 1), aN, aN, (.sipush 139, 0, 0, 139), aN, aN, (.if_icmp .eq 5, 33, 0, 0), aN, aN, (.aconst_null, 0, 0, 0), (.areturn, 0, 0, 0), (.iconst 0, 0, 0, 0), (.istore_n 2, 0, 0, 0), (.iconst 0, 0, 0, 0), (.istore_n 3, 0, 0, 0), (.iload_n 3, 0, 0, 0), (.iconst 5, 0, 0, 5), (.if_icmp .ge 59, 98, 0, 0), aN, aN, (.aload_n 0, 0, 0, 0), (.iload_n 3, 0, 0, 0), (.invokestatic 113, 133, 2, 0), aN, aN, (.iconst 1, 0, 0, 1), (.iushr, 0, 0, 0), (.istore 4, 0, 0, 0), aN, (.iconst 1, 0, 0, 1), (.iload 4, 0, 0, 0), aN, (.iconst 2, 0, 0, 2), (.iushr, 0, 0, 0), (.iconst 4, 0, 0, 4), (.irem, 0, 0, 0), (.iadd, 0, 0, 0), (.istore 5, 0, 0, 0), aN, (.iload_n 2, 0, 0, 0), (.iload 5, 0, 0, 0), aN, (.iadd, 0, 0, 0), (.istore_n 2, 0, 0, 0), (.aload_n 1, 0, 0, 0), (.iload 4, 0, 0, 0), aN, (.iconst 4, 0, 0, 4), (.irem, 0, 0, 0), (.iload 5, 0, 0, 0), aN, (.bipush 30, 0, 0, 30), aN, (.iload 4, 0, 0, 0), aN, (.iconst 5, 0, 0, 5), (.iushr, 0, 0, 0), (.bipush 31, 0, 0, 31), aN, (.irem, 0, 0, 0), (.iadd, 0, 0, 0), (.invokestatic 117, 136, 4, 1), aN, aN, (.iload_n 2, 0, 0, 0), (.if_icmp .eq 5, 92, 0, 0), aN, aN, (.aconst_null, 0, 0, 0), (.areturn, 0, 0, 0), (.iinc 3 1, 0, 0, 1), aN, aN, (.goto (-58), 37, 0, 0), aN, aN, (.iconst 0, 0, 0, 0), (.istore_n 3, 0, 0, 0), (.iload_n 3, 0, 0, 0), (.iload_n 2, 0, 0, 0), (.if_icmp .ge 52, 154, 0, 0), aN, aN, (.aload_n 0, 0, 0, 0), (.iconst 5, 0, 0, 5), (.iload_n 3, 0, 0, 0), (.iadd, 0, 0, 0), (.invokestatic 113, 133, 2, 0), aN, aN, (.iconst 1, 0, 0, 1), (.iushr, 0, 0, 0), (.istore 4, 0, 0, 0), aN, (.iload 4, 0, 0, 0), aN, (.iconst 5, 0, 0, 5), (.irem, 0, 0, 0), (.ifCond .le 28, 148, 0, 0), aN, aN, (.aload_n 1, 0, 0, 0), (.iload_n 3, 0, 0, 0), (.iload 4, 0, 0, 0), aN, (.iconst 3, 0, 0, 3), (.iushr, 0, 0, 0), (.iconst 3, 0, 0, 3), (.irem, 0, 0, 0), (.iconst 1, 0, 0, 1), (.iload 4, 0, 0, 0), aN, (.iconst 5, 0, 0, 5), (.iushr, 0, 0, 0), (.bipush 9, 0, 0, 9), aN, (.irem, 0, 0, 0), (.iadd, 0, 0, 0), (.invokestatic 120, 137, 4, 1), aN, aN, (.ifCond .ge 5, 148, 0, 0), aN, aN, (.aconst_null, 0, 0, 0), (.areturn, 0, 0, 0), (.iinc 3 1, 0, 0, 1), aN, aN, (.goto (-51), 100, 0, 0), aN, aN, (.iconst 3, 0, 0, 3), (.aload_n 0, 0, 0, 0), (.bipush 26, 0, 0, 26), aN, (.invokestatic 113, 133, 2, 0), aN, aN, (.iconst 1, 0, 0, 1), (.iushr, 0, 0, 0), (.iconst 4, 0, 0, 4), (.irem, 0, 0, 0), (.iadd, 0, 0, 0), (.istore_n 3, 0, 0, 0), (.iconst 0, 0, 0, 0), (.istore 4, 0, 0, 0), aN, (.iload 4, 0, 0, 0), aN, (.iload_n 3, 0, 0, 0), (.if_icmp .ge 90, 263, 0, 0), aN, aN, (.aload_n 0, 0, 0, 0), (.bipush 27, 0, 0, 27), aN, (.iload 4, 0, 0, 0), aN, (.iadd, 0, 0, 0), (.invokestatic 113, 133, 2, 0), aN, aN, (.iconst 1, 0, 0, 1), (.iushr, 0, 0, 0), (.istore 5, 0, 0, 0), aN, (.aload_n 1, 0, 0, 0), (.invokestatic 122, 138, 1, 1), aN, aN, (.iload 4, 0, 0, 0), aN, (.if_icmp .ne 60, 255, 0, 0), aN, aN, (.aload_n 1, 0, 0, 0), (.iload 4, 0, 0, 0)]
def aB_L_drawn_1 : List aI := [aN, (.iload 4, 0, 0, 0), aN, (.ifCond .eq 10, 213, 0, 0), aN, aN, (.iload 5, 0, 0, 0), aN, (.iconst 3, 0, 0, 3), (.irem, 0, 0, 0), (.ifCond .ne 7, 217, 0, 0), aN, aN, (.iconst (-1), 0, 0, (-1)), (.goto 8, 222, 0, 0), aN, aN, (.iload 5, 0, 0, 0), aN, (.iload 4, 0, 0, 0), aN, (.irem, 0, 0, 0), (.iload 5, 0, 0, 0), aN, (.iconst 4, 0, 0, 4), (.iushr, 0, 0, 0), (.iconst 4, 0, 0, 4), (.irem, 0, 0, 0), (.invokestatic 124, 139, 4, 1), aN, aN, (.ifCond .ge 26, 257, 0, 0), aN, aN, (.aload_n 1, 0, 0, 0), (.iconst 0, 0, 0, 0), (.iconst 0, 0, 0, 0), (.invokestatic 126, 154, 3, 1), aN, aN, (.iconst 5, 0, 0, 5), (.if_icmp .lt 14, 255, 0, 0), aN, aN, (.aload_n 1, 0, 0, 0), (.iconst 0, 0, 0, 0), (.iconst 0, 0, 0, 0), (.invokestatic 126, 154, 3, 1), aN, aN, (.bipush 7, 0, 0, 7), aN, (.if_icmp .le 5, 257, 0, 0), aN, aN, (.aconst_null, 0, 0, 0), (.areturn, 0, 0, 0), (.iinc 4 1, 0, 0, 1), aN, aN, (.goto (-90), 170, 0, 0), aN, aN, (.iconst 0, 0, 0, 0), (.istore 4, 0, 0, 0), aN, (.iload 4, 0, 0, 0), aN, (.iload_n 2, 0, 0, 0), (.if_icmp .ge 62, 331, 0, 0), aN, aN, (.aload_n 0, 0, 0, 0), (.bipush 6, 0, 0, 6), aN, (.iload 4, 0, 0, 0), aN, (.iadd, 0, 0, 0), (.invokestatic 113, 133, 2, 0), aN, aN, (.iconst 2, 0, 0, 2), (.iushr, 0, 0, 0), (.istore 5, 0, 0, 0), aN, (.aload_n 1, 0, 0, 0), (.iload 4, 0, 0, 0), aN, (.iload 5, 0, 0, 0), aN, (.iload_n 3, 0, 0, 0), (.irem, 0, 0, 0), (.invokestatic 129, 141, 3, 1), aN, aN, (.istore 6, 0, 0, 0), aN, (.iload 6, 0, 0, 0), aN, (.ifCond .ge 26, 325, 0, 0), aN, aN, (.aload_n 1, 0, 0, 0), (.iconst 0, 0, 0, 0), (.iconst 0, 0, 0, 0), (.invokestatic 126, 154, 3, 1), aN, aN, (.iconst 4, 0, 0, 4), (.if_icmp .eq 16, 325, 0, 0), aN, aN, (.aload_n 1, 0, 0, 0), (.iconst 0, 0, 0, 0), (.iconst 0, 0, 0, 0), (.invokestatic 126, 154, 3, 1), aN, aN, (.bipush 7, 0, 0, 7), aN, (.if_icmp .eq 5, 325, 0, 0), aN, aN, (.aconst_null, 0, 0, 0), (.areturn, 0, 0, 0), (.iinc 4 1, 0, 0, 1), aN, aN, (.goto (-62), 266, 0, 0), aN, aN, (.aload_n 0, 0, 0, 0), (.bipush 33, 0, 0, 33), aN, (.invokestatic 113, 133, 2, 0), aN, aN, (.iconst 1, 0, 0, 1), (.iushr, 0, 0, 0), (.istore 4, 0, 0, 0), aN, (.aload_n 1, 0, 0, 0), (.iconst 1, 0, 0, 1), (.invokestatic 132, 150, 2, 1), aN, aN, (.istore 5, 0, 0, 0), aN, (.iload 4, 0, 0, 0), aN, (.iconst 4, 0, 0, 4), (.irem, 0, 0, 0), (.ifCond .le 64, 416, 0, 0), aN, aN, (.aload_n 1, 0, 0, 0), (.iload 4, 0, 0, 0), aN, (.iconst 4, 0, 0, 4), (.irem, 0, 0, 0), (.iconst 1, 0, 0, 1), (.if_icmp .ne 18, 379, 0, 0), aN, aN, (.sipush 1000, 0, 0, 1000), aN, aN, (.iload 4, 0, 0, 0), aN, (.iconst 3, 0, 0, 3), (.iushr, 0, 0, 0), (.sipush 401, 0, 0, 401), aN, aN, (.irem, 0, 0, 0), (.iadd, 0, 0, 0), (.goto 14, 390, 0, 0), aN, aN, (.sipush 1000, 0, 0, 1000), aN, aN, (.aload_n 1, 0, 0, 0), (.iconst 0, 0, 0, 0), (.invokestatic 132, 150, 2, 1), aN, aN, (.invokestatic 136, 500, 2, 0), aN, aN, (.invokestatic 141, 142, 2, 1), aN, aN, (.ifCond .ge 7, 400, 0, 0), aN, aN, (.iconst 1, 0, 0, 1), (.goto 4, 401, 0, 0), aN, aN]
def aB_L_drawn_2 : List aI := [(.iconst 0, 0, 0, 0), (.iload 5, 0, 0, 0), aN, (.ifCond .ge 7, 410, 0, 0), aN, aN, (.iconst 1, 0, 0, 1), (.goto 4, 411, 0, 0), aN, aN, (.iconst 0, 0, 0, 0), (.if_icmp .eq 5, 416, 0, 0), aN, aN, (.aconst_null, 0, 0, 0), (.areturn, 0, 0, 0), (.iconst 0, 0, 0, 0), (.istore 6, 0, 0, 0), aN, (.iload 6, 0, 0, 0), aN, (.iload_n 3, 0, 0, 0), (.if_icmp .ge 44, 466, 0, 0), aN, aN, (.iload 4, 0, 0, 0), aN, (.bipush 10, 0, 0, 10), aN, (.iload 6, 0, 0, 0), aN, (.iadd, 0, 0, 0), (.iushr, 0, 0, 0), (.iconst 2, 0, 0, 2), (.irem, 0, 0, 0), (.ifCond .ne 25, 460, 0, 0), aN, aN, (.aload_n 1, 0, 0, 0), (.iload 6, 0, 0, 0), aN, (.invokestatic 143, 143, 2, 1), aN, aN, (.ifCond .ge 16, 460, 0, 0), aN, aN, (.aload_n 1, 0, 0, 0), (.iload 6, 0, 0, 0), aN, (.bipush 6, 0, 0, 6), aN, (.invokestatic 145, 147, 3, 1), aN, aN, (.ifCond .eq 5, 460, 0, 0), aN, aN, (.aconst_null, 0, 0, 0), (.areturn, 0, 0, 0), (.iinc 6 1, 0, 0, 1), aN, aN, (.goto (-44), 419, 0, 0), aN, aN, (.aload_n 1, 0, 0, 0), (.iload 4, 0, 0, 0), aN, (.iconst 3, 0, 0, 3), (.irem, 0, 0, 0), (.iconst 1, 0, 0, 1), (.iconst 0, 0, 0, 0), (.iconst 0, 0, 0, 0), (.iload 4, 0, 0, 0), aN, (.iconst 4, 0, 0, 4), (.iushr, 0, 0, 0), (.iconst 3, 0, 0, 3), (.irem, 0, 0, 0), (.iconst 1, 0, 0, 1), (.invokestatic 148, 144, 7, 1), aN, aN, (.ifCond .ne 35, 519, 0, 0), aN, aN, (.aload_n 1, 0, 0, 0), (.iconst 1, 0, 0, 1), (.iconst 0, 0, 0, 0), (.iload 4, 0, 0, 0), aN, (.bipush 6, 0, 0, 6), aN, (.iushr, 0, 0, 0), (.iconst 2, 0, 0, 2), (.irem, 0, 0, 0), (.iload 4, 0, 0, 0), aN, (.bipush 7, 0, 0, 7), aN, (.iushr, 0, 0, 0), (.iconst 2, 0, 0, 2), (.irem, 0, 0, 0), (.iload 4, 0, 0, 0), aN, (.bipush 8, 0, 0, 8), aN, (.iushr, 0, 0, 0), (.iconst 3, 0, 0, 3), (.irem, 0, 0, 0), (.iconst 0, 0, 0, 0), (.invokestatic 148, 144, 7, 1), aN, aN, (.iconst 1, 0, 0, 1), (.if_icmp .eq 5, 521, 0, 0), aN, aN, (.aconst_null, 0, 0, 0), (.areturn, 0, 0, 0), (.aload_n 1, 0, 0, 0), (.areturn, 0, 0, 0)]
def aB_L_drawn : List aI := aB_L_drawn_0 ++ (aB_L_drawn_1 ++ (aB_L_drawn_2))
def aB_L_stacks_0 : List aI := [(.iconst 0, 0, 0, 0), (.istore_n 1, 0, 0, 0), (.iconst 0, 0, 0, 0), (.istore_n 2, 0, 0, 0), (.iconst 0, 0, 0, 0), (.istore_n 3, 0, 0, 0), (.iload_n 3, 0, 0, 0), (.aload_n 0, 0, 0, 0), (.bipush 7, 0, 0, 7), aN, (.invokevirtual 172, 120, 2, 0), aN, aN, (.if_icmp .ge 367, 380, 0, 0), aN, aN, (.iconst 0, 0, 0, 0), (.istore 4, 0, 0, 0), aN, (.iconst 0, 0, 0, 0), (.istore 5, 0, 0, 0), aN, (.iconst 0, 0, 0, 0), (.istore 6, 0, 0, 0), aN, (.iload 6, 0, 0, 0), aN, (.aload_n 0, 0, 0, 0), (.iconst 0, 0, 0, 0), (.invokevirtual 172, 120, 2, 0), aN, aN, (.if_icmp .ge 88, 120, 0, 0), aN, aN, (.aload_n 0, 0, 0, 0), (.iload 6, 0, 0, 0), aN, (.iconst 5, 0, 0, 5), (.invokestatic 175, 146, 3, 1), aN, aN, (.iload_n 3, 0, 0, 0), (.if_icmp .ne 7, 50, 0, 0), aN, aN, (.iconst 1, 0, 0, 1), (.goto 4, 51, 0, 0), aN, aN, (.iconst 0, 0, 0, 0), (.istore 7, 0, 0, 0), aN, (.aload_n 0, 0, 0, 0), (.iload 6, 0, 0, 0), aN, (.iconst 0, 0, 0, 0), (.invokestatic 175, 146, 3, 1), aN, aN, (.istore 8, 0, 0, 0), aN, (.iload 4, 0, 0, 0), aN, (.iload 7, 0, 0, 0), aN, (.ifCond .eq 29, 95, 0, 0), aN, aN, (.iload 8, 0, 0, 0), aN, (.ifCond .ne 7, 78, 0, 0), aN, aN, (.iconst 2, 0, 0, 2), (.goto 21, 96, 0, 0), aN, aN, (.iload 8, 0, 0, 0), aN, (.iconst 1, 0, 0, 1), (.if_icmp .ne 7, 88, 0, 0), aN, aN, (.iconst 1, 0, 0, 1), (.goto 11, 96, 0, 0), aN, aN, (.iload 8, 0, 0, 0), aN, (.iconst 1, 0, 0, 1), (.iadd, 0, 0, 0), (.goto 4, 96, 0, 0), aN, aN, (.iconst 0, 0, 0, 0), (.iadd, 0, 0, 0), (.istore 4, 0, 0, 0), aN, (.iload 5, 0, 0, 0), aN, (.iload 7, 0, 0, 0), aN, (.ifCond .eq 7, 110, 0, 0), aN, aN, (.iconst 1, 0, 0, 1), (.goto 4, 111, 0, 0), aN, aN, (.iconst 0, 0, 0, 0), (.iadd, 0, 0, 0), (.istore 5, 0, 0, 0), aN, (.iinc 6 1, 0, 0, 1), aN, aN, (.goto (-92), 25, 0, 0), aN, aN, (.aload_n 0, 0, 0, 0), (.iload_n 3, 0, 0, 0), (.iconst 3, 0, 0, 3), (.invokestatic 145, 147, 3, 1), aN, aN, (.istore 6, 0, 0, 0), aN, (.aload_n 0, 0, 0, 0), (.iload_n 3, 0, 0, 0), (.iconst 4, 0, 0, 4), (.invokestatic 145, 147, 3, 1), aN, aN, (.istore 7, 0, 0, 0), aN, (.iconst 0, 0, 0, 0), (.istore 8, 0, 0, 0), aN, (.iload 6, 0, 0, 0), aN, (.istore 9, 0, 0, 0), aN, (.iload 9, 0, 0, 0), aN, (.ifCond .lt 27, 172, 0, 0), aN, aN, (.iload 8, 0, 0, 0), aN, (.aload_n 0, 0, 0, 0), (.iload 9, 0, 0, 0), aN, (.iconst 5, 0, 0, 5), (.invokestatic 145, 147, 3, 1), aN, aN, (.iadd, 0, 0, 0), (.istore 8, 0, 0, 0), aN, (.aload_n 0, 0, 0, 0), (.iload 9, 0, 0, 0), aN, (.iconst 3, 0, 0, 3), (.invokestatic 145, 147, 3, 1), aN, aN, (.istore 9, 0, 0, 0), aN, (.goto (-26), 143, 0, 0), aN, aN, (.aload_n 0, 0, 0, 0), (.iload_n 3, 0, 0, 0), (.iconst 2, 0, 0, 2), (.invokestatic 145, 147, 3, 1), aN, aN, (.ifCond .ge 7, 185, 0, 0), aN, aN, (.iconst 1, 0, 0, 1), (.goto 4, 186, 0, 0), aN, aN, (.iconst 0, 0, 0, 0), (.istore 9, 0, 0, 0), aN, (.aload_n 0, 0, 0, 0), (.iload_n 3, 0, 0, 0), (.iconst 0, 0, 0, 0), (.invokestatic 145, 147, 3, 1), aN, aN, (.bipush 6, 0, 0, 6), aN, (.iload 4, 0, 0, 0), aN, (.isub, 0, 0, 0), (.if_icmp .ne 66, 265, 0, 0)]
def aB_L_stacks_1 : List aI := [aN, aN, (.iload 4, 0, 0, 0), aN, (.bipush 6, 0, 0, 6), aN, (.if_icmp .gt 59, 265, 0, 0), aN, aN, (.aload_n 0, 0, 0, 0), (.iload_n 3, 0, 0, 0), (.iconst 5, 0, 0, 5), (.invokestatic 145, 147, 3, 1), aN, aN, (.iconst 3, 0, 0, 3), (.iload 4, 0, 0, 0), aN, (.iadd, 0, 0, 0), (.if_icmp .ne 46, 265, 0, 0), aN, aN, (.aload_n 0, 0, 0, 0), (.iload_n 3, 0, 0, 0), (.bipush 6, 0, 0, 6), aN, (.invokestatic 145, 147, 3, 1), aN, aN, (.iload 5, 0, 0, 0), aN, (.if_icmp .ne 34, 265, 0, 0), aN, aN, (.aload_n 0, 0, 0, 0), (.iload_n 3, 0, 0, 0), (.invokevirtual 177, 107, 2, 0), aN, aN, (.iload 8, 0, 0, 0), aN, (.if_icmp .ne 24, 265, 0, 0), aN, aN, (.aload_n 0, 0, 0, 0), (.iload_n 3, 0, 0, 0), (.invokevirtual 180, 108, 2, 0), aN, aN, (.iload 8, 0, 0, 0), aN, (.if_icmp .ne 14, 265, 0, 0), aN, aN, (.iload 8, 0, 0, 0), aN, (.aload_n 0, 0, 0, 0), (.bipush 16, 0, 0, 16), aN, (.invokevirtual 172, 120, 2, 0), aN, aN, (.if_icmp .le 5, 267, 0, 0), aN, aN, (.iconst 0, 0, 0, 0), (.ireturn, 0, 0, 0), (.iload 9, 0, 0, 0), aN, (.ifCond .eq 26, 295, 0, 0), aN, aN, (.iload 6, 0, 0, 0), aN, (.ifCond .ge 80, 354, 0, 0), aN, aN, (.iload 7, 0, 0, 0), aN, (.ifCond .ge 75, 354, 0, 0), aN, aN, (.aload_n 0, 0, 0, 0), (.iload_n 3, 0, 0, 0), (.iconst 1, 0, 0, 1), (.invokestatic 145, 147, 3, 1), aN, aN, (.iconst (-1), 0, 0, (-1)), (.if_icmp .eq 67, 356, 0, 0), aN, aN, (.goto 62, 354, 0, 0), aN, aN, (.aload_n 0, 0, 0, 0), (.iload_n 3, 0, 0, 0), (.iconst 1, 0, 0, 1), (.invokestatic 145, 147, 3, 1), aN, aN, (.iload 7, 0, 0, 0), aN, (.ifCond .ge 7, 310, 0, 0), aN, aN, (.iconst 0, 0, 0, 0), (.goto 12, 319, 0, 0), aN, aN, (.aload_n 0, 0, 0, 0), (.iload 7, 0, 0, 0), aN, (.iconst 1, 0, 0, 1), (.invokestatic 145, 147, 3, 1), aN, aN, (.iconst 1, 0, 0, 1), (.iadd, 0, 0, 0), (.if_icmp .ne 35, 354, 0, 0), aN, aN, (.iload 7, 0, 0, 0), aN, (.ifCond .lt 32, 356, 0, 0), aN, aN, (.aload_n 0, 0, 0, 0), (.iload 7, 0, 0, 0), aN, (.iconst 3, 0, 0, 3), (.invokestatic 145, 147, 3, 1), aN, aN, (.iload_n 3, 0, 0, 0), (.if_icmp .ne 19, 354, 0, 0), aN, aN, (.aload_n 0, 0, 0, 0), (.iload 7, 0, 0, 0), aN, (.iconst 2, 0, 0, 2), (.invokestatic 145, 147, 3, 1), aN, aN, (.aload_n 0, 0, 0, 0), (.iload_n 3, 0, 0, 0), (.iconst 2, 0, 0, 2), (.invokestatic 145, 147, 3, 1), aN, aN, (.if_icmp .eq 5, 356, 0, 0), aN, aN, (.iconst 0, 0, 0, 0), (.ireturn, 0, 0, 0), (.iload_n 1, 0, 0, 0), (.iload 9, 0, 0, 0), aN, (.ifCond .eq 7, 366, 0, 0), aN, aN, (.iconst 0, 0, 0, 0), (.goto 4, 367, 0, 0), aN, aN, (.iconst 1, 0, 0, 1), (.iadd, 0, 0, 0), (.istore_n 1, 0, 0, 0), (.iload_n 2, 0, 0, 0), (.iload 8, 0, 0, 0), aN, (.iadd, 0, 0, 0), (.istore_n 2, 0, 0, 0), (.iinc 3 1, 0, 0, 1), aN, aN, (.goto (-371), 6, 0, 0), aN, aN, (.aload_n 0, 0, 0, 0), (.invokevirtual 183, 121, 1, 0), aN, aN, (.ifCond .eq 34, 418, 0, 0), aN, aN, (.aload_n 0, 0, 0, 0), (.bipush 8, 0, 0, 8), aN, (.invokevirtual 172, 120, 2, 0), aN, aN, (.iload_n 1, 0, 0, 0), (.if_icmp .ne 24, 418, 0, 0), aN, aN, (.iload_n 1, 0, 0, 0), (.ifCond .eq 16, 414, 0, 0), aN]
def aB_L_stacks_2 : List aI := [aN, (.aload_n 0, 0, 0, 0), (.invokevirtual 187, 123, 1, 0), aN, aN, (.iload_n 2, 0, 0, 0), (.i2f, 0, 0, 0), (.iload_n 1, 0, 0, 0), (.i2f, 0, 0, 0), (.fdiv, 0, 0, 0), (.fcmp .l, 0, 0, 0), (.ifCond .ne 7, 418, 0, 0), aN, aN, (.iconst 1, 0, 0, 1), (.goto 4, 419, 0, 0), aN, aN, (.iconst 0, 0, 0, 0), (.ireturn, 0, 0, 0)]
def aB_L_stacks : List aI := aB_L_stacks_0 ++ (aB_L_stacks_1 ++ (aB_L_stacks_2))
def aB_L_store : List aI := [(.aload_n 0, 0, 0, 0), (.iload_n 1, 0, 0, 0), (.iload_n 2, 0, 0, 0), (.iload_n 3, 0, 0, 0), (.invokevirtual 191, 111, 4, 0), aN, aN, (.ireturn, 0, 0, 0), (.astore 4, 0, 0, 0), aN, (.iconst (-1), 0, 0, (-1)), (.ireturn, 0, 0, 0)]
def aB_L_stores : List aI := [(.bipush 6, 0, 0, 6), aN, (.newarray .int, 0, 0, 0), aN, (.astore_n 1, 0, 0, 0), (.iconst 0, 0, 0, 0), (.istore_n 2, 0, 0, 0), (.iconst 0, 0, 0, 0), (.istore_n 3, 0, 0, 0), (.iconst 0, 0, 0, 0), (.istore 4, 0, 0, 0), aN, (.iload 4, 0, 0, 0), aN, (.aload_n 0, 0, 0, 0), (.iconst 0, 0, 0, 0), (.invokevirtual 172, 120, 2, 0), aN, aN, (.if_icmp .ge 230, 249, 0, 0), aN, aN, (.aload_n 0, 0, 0, 0), (.iload 4, 0, 0, 0), aN, (.iconst 2, 0, 0, 2), (.invokestatic 175, 146, 3, 1), aN, aN, (.istore 5, 0, 0, 0), aN, (.aload_n 0, 0, 0, 0), (.iload 4, 0, 0, 0), aN, (.bipush 6, 0, 0, 6), aN, (.invokestatic 175, 146, 3, 1), aN, aN, (.istore 6, 0, 0, 0), aN, (.aload_n 1, 0, 0, 0), (.iload 5, 0, 0, 0), aN, (.dup2, 0, 0, 0), (.iaload, 0, 0, 0), (.iconst 1, 0, 0, 1), (.iadd, 0, 0, 0), (.iastore, 0, 0, 0), (.iload_n 2, 0, 0, 0), (.iload 6, 0, 0, 0), aN, (.iconst 1, 0, 0, 1), (.if_icmp .ne 7, 60, 0, 0), aN, aN, (.iconst 1, 0, 0, 1), (.goto 4, 61, 0, 0), aN, aN, (.iconst 0, 0, 0, 0), (.iadd, 0, 0, 0), (.istore_n 2, 0, 0, 0), (.iload_n 3, 0, 0, 0), (.iload 6, 0, 0, 0), aN, (.ifCond .le 7, 73, 0, 0), aN, aN, (.iconst 1, 0, 0, 1), (.goto 4, 74, 0, 0), aN, aN, (.iconst 0, 0, 0, 0), (.iadd, 0, 0, 0), (.istore_n 3, 0, 0, 0), (.aload_n 0, 0, 0, 0), (.iload 4, 0, 0, 0), aN, (.invokevirtual 195, 110, 2, 0), aN, aN, (.ldc 198, 6, 90, 0), aN, (.iload 5, 0, 0, 0), aN, (.invokevirtual 89, 503, 2, 0), aN, aN, (.if_icmp .ne 152, 241, 0, 0), aN, aN, (.iload 6, 0, 0, 0), aN, (.ifCond .le 7, 101, 0, 0), aN, aN, (.iconst 1, 0, 0, 1), (.goto 4, 102, 0, 0), aN, aN, (.iconst 0, 0, 0, 0), (.iload 5, 0, 0, 0), aN, (.iconst 1, 0, 0, 1), (.if_icmp .le 7, 112, 0, 0), aN, aN, (.iconst 1, 0, 0, 1), (.goto 4, 113, 0, 0), aN, aN, (.iconst 0, 0, 0, 0), (.if_icmp .ne 128, 241, 0, 0), aN, aN, (.iload 5, 0, 0, 0), aN, (.iconst 5, 0, 0, 5), (.if_icmp .ne 7, 126, 0, 0), aN, aN, (.iconst 1, 0, 0, 1), (.goto 4, 127, 0, 0), aN, aN, (.iconst 0, 0, 0, 0), (.iload 6, 0, 0, 0), aN, (.iconst 3, 0, 0, 3), (.if_icmp .ne 13, 143, 0, 0), aN, aN, (.iload 5, 0, 0, 0), aN, (.iconst 2, 0, 0, 2), (.if_icmp .eq 7, 143, 0, 0), aN, aN, (.iconst 1, 0, 0, 1), (.goto 4, 144, 0, 0), aN, aN, (.iconst 0, 0, 0, 0), (.if_icmp .ne 97, 241, 0, 0), aN, aN, (.aload_n 0, 0, 0, 0), (.iload 4, 0, 0, 0), aN, (.iconst 5, 0, 0, 5), (.invokestatic 175, 146, 3, 1), aN, aN, (.ifCond .lt 7, 161, 0, 0), aN, aN, (.iconst 1, 0, 0, 1), (.goto 4, 162, 0, 0), aN, aN, (.iconst 0, 0, 0, 0), (.iload 5, 0, 0, 0), aN, (.iconst 1, 0, 0, 1), (.if_icmp .eq 9, 174, 0, 0), aN, aN, (.iload 5, 0, 0, 0), aN, (.iconst 2, 0, 0, 2), (.if_icmp .ne 7, 178, 0, 0), aN, aN, (.iconst 1, 0, 0, 1), (.goto 4, 179, 0, 0), aN, aN, (.iconst 0, 0, 0, 0), (.if_icmp .ne 62, 241, 0, 0), aN, aN, (.aload_n 0, 0, 0, 0), (.iload 4, 0, 0, 0), aN, (.iconst 3, 0, 0, 3), (.invokestatic 175, 146, 3, 1), aN, aN, (.ifCond .ge 7, 196, 0, 0), aN, aN, (.iconst 1, 0, 0, 1), (.goto 4, 197, 0, 0), aN, aN, (.iconst 0, 0, 0, 0), (.aload_n 0, 0, 0, 0), (.iload 4, 0, 0, 0), aN, (.iconst 4, 0, 0, 4), (.invokestatic 175, 146, 3, 1), aN, aN, (.ifCond .ne 7, 211, 0, 0), aN, aN, (.iconst 1, 0, 0, 1), (.goto 4, 212, 0, 0), aN, aN, (.iconst 0, 0, 0, 0), (.if_icmp .ne 29, 241, 0, 0), aN, aN, (.aload_n 0, 0, 0, 0), (.iload 4, 0, 0, 0), aN, (.bipush 7, 0, 0, 7), aN, (.invokestatic 175, 146, 3, 1), aN, aN, (.sipush 1310, 0, 0, 1310), aN, aN, (.iconst 3, 0, 0, 3), (.aload_n 0, 0, 0, 0), (.iload 4, 0, 0, 0), aN, (.iconst 1, 0, 0, 1), (.invokestatic 175, 146, 3, 1), aN, aN, (.iconst 2, 0, 0, 2), (.idiv, 0, 0, 0), (.imul, 0, 0, 0), (.isub, 0, 0, 0), (.if_icmp .eq 5, 243, 0, 0), aN, aN, (.iconst 0, 0, 0, 0), (.ireturn, 0, 0, 0), (.iinc 4 1, 0, 0, 1), aN, aN, (.goto (-234), 12, 0, 0), aN, aN, (.iconst 0, 0, 0, 0), (.istore 4, 0, 0, 0), aN, (.iconst 0, 0, 0, 0), (.istore 5, 0, 0, 0), aN, (.iload 5, 0, 0, 0), aN, (.iconst 4, 0, 0, 4), (.if_icmp .ge 48, 306, 0, 0), aN, aN, (.iconst (-1), 0, 0, (-1)), (.istore 6, 0, 0, 0), aN, (.iload 6, 0, 0, 0), aN, (.iconst 4, 0, 0, 4), (.if_icmp .ge 33, 300, 0, 0), aN, aN, (.iload 4, 0, 0, 0), aN, (.aload_n 0, 0, 0, 0), (.iload 5, 0, 0, 0), aN, (.iload 6, 0, 0, 0), aN, (.iconst 1, 0, 0, 1), (.invokestatic 200, 158, 4, 1), aN, aN, (.aload_n 0, 0, 0, 0), (.iload 5, 0, 0, 0), aN, (.iload 6, 0, 0, 0), aN, (.iconst 0, 0, 0, 0), (.invokestatic 200, 158, 4, 1), aN, aN, (.iadd, 0, 0, 0), (.iadd, 0, 0, 0), (.istore 4, 0, 0, 0), aN, (.iinc 6 1, 0, 0, 1), aN, aN, (.goto (-33), 264, 0, 0), aN, aN, (.iinc 5 1, 0, 0, 1), aN, aN, (.goto (-48), 255, 0, 0), aN, aN, (.iconst 0, 0, 0, 0), (.istore 5, 0, 0, 0), aN, (.iload 5, 0, 0, 0), aN, (.bipush 6, 0, 0, 6), aN, (.if_icmp .ge 26, 339, 0, 0), aN, aN, (.aload_n 0, 0, 0, 0), (.iconst 1, 0, 0, 1), (.iload 5, 0, 0, 0), aN, (.iadd, 0, 0, 0), (.invokevirtual 172, 120, 2, 0), aN, aN, (.aload_n 1, 0, 0, 0), (.iload 5, 0, 0, 0), aN, (.iaload, 0, 0, 0), (.if_icmp .eq 5, 333, 0, 0), aN, aN, (.iconst 0, 0, 0, 0), (.ireturn, 0, 0, 0), (.iinc 5 1, 0, 0, 1), aN, aN, (.goto (-27), 309, 0, 0), aN, aN, (.iload 4, 0, 0, 0), aN, (.aload_n 1, 0, 0, 0), (.iconst 3, 0, 0, 3), (.iaload, 0, 0, 0), (.if_icmp .ne 24, 368, 0, 0), aN, aN, (.iload_n 3, 0, 0, 0), (.ifCond .eq 16, 364, 0, 0), aN, aN, (.aload_n 0, 0, 0, 0), (.invokevirtual 203, 122, 1, 0), aN, aN, (.iload_n 2, 0, 0, 0), (.i2d, 0, 0, 0), (.iload_n 3, 0, 0, 0), (.i2d, 0, 0, 0), (.ddiv, 0, 0, 0), (.dcmp .l, 0, 0, 0), (.ifCond .ne 7, 368, 0, 0), aN, aN, (.iconst 1, 0, 0, 1), (.goto 4, 369, 0, 0), aN, aN, (.iconst 0, 0, 0, 0), (.ireturn, 0, 0, 0)]
def aB_L_sets : List aI := [(.iload_n 2, 0, 0, 0), (.ifCond .eq 11, 12, 0, 0), aN, aN, (.aload_n 0, 0, 0, 0), (.iload_n 1, 0, 0, 0), (.invokevirtual 207, 116, 2, 0), aN, aN, (.goto 8, 17, 0, 0), aN, aN, (.aload_n 0, 0, 0, 0), (.iload_n 1, 0, 0, 0), (.invokevirtual 210, 115, 2, 0), aN, aN, (.ireturn, 0, 0, 0), (.astore_n 3, 0, 0, 0), (.iconst (-1), 0, 0, (-1)), (.ireturn, 0, 0, 0)]
def aB_L_sells : List aI := [(.iconst 0, 0, 0, 0), (.istore_n 1, 0, 0, 0), (.iload_n 1, 0, 0, 0), (.iconst 2, 0, 0, 2), (.if_icmp .ge 226, 230, 0, 0), aN, aN, (.aload_n 0, 0, 0, 0), (.iload_n 1, 0, 0, 0), (.iconst 0, 0, 0, 0), (.invokestatic 213, 160, 3, 1), aN, aN, (.istore_n 2, 0, 0, 0), (.iload_n 2, 0, 0, 0), (.aload_n 0, 0, 0, 0), (.iload_n 1, 0, 0, 0), (.iconst 1, 0, 0, 1), (.invokestatic 213, 160, 3, 1), aN, aN, (.if_icmp .ne 7, 28, 0, 0), aN, aN, (.iload_n 2, 0, 0, 0), (.ifCond .ge 5, 30, 0, 0), aN, aN, (.iconst 0, 0, 0, 0), (.ireturn, 0, 0, 0), (.iconst 0, 0, 0, 0), (.istore_n 3, 0, 0, 0), (.aload_n 0, 0, 0, 0), (.iconst 5, 0, 0, 5), (.invokevirtual 172, 120, 2, 0), aN, aN, (.istore 4, 0, 0, 0), aN, (.iconst 0, 0, 0, 0), (.istore 5, 0, 0, 0), aN, (.iconst 0, 0, 0, 0), (.istore 6, 0, 0, 0), aN, (.iload 6, 0, 0, 0), aN, (.iconst 4, 0, 0, 4), (.if_icmp .ge 21, 69, 0, 0), aN, aN, (.iload 5, 0, 0, 0), aN, (.aload_n 0, 0, 0, 0), (.iload_n 1, 0, 0, 0), (.iload 6, 0, 0, 0), aN, (.invokevirtual 215, 109, 3, 0), aN, aN, (.iadd, 0, 0, 0), (.istore 5, 0, 0, 0), aN, (.iinc 6 1, 0, 0, 1), aN, aN, (.goto (-21), 45, 0, 0), aN, aN, (.iload_n 3, 0, 0, 0), (.iload_n 2, 0, 0, 0), (.if_icmp .ge 35, 106, 0, 0), aN, aN, (.iload_n 3, 0, 0, 0), (.bipush 6, 0, 0, 6), aN, (.if_icmp .ge 29, 106, 0, 0), aN, aN, (.iinc 3 1, 0, 0, 1), aN, aN, (.aload_n 0, 0, 0, 0), (.iload_n 1, 0, 0, 0), (.invokestatic 218, 145, 2, 1), aN, aN, (.iload_n 3, 0, 0, 0), (.if_icmp .ne 15, 104, 0, 0), aN, aN, (.aload_n 0, 0, 0, 0), (.iload_n 1, 0, 0, 0), (.iconst 1, 0, 0, 1), (.invokestatic 213, 160, 3, 1), aN, aN, (.iload_n 2, 0, 0, 0), (.iload_n 3, 0, 0, 0), (.isub, 0, 0, 0), (.if_icmp .eq (-32), 69, 0, 0), aN, aN, (.iconst 0, 0, 0, 0), (.ireturn, 0, 0, 0), (.iload_n 3, 0, 0, 0), (.iload_n 2, 0, 0, 0), (.if_icmp .ne 56, 164, 0, 0), aN, aN, (.aload_n 0, 0, 0, 0), (.iload_n 1, 0, 0, 0), (.invokestatic 218, 145, 2, 1), aN, aN, (.bipush (-2), 0, 0, (-2)), aN, (.if_icmp .ne 68, 186, 0, 0), aN, aN, (.aload_n 0, 0, 0, 0), (.iconst 0, 0, 0, 0), (.iconst 0, 0, 0, 0), (.invokestatic 126, 154, 3, 1), aN, aN, (.bipush 10, 0, 0, 10), aN, (.if_icmp .ne 57, 186, 0, 0), aN, aN, (.aload_n 0, 0, 0, 0), (.iconst 0, 0, 0, 0), (.iconst 1, 0, 0, 1), (.invokestatic 126, 154, 3, 1), aN, aN, (.iload_n 1, 0, 0, 0), (.if_icmp .ne 47, 186, 0, 0), aN, aN, (.aload_n 0, 0, 0, 0), (.iconst 1, 0, 0, 1), (.iconst 0, 0, 0, 0), (.invokestatic 126, 154, 3, 1), aN, aN, (.bipush 12, 0, 0, 12), aN, (.if_icmp .ne 36, 186, 0, 0), aN, aN, (.aload_n 0, 0, 0, 0), (.iconst 2, 0, 0, 2), (.iconst 0, 0, 0, 0), (.invokestatic 126, 154, 3, 1), aN, aN, (.bipush (-2), 0, 0, (-2)), aN, (.if_icmp .ne 25, 186, 0, 0), aN, aN, (.aload_n 0, 0, 0, 0), (.iconst 5, 0, 0, 5), (.invokevirtual 172, 120, 2, 0), aN, aN, (.iload 4, 0, 0, 0), aN, (.iload 5, 0, 0, 0), aN, (.iload_n 3, 0, 0, 0), (.imul, 0, 0, 0), (.iadd, 0, 0, 0), (.if_icmp .ne 10, 186, 0, 0), aN, aN, (.aload_n 0, 0, 0, 0), (.invokevirtual 183, 121, 1, 0), aN, aN, (.ifCond .ne 5, 188, 0, 0), aN, aN, (.iconst 0, 0, 0, 0), (.ireturn, 0, 0, 0), (.iconst 0, 0, 0, 0), (.istore 6, 0, 0, 0), aN, (.iload 6, 0, 0, 0), aN, (.iload_n 3, 0, 0, 0), (.if_icmp .ge 18, 212, 0, 0), aN, aN, (.aload_n 0, 0, 0, 0), (.invokestatic 220, 155, 1, 1), aN, aN, (.ifCond .ge 5, 206, 0, 0), aN, aN, (.iconst 0, 0, 0, 0), (.ireturn, 0, 0, 0), (.iinc 6 1, 0, 0, 1), aN, aN, (.goto (-18), 191, 0, 0), aN, aN, (.aload_n 0, 0, 0, 0), (.iconst 5, 0, 0, 5), (.invokevirtual 172, 120, 2, 0), aN, aN, (.iload 4, 0, 0, 0), aN, (.if_icmp .eq 5, 224, 0, 0), aN, aN, (.iconst 0, 0, 0, 0), (.ireturn, 0, 0, 0), (.iinc 1 1, 0, 0, 1), aN, aN, (.goto (-225), 2, 0, 0), aN, aN, (.iconst 1, 0, 0, 1), (.ireturn, 0, 0, 0)]
def aB_L_fires : List aI := [(.iconst 0, 0, 0, 0), (.istore_n 2, 0, 0, 0), (.iload_n 2, 0, 0, 0), (.iconst 4, 0, 0, 4), (.if_icmp .ge 337, 341, 0, 0), aN, aN, (.aload_n 0, 0, 0, 0), (.bipush 34, 0, 0, 34), aN, (.iload_n 2, 0, 0, 0), (.iadd, 0, 0, 0), (.invokestatic 113, 133, 2, 0), aN, aN, (.iconst 1, 0, 0, 1), (.iushr, 0, 0, 0), (.istore_n 3, 0, 0, 0), (.iload_n 2, 0, 0, 0), (.ifCond .ne 11, 30, 0, 0), aN, aN, (.aload_n 1, 0, 0, 0), (.iconst 0, 0, 0, 0), (.invokestatic 132, 150, 2, 1), aN, aN, (.goto 12, 39, 0, 0), aN, aN, (.sipush 1000, 0, 0, 1000), aN, aN, (.iload_n 3, 0, 0, 0), (.sipush 401, 0, 0, 401), aN, aN, (.irem, 0, 0, 0), (.iadd, 0, 0, 0), (.istore 4, 0, 0, 0), aN, (.aload_n 1, 0, 0, 0), (.iconst 1, 0, 0, 1), (.invokestatic 132, 150, 2, 1), aN, aN, (.istore 5, 0, 0, 0), aN, (.aload_n 1, 0, 0, 0), (.iconst 0, 0, 0, 0), (.invokevirtual 172, 120, 2, 0), aN, aN, (.istore 6, 0, 0, 0), aN, (.iload 6, 0, 0, 0), aN, (.newarray .int, 0, 0, 0), aN, (.astore 7, 0, 0, 0), aN, (.iconst 0, 0, 0, 0), (.istore 8, 0, 0, 0), aN, (.iconst 0, 0, 0, 0), (.istore 9, 0, 0, 0), aN, (.iconst 0, 0, 0, 0), (.istore 10, 0, 0, 0), aN, (.iload 10, 0, 0, 0), aN, (.iload 6, 0, 0, 0), aN, (.if_icmp .ge 116, 190, 0, 0), aN, aN, (.aload_n 1, 0, 0, 0), (.iload 10, 0, 0, 0), aN, (.iconst 2, 0, 0, 2), (.invokestatic 175, 146, 3, 1), aN, aN, (.iconst 1, 0, 0, 1), (.if_icmp .ne 25, 110, 0, 0), aN, aN, (.aload_n 1, 0, 0, 0), (.aload_n 1, 0, 0, 0), (.iload 10, 0, 0, 0), aN, (.iconst 5, 0, 0, 5), (.invokestatic 175, 146, 3, 1), aN, aN, (.sipush 1000, 0, 0, 1000), aN, aN, (.iload 4, 0, 0, 0), aN, (.invokestatic 136, 500, 2, 0), aN, aN, (.invokestatic 222, 148, 3, 1), aN, aN, (.goto 5, 112, 0, 0), aN, aN, (.bipush (-3), 0, 0, (-3)), aN, (.istore 11, 0, 0, 0), aN, (.aload 7, 0, 0, 0), aN, (.iload 10, 0, 0, 0), aN, (.iload 11, 0, 0, 0), aN, (.ifCond .lt 14, 134, 0, 0), aN, aN, (.aload_n 1, 0, 0, 0), (.iload 10, 0, 0, 0), aN, (.iload 11, 0, 0, 0), aN, (.invokestatic 224, 149, 3, 1), aN, aN, (.goto 11, 142, 0, 0), aN, aN, (.aload_n 1, 0, 0, 0), (.iload 10, 0, 0, 0), aN, (.bipush 6, 0, 0, 6), aN, (.invokestatic 175, 146, 3, 1), aN, aN, (.iastore, 0, 0, 0), (.iload 8, 0, 0, 0), aN, (.iload 11, 0, 0, 0), aN, (.ifCond .lt 16, 163, 0, 0), aN, aN, (.aload 7, 0, 0, 0), aN, (.iload 10, 0, 0, 0), aN, (.iaload, 0, 0, 0), (.iconst 1, 0, 0, 1), (.if_icmp .ne 7, 163, 0, 0), aN, aN, (.iconst 1, 0, 0, 1), (.goto 4, 164, 0, 0), aN, aN, (.iconst 0, 0, 0, 0), (.iadd, 0, 0, 0), (.istore 8, 0, 0, 0), aN, (.iload 9, 0, 0, 0), aN, (.ifCond .ne 8, 177, 0, 0), aN, aN, (.iload 11, 0, 0, 0), aN, (.ifCond .lt 7, 181, 0, 0), aN, aN, (.iconst 1, 0, 0, 1), (.goto 4, 182, 0, 0), aN, aN, (.iconst 0, 0, 0, 0), (.istore 9, 0, 0, 0), aN, (.iinc 10 1, 0, 0, 1), aN, aN, (.goto (-117), 70, 0, 0), aN, aN, (.iload 9, 0, 0, 0), aN, (.iload 5, 0, 0, 0), aN, (.ifCond .lt 7, 201, 0, 0), aN, aN, (.iconst 1, 0, 0, 1), (.goto 4, 202, 0, 0), aN, aN, (.iconst 0, 0, 0, 0), (.if_icmp .eq 5, 207, 0, 0), aN, aN, (.iconst 0, 0, 0, 0), (.ireturn, 0, 0, 0), (.aload_n 1, 0, 0, 0), (.sipush 1000, 0, 0, 1000), aN, aN, (.iload 4, 0, 0, 0), aN, (.invokestatic 136, 500, 2, 0), aN, aN, (.invokestatic 141, 142, 2, 1), aN, aN, (.istore 10, 0, 0, 0), aN, (.iload 9, 0, 0, 0), aN, (.ifCond .ne 27, 250, 0, 0), aN, aN, (.iload 10, 0, 0, 0), aN, (.bipush (-2), 0, 0, (-2)), aN, (.if_icmp .ne 18, 248, 0, 0), aN, aN, (.aload_n 1, 0, 0, 0), (.iconst 0, 0, 0, 0), (.iconst 0, 0, 0, 0), (.invokestatic 126, 154, 3, 1), aN, aN, (.bipush 9, 0, 0, 9), aN, (.if_icmp .ne 7, 248, 0, 0), aN, aN, (.iconst 1, 0, 0, 1), (.goto 4, 249, 0, 0), aN, aN, (.iconst 0, 0, 0, 0), (.ireturn, 0, 0, 0), (.iload 10, 0, 0, 0), aN, (.iload 8, 0, 0, 0), aN, (.if_icmp .ne 29, 283, 0, 0), aN, aN, (.iload_n 2, 0, 0, 0), (.ifCond .ne 10, 268, 0, 0), aN, aN, (.iload 8, 0, 0, 0), aN, (.iload 5, 0, 0, 0), aN, (.if_icmp .ne 18, 283, 0, 0), aN, aN, (.iload 4, 0, 0, 0), aN, (.bipush 10, 0, 0, 10), aN, (.irem, 0, 0, 0), (.ifCond .ne 12, 285, 0, 0), aN, aN, (.iload 8, 0, 0, 0), aN, (.iload 5, 0, 0, 0), aN, (.if_icmp .le 5, 285, 0, 0), aN, aN, (.iconst 0, 0, 0, 0), (.ireturn, 0, 0, 0), (.iconst 0, 0, 0, 0), (.istore 11, 0, 0, 0), aN, (.iload 11, 0, 0, 0), aN, (.iload 6, 0, 0, 0), aN, (.if_icmp .ge 27, 319, 0, 0), aN, aN, (.aload_n 1, 0, 0, 0), (.iload 11, 0, 0, 0), aN, (.bipush 6, 0, 0, 6), aN, (.invokestatic 175, 146, 3, 1), aN, aN, (.aload 7, 0, 0, 0), aN, (.iload 11, 0, 0, 0), aN, (.iaload, 0, 0, 0), (.if_icmp .eq 5, 313, 0, 0), aN, aN, (.iconst 0, 0, 0, 0), (.ireturn, 0, 0, 0), (.iinc 11 1, 0, 0, 1), aN, aN, (.goto (-28), 288, 0, 0), aN, aN, (.aload_n 1, 0, 0, 0), (.invokestatic 159, 159, 1, 0), aN, aN, (.ifCond .eq 10, 333, 0, 0), aN, aN, (.aload_n 1, 0, 0, 0), (.invokestatic 220, 155, 1, 1), aN, aN, (.ifCond .ge 5, 335, 0, 0), aN, aN, (.iconst 0, 0, 0, 0), (.ireturn, 0, 0, 0), (.iinc 2 1, 0, 0, 1), aN, aN, (.goto (-336), 2, 0, 0), aN, aN, (.iconst 1, 0, 0, 1), (.ireturn, 0, 0, 0)]
def aB_L_sum : List aI := [(.ldc2_w 226, 0, 0, 7), aN, aN, (.lstore_n 1, 0, 0, 0), (.iconst 0, 0, 0, 0), (.istore_n 3, 0, 0, 0), (.iload_n 3, 0, 0, 0), (.bipush 17, 0, 0, 17), aN, (.if_icmp .ge 22, 31, 0, 0), aN, aN, (.ldc2_w 228, 0, 0, 31), aN, aN, (.lload_n 1, 0, 0, 0), (.lmul, 0, 0, 0), (.aload_n 0, 0, 0, 0), (.iload_n 3, 0, 0, 0), (.invokevirtual 172, 120, 2, 0), aN, aN, (.i2l, 0, 0, 0), (.ladd, 0, 0, 0), (.lstore_n 1, 0, 0, 0), (.iinc 3 1, 0, 0, 1), aN, aN, (.goto (-22), 6, 0, 0), aN, aN, (.iconst 0, 0, 0, 0), (.istore_n 3, 0, 0, 0), (.iload_n 3, 0, 0, 0), (.aload_n 0, 0, 0, 0), (.iconst 0, 0, 0, 0), (.invokevirtual 172, 120, 2, 0), aN, aN, (.if_icmp .ge 40, 79, 0, 0), aN, aN, (.iconst 0, 0, 0, 0), (.istore 4, 0, 0, 0), aN, (.iload 4, 0, 0, 0), aN, (.bipush 8, 0, 0, 8), aN, (.if_icmp .ge 24, 73, 0, 0), aN, aN, (.ldc2_w 230, 0, 0, 37), aN, aN, (.lload_n 1, 0, 0, 0), (.lmul, 0, 0, 0), (.aload_n 0, 0, 0, 0), (.iload_n 3, 0, 0, 0), (.iload 4, 0, 0, 0), aN, (.invokestatic 175, 146, 3, 1), aN, aN, (.i2l, 0, 0, 0), (.ladd, 0, 0, 0), (.lstore_n 1, 0, 0, 0), (.iinc 4 1, 0, 0, 1), aN, aN, (.goto (-25), 45, 0, 0), aN, aN, (.iinc 3 1, 0, 0, 1), aN, aN, (.goto (-43), 33, 0, 0), aN, aN, (.iconst 0, 0, 0, 0), (.istore_n 3, 0, 0, 0), (.iload_n 3, 0, 0, 0), (.aload_n 0, 0, 0, 0), (.bipush 7, 0, 0, 7), aN, (.invokevirtual 172, 120, 2, 0), aN, aN, (.if_icmp .ge 40, 128, 0, 0), aN, aN, (.iconst 0, 0, 0, 0), (.istore 4, 0, 0, 0), aN, (.iload 4, 0, 0, 0), aN, (.bipush 7, 0, 0, 7), aN, (.if_icmp .ge 24, 122, 0, 0), aN, aN, (.ldc2_w 232, 0, 0, 41), aN, aN, (.lload_n 1, 0, 0, 0), (.lmul, 0, 0, 0), (.aload_n 0, 0, 0, 0), (.iload_n 3, 0, 0, 0), (.iload 4, 0, 0, 0), aN, (.invokestatic 145, 147, 3, 1), aN, aN, (.i2l, 0, 0, 0), (.ladd, 0, 0, 0), (.lstore_n 1, 0, 0, 0), (.iinc 4 1, 0, 0, 1), aN, aN, (.goto (-25), 94, 0, 0), aN, aN, (.iinc 3 1, 0, 0, 1), aN, aN, (.goto (-44), 81, 0, 0), aN, aN, (.iconst 0, 0, 0, 0), (.istore_n 3, 0, 0, 0), (.iload_n 3, 0, 0, 0), (.aload_n 0, 0, 0, 0), (.bipush 9, 0, 0, 9), aN, (.invokevirtual 172, 120, 2, 0), aN, aN, (.if_icmp .ge 40, 177, 0, 0), aN, aN, (.iconst 0, 0, 0, 0), (.istore 4, 0, 0, 0), aN, (.iload 4, 0, 0, 0), aN, (.bipush 7, 0, 0, 7), aN, (.if_icmp .ge 24, 171, 0, 0), aN, aN, (.ldc2_w 234, 0, 0, 43), aN, aN, (.lload_n 1, 0, 0, 0), (.lmul, 0, 0, 0), (.aload_n 0, 0, 0, 0), (.iload_n 3, 0, 0, 0), (.iload 4, 0, 0, 0), aN, (.invokevirtual 215, 109, 3, 0), aN, aN, (.i2l, 0, 0, 0), (.ladd, 0, 0, 0), (.lstore_n 1, 0, 0, 0), (.iinc 4 1, 0, 0, 1), aN, aN, (.goto (-25), 143, 0, 0), aN, aN, (.iinc 3 1, 0, 0, 1), aN, aN, (.goto (-44), 130, 0, 0), aN, aN, (.lload_n 1, 0, 0, 0), (.lreturn, 0, 0, 0)]
def aB_L_undone_0 : List aI := [(.bipush 9, 0, 0, 9), aN, (.newarray .long, 0, 0, 0), aN, (.astore_n 2, 0, 0, 0), (.iconst 0, 0, 0, 0), (.istore_n 3, 0, 0, 0), (.iconst 0, 0, 0, 0), (.istore 4, 0, 0, 0), aN, (.iload 4, 0, 0, 0), aN, (.bipush 7, 0, 0, 7), aN, (.if_icmp .ge 491, 505, 0, 0), aN, aN, (.aload_n 0, 0, 0, 0), (.bipush 38, 0, 0, 38), aN, (.iload 4, 0, 0, 0), aN, (.iadd, 0, 0, 0), (.invokestatic 113, 133, 2, 0), aN, aN, (.iconst 1, 0, 0, 1), (.iushr, 0, 0, 0), (.istore 5, 0, 0, 0), aN, (.aload_n 2, 0, 0, 0), (.iload_n 3, 0, 0, 0), (.aload_n 1, 0, 0, 0), (.invokestatic 236, 163, 1, 0), aN, aN, (.lastore, 0, 0, 0), (.iload 5, 0, 0, 0), aN, (.bipush 13, 0, 0, 13), aN, (.irem, 0, 0, 0), (.tableswitch 332 0 11 #[62, 85, 101, 135, 166, 175, 208, 224, 248, 269, 285, 317], 374, 0, 0), aN, aN, aN, aN, aN, aN, aN, aN, aN, aN, aN, aN, aN, aN, aN, aN, aN, aN, aN, aN, aN, aN, aN, aN, aN, aN, aN, aN, aN, aN, aN, aN, aN, aN, aN, aN, aN, aN, aN, aN, aN, aN, aN, aN, aN, aN, aN, aN, aN, aN, aN, aN, aN, aN, aN, aN, aN, aN, aN, aN, aN, (.aload_n 1, 0, 0, 0), (.iload 5, 0, 0, 0), aN, (.iconst 4, 0, 0, 4), (.iushr, 0, 0, 0), (.iconst 4, 0, 0, 4), (.irem, 0, 0, 0), (.iload 5, 0, 0, 0), aN, (.bipush 6, 0, 0, 6), aN, (.iushr, 0, 0, 0), (.bipush 45, 0, 0, 45), aN, (.irem, 0, 0, 0), (.invokestatic 240, 134, 3, 1), aN, aN, (.istore 6, 0, 0, 0), aN, (.goto 344, 468, 0, 0), aN, aN, (.aload_n 1, 0, 0, 0), (.iload 5, 0, 0, 0), aN, (.iconst 4, 0, 0, 4), (.iushr, 0, 0, 0), (.bipush 101, 0, 0, 101), aN, (.irem, 0, 0, 0), (.invokestatic 110, 135, 2, 1), aN, aN, (.istore 6, 0, 0, 0), aN, (.goto 328, 468, 0, 0), aN, aN, (.aload_n 1, 0, 0, 0), (.iload 5, 0, 0, 0), aN, (.iconst 4, 0, 0, 4), (.iushr, 0, 0, 0), (.iconst 5, 0, 0, 5), (.irem, 0, 0, 0), (.iload 5, 0, 0, 0), aN, (.bipush 7, 0, 0, 7), aN, (.iushr, 0, 0, 0), (.bipush 7, 0, 0, 7), aN, (.irem, 0, 0, 0), (.bipush 30, 0, 0, 30), aN, (.iload 5, 0, 0, 0), aN, (.bipush 10, 0, 0, 10), aN, (.iushr, 0, 0, 0), (.bipush 33, 0, 0, 33), aN, (.irem, 0, 0, 0), (.iadd, 0, 0, 0), (.invokestatic 117, 136, 4, 1), aN, aN, (.istore 6, 0, 0, 0), aN, (.goto 294, 468, 0, 0), aN, aN, (.aload_n 1, 0, 0, 0), (.iload 5, 0, 0, 0), aN, (.iconst 4, 0, 0, 4), (.iushr, 0, 0, 0), (.bipush 20, 0, 0, 20), aN, (.irem, 0, 0, 0), (.iload 5, 0, 0, 0), aN, (.bipush 9, 0, 0, 9), aN, (.iushr, 0, 0, 0), (.iconst 5, 0, 0, 5), (.irem, 0, 0, 0), (.iload 5, 0, 0, 0), aN, (.bipush 12, 0, 0, 12), aN, (.iushr, 0, 0, 0), (.bipush 11, 0, 0, 11), aN, (.irem, 0, 0, 0)]
def aB_L_undone_1 : List aI := [(.invokestatic 120, 137, 4, 1), aN, aN, (.istore 6, 0, 0, 0), aN, (.goto 263, 468, 0, 0), aN, aN, (.aload_n 1, 0, 0, 0), (.invokestatic 122, 138, 1, 1), aN, aN, (.istore 6, 0, 0, 0), aN, (.goto 254, 468, 0, 0), aN, aN, (.aload_n 1, 0, 0, 0), (.iload 5, 0, 0, 0), aN, (.iconst 4, 0, 0, 4), (.iushr, 0, 0, 0), (.bipush 8, 0, 0, 8), aN, (.irem, 0, 0, 0), (.iload 5, 0, 0, 0), aN, (.bipush 7, 0, 0, 7), aN, (.iushr, 0, 0, 0), (.bipush 8, 0, 0, 8), aN, (.irem, 0, 0, 0), (.iconst 1, 0, 0, 1), (.isub, 0, 0, 0), (.iload 5, 0, 0, 0), aN, (.bipush 10, 0, 0, 10), aN, (.iushr, 0, 0, 0), (.iconst 5, 0, 0, 5), (.irem, 0, 0, 0), (.invokestatic 124, 139, 4, 1), aN, aN, (.istore 6, 0, 0, 0), aN, (.goto 221, 468, 0, 0), aN, aN, (.aload_n 1, 0, 0, 0), (.iload 5, 0, 0, 0), aN, (.iconst 4, 0, 0, 4), (.iushr, 0, 0, 0), (.bipush 8, 0, 0, 8), aN, (.irem, 0, 0, 0), (.invokestatic 242, 140, 2, 1), aN, aN, (.istore 6, 0, 0, 0), aN, (.goto 205, 468, 0, 0), aN, aN, (.aload_n 1, 0, 0, 0), (.iload 5, 0, 0, 0), aN, (.iconst 4, 0, 0, 4), (.iushr, 0, 0, 0), (.bipush 21, 0, 0, 21), aN, (.irem, 0, 0, 0), (.iload 5, 0, 0, 0), aN, (.bipush 9, 0, 0, 9), aN, (.iushr, 0, 0, 0), (.bipush 7, 0, 0, 7), aN, (.irem, 0, 0, 0), (.invokestatic 129, 141, 3, 1), aN, aN, (.istore 6, 0, 0, 0), aN, (.goto 181, 468, 0, 0), aN, aN, (.aload_n 1, 0, 0, 0), (.sipush 990, 0, 0, 990), aN, aN, (.iload 5, 0, 0, 0), aN, (.iconst 4, 0, 0, 4), (.iushr, 0, 0, 0), (.sipush 420, 0, 0, 420), aN, aN, (.irem, 0, 0, 0), (.iadd, 0, 0, 0), (.invokestatic 141, 142, 2, 1), aN, aN, (.istore 6, 0, 0, 0), aN, (.goto 160, 468, 0, 0), aN, aN, (.aload_n 1, 0, 0, 0), (.iload 5, 0, 0, 0), aN, (.iconst 4, 0, 0, 4), (.iushr, 0, 0, 0), (.bipush 7, 0, 0, 7), aN, (.irem, 0, 0, 0), (.invokestatic 143, 143, 2, 1), aN, aN, (.istore 6, 0, 0, 0), aN, (.goto 144, 468, 0, 0), aN, aN, (.aload_n 1, 0, 0, 0), (.iload 5, 0, 0, 0), aN, (.iconst 4, 0, 0, 4), (.iushr, 0, 0, 0), (.iconst 3, 0, 0, 3), (.irem, 0, 0, 0), (.iload 5, 0, 0, 0), aN, (.bipush 6, 0, 0, 6), aN, (.iushr, 0, 0, 0), (.iconst 2, 0, 0, 2), (.irem, 0, 0, 0), (.iconst 0, 0, 0, 0), (.iconst 0, 0, 0, 0), (.iload 5, 0, 0, 0), aN, (.bipush 8, 0, 0, 8), aN, (.iushr, 0, 0, 0), (.iconst 5, 0, 0, 5), (.irem, 0, 0, 0), (.iconst 1, 0, 0, 1), (.invokestatic 148, 144, 7, 1), aN, aN, (.istore 6, 0, 0, 0), aN, (.goto 112, 468, 0, 0), aN, aN, (.aload_n 1, 0, 0, 0), (.iload 5, 0, 0, 0), aN, (.iconst 4, 0, 0, 4), (.iushr, 0, 0, 0), (.iconst 4, 0, 0, 4), (.irem, 0, 0, 0), (.invokestatic 218, 145, 2, 1), aN, aN, (.istore 6, 0, 0, 0), aN, (.goto 97, 468, 0, 0), aN, aN, (.aload_n 1, 0, 0, 0), (.new 244, 999, 0, 0), aN, aN, aN, aN, aN, aN, aN, aN, aN, aN, aN, aN, aN, aN, aN, aN, aN, aN, aN, aN, aN, aN, aN, aN]
def aB_L_undone_2 : List aI := [aN, aN, aN, aN, aN, aN, aN, aN, aN, aN, aN, aN, aN, aN, aN, aN, aN, aN, aN, aN, aN, aN, aN, aN, aN, aN, aN, aN, aN, aN, aN, aN, aN, aN, aN, aN, aN, aN, aN, aN, aN, aN, aN, aN, aN, aN, aN, aN, aN, aN, aN, aN, aN, aN, aN, aN, aN, aN, aN, aN, aN, aN, aN, aN, aN, aN, (.istore 6, 0, 0, 0), aN, (.iload 6, 0, 0, 0), aN, (.ifCond .ge 16, 486, 0, 0), aN, aN, (.aload_n 1, 0, 0, 0), (.invokestatic 236, 163, 1, 0), aN, aN, (.aload_n 2, 0, 0, 0), (.iload_n 3, 0, 0, 0), (.laload, 0, 0, 0), (.lcmp, 0, 0, 0), (.ifCond .eq 5, 486, 0, 0), aN, aN, (.iconst 0, 0, 0, 0), (.ireturn, 0, 0, 0), (.iload_n 3, 0, 0, 0), (.iload 6, 0, 0, 0), aN, (.ifCond .ge 7, 496, 0, 0), aN, aN, (.iconst 0, 0, 0, 0), (.goto 4, 497, 0, 0), aN, aN, (.iconst 1, 0, 0, 1), (.iadd, 0, 0, 0), (.istore_n 3, 0, 0, 0), (.iinc 4 1, 0, 0, 1), aN, aN, (.goto (-492), 10, 0, 0), aN, aN, (.iload_n 3, 0, 0, 0), (.iconst 1, 0, 0, 1), (.isub, 0, 0, 0), (.istore 4, 0, 0, 0), aN, (.iload 4, 0, 0, 0), aN, (.ifCond .lt 30, 542, 0, 0), aN, aN, (.aload_n 1, 0, 0, 0), (.invokestatic 220, 155, 1, 1), aN, aN, (.ifCond .lt 15, 534, 0, 0), aN, aN, (.aload_n 1, 0, 0, 0), (.invokestatic 236, 163, 1, 0), aN, aN, (.aload_n 2, 0, 0, 0), (.iload 4, 0, 0, 0), aN, (.laload, 0, 0, 0), (.lcmp, 0, 0, 0), (.ifCond .eq 5, 536, 0, 0), aN, aN, (.iconst 0, 0, 0, 0), (.ireturn, 0, 0, 0), (.iinc 4 (-1), 0, 0, (-1)), aN, aN, (.goto (-29), 510, 0, 0), aN, aN, (.iconst 1, 0, 0, 1), (.ireturn, 0, 0, 0)]
def aB_L_undone : List aI := aB_L_undone_0 ++ (aB_L_undone_1 ++ (aB_L_undone_2))
def aB_L_law : List aI := [(.aload_n 0, 0, 0, 0), (.invokestatic 151, 156, 1, 0), aN, aN, (.astore_n 1, 0, 0, 0), (.aload_n 1, 0, 0, 0), (.ifnull 44, 50, 0, 0), aN, aN, (.aload_n 1, 0, 0, 0), (.invokestatic 155, 157, 1, 0), aN, aN, (.ifCond .eq 37, 50, 0, 0), aN, aN, (.aload_n 1, 0, 0, 0), (.invokestatic 159, 159, 1, 0), aN, aN, (.ifCond .eq 30, 50, 0, 0), aN, aN, (.aload_n 1, 0, 0, 0), (.invokestatic 162, 161, 1, 0), aN, aN, (.ifCond .eq 23, 50, 0, 0), aN, aN, (.aload_n 0, 0, 0, 0), (.aload_n 1, 0, 0, 0), (.invokestatic 165, 162, 2, 0), aN, aN, (.ifCond .eq 15, 50, 0, 0), aN, aN, (.aload_n 0, 0, 0, 0), (.aload_n 1, 0, 0, 0), (.invokestatic 169, 164, 2, 0), aN, aN, (.ifCond .eq 7, 50, 0, 0), aN, aN, (.iconst 1, 0, 0, 1), (.goto 4, 51, 0, 0), aN, aN, (.iconst 0, 0, 0, 0), (.ireturn, 0, 0, 0)]
abbrev m_X0_init : Nat := 0
abbrev m_X0_keep : Nat := 1
abbrev m_X0_exchangeLatest : Nat := 2
abbrev m_X1_init : Nat := 3
abbrev m_X1_copyFrom : Nat := 4
abbrev m_X1_has : Nat := 5
abbrev m_X1_add : Nat := 6
abbrev m_X1_ask : Nat := 7
abbrev m_X1_askedOf : Nat := 8
abbrev m_X1_countSold : Nat := 9
abbrev m_X1_countSoldOf : Nat := 10
abbrev m_X1_numberOf : Nat := 11
abbrev m_X2_init : Nat := 12
abbrev m_X2_copyFrom : Nat := 13
abbrev m_X2_refuse : Nat := 14
abbrev m_X2_note : Nat := 15
abbrev m_X2_noteAhead : Nat := 16
abbrev m_X3_init : Nat := 17
abbrev m_X3_copyFrom : Nat := 18
abbrev m_X3_has : Nat := 19
abbrev m_X3_add : Nat := 20
abbrev m_X3_place : Nat := 21
abbrev m_X3_isInKiln : Nat := 22
abbrev m_X3_at : Nat := 23
abbrev m_X3_above : Nat := 24
abbrev m_X3_below : Nat := 25
abbrev m_X3_heatThere : Nat := 26
abbrev m_X3_countInKiln : Nat := 27
abbrev m_X4_init : Nat := 28
abbrev m_X4_isFull : Nat := 29
abbrev m_X4_add : Nat := 30
abbrev m_X4_clear : Nat := 31
abbrev m_X4_parse : Nat := 32
abbrev m_X4_passStep : Nat := 33
abbrev m_X4_passSign : Nat := 34
abbrev m_X4_passNumber : Nat := 35
abbrev m_X5_init : Nat := 36
abbrev m_X5_copyFrom : Nat := 37
abbrev m_X5_has : Nat := 38
abbrev m_X5_add : Nat := 39
abbrev m_X5_sizeOf : Nat := 40
abbrev m_X5_needOf : Nat := 41
abbrev m_X5_isGlazed : Nat := 42
abbrev m_X5_meltingHeatOf : Nat := 43
abbrev m_X5_flowAt : Nat := 44
abbrev m_X5_takeOut : Nat := 45
abbrev m_X5_isInStore : Nat := 46
abbrev m_X5_countInStore : Nat := 47
abbrev m_X5_countInState : Nat := 48
abbrev m_X5_countSold : Nat := 49
abbrev m_X5_countOfGrade : Nat := 50
abbrev m_X5_countFired : Nat := 51
abbrev m_X5_countIn : Nat := 52
abbrev m_X5_sizeIn : Nat := 53
abbrev m_X5_sizeOfAll : Nat := 54
abbrev m_X5_numberOf : Nat := 55
abbrev m_X6_init : Nat := 56
abbrev m_X6_copyFrom : Nat := 57
abbrev m_X6_changeSetting : Nat := 58
abbrev m_X6_buyClay : Nat := 59
abbrev m_X6_throwWares : Nat := 60
abbrev m_X6_coatWare : Nat := 61
abbrev m_X6_addSaggar : Nat := 62
abbrev m_X6_standInKiln : Nat := 63
abbrev m_X6_standOnFloor : Nat := 64
abbrev m_X6_putWare : Nat := 65
abbrev m_X6_fireWares : Nat := 66
abbrev m_X6_emptySaggar : Nat := 67
abbrev m_X6_addOrder : Nat := 68
abbrev m_X6_sellSet : Nat := 69
abbrev m_X6_noteFailedStep : Nat := 70
abbrev m_X6_sellAllSets : Nat := 71
abbrev m_X6_setsByDivision : Nat := 72
abbrev m_X6_lackingKind : Nat := 73
abbrev m_X6_countFor : Nat := 74
abbrev m_X6_takeSet : Nat := 75
abbrev m_X6_isThereToFire : Nat := 76
abbrev m_X6_firstsBy : Nat := 77
abbrev m_X6_isToFire : Nat := 78
abbrev m_X6_gradeByFiring : Nat := 79
abbrev m_X6_gradeAt : Nat := 80
abbrev m_X6_weightOf : Nat := 81
abbrev m_X6_roomIn : Nat := 82
abbrev m_X6_overloadedBelow : Nat := 83
abbrev m_X6_weightAbove : Nat := 84
abbrev m_X6_weightOfRestOfBung : Nat := 85
abbrev m_X6_sumOfLoads : Nat := 86
abbrev m_X6_numberOfSaggar : Nat := 87
abbrev m_X6_accountOf : Nat := 88
abbrev m_X6_isClayBalanced : Nat := 89
abbrev m_X6_areSalesBalanced : Nat := 90
abbrev m_X6_areLoadsBalanced : Nat := 91
abbrev m_X7_init : Nat := 92
abbrev m_X7_set : Nat := 93
abbrev m_X7_clay : Nat := 94
abbrev m_X7_cast : Nat := 95
abbrev m_X7_glaze : Nat := 96
abbrev m_X7_saggar : Nat := 97
abbrev m_X7_stack : Nat := 98
abbrev m_X7_unstack : Nat := 99
abbrev m_X7_put : Nat := 100
abbrev m_X7_fire : Nat := 101
abbrev m_X7_empty : Nat := 102
abbrev m_X7_order : Nat := 103
abbrev m_X7_sell : Nat := 104
abbrev m_X7_ware : Nat := 105
abbrev m_X7_saggarOf : Nat := 106
abbrev m_X7_load : Nat := 107
abbrev m_X7_loadAgain : Nat := 108
abbrev m_X7_orderOf : Nat := 109
abbrev m_X7_sign : Nat := 110
abbrev m_X7_store : Nat := 111
abbrev m_X7_heatAt : Nat := 112
abbrev m_X7_wouldBe : Nat := 113
abbrev m_X7_bestHeat : Nat := 114
abbrev m_X7_sets : Nat := 115
abbrev m_X7_setsAgain : Nat := 116
abbrev m_X7_append : Nat := 117
abbrev m_X7_read : Nat := 118
abbrev m_X7_refusal : Nat := 119
abbrev m_X7_account : Nat := 120
abbrev m_X7_isBalanced : Nat := 121
abbrev m_X7_firstShare : Nat := 122
abbrev m_X7_meanLoad : Nat := 123
abbrev m_X7_undo : Nat := 124
abbrev m_X7_freshDraft : Nat := 125
abbrev m_X7_settle : Nat := 126
abbrev m_X7_doStep : Nat := 127
abbrev m_X7_needWare : Nat := 128
abbrev m_X7_needSaggar : Nat := 129
abbrev m_X7_needOrder : Nat := 130
abbrev m_X7_needRange : Nat := 131
abbrev m_X7_isFrom : Nat := 132
abbrev m_L_cell : Nat := 133
abbrev m_L_set : Nat := 134
abbrev m_L_clay : Nat := 135
abbrev m_L_cast : Nat := 136
abbrev m_L_glaze : Nat := 137
abbrev m_L_saggar : Nat := 138
abbrev m_L_stack : Nat := 139
abbrev m_L_unstack : Nat := 140
abbrev m_L_put : Nat := 141
abbrev m_L_fire : Nat := 142
abbrev m_L_empty : Nat := 143
abbrev m_L_order : Nat := 144
abbrev m_L_sell : Nat := 145
abbrev m_L_ware : Nat := 146
abbrev m_L_of : Nat := 147
abbrev m_L_heatAt : Nat := 148
abbrev m_L_wouldBe : Nat := 149
abbrev m_L_best : Nat := 150
abbrev m_L_append : Nat := 151
abbrev m_L_reads : Nat := 152
abbrev m_L_read : Nat := 153
abbrev m_L_refusal : Nat := 154
abbrev m_L_undo : Nat := 155
abbrev m_L_drawn : Nat := 156
abbrev m_L_stacks : Nat := 157
abbrev m_L_store : Nat := 158
abbrev m_L_stores : Nat := 159
abbrev m_L_sets : Nat := 160
abbrev m_L_sells : Nat := 161
abbrev m_L_fires : Nat := 162
abbrev m_L_sum : Nat := 163
abbrev m_L_undone : Nat := 164
abbrev m_L_law : Nat := 165
/-- class, code, handlers, what it answers, how many locals -/
def aProg : List (Nat × List aI × aD × Option FieldType × Nat) := [
  (0, aB_X0_init, [], none, 2),
  (0, aB_X0_keep, [], (some (.object "SaggarKiln$Works")), 3),
  (0, aB_X0_exchangeLatest, [], (some (.object "SaggarKiln$Works")), 3),
  (1, aB_X1_init, [], none, 1),
  (1, aB_X1_copyFrom, [], none, 2),
  (1, aB_X1_has, [], (some .boolean), 2),
  (1, aB_X1_add, [], (some .int), 3),
  (1, aB_X1_ask, [], none, 4),
  (1, aB_X1_askedOf, [], (some .int), 3),
  (1, aB_X1_countSold, [], (some .int), 3),
  (1, aB_X1_countSoldOf, [], (some .int), 4),
  (1, aB_X1_numberOf, [], (some .int), 3),
  (2, aB_X2_init, [], none, 1),
  (2, aB_X2_copyFrom, [], none, 2),
  (2, aB_X2_refuse, [], (some .int), 3),
  (2, aB_X2_note, [], none, 3),
  (2, aB_X2_noteAhead, [], none, 5),
  (3, aB_X3_init, [], none, 1),
  (3, aB_X3_copyFrom, [], none, 2),
  (3, aB_X3_has, [], (some .boolean), 2),
  (3, aB_X3_add, [], (some .int), 1),
  (3, aB_X3_place, [], none, 4),
  (3, aB_X3_isInKiln, [], (some .boolean), 2),
  (3, aB_X3_at, [], (some .int), 4),
  (3, aB_X3_above, [], (some .int), 2),
  (3, aB_X3_below, [], (some .int), 2),
  (3, aB_X3_heatThere, [], (some .int), 3),
  (3, aB_X3_countInKiln, [], (some .int), 3),
  (4, aB_X4_init, [], none, 1),
  (4, aB_X4_isFull, [], (some .boolean), 1),
  (4, aB_X4_add, [], none, 2),
  (4, aB_X4_clear, [], none, 1),
  (4, aB_X4_parse, [], (some .int), 2),
  (4, aB_X4_passStep, [], (some .boolean), 3),
  (4, aB_X4_passSign, [], (some .boolean), 2),
  (4, aB_X4_passNumber, [], (some .boolean), 7),
  (5, aB_X5_init, [], none, 1),
  (5, aB_X5_copyFrom, [], none, 2),
  (5, aB_X5_has, [], (some .boolean), 2),
  (5, aB_X5_add, [], none, 3),
  (5, aB_X5_sizeOf, [], (some .int), 2),
  (5, aB_X5_needOf, [], (some .int), 2),
  (5, aB_X5_isGlazed, [], (some .boolean), 2),
  (5, aB_X5_meltingHeatOf, [], (some .int), 2),
  (5, aB_X5_flowAt, [], (some .int), 3),
  (5, aB_X5_takeOut, [], none, 2),
  (5, aB_X5_isInStore, [], (some .boolean), 4),
  (5, aB_X5_countInStore, [], (some .int), 6),
  (5, aB_X5_countInState, [], (some .int), 4),
  (5, aB_X5_countSold, [], (some .int), 4),
  (5, aB_X5_countOfGrade, [], (some .int), 4),
  (5, aB_X5_countFired, [], (some .int), 1),
  (5, aB_X5_countIn, [], (some .int), 4),
  (5, aB_X5_sizeIn, [], (some .int), 4),
  (5, aB_X5_sizeOfAll, [], (some .int), 3),
  (5, aB_X5_numberOf, [], (some .int), 3),
  (6, aB_X6_init, [], none, 1),
  (6, aB_X6_copyFrom, [], none, 2),
  (6, aB_X6_changeSetting, [], (some .int), 4),
  (6, aB_X6_buyClay, [], (some .int), 2),
  (6, aB_X6_throwWares, [], (some .int), 6),
  (6, aB_X6_coatWare, [], (some .int), 4),
  (6, aB_X6_addSaggar, [], (some .int), 1),
  (6, aB_X6_standInKiln, [], (some .int), 9),
  (6, aB_X6_standOnFloor, [], (some .int), 4),
  (6, aB_X6_putWare, [], (some .int), 6),
  (6, aB_X6_fireWares, [], (some .int), 5),
  (6, aB_X6_emptySaggar, [], (some .int), 4),
  (6, aB_X6_addOrder, [], (some .int), 8),
  (6, aB_X6_sellSet, [], (some .int), 3),
  (6, aB_X6_noteFailedStep, [], none, 3),
  (6, aB_X6_sellAllSets, [], (some .int), 3),
  (6, aB_X6_setsByDivision, [], (some .int), 5),
  (6, aB_X6_lackingKind, [], (some .int), 3),
  (6, aB_X6_countFor, [], (some .int), 5),
  (6, aB_X6_takeSet, [], none, 6),
  (6, aB_X6_isThereToFire, [], (some .boolean), 2),
  (6, aB_X6_firstsBy, [], (some .int), 4),
  (6, aB_X6_isToFire, [], (some .boolean), 2),
  (6, aB_X6_gradeByFiring, [], (some .int), 3),
  (6, aB_X6_gradeAt, [], (some .int), 7),
  (6, aB_X6_weightOf, [], (some .int), 2),
  (6, aB_X6_roomIn, [], (some .int), 2),
  (6, aB_X6_overloadedBelow, [], (some .int), 6),
  (6, aB_X6_weightAbove, [], (some .int), 5),
  (6, aB_X6_weightOfRestOfBung, [], (some .int), 5),
  (6, aB_X6_sumOfLoads, [], (some .int), 3),
  (6, aB_X6_numberOfSaggar, [], (some .int), 3),
  (6, aB_X6_accountOf, [], (some .int), 2),
  (6, aB_X6_isClayBalanced, [], (some .boolean), 1),
  (6, aB_X6_areSalesBalanced, [], (some .boolean), 2),
  (6, aB_X6_areLoadsBalanced, [], (some .boolean), 2),
  (7, aB_X7_init, [], none, 1),
  (7, aB_X7_set, [], (some .int), 3),
  (7, aB_X7_clay, [], (some .int), 2),
  (7, aB_X7_cast, [], (some .int), 4),
  (7, aB_X7_glaze, [], (some .int), 4),
  (7, aB_X7_saggar, [], (some .int), 1),
  (7, aB_X7_stack, [], (some .int), 4),
  (7, aB_X7_unstack, [], (some .int), 2),
  (7, aB_X7_put, [], (some .int), 3),
  (7, aB_X7_fire, [], (some .int), 2),
  (7, aB_X7_empty, [], (some .int), 2),
  (7, aB_X7_order, [], (some .int), 7),
  (7, aB_X7_sell, [], (some .int), 2),
  (7, aB_X7_ware, [], (some .int), 3),
  (7, aB_X7_saggarOf, [], (some .int), 3),
  (7, aB_X7_load, [], (some .int), 2),
  (7, aB_X7_loadAgain, [], (some .int), 2),
  (7, aB_X7_orderOf, [], (some .int), 3),
  (7, aB_X7_sign, [], (some .char), 2),
  (7, aB_X7_store, [], (some .int), 4),
  (7, aB_X7_heatAt, [], (some .int), 3),
  (7, aB_X7_wouldBe, [], (some .int), 3),
  (7, aB_X7_bestHeat, [], (some .int), 6),
  (7, aB_X7_sets, [], (some .int), 2),
  (7, aB_X7_setsAgain, [], (some .int), 2),
  (7, aB_X7_append, [], (some .int), 2),
  (7, aB_X7_read, [], (some .int), 4),
  (7, aB_X7_refusal, [], (some .int), 3),
  (7, aB_X7_account, [], (some .int), 2),
  (7, aB_X7_isBalanced, [], (some .boolean), 1),
  (7, aB_X7_firstShare, [], (some .double), 2),
  (7, aB_X7_meanLoad, [], (some .float), 2),
  (7, aB_X7_undo, [], (some .int), 1),
  (7, aB_X7_freshDraft, [], (some (.object "SaggarKiln$Works")), 1),
  (7, aB_X7_settle, [], (some .int), 3),
  (7, aB_X7_doStep, [], (some .int), 6),
  (7, aB_X7_needWare, [], none, 2),
  (7, aB_X7_needSaggar, [], none, 2),
  (7, aB_X7_needOrder, [], none, 2),
  (7, aB_X7_needRange, [], none, 3),
  (7, aB_X7_isFrom, [], (some .boolean), 3),
  (9, aB_L_cell, [], (some .int), 2),
  (9, aB_L_set, [(0, 6, 7, 0)], (some .int), 4),
  (9, aB_L_clay, [(0, 5, 6, 0), (0, 5, 9, 1)], (some .int), 3),
  (9, aB_L_cast, [(0, 7, 8, 0), (0, 7, 12, 1)], (some .int), 5),
  (9, aB_L_glaze, [(0, 7, 8, 2), (0, 7, 12, 0), (0, 7, 17, 1)], (some .int), 5),
  (9, aB_L_saggar, [(0, 4, 5, 1)], (some .int), 2),
  (9, aB_L_stack, [(0, 7, 8, 2), (0, 7, 12, 0), (0, 7, 17, 1)], (some .int), 5),
  (9, aB_L_unstack, [(0, 5, 6, 2), (0, 5, 9, 1)], (some .int), 3),
  (9, aB_L_put, [(0, 6, 7, 2), (0, 6, 10, 1)], (some .int), 4),
  (9, aB_L_fire, [(0, 5, 6, 0), (0, 5, 9, 1)], (some .int), 3),
  (9, aB_L_empty, [(0, 5, 6, 2), (0, 5, 9, 1)], (some .int), 3),
  (9, aB_L_order, [(0, 13, 14, 0), (0, 13, 18, 1)], (some .int), 8),
  (9, aB_L_sell, [(0, 5, 6, 2), (0, 5, 9, 1)], (some .int), 3),
  (9, aB_L_ware, [(0, 6, 7, 2), (0, 6, 11, 0)], (some .int), 4),
  (9, aB_L_of, [(0, 6, 7, 2), (0, 6, 11, 0)], (some .int), 4),
  (9, aB_L_heatAt, [(0, 6, 7, 2), (0, 6, 10, 0), (0, 6, 14, 3)], (some .int), 4),
  (9, aB_L_wouldBe, [(0, 6, 7, 2), (0, 6, 10, 0)], (some .int), 4),
  (9, aB_L_best, [(0, 5, 6, 3)], (some .int), 3),
  (9, aB_L_append, [(0, 5, 6, 4)], (some .int), 3),
  (9, aB_L_reads, [(0, 4, 5, 0), (0, 4, 8, 1)], (some .int), 2),
  (9, aB_L_read, [], (some .int), 3),
  (9, aB_L_refusal, [(0, 6, 7, 0), (0, 6, 10, 3)], (some .int), 4),
  (9, aB_L_undo, [(0, 4, 5, 4)], (some .int), 2),
  (9, aB_L_drawn, [], (some (.object "SaggarKiln")), 7),
  (9, aB_L_stacks, [], (some .boolean), 10),
  (9, aB_L_store, [(0, 7, 8, 0)], (some .int), 5),
  (9, aB_L_stores, [], (some .boolean), 7),
  (9, aB_L_sets, [(0, 17, 18, 2)], (some .int), 4),
  (9, aB_L_sells, [], (some .boolean), 7),
  (9, aB_L_fires, [], (some .boolean), 12),
  (9, aB_L_sum, [], (some .long), 5),
  (9, aB_L_undone, [], (some .boolean), 7),
  (9, aB_L_law, [], (some .boolean), 2)]
end
section
/-! RUNS -/
def aCls (m : Nat) : Nat := match aProg[m]? with
  | some (o, _) => o
  | none => 99
/-- the locals with which a method begins -/
def aIn (n : Nat) (args : List Value) : List (Option Value) := args.map some ++ List.replicate (n - args.length) none
/-- where the steps of f end, if they do -/
noncomputable def aFin (f : aS → Option (aS ⊕ aR)) (s : aS) : Option aR :=
  @dite _ (∃ n r, aIt f n s = some (.inr r)) (Classical.propDecidable _) (fun hx => some (Classical.choose (Classical.choose_spec hx))) (fun _ => none)
/-- what method m answers, with calls at most d deep; al: may it make cells -/
noncomputable def aRun (al : Bool) : Nat → aF
  | 0 => fun _ _ _ => none
  | d + 1 => fun m args h => match aProg[m]? with
    | none => none
    | some (_, cd, hd, rt, n) => aFin (aStep (aRun al d) aCls hd cd rt al) (0, aIn n args, [], h, (0, 0))
theorem aIt_inl {f : aS → Option (aS ⊕ aR)} {s u : aS} (h : f s = some (.inl u)) (n : Nat) : aIt f (n + 1) s = aIt f n u := by
  show (match f s with | some (.inl t) => aIt f n t | x => x) = _
  rw [h]
theorem aIt_inr {f : aS → Option (aS ⊕ aR)} {s : aS} {r : aR} (h : f s = some (.inr r)) (n : Nat) : aIt f (n + 1) s = some (.inr r) := by
  show (match f s with | some (.inl t) => aIt f n t | x => x) = _
  rw [h]
theorem aIt_non {f : aS → Option (aS ⊕ aR)} {s : aS} (h : f s = none) (n : Nat) : aIt f (n + 1) s = none := by
  show (match f s with | some (.inl t) => aIt f n t | x => x) = _
  rw [h]
theorem aIt_add (f : aS → Option (aS ⊕ aR)) : ∀ (n m : Nat) (s t : aS), aIt f n s = some (.inl t) → aIt f (n + m) s = aIt f m t
  | 0, m, s, t, h => by
    cases h
    rw [Nat.zero_add]
  | n + 1, m, s, t, h => by
    rw [Nat.succ_add]
    cases hf : f s with
    | none => rw [aIt_non hf] at h; cases h
    | some x =>
      cases x with
      | inl u => rw [aIt_inl hf] at h ⊢; exact aIt_add f n m u t h
      | inr r => rw [aIt_inr hf] at h; cases h
theorem aIt_end (f : aS → Option (aS ⊕ aR)) : ∀ (n m : Nat) (s : aS) (r : aR), aIt f n s = some (.inr r) → aIt f (n + m) s = some (.inr r)
  | 0, m, s, r, h => by cases h
  | n + 1, m, s, r, h => by
    rw [Nat.succ_add]
    cases hf : f s with
    | none => rw [aIt_non hf] at h; cases h
    | some x =>
      cases x with
      | inl u => rw [aIt_inl hf] at h ⊢; exact aIt_end f n m u r h
      | inr q => rw [aIt_inr hf] at h ⊢; exact h
theorem aIt_one (f : aS → Option (aS ⊕ aR)) {n m : Nat} {s : aS} {r q : aR} (h1 : aIt f n s = some (.inr r)) (h2 : aIt f m s = some (.inr q)) : r = q := by
  have a := aIt_end f n m s r h1
  have b := aIt_end f m n s q h2
  rw [Nat.add_comm] at b
  rw [a] at b
  cases b
  rfl
theorem aFin_of {f : aS → Option (aS ⊕ aR)} {s : aS} {n : Nat} {r : aR} (h : aIt f n s = some (.inr r)) : aFin f s = some r := by
  have hx : ∃ n r, aIt f n s = some (.inr r) := ⟨n, r, h⟩
  unfold aFin
  rw [dif_pos hx]
  exact congrArg some (aIt_one f (Classical.choose_spec (Classical.choose_spec hx)) h)
theorem aFin_ex {f : aS → Option (aS ⊕ aR)} {s : aS} {r : aR} (h : aFin f s = some r) : ∃ n, aIt f n s = some (.inr r) := by
  unfold aFin at h
  split at h
  · rename_i hx
    cases h
    exact ⟨_, Classical.choose_spec (Classical.choose_spec hx)⟩
  · cases h
/-- from s the steps come to t -/
def aTo (f : aS → Option (aS ⊕ aR)) (s t : aS) : Prop := ∃ n, aIt f n s = some (.inl t)
def aEnd (f : aS → Option (aS ⊕ aR)) (s : aS) (r : aR) : Prop := ∃ n, aIt f n s = some (.inr r)
theorem aTo.rf {f : aS → Option (aS ⊕ aR)} {s : aS} : aTo f s s := ⟨0, rfl⟩
theorem aTo.trans {f : aS → Option (aS ⊕ aR)} {s t u : aS} (h1 : aTo f s t) (h2 : aTo f t u) : aTo f s u := by
  obtain ⟨n, h1⟩ := h1
  obtain ⟨m, h2⟩ := h2
  exact ⟨n + m, (aIt_add f n m s t h1).trans h2⟩
theorem aTo.fin {f : aS → Option (aS ⊕ aR)} {s t : aS} {r : aR} (h1 : aTo f s t) (h2 : aEnd f t r) : aEnd f s r := by
  obtain ⟨n, h1⟩ := h1
  obtain ⟨m, h2⟩ := h2
  exact ⟨n + m, (aIt_add f n m s t h1).trans h2⟩
theorem aEnd.one {f : aS → Option (aS ⊕ aR)} {s : aS} {r : aR} (h : f s = some (.inr r)) : aEnd f s r := ⟨1, aIt_inr h 0⟩
theorem aTo.one {f : aS → Option (aS ⊕ aR)} {s t : aS} (h : f s = some (.inl t)) : aTo f s t := ⟨1, aIt_inl h 0⟩
theorem aRun_of {al : Bool} {d m : Nat} {args : List Value} {h : aH} {r : aR} {o n : Nat} {cd : List aI} {hd : aD} {rt : Option FieldType} (hm : aProg[m]? = some (o, cd, hd, rt, n)) (he : aEnd (aStep (aRun al d) aCls hd cd rt al) (0, aIn n args, [], h, (0, 0)) r) : aRun al (d + 1) m args h = some r := by
  obtain ⟨k, he⟩ := he
  show (match aProg[m]? with | none => none | some (_, cd, hd, rt, n) => aFin (aStep (aRun al d) aCls hd cd rt al) (0, aIn n args, [], h, (0, 0))) = some r
  rw [hm]
  exact aFin_of he
theorem aRun_ex {al : Bool} {d m : Nat} {args : List Value} {h : aH} {r : aR} (hr : aRun al (d + 1) m args h = some r) : ∃ o cd hd rt n, aProg[m]? = some (o, cd, hd, rt, n) ∧ aEnd (aStep (aRun al d) aCls hd cd rt al) (0, aIn n args, [], h, (0, 0)) r := by
  have h1 : (match aProg[m]? with | none => none | some (_, cd, hd, rt, n) => aFin (aStep (aRun al d) aCls hd cd rt al) (0, aIn n args, [], h, (0, 0))) = some r := hr
  cases hm : aProg[m]? with
  | none => rw [hm] at h1; cases h1
  | some x =>
    obtain ⟨o, cd, hd, rt, n⟩ := x
    rw [hm] at h1
    exact ⟨o, cd, hd, rt, n, rfl, aFin_ex h1⟩
end
section
/-! WHAT THE ABSTRACT MACHINE SAYS OF THE MACHINE: s: where each place of the abstract heap lies -/
def aCv (s : Nat → Nat) (x : Value) : Value := match x with
  | .ref q => .ref (s q)
  | y => y
theorem aCv_cat (s : Nat → Nat) (x : Value) : (aCv s x).category = x.category := by cases x <;> rfl
def aCa (s : Nat → Nat) (x : vp_A) : vp_A := (x.1, match x.2 with
  | .inr (.inr (.inr (.inr f))) => .inr (.inr (.inr (.inr fun j => (f j).map s)))
  | y => y)
/-- the listed locals -/
def aLv (s : Nat → Nat) (ls : List (Option Value)) : List (Nat × Value) := ls.zipIdx.filterMap fun q => q.1.map fun v => (q.2, aCv s v)
theorem aLv_mem {s : Nat → Nat} {ls : List (Option Value)} {i : Nat} {w : Value} : (i, w) ∈ aLv s ls ↔ ∃ v, ls[i]? = some (some v) ∧ w = aCv s v := by
  unfold aLv
  rw [List.mem_filterMap]
  constructor
  · rintro ⟨⟨o, j⟩, hm, he⟩
    have h1 := List.mem_zipIdx_iff_getElem?.mp hm
    cases o with
    | none => cases he
    | some v =>
      cases he
      exact ⟨v, h1, rfl⟩
  · rintro ⟨v, h1, rfl⟩
    exact ⟨(some v, i), List.mem_zipIdx_iff_getElem?.mpr h1, rfl⟩
def aLoc (s : Nat → Nat) (L : Array Slot) (nL : Nat) (ls : List (Option Value)) : Prop := L.size = nL ∧ lv_wf L ∧ ls.length = nL ∧ ∀ (i : Nat) (v : Value), ls[i]? = some (some v) → L[i]? = some (.val (aCv s v))
theorem aLoc.has {s : Nat → Nat} {L : Array Slot} {nL : Nat} {ls : List (Option Value)} (h : aLoc s L nL ls) : lv_has L nL (aLv s ls) := by
  refine ⟨h.1, h.2.1, fun q hq => ?_⟩
  obtain ⟨i, w⟩ := q
  obtain ⟨v, h1, rfl⟩ := aLv_mem.mp hq
  exact h.2.2.2 i v h1
theorem aMay_lt {ls : List (Option Value)} {i : Nat} (h : aMay ls i = true) : i < ls.length := by
  unfold aMay at h
  rw [Bool.and_eq_true] at h
  exact of_decide_eq_true h.1
theorem aMay_cat {ls : List (Option Value)} {j : Nat} {v : Value} (h : aMay ls (j + 1) = true) (hv : ls[j]? = some (some v)) : v.category = 1 := by
  unfold aMay at h
  rw [Bool.and_eq_true] at h
  have h2 := h.2
  dsimp only at h2
  rw [hv] at h2
  exact eq_of_beq h2
theorem aLoc.back {s : Nat → Nat} {L L1 : Array Slot} {nL i : Nat} {ls : List (Option Value)} (h : aLoc s L nL ls) (hm : aMay ls i = true) {o : Option Value} {w : Value} (ho : ∀ v, o = some v → w = aCv s v) (h1 : lv_has L1 nL ((i, w) :: (aLv s ls).filter (fun q => !(q.1 == i) && !(q.1 + 1 == i && q.2.category == 2)))) : aLoc s L1 nL (ls.set i o) := by
  refine ⟨h1.1, h1.2.1, by rw [List.length_set]; exact h.2.2.1, fun j v hj => ?_⟩
  by_cases e : j = i
  · subst e
    rw [List.getElem?_set_self (aMay_lt hm)] at hj
    cases hj
    rw [← ho v rfl]
    exact h1.2.2 (j, w) List.mem_cons_self
  · rw [List.getElem?_set_ne (Ne.symm e)] at hj
    refine h1.2.2 (j, aCv s v) (List.mem_cons_of_mem _ (List.mem_filter.mpr ⟨aLv_mem.mpr ⟨v, hj, rfl⟩, ?_⟩))
    simp only [Bool.and_eq_true, Bool.not_eq_true', beq_eq_false_iff_ne, ne_eq, Bool.and_eq_false_iff]
    refine ⟨e, ?_⟩
    by_cases e2 : j + 1 = i
    · subst e2
      refine Or.inr ?_
      rw [aCv_cat, aMay_cat hm hj]
      decide
    · exact Or.inl e2
theorem aLoc.back2 {s : Nat → Nat} {L L1 : Array Slot} {nL i : Nat} {ls : List (Option Value)} (h : aLoc s L nL ls) (hm : aMay ls i = true) {x : Value} (hl : i + 1 < ls.length) (h1 : lv_has L1 nL ((i, aCv s x) :: (aLv s ls).filter (fun q => !(q.1 == i) && (!(q.1 == i + 1) && !(q.1 + 1 == i && q.2.category == 2))))) : aLoc s L1 nL ((ls.set i (some x)).set (i + 1) none) := by
  refine ⟨h1.1, h1.2.1, by rw [List.length_set, List.length_set]; exact h.2.2.1, fun j v hj => ?_⟩
  by_cases e : j = i + 1
  · subst e
    rw [List.getElem?_set_self (by rw [List.length_set]; exact hl)] at hj
    cases hj
  · rw [List.getElem?_set_ne (Ne.symm e)] at hj
    by_cases e1 : j = i
    · subst e1
      rw [List.getElem?_set_self (aMay_lt hm)] at hj
      cases hj
      exact h1.2.2 (j, aCv s x) List.mem_cons_self
    · rw [List.getElem?_set_ne (Ne.symm e1)] at hj
      refine h1.2.2 (j, aCv s v) (List.mem_cons_of_mem _ (List.mem_filter.mpr ⟨aLv_mem.mpr ⟨v, hj, rfl⟩, ?_⟩))
      simp only [Bool.and_eq_true, Bool.not_eq_true', beq_eq_false_iff_ne, ne_eq, Bool.and_eq_false_iff]
      refine ⟨e1, e, ?_⟩
      by_cases e2 : j + 1 = i
      · subst e2
        refine Or.inr ?_
        rw [aCv_cat, aMay_cat hm hj]
        decide
      · exact Or.inl e2
/-- a constant string (its number, its place, its bytes' place), and the statics that its methods read -/
def jStr (ci a v : Nat) (A : Nat → Prop) (U : State) (H : Heap) : Prop :=
  va_Z "java/lang/String" "COMPACT_STRINGS" "Z" (.int 1) A U H ∧ va_Zq "jdk/internal/util/Preconditions" "SIOOBE_FORMATTER" "Ljava/util/function/BiFunction;" A U H ∧ vk_S 1 [(aStr ci).length] [aStr ci] (fun _ => a) (fun _ => v) A U H
theorem jStr.moved {ci a v : Nat} {A : Nat → Prop} {u U : State} {H : Heap} (hvm : u.vm.Alike U.vm) (h : jStr ci a v A u H) : jStr ci a v A U H := ⟨h.1.moved hvm, h.2.1.moved hvm, h.2.2.moved hvm⟩
theorem jStr.kept {ci a v : Nat} {A : Nat → Prop} {U : State} {H H1 : Heap} (h : jStr ci a v A U H) (hq : ∀ a : Nat, a < H.size → ¬ A a → H1[a]? = H[a]?) : jStr ci a v A U H1 := ⟨h.1.kept hq, h.2.1.kept hq, h.2.2.kept hq⟩
theorem jStr.narrow {ci a v : Nat} {A B : Nat → Prop} {U : State} {H : Heap} (h : jStr ci a v A U H) (hAB : ∀ q, B q → A q) : jStr ci a v B U H := ⟨h.1.narrow hAB, h.2.1.narrow hAB, h.2.2.narrow hAB⟩
/-- what a cell of the abstract heap says of the heap H (D, ka: the classes' and arrays' numbers; A: what may be written) -/
def aOn (D : va_G) (ka : FieldType → ClassId) (s : Nat → Nat) (A : Nat → Prop) (U : State) (H : Heap) (q : Nat) (c : aC) : Prop := match c with
  | (true, .inl (ty, x)) => A (s q) ∧ H[s q]? = some (vp_cell (ka ty) (aCa s x))
  | (false, .inl (ty, x)) => ∃ f, x.2 = .inl f ∧ va_T ty (s q) x.1 (fun j => .int (f j)) A U H
  | (true, .inr (ci, fs)) => A (s q) ∧ ∃ r : vw_C, aCl[ci]? = some r ∧ t_OB (s q) (D.1 ci) r.2.2 (D.2 ci) H (vp_V (fs.map (aCv s)))
  | (false, .inr o) => 90 ≤ o.1 → ∃ v, jStr o.1 (s q) v A U H
def aRel (D : va_G) (ka : FieldType → ClassId) (s : Nat → Nat) (A : Nat → Prop) (U : State) (h : aH) (H : Heap) : Prop :=
  (∀ (q : Nat) (c : aC), h[q]? = some c → aOn D ka s A U H q c) ∧ ∀ (q q1 : Nat) (c c1 : aE), h[q]? = some (true, c) → h[q1]? = some (true, c1) → s q = s q1 → q = q1
theorem aOn.moved {D : va_G} {ka : FieldType → ClassId} {s : Nat → Nat} {A : Nat → Prop} {u U : State} {H : Heap} {q : Nat} {c : aC} (hvm : u.vm.Alike U.vm) (h : aOn D ka s A u H q c) : aOn D ka s A U H q c := by
  obtain ⟨w, e⟩ := c
  cases w <;> cases e
  · obtain ⟨f, h1, h2⟩ := h
    exact ⟨f, h1, va_T.moved hvm h2⟩
  · exact fun hc => (h hc).elim fun v hv => ⟨v, hv.moved hvm⟩
  · exact h
  · exact h
theorem aRel.moved {D : va_G} {ka : FieldType → ClassId} {s : Nat → Nat} {A : Nat → Prop} {u U : State} {h : aH} {H : Heap} (hvm : u.vm.Alike U.vm) (hr : aRel D ka s A u h H) : aRel D ka s A U h H := ⟨fun q c hq => (hr.1 q c hq).moved hvm, hr.2⟩
/-- a cell that was not written, where the written one is another that may be -/
theorem aOn.kept {D : va_G} {ka : FieldType → ClassId} {s : Nat → Nat} {A : Nat → Prop} {U : State} {H H1 : Heap} {q : Nat} {c : aC} (h : aOn D ka s A U H q c) {a : Nat} (ha : A a) (hq : ∀ e, c = (true, e) → s q ≠ a) (ho : ∀ x : Nat, x ≠ a → H1[x]? = H[x]?) : aOn D ka s A U H1 q c := by
  obtain ⟨w, e⟩ := c
  cases w <;> cases e
  · obtain ⟨f, h1, cell, g1, g2⟩ := h
    obtain ⟨g3, g4, g5, g6, g7, g8⟩ := g2
    refine ⟨f, h1, cell, ?_, g3, g4, g5, g6, g7, g8⟩
    rw [ho _ (fun e => g8 (by rw [e]; exact ha))]
    exact g1
  · exact fun hc => (h hc).elim fun v hv => ⟨v, hv.kept (fun x _ hx => ho x (fun e => hx (by rw [e]; exact ha)))⟩
  · exact ⟨h.1, by rw [ho _ (hq _ rfl)]; exact h.2⟩
  · obtain ⟨h1, r, h2, h3⟩ := h
    exact ⟨h1, r, h2, h3.kept (ho _ (hq _ rfl))⟩
theorem aRel.set {D : va_G} {ka : FieldType → ClassId} {s : Nat → Nat} {A : Nat → Prop} {U : State} {h : aH} {H H1 : Heap} (hr : aRel D ka s A U h H) {q : Nat} {e0 e : aE} (hq : h[q]? = some (true, e0)) (hA : A (s q)) (hn : aOn D ka s A U H1 q (true, e)) (ho : ∀ x : Nat, x ≠ s q → H1[x]? = H[x]?) : aRel D ka s A U (h.set q (true, e)) H1 := by
  have hl : q < h.length := (List.getElem?_eq_some_iff.mp hq).1
  refine ⟨fun j c hj => ?_, fun j j1 c c1 hj hj1 hs => ?_⟩
  · by_cases e1 : j = q
    · subst e1
      rw [List.getElem?_set_self hl] at hj
      cases hj
      exact hn
    · rw [List.getElem?_set_ne (Ne.symm e1)] at hj
      refine (hr.1 j c hj).kept hA (fun e2 hc hs => ?_) ho
      subst hc
      exact e1 (hr.2 j q e2 e0 hj hq hs)
  · have key : ∀ (i : Nat) (x : aE), (h.set q (true, e))[i]? = some (true, x) → ∃ y, h[i]? = some (true, y) := by
      intro i x hi
      by_cases e1 : i = q
      · subst e1
        exact ⟨e0, hq⟩
      · rw [List.getElem?_set_ne (Ne.symm e1)] at hi
        exact ⟨x, hi⟩
    obtain ⟨y, hy⟩ := key j c hj
    obtain ⟨y1, hy1⟩ := key j1 c1 hj1
    exact hr.2 j j1 y y1 hy hy1 hs
/-- a new cell at the heap's end -/
theorem aRel.push {D : va_G} {ka : FieldType → ClassId} {s : Nat → Nat} {A : Nat → Prop} {U : State} {h : aH} {H H1 : Heap} (hr : aRel D ka s A U h H) {e : aE} (hs : s h.length = H.size) (hn : aOn D ka s A U H1 h.length (true, e)) (ho : ∀ x : Nat, x < H.size → H1[x]? = H[x]?) : aRel D ka s A U (h ++ [(true, e)]) H1 := by
  have lt : ∀ (q : Nat) (x : aE), h[q]? = some (true, x) → s q < H.size := by
    intro q x hq
    have h1 := hr.1 q _ hq
    cases x with
    | inl y => exact (Array.getElem?_eq_some_iff.mp h1.2).1
    | inr y =>
      obtain ⟨-, r, -, cell, h2, -⟩ := h1
      exact (Array.getElem?_eq_some_iff.mp h2).1
  have key : ∀ (q : Nat) (c : aC), (h ++ [(true, e)])[q]? = some c → h[q]? = some c ∨ (q = h.length ∧ c = (true, e)) := by
    intro q c hq
    by_cases hl : q < h.length
    · rw [List.getElem?_append_left hl] at hq
      exact Or.inl hq
    · rw [List.getElem?_append_right (by omega)] at hq
      have hz : q - h.length < 1 := (List.getElem?_eq_some_iff.mp hq).1
      have h0 : q = h.length := by omega
      subst h0
      rw [Nat.sub_self] at hq
      cases hq
      exact Or.inr ⟨rfl, rfl⟩
  refine ⟨fun q c hq => ?_, fun q q1 c c1 hq hq1 hs1 => ?_⟩
  · rcases key q c hq with h1 | ⟨rfl, rfl⟩
    · have h2 := hr.1 q c h1
      obtain ⟨w, x⟩ := c
      cases w <;> cases x
      · obtain ⟨f, g0, cell, g1, g2⟩ := h2
        exact ⟨f, g0, cell, by rw [ho _ (Array.getElem?_eq_some_iff.mp g1).1]; exact g1, g2⟩
      · exact fun hc => (h2 hc).elim fun v hv => ⟨v, hv.kept (fun x hx _ => ho x hx)⟩
      · exact ⟨h2.1, by rw [ho _ (lt q _ h1)]; exact h2.2⟩
      · obtain ⟨g0, r, g1, g2⟩ := h2
        exact ⟨g0, r, g1, g2.kept (ho _ (lt q _ h1))⟩
    · exact hn
  · rcases key q _ hq with h1 | ⟨rfl, h1⟩ <;> rcases key q1 _ hq1 with h2 | ⟨rfl, h2⟩
    · exact hr.2 q q1 c c1 h1 h2 hs1
    · have := lt q c h1
      omega
    · have := lt q1 c1 h2
      omega
    · rfl
end
section
/-! THE TABLES' WORDS, AND WHAT IS KNOWN OF A STATE -/
def aWg : List Cond := lw_tbl.filter goodWord
abbrev aTys : List FieldType := [.int, .char, .long, .object RX6, .array .int]
def aExc (x : Nat) : String := match x with
  | 0 => "java/lang/IllegalArgumentException"
  | 1 => "java/lang/UnsupportedOperationException"
  | 2 => "java/lang/IndexOutOfBoundsException"
  | 3 => "java/util/NoSuchElementException"
  | 4 => "java/lang/IllegalStateException"
  | _ => "java/lang/ArithmeticException"
/-- static arrays: the place of each in the heap -/
def aGs (i : Nat) : String × String := match i with
  | 0 => ("SIZES", "[I")
  | 1 => ("MELTING_HEATS", "[I")
  | 2 => ("LEAST_VALUES", "[I")
  | 3 => ("MOST_VALUES", "[I")
  | _ => ("SIGNS", "[C")
/-- reads of a static of the host's, by a nest mate: class, number, name, descriptor -/
abbrev aNestF : List (String × Nat × String × String) := [(RX5, 43, "SIZES", "[I"), (RX5, 46, "MELTING_HEATS", "[I"), (RX6, 73, "LEAST_VALUES", "[I"), (RX6, 76, "MOST_VALUES", "[I"), (RX6, 86, "SIZES", "[I")]
abbrev aNestM : List (String × Nat × MethodName) := [(RX7, 9, yX2_init), (RX6, 17, yX5_init), (RX6, 24, yX3_init), (RX6, 31, yX1_init), (RX6, 38, yX2_init), (RX7, 25, yX4_init), (RX6, 69, yX7_isFrom)]
abbrev aStrs : List (Nat × String) := [(157, "the saggar is on the floor"), (172, "there is nothing to fire"), (188, "the text buffer is full"), (206, "the text has a fault"), (223, "there is no such reason"), (249, "no ware was fired"), (258, "there is no saggar in the kiln"), (263, "there is no change to undo"), (285, "there is no such ware, saggar, bung or order"), (288, "an argument is out of range"), (298, "it is refused; refusal tells the reason"), (314, "there is no such ware"), (317, "there is no such saggar"), (320, "there is no such order"), (326, "a number is out of range")]
/-- the texts' parts: number, text, which -/
abbrev aTxt : List (Nat × String × Nat) := [(247, "t", 91), (255, "*2;e", 92), (257, ";f12", 93), (259, "0", 94), (265, "", 95)]
abbrev aDecl : List MethodName := [Bundle.initS "java/lang/RuntimeException", Bundle.initS "java/lang/Exception", Bundle.initS Bundle.tN]
/-- what the tables say (it stays when the machine goes on) -/
def aKt (D : va_G) (ka : FieldType → ClassId) (sg : Nat → Nat) (U : State) : Prop :=
  (∀ (ci : Nat) (r : vw_C), aCl[ci]? = some r → u_Kn U r.1 r.2.1 r.2.2 (D.1 ci) (D.2 ci)) ∧
  (∀ ty, ty ∈ aTys → ArrOfT U (ka ty) ty ∧ va_RA U (ka ty) ty) ∧
  (∀ q, q ∈ aNestF → va_Nw (.fieldLinkNest q.1 q.2.1 RX7 q.2.2.1 q.2.2.2 RX7) U) ∧
  (∀ q, q ∈ aNestM → va_Nw (.methodLinkNest q.1 q.2.1 q.2.2 RX7) U) ∧
  (∀ q, q ∈ aStrs → ∃ a, vk_R RX7 q.1 q.2 a U) ∧
  vk_R RL 198 "gsfiox" (sg 6) U ∧ True ∧
  (∀ x y : Nat, x < 6 → y < 6 → x ≠ y → va_Nc (aExc x) (aExc y) U) ∧ va_AO RX6 U ∧ va_AOA .int U ∧ (∀ x : Nat, x < 6 → va_Nw (.castable (aExc x) (aExc x)) U) ∧ (∀ y, y ∈ aDecl → va_Nw (.declares y) U)
/-- what the heap says of statics, all where nothing may be written -/
def aKh (sg : Nat → Nat) (A : Nat → Prop) (U : State) (H : Heap) : Prop :=
  (∀ i : Nat, i < 5 → va_Z RX7 (aGs i).1 (aGs i).2 (.ref (sg i)) A U H) ∧
  vx_Zq Bundle.tN "UNASSIGNED_STACK" Bundle.steD A U H ∧ vx_Zq Bundle.tN "SUPPRESSED_SENTINEL" Bundle.listD A U H ∧
  ∀ q, q ∈ aTxt → ∃ a v, vk_R RL q.1 q.2.1 a U ∧ jStr q.2.2 a v A U H
def aKn (D : va_G) (ka : FieldType → ClassId) (sg : Nat → Nat) (A : Nat → Prop) (U : State) : Prop := aKt D ka sg U ∧ aKh sg A U U.heap
theorem aYc_moved {C T : String} {u U : State} (hvm : u.vm.Alike U.vm) (h : va_Nw (.castable C T) u) : va_Nw (.castable C T) U := by
  obtain ⟨c, t, h1, h2, h3⟩ := Cond.castable_spec (args := #[]) h
  have f1 : U.vm.findClass C = some c := by rw [hvm.findClass]; exact h1
  have f2 : U.vm.findClass T = some t := by rw [hvm.findClass]; exact h2
  have f3 : U.vm.assignable c t = true := by rw [hvm.assignable]; exact h3
  unfold va_Nw
  simp [Cond.before, Cond.holds, Cond.value, f1, f2, f3]
theorem aKt.warm {D : va_G} {ka : FieldType → ClassId} {sg : Nat → Nat} {s U : State} (hW : s.WarmedH U.vm) (h : aKt D ka sg s) : aKt D ka sg U := by
  obtain ⟨h1, h2, h3, h4, h5, h6, h7, h8, h9, h10, h11, h12⟩ := h
  refine ⟨fun ci r hc => u_Kn_moved hW.alike (h1 ci r hc), fun ty ht => ⟨arrOfT_moved hW.alike (h2 ty ht).1, (h2 ty ht).2.moved hW.alike⟩, fun q hq => va_Nw.warmF hW (h3 q hq), fun q hq => va_Nw.warmM hW (h4 q hq), fun q hq => ?_, vk_R.warm hW h6, h7, fun x y hx hy hn => va_Nc.moved hW.alike (h8 x y hx hy hn), va_AO.moved hW.alike h9, va_AOA.moved hW.alike h10, fun x hx => aYc_moved hW.alike (h11 x hx), fun y hy => va_Nw.warmD hW (h12 y hy)⟩
  obtain ⟨a, ha⟩ := h5 q hq
  exact ⟨a, vk_R.warm hW ha⟩
theorem aKt.same {D : va_G} {ka : FieldType → ClassId} {sg : Nat → Nat} {s U : State} (hv : U.vm = s.vm) (h : aKt D ka sg s) : aKt D ka sg U := by
  obtain ⟨h1, h2, h3, h4, h5, h6, h7, h8, h9, h10, h11, h12⟩ := h
  have hW : s.vm.Alike U.vm := by rw [hv]; exact Vm.Alike.refl _
  refine ⟨fun ci r hc => u_Kn_moved hW (h1 ci r hc), fun ty ht => ⟨arrOfT_moved hW (h2 ty ht).1, (h2 ty ht).2.moved hW⟩, fun q hq => va_Nw.same rfl hv.symm (h3 q hq), fun q hq => va_Nw.same rfl hv.symm (h4 q hq), fun q hq => ?_, vk_R.same hv h6, h7, fun x y hx hy hn => va_Nc.moved hW (h8 x y hx hy hn), va_AO.moved hW h9, va_AOA.moved hW h10, fun x hx => aYc_moved hW (h11 x hx), fun y hy => va_Nw.same rfl hv.symm (h12 y hy)⟩
  obtain ⟨a, ha⟩ := h5 q hq
  exact ⟨a, vk_R.same hv ha⟩
theorem aKh.moved {sg : Nat → Nat} {A : Nat → Prop} {s U : State} {H H1 : Heap} (hvm : s.vm.Alike U.vm) (hR : ∀ k tx a, vk_R RL k tx a s → vk_R RL k tx a U) (hq : ∀ a : Nat, a < H.size → ¬ A a → H1[a]? = H[a]?) (h : aKh sg A s H) : aKh sg A U H1 :=
  ⟨fun i hi => ((h.1 i hi).kept hq).moved hvm, vx_Zq.moved hvm (h.2.1.kept hq), vx_Zq.moved hvm (h.2.2.1.kept hq), fun q hm => (h.2.2.2 q hm).elim fun a ha => ha.elim fun v hv => ⟨a, v, hR _ _ _ hv.1, (hv.2.kept hq).moved hvm⟩⟩
/-- a call's start -/
def aPc (D : va_G) (ka : FieldType → ClassId) (sg : Nat → Nat) (A : Nat → Prop) (al : Bool) (args : List Value) (h : aH) : Array Value → State → Prop := fun v U =>
  v = (args.map (aCv sg)).toArray ∧ aRel D ka sg A U h U.heap ∧ aKn D ka sg A U ∧ (∀ q : Nat, U.heap.size ≤ q → A q) ∧ (al = true → ∀ j : Nat, sg (h.length + j) = U.heap.size + j)
/-- its end, returned -/
def aQc (D : va_G) (ka : FieldType → ClassId) (sg : Nat → Nat) (A : Nat → Prop) (al : Bool) (r : aR) : Array Value → State → Outcome → State → Prop := fun _ st o t =>
  ∃ v, r.1 = .inl v ∧ o = .returned (v.map (aCv sg)) ∧ aRel D ka sg A t r.2.1 t.heap ∧ va_F A st t ∧ (al = true → ∀ j : Nat, sg (r.2.1.length + j) = t.heap.size + j)
/-- and thrown -/
def aXC (D : va_G) (ka : FieldType → ClassId) (sg : Nat → Nat) (A : Nat → Prop) (al : Bool) (r : aR) : String → State → State → Prop := fun E st t =>
  ∃ x, r.1 = .inr x ∧ x < 6 ∧ E = aExc x ∧ aRel D ka sg A t r.2.1 t.heap ∧ va_F A st t ∧ (al = true → ∀ j : Nat, sg (r.2.1.length + j) = t.heap.size + j)
theorem aPc.blind {D : va_G} {ka : FieldType → ClassId} {sg : Nat → Nat} {A : Nat → Prop} {al : Bool} {args : List Value} {h : aH} : FrameBlind (aPc D ka sg A al args h) := by
  intro a U g mk q
  obtain ⟨q1, q2, q3, q4, q5⟩ := q
  exact ⟨q1, aRel.moved (U := U.calling g mk a) (Vm.Alike.refl U.vm) q2, ⟨aKt.same (U := U.calling g mk a) rfl q3.1, aKh.moved (U := U.calling g mk a) (Vm.Alike.refl U.vm) (fun k tx a h => vk_R.same rfl h) (fun _ _ _ => rfl) q3.2⟩, q4, q5⟩
/-- methods: their names and bytes -/
abbrev aYs : List (MethodName × ByteArray) := [(yX0_init, cX0_init), (yX0_keep, cX0_keep), (yX0_exchangeLatest, cX0_exchangeLatest), (yX1_init, cX1_init), (yX1_copyFrom, cX1_copyFrom), (yX1_has, cX1_has), (yX1_add, cX1_add), (yX1_ask, cX1_ask), (yX1_askedOf, cX1_askedOf), (yX1_countSold, cX1_countSold), (yX1_countSoldOf, cX1_countSoldOf), (yX1_numberOf, cX1_numberOf), (yX2_init, cX2_init), (yX2_copyFrom, cX2_copyFrom), (yX2_refuse, cX2_refuse), (yX2_note, cX2_note), (yX2_noteAhead, cX2_noteAhead), (yX3_init, cX3_init), (yX3_copyFrom, cX3_copyFrom), (yX3_has, cX3_has), (yX3_add, cX3_add), (yX3_place, cX3_place), (yX3_isInKiln, cX3_isInKiln), (yX3_at, cX3_at), (yX3_above, cX3_above), (yX3_below, cX3_below), (yX3_heatThere, cX3_heatThere), (yX3_countInKiln, cX3_countInKiln), (yX4_init, cX4_init), (yX4_isFull, cX4_isFull), (yX4_add, cX4_add), (yX4_clear, cX4_clear), (yX4_parse, cX4_parse), (yX4_passStep, cX4_passStep), (yX4_passSign, cX4_passSign), (yX4_passNumber, cX4_passNumber), (yX5_init, cX5_init), (yX5_copyFrom, cX5_copyFrom), (yX5_has, cX5_has), (yX5_add, cX5_add), (yX5_sizeOf, cX5_sizeOf), (yX5_needOf, cX5_needOf), (yX5_isGlazed, cX5_isGlazed), (yX5_meltingHeatOf, cX5_meltingHeatOf), (yX5_flowAt, cX5_flowAt), (yX5_takeOut, cX5_takeOut), (yX5_isInStore, cX5_isInStore), (yX5_countInStore, cX5_countInStore), (yX5_countInState, cX5_countInState), (yX5_countSold, cX5_countSold), (yX5_countOfGrade, cX5_countOfGrade), (yX5_countFired, cX5_countFired), (yX5_countIn, cX5_countIn), (yX5_sizeIn, cX5_sizeIn), (yX5_sizeOfAll, cX5_sizeOfAll), (yX5_numberOf, cX5_numberOf), (yX6_init, cX6_init), (yX6_copyFrom, cX6_copyFrom), (yX6_changeSetting, cX6_changeSetting), (yX6_buyClay, cX6_buyClay), (yX6_throwWares, cX6_throwWares), (yX6_coatWare, cX6_coatWare), (yX6_addSaggar, cX6_addSaggar), (yX6_standInKiln, cX6_standInKiln), (yX6_standOnFloor, cX6_standOnFloor), (yX6_putWare, cX6_putWare), (yX6_fireWares, cX6_fireWares), (yX6_emptySaggar, cX6_emptySaggar), (yX6_addOrder, cX6_addOrder), (yX6_sellSet, cX6_sellSet), (yX6_noteFailedStep, cX6_noteFailedStep), (yX6_sellAllSets, cX6_sellAllSets), (yX6_setsByDivision, cX6_setsByDivision), (yX6_lackingKind, cX6_lackingKind), (yX6_countFor, cX6_countFor), (yX6_takeSet, cX6_takeSet), (yX6_isThereToFire, cX6_isThereToFire), (yX6_firstsBy, cX6_firstsBy), (yX6_isToFire, cX6_isToFire), (yX6_gradeByFiring, cX6_gradeByFiring), (yX6_gradeAt, cX6_gradeAt), (yX6_weightOf, cX6_weightOf), (yX6_roomIn, cX6_roomIn), (yX6_overloadedBelow, cX6_overloadedBelow), (yX6_weightAbove, cX6_weightAbove), (yX6_weightOfRestOfBung, cX6_weightOfRestOfBung), (yX6_sumOfLoads, cX6_sumOfLoads), (yX6_numberOfSaggar, cX6_numberOfSaggar), (yX6_accountOf, cX6_accountOf), (yX6_isClayBalanced, cX6_isClayBalanced), (yX6_areSalesBalanced, cX6_areSalesBalanced), (yX6_areLoadsBalanced, cX6_areLoadsBalanced), (yX7_init, cX7_init), (yX7_set, cX7_set), (yX7_clay, cX7_clay), (yX7_cast, cX7_cast), (yX7_glaze, cX7_glaze), (yX7_saggar, cX7_saggar), (yX7_stack, cX7_stack), (yX7_unstack, cX7_unstack), (yX7_put, cX7_put), (yX7_fire, cX7_fire), (yX7_empty, cX7_empty), (yX7_order, cX7_order), (yX7_sell, cX7_sell), (yX7_ware, cX7_ware), (yX7_saggarOf, cX7_saggarOf), (yX7_load, cX7_load), (yX7_loadAgain, cX7_loadAgain), (yX7_orderOf, cX7_orderOf), (yX7_sign, cX7_sign), (yX7_store, cX7_store), (yX7_heatAt, cX7_heatAt), (yX7_wouldBe, cX7_wouldBe), (yX7_bestHeat, cX7_bestHeat), (yX7_sets, cX7_sets), (yX7_setsAgain, cX7_setsAgain), (yX7_append, cX7_append), (yX7_read, cX7_read), (yX7_refusal, cX7_refusal), (yX7_account, cX7_account), (yX7_isBalanced, cX7_isBalanced), (yX7_firstShare, cX7_firstShare), (yX7_meanLoad, cX7_meanLoad), (yX7_undo, cX7_undo), (yX7_freshDraft, cX7_freshDraft), (yX7_settle, cX7_settle), (yX7_doStep, cX7_doStep), (yX7_needWare, cX7_needWare), (yX7_needSaggar, cX7_needSaggar), (yX7_needOrder, cX7_needOrder), (yX7_needRange, cX7_needRange), (yX7_isFrom, cX7_isFrom), (yL_cell, cL_cell), (yL_set, cL_set), (yL_clay, cL_clay), (yL_cast, cL_cast), (yL_glaze, cL_glaze), (yL_saggar, cL_saggar), (yL_stack, cL_stack), (yL_unstack, cL_unstack), (yL_put, cL_put), (yL_fire, cL_fire), (yL_empty, cL_empty), (yL_order, cL_order), (yL_sell, cL_sell), (yL_ware, cL_ware), (yL_of, cL_of), (yL_heatAt, cL_heatAt), (yL_wouldBe, cL_wouldBe), (yL_best, cL_best), (yL_append, cL_append), (yL_reads, cL_reads), (yL_read, cL_read), (yL_refusal, cL_refusal), (yL_undo, cL_undo), (yL_drawn, cL_drawn), (yL_stacks, cL_stacks), (yL_store, cL_store), (yL_stores, cL_stores), (yL_sets, cL_sets), (yL_sells, cL_sells), (yL_fires, cL_fires), (yL_sum, cL_sum), (yL_undone, cL_undone)]
/-- handlers as the tables have them -/
def aHh (m : Nat) : List (Nat × Nat × Nat × Nat) := match m with
  | 134 => [(0, 6, 7, 14)]
  | 135 => [(0, 5, 6, 14), (0, 5, 9, 20)]
  | 136 => [(0, 7, 8, 14), (0, 7, 12, 20)]
  | 137 => [(0, 7, 8, 29), (0, 7, 12, 14), (0, 7, 17, 20)]
  | 138 => [(0, 4, 5, 20)]
  | 139 => [(0, 7, 8, 29), (0, 7, 12, 14), (0, 7, 17, 20)]
  | 140 => [(0, 5, 6, 29), (0, 5, 9, 20)]
  | 141 => [(0, 6, 7, 29), (0, 6, 10, 20)]
  | 142 => [(0, 5, 6, 14), (0, 5, 9, 20)]
  | 143 => [(0, 5, 6, 29), (0, 5, 9, 20)]
  | 144 => [(0, 13, 14, 14), (0, 13, 18, 20)]
  | 145 => [(0, 5, 6, 29), (0, 5, 9, 20)]
  | 146 => [(0, 6, 7, 29), (0, 6, 11, 14)]
  | 147 => [(0, 6, 7, 29), (0, 6, 11, 14)]
  | 148 => [(0, 6, 7, 29), (0, 6, 10, 14), (0, 6, 14, 66)]
  | 149 => [(0, 6, 7, 29), (0, 6, 10, 14)]
  | 150 => [(0, 5, 6, 66)]
  | 151 => [(0, 5, 6, 79)]
  | 152 => [(0, 4, 5, 14), (0, 4, 8, 20)]
  | 154 => [(0, 6, 7, 14), (0, 6, 10, 66)]
  | 155 => [(0, 4, 5, 79)]
  | 158 => [(0, 7, 8, 14)]
  | 160 => [(0, 17, 18, 29)]
  | _ => []
/-- the room of a method that calls d deep -/
def aRm (d : Nat) (k : aK) : Room := { frames := d + 6, cells := k.1, slots := k.2, locals := 60 * d + 160 }
def aWs (m : Nat) : List Cond := match aProg[m]?, aYs[m]? with
  | some (_, _, [], rt, n), some (y, b) => Cond.code y b n rt :: aWg
  | some (_, _, hd, rt, n), some (y, b) => Cond.codeWith y b n rt (aHh m) :: aWg
  | _, _ => []
end
section
/-! SOUNDNESS, STEP BY STEP -/
/-- from that abstract state the machine comes to Q -/
def aSim (p : Program) (l : Launch) (e : Env) (R : Room) (s : State) (m : MethodId) (args : Array Value) (below : List Frame) (meth : Method) (c : Code) (Q : State → Prop) (D : va_G) (ka : FieldType → ClassId) (sg : Nat → Nat) (A : Nat → Prop) (nL : Nat) (al : Bool) (t : aS) : Prop :=
  ∀ (H : Heap) (locs : List Loc) (L : Array Slot), aRel D ka sg A s t.2.2.2.1 H → va_S A s.heap H locs → aLoc sg L nL t.2.1 → (al = true → ∀ j : Nat, sg (t.2.2.2.1.length + j) = H.size + j) →
    W p l e R s m args below meth c H locs t.2.2.2.2.1 t.2.2.2.2.2 Q (F0 m t.1 L (t.2.2.1.map (aCv sg)))
/-- what holds all through a method's body -/
def aCx (p : Program) (l : Launch) (s : State) (m : MethodId) (args : Array Value) (c : Code) (D : va_G) (ka : FieldType → ClassId) (sg : Nat → Nat) (A : Nat → Prop) (nL : Nat) (own : String) (cc : ByteArray) : Prop :=
  p.tables.exec = Jvm.exec ∧ c.code = cc ∧ c.maxLocals = nL ∧ s.vm.findClass own = some m.cls ∧ (∀ w ∈ aWg, w.before args s = true) ∧ aKn D ka sg A s ∧ (∀ q : Nat, s.heap.size ≤ q → A q) ∧ l.stackTraces = false
section SND
variable {p : Program} {l : Launch} {e : Env} {R : Room} {s : State} {m : MethodId} {args : Array Value} {below : List Frame} {meth : Method} {c : Code} {Q : State → Prop} {D : va_G} {ka : FieldType → ClassId} {sg : Nat → Nat} {A : Nat → Prop} {nL : Nat} {own : String} {cc : ByteArray} {al : Bool}
variable {pc : Nat} {ls : List (Option Value)} {st r : List Value} {h : aH} {k : aK} {x y : Int32}
theorem s_iconst (C : aCx p l s m args c D ka sg A nL own cc) {n : Int} {v : Int32} (hv : Int32.ofInt n = v) (hd : decode cc pc = .ok (.iconst n, 1)) (K : aSim p l e R s m args below meth c Q D ka sg A nL al (pc + 1, ls, .int v :: st, h, k)) : aSim p l e R s m args below meth c Q D ka sg A nL al (pc, ls, st, h, k) :=
  fun H locs L h1 h2 h3 h4 => lv_iconst C.1 C.2.1 hd hv (K H locs L h1 h2 h3 h4)
theorem s_bipush (C : aCx p l s m args c D ka sg A nL own cc) {n : Int} {v : Int32} (hv : (Int8.ofInt n).toInt32 = v) (hd : decode cc pc = .ok (.bipush n, 2)) (K : aSim p l e R s m args below meth c Q D ka sg A nL al (pc + 2, ls, .int v :: st, h, k)) : aSim p l e R s m args below meth c Q D ka sg A nL al (pc, ls, st, h, k) :=
  fun H locs L h1 h2 h3 h4 => lv_bipush C.1 C.2.1 hd hv (K H locs L h1 h2 h3 h4)
theorem s_sipush (C : aCx p l s m args c D ka sg A nL own cc) {n : Int} {v : Int32} (hv : (Int16.ofInt n).toInt32 = v) (hd : decode cc pc = .ok (.sipush n, 3)) (K : aSim p l e R s m args below meth c Q D ka sg A nL al (pc + 3, ls, .int v :: st, h, k)) : aSim p l e R s m args below meth c Q D ka sg A nL al (pc, ls, st, h, k) :=
  fun H locs L h1 h2 h3 h4 => lv_sipush C.1 C.2.1 hd hv (K H locs L h1 h2 h3 h4)
theorem s_iload_n (C : aCx p l s m args c D ka sg A nL own cc) {n : Fin 4} (hl : ls[n.val]? = some (some (.int x))) (hd : decode cc pc = .ok (.iload_n n, 1)) (K : aSim p l e R s m args below meth c Q D ka sg A nL al (pc + 1, ls, .int x :: st, h, k)) : aSim p l e R s m args below meth c Q D ka sg A nL al (pc, ls, st, h, k) :=
  fun H locs L h1 h2 h3 h4 => lv_iload_n C.1 C.2.1 hd rfl (h3.2.2.2 _ _ hl) (K H locs L h1 h2 h3 h4)
theorem s_iload (C : aCx p l s m args c D ka sg A nL own cc) {n : Nat} (hl : ls[n]? = some (some (.int x))) (hd : decode cc pc = .ok (.iload n, 2)) (K : aSim p l e R s m args below meth c Q D ka sg A nL al (pc + 2, ls, .int x :: st, h, k)) : aSim p l e R s m args below meth c Q D ka sg A nL al (pc, ls, st, h, k) :=
  fun H locs L h1 h2 h3 h4 => lv_iload C.1 C.2.1 hd (h3.2.2.2 _ _ hl) (K H locs L h1 h2 h3 h4)
theorem s_aload_n (C : aCx p l s m args c D ka sg A nL own cc) {n : Fin 4} {q : Nat} (hl : ls[n.val]? = some (some (.ref q))) (hd : decode cc pc = .ok (.aload_n n, 1)) (K : aSim p l e R s m args below meth c Q D ka sg A nL al (pc + 1, ls, .ref q :: st, h, k)) : aSim p l e R s m args below meth c Q D ka sg A nL al (pc, ls, st, h, k) :=
  fun H locs L h1 h2 h3 h4 => lv_aload_n C.1 C.2.1 hd rfl (h3.2.2.2 _ _ hl) (K H locs L h1 h2 h3 h4)
theorem s_aload (C : aCx p l s m args c D ka sg A nL own cc) {n : Nat} {q : Nat} (hl : ls[n]? = some (some (.ref q))) (hd : decode cc pc = .ok (.aload n, 2)) (K : aSim p l e R s m args below meth c Q D ka sg A nL al (pc + 2, ls, .ref q :: st, h, k)) : aSim p l e R s m args below meth c Q D ka sg A nL al (pc, ls, st, h, k) :=
  fun H locs L h1 h2 h3 h4 => lv_aload C.1 C.2.1 hd (h3.2.2.2 _ _ hl) (K H locs L h1 h2 h3 h4)
theorem s_fload (C : aCx p l s m args c D ka sg A nL own cc) {n : Nat} {z : UInt32} (hl : ls[n]? = some (some (.float z))) (hd : decode cc pc = .ok (.fload n, 2)) (K : aSim p l e R s m args below meth c Q D ka sg A nL al (pc + 2, ls, .float z :: st, h, k)) : aSim p l e R s m args below meth c Q D ka sg A nL al (pc, ls, st, h, k) :=
  fun H locs L h1 h2 h3 h4 => lv_fload C.1 C.2.1 hd (h3.2.2.2 _ _ hl) (K H locs L h1 h2 h3 h4)
theorem s_dload (C : aCx p l s m args c D ka sg A nL own cc) {n : Nat} {z : UInt64} (hl : ls[n]? = some (some (.double z))) (hd : decode cc pc = .ok (.dload n, 2)) (K : aSim p l e R s m args below meth c Q D ka sg A nL al (pc + 2, ls, .double z :: st, h, k)) : aSim p l e R s m args below meth c Q D ka sg A nL al (pc, ls, st, h, k) :=
  fun H locs L h1 h2 h3 h4 => lv_dload C.1 C.2.1 hd (h3.2.2.2 _ _ hl) (K H locs L h1 h2 h3 h4)
theorem s_istore_n (C : aCx p l s m args c D ka sg A nL own cc) {n : Fin 4} (hm : aMay ls n.val = true) (hd : decode cc pc = .ok (.istore_n n, 1)) (K : aSim p l e R s m args below meth c Q D ka sg A nL al (pc + 1, ls.set n.val (some (.int x)), r, h, k)) : aSim p l e R s m args below meth c Q D ka sg A nL al (pc, ls, .int x :: r, h, k) :=
  fun H locs L h1 h2 h3 h4 => lv_istore_n C.1 C.2.1 hd rfl h3.has (by rw [← h3.2.2.1]; exact aMay_lt hm) rfl (fun L1 g => K H locs L1 h1 h2 (h3.back hm (fun v hv => by cases hv; rfl) g) h4)
theorem s_istore (C : aCx p l s m args c D ka sg A nL own cc) {n : Nat} (hm : aMay ls n = true) (hd : decode cc pc = .ok (.istore n, 2)) (K : aSim p l e R s m args below meth c Q D ka sg A nL al (pc + 2, ls.set n (some (.int x)), r, h, k)) : aSim p l e R s m args below meth c Q D ka sg A nL al (pc, ls, .int x :: r, h, k) :=
  fun H locs L h1 h2 h3 h4 => lv_istore C.1 C.2.1 hd h3.has (by rw [← h3.2.2.1]; exact aMay_lt hm) rfl (fun L1 g => K H locs L1 h1 h2 (h3.back hm (fun v hv => by cases hv; rfl) g) h4)
theorem s_astore_n (C : aCx p l s m args c D ka sg A nL own cc) {n : Fin 4} {q : Nat} (hm : aMay ls n.val = true) (hd : decode cc pc = .ok (.astore_n n, 1)) (K : aSim p l e R s m args below meth c Q D ka sg A nL al (pc + 1, ls.set n.val (some (.ref q)), r, h, k)) : aSim p l e R s m args below meth c Q D ka sg A nL al (pc, ls, .ref q :: r, h, k) :=
  fun H locs L h1 h2 h3 h4 => lv_astore_n C.1 C.2.1 hd rfl h3.has (by rw [← h3.2.2.1]; exact aMay_lt hm) rfl (fun L1 g => K H locs L1 h1 h2 (h3.back hm (fun v hv => by cases hv; rfl) g) h4)
theorem s_astore (C : aCx p l s m args c D ka sg A nL own cc) {n : Nat} {q : Nat} (hm : aMay ls n = true) (hd : decode cc pc = .ok (.astore n, 2)) (K : aSim p l e R s m args below meth c Q D ka sg A nL al (pc + 2, ls.set n (some (.ref q)), r, h, k)) : aSim p l e R s m args below meth c Q D ka sg A nL al (pc, ls, .ref q :: r, h, k) :=
  fun H locs L h1 h2 h3 h4 => lv_astore C.1 C.2.1 hd h3.has (by rw [← h3.2.2.1]; exact aMay_lt hm) rfl (fun L1 g => K H locs L1 h1 h2 (h3.back hm (fun v hv => by cases hv; rfl) g) h4)
theorem s_fstore (C : aCx p l s m args c D ka sg A nL own cc) {n : Nat} {z : UInt32} (hm : aMay ls n = true) (hd : decode cc pc = .ok (.fstore n, 2)) (K : aSim p l e R s m args below meth c Q D ka sg A nL al (pc + 2, ls.set n (some (.float z)), r, h, k)) : aSim p l e R s m args below meth c Q D ka sg A nL al (pc, ls, .float z :: r, h, k) :=
  fun H locs L h1 h2 h3 h4 => lv_fstore C.1 C.2.1 hd h3.has (by rw [← h3.2.2.1]; exact aMay_lt hm) rfl (fun L1 g => K H locs L1 h1 h2 (h3.back hm (fun v hv => by cases hv; rfl) g) h4)
theorem s_dstore (C : aCx p l s m args c D ka sg A nL own cc) {n : Nat} {z : UInt64} (hm : aMay ls n = true) (hm2 : n + 1 < ls.length) (hd : decode cc pc = .ok (.dstore n, 2)) (K : aSim p l e R s m args below meth c Q D ka sg A nL al (pc + 2, (ls.set n (some (.double z))).set (n + 1) none, r, h, k)) : aSim p l e R s m args below meth c Q D ka sg A nL al (pc, ls, .double z :: r, h, k) :=
  fun H locs L h1 h2 h3 h4 => lv_dstore C.1 C.2.1 hd h3.has (by rw [← h3.2.2.1]; exact hm2) rfl (fun L1 g => K H locs L1 h1 h2 (h3.back2 hm hm2 g) h4)
theorem s_iinc (C : aCx p l s m args c D ka sg A nL own cc) {n : Nat} {z : Int} {v : Int32} (hv : Int32.ofInt z = v) (hl : ls[n]? = some (some (.int x))) (hm : aMay ls n = true) (hd : decode cc pc = .ok (.iinc n z, 3)) (K : aSim p l e R s m args below meth c Q D ka sg A nL al (pc + 3, ls.set n (some (.int (x + v))), st, h, k)) : aSim p l e R s m args below meth c Q D ka sg A nL al (pc, ls, st, h, k) := by
  intro H locs L h1 h2 h3 h4
  obtain ⟨j, hj⟩ := List.getElem?_of_mem (aLv_mem.mpr ⟨_, hl, rfl⟩ : (n, Value.int x) ∈ aLv sg ls)
  exact lv_iinc (k := j) C.1 C.2.1 hd h3.has hj (by rw [hv]) (by rw [← h3.2.2.1]; exact aMay_lt hm) rfl (fun L1 g => K H locs L1 h1 h2 (h3.back hm (fun v hv => by cases hv; rfl) g) h4)
theorem s_iadd (C : aCx p l s m args c D ka sg A nL own cc) (hd : decode cc pc = .ok (.iadd, 1)) (K : aSim p l e R s m args below meth c Q D ka sg A nL al (pc + 1, ls, .int (x + y) :: r, h, k)) : aSim p l e R s m args below meth c Q D ka sg A nL al (pc, ls, .int y :: .int x :: r, h, k) :=
  fun H locs L h1 h2 h3 h4 => lv_iadd C.1 C.2.1 hd (K H locs L h1 h2 h3 h4)
theorem s_isub (C : aCx p l s m args c D ka sg A nL own cc) (hd : decode cc pc = .ok (.isub, 1)) (K : aSim p l e R s m args below meth c Q D ka sg A nL al (pc + 1, ls, .int (x - y) :: r, h, k)) : aSim p l e R s m args below meth c Q D ka sg A nL al (pc, ls, .int y :: .int x :: r, h, k) :=
  fun H locs L h1 h2 h3 h4 => lv_isub C.1 C.2.1 hd (K H locs L h1 h2 h3 h4)
theorem s_imul (C : aCx p l s m args c D ka sg A nL own cc) (hd : decode cc pc = .ok (.imul, 1)) (K : aSim p l e R s m args below meth c Q D ka sg A nL al (pc + 1, ls, .int (x * y) :: r, h, k)) : aSim p l e R s m args below meth c Q D ka sg A nL al (pc, ls, .int y :: .int x :: r, h, k) :=
  fun H locs L h1 h2 h3 h4 => lv_imul C.1 C.2.1 hd (K H locs L h1 h2 h3 h4)
theorem s_iand (C : aCx p l s m args c D ka sg A nL own cc) (hd : decode cc pc = .ok (.iand, 1)) (K : aSim p l e R s m args below meth c Q D ka sg A nL al (pc + 1, ls, .int (x &&& y) :: r, h, k)) : aSim p l e R s m args below meth c Q D ka sg A nL al (pc, ls, .int y :: .int x :: r, h, k) :=
  fun H locs L h1 h2 h3 h4 => lv_iand C.1 C.2.1 hd (K H locs L h1 h2 h3 h4)
theorem s_idiv (C : aCx p l s m args c D ka sg A nL own cc) (hn : ¬ y = 0) (hd : decode cc pc = .ok (.idiv, 1)) (K : aSim p l e R s m args below meth c Q D ka sg A nL al (pc + 1, ls, .int (x / y) :: r, h, k)) : aSim p l e R s m args below meth c Q D ka sg A nL al (pc, ls, .int y :: .int x :: r, h, k) :=
  fun H locs L h1 h2 h3 h4 => lv_idiv C.1 C.2.1 hd hn (K H locs L h1 h2 h3 h4)
theorem s_irem (C : aCx p l s m args c D ka sg A nL own cc) (hn : ¬ y = 0) (hd : decode cc pc = .ok (.irem, 1)) (K : aSim p l e R s m args below meth c Q D ka sg A nL al (pc + 1, ls, .int (x - x / y * y) :: r, h, k)) : aSim p l e R s m args below meth c Q D ka sg A nL al (pc, ls, .int y :: .int x :: r, h, k) :=
  fun H locs L h1 h2 h3 h4 => lv_irem C.1 C.2.1 hd hn (K H locs L h1 h2 h3 h4)
theorem s_i2l (C : aCx p l s m args c D ka sg A nL own cc) (hd : decode cc pc = .ok (.i2l, 1)) (K : aSim p l e R s m args below meth c Q D ka sg A nL al (pc + 1, ls, .long x.toInt64 :: r, h, k)) : aSim p l e R s m args below meth c Q D ka sg A nL al (pc, ls, .int x :: r, h, k) :=
  fun H locs L h1 h2 h3 h4 => lv_i2l C.1 C.2.1 hd rfl (K H locs L h1 h2 h3 h4)
theorem s_i2c (C : aCx p l s m args c D ka sg A nL own cc) (hd : decode cc pc = .ok (.i2c, 1)) (K : aSim p l e R s m args below meth c Q D ka sg A nL al (pc + 1, ls, .int (x.toUInt32 % 65536).toInt32 :: r, h, k)) : aSim p l e R s m args below meth c Q D ka sg A nL al (pc, ls, .int x :: r, h, k) :=
  fun H locs L h1 h2 h3 h4 => lv_i2c C.1 C.2.1 hd rfl (K H locs L h1 h2 h3 h4)
theorem s_i2f (C : aCx p l s m args c D ka sg A nL own cc) (hd : decode cc pc = .ok (.i2f, 1)) (K : aSim p l e R s m args below meth c Q D ka sg A nL al (pc + 1, ls, .float (FP.i2f x) :: r, h, k)) : aSim p l e R s m args below meth c Q D ka sg A nL al (pc, ls, .int x :: r, h, k) :=
  fun H locs L h1 h2 h3 h4 => lv_i2f C.1 C.2.1 hd (K H locs L h1 h2 h3 h4)
theorem s_i2d (C : aCx p l s m args c D ka sg A nL own cc) (hd : decode cc pc = .ok (.i2d, 1)) (K : aSim p l e R s m args below meth c Q D ka sg A nL al (pc + 1, ls, .double (FP.i2d x) :: r, h, k)) : aSim p l e R s m args below meth c Q D ka sg A nL al (pc, ls, .int x :: r, h, k) :=
  fun H locs L h1 h2 h3 h4 => lv_i2d C.1 C.2.1 hd (K H locs L h1 h2 h3 h4)
theorem s_f2d (C : aCx p l s m args c D ka sg A nL own cc) {z : UInt32} (hn : FP.f2d z &&& 0x7fffffffffffffff ≤ 0x7ff0000000000000) (hd : decode cc pc = .ok (.f2d, 1)) (K : aSim p l e R s m args below meth c Q D ka sg A nL al (pc + 1, ls, .double (FP.f2d z) :: r, h, k)) : aSim p l e R s m args below meth c Q D ka sg A nL al (pc, ls, .float z :: r, h, k) :=
  fun H locs L h1 h2 h3 h4 => lv_f2d C.1 C.2.1 hd hn (K H locs L h1 h2 h3 h4)
theorem s_fdiv (C : aCx p l s m args c D ka sg A nL own cc) {z w : UInt32} (hn : FP.fdiv z w &&& 0x7fffffff ≤ 0x7f800000) (hd : decode cc pc = .ok (.fdiv, 1)) (K : aSim p l e R s m args below meth c Q D ka sg A nL al (pc + 1, ls, .float (FP.fdiv z w) :: r, h, k)) : aSim p l e R s m args below meth c Q D ka sg A nL al (pc, ls, .float w :: .float z :: r, h, k) :=
  fun H locs L h1 h2 h3 h4 => lv_fdiv C.1 C.2.1 hd hn (K H locs L h1 h2 h3 h4)
theorem s_ddiv (C : aCx p l s m args c D ka sg A nL own cc) {z w : UInt64} (hn : FP.ddiv z w &&& 0x7fffffffffffffff ≤ 0x7ff0000000000000) (hd : decode cc pc = .ok (.ddiv, 1)) (K : aSim p l e R s m args below meth c Q D ka sg A nL al (pc + 1, ls, .double (FP.ddiv z w) :: r, h, k)) : aSim p l e R s m args below meth c Q D ka sg A nL al (pc, ls, .double w :: .double z :: r, h, k) :=
  fun H locs L h1 h2 h3 h4 => lv_ddiv C.1 C.2.1 hd hn (K H locs L h1 h2 h3 h4)
theorem s_fconst (C : aCx p l s m args c D ka sg A nL own cc) (hd : decode cc pc = .ok (.fconst 0, 1)) (K : aSim p l e R s m args below meth c Q D ka sg A nL al (pc + 1, ls, .float FP.fconst0 :: st, h, k)) : aSim p l e R s m args below meth c Q D ka sg A nL al (pc, ls, st, h, k) :=
  fun H locs L h1 h2 h3 h4 => lv_fconst0 C.1 C.2.1 hd (K H locs L h1 h2 h3 h4)
theorem s_dconst (C : aCx p l s m args c D ka sg A nL own cc) (hd : decode cc pc = .ok (.dconst 0, 1)) (K : aSim p l e R s m args below meth c Q D ka sg A nL al (pc + 1, ls, .double FP.dconst0 :: st, h, k)) : aSim p l e R s m args below meth c Q D ka sg A nL al (pc, ls, st, h, k) :=
  fun H locs L h1 h2 h3 h4 => lv_dconst0 C.1 C.2.1 hd (K H locs L h1 h2 h3 h4)
theorem s_lcmp (C : aCx p l s m args c D ka sg A nL own cc) {z w : Int64} (hd : decode cc pc = .ok (.lcmp, 1)) (K : aSim p l e R s m args below meth c Q D ka sg A nL al (pc + 1, ls, .int (lg_cmp z w) :: r, h, k)) : aSim p l e R s m args below meth c Q D ka sg A nL al (pc, ls, .long w :: .long z :: r, h, k) :=
  fun H locs L h1 h2 h3 h4 => W.lcmp C.1 C.2.1 hd (K H locs L h1 h2 h3 h4)
theorem s_fcmp (C : aCx p l s m args c D ka sg A nL own cc) {z w : UInt32} {op : CmpOp} (hd : decode cc pc = .ok (.fcmp op, 1)) (K : aSim p l e R s m args below meth c Q D ka sg A nL al (pc + 1, ls, .int (Op.cmpValue (FP.fcmp z w) op) :: r, h, k)) : aSim p l e R s m args below meth c Q D ka sg A nL al (pc, ls, .float w :: .float z :: r, h, k) :=
  fun H locs L h1 h2 h3 h4 => lv_fcmp C.1 C.2.1 hd (K H locs L h1 h2 h3 h4)
theorem s_dcmp (C : aCx p l s m args c D ka sg A nL own cc) {z w : UInt64} {op : CmpOp} (hd : decode cc pc = .ok (.dcmp op, 1)) (K : aSim p l e R s m args below meth c Q D ka sg A nL al (pc + 1, ls, .int (Op.cmpValue (FP.dcmp z w) op) :: r, h, k)) : aSim p l e R s m args below meth c Q D ka sg A nL al (pc, ls, .double w :: .double z :: r, h, k) :=
  fun H locs L h1 h2 h3 h4 => lv_dcmp C.1 C.2.1 hd (K H locs L h1 h2 h3 h4)
theorem s_dup (C : aCx p l s m args c D ka sg A nL own cc) {z : Value} (hz : z.category = 1) (hd : decode cc pc = .ok (.dup, 1)) (K : aSim p l e R s m args below meth c Q D ka sg A nL al (pc + 1, ls, z :: z :: r, h, k)) : aSim p l e R s m args below meth c Q D ka sg A nL al (pc, ls, z :: r, h, k) :=
  fun H locs L h1 h2 h3 h4 => lv_dup C.1 C.2.1 hd (by rw [aCv_cat]; exact hz) (K H locs L h1 h2 h3 h4)
theorem s_dup2 (C : aCx p l s m args c D ka sg A nL own cc) {z w : Value} (hz : z.category = 1) (hw : w.category = 1) (hd : decode cc pc = .ok (.dup2, 1)) (K : aSim p l e R s m args below meth c Q D ka sg A nL al (pc + 1, ls, z :: w :: z :: w :: r, h, k)) : aSim p l e R s m args below meth c Q D ka sg A nL al (pc, ls, z :: w :: r, h, k) :=
  fun H locs L h1 h2 h3 h4 => lv_dup2_11 C.1 C.2.1 hd (by rw [aCv_cat]; exact hz) (by rw [aCv_cat]; exact hw) (K H locs L h1 h2 h3 h4)
theorem s_iushr (C : aCx p l s m args c D ka sg A nL own cc)  (hd : decode cc pc = .ok (.iushr, 1)) (K : aSim p l e R s m args below meth c Q D ka sg A nL al (pc + 1, ls, .int (x.toUInt32 >>> (y.toUInt32 &&& Int32.toUInt32 31)).toInt32 :: r, h, k)) : aSim p l e R s m args below meth c Q D ka sg A nL al (pc, ls, .int y :: .int x :: r, h, k) :=
  fun H locs L h1 h2 h3 h4 => lv_iushr C.1 C.2.1 hd rfl (K H locs L h1 h2 h3 h4)
theorem s_ladd (C : aCx p l s m args c D ka sg A nL own cc) {z w : Int64} (hd : decode cc pc = .ok (.ladd, 1)) (K : aSim p l e R s m args below meth c Q D ka sg A nL al (pc + 1, ls, .long (z + w) :: r, h, k)) : aSim p l e R s m args below meth c Q D ka sg A nL al (pc, ls, .long w :: .long z :: r, h, k) :=
  fun H locs L h1 h2 h3 h4 => lv_ladd C.1 C.2.1 hd (K H locs L h1 h2 h3 h4)
theorem s_lmul (C : aCx p l s m args c D ka sg A nL own cc) {z w : Int64} (hd : decode cc pc = .ok (.lmul, 1)) (K : aSim p l e R s m args below meth c Q D ka sg A nL al (pc + 1, ls, .long (z * w) :: r, h, k)) : aSim p l e R s m args below meth c Q D ka sg A nL al (pc, ls, .long w :: .long z :: r, h, k) :=
  fun H locs L h1 h2 h3 h4 => lv_lmul C.1 C.2.1 hd (K H locs L h1 h2 h3 h4)
theorem s_lload_n (C : aCx p l s m args c D ka sg A nL own cc) {n : Fin 4} {z : Int64} (hl : ls[n.val]? = some (some (.long z))) (hd : decode cc pc = .ok (.lload_n n, 1)) (K : aSim p l e R s m args below meth c Q D ka sg A nL al (pc + 1, ls, .long z :: st, h, k)) : aSim p l e R s m args below meth c Q D ka sg A nL al (pc, ls, st, h, k) :=
  fun H locs L h1 h2 h3 h4 => lv_lload_n C.1 C.2.1 hd rfl (h3.2.2.2 _ _ hl) (K H locs L h1 h2 h3 h4)
theorem s_lstore_n (C : aCx p l s m args c D ka sg A nL own cc) {n : Fin 4} {z : Int64} (hm : aMay ls n.val = true) (hm2 : n.val + 1 < ls.length) (hd : decode cc pc = .ok (.lstore_n n, 1)) (K : aSim p l e R s m args below meth c Q D ka sg A nL al (pc + 1, (ls.set n.val (some (.long z))).set (n.val + 1) none, r, h, k)) : aSim p l e R s m args below meth c Q D ka sg A nL al (pc, ls, .long z :: r, h, k) :=
  fun H locs L h1 h2 h3 h4 => lv_lstore_n C.1 C.2.1 hd rfl h3.has (by rw [← h3.2.2.1]; exact hm2) rfl (fun L1 g => K H locs L1 h1 h2 (h3.back2 hm hm2 g) h4)
theorem s_ldci (C : aCx p l s m args c D ka sg A nL own cc) {idx : Nat} {v : Int32} (hl : Cond.constant own idx v ∈ aWg) (hd : decode cc pc = .ok (.ldc idx, 2)) (K : aSim p l e R s m args below meth c Q D ka sg A nL al (pc + 2, ls, .int v :: st, h, k)) : aSim p l e R s m args below meth c Q D ka sg A nL al (pc, ls, st, h, k) :=
  fun H locs L h1 h2 h3 h4 => lv_ldc C.1 C.2.1 C.2.2.2.1 (C.2.2.2.2.1 _ hl) hd (K H locs L h1 h2 h3 h4)
theorem s_ldc2 (C : aCx p l s m args c D ka sg A nL own cc) {idx : Nat} {v : Int64} (hl : Cond.constantLong own idx v ∈ aWg) (hd : decode cc pc = .ok (.ldc2_w idx, 3)) (K : aSim p l e R s m args below meth c Q D ka sg A nL al (pc + 3, ls, .long v :: st, h, k)) : aSim p l e R s m args below meth c Q D ka sg A nL al (pc, ls, st, h, k) :=
  fun H locs L h1 h2 h3 h4 => lv_ldc2 C.1 C.2.1 C.2.2.2.1 (C.2.2.2.2.1 _ hl) hd (K H locs L h1 h2 h3 h4)
theorem s_ifnull (C : aCx p l s m args c D ka sg A nL own cc) {off : Int} {q : Nat} (hd : decode cc pc = .ok (.ifnull off, 3)) (K : aSim p l e R s m args below meth c Q D ka sg A nL al (pc + 3, ls, r, h, k)) : aSim p l e R s m args below meth c Q D ka sg A nL al (pc, ls, .ref q :: r, h, k) :=
  fun H locs L h1 h2 h3 h4 => lv_ifnull C.1 C.2.1 hd (K H locs L h1 h2 h3 h4)
theorem s_goto (C : aCx p l s m args c D ka sg A nL own cc) {off : Int} {t : Nat} (ht : (pc : Int) + off = (t : Int)) (hd : decode cc pc = .ok (.goto off, 3)) (K : aSim p l e R s m args below meth c Q D ka sg A nL al (t, ls, st, h, k)) : aSim p l e R s m args below meth c Q D ka sg A nL al (pc, ls, st, h, k) :=
  fun H locs L h1 h2 h3 h4 => lv_goto C.1 C.2.1 hd ht (K H locs L h1 h2 h3 h4)
theorem aCond_t {q : ClassFile.Cond} {P : Prop} {z w : Int32} (hp : aCond q z w = true ↔ P) {t t1 : Nat} {X : Nat → Prop} (K : X (if aCond q z w = true then t else t1)) : (P → X t) ∧ (¬ P → X t1) := by
  by_cases h : aCond q z w = true
  · rw [if_pos h] at K
    exact ⟨fun _ => K, fun n => absurd (hp.mp h) n⟩
  · rw [if_neg h] at K
    exact ⟨fun n => absurd (hp.mpr n) h, fun _ => K⟩
theorem s_if (C : aCx p l s m args c D ka sg A nL own cc) {off : Int} {t : Nat} {q : ClassFile.Cond} (ht : (pc : Int) + off = (t : Int)) (hd : decode cc pc = .ok (.ifCond q off, 3)) (K : aSim p l e R s m args below meth c Q D ka sg A nL al (if aCond q x 0 = true then t else pc + 3, ls, r, h, k)) : aSim p l e R s m args below meth c Q D ka sg A nL al (pc, ls, .int x :: r, h, k) := by
  intro H locs L h1 h2 h3 h4
  have G := K H locs L h1 h2 h3 h4
  cases q
  · obtain ⟨a, b⟩ := aCond_t (X := fun t => W p l e R s m args below meth c H locs k.1 k.2 Q (F0 m t L (r.map (aCv sg)))) (show aCond .eq x 0 = true ↔ x = 0 by simp [aCond]) G
    exact lv_if_eq C.1 C.2.1 hd ht a b
  · obtain ⟨a, b⟩ := aCond_t (X := fun t => W p l e R s m args below meth c H locs k.1 k.2 Q (F0 m t L (r.map (aCv sg)))) (show aCond .ne x 0 = true ↔ ¬ x = 0 by simp [aCond]) G
    exact lv_if_ne C.1 C.2.1 hd ht a (fun q => b (fun n => n q))
  · obtain ⟨a, b⟩ := aCond_t (X := fun t => W p l e R s m args below meth c H locs k.1 k.2 Q (F0 m t L (r.map (aCv sg)))) (show aCond .lt x 0 = true ↔ x < 0 by simp [aCond]) G
    exact lv_if_lt C.1 C.2.1 hd ht a b
  · obtain ⟨a, b⟩ := aCond_t (X := fun t => W p l e R s m args below meth c H locs k.1 k.2 Q (F0 m t L (r.map (aCv sg)))) (show aCond .ge x 0 = true ↔ 0 ≤ x by simp [aCond]) G
    exact lv_if_ge C.1 C.2.1 hd ht a b
  · obtain ⟨a, b⟩ := aCond_t (X := fun t => W p l e R s m args below meth c H locs k.1 k.2 Q (F0 m t L (r.map (aCv sg)))) (show aCond .gt x 0 = true ↔ 0 < x by simp [aCond]) G
    exact lv_if_gt C.1 C.2.1 hd ht a b
  · obtain ⟨a, b⟩ := aCond_t (X := fun t => W p l e R s m args below meth c H locs k.1 k.2 Q (F0 m t L (r.map (aCv sg)))) (show aCond .le x 0 = true ↔ x ≤ 0 by simp [aCond]) G
    exact lv_if_le C.1 C.2.1 hd ht a b
theorem s_icmp (C : aCx p l s m args c D ka sg A nL own cc) {off : Int} {t : Nat} {q : ClassFile.Cond} (ht : (pc : Int) + off = (t : Int)) (hd : decode cc pc = .ok (.if_icmp q off, 3)) (K : aSim p l e R s m args below meth c Q D ka sg A nL al (if aCond q x y = true then t else pc + 3, ls, r, h, k)) : aSim p l e R s m args below meth c Q D ka sg A nL al (pc, ls, .int y :: .int x :: r, h, k) := by
  intro H locs L h1 h2 h3 h4
  have G := K H locs L h1 h2 h3 h4
  cases q
  · obtain ⟨a, b⟩ := aCond_t (X := fun t => W p l e R s m args below meth c H locs k.1 k.2 Q (F0 m t L (r.map (aCv sg)))) (show aCond .eq x y = true ↔ x = y by simp [aCond]) G
    exact lv_icmp_eq C.1 C.2.1 hd ht a b
  · obtain ⟨a, b⟩ := aCond_t (X := fun t => W p l e R s m args below meth c H locs k.1 k.2 Q (F0 m t L (r.map (aCv sg)))) (show aCond .ne x y = true ↔ ¬ x = y by simp [aCond]) G
    exact lv_icmp_ne C.1 C.2.1 hd ht a (fun q => b (fun n => n q))
  · obtain ⟨a, b⟩ := aCond_t (X := fun t => W p l e R s m args below meth c H locs k.1 k.2 Q (F0 m t L (r.map (aCv sg)))) (show aCond .lt x y = true ↔ x < y by simp [aCond]) G
    exact lv_icmp_lt C.1 C.2.1 hd ht a b
  · obtain ⟨a, b⟩ := aCond_t (X := fun t => W p l e R s m args below meth c H locs k.1 k.2 Q (F0 m t L (r.map (aCv sg)))) (show aCond .ge x y = true ↔ y ≤ x by simp [aCond]) G
    exact lv_icmp_ge C.1 C.2.1 hd ht a b
  · obtain ⟨a, b⟩ := aCond_t (X := fun t => W p l e R s m args below meth c H locs k.1 k.2 Q (F0 m t L (r.map (aCv sg)))) (show aCond .gt x y = true ↔ y < x by simp [aCond]) G
    exact lv_icmp_gt C.1 C.2.1 hd ht a b
  · obtain ⟨a, b⟩ := aCond_t (X := fun t => W p l e R s m args below meth c H locs k.1 k.2 Q (F0 m t L (r.map (aCv sg)))) (show aCond .le x y = true ↔ x ≤ y by simp [aCond]) G
    exact lv_icmp_le C.1 C.2.1 hd ht a b
theorem s_tableOut (C : aCx p l s m args c D ka sg A nL own cc) {dflt lo hi : Int} {offs : Array Int} {len t : Nat} (ho : x.toInt < lo ∨ hi < x.toInt) (ht : (pc : Int) + dflt = (t : Int)) (hd : decode cc pc = .ok (.tableswitch dflt lo hi offs, len)) (K : aSim p l e R s m args below meth c Q D ka sg A nL al (t, ls, r, h, k)) : aSim p l e R s m args below meth c Q D ka sg A nL al (pc, ls, .int x :: r, h, k) :=
  fun H locs L h1 h2 h3 h4 => lv_tableOut C.1 C.2.1 hd ho ht (K H locs L h1 h2 h3 h4)
theorem s_tableIn (C : aCx p l s m args c D ka sg A nL own cc) {dflt lo hi o : Int} {offs : Array Int} {len : Nat} (ho : ¬ (x.toInt < lo ∨ hi < x.toInt)) (hf : offs[(x.toInt - lo).toNat]? = some o) (ht : 0 ≤ (pc : Int) + o) (hd : decode cc pc = .ok (.tableswitch dflt lo hi offs, len)) (K : aSim p l e R s m args below meth c Q D ka sg A nL al (((pc : Int) + o).toNat, ls, r, h, k)) : aSim p l e R s m args below meth c Q D ka sg A nL al (pc, ls, .int x :: r, h, k) :=
  fun H locs L h1 h2 h3 h4 => lv_tableIn C.1 C.2.1 hd (fun q => ho (Or.inl q)) (fun q => ho (Or.inr q)) hf (Int.toNat_of_nonneg ht).symm (K H locs L h1 h2 h3 h4)
theorem s_lookup (C : aCx p l s m args c D ka sg A nL own cc) {dflt : Int} {ps : Array (Int × Int)} {len : Nat} (hp : (ps.toList.zip (ps.toList.drop 1)).all (fun (a, next) => a.1 < next.1) = true) (ht : 0 ≤ (pc : Int) + Op.lookupswitch.offset ps.toList dflt x.toInt) (hd : decode cc pc = .ok (.lookupswitch dflt ps, len)) (K : aSim p l e R s m args below meth c Q D ka sg A nL al (((pc : Int) + Op.lookupswitch.offset ps.toList dflt x.toInt).toNat, ls, r, h, k)) : aSim p l e R s m args below meth c Q D ka sg A nL al (pc, ls, .int x :: r, h, k) :=
  fun H locs L h1 h2 h3 h4 => lv_lookup C.1 C.2.1 hd hp rfl (Int.toNat_of_nonneg ht).symm (K H locs L h1 h2 h3 h4)
end SND
end
section
/-! SOUNDNESS: fields, arrays, new things -/
theorem aCl_nf : ∀ ci : Nat, ci < 8 → ∃ r : vw_C, aCl[ci]? = some r ∧ r.2.2 = aNf ci := by
  intro ci h
  match ci, h with
  | 0, _ => exact ⟨_, rfl, rfl⟩
  | 1, _ => exact ⟨_, rfl, rfl⟩
  | 2, _ => exact ⟨_, rfl, rfl⟩
  | 3, _ => exact ⟨_, rfl, rfl⟩
  | 4, _ => exact ⟨_, rfl, rfl⟩
  | 5, _ => exact ⟨_, rfl, rfl⟩
  | 6, _ => exact ⟨_, rfl, rfl⟩
  | 7, _ => exact ⟨_, rfl, rfl⟩
/-- each class: its fields' types, its fields' names apart -/
theorem aCl_ok (ci : Nat) (r : vw_C) (h : aCl[ci]? = some r) : (∀ k, k < r.2.2 → parseFieldDescriptor (r.2.1 k).2.2.1 = some (aTy ci k)) ∧ (∀ a, a < r.2.2 → ∀ b, b < r.2.2 → a ≠ b → (r.2.1 a).2.1 ≠ (r.2.1 b).2.1) ∧ r.2.2 = aNf ci ∧ ci < 8 := by
  match ci, h with
  | 0, h => cases h; exact ⟨tyX0_ok, nmX0, rfl, by decide⟩
  | 1, h => cases h; exact ⟨tyX1_ok, nmX1, rfl, by decide⟩
  | 2, h => cases h; exact ⟨tyX2_ok, nmX2, rfl, by decide⟩
  | 3, h => cases h; exact ⟨tyX3_ok, nmX3, rfl, by decide⟩
  | 4, h => cases h; exact ⟨tyX4_ok, nmX4, rfl, by decide⟩
  | 5, h => cases h; exact ⟨tyX5_ok, nmX5, rfl, by decide⟩
  | 6, h => cases h; exact ⟨tyX6_ok, nmX6, rfl, by decide⟩
  | 7, h => cases h; exact ⟨tyX7_ok, nmX7, rfl, by decide⟩
  | n + 8, h => simp at h
/-- all words of the classes' fields are among the tables' -/
def aLays : List Cond := u_ws RX0 TX0 3 ++ (u_ws RX1 TX1 5 ++ (u_ws RX2 TX2 3 ++ (u_ws RX3 TX3 3 ++ (u_ws RX4 TX4 6 ++ (u_ws RX5 TX5 8 ++ (u_ws RX6 TX6 8 ++ u_ws RX7 TX7 8))))))
set_option maxRecDepth 100000 in
theorem aLays_in : ∀ w ∈ aLays, w ∈ aWg := by decide +kernel
theorem aCl_in (ci : Nat) (r : vw_C) (h : aCl[ci]? = some r) : ∀ w ∈ u_ws r.1 r.2.1 r.2.2, w ∈ aWg := by
  intro w hw
  refine aLays_in w ?_
  unfold aLays
  match ci, h with
  | 0, h => cases h; simp only [List.mem_append]; exact Or.inl hw
  | 1, h => cases h; simp only [List.mem_append]; exact Or.inr (Or.inl hw)
  | 2, h => cases h; simp only [List.mem_append]; exact Or.inr (Or.inr (Or.inl hw))
  | 3, h => cases h; simp only [List.mem_append]; exact Or.inr (Or.inr (Or.inr (Or.inl hw)))
  | 4, h => cases h; simp only [List.mem_append]; exact Or.inr (Or.inr (Or.inr (Or.inr (Or.inl hw))))
  | 5, h => cases h; simp only [List.mem_append]; exact Or.inr (Or.inr (Or.inr (Or.inr (Or.inr (Or.inl hw)))))
  | 6, h => cases h; simp only [List.mem_append]; exact Or.inr (Or.inr (Or.inr (Or.inr (Or.inr (Or.inr (Or.inl hw))))))
  | 7, h => cases h; simp only [List.mem_append]; exact Or.inr (Or.inr (Or.inr (Or.inr (Or.inr (Or.inr (Or.inr hw))))))
  | n + 8, h => simp at h
theorem aFit_ok {sg : Nat → Nat} {ty : FieldType} {x : Value} (h : aFit ty x = true) : narrow ty (aCv sg x) = aCv sg x ∧ fits ty (aCv sg x) = true := by
  cases x with
  | int z =>
    cases ty with
    | int => exact ⟨vp_nar_int z, rfl⟩
    | boolean =>
      have h1 : (z == 0 || z == 1) = true := h
      rw [Bool.or_eq_true] at h1
      rcases h1 with h1 | h1
      · rw [eq_of_beq h1]; show narrow .boolean (.int 0) = .int 0 ∧ fits .boolean (.int 0) = true; decide
      · rw [eq_of_beq h1]; show narrow .boolean (.int 1) = .int 1 ∧ fits .boolean (.int 1) = true; decide
    | char =>
      have e : (z.toUInt32 % 65536).toInt32 = z := eq_of_beq h
      have h1 := pk_nc z
      have h2 := pk_fc z
      rw [e] at h1 h2
      exact ⟨h1, h2⟩
    | _ => exact Bool.noConfusion h
  | float z => cases ty <;> first | exact Bool.noConfusion h | exact ⟨rfl, rfl⟩
  | double z => cases ty <;> first | exact Bool.noConfusion h | exact ⟨rfl, rfl⟩
  | ref z => cases ty <;> first | exact Bool.noConfusion h | exact ⟨rfl, rfl⟩
  | long z => cases ty <;> exact Bool.noConfusion h
  | null => cases ty <;> exact Bool.noConfusion h
  | retAddr z => cases ty <;> exact Bool.noConfusion h
theorem aIx_in {i : Int32} {n j : Nat} (h : aIx i n = some j) : vp_in i n ∧ i.toNatClampNeg = j := by
  unfold aIx at h
  split at h
  · cases h
  · rename_i hn
    cases h
    exact ⟨hn, rfl⟩
section SNH
variable {p : Program} {l : Launch} {e : Env} {R : Room} {s : State} {m : MethodId} {args : Array Value} {below : List Frame} {meth : Method} {c : Code} {Q : State → Prop} {D : va_G} {ka : FieldType → ClassId} {sg : Nat → Nat} {A : Nat → Prop} {nL : Nat} {own : String} {cc : ByteArray} {al : Bool}
variable {pc : Nat} {ls : List (Option Value)} {st r : List Value} {h : aH} {k : aK} {x y : Int32}
theorem s_getfield (C : aCx p l s m args c D ka sg A nL own cc) {idx q ci b : Nat} {fs : List Value} {v : Value} {rc : vw_C} (hq : h[q]? = some (true, .inr (ci, fs))) (hc : aCl[ci]? = some rc) (hb : b < rc.2.2) (hl : Cond.fieldLink own idx (rc.2.1 b).1 (rc.2.1 b).2.1 (rc.2.1 b).2.2.1 ∈ aWg) (hv : fs[b]? = some v) (hd : decode cc pc = .ok (.getfield idx, 3)) (K : aSim p l e R s m args below meth c Q D ka sg A nL al (pc + 3, ls, v :: r, h, k)) : aSim p l e R s m args below meth c Q D ka sg A nL al (pc, ls, .ref q :: r, h, k) := by
  intro H locs L h1 h2 h3 h4
  obtain ⟨hx, hbc, -, hown, hts, hK, -, -⟩ := C
  obtain ⟨-, r', hr', cell, q1, q2, q3, q4⟩ := h1.1 q _ hq
  cases Option.some.inj (hr'.symm.trans hc)
  obtain ⟨hS, hfc, kC, hkC, hkind⟩ := hK.1.1 ci _ hc
  obtain ⟨cf, kf, fi, f, hi, hsl⟩ := hS b hb
  refine W.getf hx hbc hown (hts _ hl) hi (u_facts hfc hkC (u_lays hts (aCl_in ci _ hc) hb) hi).1 q1 (by rw [q3]; exact fun h => by cases h) (v := aCv sg v) ?_ rfl rfl hd (K H locs L h1 h2 h3 h4)
  rw [hsl, q4 b hb]
  simp [vp_V, hv]
theorem a_apart {ci : Nat} {rc : vw_C} (hts : ∀ w ∈ aWg, w.before args s = true) (hK : aKn D ka sg A s) (hc : aCl[ci]? = some rc) : ∀ x y, x < rc.2.2 → y < rc.2.2 → x ≠ y → (D.2 ci) x ≠ (D.2 ci) y := by
  intro x y hx hy hne
  obtain ⟨hS, -⟩ := hK.1.1 ci _ hc
  obtain ⟨hty, hnm, -, -⟩ := aCl_ok ci rc hc
  obtain ⟨_, _, _, fa, hia, ea⟩ := hS x hx
  obtain ⟨_, _, _, fb, hib, eb⟩ := hS y hy
  rw [← ea, ← eb]
  refine u_apart (u_lays hts (aCl_in ci _ hc) hx) (u_lays hts (aCl_in ci _ hc) hy) hia hib ?_
  rw [(State.fieldFound?_type hia (hty x hx)).1, (State.fieldFound?_type hib (hty y hy)).1]
  exact hnm x hx y hy hne
theorem s_putfield (C : aCx p l s m args c D ka sg A nL own cc) {idx q ci b : Nat} {fs : List Value} {v : Value} {rc : vw_C} (hq : h[q]? = some (true, .inr (ci, fs))) (hc : aCl[ci]? = some rc) (hb : b < rc.2.2) (hl : Cond.fieldLink own idx (rc.2.1 b).1 (rc.2.1 b).2.1 (rc.2.1 b).2.2.1 ∈ aWg) (hfin : (rc.2.1 b).2.2.2 = false ∨ (meth.name = "<init>" ∧ (rc.2.1 b).1 = own)) (hv : aFit (aTy ci b) v = true) (hfs : b < fs.length) (hd : decode cc pc = .ok (.putfield idx, 3)) (K : aSim p l e R s m args below meth c Q D ka sg A nL al (pc + 3, ls, r, h.set q (true, .inr (ci, fs.set b v)), k)) : aSim p l e R s m args below meth c Q D ka sg A nL al (pc, ls, v :: .ref q :: r, h, k) := by
  intro H locs L h1 h2 h3 h4
  have hap := a_apart (args := args) C.2.2.2.2.1 C.2.2.2.2.2.1 hc
  obtain ⟨hx, hbc, -, hown, hts, hK, -, -⟩ := C
  obtain ⟨hAq, r', hr', cell, q1, q2, q3, q4⟩ := h1.1 q _ hq
  cases Option.some.inj (hr'.symm.trans hc)
  obtain ⟨hS, hfc, kC, hkC, hkind⟩ := hK.1.1 ci _ hc
  obtain ⟨cf, kf, fi, f, hi, hsl⟩ := hS b hb
  obtain ⟨hty, -, -, -⟩ := aCl_ok ci _ hc
  obtain ⟨hn, hfit⟩ := aFit_ok (sg := sg) hv
  have hlay := hts _ (aCl_in ci _ hc _ (u_in_lay hb))
  have hst := (u_facts hfc hkC (u_lays hts (aCl_in ci _ hc) hb) hi).1
  have hnew : ∀ H' : Heap, H'[sg q]? = some (cell.setSlot f.slot (aCv sg v)) → H'.size = H.size → (∀ a : Nat, a ≠ sg q → H'[a]? = H[a]?) → W p l e R s m args below meth c H' (locs ++ [⟨sg q, f.slot⟩]) k.1 k.2 Q (F0 m (pc + 3) L (r.map (aCv sg))) := by
    intro H' e1 e2 e3
    refine K H' _ L (h1.set hq hAq ⟨hAq, _, hc, ?_⟩ e3) (h2.put e2 e3 hAq) h3 (fun ha j => ?_)
    · rw [hsl] at e1
      refine t_OB.to (V := updV (vp_V (fs.map (aCv sg))) b (aCv sg v)) ⟨_, e1, q2, q3, t_set q4 hap hb _⟩ (fun j _ => ?_)
      rw [vp_updV_set (by rw [List.length_map]; exact hfs), List.map_set]
    · rw [List.length_set, e2]
      exact h4 ha j
  rcases Bool.eq_false_or_eq_true (rc.2.1 b).2.2.2 with hf | hf
  · obtain ⟨hin, hdecl⟩ := hfin.resolve_left (fun q => by rw [hf] at q; cases q)
    unfold u_lay at hlay
    rw [if_pos hf] at hlay
    have hcf : m.cls = cf := by
      obtain ⟨_, _, c', _, _, _, -, -, hf', -, -, -, hown2, -⟩ := Cond.laysFinal_spec hlay
      have e1 : c' = cf := by have := hi.symm.trans hf'; simp at this; exact this.1.symm
      rw [hdecl] at hown2
      rw [← e1]; exact Option.some.inj (hown.symm.trans hown2)
    have h6 := u_fits hfc hkC hkind (Or.inr hlay) hi (hty b hb) hn hfit
    exact W.putFinK hx hbc hown (hts _ hl) hi hst hcf hin (by rw [q2]; exact h6) q1 q3 (by rw [hsl]; exact k2_hasslot (q4 b hb)) rfl rfl hd hnew
  · unfold u_lay at hlay
    rw [if_neg (by rw [hf]; decide)] at hlay
    have h6 := u_store hfc hkC hkind hlay hi (hty b hb) hn hfit
    exact W.putK hx hbc (f := f) ⟨hown, hts _ hl, ⟨_, _, _, hi⟩, hst⟩ (by rw [q2]; exact h6) q1 q3 (by rw [hsl]; exact k2_hasslot (q4 b hb)) rfl rfl hd hnew
end SNH
end
section
/-! SOUNDNESS: arrays -/
theorem aRel.arr {D : va_G} {ka : FieldType → ClassId} {sg : Nat → Nat} {A : Nat → Prop} {U : State} {h : aH} {H : Heap} (h1 : aRel D ka sg A U h H) {ty : FieldType} (hK : ArrOfT U (ka ty) ty) {q : Nat} {w : Bool} {n : Nat} {f : Nat → Int32} (hq : h[q]? = some (w, .inl (ty, n, .inl f))) : ∃ cell : Cell, H[sg q]? = some cell ∧ U.isArrayOf cell ty ∧ cell.vm ≠ .unknown ∧ n ≤ cell.slots.size ∧ cell.slots.size.toInt32 = Int32.ofNat n ∧ ∀ j : Nat, j < n → cell.slots[j]? = some (.int (f j)) := by
  cases w with
  | true =>
    have h2 := (h1.1 q _ hq).2
    refine ⟨_, h2, hK n (fun j => .int (f j)), (fun q => by cases q), Nat.le_of_eq (arrV_size (ka ty) n (fun j => .int (f j))).symm, ?_, fun j hj => arrV_read _ _ hj⟩
    show (arrV (ka ty) n (fun j => .int (f j))).slots.size.toInt32 = _
    rw [arrV_size]
  | false =>
    obtain ⟨g, e, cell, g1, g2, g3, g4, g5, g6, -⟩ := h1.1 q _ hq
    cases e
    exact ⟨cell, g1, g2, g3, g4, g5, g6⟩
theorem aIn_size {i : Int32} {n N : Nat} (h : vp_in i n) (hn : n ≤ N) : ¬ (i < 0 ∨ N ≤ i.toNatClampNeg) := by
  intro q
  rcases q with q | q
  · exact h (Or.inl q)
  · exact h (Or.inr (Nat.le_trans hn q))
section SNA
variable {p : Program} {l : Launch} {e : Env} {R : Room} {s : State} {m : MethodId} {args : Array Value} {below : List Frame} {meth : Method} {c : Code} {Q : State → Prop} {D : va_G} {ka : FieldType → ClassId} {sg : Nat → Nat} {A : Nat → Prop} {nL : Nat} {own : String} {cc : ByteArray} {al : Bool}
variable {pc : Nat} {ls : List (Option Value)} {st r : List Value} {h : aH} {k : aK} {x y i : Int32} {q n j : Nat} {w : Bool}
theorem s_iaload (C : aCx p l s m args c D ka sg A nL own cc) {f : Nat → Int32} (hq : h[q]? = some (w, .inl (.int, n, .inl f))) (hi : aIx i n = some j) (hd : decode cc pc = .ok (.iaload, 1)) (K : aSim p l e R s m args below meth c Q D ka sg A nL al (pc + 1, ls, .int (f j) :: r, h, k)) : aSim p l e R s m args below meth c Q D ka sg A nL al (pc, ls, .int i :: .ref q :: r, h, k) := by
  intro H locs L h1 h2 h3 h4
  obtain ⟨hx, hbc, -, hown, hts, hK, -, -⟩ := C
  obtain ⟨cell, g1, g2, g3, g4, g5, g6⟩ := h1.arr (hK.1.2.1 .int (by simp)).1 hq
  obtain ⟨hin, rfl⟩ := aIx_in hi
  exact W.iald hx hbc g1 g2 g3 (aIn_size hin g4) (g6 _ (Nat.not_le.mp fun z => hin (Or.inr z))) rfl rfl hd (K H locs L h1 h2 h3 h4)
theorem s_caload (C : aCx p l s m args c D ka sg A nL own cc) {f : Nat → Int32} (hq : h[q]? = some (w, .inl (.char, n, .inl f))) (hi : aIx i n = some j) (hd : decode cc pc = .ok (.caload, 1)) (K : aSim p l e R s m args below meth c Q D ka sg A nL al (pc + 1, ls, .int (f j) :: r, h, k)) : aSim p l e R s m args below meth c Q D ka sg A nL al (pc, ls, .int i :: .ref q :: r, h, k) := by
  intro H locs L h1 h2 h3 h4
  obtain ⟨hx, hbc, -, hown, hts, hK, -, -⟩ := C
  obtain ⟨cell, g1, g2, g3, g4, g5, g6⟩ := h1.arr (hK.1.2.1 .char (by simp)).1 hq
  obtain ⟨hin, rfl⟩ := aIx_in hi
  exact W.cald hx hbc g1 g2 g3 (aIn_size hin g4) (g6 _ (Nat.not_le.mp fun z => hin (Or.inr z))) rfl rfl hd (K H locs L h1 h2 h3 h4)
theorem s_laload (C : aCx p l s m args c D ka sg A nL own cc) {f : Nat → Int64} (hq : h[q]? = some (w, .inl (.long, n, .inr (.inl f)))) (hi : aIx i n = some j) (hd : decode cc pc = .ok (.laload, 1)) (K : aSim p l e R s m args below meth c Q D ka sg A nL al (pc + 1, ls, .long (f j) :: r, h, k)) : aSim p l e R s m args below meth c Q D ka sg A nL al (pc, ls, .int i :: .ref q :: r, h, k) := by
  intro H locs L h1 h2 h3 h4
  obtain ⟨hx, hbc, -, hown, hts, hK, -, -⟩ := C
  have g := h1.1 q _ hq
  cases w with
  | false =>
    obtain ⟨f1, e1, -⟩ := g
    cases e1
  | true =>
    obtain ⟨hin, rfl⟩ := aIx_in hi
    exact W.lald hx hbc g.2 ((hK.1.2.1 .long (by simp)).1 n (fun j => .long (f j))) (fun z => by cases z) (by show ¬ (i < 0 ∨ (arrV _ _ _).slots.size ≤ _); rw [arrV_size]; exact hin) (arrV_read _ _ (Nat.not_le.mp fun z => hin (Or.inr z))) rfl rfl hd (K H locs L h1 h2 h3 h4)
theorem s_aaload (C : aCx p l s m args c D ka sg A nL own cc) {f : Nat → Option Nat} {ty : FieldType} {y : Nat} (hq : h[q]? = some (true, .inl (ty, n, .inr (.inr (.inr (.inr f)))))) (hty : ty ∈ aTys ∧ ty.isReference = true) (hi : aIx i n = some j) (hy : f j = some y) (hd : decode cc pc = .ok (.aaload, 1)) (K : aSim p l e R s m args below meth c Q D ka sg A nL al (pc + 1, ls, .ref y :: r, h, k)) : aSim p l e R s m args below meth c Q D ka sg A nL al (pc, ls, .int i :: .ref q :: r, h, k) := by
  intro H locs L h1 h2 h3 h4
  obtain ⟨hx, hbc, -, hown, hts, hK, -, -⟩ := C
  have g := h1.1 q _ hq
  obtain ⟨hin, rfl⟩ := aIx_in hi
  refine W.aald hx hbc g.2 ((hK.1.2.1 ty hty.1).1 n (fun j => va_rf ((f j).map sg))) hty.2 (fun z => by cases z) (by show ¬ (i < 0 ∨ (arrV _ _ _).slots.size ≤ _); rw [arrV_size]; exact hin) (v := .ref (sg y)) ?_ rfl rfl hd (K H locs L h1 h2 h3 h4)
  refine (arrV_read _ _ (Nat.not_le.mp fun z => hin (Or.inr z))).trans ?_
  show some (va_rf ((f i.toNatClampNeg).map sg)) = _
  rw [hy]
  rfl
theorem s_arraylength (C : aCx p l s m args c D ka sg A nL own cc) {ty : FieldType} {z : vp_A} (hq : h[q]? = some (w, .inl (ty, z))) (hty : ty ∈ aTys) (hd : decode cc pc = .ok (.arraylength, 1)) (K : aSim p l e R s m args below meth c Q D ka sg A nL al (pc + 1, ls, .int (Int32.ofNat z.1) :: r, h, k)) : aSim p l e R s m args below meth c Q D ka sg A nL al (pc, ls, .ref q :: r, h, k) := by
  intro H locs L h1 h2 h3 h4
  obtain ⟨hx, hbc, -, hown, hts, hK, -, -⟩ := C
  have g := h1.1 q _ hq
  cases w with
  | false =>
    obtain ⟨f1, e1, cell, g1, g2, g3, g4, g5, g6⟩ := g
    exact W.alen hx hbc g1 g2 g5 rfl rfl hd (K H locs L h1 h2 h3 h4)
  | true =>
    have hS : ∀ f : Nat → Value, (arrV (ka ty) z.1 f).slots.size.toInt32 = Int32.ofNat z.1 := fun f => by rw [arrV_size]
    have hO := (hK.1.2.1 ty hty).1 z.1
    have g2 := g.2
    obtain ⟨n, f | f | f | f | f⟩ := z
    · exact W.alen hx hbc g2 (hO (fun j => .int (f j))) (hS _) rfl rfl hd (K H locs L h1 h2 h3 h4)
    · exact W.alen hx hbc g2 (hO (fun j => .long (f j))) (hS _) rfl rfl hd (K H locs L h1 h2 h3 h4)
    · exact W.alen hx hbc g2 (hO (fun j => .float (f j))) (hS _) rfl rfl hd (K H locs L h1 h2 h3 h4)
    · exact W.alen hx hbc g2 (hO (fun j => .double (f j))) (hS _) rfl rfl hd (K H locs L h1 h2 h3 h4)
    · exact W.alen hx hbc g2 (hO (fun j => va_rf ((f j).map sg))) (hS _) rfl rfl hd (K H locs L h1 h2 h3 h4)
/-- behind a store into an array -/
theorem aSim_put {H H1 : Heap} {locs : List Loc} {L : Array Slot} {e0 e1 : aE} {t : Nat} (K : aSim p l e R s m args below meth c Q D ka sg A nL al (pc, ls, r, h.set q (true, e1), k)) (h1 : aRel D ka sg A s h H) (h2 : va_S A s.heap H locs) (h3 : aLoc sg L nL ls) (h4 : al = true → ∀ j : Nat, sg (h.length + j) = H.size + j) (hq : h[q]? = some (true, e0)) (hn : aOn D ka sg A s H1 q (true, e1)) (z : H1.size = H.size) (ho : ∀ a : Nat, a ≠ sg q → H1[a]? = H[a]?) (hA : A (sg q)) : W p l e R s m args below meth c H1 (locs ++ [⟨sg q, t⟩]) k.1 k.2 Q (F0 m pc L (r.map (aCv sg))) :=
  K H1 _ L (h1.set hq hA hn ho) (h2.put z ho hA) h3 (fun ha j => by show sg ((h.set q (true, e1)).length + j) = _; rw [List.length_set, z]; exact h4 ha j)
theorem s_iastore (C : aCx p l s m args c D ka sg A nL own cc) {f : Nat → Int32} (hq : h[q]? = some (true, .inl (.int, n, .inl f))) (hi : aIx i n = some j) (hd : decode cc pc = .ok (.iastore, 1)) (K : aSim p l e R s m args below meth c Q D ka sg A nL al (pc + 1, ls, r, h.set q (true, .inl (.int, n, .inl (upd f j x))), k)) : aSim p l e R s m args below meth c Q D ka sg A nL al (pc, ls, .int x :: .int i :: .ref q :: r, h, k) := by
  intro H locs L h1 h2 h3 h4
  have hx := C.1
  have hbc := C.2.1
  have hK := C.2.2.2.2.2.1
  have g := h1.1 q _ hq
  obtain ⟨hin, rfl⟩ := aIx_in hi
  refine W.iast hx hbc g.2 ((hK.1.2.1 .int (by simp)).1 n (fun j => .int (f j))) (fun z => by cases z) (by show ¬ (i < 0 ∨ (arrV _ _ _).slots.size ≤ _); rw [arrV_size]; exact hin) rfl rfl hd fun H1 e z oq => ?_
  refine aSim_put K h1 h2 h3 h4 hq ⟨g.1, ?_⟩ z oq g.1
  rw [e]
  show some ((arrV (ka .int) n (fun j => .int (f j))).setSlot i.toNatClampNeg (.int x)) = some (arrV (ka .int) n (fun j => .int (upd f i.toNatClampNeg x j)))
  rw [arrV_store]
  congr 2
  funext a
  by_cases ha : a = i.toNatClampNeg
  · subst ha
    simp [updV, upd]
  · simp [updV, upd, ha]
theorem s_castore (C : aCx p l s m args c D ka sg A nL own cc) {f : Nat → Int32} (hq : h[q]? = some (true, .inl (.char, n, .inl f))) (hc : (x.toUInt32 % 65536).toInt32 = x) (hi : aIx i n = some j) (hd : decode cc pc = .ok (.castore, 1)) (K : aSim p l e R s m args below meth c Q D ka sg A nL al (pc + 1, ls, r, h.set q (true, .inl (.char, n, .inl (upd f j x))), k)) : aSim p l e R s m args below meth c Q D ka sg A nL al (pc, ls, .int x :: .int i :: .ref q :: r, h, k) := by
  intro H locs L h1 h2 h3 h4
  have hx := C.1
  have hbc := C.2.1
  have hK := C.2.2.2.2.2.1
  have g := h1.1 q _ hq
  obtain ⟨hin, rfl⟩ := aIx_in hi
  refine W.cast hx hbc g.2 ((hK.1.2.1 .char (by simp)).1 n (fun j => .int (f j))) (fun z => by cases z) (by show ¬ (i < 0 ∨ (arrV _ _ _).slots.size ≤ _); rw [arrV_size]; exact hin) rfl rfl hd fun H1 e z oq => ?_
  refine aSim_put K h1 h2 h3 h4 hq ⟨g.1, ?_⟩ z oq g.1
  have hn : narrow .char (.int x) = .int x := by
    have h0 := pk_nc x
    rw [hc] at h0
    exact h0
  rw [e, hn]
  show some ((arrV (ka .char) n (fun j => .int (f j))).setSlot i.toNatClampNeg (.int x)) = some (arrV (ka .char) n (fun j => .int (upd f i.toNatClampNeg x j)))
  rw [arrV_store]
  congr 2
  funext a
  by_cases ha : a = i.toNatClampNeg
  · subst ha
    simp [updV, upd]
  · simp [updV, upd, ha]
theorem s_lastore (C : aCx p l s m args c D ka sg A nL own cc) {f : Nat → Int64} {v : Int64} (hq : h[q]? = some (true, .inl (.long, n, .inr (.inl f)))) (hi : aIx i n = some j) (hd : decode cc pc = .ok (.lastore, 1)) (K : aSim p l e R s m args below meth c Q D ka sg A nL al (pc + 1, ls, r, h.set q (true, .inl (.long, n, .inr (.inl (vp_updL f j v)))), k)) : aSim p l e R s m args below meth c Q D ka sg A nL al (pc, ls, .long v :: .int i :: .ref q :: r, h, k) := by
  intro H locs L h1 h2 h3 h4
  have hx := C.1
  have hbc := C.2.1
  have hK := C.2.2.2.2.2.1
  have g := h1.1 q _ hq
  obtain ⟨hin, rfl⟩ := aIx_in hi
  refine W.last hx hbc g.2 ((hK.1.2.1 .long (by simp)).1 n (fun j => .long (f j))) (fun z => by cases z) (by show ¬ (i < 0 ∨ (arrV _ _ _).slots.size ≤ _); rw [arrV_size]; exact hin) rfl rfl hd fun H1 e z oq => ?_
  refine aSim_put K h1 h2 h3 h4 hq ⟨g.1, ?_⟩ z oq g.1
  rw [e]
  show some ((arrV (ka .long) n (fun j => .long (f j))).setSlot i.toNatClampNeg (.long v)) = some (arrV (ka .long) n (fun j => .long (vp_updL f i.toNatClampNeg v j)))
  rw [arrV_store]
  congr 2
  funext a
  by_cases ha : a = i.toNatClampNeg
  · subst ha
    simp [updV, vp_updL]
  · simp [updV, vp_updL, ha]
theorem s_aastore (C : aCx p l s m args c D ka sg A nL own cc) {f : Nat → Option Nat} {v : Nat} {fs : List Value} (hq : h[q]? = some (true, .inl (.object RX6, n, .inr (.inr (.inr (.inr f)))))) (hv : h[v]? = some (true, .inr (6, fs))) (hi : aIx i n = some j) (hd : decode cc pc = .ok (.aastore, 1)) (K : aSim p l e R s m args below meth c Q D ka sg A nL al (pc + 1, ls, r, h.set q (true, .inl (.object RX6, n, .inr (.inr (.inr (.inr (va_up f j (some v))))))), k)) : aSim p l e R s m args below meth c Q D ka sg A nL al (pc, ls, .ref v :: .int i :: .ref q :: r, h, k) := by
  intro H locs L h1 h2 h3 h4
  have hx := C.1
  have hbc := C.2.1
  have hK := C.2.2.2.2.2.1
  have g := h1.1 q _ hq
  obtain ⟨hin, rfl⟩ := aIx_in hi
  have hlt : i.toNatClampNeg < n := Nat.not_le.mp fun q => hin (Or.inr q)
  have h0 : ¬ i < 0 := fun q => hin (Or.inl q)
  obtain ⟨-, r', hr', cellV, g1, g2, g3, -⟩ := h1.1 v _ hv
  have hcls := (hK.1.1 6 _ hr').2
  have hr6 : r' = (RX6, TX6, 8) := Option.some.inj (hr'.symm.trans rfl)
  subst hr6
  obtain ⟨kA, comp, k1, k2, k3, -⟩ := (hK.1.2.1 (.object RX6) (by simp)).2
  have hcomp : comp = D.1 6 := Option.some.inj (k3.symm.trans hcls.1)
  subst hcomp
  obtain ⟨kC, hkC, -⟩ := hcls.2
  refine W.aast hx hbc g.2 (fun q h => by cases h) (fun h => by cases h) k1 k2 rfl hkC ⟨h0, by show _ < (arrV _ _ _).slots.size; rw [arrV_size]; exact hlt⟩ g1 (fun q h => by rw [g3] at h; cases h) (by rw [g2]; exact hkC) (by rw [g2]; exact va_assign hcls) rfl rfl hd fun H1 e z oq => ?_
  refine aSim_put K h1 h2 h3 h4 hq ⟨g.1, ?_⟩ z oq g.1
  rw [e]
  show some ((arrV (ka (.object RX6)) n (fun j => va_rf ((f j).map sg))).setSlot i.toNatClampNeg (.ref (sg v))) = some (arrV (ka (.object RX6)) n (fun j => va_rf ((va_up f i.toNatClampNeg (some v) j).map sg)))
  rw [arrV_store]
  congr 2
  funext a
  by_cases ha : a = i.toNatClampNeg
  · subst ha
    simp [updV, va_up, va_rf]
  · simp [updV, va_up, ha]
end SNA
end
section
/-! SOUNDNESS: statics, strings, new things, copies -/
theorem aDef_cv (sg : Nat → Nat) (ty : FieldType) : aCv sg (defaultValue ty) = defaultValue ty := by cases ty <;> rfl
section SNN
variable {p : Program} {l : Launch} {e : Env} {R : Room} {s : State} {m : MethodId} {args : Array Value} {below : List Frame} {meth : Method} {c : Code} {Q : State → Prop} {D : va_G} {ka : FieldType → ClassId} {sg : Nat → Nat} {A : Nat → Prop} {nL : Nat} {own : String} {cc : ByteArray} {al : Bool}
variable {pc : Nat} {ls : List (Option Value)} {st r : List Value} {h : aH} {k : aK} {x y i : Int32} {q n j : Nat} {w : Bool}
theorem s_getstatic (C : aCx p l s m args c D ka sg A nL own cc) {idx a : Nat} (ha : a < 5) (hl : Cond.fieldLink own idx RX7 (aGs a).1 (aGs a).2 ∈ aWg) (hd : decode cc pc = .ok (.getstatic idx, 3)) (K : aSim p l e R s m args below meth c Q D ka sg A nL al (pc + 3, ls, .ref a :: st, h, k)) : aSim p l e R s m args below meth c Q D ka sg A nL al (pc, ls, st, h, k) := by
  intro H locs L h1 h2 h3 h4
  obtain ⟨hx, hbc, -, hown, hts, hK, -, -⟩ := C
  exact va_gets hx hbc (hK.2.1 a ha) h2 hown (hts _ hl) (fun _ z => z) hd (K H locs L h1 h2 h3 h4)
theorem s_getstaticN (C : aCx p l s m args c D ka sg A nL own cc) {idx a : Nat} (ha : a < 5) (hl : (own, idx, (aGs a).1, (aGs a).2) ∈ aNestF) (hd : decode cc pc = .ok (.getstatic idx, 3)) (K : aSim p l e R s m args below meth c Q D ka sg A nL al (pc + 3, ls, .ref a :: st, h, k)) : aSim p l e R s m args below meth c Q D ka sg A nL al (pc, ls, st, h, k) := by
  intro H locs L h1 h2 h3 h4
  obtain ⟨hx, hbc, -, hown, hts, hK, -, -⟩ := C
  exact va_getsN hx hbc (hK.2.1 a ha) h2 hown (va_Nw.use rfl (hK.1.2.2.1 _ hl)) (fun _ z => z) hd (K H locs L h1 h2 h3 h4)
theorem s_ldc (C : aCx p l s m args c D ka sg A nL own cc) {idx a : Nat} {tx : String} (hv : vk_R own idx tx (sg a) s) (hd : decode cc pc = .ok (.ldc idx, 2)) (K : aSim p l e R s m args below meth c Q D ka sg A nL al (pc + 2, ls, .ref a :: st, h, k)) : aSim p l e R s m args below meth c Q D ka sg A nL al (pc, ls, st, h, k) := by
  intro H locs L h1 h2 h3 h4
  obtain ⟨hx, hbc, -, hown, hts, hK, -, -⟩ := C
  exact va_ldcS hx hbc hown hv hd (K H locs L h1 h2 h3 h4)
theorem s_new (C : aCx p l s m args c D ka sg A nL own cc) {idx ci : Nat} {rc : vw_C} (hal : al = true) (hc : aCl[ci]? = some rc) (hl : Cond.classLink own idx rc.1 ∈ aWg) (hi : Cond.instantiable rc.1 rc.2.2 ∈ aWg) (hini : Cond.initialized rc.1 ∈ aWg) (hkc : k.1 + 1 ≤ R.cells) (hks : k.2 + aNf ci ≤ R.slots) (hd : decode cc pc = .ok (.new idx, 3))
    (K : aSim p l e R s m args below meth c Q D ka sg A nL al (pc + 3, ls, .ref h.length :: st, h ++ [(true, .inr (ci, (List.range (aNf ci)).map fun j => defaultValue (aTy ci j)))], (k.1 + 1, k.2 + aNf ci))) : aSim p l e R s m args below meth c Q D ka sg A nL al (pc, ls, st, h, k) := by
  intro H locs L h1 h2 h3 h4
  obtain ⟨hx, hbc, -, hown, hts, hK, hA, -⟩ := C
  have hKn := hK.1.1 ci _ hc
  obtain ⟨hty, -, hN, -⟩ := aCl_ok ci rc hc
  have hs : sg h.length = H.size := by have := h4 hal 0; simpa using this
  rw [← hN] at hks
  refine W.newcK hx hbc hown (hts _ hl) (hts _ hi) (hts _ hini) rfl hd hkc hks hKn.2.1 rfl fun H1 kC hkC e1 z1 o1 => ?_
  have hAq : A H.size := hA _ h2.1
  have G := K H1 locs L (h1.push hs ⟨by rw [hs]; exact hAq, _, hc, ?_⟩ o1) ⟨Nat.le_trans h2.1 (by omega), fun x g1 g2 => (o1 x (Nat.lt_of_lt_of_le g1 h2.1)).trans (h2.2.1 x g1 g2), h2.2.2⟩ h3 (fun ha j => ?_)
  · rw [← hN] at G
    rw [← hs]
    exact G
  · rw [hs]
    refine (u_born (aTy ci) hts (aCl_in ci _ hc) hKn hkC e1 hty).to (fun j hj => ?_)
    rw [← hN]
    simp [vp_V, hj, aDef_cv]
  · show sg ((h ++ [_]).length + j) = _
    rw [List.length_append, z1]
    have := h4 ha (1 + j)
    simp only [List.length_singleton]
    rw [Nat.add_assoc, this]
    omega
/-- a new array at the heap's end -/
theorem aSim_arr {H H1 : Heap} {locs : List Loc} {L : Array Slot} {ty : FieldType} {z : vp_A} {cA : ClassId} {k1 : aK} (K : aSim p l e R s m args below meth c Q D ka sg A nL al (pc, ls, .ref h.length :: r, h ++ [(true, .inl (ty, z))], k1)) (hal : al = true) (hA : ∀ q : Nat, s.heap.size ≤ q → A q) (h1 : aRel D ka sg A s h H) (h2 : va_S A s.heap H locs) (h3 : aLoc sg L nL ls) (h4 : al = true → ∀ j : Nat, sg (h.length + j) = H.size + j) (e1 : H1[H.size]? = some (vp_cell cA (aCa sg z))) (hc : cA = ka ty) (z1 : H1.size = H.size + 1) (o1 : ∀ q : Nat, q < H.size → H1[q]? = H[q]?) : W p l e R s m args below meth c H1 locs k1.1 k1.2 Q (F0 m pc L (.ref H.size :: r.map (aCv sg))) := by
  have hs : sg h.length = H.size := by have := h4 hal 0; simpa using this
  have G := K H1 locs L (h1.push hs ⟨by rw [hs]; exact hA _ h2.1, by rw [hs, e1, hc]⟩ o1) ⟨Nat.le_trans h2.1 (by omega), fun x g1 g2 => (o1 x (Nat.lt_of_lt_of_le g1 h2.1)).trans (h2.2.1 x g1 g2), h2.2.2⟩ h3 (fun ha j => ?_)
  · rw [← hs]
    exact G
  · show sg ((h ++ [_]).length + j) = _
    rw [List.length_append, z1]
    have := h4 ha (1 + j)
    simp only [List.length_singleton]
    rw [Nat.add_assoc, this]
    omega
theorem a_nneg {n : Int32} (h : 0 ≤ n) : ¬ n < 0 := Int32.not_lt.mpr h
theorem s_newInt (C : aCx p l s m args c D ka sg A nL own cc) (hal : al = true) (hl : Cond.arrayClass .int ∈ aWg) (hn : 0 ≤ x) (hb : x.toNatClampNeg ≤ 100000) (hkc : k.1 + 1 ≤ R.cells) (hks : k.2 + x.toNatClampNeg ≤ R.slots) (hd : decode cc pc = .ok (.newarray .int, 2))
    (K : aSim p l e R s m args below meth c Q D ka sg A nL al (pc + 2, ls, .ref h.length :: r, h ++ [(true, .inl (.int, x.toNatClampNeg, .inl fun _ => 0))], (k.1 + 1, k.2 + x.toNatClampNeg))) : aSim p l e R s m args below meth c Q D ka sg A nL al (pc, ls, .int x :: r, h, k) := by
  intro H locs L h1 h2 h3 h4
  refine va_newaK (atype := .int) C.1 C.2.1 (C.2.2.2.2.1 _ hl) rfl hd rfl (a_nneg hn) rfl (by show _ * 4 ≤ _; omega) hkc hks rfl fun H1 cA e1 z1 o1 hAr hNm => ?_
  exact aSim_arr K hal C.2.2.2.2.2.2.1 h1 h2 h3 h4 e1 (Option.some.inj (hNm.symm.trans (C.2.2.2.2.2.1.1.2.1 .int (by simp)).2)) z1 o1
theorem s_newChar (C : aCx p l s m args c D ka sg A nL own cc) (hal : al = true) (hl : Cond.arrayClass .char ∈ aWg) (hn : 0 ≤ x) (hb : x.toNatClampNeg ≤ 100000) (hkc : k.1 + 1 ≤ R.cells) (hks : k.2 + x.toNatClampNeg ≤ R.slots) (hd : decode cc pc = .ok (.newarray .char, 2))
    (K : aSim p l e R s m args below meth c Q D ka sg A nL al (pc + 2, ls, .ref h.length :: r, h ++ [(true, .inl (.char, x.toNatClampNeg, .inl fun _ => 0))], (k.1 + 1, k.2 + x.toNatClampNeg))) : aSim p l e R s m args below meth c Q D ka sg A nL al (pc, ls, .int x :: r, h, k) := by
  intro H locs L h1 h2 h3 h4
  refine va_newaK (atype := .char) C.1 C.2.1 (C.2.2.2.2.1 _ hl) rfl hd rfl (a_nneg hn) rfl (by show _ * 2 ≤ _; omega) hkc hks rfl fun H1 cA e1 z1 o1 hAr hNm => ?_
  exact aSim_arr K hal C.2.2.2.2.2.2.1 h1 h2 h3 h4 e1 (Option.some.inj (hNm.symm.trans (C.2.2.2.2.2.1.1.2.1 .char (by simp)).2)) z1 o1
theorem s_newLong (C : aCx p l s m args c D ka sg A nL own cc) (hal : al = true) (hl : Cond.arrayClass .long ∈ aWg) (hn : 0 ≤ x) (hb : x.toNatClampNeg ≤ 100000) (hkc : k.1 + 1 ≤ R.cells) (hks : k.2 + x.toNatClampNeg ≤ R.slots) (hd : decode cc pc = .ok (.newarray .long, 2))
    (K : aSim p l e R s m args below meth c Q D ka sg A nL al (pc + 2, ls, .ref h.length :: r, h ++ [(true, .inl (.long, x.toNatClampNeg, .inr (.inl fun _ => 0)))], (k.1 + 1, k.2 + x.toNatClampNeg))) : aSim p l e R s m args below meth c Q D ka sg A nL al (pc, ls, .int x :: r, h, k) := by
  intro H locs L h1 h2 h3 h4
  refine va_newaK (atype := .long) C.1 C.2.1 (C.2.2.2.2.1 _ hl) rfl hd rfl (a_nneg hn) rfl (by show _ * 8 ≤ _; omega) hkc hks rfl fun H1 cA e1 z1 o1 hAr hNm => ?_
  exact aSim_arr K hal C.2.2.2.2.2.2.1 h1 h2 h3 h4 e1 (Option.some.inj (hNm.symm.trans (C.2.2.2.2.2.1.1.2.1 .long (by simp)).2)) z1 o1
theorem s_anewarray (C : aCx p l s m args c D ka sg A nL own cc) {idx : Nat} (hal : al = true) (hl : Cond.classLink own idx RX6 ∈ aWg) (hn : 0 ≤ x) (hb : x.toNatClampNeg ≤ 100000) (hkc : k.1 + 1 ≤ R.cells) (hks : k.2 + x.toNatClampNeg ≤ R.slots) (hd : decode cc pc = .ok (.anewarray idx, 3))
    (K : aSim p l e R s m args below meth c Q D ka sg A nL al (pc + 3, ls, .ref h.length :: r, h ++ [(true, .inl (.object RX6, x.toNatClampNeg, .inr (.inr (.inr (.inr fun _ => none)))))], (k.1 + 1, k.2 + x.toNatClampNeg))) : aSim p l e R s m args below meth c Q D ka sg A nL al (pc, ls, .int x :: r, h, k) := by
  intro H locs L h1 h2 h3 h4
  refine W.anew C.1 C.2.1 C.2.2.2.1 (C.2.2.2.2.1 _ hl) (va_AO.use C.2.2.2.2.2.1.1.2.2.2.2.2.2.2.2.1) rfl hd rfl (a_nneg hn) (by omega) hkc hks fun cA kA comp f1 f2 f3 f4 => ?_
  generalize hH1 : H.push ({ cls := cA, slots := Array.replicate x.toNatClampNeg .null, vm := .none } : Cell) = H1
  have z1 : H1.size = H.size + 1 := by rw [← hH1, Array.size_push]
  have e1 : H1[H.size]? = some (arrV cA x.toNatClampNeg (fun _ => .null)) := by rw [← hH1, Array.getElem?_push_size, ← arrV_new]
  have o1 : ∀ q : Nat, q < H.size → H1[q]? = H[q]? := fun q hq => by rw [← hH1, Array.getElem?_push, if_neg (Nat.ne_of_lt hq)]
  obtain ⟨kA2, comp2, g1, g2, g3, g4⟩ := (C.2.2.2.2.2.1.1.2.1 (.object RX6) (by simp)).2
  exact aSim_arr K hal C.2.2.2.2.2.2.1 h1 h2 h3 h4 e1 (Option.some.inj (f1.symm.trans g4)) z1 o1
theorem s_objInit (C : aCx p l s m args c D ka sg A nL own cc) {idx : Nat} (hl : Cond.methodLink own idx Lib.objectInit ∈ aWg) (hi : Cond.instanceMethod Lib.objectInit ∈ aWg) (hcd : Cond.code Lib.objectInit ⟨#[0xb1]⟩ 1 none ∈ aWg) (hf : 1 ≤ R.frames) (hlo : 20 ≤ R.locals) (hr : aSum r ≤ 8) (hd : decode cc pc = .ok (.invokespecial idx, 3)) (K : aSim p l e R s m args below meth c Q D ka sg A nL al (pc + 3, ls, r, h, k)) : aSim p l e R s m args below meth c Q D ka sg A nL al (pc, ls, .ref q :: r, h, k) := by
  intro H locs L h1 h2 h3 h4
  refine W.objInit C.1 C.2.1 C.2.2.2.1 (C.2.2.2.2.1 _ hl) (C.2.2.2.2.1 _ hi) (C.2.2.2.2.1 _ hcd) rfl (by rw [C.2.2.1]; exact h3.1) rfl hd hf ?_ (K H locs L h1 h2 h3 h4)
  have e : ((r.map (aCv sg)).map fun v => v.category).sum = aSum r := by
    unfold aSum
    rw [List.map_map]
    congr 1
    exact List.map_congr_left fun v _ => aCv_cat sg v
  show 2 * 0 + ((r.map (aCv sg)).map fun v => v.category).sum + 12 ≤ R.locals
  omega
end SNN
end
section
/-! SOUNDNESS: calls -/
theorem vx_toMet {l : Launch} {y : MethodName} {ws : List Cond} {rm : Room} {Pc : Array Value → State → Prop} {Qc : Array Value → State → Outcome → State → Prop} {XC : String → State → State → Prop} {mc ms : Nat} {free : Addr → Prop} (h : vx_Met l y ws rm Pc Qc XC mc ms free) (hx : ∀ E st t, ¬ XC E st t) : Met l y ws rm Pc Qc mc ms free := by
  intro p e ha hc hk s m args below hf hap hP hK
  obtain ⟨n, o, h1, h2, h3, h4⟩ := h p e ha hc hk s m args below hf hap hP hK
  refine ⟨n, o, h1, h2, h3, ?_⟩
  rcases h4 with h4 | ⟨q, -, E, ce, L, hX, -⟩
  · exact h4
  · exact absurd hX (hx _ _ _)
theorem aWg_good {ws : List Cond} (h : ∀ w ∈ ws, w ∈ aWg) : GoodIn aWg ws := fun w hw => ⟨h w hw, good_of_word (List.mem_filter.mp (h w hw)).2⟩
theorem aXC_ret {D : va_G} {ka : FieldType → ClassId} {sg : Nat → Nat} {A : Nat → Prop} {al : Bool} {v : Option Value} {h : aH} {d : aK} : ∀ E st t, ¬ aXC D ka sg A al (.inl v, h, d) E st t := by
  rintro E st t ⟨x, h1, -⟩
  cases h1
section SNC
variable {p : Program} {l : Launch} {e : Env} {R : Room} {s : State} {m : MethodId} {args : Array Value} {below : List Frame} {meth : Method} {c : Code} {Q : State → Prop} {D : va_G} {ka : FieldType → ClassId} {sg : Nat → Nat} {A : Nat → Prop} {nL : Nat} {own : String} {cc : ByteArray} {al : Bool}
variable {pc : Nat} {ls : List (Option Value)} {st r : List Value} {h : aH} {k : aK} {x y : Int32}
theorem a_pre (C : aCx p l s m args c D ka sg A nL own cc) {H : Heap} {locs : List Loc} (h1 : aRel D ka sg A s h H) (h2 : va_S A s.heap H locs) (h4 : al = true → ∀ j : Nat, sg (h.length + j) = H.size + j) {as : List Value} : PreS s H (aPc D ka sg A al as h) (as.map (aCv sg)) := by
  refine ⟨aPc.blind, fun U hU hW => ⟨rfl, ?_, ⟨C.2.2.2.2.2.1.1.warm hW, ?_⟩, fun q hq => C.2.2.2.2.2.2.1 q (Nat.le_trans h2.1 (by rw [← hU]; exact hq)), fun ha j => by rw [hU]; exact h4 ha j⟩⟩
  · rw [hU]
    exact h1.moved hW.alike
  · rw [hU]
    exact C.2.2.2.2.2.1.2.moved hW.alike (fun k tx a h => vk_R.warm hW h) h2.2.1
theorem a_recv (C : aCx p l s m args c D ka sg A nL own cc) {H : Heap} (h1 : aRel D ka sg A s h H) {q ci : Nat} {fs : List Value} {rc : vw_C} (hq : h[q]? = some (true, .inr (ci, fs))) (hc : aCl[ci]? = some rc) : ∃ cellB : Cell, H[sg q]? = some cellB ∧ cellB.vm.isStatics = false ∧ s.vm.findClass rc.1 = some cellB.cls := by
  obtain ⟨-, r', hr', cell, g1, g2, g3, -⟩ := h1.1 q _ hq
  cases Option.some.inj (hr'.symm.trans hc)
  exact ⟨cell, g1, by rw [g3]; rfl, by rw [g2]; exact (C.2.2.2.2.2.1.1.1 ci _ hc).2.1⟩
/-- behind a call that returned -/
theorem a_ret (C : aCx p l s m args c D ka sg A nL own cc) {H : Heap} {locs : List Loc} {L : Array Slot} {st0 : List Value} {v : Option Value} {h' : aH} {d : aK} {a : Array Value} (h2 : va_S A s.heap H locs) (h3 : aLoc sg L nL ls) (hr : va_Run p l e R s m args below meth c H locs k.1 k.2 d.1 d.2 (F0 m pc L st0) (r.map (aCv sg)) (aQc D ka sg A al (.inl v, h', d) a) A) (K : aSim p l e R s m args below meth c Q D ka sg A nL al (pc + 3, ls, v.toList ++ r, h', (k.1 + d.1, k.2 + d.2))) : W p l e R s m args below meth c H locs k.1 k.2 Q (F0 m pc L st0) := by
  intro T hT X
  obtain ⟨v9, st₀, t, T', Ls, h0, X', hL, e1, e2, ⟨v1, ev, eo, hrel, hF, hsz⟩, stp⟩ := hr T hT X
  cases ev
  cases eo
  obtain ⟨-, -, k3⟩ := vx_keep h0 e1 h2 (fun _ _ z => z) (fun _ z => z) hL hF
  have hal : s.vm.Alike t.vm := by rw [← e2]; exact X'.warmed.alike
  obtain ⟨t2, a1, b1⟩ := K T'.heap _ L (by rw [e1]; exact hrel.moved hal.symm) k3 h3 (fun ha j => by rw [e1]; exact hsz ha j) T' rfl X'
  refine ⟨t2, stp t2 ?_, b1⟩
  have e9 : (v.map (aCv sg)).toList ++ r.map (aCv sg) = (v.toList ++ r).map (aCv sg) := by cases v <;> rfl
  show Steps p.tables e below (T'.setTop (F0 m (pc + 3) L ((v.map (aCv sg)).toList ++ r.map (aCv sg)))) t2
  rw [e9]
  exact a1
/-- .. that threw -/
theorem a_thr (C : aCx p l s m args c D ka sg A nL own cc) {H : Heap} {locs : List Loc} {L : Array Slot} {st0 : List Value} {x9 : Nat} {h' : aH} {d : aK} {a : Array Value} (h2 : va_S A s.heap H locs) (hr : vx_Run p l e R s m args below meth c H locs k.1 k.2 d.1 d.2 (F0 m pc L st0) (r.map (aCv sg)) (aQc D ka sg A al (.inr x9, h', d) a) (aXC D ka sg A al (.inr x9, h', d)) A)
    (K : ∀ (H1 : Heap) (locs1 : List Loc) (ce : Cell) (q9 : Addr), x9 < 6 → aRel D ka sg A s h' H1 → va_S A s.heap H1 locs1 → (al = true → ∀ j : Nat, sg (h'.length + j) = H1.size + j) → H1[q9]? = some ce → ce.vm = .none → s.vm.findClass (aExc x9) = some ce.cls → vx_W p l e R s m args below meth c H1 locs1 (k.1 + d.1) (k.2 + d.2) Q (F0 m pc L (r.map (aCv sg))) q9) : W p l e R s m args below meth c H locs k.1 k.2 Q (F0 m pc L st0) := by
  intro T hT X
  rcases hr T hT X with ⟨v9, st₀, t, T', Ls, h0, X', hL, e1, e2, ⟨v1, ev, -⟩, stp⟩ | ⟨q, st₀, t, T', Ls, E, ce, h0, X', hL, e1, e2, ⟨x1, ev, hx6, eE, hrel, hF, hsz⟩, hce, hcv, hcl, stp⟩
  · cases ev
  · cases ev
    obtain ⟨-, -, k3⟩ := vx_keep h0 e1 h2 (fun _ _ z => z) (fun _ z => z) hL hF
    have hal : s.vm.Alike t.vm := by rw [← e2]; exact X'.warmed.alike
    obtain ⟨t2, a1, b1⟩ := K T'.heap _ ce q hx6 (by rw [e1]; exact hrel.moved hal.symm) k3 (fun ha j => by rw [e1]; exact hsz ha j) (by rw [e1]; exact hce) hcv (by rw [← eE]; exact hcl) T' rfl X'
    exact ⟨t2, stp.trans a1, b1⟩
/-- a contract, as a call uses it -/
def aCon (l : Launch) (D : va_G) (ka : FieldType → ClassId) (sg : Nat → Nat) (A : Nat → Prop) (al : Bool) (d : Nat) (y : MethodName) (ws : List Cond) (as : List Value) (h : aH) (r : aR) : Prop :=
  vx_Met l y ws (aRm d r.2.2) (aPc D ka sg A al as h) (aQc D ka sg A al r) (aXC D ka sg A al r) r.2.2.1 r.2.2.2 A
theorem a_sum (r : List Value) : ((r.map (aCv sg)).map fun v => v.category).sum = aSum r := by
  unfold aSum
  rw [List.map_map]
  congr 1
  exact List.map_congr_left fun v _ => aCv_cat sg v
theorem a_args (as r : List Value) : (as.reverse ++ r).map (aCv sg) = (as.map (aCv sg)).reverse ++ r.map (aCv sg) := by
  rw [List.map_append, List.map_reverse]
variable {d : Nat} {y : MethodName} {b : ByteArray} {n idx np : Nat} {rt : Option FieldType} {as : List Value} {q ci : Nat} {fs : List Value} {rc : vw_C} {v : Option Value} {h' : aH} {kd : aK} {x9 : Nat}
/-- what a method's row says: its code among the words, its class ready, its parameters -/
def aMy (y : MethodName) (b : ByteArray) (n : Nat) (rt : Option FieldType) (np : Nat) : Prop :=
  Cond.code y b n rt ∈ aWg ∧ Cond.initialized y.cls ∈ aWg ∧ y.cls ≠ "java/lang/invoke/MethodHandle" ∧ y.cls ≠ "java/lang/invoke/VarHandle" ∧ (parseMethodDescriptor y.desc).map (fun d => d.parameters.length) = some np ∧ n ≤ 40
theorem a_rm (hf : d + 7 ≤ R.frames) (hl : 60 * d + 220 ≤ R.locals) (hn : n ≤ 40) : (aRm d kd).frames + 1 ≤ R.frames ∧ 8 + (n + 11) + (aRm d kd).locals ≤ R.locals := by
  unfold aRm
  dsimp only
  omega
theorem a_cwV (C : aCx p l s m args c D ka sg A nL own cc) (hy : aMy y b n rt np) (hl : Cond.methodLink own idx y ∈ aWg) (hi : Cond.instanceMethod y ∈ aWg) (hs : Cond.selects y.cls y y ∈ aWg) (hf : d + 7 ≤ R.frames) (hlo : 60 * d + 220 ≤ R.locals) : CallW R s args own y.cls idx y b n rt (Cond.code y b n rt :: aWg) (aRm d kd) kd.1 kd.2 np :=
  cwV np C.2.2.2.2.1 (aWg_good (fun w hw => by
    simp only [wsV, List.cons_append, List.nil_append, List.mem_cons] at hw
    rcases hw with rfl | rfl | rfl | rfl | rfl | hw
    · exact hl
    · exact hi
    · exact hs
    · exact hy.2.1
    · exact hy.1
    · exact hw)) rfl rfl rfl ⟨rfl, hy.2.2.1, hy.2.2.2.1, hy.2.2.2.2.1⟩ (a_rm hf hlo hy.2.2.2.2.2)
theorem a_cwS (C : aCx p l s m args c D ka sg A nL own cc) (hy : aMy y b n rt np) (hl : Cond.methodLink own idx y ∈ aWg) (hs : Cond.static y ∈ aWg) (hf : d + 7 ≤ R.frames) (hlo : 60 * d + 220 ≤ R.locals) : CallB R s args own idx y b n rt (Cond.code y b n rt :: aWg) (aRm d kd) kd.1 kd.2 np ∧ (Cond.static y).before args s = true :=
  va_cwS np C.2.2.2.2.1 (aWg_good (fun w hw => by
    simp only [va_wsS, List.cons_append, List.nil_append, List.mem_cons] at hw
    rcases hw with rfl | rfl | rfl | rfl | hw
    · exact hl
    · exact hs
    · exact hy.2.1
    · exact hy.1
    · exact hw)) rfl rfl rfl ⟨hy.2.2.1, hy.2.2.2.1, hy.2.2.2.2.1⟩ (a_rm hf hlo hy.2.2.2.2.2)
theorem s_callV (C : aCx p l s m args c D ka sg A nL own cc) (hcon : aCon l D ka sg A al d y (Cond.code y b n rt :: aWg) (.ref q :: as) h (.inl v, h', kd)) (hy : aMy y b n rt np) (hl : Cond.methodLink own idx y ∈ aWg) (hi : Cond.instanceMethod y ∈ aWg) (hs : Cond.selects y.cls y y ∈ aWg) (hf : d + 7 ≤ R.frames) (hlo : 60 * d + 220 ≤ R.locals) (hq : h[q]? = some (true, .inr (ci, fs))) (hc : aCl[ci]? = some rc) (hrc : rc.1 = y.cls) (hn : as.length = np) (hr : aSum r ≤ 8) (hk : k.1 + kd.1 ≤ R.cells ∧ k.2 + kd.2 ≤ R.slots) (hd : decode cc pc = .ok (.invokevirtual idx, 3)) (K : aSim p l e R s m args below meth c Q D ka sg A nL al (pc + 3, ls, v.toList ++ r, h', (k.1 + kd.1, k.2 + kd.2))) : aSim p l e R s m args below meth c Q D ka sg A nL al (pc, ls, as.reverse ++ .ref q :: r, h, k) := by
  intro H locs L h1 h2 h3 h4
  have hrun := va_runV (As := as.map (aCv sg)) (b := sg q) (rest := r.map (aCv sg)) (g := F0 m pc L ((as.reverse ++ .ref q :: r).map (aCv sg))) (locs := locs) (cells := k.1) (slots := k.2) (below := below) (meth := meth) (e := e) ⟨C.1, C.2.1, C.2.2.1, C.2.2.2.1, C.2.2.2.2.1⟩ (vx_toMet hcon aXC_ret) (a_cwV C hy hl hi hs hf hlo) ⟨aPc.blind, by rw [← hrc]; exact a_recv C h1 hq hc, (a_pre C h1 h2 h4 (as := .ref q :: as)).2⟩ rfl (by rw [List.length_map]; exact hn) h3.1 (a_args as _) (by show 2 * 0 + _ ≤ 8; rw [a_sum]; omega) hd hk
  exact a_ret C h2 h3 hrun K
theorem s_callS (C : aCx p l s m args c D ka sg A nL own cc) (hcon : aCon l D ka sg A al d y (Cond.code y b n rt :: aWg) as h (.inl v, h', kd)) (hy : aMy y b n rt np) (hl : Cond.methodLink own idx y ∈ aWg) (hs : Cond.static y ∈ aWg) (hf : d + 7 ≤ R.frames) (hlo : 60 * d + 220 ≤ R.locals) (hn : as.length = np) (hr : aSum r ≤ 8) (hk : k.1 + kd.1 ≤ R.cells ∧ k.2 + kd.2 ≤ R.slots) (hd : decode cc pc = .ok (.invokestatic idx, 3)) (K : aSim p l e R s m args below meth c Q D ka sg A nL al (pc + 3, ls, v.toList ++ r, h', (k.1 + kd.1, k.2 + kd.2))) : aSim p l e R s m args below meth c Q D ka sg A nL al (pc, ls, as.reverse ++ r, h, k) := by
  intro H locs L h1 h2 h3 h4
  have hrun := va_runS (As := as.map (aCv sg)) (rest := r.map (aCv sg)) (g := F0 m pc L ((as.reverse ++ r).map (aCv sg))) (locs := locs) (cells := k.1) (slots := k.2) (below := below) (meth := meth) (e := e) ⟨C.1, C.2.1, C.2.2.1, C.2.2.2.1, C.2.2.2.2.1⟩ (vx_toMet hcon aXC_ret) (a_cwS C hy hl hs hf hlo) (a_pre C h1 h2 h4) rfl (by rw [List.length_map]; exact hn) h3.1 (a_args as _) (by show 2 * 0 + _ ≤ 8; rw [a_sum]; omega) hd hk
  exact a_ret C h2 h3 hrun K
theorem s_callI (C : aCx p l s m args c D ka sg A nL own cc) (hcon : aCon l D ka sg A al d y (Cond.code y b n none :: aWg) (.ref q :: as) h (.inl v, h', kd)) (hy : aMy y b n none np) (hl : Cond.methodLink own idx y ∈ aWg) (hi : Cond.instanceMethod y ∈ aWg) (hy1 : y.name = "<init>") (hf : d + 7 ≤ R.frames) (hlo : 60 * d + 220 ≤ R.locals) (hn : as.length = np) (hr : aSum r ≤ 8) (hk : k.1 + kd.1 ≤ R.cells ∧ k.2 + kd.2 ≤ R.slots) (hd : decode cc pc = .ok (.invokespecial idx, 3)) (K : aSim p l e R s m args below meth c Q D ka sg A nL al (pc + 3, ls, v.toList ++ r, h', (k.1 + kd.1, k.2 + kd.2))) : aSim p l e R s m args below meth c Q D ka sg A nL al (pc, ls, as.reverse ++ .ref q :: r, h, k) := by
  intro H locs L h1 h2 h3 h4
  have hrun := va_runI (As := as.map (aCv sg)) (b := sg q) (rest := r.map (aCv sg)) (g := F0 m pc L ((as.reverse ++ .ref q :: r).map (aCv sg))) (locs := locs) (cells := k.1) (slots := k.2) (below := below) (meth := meth) (e := e) ⟨C.1, C.2.1, C.2.2.1, C.2.2.2.1, C.2.2.2.2.1⟩ (vx_toMet hcon aXC_ret) (cwI np C.2.2.2.2.1 (aWg_good (fun w hw => by
    rcases List.mem_cons.mp hw with rfl | hw
    · exact hy.1
    · exact hw)) rfl rfl rfl (C.2.2.2.2.1 _ hy.2.1) (C.2.2.2.2.1 _ hl) (C.2.2.2.2.1 _ hi) hy1 ⟨hy.2.2.1, hy.2.2.2.1, hy.2.2.2.2.1⟩ (a_rm hf hlo hy.2.2.2.2.2)) (a_pre C h1 h2 h4 (as := .ref q :: as)) rfl (by rw [List.length_map]; exact hn) h3.1 (a_args as _) (by show 2 * 0 + _ ≤ 8; rw [a_sum]; omega) hd hk
  exact a_ret C h2 h3 hrun K
theorem s_callIN (C : aCx p l s m args c D ka sg A nL own cc) (hcon : aCon l D ka sg A al d y (Cond.code y b n none :: aWg) (.ref q :: as) h (.inl v, h', kd)) (hy : aMy y b n none np) (hl : (own, idx, y) ∈ aNestM) (hi : Cond.instanceMethod y ∈ aWg) (hy1 : y.name = "<init>") (hf : d + 7 ≤ R.frames) (hlo : 60 * d + 220 ≤ R.locals) (hn : as.length = np) (hr : aSum r ≤ 8) (hk : k.1 + kd.1 ≤ R.cells ∧ k.2 + kd.2 ≤ R.slots) (hd : decode cc pc = .ok (.invokespecial idx, 3)) (K : aSim p l e R s m args below meth c Q D ka sg A nL al (pc + 3, ls, v.toList ++ r, h', (k.1 + kd.1, k.2 + kd.2))) : aSim p l e R s m args below meth c Q D ka sg A nL al (pc, ls, as.reverse ++ .ref q :: r, h, k) := by
  intro H locs L h1 h2 h3 h4
  have hrun := va_runIN (As := as.map (aCv sg)) (b := sg q) (rest := r.map (aCv sg)) (g := F0 m pc L ((as.reverse ++ .ref q :: r).map (aCv sg))) (locs := locs) (cells := k.1) (slots := k.2) (below := below) (meth := meth) (e := e) ⟨C.1, C.2.1, C.2.2.1, C.2.2.2.1, C.2.2.2.2.1⟩ (vx_toMet hcon aXC_ret) ⟨va_cnB np C.2.2.2.2.1 (aWg_good (fun w hw => by
    rcases List.mem_cons.mp hw with rfl | hw
    · exact hy.1
    · exact hw)) rfl rfl rfl (C.2.2.2.2.2.1.1.2.2.2.1 _ hl) (C.2.2.2.2.1 _ hy.2.1) ⟨hy.2.2.1, hy.2.2.2.1, hy.2.2.2.2.1⟩ (a_rm hf hlo hy.2.2.2.2.2), hy1, C.2.2.2.2.1 _ hi⟩ (a_pre C h1 h2 h4 (as := .ref q :: as)) rfl (by rw [List.length_map]; exact hn) h3.1 (a_args as _) (by show 2 * 0 + _ ≤ 8; rw [a_sum]; omega) hd hk
  exact a_ret C h2 h3 hrun K
theorem s_callSN (C : aCx p l s m args c D ka sg A nL own cc) (hcon : aCon l D ka sg A al d y (Cond.code y b n rt :: aWg) as h (.inl v, h', kd)) (hy : aMy y b n rt np) (hl : (own, idx, y) ∈ aNestM) (hs : Cond.static y ∈ aWg) (hf : d + 7 ≤ R.frames) (hlo : 60 * d + 220 ≤ R.locals) (hn : as.length = np) (hr : aSum r ≤ 8) (hk : k.1 + kd.1 ≤ R.cells ∧ k.2 + kd.2 ≤ R.slots) (hd : decode cc pc = .ok (.invokestatic idx, 3)) (K : aSim p l e R s m args below meth c Q D ka sg A nL al (pc + 3, ls, v.toList ++ r, h', (k.1 + kd.1, k.2 + kd.2))) : aSim p l e R s m args below meth c Q D ka sg A nL al (pc, ls, as.reverse ++ r, h, k) := by
  intro H locs L h1 h2 h3 h4
  have hrun := va_runSN (As := as.map (aCv sg)) (rest := r.map (aCv sg)) (g := F0 m pc L ((as.reverse ++ r).map (aCv sg))) (locs := locs) (cells := k.1) (slots := k.2) (below := below) (meth := meth) (e := e) ⟨C.1, C.2.1, C.2.2.1, C.2.2.2.1, C.2.2.2.2.1⟩ (vx_toMet hcon aXC_ret) ⟨va_cnB np C.2.2.2.2.1 (aWg_good (fun w hw => by
    rcases List.mem_cons.mp hw with rfl | hw
    · exact hy.1
    · exact hw)) rfl rfl rfl (C.2.2.2.2.2.1.1.2.2.2.1 _ hl) (C.2.2.2.2.1 _ hy.2.1) ⟨hy.2.2.1, hy.2.2.2.1, hy.2.2.2.2.1⟩ (a_rm hf hlo hy.2.2.2.2.2), C.2.2.2.2.1 _ hs, trivial⟩ (a_pre C h1 h2 h4) rfl (by rw [List.length_map]; exact hn) h3.1 (a_args as _) (by show 2 * 0 + _ ≤ 8; rw [a_sum]; omega) hd hk
  exact a_ret C h2 h3 hrun K
theorem s_callSW (C : aCx p l s m args c D ka sg A nL own cc) {hh : List (Nat × Nat × Nat × Nat)} (hcon : aCon l D ka sg A al d y (Cond.codeWith y b n rt hh :: aWg) as h (.inl v, h', kd)) (hcw : Cond.codeWith y b n rt hh ∈ aWg) (hin : Cond.initialized y.cls ∈ aWg) (hp1 : y.cls ≠ "java/lang/invoke/MethodHandle") (hp2 : y.cls ≠ "java/lang/invoke/VarHandle") (hp3 : (parseMethodDescriptor y.desc).map (fun d => d.parameters.length) = some np) (hn40 : n ≤ 40) (hl : Cond.methodLink own idx y ∈ aWg) (hs : Cond.static y ∈ aWg) (hf : d + 7 ≤ R.frames) (hlo : 60 * d + 220 ≤ R.locals) (hn : as.length = np) (hr : aSum r ≤ 8) (hk : k.1 + kd.1 ≤ R.cells ∧ k.2 + kd.2 ≤ R.slots) (hd : decode cc pc = .ok (.invokestatic idx, 3)) (K : aSim p l e R s m args below meth c Q D ka sg A nL al (pc + 3, ls, v.toList ++ r, h', (k.1 + kd.1, k.2 + kd.2))) : aSim p l e R s m args below meth c Q D ka sg A nL al (pc, ls, as.reverse ++ r, h, k) := by
  intro H locs L h1 h2 h3 h4
  have hrun := vx_runSW (As := as.map (aCv sg)) (rest := r.map (aCv sg)) (g := F0 m pc L ((as.reverse ++ r).map (aCv sg))) (locs := locs) (cells := k.1) (slots := k.2) (below := below) (meth := meth) (e := e) ⟨C.1, C.2.1, C.2.2.1, C.2.2.2.1, C.2.2.2.2.1⟩ (vx_toMet hcon aXC_ret) (vx_cwSW np C.2.2.2.2.1 (aWg_good (fun w hw => by
    simp only [va_wsS, List.cons_append, List.nil_append, List.mem_cons] at hw
    rcases hw with rfl | rfl | rfl | rfl | hw
    · exact hl
    · exact hs
    · exact hin
    · exact hcw
    · exact hw)) rfl rfl rfl ⟨hp1, hp2, hp3⟩ (a_rm hf hlo hn40)) (a_pre C h1 h2 h4) rfl (by rw [List.length_map]; exact hn) h3.1 (a_args as _) (by show 2 * 0 + _ ≤ 8; rw [a_sum]; omega) hd hk
  exact a_ret C h2 h3 hrun K
/-- a call that throws: what the caller owes then -/
def aThr (p : Program) (l : Launch) (e : Env) (R : Room) (s : State) (m : MethodId) (args : Array Value) (below : List Frame) (meth : Method) (c : Code) (Q : State → Prop) (D : va_G) (ka : FieldType → ClassId) (sg : Nat → Nat) (A : Nat → Prop) (nL : Nat) (al : Bool) (pc : Nat) (ls : List (Option Value)) (r : List Value) (h' : aH) (k : aK) (x9 : Nat) : Prop :=
  ∀ (H1 : Heap) (locs1 : List Loc) (L : Array Slot) (ce : Cell) (q9 : Addr), x9 < 6 → aRel D ka sg A s h' H1 → va_S A s.heap H1 locs1 → aLoc sg L nL ls → (al = true → ∀ j : Nat, sg (h'.length + j) = H1.size + j) → H1[q9]? = some ce → ce.vm = .none → s.vm.findClass (aExc x9) = some ce.cls → vx_W p l e R s m args below meth c H1 locs1 k.1 k.2 Q (F0 m pc L (r.map (aCv sg))) q9
theorem t_callV (C : aCx p l s m args c D ka sg A nL own cc) (hcon : aCon l D ka sg A al d y (Cond.code y b n rt :: aWg) (.ref q :: as) h (.inr x9, h', kd)) (hy : aMy y b n rt np) (hl : Cond.methodLink own idx y ∈ aWg) (hi : Cond.instanceMethod y ∈ aWg) (hs : Cond.selects y.cls y y ∈ aWg) (hf : d + 7 ≤ R.frames) (hlo : 60 * d + 220 ≤ R.locals) (hq : h[q]? = some (true, .inr (ci, fs))) (hc : aCl[ci]? = some rc) (hrc : rc.1 = y.cls) (hn : as.length = np) (hr : aSum r ≤ 8) (hk : k.1 + kd.1 ≤ R.cells ∧ k.2 + kd.2 ≤ R.slots) (hd : decode cc pc = .ok (.invokevirtual idx, 3)) (K : aThr p l e R s m args below meth c Q D ka sg A nL al pc ls r h' (k.1 + kd.1, k.2 + kd.2) x9) : aSim p l e R s m args below meth c Q D ka sg A nL al (pc, ls, as.reverse ++ .ref q :: r, h, k) := by
  intro H locs L h1 h2 h3 h4
  have hrun := vx_runV (As := as.map (aCv sg)) (b := sg q) (rest := r.map (aCv sg)) (g := F0 m pc L ((as.reverse ++ .ref q :: r).map (aCv sg))) (locs := locs) (cells := k.1) (slots := k.2) (below := below) (meth := meth) (e := e) ⟨C.1, C.2.1, C.2.2.1, C.2.2.2.1, C.2.2.2.2.1⟩ hcon (a_cwV C hy hl hi hs hf hlo) ⟨aPc.blind, by rw [← hrc]; exact a_recv C h1 hq hc, (a_pre C h1 h2 h4 (as := .ref q :: as)).2⟩ rfl (by rw [List.length_map]; exact hn) h3.1 (a_args as _) (by show 2 * 0 + _ ≤ 8; rw [a_sum]; omega) hd hk
  exact a_thr C h2 hrun (fun H1 locs1 ce q9 g1 g2 g3 g4 => K H1 locs1 L ce q9 g1 g2 g3 h3 g4)
theorem t_callS (C : aCx p l s m args c D ka sg A nL own cc) (hcon : aCon l D ka sg A al d y (Cond.code y b n rt :: aWg) as h (.inr x9, h', kd)) (hy : aMy y b n rt np) (hl : Cond.methodLink own idx y ∈ aWg) (hs : Cond.static y ∈ aWg) (hf : d + 7 ≤ R.frames) (hlo : 60 * d + 220 ≤ R.locals) (hn : as.length = np) (hr : aSum r ≤ 8) (hk : k.1 + kd.1 ≤ R.cells ∧ k.2 + kd.2 ≤ R.slots) (hd : decode cc pc = .ok (.invokestatic idx, 3)) (K : aThr p l e R s m args below meth c Q D ka sg A nL al pc ls r h' (k.1 + kd.1, k.2 + kd.2) x9) : aSim p l e R s m args below meth c Q D ka sg A nL al (pc, ls, as.reverse ++ r, h, k) := by
  intro H locs L h1 h2 h3 h4
  have hrun := vx_runS (As := as.map (aCv sg)) (rest := r.map (aCv sg)) (g := F0 m pc L ((as.reverse ++ r).map (aCv sg))) (locs := locs) (cells := k.1) (slots := k.2) (below := below) (meth := meth) (e := e) ⟨C.1, C.2.1, C.2.2.1, C.2.2.2.1, C.2.2.2.2.1⟩ hcon (a_cwS C hy hl hs hf hlo) (a_pre C h1 h2 h4) rfl (by rw [List.length_map]; exact hn) h3.1 (a_args as _) (by show 2 * 0 + _ ≤ 8; rw [a_sum]; omega) hd hk
  exact a_thr C h2 hrun (fun H1 locs1 ce q9 g1 g2 g3 g4 => K H1 locs1 L ce q9 g1 g2 g3 h3 g4)
end SNC
end
section
/-! SOUNDNESS: throws, catches, ends -/
def aSup : List String := ["java/lang/RuntimeException", "java/lang/Exception"]
/-- the number of an exception's constructor in the class's table -/
def aIc (x : Nat) : Nat := match x with
  | 0 => 208
  | 1 => 300
  | 2 => 287
  | 3 => 159
  | 4 => 190
  | _ => 251
set_option maxRecDepth 100000 in
theorem aAt_all : ∀ x : Fin 6, x.val ≠ 3 → ∀ w ∈ vx_atS RX7 (aIc x.val) (aExc x.val) aSup, (w ∈ aWg ∨ w = .castable (aExc x.val) (aExc x.val) ∨ w ∈ aDecl.map Cond.declares) ∧ vx_ot w = true := by decide +kernel
theorem aRel.grow {D : va_G} {ka : FieldType → ClassId} {s : Nat → Nat} {A : Nat → Prop} {U : State} {h : aH} {H H1 : Heap} (hr : aRel D ka s A U h H) (ho : ∀ x : Nat, x < H.size → H1[x]? = H[x]?) : aRel D ka s A U h H1 := by
  refine ⟨fun q c hq => ?_, hr.2⟩
  have h2 := hr.1 q c hq
  obtain ⟨w, x⟩ := c
  cases w <;> cases x
  · obtain ⟨f, g0, cell, g1, g2⟩ := h2
    exact ⟨f, g0, cell, by rw [ho _ (Array.getElem?_eq_some_iff.mp g1).1]; exact g1, g2⟩
  · exact fun hc => (h2 hc).elim fun v hv => ⟨v, hv.kept (fun x hx _ => ho x hx)⟩
  · exact ⟨h2.1, by rw [ho _ (Array.getElem?_eq_some_iff.mp h2.2).1]; exact h2.2⟩
  · obtain ⟨g0, r, g1, cell, g2, g3⟩ := h2
    exact ⟨g0, r, g1, cell, by rw [ho _ (Array.getElem?_eq_some_iff.mp g2).1]; exact g2, g3⟩
/-- what a method's body owes at its end: that answer -/
def aEq (below : List Frame) (D : va_G) (ka : FieldType → ClassId) (sg : Nat → Nat) (A : Nat → Prop) (al : Bool) (args : Array Value) (s : State) (r : aR) : State → Prop :=
  vx_MQ below (aQc D ka sg A al r) (aXC D ka sg A al r) args s r.2.2.1 r.2.2.2 A
def aHm (own : String) : List (Nat × Nat × Nat × Nat) → aD → Bool
  | [], [] => true
  | (f, t, w, ci) :: a, (f1, t1, w1, e) :: b => f == f1 && (t == t1 && (w == w1 && (ci != 0 && (decide (e < 6) && (decide (Cond.classLink own ci (aExc e) ∈ aWg) && aHm own a b)))))
  | _, _ => false
theorem aHd_split {own : String} {pc x9 t : Nat} : ∀ (hh : List (Nat × Nat × Nat × Nat)) (hd : aD), aHm own hh hd = true → aHd hd pc x9 = some t → ∃ (pre : List ExceptionTableEntry) (z : ExceptionTableEntry) (suf : List ExceptionTableEntry), tableOf hh = pre ++ z :: suf ∧ (∀ y ∈ pre, covers y pc = false ∨ (y.catchType ≠ 0 ∧ ∃ e, e < 6 ∧ e ≠ x9 ∧ Cond.classLink own y.catchType (aExc e) ∈ aWg)) ∧ covers z pc = true ∧ z.handlerPc = t ∧ z.catchType ≠ 0 ∧ Cond.classLink own z.catchType (aExc x9) ∈ aWg
  | [], [], _, h => by cases h
  | [], _ :: _, h, _ => by cases h
  | (_, _, _, _) :: _, [], h, _ => by cases h
  | (f, t0, w, ci) :: a, (f1, t1, w1, e) :: b, h, hp => by
    simp only [aHm, Bool.and_eq_true, beq_iff_eq, bne_iff_ne, ne_eq, decide_eq_true_eq] at h
    obtain ⟨rfl, rfl, rfl, h4, h5, h6, h7⟩ := h
    unfold aHd at hp
    by_cases hc : f ≤ pc ∧ pc < t0 ∧ e = x9
    · rw [if_pos hc] at hp
      cases hp
      obtain ⟨c1, c2, c3⟩ := hc
      refine ⟨[], ⟨f, t0, t, ci⟩, tableOf a, rfl, (fun y hy => by cases hy), ?_, rfl, h4, by rw [← c3]; exact h6⟩
      show (decide (f ≤ pc) && decide (pc < t0)) = true
      rw [decide_eq_true c1, decide_eq_true c2]
      rfl
    · rw [if_neg hc] at hp
      obtain ⟨pre, z, suf, g1, g2, g3⟩ := aHd_split a b h7 hp
      refine ⟨⟨f, t0, w, ci⟩ :: pre, z, suf, by show _ :: tableOf a = _; rw [g1]; rfl, fun y hy => ?_, g3⟩
      rcases List.mem_cons.mp hy with rfl | hy
      · by_cases hv : f ≤ pc ∧ pc < t0
        · exact Or.inr ⟨h4, e, h5, fun q => hc ⟨hv.1, hv.2, q⟩, h6⟩
        · refine Or.inl ?_
          simp only [covers, Bool.and_eq_false_iff, decide_eq_false_iff_not]
          by_cases h1 : f ≤ pc
          · exact Or.inr (fun q => hv ⟨h1, q⟩)
          · exact Or.inl h1
      · exact g2 y hy
section SNT
variable {p : Program} {l : Launch} {e : Env} {R : Room} {s : State} {m : MethodId} {args : Array Value} {below : List Frame} {meth : Method} {c : Code} {Q : State → Prop} {D : va_G} {ka : FieldType → ClassId} {sg : Nat → Nat} {A : Nat → Prop} {nL : Nat} {own : String} {cc : ByteArray} {al : Bool}
variable {pc : Nat} {ls : List (Option Value)} {st r : List Value} {h : aH} {k : aK} {x y : Int32} {x9 t n : Nat} {hd : aD} {hh : List (Nat × Nat × Nat × Nat)}
theorem a_at (C : aCx p l s m args c D ka sg A nL own cc) (hx : x9 < 6) (hx3 : x9 ≠ 3) : ∀ w ∈ vx_atS RX7 (aIc x9) (aExc x9) aSup, w.before args s = true := by
  intro w hw
  rcases (aAt_all ⟨x9, hx⟩ hx3 w hw).1 with h1 | h1 | h1
  · exact C.2.2.2.2.1 _ h1
  · rw [h1]
    exact va_Nw.use rfl (C.2.2.2.2.2.1.1.2.2.2.2.2.2.2.2.2.2.1 x9 hx)
  · obtain ⟨y, hy, rfl⟩ := List.mem_map.mp h1
    exact va_Nw.use rfl (C.2.2.2.2.2.1.1.2.2.2.2.2.2.2.2.2.2.2 y hy)
theorem e_throwS (C : aCx p l s m args c D ka sg A nL RX7 cc) {ik is : Nat} {tx : String} (hx : x9 < 6) (hx3 : x9 ≠ 3) (hal : al = false) (hk : Cond.classLink RX7 ik (aExc x9) ∈ aWg) (hini : Cond.initialized (aExc x9) ∈ aWg) (htx : (is, tx) ∈ aStrs) (hf : 6 ≤ R.frames) (hlo : 100 ≤ R.locals) (hc : k.1 + 1 ≤ R.cells) (hs : k.2 + 6 ≤ R.slots) (hr : aSum st ≤ 8) (hlocks : meth.locks = false) (hout : ∀ z ∈ c.exceptionTable.toList, False)
    (d0 : decode cc pc = .ok (.new ik, 3)) (d3 : decode cc (pc + 3) = .ok (.dup, 1)) (d4 : decode cc (pc + 4) = .ok (.ldc is, 2)) (d6 : decode cc (pc + 6) = .ok (.invokespecial (aIc x9), 3)) (d9 : decode cc (pc + 9) = .ok (.athrow, 1)) :
    aSim p l e R s m args below meth c (aEq below D ka sg A al args s (.inr x9, h, (k.1 + 1, k.2 + 6))) D ka sg A nL al (pc, ls, st, h, k) := by
  intro H locs L h1 h2 h3 h4
  obtain ⟨sa, hsa⟩ := C.2.2.2.2.2.1.1.2.2.2.2.1 _ htx
  refine vx_throwS C.1 C.2.1 C.2.2.2.2.2.2.2 (own := RX7) (cls := aExc x9) (text := tx) (names := aSup) (sa := sa) C.2.2.2.1 ?_ (by decide) (C.2.2.2.2.1 _ hk) (C.2.2.2.2.1 _ hini) hsa (a_at C hx hx3) ?_ C.2.2.2.2.2.1.2.2.1 C.2.2.2.2.2.1.2.2.2.1 h2 (by rw [C.2.2.1]; exact h3.1) d0 d3 d4 d6 d9 (fun z hz => (hout z hz).elim) (by show 2 + 3 < R.frames; omega) (by rw [a_sum]; show aSum st + (13 * (2 + 1) + 43) ≤ R.locals; omega) hc hs hlocks (fun t ht hz ho => ⟨x9, rfl, hx, rfl, (h1.grow ho).moved ht, ⟨Nat.le_trans h2.1 hz, fun q g1 g2 => (ho q (Nat.lt_of_lt_of_le g1 h2.1)).trans (h2.2.1 q g1 g2)⟩, fun q => by rw [hal] at q; cases q⟩) h2.2.2 (Nat.le_refl _) (Nat.le_refl _)
  · have key : ∀ z : Fin 6, Bundle.fit (aExc z.val) = true := by decide
    exact key ⟨x9, hx⟩
  · intro w hw
    rcases List.mem_cons.mp hw with rfl | hw
    · rfl
    rcases List.mem_cons.mp hw with rfl | hw
    · rfl
    exact (aAt_all ⟨x9, hx⟩ hx3 w hw).2
theorem e_throwSW (C : aCx p l s m args c D ka sg A nL RX7 cc) {ik is : Nat} {tx : String} (hx : x9 < 6) (hx3 : x9 ≠ 3) (hal : al = false) (hk : Cond.classLink RX7 ik (aExc x9) ∈ aWg) (hini : Cond.initialized (aExc x9) ∈ aWg) (htx : (is, tx) ∈ aStrs) (hf : 6 ≤ R.frames) (hlo : 100 ≤ R.locals) (hc : k.1 + 1 ≤ R.cells) (hs : k.2 + 6 ≤ R.slots) (hr : aSum st ≤ 8) (hlocks : meth.locks = false) (hout : ∀ z ∈ c.exceptionTable.toList, False)
    (d0 : decode cc pc = .ok (.new ik, 3)) (d3 : decode cc (pc + 3) = .ok (.dup, 1)) (d4 : decode cc (pc + 4) = .ok (.ldc_w is, 3)) (d7 : decode cc (pc + 7) = .ok (.invokespecial (aIc x9), 3)) (d10 : decode cc (pc + 10) = .ok (.athrow, 1)) :
    aSim p l e R s m args below meth c (aEq below D ka sg A al args s (.inr x9, h, (k.1 + 1, k.2 + 6))) D ka sg A nL al (pc, ls, st, h, k) := by
  intro H locs L h1 h2 h3 h4
  obtain ⟨sa, hsa⟩ := C.2.2.2.2.2.1.1.2.2.2.2.1 _ htx
  refine vx_throwSW C.1 C.2.1 C.2.2.2.2.2.2.2 (own := RX7) (cls := aExc x9) (text := tx) (names := aSup) (sa := sa) C.2.2.2.1 ?_ (by decide) (C.2.2.2.2.1 _ hk) (C.2.2.2.2.1 _ hini) hsa (a_at C hx hx3) ?_ C.2.2.2.2.2.1.2.2.1 C.2.2.2.2.2.1.2.2.2.1 h2 (by rw [C.2.2.1]; exact h3.1) d0 d3 d4 d7 d10 (fun z hz => (hout z hz).elim) (by show 2 + 3 < R.frames; omega) (by rw [a_sum]; show aSum st + (13 * (2 + 1) + 43) ≤ R.locals; omega) hc hs hlocks (fun t ht hz ho => ⟨x9, rfl, hx, rfl, (h1.grow ho).moved ht, ⟨Nat.le_trans h2.1 hz, fun q g1 g2 => (ho q (Nat.lt_of_lt_of_le g1 h2.1)).trans (h2.2.1 q g1 g2)⟩, fun q => by rw [hal] at q; cases q⟩) h2.2.2 (Nat.le_refl _) (Nat.le_refl _)
  · have key : ∀ z : Fin 6, Bundle.fit (aExc z.val) = true := by decide
    exact key ⟨x9, hx⟩
  · intro w hw
    rcases List.mem_cons.mp hw with rfl | hw
    · rfl
    rcases List.mem_cons.mp hw with rfl | hw
    · rfl
    exact (aAt_all ⟨x9, hx⟩ hx3 w hw).2
/-- not caught here -/
theorem e_out (hout : ∀ z ∈ c.exceptionTable.toList, False) (hlocks : meth.locks = false) : aThr p l e R s m args below meth c (aEq below D ka sg A al args s (.inr x9, h, k)) D ka sg A nL al pc ls r h k x9 := by
  intro H1 locs1 L ce q9 hx h1 h2 h3 h4 hce hcv hcl
  refine vx_out (fun z hz => (hout z hz).elim) hlocks hce hcv hcl (fun t ht hvm => ⟨x9, rfl, hx, rfl, ?_, h2.F ht, fun ha j => by rw [ht]; exact h4 ha j⟩) h2.2.2 (Nat.le_refl _) (Nat.le_refl _)
  rw [ht]
  exact h1.moved hvm
theorem s_catch_n (C : aCx p l s m args c D ka sg A nL own cc) {n : Fin 4} (htb : c.exceptionTable.toList = tableOf hh) (hm : aHm own hh hd = true) (hp : aHd hd pc x9 = some t) (hmay : aMay ls n.val = true) (hdg : decode cc t = .ok (.astore_n n, 1)) (K : aSim p l e R s m args below meth c Q D ka sg A nL al (t + 1, ls.set n.val none, [], h, k)) : aThr p l e R s m args below meth c Q D ka sg A nL al pc ls r h k x9 := by
  intro H1 locs1 L ce q9 hx h1 h2 h3 h4 hce hcv hcl
  obtain ⟨pre, z, suf, g1, g2, g3, g4, g5, g6⟩ := aHd_split hh hd hm hp
  refine vx_catch C.2.2.2.1 pre z suf (by rw [htb, g1]) (fun y hy => ?_) g3 g5 (C.2.2.2.2.1 _ g6) (va_Nw.use rfl (C.2.2.2.2.2.1.1.2.2.2.2.2.2.2.2.2.2.1 x9 hx)) hce hcv hcl ?_
  · rcases g2 y hy with q | ⟨q0, e, q1, q2, q3⟩
    · exact Or.inl q
    · exact Or.inr ⟨q0, _, C.2.2.2.2.1 _ q3, C.2.2.2.2.2.1.1.2.2.2.2.2.2.2.1 x9 e hx q1 (Ne.symm q2)⟩
  · rw [g4]
    exact lv_astore_n C.1 C.2.1 hdg rfl h3.has (by rw [← h3.2.2.1]; exact aMay_lt hmay) rfl (fun L1 g => K H1 locs1 L1 h1 h2 (h3.back hmay (fun v hv => by cases hv) g) h4)
theorem s_catch (C : aCx p l s m args c D ka sg A nL own cc) (htb : c.exceptionTable.toList = tableOf hh) (hm : aHm own hh hd = true) (hp : aHd hd pc x9 = some t) (hmay : aMay ls n = true) (hdg : decode cc t = .ok (.astore n, 2)) (K : aSim p l e R s m args below meth c Q D ka sg A nL al (t + 2, ls.set n none, [], h, k)) : aThr p l e R s m args below meth c Q D ka sg A nL al pc ls r h k x9 := by
  intro H1 locs1 L ce q9 hx h1 h2 h3 h4 hce hcv hcl
  obtain ⟨pre, z, suf, g1, g2, g3, g4, g5, g6⟩ := aHd_split hh hd hm hp
  refine vx_catch C.2.2.2.1 pre z suf (by rw [htb, g1]) (fun y hy => ?_) g3 g5 (C.2.2.2.2.1 _ g6) (va_Nw.use rfl (C.2.2.2.2.2.1.1.2.2.2.2.2.2.2.2.2.2.1 x9 hx)) hce hcv hcl ?_
  · rcases g2 y hy with q | ⟨q0, e, q1, q2, q3⟩
    · exact Or.inl q
    · exact Or.inr ⟨q0, _, C.2.2.2.2.1 _ q3, C.2.2.2.2.2.1.1.2.2.2.2.2.2.2.1 x9 e hx q1 (Ne.symm q2)⟩
  · rw [g4]
    exact lv_astore C.1 C.2.1 hdg h3.has (by rw [← h3.2.2.1]; exact aMay_lt hmay) rfl (fun L1 g => K H1 locs1 L1 h1 h2 (h3.back hmay (fun v hv => by cases hv) g) h4)
theorem a_end {v : Option Value} {H : Heap} {locs : List Loc} (h1 : aRel D ka sg A s h H) (h2 : va_S A s.heap H locs) (h4 : al = true → ∀ j : Nat, sg (h.length + j) = H.size + j) : ∀ t : State, t.heap = H → s.WarmedH t.vm → aQc D ka sg A al (.inl v, h, k) args s (.returned (v.map (aCv sg))) t := fun t ht hW =>
  ⟨v, rfl, rfl, by rw [ht]; exact h1.moved hW.alike, h2.F ht, fun ha j => by rw [ht]; exact h4 ha j⟩
theorem e_ireturn (C : aCx p l s m args c D ka sg A nL own cc) {ty : FieldType} (hr : meth.sig.returnType = some ty) (hf : aFit ty (.int x) = true) (hlocks : meth.locks = false) (hd : decode cc pc = .ok (.ireturn, 1)) : aSim p l e R s m args below meth c (aEq below D ka sg A al args s (.inl (some (.int x)), h, k)) D ka sg A nL al (pc, ls, [.int x], h, k) := fun H locs L h1 h2 h3 h4 =>
  vx_ret (W.zret C.1 C.2.1 hr (aFit_ok (sg := sg) hf).1 (a_end h1 h2 h4) h2.2.2 hd hlocks)
theorem e_freturn (C : aCx p l s m args c D ka sg A nL own cc) {z : UInt32} (hr : meth.sig.returnType = some .float) (hlocks : meth.locks = false) (hd : decode cc pc = .ok (.freturn, 1)) : aSim p l e R s m args below meth c (aEq below D ka sg A al args s (.inl (some (.float z)), h, k)) D ka sg A nL al (pc, ls, [.float z], h, k) := fun H locs L h1 h2 h3 h4 =>
  vx_ret (W.fret C.1 C.2.1 hr (a_end h1 h2 h4) h2.2.2 hd hlocks)
theorem e_dreturn (C : aCx p l s m args c D ka sg A nL own cc) {z : UInt64} (hr : meth.sig.returnType = some .double) (hlocks : meth.locks = false) (hd : decode cc pc = .ok (.dreturn, 1)) : aSim p l e R s m args below meth c (aEq below D ka sg A al args s (.inl (some (.double z)), h, k)) D ka sg A nL al (pc, ls, [.double z], h, k) := fun H locs L h1 h2 h3 h4 =>
  vx_ret (W.dret C.1 C.2.1 hr (a_end h1 h2 h4) h2.2.2 hd hlocks)
theorem e_lreturn (C : aCx p l s m args c D ka sg A nL own cc) {z : Int64} (hr : meth.sig.returnType = some .long) (hlocks : meth.locks = false) (hd : decode cc pc = .ok (.lreturn, 1)) : aSim p l e R s m args below meth c (aEq below D ka sg A al args s (.inl (some (.long z)), h, k)) D ka sg A nL al (pc, ls, [.long z], h, k) := fun H locs L h1 h2 h3 h4 =>
  vx_ret (W.lret C.1 C.2.1 hr (a_end h1 h2 h4) h2.2.2 hd hlocks)
theorem e_areturn (C : aCx p l s m args c D ka sg A nL own cc) {q : Nat} {nm : String} (hr : meth.sig.returnType = some (.object nm)) (hlocks : meth.locks = false) (hd : decode cc pc = .ok (.areturn, 1)) : aSim p l e R s m args below meth c (aEq below D ka sg A al args s (.inl (some (.ref q)), h, k)) D ka sg A nL al (pc, ls, [.ref q], h, k) := fun H locs L h1 h2 h3 h4 =>
  vx_ret (W.aret C.1 C.2.1 hr (Or.inl ⟨_, rfl⟩) (Or.inr ⟨_, rfl⟩) (a_end h1 h2 h4) h2.2.2 hd hlocks)
theorem e_return (C : aCx p l s m args c D ka sg A nL own cc) (hr : meth.sig.returnType = none) (hlocks : meth.locks = false) (hd : decode cc pc = .ok (.return_, 1)) : aSim p l e R s m args below meth c (aEq below D ka sg A al args s (.inl none, h, k)) D ka sg A nL al (pc, ls, [], h, k) := fun H locs L h1 h2 h3 h4 =>
  vx_ret (W.vret C.1 C.2.1 hr (a_end h1 h2 h4) h2.2.2 hd hlocks)
end SNT
end
section
/-! SOUNDNESS: Math, copies, an array of arrays -/
theorem aRel.pushL {D : va_G} {ka : FieldType → ClassId} {s : Nat → Nat} {A : Nat → Prop} {U : State} {h : aH} {H H1 : Heap} (hr : aRel D ka s A U h H) {es : List aE} (hs : ∀ j : Nat, j < es.length → s (h.length + j) = H.size + j) (hn : ∀ (j : Nat) (e : aE), es[j]? = some e → aOn D ka s A U H1 (h.length + j) (true, e)) (ho : ∀ x : Nat, x < H.size → H1[x]? = H[x]?) : aRel D ka s A U (h ++ es.map fun e => (true, e)) H1 := by
  have hg := hr.grow ho
  have lt : ∀ (q : Nat) (x : aE), h[q]? = some (true, x) → s q < H.size := by
    intro q x hq
    have h1 := hr.1 q _ hq
    cases x with
    | inl y => exact (Array.getElem?_eq_some_iff.mp h1.2).1
    | inr y =>
      obtain ⟨-, r, -, cell, h2, -⟩ := h1
      exact (Array.getElem?_eq_some_iff.mp h2).1
  have key : ∀ (q : Nat) (c : aC), (h ++ es.map fun e => (true, e))[q]? = some c → h[q]? = some c ∨ ∃ j e, q = h.length + j ∧ es[j]? = some e ∧ c = (true, e) := by
    intro q c hq
    by_cases hl : q < h.length
    · rw [List.getElem?_append_left hl] at hq
      exact Or.inl hq
    · rw [List.getElem?_append_right (by omega), List.getElem?_map] at hq
      cases he : es[q - h.length]? with
      | none => rw [he] at hq; cases hq
      | some e =>
        rw [he] at hq
        cases hq
        exact Or.inr ⟨q - h.length, e, by omega, he, rfl⟩
  refine ⟨fun q c hq => ?_, fun q q1 c c1 hq hq1 hs1 => ?_⟩
  · rcases key q c hq with h1 | ⟨j, e, rfl, he, rfl⟩
    · exact hg.1 q c h1
    · exact hn j e he
  · rcases key q _ hq with h1 | ⟨j, e, rfl, he, h1⟩ <;> rcases key q1 _ hq1 with h2 | ⟨j1, e1, rfl, he1, h2⟩
    · exact hr.2 q q1 c c1 h1 h2 hs1
    · have := lt q c h1
      have := hs j1 (List.getElem?_eq_some_iff.mp he1).1
      omega
    · have := lt q1 c1 h2
      have := hs j (List.getElem?_eq_some_iff.mp he).1
      omega
    · have := hs j (List.getElem?_eq_some_iff.mp he).1
      have := hs j1 (List.getElem?_eq_some_iff.mp he1).1
      omega
section SNM
variable {p : Program} {l : Launch} {e : Env} {R : Room} {s : State} {m : MethodId} {args : Array Value} {below : List Frame} {meth : Method} {c : Code} {Q : State → Prop} {D : va_G} {ka : FieldType → ClassId} {sg : Nat → Nat} {A : Nat → Prop} {nL : Nat} {own : String} {cc : ByteArray} {al : Bool}
variable {pc : Nat} {ls : List (Option Value)} {st r : List Value} {h : aH} {k : aK} {x y : Int32} {idx : Nat}
theorem s_max (C : aCx p l s m args c D ka sg A nL own cc) (hl : Cond.methodLink own idx Lib.Math.max.name ∈ aWg) (hs : Cond.static Lib.Math.max.name ∈ aWg) (hi : Cond.initialized "java/lang/Math" ∈ aWg) (hc : Cond.code Lib.Math.max.name Lib.Math.max.code 2 (some .int) ∈ aWg) (hf : 1 ≤ R.frames) (hlo : 100 ≤ R.locals) (hr : aSum r ≤ 8) (hkc : k.1 ≤ R.cells) (hks : k.2 ≤ R.slots) (hd : decode cc pc = .ok (.invokestatic idx, 3)) (K : aSim p l e R s m args below meth c Q D ka sg A nL al (pc + 3, ls, .int (if x < y then y else x) :: r, h, k)) : aSim p l e R s m args below meth c Q D ka sg A nL al (pc, ls, .int y :: .int x :: r, h, k) :=
  fun H locs L h1 h2 h3 h4 => va_mmax C.1 C.2.1 (by rw [C.2.2.1]; exact h3.1.symm) C.2.2.2.1 (C.2.2.2.2.1 _ hl) (C.2.2.2.2.1 _ hs) (C.2.2.2.2.1 _ hi) (C.2.2.2.2.1 _ hc) hf (by rw [a_sum]; omega) hkc hks hd (K H locs L h1 h2 h3 h4)
theorem s_min (C : aCx p l s m args c D ka sg A nL own cc) (hl : Cond.methodLink own idx Lib.Math.min.name ∈ aWg) (hs : Cond.static Lib.Math.min.name ∈ aWg) (hi : Cond.initialized "java/lang/Math" ∈ aWg) (hc : Cond.code Lib.Math.min.name Lib.Math.min.code 2 (some .int) ∈ aWg) (hf : 1 ≤ R.frames) (hlo : 100 ≤ R.locals) (hr : aSum r ≤ 8) (hkc : k.1 ≤ R.cells) (hks : k.2 ≤ R.slots) (hd : decode cc pc = .ok (.invokestatic idx, 3)) (K : aSim p l e R s m args below meth c Q D ka sg A nL al (pc + 3, ls, .int (if y < x then y else x) :: r, h, k)) : aSim p l e R s m args below meth c Q D ka sg A nL al (pc, ls, .int y :: .int x :: r, h, k) :=
  fun H locs L h1 h2 h3 h4 => va_mmin C.1 C.2.1 (by rw [C.2.2.1]; exact h3.1.symm) C.2.2.2.1 (C.2.2.2.2.1 _ hl) (C.2.2.2.2.1 _ hs) (C.2.2.2.2.1 _ hi) (C.2.2.2.2.1 _ hc) hf (by rw [a_sum]; omega) hkc hks hd (K H locs L h1 h2 h3 h4)
theorem a_nnz {z : Int32} (hz : ¬ z < 0) : z.toInt = (z.toNatClampNeg : Int) := by
  have hz0 : (0 : Int) ≤ z.toInt := by
    have := Int32.not_lt.mp hz
    simpa using Int32.le_iff_toInt_le.mp this
  show z.toInt = ((z.toInt.toNat : Nat) : Int)
  omega
theorem s_copy (C : aCx p l s m args c D ka sg A nL own cc) {q d n0 n1 : Nat} {f g : Nat → Int32} {n sp dp : Int32} (hl : Cond.methodLink own idx arraycopyName ∈ aWg) (hna : Cond.native arraycopyName ∈ aWg) (hst : Cond.static arraycopyName ∈ aWg) (hi : Cond.initialized "java/lang/System" ∈ aWg) (hf : 1 ≤ R.frames) (hlo : 100 ≤ R.locals) (hr : aSum r ≤ 8)
    (hq : h[q]? = some (true, .inl (.int, n0, .inl f))) (hdq : h[d]? = some (true, .inl (.int, n1, .inl g))) (h1 : ¬ sp < 0) (h2 : ¬ dp < 0) (h3 : ¬ n < 0) (h4 : sp.toNatClampNeg + n.toNatClampNeg ≤ n0) (h5 : dp.toNatClampNeg + n.toNatClampNeg ≤ n1) (hd : decode cc pc = .ok (.invokestatic idx, 3))
    (K : aSim p l e R s m args below meth c Q D ka sg A nL al (pc + 3, ls, r, h.set d (true, .inl (.int, n1, .inl (va_cpy f g sp.toNatClampNeg dp.toNatClampNeg n.toNatClampNeg))), k)) : aSim p l e R s m args below meth c Q D ka sg A nL al (pc, ls, .int n :: .int dp :: .ref d :: .int sp :: .ref q :: r, h, k) := by
  intro H locs L g1 g2 g3 g4 T hT X
  have hc0 : H[sg q]? = some (vp_cell (ka .int) (n0, .inl f)) := (g1.1 q _ hq).2
  obtain ⟨hA, hc1⟩ := g1.1 d _ hdq
  have hK := (C.2.2.2.2.2.1.1.2.1 .int (by simp)).1
  obtain ⟨-, k0, hk0, cm0, hkk0⟩ := hK n0 (fun j => .int (f j))
  obtain ⟨-, k1, hk1, cm1, hkk1⟩ := hK n1 (fun j => .int (g j))
  obtain ⟨vm', X', stp⟩ := X.arraycopy C.1 C.2.2.2.1 (C.2.2.2.2.1 _ hl) (C.2.2.2.2.1 _ hna) (C.2.2.2.2.1 _ hst) (C.2.2.2.2.1 _ hi) (src := sg q) (dst := sg d) (cs := vp_cell (ka .int) (n0, .inl f)) (cd := vp_cell (ka .int) (n1, .inl g)) (srcPos := sp) (destPos := dp) (n := n) (by rw [hT]; exact hc0) (by rw [hT]; exact hc1)
    (fun _ h => by cases h) (fun _ h => by cases h) (fun h => by cases h) (fun h => by cases h) hk0 hk1 hkk0 hkk1 (by simp [refKind]) h1 h2 h3
    (by rw [a_nnz h1, a_nnz h3]; show ¬ _ > ((arrV (ka .int) n0 (fun j => .int (f j))).slots.size : Int); rw [arrV_size]; omega)
    (by rw [a_nnz h2, a_nnz h3]; show ¬ _ > ((arrV (ka .int) n1 (fun j => .int (g j))).slots.size : Int); rw [arrV_size]; omega)
    (fun vm₁ _ i hi => by
      have e : (vp_cell (ka .int) (n0, .inl f)).slots.getD (sp.toNatClampNeg + i) .null = .int (f (sp.toNatClampNeg + i)) := by
        show (arrV (ka .int) n0 (fun j => .int (f j))).slots.getD _ _ = _
        rw [Array.getD_eq_getD_getElem?, arrV_read _ _ (by omega)]
        rfl
      refine ⟨?_, ?_⟩
      · rw [e]
        rfl
      · rw [e]
        exact trivial)
    (g := F0 m pc L (.int n :: .int dp :: .ref (sg d) :: .int sp :: .ref (sg q) :: r.map (aCv sg))) rfl (by rw [C.2.2.1]; exact g3.1) (rest := r.map (aCv sg)) rfl (by rw [C.2.1]; exact hd) hf (by
      have e9 : nativeFrameWords "java/lang/System" "arraycopy" 5 ≤ 60 := by decide +kernel
      rw [a_sum]
      show 2 * 0 + aSum r + _ ≤ R.locals
      omega)
  have e1 : copied (vp_cell (ka .int) (n0, .inl f)) (vp_cell (ka .int) (n1, .inl g)) sp dp n = vp_cell (ka .int) (n1, .inl (va_cpy f g sp.toNatClampNeg dp.toNatClampNeg n.toNatClampNeg)) := va_copied (fun z => .int z) (ka .int) (ka .int) f g h4
  rw [e1] at X' stp
  have hlt : sg d < H.size := (Array.getElem?_eq_some_iff.mp hc1).1
  have hheap : ((T.setVm vm').setCell (sg d) (vp_cell (ka .int) (n1, .inl (va_cpy f g sp.toNatClampNeg dp.toNatClampNeg n.toNatClampNeg)))).heap = H.setIfInBounds (sg d) (vp_cell (ka .int) (n1, .inl (va_cpy f g sp.toNatClampNeg dp.toNatClampNeg n.toNatClampNeg))) := by rw [← hT]; rfl
  have oq : ∀ q : Nat, q ≠ sg d → (H.setIfInBounds (sg d) (vp_cell (ka .int) (n1, .inl (va_cpy f g sp.toNatClampNeg dp.toNatClampNeg n.toNatClampNeg))))[q]? = H[q]? := fun q hq => by simp [Array.getElem?_setIfInBounds, Ne.symm hq]
  obtain ⟨t, a1, b1⟩ := K _ _ L (g1.set (e := .inl (.int, n1, .inl (va_cpy f g sp.toNatClampNeg dp.toNatClampNeg n.toNatClampNeg))) hdq hA ⟨hA, show (H.setIfInBounds (sg d) _)[sg d]? = some _ by simp [Array.getElem?_setIfInBounds, hlt]; rfl⟩ oq) (⟨by simp; exact g2.1, fun q z1 z2 => by
      rw [oq q (fun e => z2 (by rw [e]; exact hA))]
      exact g2.2.1 q z1 z2, fun q hq => by
      rcases List.mem_append.mp hq with h | h
      · exact g2.2.2 q h
      · obtain ⟨z, -, hz⟩ := List.mem_map.mp h
        rw [← hz]
        exact hA⟩) g3 (fun ha j => by
      show sg ((h.set d _).length + j) = _
      rw [List.length_set, Array.size_setIfInBounds]
      exact g4 ha j) _ hheap X'
  exact ⟨t, stp t a1, b1⟩
theorem s_multi (C : aCx p l s m args c D ka sg A nL own cc) (hal : al = true) (hl : Cond.classLink own idx "[[I" ∈ aWg) (hi : Cond.arrayClass .int ∈ aWg) (hkc : k.1 + 4 ≤ R.cells) (hks : k.2 + 63 ≤ R.slots) (hd : decode cc pc = .ok (.multianewarray idx 2, 4))
    (K : aSim p l e R s m args below meth c Q D ka sg A nL al (pc + 4, ls, .ref h.length :: r, h ++ [(true, .inl (.array .int, 3, .inr (.inr (.inr (.inr fun i => if i < 3 then some (h.length + 1 + i) else none))))), (true, .inl (.int, 20, .inl fun _ => 0)), (true, .inl (.int, 20, .inl fun _ => 0)), (true, .inl (.int, 20, .inl fun _ => 0))], (k.1 + 4, k.2 + 63))) : aSim p l e R s m args below meth c Q D ka sg A nL al (pc, ls, .int 20 :: .int 3 :: r, h, k) := by
  intro H locs L h1 h2 h3 h4 T hT X
  have e3 : (3 : Int32).toNatClampNeg = 3 := by decide
  have e20 : (20 : Int32).toNatClampNeg = 20 := by decide
  obtain ⟨vm₁, cA, comp, -, fA, fC, hO, hI, X', stp⟩ := X.multianewarray2F (ty := .int) C.1 C.2.2.2.1 (C.2.2.2.2.1 _ hl) (va_AOA.use C.2.2.2.2.2.1.1.2.2.2.2.2.2.2.2.2.1) (C.2.2.2.2.1 _ hi) (g := F0 m pc L (.int 20 :: .int 3 :: r.map (aCv sg))) rfl (by rw [C.2.1]; exact hd) (n := 3) (k := 20) (rest := r.map (aCv sg)) rfl (by decide) (by decide) (by decide) (by decide) (by decide) rfl rfl (by rw [e3]; exact hkc) (by rw [e3, e20]; exact hks)
  rw [e3, e20] at X' stp
  have hs : ∀ j : Nat, sg (h.length + j) = H.size + j := h4 hal
  have hTh : (T.setVm vm₁).heap = H := hT
  have kA : cA = ka (.array .int) := Option.some.inj (fA.symm.trans (C.2.2.2.2.2.1.1.2.1 (.array .int) (by simp)).2)
  have kI : comp = ka .int := Option.some.inj (fC.symm.trans (C.2.2.2.2.2.1.1.2.1 .int (by simp)).2)
  subst kA
  subst kI
  generalize hF : Jvm.Free.Multi.fill (T.setVm vm₁) (ka (.array .int)) (ka .int) 3 20 (defaultValue .int) 3 = F at X' stp
  obtain ⟨f1, f2, -, -⟩ := Jvm.Free.Multi.fill_facts (T.setVm vm₁) (ka (.array .int)) (ka .int) 3 20 (defaultValue .int) 3
  rw [hF, hTh] at f1 f2
  have hold : ∀ x : Nat, x < H.size → F.heap[x]? = H[x]? := fun x hx => by
    have := Jvm.Free.Multi.fill_old (T.setVm vm₁) (ka (.array .int)) (ka .int) 3 20 (defaultValue .int) (a := x) (by rw [hTh]; exact hx) 3
    rw [hF, hTh] at this
    exact this
  have hrow : ∀ j : Nat, j < 3 → F.heap[H.size + 1 + j]? = some (vp_cell (ka .int) (20, .inl fun _ => 0)) := fun j hj => by
    have := Jvm.Free.Multi.fill_inner (T.setVm vm₁) (ka (.array .int)) (ka .int) 3 20 (defaultValue .int) 3 j hj
    rw [hF, hTh] at this
    rw [this]
    refine congrArg some ?_
    show ({ cls := ka .int, slots := Array.replicate 20 (.int 0), vm := .none } : Cell) = arrV (ka .int) 20 (fun _ => .int 0)
    rw [arrV_new]
  have hAll : ∀ j : Nat, A (sg (h.length + j)) := fun j => by
    rw [hs]
    exact C.2.2.2.2.2.2.1 _ (Nat.le_trans h2.1 (Nat.le_add_right _ _))
  obtain ⟨t, a1, b1⟩ := K F.heap locs L (h1.pushL (es := [.inl (.array .int, 3, .inr (.inr (.inr (.inr fun i => if i < 3 then some (h.length + 1 + i) else none)))), .inl (.int, 20, .inl fun _ => 0), .inl (.int, 20, .inl fun _ => 0), .inl (.int, 20, .inl fun _ => 0)]) (fun j _ => hs j) (fun j e he => by
    match j, he with
    | 0, he =>
      cases he
      refine ⟨hAll 0, ?_⟩
      rw [hs, Nat.add_zero, f2, vr_outer]
      show some (arrV (ka (.array .int)) 3 (fun j => va_rf (if j < 3 then some (H.size + 1 + j) else none))) = some (arrV (ka (.array .int)) 3 (fun j => va_rf ((if j < 3 then some (h.length + 1 + j) else none).map sg)))
      congr 2
      funext j
      by_cases hj : j < 3
      · simp only [hj, if_true, Option.map_some]
        rw [Nat.add_assoc h.length, hs, Nat.add_assoc]
      · simp [hj]
    | 1, he => cases he; exact ⟨hAll 1, by rw [hs]; exact hrow 0 (by omega)⟩
    | 2, he => cases he; exact ⟨hAll 2, by rw [hs]; exact hrow 1 (by omega)⟩
    | 3, he => cases he; exact ⟨hAll 3, by rw [hs]; exact hrow 2 (by omega)⟩
    | j + 4, he => simp at he) hold) ⟨Nat.le_trans h2.1 (by omega), fun x g1 g2 => (hold x (Nat.lt_of_lt_of_le g1 h2.1)).trans (h2.2.1 x g1 g2), h2.2.2⟩ h3 (fun ha j => by
      show sg ((h ++ _).length + j) = _
      rw [List.length_append, f1]
      have := hs (4 + j)
      simp only [List.length_cons, List.length_nil]
      rw [show h.length + (0 + 1 + 1 + 1 + 1) + j = h.length + (4 + j) by omega, this]
      omega) F rfl X'
  refine ⟨t, stp t ?_, b1⟩
  have e : T.heap.size = sg h.length := by rw [hT]; exact (hs 0).symm
  rw [e]
  exact a1
end SNM
end
section
/-! the words of the tables, by their places -/
/-- fields: class, number in its table, the object's class, the field; the word's place -/
def aFtab : List (Nat × Nat × Nat × Nat × Nat) := [(0, 11, 0, 2, 210), (0, 18, 0, 1, 209), (0, 22, 0, 0, 207), (1, 9, 1, 1, 158), (1, 15, 1, 2, 160), (1, 18, 1, 3, 162), (1, 21, 1, 4, 164), (1, 24, 1, 0, 156), (2, 9, 2, 1, 68), (2, 15, 2, 2, 70), (2, 18, 2, 0, 66), (3, 9, 3, 1, 139), (3, 15, 3, 2, 141), (3, 18, 3, 0, 137), (4, 9, 4, 2, 230), (4, 17, 4, 3, 232), (4, 20, 4, 4, 234), (4, 23, 4, 0, 226), (4, 31, 4, 5, 235), (4, 34, 4, 1, 228), (5, 9, 5, 1, 101), (5, 15, 5, 2, 104), (5, 18, 5, 3, 106), (5, 21, 5, 4, 108), (5, 24, 5, 5, 110), (5, 27, 5, 6, 112), (5, 30, 5, 7, 113), (5, 33, 5, 0, 99), (6, 9, 6, 4, 186), (6, 18, 6, 0, 178), (6, 25, 6, 1, 180), (6, 32, 6, 2, 182), (6, 39, 6, 3, 184), (6, 59, 6, 5, 187), (6, 63, 6, 6, 188), (6, 66, 6, 7, 189), (6, 83, 5, 0, 100), (6, 97, 5, 1, 102), (6, 100, 5, 2, 105), (6, 103, 5, 3, 107), (6, 110, 3, 0, 138), (6, 118, 3, 1, 140), (6, 121, 3, 2, 142), (6, 147, 5, 4, 109), (6, 160, 5, 5, 111), (6, 170, 1, 0, 157), (6, 190, 1, 3, 163), (6, 204, 1, 1, 159), (6, 208, 1, 2, 161), (7, 10, 7, 0, 252), (7, 19, 7, 1, 253), (7, 26, 7, 2, 254), (7, 33, 7, 3, 255), (7, 37, 7, 4, 256), (7, 40, 7, 5, 257), (7, 43, 7, 7, 258), (7, 103, 6, 0, 179), (7, 127, 6, 2, 183), (7, 138, 5, 1, 103), (7, 145, 6, 1, 181), (7, 195, 4, 0, 227), (7, 209, 4, 1, 229), (7, 220, 2, 0, 67), (7, 225, 2, 2, 71), (7, 228, 2, 1, 69), (7, 231, 0, 0, 208), (7, 290, 6, 3, 185), (7, 304, 4, 3, 233), (7, 308, 4, 2, 231)]
/-- statics: class, number, which; 0 where a nest mate reads it, else the word's place -/
def aGtab : List (Nat × Nat × Nat × Nat) := [(5, 43, 0, 0), (5, 46, 1, 0), (6, 73, 2, 0), (6, 76, 3, 0), (6, 86, 0, 0), (7, 134, 4, 868)]
/-- new: class, number, of which (100 on: exceptions); places of classLink, initialized, instantiable -/
def aNtab : List (Nat × Nat × Nat × Nat × Nat × Nat) := [(0, 9, 6, 86, 22, 88), (6, 15, 5, 93, 23, 94), (6, 22, 3, 131, 24, 132), (6, 29, 1, 150, 25, 151), (6, 36, 2, 176, 20, 61), (7, 7, 2, 60, 20, 61), (7, 16, 0, 80, 21, 81), (7, 23, 4, 218, 26, 219), (7, 30, 6, 250, 22, 88), (7, 155, 103, 588, 37, 589), (7, 186, 104, 1018, 42, 1019), (7, 204, 100, 402, 32, 403), (7, 247, 105, 841, 38, 842), (7, 283, 102, 330, 31, 331), (7, 296, 101, 423, 33, 424), (9, 9, 7, 52, 19, 53)]
/-- calls: class, number, kind, which method; the word's place -/
def aLtab : List (Nat × Nat × Nat × Nat × Nat) := [(0, 3, 9, 600, 85), (0, 17, 2, 56, 89), (0, 25, 7, 501, 443), (0, 31, 6, 500, 1038), (1, 3, 9, 600, 155), (1, 28, 8, 502, 309), (1, 34, 0, 5, 744), (1, 38, 0, 8, 827), (2, 3, 9, 600, 65), (2, 22, 8, 502, 422), (2, 28, 0, 15, 322), (2, 32, 7, 501, 1009), (3, 3, 9, 600, 136), (3, 22, 8, 502, 304), (3, 28, 0, 21, 524), (3, 32, 0, 22, 572), (3, 36, 0, 23, 573), (4, 3, 9, 600, 223), (4, 27, 0, 29, 1340), (4, 37, 0, 33, 1352), (4, 41, 0, 34, 1356), (4, 45, 0, 35, 1360), (5, 3, 9, 600, 98), (5, 37, 8, 502, 297), (5, 49, 0, 42, 663), (5, 53, 0, 43, 667), (5, 57, 6, 500, 668), (5, 63, 0, 46, 922), (5, 67, 0, 50, 934), (5, 70, 0, 40, 814), (5, 73, 0, 41, 788), (6, 3, 9, 600, 92), (6, 17, 3, 36, 0), (6, 24, 3, 17, 0), (6, 31, 3, 3, 0), (6, 38, 3, 12, 0), (6, 43, 0, 37, 293), (6, 47, 0, 18, 300), (6, 50, 0, 4, 305), (6, 53, 8, 502, 310), (6, 69, 4, 132, 0), (6, 79, 0, 14, 318), (6, 89, 0, 39, 463), (6, 93, 0, 38, 499), (6, 106, 0, 43, 503), (6, 111, 0, 20, 520), (6, 114, 0, 19, 539), (6, 115, 0, 22, 543), (6, 124, 0, 23, 547), (6, 127, 0, 81, 551), (6, 130, 0, 83, 560), (6, 134, 0, 21, 574), (6, 138, 0, 24, 568), (6, 141, 0, 40, 615), (6, 144, 0, 82, 619), (6, 150, 0, 76, 684), (6, 154, 0, 78, 634), (6, 157, 0, 79, 643), (6, 163, 0, 52, 696), (6, 166, 0, 45, 700), (6, 171, 0, 6, 736), (6, 174, 0, 7, 740), (6, 177, 0, 5, 1003), (6, 178, 0, 73, 975), (6, 181, 0, 15, 1004), (6, 184, 0, 16, 1005), (6, 187, 0, 75, 979), (6, 193, 0, 8, 960), (6, 196, 0, 74, 961), (6, 199, 7, 501, 966), (6, 205, 0, 47, 965), (6, 211, 0, 46, 983), (6, 214, 0, 26, 647), (6, 217, 0, 80, 651), (6, 220, 0, 41, 655), (6, 223, 0, 44, 659), (6, 226, 0, 42, 671), (6, 229, 0, 53, 555), (6, 232, 0, 84, 564), (6, 235, 0, 25, 721), (6, 238, 0, 48, 759), (6, 241, 0, 27, 763), (6, 244, 0, 9, 767), (6, 247, 0, 54, 810), (6, 250, 0, 49, 819), (6, 252, 0, 10, 823), (6, 255, 0, 85, 835), (7, 1, 9, 600, 57), (7, 9, 3, 12, 0), (7, 18, 2, 0, 82), (7, 25, 3, 28, 0), (7, 32, 2, 56, 251), (7, 47, 0, 125, 285), (7, 51, 0, 58, 1078), (7, 55, 0, 126, 326), (7, 59, 0, 59, 311), (7, 62, 0, 60, 457), (7, 66, 0, 61, 495), (7, 69, 0, 62, 516), (7, 73, 0, 63, 535), (7, 76, 0, 64, 1093), (7, 79, 0, 65, 611), (7, 82, 0, 66, 680), (7, 85, 0, 67, 692), (7, 88, 0, 68, 732), (7, 92, 0, 69, 999), (7, 95, 0, 128, 778), (7, 99, 1, 131, 583), (7, 107, 0, 55, 784), (7, 112, 0, 129, 711), (7, 115, 0, 87, 717), (7, 118, 0, 84, 793), (7, 121, 0, 85, 798), (7, 124, 0, 130, 950), (7, 131, 0, 11, 988), (7, 142, 0, 47, 918), (7, 149, 0, 22, 1049), (7, 162, 0, 26, 1051), (7, 165, 0, 80, 1059), (7, 168, 0, 76, 630), (7, 174, 0, 77, 639), (7, 177, 0, 71, 971), (7, 180, 0, 72, 956), (7, 183, 0, 29, 1331), (7, 191, 0, 30, 1336), (7, 198, 0, 32, 1348), (7, 201, 0, 31, 1364), (7, 212, 0, 127, 1369), (7, 216, 0, 70, 1373), (7, 232, 0, 88, 755), (7, 235, 0, 89, 806), (7, 238, 0, 90, 815), (7, 241, 0, 91, 831), (7, 244, 0, 51, 930), (7, 252, 0, 50, 939), (7, 255, 0, 27, 840), (7, 260, 0, 86, 857), (7, 265, 0, 2, 1034), (7, 269, 0, 57, 289), (7, 293, 0, 13, 418), (7, 301, 0, 1, 439), (7, 311, 0, 38, 782), (7, 316, 0, 19, 715), (7, 319, 0, 5, 954), (7, 322, 1, 132, 586), (9, 8, 0, 93, 1074), (9, 16, 0, 94, 281), (9, 22, 0, 95, 453), (9, 26, 0, 96, 491), (9, 31, 0, 97, 512), (9, 35, 0, 98, 531), (9, 38, 0, 99, 1089), (9, 41, 0, 100, 607), (9, 44, 0, 101, 676), (9, 47, 0, 102, 688), (9, 50, 0, 103, 728), (9, 54, 0, 104, 995), (9, 57, 0, 105, 774), (9, 60, 0, 106, 707), (9, 63, 0, 112, 1045), (9, 68, 0, 113, 1055), (9, 71, 0, 114, 626), (9, 75, 0, 117, 1327), (9, 81, 0, 118, 1344), (9, 84, 11, 505, 1323), (9, 89, 10, 503, 871), (9, 93, 5, 151, 1324), (9, 98, 5, 152, 1341), (9, 102, 0, 119, 579), (9, 106, 0, 124, 1014), (9, 109, 2, 92, 54), (9, 110, 5, 135, 276), (9, 113, 1, 133, 446), (9, 117, 5, 136, 450), (9, 120, 5, 137, 467), (9, 122, 5, 138, 509), (9, 124, 5, 139, 528), (9, 126, 5, 154, 575), (9, 129, 5, 141, 604), (9, 132, 5, 150, 623), (9, 136, 6, 500, 672), (9, 141, 5, 142, 673), (9, 143, 5, 143, 685), (9, 145, 5, 147, 704), (9, 148, 5, 144, 725), (9, 151, 1, 156, 49), (9, 155, 1, 157, 748), (9, 159, 1, 159, 861), (9, 162, 1, 161, 940), (9, 165, 1, 162, 1039), (9, 169, 1, 164, 1060), (9, 172, 0, 120, 751), (9, 175, 5, 146, 771), (9, 177, 0, 107, 789), (9, 180, 0, 108, 794), (9, 183, 0, 121, 802), (9, 187, 0, 123, 836), (9, 191, 0, 111, 914), (9, 195, 0, 110, 864), (9, 200, 5, 158, 911), (9, 203, 0, 122, 926), (9, 207, 0, 116, 946), (9, 210, 0, 115, 967), (9, 213, 5, 160, 943), (9, 215, 0, 109, 984), (9, 218, 5, 145, 992), (9, 220, 5, 155, 1010), (9, 222, 5, 148, 1042), (9, 224, 5, 149, 1052), (9, 236, 1, 163, 1063), (9, 240, 5, 134, 1071), (9, 242, 5, 140, 1086)]
/-- methods: places of code, initialized, static or instanceMethod, selects; parameters; static -/
def aMtab : List (Nat × Nat × Nat × Nat × Nat × Nat) := [(84, 21, 83, 0, 0, 0), (442, 21, 440, 441, 1, 0), (1037, 21, 1035, 1036, 1, 0), (154, 25, 153, 0, 0, 0), (308, 25, 306, 307, 1, 0), (747, 25, 745, 746, 1, 0), (739, 25, 737, 738, 2, 0), (743, 25, 741, 742, 3, 0), (830, 25, 828, 829, 2, 0), (770, 25, 768, 769, 0, 0), (826, 25, 824, 825, 1, 0), (991, 25, 989, 990, 2, 0), (64, 20, 63, 0, 0, 0), (421, 20, 419, 420, 1, 0), (321, 20, 319, 320, 2, 0), (325, 20, 323, 324, 2, 0), (1008, 20, 1006, 1007, 2, 0), (135, 24, 134, 0, 0, 0), (303, 24, 301, 302, 1, 0), (542, 24, 540, 541, 1, 0), (523, 24, 521, 522, 0, 0), (527, 24, 525, 526, 3, 0), (546, 24, 544, 545, 1, 0), (550, 24, 548, 549, 2, 0), (571, 24, 569, 570, 1, 0), (724, 24, 722, 723, 1, 0), (650, 24, 648, 649, 2, 0), (766, 24, 764, 765, 0, 0), (222, 26, 221, 0, 0, 0), (1334, 26, 1332, 1333, 0, 0), (1339, 26, 1337, 1338, 1, 0), (1367, 26, 1365, 1366, 0, 0), (1351, 26, 1349, 1350, 0, 0), (1355, 26, 1354, 14, 1, 0), (1359, 26, 1358, 15, 1, 0), (1363, 26, 1362, 16, 4, 0), (97, 23, 96, 0, 0, 0), (296, 23, 294, 295, 1, 0), (502, 23, 500, 501, 1, 0), (466, 23, 464, 465, 2, 0), (618, 23, 616, 617, 1, 0), (658, 23, 656, 657, 1, 0), (666, 23, 664, 665, 1, 0), (506, 23, 504, 505, 1, 0), (662, 23, 660, 661, 2, 0), (703, 23, 701, 702, 1, 0), (925, 23, 923, 924, 3, 0), (921, 23, 919, 920, 3, 0), (762, 23, 760, 761, 1, 0), (822, 23, 820, 821, 1, 0), (937, 23, 935, 936, 1, 0), (933, 23, 931, 932, 0, 0), (699, 23, 697, 698, 1, 0), (558, 23, 556, 557, 1, 0), (813, 23, 811, 812, 0, 0), (787, 23, 785, 786, 2, 0), (91, 22, 90, 0, 0, 0), (292, 22, 290, 291, 1, 0), (1081, 22, 1079, 1080, 2, 0), (314, 22, 312, 313, 1, 0), (460, 22, 458, 459, 3, 0), (498, 22, 496, 497, 3, 0), (519, 22, 517, 518, 0, 0), (538, 22, 536, 537, 3, 0), (1096, 22, 1094, 1095, 1, 0), (614, 22, 612, 613, 2, 0), (683, 22, 681, 682, 1, 0), (695, 22, 693, 694, 1, 0), (735, 22, 733, 734, 6, 0), (1002, 22, 1000, 1001, 1, 0), (1376, 22, 1374, 1375, 2, 0), (974, 22, 972, 973, 1, 0), (959, 22, 957, 958, 1, 0), (978, 22, 977, 12, 1, 0), (964, 22, 963, 11, 2, 0), (982, 22, 981, 13, 1, 0), (633, 22, 631, 632, 0, 0), (642, 22, 640, 641, 1, 0), (637, 22, 636, 6, 1, 0), (646, 22, 645, 7, 2, 0), (654, 22, 652, 653, 2, 0), (554, 22, 553, 3, 1, 0), (622, 22, 621, 5, 1, 0), (563, 22, 562, 4, 3, 0), (567, 22, 565, 566, 1, 0), (801, 22, 799, 800, 1, 0), (860, 22, 858, 859, 0, 0), (720, 22, 718, 719, 2, 0), (758, 22, 756, 757, 1, 0), (809, 22, 807, 808, 0, 0), (818, 22, 816, 817, 0, 0), (834, 22, 832, 833, 0, 0), (56, 19, 55, 0, 0, 0), (1077, 19, 1075, 1076, 2, 0), (284, 19, 282, 283, 1, 0), (456, 19, 454, 455, 3, 0), (494, 19, 492, 493, 3, 0), (515, 19, 513, 514, 0, 0), (534, 19, 532, 533, 3, 0), (1092, 19, 1090, 1091, 1, 0), (610, 19, 608, 609, 2, 0), (679, 19, 677, 678, 1, 0), (691, 19, 689, 690, 1, 0), (731, 19, 729, 730, 6, 0), (998, 19, 996, 997, 1, 0), (777, 19, 775, 776, 2, 0), (710, 19, 708, 709, 2, 0), (792, 19, 790, 791, 1, 0), (797, 19, 795, 796, 1, 0), (987, 19, 985, 986, 2, 0), (867, 19, 865, 866, 1, 0), (917, 19, 915, 916, 3, 0), (1048, 19, 1046, 1047, 2, 0), (1058, 19, 1056, 1057, 2, 0), (629, 19, 627, 628, 1, 0), (970, 19, 968, 969, 1, 0), (949, 19, 947, 948, 1, 0), (1330, 19, 1328, 1329, 1, 0), (1347, 19, 1345, 1346, 0, 0), (582, 19, 580, 581, 2, 0), (754, 19, 752, 753, 1, 0), (805, 19, 803, 804, 0, 0), (929, 19, 927, 928, 0, 0), (839, 19, 837, 838, 0, 0), (1017, 19, 1015, 1016, 0, 0), (288, 19, 287, 0, 0, 0), (329, 19, 328, 1, 1, 0), (1372, 19, 1371, 17, 2, 0), (781, 19, 780, 9, 1, 0), (714, 19, 713, 8, 1, 0), (953, 19, 952, 10, 1, 0), (585, 19, 584, 0, 3, 1), (317, 19, 316, 0, 3, 1), (448, 18, 447, 0, 2, 1), (1073, 18, 1072, 0, 3, 1), (278, 18, 277, 0, 2, 1), (452, 18, 451, 0, 4, 1), (469, 18, 468, 0, 4, 1), (511, 18, 510, 0, 1, 1), (530, 18, 529, 0, 4, 1), (1088, 18, 1087, 0, 2, 1), (606, 18, 605, 0, 3, 1), (675, 18, 674, 0, 2, 1), (687, 18, 686, 0, 2, 1), (727, 18, 726, 0, 7, 1), (994, 18, 993, 0, 2, 1), (773, 18, 772, 0, 3, 1), (706, 18, 705, 0, 3, 1), (1044, 18, 1043, 0, 3, 1), (1054, 18, 1053, 0, 3, 1), (625, 18, 624, 0, 2, 1), (1326, 18, 1325, 0, 2, 1), (1343, 18, 1342, 0, 1, 1), (1322, 18, 1321, 0, 2, 1), (577, 18, 576, 0, 3, 1), (1012, 18, 1011, 0, 1, 1), (51, 18, 50, 0, 1, 1), (750, 18, 749, 0, 1, 1), (913, 18, 912, 0, 4, 1), (863, 18, 862, 0, 1, 1), (945, 18, 944, 0, 3, 1), (942, 18, 941, 0, 1, 1), (1041, 18, 1040, 0, 2, 1), (1065, 18, 1064, 0, 1, 1), (1062, 18, 1061, 0, 2, 1), (0, 0, 0, 0, 0, 0)]
def aWpos : List Nat := [669, 670, 444, 445, 34, 299, 298, 27, 58, 59, 79, 249, 1127, 86, 224]
/-- whole numbers: class, number, value; the word's place -/
def aItab : List (Nat × Nat × Int32 × Nat) := [(9, 7, 40503, 449)]
def aJtab : List (Nat × Nat × Int32 × Nat) := [(9, 226, 7, 1066), (9, 228, 31, 1067), (9, 230, 37, 1068), (9, 232, 41, 1069), (9, 234, 43, 1070)]
def aOwn (o : Nat) : String := match o with
  | 0 => RX0
  | 1 => RX1
  | 2 => RX2
  | 3 => RX3
  | 4 => RX4
  | 5 => RX5
  | 6 => RX6
  | 7 => RX7
  | 8 => RX8
  | _ => RL
/-- the word at a place of the tables -/
def aIs (i : Nat) (w : Cond) : Bool := decide (lw_tbl[i]? = some w) && goodWord w
theorem aIs_in {i : Nat} {w : Cond} (h : aIs i w = true) : w ∈ aWg := by
  unfold aIs at h
  rw [Bool.and_eq_true] at h
  exact List.mem_filter.mpr ⟨List.mem_of_getElem? (of_decide_eq_true h.1), h.2⟩
def aFok (e : Nat × Nat × Nat × Nat × Nat) : Bool := match aCl[e.2.2.1]? with
  | some rc => decide (e.2.2.2.1 < rc.2.2) && aIs e.2.2.2.2 (.fieldLink (aOwn e.1) e.2.1 (rc.2.1 e.2.2.2.1).1 (rc.2.1 e.2.2.2.1).2.1 (rc.2.1 e.2.2.2.1).2.2.1)
  | none => false
set_option maxRecDepth 100000 in
theorem aFtab_ok : aFtab.all aFok = true := by decide +kernel
def aGok (e : Nat × Nat × Nat × Nat) : Bool := decide (e.2.2.1 < 5) && (if e.2.2.2 = 0 then decide ((aOwn e.1, e.2.1, (aGs e.2.2.1).1, (aGs e.2.2.1).2) ∈ aNestF) else aIs e.2.2.2 (.fieldLink (aOwn e.1) e.2.1 RX7 (aGs e.2.2.1).1 (aGs e.2.2.1).2))
set_option maxRecDepth 100000 in
theorem aGtab_ok : aGtab.all aGok = true := by decide +kernel
def aNok (e : Nat × Nat × Nat × Nat × Nat × Nat) : Bool := if 100 ≤ e.2.2.1 then decide (e.1 = 7 ∧ e.2.2.1 < 106) && (aIs e.2.2.2.1 (.classLink (aOwn e.1) e.2.1 (aExc (e.2.2.1 - 100))) && aIs e.2.2.2.2.1 (.initialized (aExc (e.2.2.1 - 100)))) else match aCl[e.2.2.1]? with
  | some rc => aIs e.2.2.2.1 (.classLink (aOwn e.1) e.2.1 rc.1) && (aIs e.2.2.2.2.1 (.initialized rc.1) && aIs e.2.2.2.2.2 (.instantiable rc.1 rc.2.2))
  | none => false
set_option maxRecDepth 100000 in
theorem aNtab_ok : aNtab.all aNok = true := by decide +kernel
def aLok (e : Nat × Nat × Nat × Nat × Nat) : Bool := match e.2.2.1 with
  | 6 => aIs e.2.2.2.2 (.methodLink (aOwn e.1) e.2.1 Lib.Math.max.name)
  | 7 => aIs e.2.2.2.2 (.methodLink (aOwn e.1) e.2.1 Lib.Math.min.name)
  | 8 => aIs e.2.2.2.2 (.methodLink (aOwn e.1) e.2.1 arraycopyName)
  | 9 => aIs e.2.2.2.2 (.methodLink (aOwn e.1) e.2.1 Lib.objectInit)
  | 10 => aIs e.2.2.2.2 (.methodLink (aOwn e.1) e.2.1 ⟨"java/lang/String", "charAt", "(I)C"⟩)
  | 11 => aIs e.2.2.2.2 (.methodLink (aOwn e.1) e.2.1 ⟨"java/lang/String", "length", "()I"⟩)
  | 3 => match aYs[e.2.2.2.1]? with
    | some (y, _) => decide ((aOwn e.1, e.2.1, y) ∈ aNestM)
    | none => false
  | 4 => match aYs[e.2.2.2.1]? with
    | some (y, _) => decide ((aOwn e.1, e.2.1, y) ∈ aNestM)
    | none => false
  | _ => match aYs[e.2.2.2.1]? with
    | some (y, _) => aIs e.2.2.2.2 (.methodLink (aOwn e.1) e.2.1 y)
    | none => false
set_option maxRecDepth 100000 in
theorem aLtab_ok : aLtab.all aLok = true := by decide +kernel
set_option maxRecDepth 100000 in
theorem aWpos_ok : aIs (aWpos.getD 0 0) (.static Lib.Math.max.name) = true ∧ aIs (aWpos.getD 1 0) (.code Lib.Math.max.name Lib.Math.max.code 2 (some .int)) = true ∧ aIs (aWpos.getD 2 0) (.static Lib.Math.min.name) = true ∧ aIs (aWpos.getD 3 0) (.code Lib.Math.min.name Lib.Math.min.code 2 (some .int)) = true ∧ aIs (aWpos.getD 4 0) (.initialized "java/lang/Math") = true ∧ aIs (aWpos.getD 5 0) (.native arraycopyName) = true ∧ aIs (aWpos.getD 6 0) (.static arraycopyName) = true ∧ aIs (aWpos.getD 7 0) (.initialized "java/lang/System") = true ∧ aIs (aWpos.getD 8 0) (.instanceMethod Lib.objectInit) = true ∧ aIs (aWpos.getD 9 0) (.code Lib.objectInit ⟨#[0xb1]⟩ 1 none) = true ∧ aIs (aWpos.getD 10 0) (.arrayClass .int) = true ∧ aIs (aWpos.getD 11 0) (.arrayClass .char) = true ∧ aIs (aWpos.getD 12 0) (.arrayClass .long) = true ∧ aIs (aWpos.getD 13 0) (.classLink RX0 9 RX6) = true ∧ aIs (aWpos.getD 14 0) (.classLink RX4 15 "[[I") = true := by decide +kernel
def aIok (e : Nat × Nat × Int32 × Nat) : Bool := aIs e.2.2.2 (.constant (aOwn e.1) e.2.1 e.2.2.1)
theorem aItab_ok : aItab.all aIok = true := by decide +kernel
def aJok (e : Nat × Nat × Int32 × Nat) : Bool := aIs e.2.2.2 (.constantLong (aOwn e.1) e.2.1 e.2.2.1.toInt64)
theorem aJtab_ok : aJtab.all aJok = true := by decide +kernel
end
section
/-! the methods' words -/
def aMok (m : Nat) : Bool := match aProg[m]?, aYs[m]?, aMtab[m]? with
  | some (o, _, hd, rt, n), some (y, b), some (pc, pi, pk, ps, np, st) =>
    decide (y.cls = aOwn o) && (plainName y.cls && (decide (n ≤ 40 ∧ np + (1 - st) ≤ n) && (decide ((parseMethodDescriptor y.desc).map (fun d => d.parameters.length) = some np) && ((match hd with
      | [] => aIs pc (.code y b n rt)
      | _ => aIs pc (.codeWith y b n rt (aHh m)) && aHm (aOwn o) (aHh m) hd) && (aIs pi (.initialized y.cls) && (if st = 1 then aIs pk (.static y) else aIs pk (.instanceMethod y) && (y.name == "<init>" || aIs ps (.selects y.cls y y))))))))
  | _, _, _ => false
set_option maxRecDepth 100000 in
theorem aMok_0 : (List.range 11).all (fun i => aMok (0 + i)) = true := by decide +kernel
set_option maxRecDepth 100000 in
theorem aMok_11 : (List.range 11).all (fun i => aMok (11 + i)) = true := by decide +kernel
set_option maxRecDepth 100000 in
theorem aMok_22 : (List.range 11).all (fun i => aMok (22 + i)) = true := by decide +kernel
set_option maxRecDepth 100000 in
theorem aMok_33 : (List.range 11).all (fun i => aMok (33 + i)) = true := by decide +kernel
set_option maxRecDepth 100000 in
theorem aMok_44 : (List.range 11).all (fun i => aMok (44 + i)) = true := by decide +kernel
set_option maxRecDepth 100000 in
theorem aMok_55 : (List.range 11).all (fun i => aMok (55 + i)) = true := by decide +kernel
set_option maxRecDepth 100000 in
theorem aMok_66 : (List.range 11).all (fun i => aMok (66 + i)) = true := by decide +kernel
set_option maxRecDepth 100000 in
theorem aMok_77 : (List.range 11).all (fun i => aMok (77 + i)) = true := by decide +kernel
set_option maxRecDepth 100000 in
theorem aMok_88 : (List.range 11).all (fun i => aMok (88 + i)) = true := by decide +kernel
set_option maxRecDepth 100000 in
theorem aMok_99 : (List.range 11).all (fun i => aMok (99 + i)) = true := by decide +kernel
set_option maxRecDepth 100000 in
theorem aMok_110 : (List.range 11).all (fun i => aMok (110 + i)) = true := by decide +kernel
set_option maxRecDepth 100000 in
theorem aMok_121 : (List.range 11).all (fun i => aMok (121 + i)) = true := by decide +kernel
set_option maxRecDepth 100000 in
theorem aMok_132 : (List.range 1).all (fun i => aMok (132 + i)) = true := by decide +kernel
end
section
/-! the methods' words: the law's -/
set_option maxRecDepth 100000 in
theorem aMok_133 : (List.range 3).all (fun i => aMok (133 + i)) = true := by decide +kernel
set_option maxRecDepth 100000 in
theorem aMok_136 : (List.range 3).all (fun i => aMok (136 + i)) = true := by decide +kernel
set_option maxRecDepth 100000 in
theorem aMok_139 : (List.range 3).all (fun i => aMok (139 + i)) = true := by decide +kernel
set_option maxRecDepth 100000 in
theorem aMok_142 : (List.range 3).all (fun i => aMok (142 + i)) = true := by decide +kernel
set_option maxRecDepth 100000 in
theorem aMok_145 : (List.range 3).all (fun i => aMok (145 + i)) = true := by decide +kernel
set_option maxRecDepth 100000 in
theorem aMok_148 : (List.range 3).all (fun i => aMok (148 + i)) = true := by decide +kernel
set_option maxRecDepth 100000 in
theorem aMok_151 : (List.range 3).all (fun i => aMok (151 + i)) = true := by decide +kernel
set_option maxRecDepth 100000 in
theorem aMok_154 : (List.range 3).all (fun i => aMok (154 + i)) = true := by decide +kernel
set_option maxRecDepth 100000 in
theorem aMok_157 : (List.range 1).all (fun i => aMok (157 + i)) = true := by decide +kernel
set_option maxRecDepth 100000 in
theorem aMok_158 : (List.range 1).all (fun i => aMok (158 + i)) = true := by decide +kernel
set_option maxRecDepth 100000 in
theorem aMok_159 : (List.range 1).all (fun i => aMok (159 + i)) = true := by decide +kernel
set_option maxRecDepth 100000 in
theorem aMok_160 : (List.range 1).all (fun i => aMok (160 + i)) = true := by decide +kernel
set_option maxRecDepth 100000 in
theorem aMok_161 : (List.range 1).all (fun i => aMok (161 + i)) = true := by decide +kernel
set_option maxRecDepth 100000 in
theorem aMok_162 : (List.range 1).all (fun i => aMok (162 + i)) = true := by decide +kernel
set_option maxRecDepth 100000 in
theorem aMok_163 : (List.range 1).all (fun i => aMok (163 + i)) = true := by decide +kernel
set_option maxRecDepth 100000 in
theorem aMok_164 : (List.range 1).all (fun i => aMok (164 + i)) = true := by decide +kernel
theorem aMok_all (m : Nat) (h : m < 165) : aMok m = true := by
  by_cases h0 : m < 11
  · have := List.all_eq_true.mp aMok_0 (m - 0) (List.mem_range.mpr (by omega))
    rwa [show 0 + (m - 0) = m by omega] at this
  by_cases h11 : m < 22
  · have := List.all_eq_true.mp aMok_11 (m - 11) (List.mem_range.mpr (by omega))
    rwa [show 11 + (m - 11) = m by omega] at this
  by_cases h22 : m < 33
  · have := List.all_eq_true.mp aMok_22 (m - 22) (List.mem_range.mpr (by omega))
    rwa [show 22 + (m - 22) = m by omega] at this
  by_cases h33 : m < 44
  · have := List.all_eq_true.mp aMok_33 (m - 33) (List.mem_range.mpr (by omega))
    rwa [show 33 + (m - 33) = m by omega] at this
  by_cases h44 : m < 55
  · have := List.all_eq_true.mp aMok_44 (m - 44) (List.mem_range.mpr (by omega))
    rwa [show 44 + (m - 44) = m by omega] at this
  by_cases h55 : m < 66
  · have := List.all_eq_true.mp aMok_55 (m - 55) (List.mem_range.mpr (by omega))
    rwa [show 55 + (m - 55) = m by omega] at this
  by_cases h66 : m < 77
  · have := List.all_eq_true.mp aMok_66 (m - 66) (List.mem_range.mpr (by omega))
    rwa [show 66 + (m - 66) = m by omega] at this
  by_cases h77 : m < 88
  · have := List.all_eq_true.mp aMok_77 (m - 77) (List.mem_range.mpr (by omega))
    rwa [show 77 + (m - 77) = m by omega] at this
  by_cases h88 : m < 99
  · have := List.all_eq_true.mp aMok_88 (m - 88) (List.mem_range.mpr (by omega))
    rwa [show 88 + (m - 88) = m by omega] at this
  by_cases h99 : m < 110
  · have := List.all_eq_true.mp aMok_99 (m - 99) (List.mem_range.mpr (by omega))
    rwa [show 99 + (m - 99) = m by omega] at this
  by_cases h110 : m < 121
  · have := List.all_eq_true.mp aMok_110 (m - 110) (List.mem_range.mpr (by omega))
    rwa [show 110 + (m - 110) = m by omega] at this
  by_cases h121 : m < 132
  · have := List.all_eq_true.mp aMok_121 (m - 121) (List.mem_range.mpr (by omega))
    rwa [show 121 + (m - 121) = m by omega] at this
  by_cases h132 : m < 133
  · have := List.all_eq_true.mp aMok_132 (m - 132) (List.mem_range.mpr (by omega))
    rwa [show 132 + (m - 132) = m by omega] at this
  by_cases h133 : m < 136
  · have := List.all_eq_true.mp aMok_133 (m - 133) (List.mem_range.mpr (by omega))
    rwa [show 133 + (m - 133) = m by omega] at this
  by_cases h136 : m < 139
  · have := List.all_eq_true.mp aMok_136 (m - 136) (List.mem_range.mpr (by omega))
    rwa [show 136 + (m - 136) = m by omega] at this
  by_cases h139 : m < 142
  · have := List.all_eq_true.mp aMok_139 (m - 139) (List.mem_range.mpr (by omega))
    rwa [show 139 + (m - 139) = m by omega] at this
  by_cases h142 : m < 145
  · have := List.all_eq_true.mp aMok_142 (m - 142) (List.mem_range.mpr (by omega))
    rwa [show 142 + (m - 142) = m by omega] at this
  by_cases h145 : m < 148
  · have := List.all_eq_true.mp aMok_145 (m - 145) (List.mem_range.mpr (by omega))
    rwa [show 145 + (m - 145) = m by omega] at this
  by_cases h148 : m < 151
  · have := List.all_eq_true.mp aMok_148 (m - 148) (List.mem_range.mpr (by omega))
    rwa [show 148 + (m - 148) = m by omega] at this
  by_cases h151 : m < 154
  · have := List.all_eq_true.mp aMok_151 (m - 151) (List.mem_range.mpr (by omega))
    rwa [show 151 + (m - 151) = m by omega] at this
  by_cases h154 : m < 157
  · have := List.all_eq_true.mp aMok_154 (m - 154) (List.mem_range.mpr (by omega))
    rwa [show 154 + (m - 154) = m by omega] at this
  by_cases h157 : m < 158
  · have := List.all_eq_true.mp aMok_157 (m - 157) (List.mem_range.mpr (by omega))
    rwa [show 157 + (m - 157) = m by omega] at this
  by_cases h158 : m < 159
  · have := List.all_eq_true.mp aMok_158 (m - 158) (List.mem_range.mpr (by omega))
    rwa [show 158 + (m - 158) = m by omega] at this
  by_cases h159 : m < 160
  · have := List.all_eq_true.mp aMok_159 (m - 159) (List.mem_range.mpr (by omega))
    rwa [show 159 + (m - 159) = m by omega] at this
  by_cases h160 : m < 161
  · have := List.all_eq_true.mp aMok_160 (m - 160) (List.mem_range.mpr (by omega))
    rwa [show 160 + (m - 160) = m by omega] at this
  by_cases h161 : m < 162
  · have := List.all_eq_true.mp aMok_161 (m - 161) (List.mem_range.mpr (by omega))
    rwa [show 161 + (m - 161) = m by omega] at this
  by_cases h162 : m < 163
  · have := List.all_eq_true.mp aMok_162 (m - 162) (List.mem_range.mpr (by omega))
    rwa [show 162 + (m - 162) = m by omega] at this
  by_cases h163 : m < 164
  · have := List.all_eq_true.mp aMok_163 (m - 163) (List.mem_range.mpr (by omega))
    rwa [show 163 + (m - 163) = m by omega] at this
  by_cases h164 : m < 165
  · have := List.all_eq_true.mp aMok_164 (m - 164) (List.mem_range.mpr (by omega))
    rwa [show 164 + (m - 164) = m by omega] at this
  omega
end
section
/-! ONE STEP IS SOUND -/
def aLen : Instr → Nat
  | .bipush _ | .ldc _ | .iload _ | .aload _ | .fload _ | .dload _ | .istore _ | .astore _ | .fstore _ | .dstore _ | .newarray _ => 2
  | .sipush _ | .iinc _ _ | .ifCond _ _ | .if_icmp _ _ | .goto _ | .getfield _ | .putfield _ | .getstatic _ | .anewarray _ | .new _ | .invokevirtual _ | .invokestatic _ | .invokespecial _ | .ldc_w _ | .ldc2_w _ | .ifnull _ => 3
  | .multianewarray _ _ => 4
  | .tableswitch _ _ _ _ | .lookupswitch _ _ => 0
  | _ => 1
def aDec (cc : ByteArray) (pc : Nat) (i : Instr) : Bool := match decode cc pc with
  | .ok (j, n) => decide (j = i) && (aLen i == 0 || n == aLen i)
  | .error _ => false
theorem aDec_ex {cc : ByteArray} {pc : Nat} {i : Instr} (h : aDec cc pc i = true) : ∃ n, decode cc pc = .ok (i, n) ∧ (aLen i = 0 ∨ n = aLen i) := by
  unfold aDec at h
  split at h
  · rename_i j n hd
    rw [Bool.and_eq_true, Bool.or_eq_true] at h
    have e := of_decide_eq_true h.1
    subst e
    exact ⟨n, hd, h.2.imp eq_of_beq eq_of_beq⟩
  · cases h
theorem aDec_n {cc : ByteArray} {pc n : Nat} {i : Instr} (h : aDec cc pc i = true) (hn : aLen i = n + 1) : decode cc pc = .ok (i, n + 1) := by
  obtain ⟨k, h1, h2⟩ := aDec_ex h
  rcases h2 with h2 | h2
  · rw [h2] at hn
    cases hn
  · rw [h1, h2, hn]
theorem aD1 {cc : ByteArray} {pc : Nat} {i : Instr} (h : aDec cc pc i = true) (hn : aLen i = 1) : decode cc pc = .ok (i, 1) := aDec_n h hn
theorem aD2 {cc : ByteArray} {pc : Nat} {i : Instr} (h : aDec cc pc i = true) (hn : aLen i = 2) : decode cc pc = .ok (i, 2) := aDec_n h hn
theorem aD3 {cc : ByteArray} {pc : Nat} {i : Instr} (h : aDec cc pc i = true) (hn : aLen i = 3) : decode cc pc = .ok (i, 3) := aDec_n h hn
theorem aD4 {cc : ByteArray} {pc : Nat} {i : Instr} (h : aDec cc pc i = true) (hn : aLen i = 4) : decode cc pc = .ok (i, 4) := aDec_n h hn
def aF4 (o idx a b : Nat) : Bool := aFtab.any fun e => e.1 == o && (e.2.1 == idx && (e.2.2.1 == a && e.2.2.2.1 == b))
def aL4 (o idx kind a : Nat) : Bool := aLtab.any fun e => e.1 == o && (e.2.1 == idx && (e.2.2.1 == kind && e.2.2.2.1 == a))
def aN3 (o idx a : Nat) : Bool := aNtab.any fun e => e.1 == o && (e.2.1 == idx && e.2.2.1 == a)
def aG3 (o idx a : Nat) : Bool := aGtab.any fun e => e.1 == o && (e.2.1 == idx && e.2.2.1 == a)
/-- a call's number of arguments, and whether it has handlers; st: is the method static -/
def aArg (a b st : Nat) (wh ini : Bool) : Bool := decide (a < 165) && (match aMtab[a]?, aProg[a]?, aYs[a]? with
  | some (_, _, _, _, np, s), some (o, _, hd, rt, _), some (y, _) => s == st && (b == np + (1 - st) && (hd.isEmpty == !wh && (if st = 1 then true else decide (o < 8) && (if ini then y.name == "<init>" && rt.isNone else y.name != "<init>"))))
  | _, _, _ => false)
def aThw (cc : ByteArray) (pc a b : Nat) (v : Int32) : Bool := decide (100 ≤ a ∧ a < 106) && (aStrs.any (fun q => q.1 == b) && (aDec cc (pc + 3) .dup && (if v = 0 then aDec cc (pc + 4) (.ldc b) && (aDec cc (pc + 6) (.invokespecial (aIc (a - 100))) && aDec cc (pc + 9) .athrow) else aDec cc (pc + 4) (.ldc_w b) && (aDec cc (pc + 7) (.invokespecial (aIc (a - 100))) && aDec cc (pc + 10) .athrow))))
def aI4t (o idx : Nat) (v : Int32) : Bool := aItab.any fun e => e.1 == o && (e.2.1 == idx && e.2.2.1 == v)
def aJ4t (o idx : Nat) (v : Int32) : Bool := aJtab.any fun e => e.1 == o && (e.2.1 == idx && e.2.2.1 == v)
/-- is the instruction at a place the one that the bytes hold, and do its numbers stand in the tables -/
def aOkI (o : Nat) (ini : Bool) (cc : ByteArray) (pc : Nat) (i : Instr) (a b : Nat) (v : Int32) : Bool := match i with
  | .nop => true
  | .iconst n => aDec cc pc i && decide (Int32.ofInt n = v)
  | .bipush n => aDec cc pc i && decide ((Int8.ofInt n).toInt32 = v)
  | .sipush n => aDec cc pc i && decide ((Int16.ofInt n).toInt32 = v)
  | .ldc idx => aDec cc pc i && ((b == 1 && aI4t o idx v) || (b != 1 && (o == 9 && (idx == 198 && a == 6))))
  | .ldc2_w idx => aDec cc pc i && aJ4t o idx v
  | .iinc _ z => aDec cc pc i && decide (Int32.ofInt z = v)
  | .ifCond _ off => aDec cc pc i && decide ((pc : Int) + off = (a : Int))
  | .if_icmp _ off => aDec cc pc i && decide ((pc : Int) + off = (a : Int))
  | .goto off => aDec cc pc i && decide ((pc : Int) + off = (a : Int))
  | .tableswitch off _ _ _ => aDec cc pc i && decide ((pc : Int) + off = (a : Int))
  | .lookupswitch _ ps => aDec cc pc i && (ps.toList.zip (ps.toList.drop 1)).all (fun (a, next) => a.1 < next.1)
  | .getfield idx => aDec cc pc i && aF4 o idx a b
  | .putfield idx => aDec cc pc i && (aF4 o idx a b && (match aCl[a]? with
    | some rc => !(rc.2.1 b).2.2.2 || (ini && decide ((rc.2.1 b).1 = aOwn o))
    | none => false))
  | .getstatic idx => aDec cc pc i && aG3 o idx a
  | .anewarray idx => aDec cc pc i && (o == 0 && idx == 9)
  | .multianewarray idx d => aDec cc pc i && (o == 4 && (idx == 15 && d == 2))
  | .new idx => aDec cc pc i && (a == 999 || aN3 o idx a && (decide (a < 100) || (o == 7 && aThw cc pc a b v)))
  | .invokevirtual idx => aDec cc pc i && ((a == 503 && aL4 o idx 10 503) || ((a == 505 && aL4 o idx 11 505) || (aL4 o idx 0 a && aArg a b 0 false false)))
  | .invokestatic idx => aDec cc pc i && ((a == 500 && aL4 o idx 6 500) || ((a == 501 && aL4 o idx 7 501) || ((a == 502 && aL4 o idx 8 502) || ((aL4 o idx 1 a && aArg a b 1 false false) || (v == 1 && ((aL4 o idx 4 a && aArg a b 1 false false) || (aL4 o idx 5 a && aArg a b 1 true false)))))))
  | .invokespecial idx => aDec cc pc i && ((a == 600 && aL4 o idx 9 600) || (v == 1 && ((aL4 o idx 2 a && aArg a b 0 false true) || (aL4 o idx 3 a && aArg a b 0 false true))))
  | _ => aDec cc pc i
theorem aF4_ok {o idx a b : Nat} (h : aF4 o idx a b = true) : ∃ rc : vw_C, aCl[a]? = some rc ∧ b < rc.2.2 ∧ Cond.fieldLink (aOwn o) idx (rc.2.1 b).1 (rc.2.1 b).2.1 (rc.2.1 b).2.2.1 ∈ aWg := by
  obtain ⟨e, he, h⟩ := List.any_eq_true.mp h
  simp only [Bool.and_eq_true, beq_iff_eq] at h
  obtain ⟨e1, e2, e3, e4, e5⟩ := e
  obtain ⟨rfl, rfl, rfl, rfl⟩ := h
  have h2 := List.all_eq_true.mp aFtab_ok _ he
  unfold aFok at h2
  dsimp only at h2
  split at h2
  · rename_i rc hrc
    rw [Bool.and_eq_true] at h2
    exact ⟨rc, hrc, of_decide_eq_true h2.1, aIs_in h2.2⟩
  · cases h2
theorem aG3_ok {o idx a : Nat} (h : aG3 o idx a = true) : a < 5 ∧ ((aOwn o, idx, (aGs a).1, (aGs a).2) ∈ aNestF ∨ Cond.fieldLink (aOwn o) idx RX7 (aGs a).1 (aGs a).2 ∈ aWg) := by
  obtain ⟨e, he, h⟩ := List.any_eq_true.mp h
  simp only [Bool.and_eq_true, beq_iff_eq] at h
  obtain ⟨e1, e2, e3, e4⟩ := e
  obtain ⟨rfl, rfl, rfl⟩ := h
  have h2 := List.all_eq_true.mp aGtab_ok _ he
  unfold aGok at h2
  dsimp only at h2
  rw [Bool.and_eq_true] at h2
  refine ⟨of_decide_eq_true h2.1, ?_⟩
  have h3 := h2.2
  split at h3
  · exact Or.inl (of_decide_eq_true h3)
  · exact Or.inr (aIs_in h3)
theorem aN3_ok {o idx a : Nat} (h : aN3 o idx a = true) (ha : a < 100) : ∃ rc : vw_C, aCl[a]? = some rc ∧ Cond.classLink (aOwn o) idx rc.1 ∈ aWg ∧ Cond.initialized rc.1 ∈ aWg ∧ Cond.instantiable rc.1 rc.2.2 ∈ aWg := by
  obtain ⟨e, he, h⟩ := List.any_eq_true.mp h
  simp only [Bool.and_eq_true, beq_iff_eq] at h
  obtain ⟨e1, e2, e3, e4, e5, e6⟩ := e
  obtain ⟨rfl, rfl, rfl⟩ := h
  have h2 := List.all_eq_true.mp aNtab_ok _ he
  unfold aNok at h2
  dsimp only at h2
  rw [if_neg (Nat.not_le.mpr ha)] at h2
  split at h2
  · rename_i rc hrc
    rw [Bool.and_eq_true, Bool.and_eq_true] at h2
    exact ⟨rc, hrc, aIs_in h2.1, aIs_in h2.2.1, aIs_in h2.2.2⟩
  · cases h2
theorem aN3_ex {o idx a : Nat} (h : aN3 o idx a = true) (ha : 100 ≤ a) : o = 7 ∧ a < 106 ∧ Cond.classLink (aOwn o) idx (aExc (a - 100)) ∈ aWg ∧ Cond.initialized (aExc (a - 100)) ∈ aWg := by
  obtain ⟨e, he, h⟩ := List.any_eq_true.mp h
  simp only [Bool.and_eq_true, beq_iff_eq] at h
  obtain ⟨e1, e2, e3, e4, e5, e6⟩ := e
  obtain ⟨rfl, rfl, rfl⟩ := h
  have h2 := List.all_eq_true.mp aNtab_ok _ he
  unfold aNok at h2
  dsimp only at h2
  rw [if_pos ha, Bool.and_eq_true, Bool.and_eq_true] at h2
  obtain ⟨q1, q2⟩ := of_decide_eq_true h2.1
  exact ⟨q1, q2, aIs_in h2.2.1, aIs_in h2.2.2⟩
theorem aI4t_ok {o idx : Nat} {v : Int32} (h : aI4t o idx v = true) : Cond.constant (aOwn o) idx v ∈ aWg := by
  obtain ⟨e, he, h⟩ := List.any_eq_true.mp h
  simp only [Bool.and_eq_true, beq_iff_eq] at h
  obtain ⟨e1, e2, e3, e4⟩ := e
  obtain ⟨rfl, rfl, rfl⟩ := h
  exact aIs_in (List.all_eq_true.mp aItab_ok _ he)
theorem aJ4t_ok {o idx : Nat} {v : Int32} (h : aJ4t o idx v = true) : Cond.constantLong (aOwn o) idx v.toInt64 ∈ aWg := by
  obtain ⟨e, he, h⟩ := List.any_eq_true.mp h
  simp only [Bool.and_eq_true, beq_iff_eq] at h
  obtain ⟨e1, e2, e3, e4⟩ := e
  obtain ⟨rfl, rfl, rfl⟩ := h
  exact aIs_in (List.all_eq_true.mp aJtab_ok _ he)
theorem aL4_ok {o idx kind a : Nat} (h : aL4 o idx kind a = true) : ∃ p, aLok (o, idx, kind, a, p) = true := by
  obtain ⟨e, he, h⟩ := List.any_eq_true.mp h
  simp only [Bool.and_eq_true, beq_iff_eq] at h
  obtain ⟨e1, e2, e3, e4, e5⟩ := e
  obtain ⟨rfl, rfl, rfl, rfl⟩ := h
  exact ⟨e5, List.all_eq_true.mp aLtab_ok _ he⟩
/-- what the tables say of a method -/
theorem aMok_spec {m : Nat} (h : m < 165) : ∃ (o : Nat) (cd : List aI) (hd : aD) (rt : Option FieldType) (n : Nat) (y : MethodName) (b : ByteArray) (np st : Nat), aProg[m]? = some (o, cd, hd, rt, n) ∧ aYs[m]? = some (y, b) ∧ (∃ q1 q2 q3 q4, aMtab[m]? = some (q1, q2, q3, q4, np, st)) ∧ y.cls = aOwn o ∧ plainName y.cls = true ∧ n ≤ 40 ∧ (parseMethodDescriptor y.desc).map (fun d => d.parameters.length) = some np ∧ np + (1 - st) ≤ n ∧
    (if hd.isEmpty = true then Cond.code y b n rt ∈ aWg else Cond.codeWith y b n rt (aHh m) ∈ aWg ∧ aHm (aOwn o) (aHh m) hd = true) ∧ Cond.initialized y.cls ∈ aWg ∧ (if st = 1 then Cond.static y ∈ aWg else Cond.instanceMethod y ∈ aWg ∧ (y.name ≠ "<init>" → Cond.selects y.cls y y ∈ aWg)) := by
  have h1 := aMok_all m h
  unfold aMok at h1
  split at h1
  · rename_i o cd hd rt n y b q1 q2 q3 q4 np st e1 e2 e3
    simp only [Bool.and_eq_true, decide_eq_true_eq] at h1
    obtain ⟨g1, g2, ⟨g3, g5⟩, g4, g6, g7, g8⟩ := h1
    refine ⟨o, cd, hd, rt, n, y, b, np, st, e1, e2, ⟨q1, q2, q3, q4, e3⟩, g1, g2, g3, g4, g5, ?_, aIs_in g7, ?_⟩
    · cases hd with
      | nil => exact aIs_in g6
      | cons z r =>
        rw [Bool.and_eq_true] at g6
        exact ⟨aIs_in g6.1, g6.2⟩
    · by_cases hs : st = 1
      · rw [if_pos hs] at g8 ⊢
        exact aIs_in g8
      · rw [if_neg hs] at g8 ⊢
        rw [Bool.and_eq_true, Bool.or_eq_true] at g8
        refine ⟨aIs_in g8.1, fun hn => ?_⟩
        rcases g8.2 with q | q
        · exact absurd (eq_of_beq q) hn
        · exact aIs_in q
  · cases h1
theorem aOwn_ne (o : Nat) : aOwn o ≠ "java/lang/invoke/MethodHandle" ∧ aOwn o ≠ "java/lang/invoke/VarHandle" := by
  match o with
  | 0 => decide
  | 1 => decide
  | 2 => decide
  | 3 => decide
  | 4 => decide
  | 5 => decide
  | 6 => decide
  | 7 => decide
  | 8 => decide
  | n + 9 => exact (by decide : RL ≠ "java/lang/invoke/MethodHandle" ∧ RL ≠ "java/lang/invoke/VarHandle")
/-- all of a method's instructions stand in the tables -/
def aOkM (a : Nat) : Bool := match aProg[a]?, aYs[a]? with
  | some (o, cd, _, _, _), some (y, b) => cd.zipIdx.all fun q => aOkI o (y.name == "<init>") b q.2 q.1.1 q.1.2.1 q.1.2.2.1 q.1.2.2.2
  | _, _ => false
end
section
/-! THE INSTRUCTIONS' CHECKS -/
set_option maxRecDepth 100000 in
theorem aK_0 : aOkM 0 = true := by decide +kernel
set_option maxRecDepth 100000 in
theorem aK_1 : aOkM 1 = true := by decide +kernel
set_option maxRecDepth 100000 in
theorem aK_2 : aOkM 2 = true := by decide +kernel
set_option maxRecDepth 100000 in
theorem aK_3 : aOkM 3 = true := by decide +kernel
set_option maxRecDepth 100000 in
theorem aK_4 : aOkM 4 = true := by decide +kernel
set_option maxRecDepth 100000 in
theorem aK_5 : aOkM 5 = true := by decide +kernel
set_option maxRecDepth 100000 in
theorem aK_6 : aOkM 6 = true := by decide +kernel
set_option maxRecDepth 100000 in
theorem aK_7 : aOkM 7 = true := by decide +kernel
set_option maxRecDepth 100000 in
theorem aK_8 : aOkM 8 = true := by decide +kernel
set_option maxRecDepth 100000 in
theorem aK_9 : aOkM 9 = true := by decide +kernel
set_option maxRecDepth 100000 in
theorem aK_10 : aOkM 10 = true := by decide +kernel
set_option maxRecDepth 100000 in
theorem aK_11 : aOkM 11 = true := by decide +kernel
set_option maxRecDepth 100000 in
theorem aK_12 : aOkM 12 = true := by decide +kernel
set_option maxRecDepth 100000 in
theorem aK_13 : aOkM 13 = true := by decide +kernel
set_option maxRecDepth 100000 in
theorem aK_14 : aOkM 14 = true := by decide +kernel
set_option maxRecDepth 100000 in
theorem aK_15 : aOkM 15 = true := by decide +kernel
set_option maxRecDepth 100000 in
theorem aK_16 : aOkM 16 = true := by decide +kernel
set_option maxRecDepth 100000 in
theorem aK_17 : aOkM 17 = true := by decide +kernel
set_option maxRecDepth 100000 in
theorem aK_18 : aOkM 18 = true := by decide +kernel
set_option maxRecDepth 100000 in
theorem aK_19 : aOkM 19 = true := by decide +kernel
set_option maxRecDepth 100000 in
theorem aK_20 : aOkM 20 = true := by decide +kernel
set_option maxRecDepth 100000 in
theorem aK_21 : aOkM 21 = true := by decide +kernel
set_option maxRecDepth 100000 in
theorem aK_22 : aOkM 22 = true := by decide +kernel
set_option maxRecDepth 100000 in
theorem aK_23 : aOkM 23 = true := by decide +kernel
set_option maxRecDepth 100000 in
theorem aK_24 : aOkM 24 = true := by decide +kernel
set_option maxRecDepth 100000 in
theorem aK_25 : aOkM 25 = true := by decide +kernel
set_option maxRecDepth 100000 in
theorem aK_26 : aOkM 26 = true := by decide +kernel
set_option maxRecDepth 100000 in
theorem aK_27 : aOkM 27 = true := by decide +kernel
set_option maxRecDepth 100000 in
theorem aK_28 : aOkM 28 = true := by decide +kernel
set_option maxRecDepth 100000 in
theorem aK_29 : aOkM 29 = true := by decide +kernel
set_option maxRecDepth 100000 in
theorem aK_30 : aOkM 30 = true := by decide +kernel
set_option maxRecDepth 100000 in
theorem aK_31 : aOkM 31 = true := by decide +kernel
set_option maxRecDepth 100000 in
theorem aK_32 : aOkM 32 = true := by decide +kernel
set_option maxRecDepth 100000 in
theorem aK_33 : aOkM 33 = true := by decide +kernel
set_option maxRecDepth 100000 in
theorem aK_34 : aOkM 34 = true := by decide +kernel
set_option maxRecDepth 100000 in
theorem aK_35 : aOkM 35 = true := by decide +kernel
set_option maxRecDepth 100000 in
theorem aK_36 : aOkM 36 = true := by decide +kernel
set_option maxRecDepth 100000 in
theorem aK_37 : aOkM 37 = true := by decide +kernel
set_option maxRecDepth 100000 in
theorem aK_38 : aOkM 38 = true := by decide +kernel
set_option maxRecDepth 100000 in
theorem aK_39 : aOkM 39 = true := by decide +kernel
set_option maxRecDepth 100000 in
theorem aK_40 : aOkM 40 = true := by decide +kernel
set_option maxRecDepth 100000 in
theorem aK_41 : aOkM 41 = true := by decide +kernel
set_option maxRecDepth 100000 in
theorem aK_42 : aOkM 42 = true := by decide +kernel
set_option maxRecDepth 100000 in
theorem aK_43 : aOkM 43 = true := by decide +kernel
set_option maxRecDepth 100000 in
theorem aK_44 : aOkM 44 = true := by decide +kernel
set_option maxRecDepth 100000 in
theorem aK_45 : aOkM 45 = true := by decide +kernel
set_option maxRecDepth 100000 in
theorem aK_46 : aOkM 46 = true := by decide +kernel
set_option maxRecDepth 100000 in
theorem aK_47 : aOkM 47 = true := by decide +kernel
set_option maxRecDepth 100000 in
theorem aK_48 : aOkM 48 = true := by decide +kernel
set_option maxRecDepth 100000 in
theorem aK_49 : aOkM 49 = true := by decide +kernel
set_option maxRecDepth 100000 in
theorem aK_50 : aOkM 50 = true := by decide +kernel
set_option maxRecDepth 100000 in
theorem aK_51 : aOkM 51 = true := by decide +kernel
set_option maxRecDepth 100000 in
theorem aK_52 : aOkM 52 = true := by decide +kernel
set_option maxRecDepth 100000 in
theorem aK_53 : aOkM 53 = true := by decide +kernel
set_option maxRecDepth 100000 in
theorem aK_54 : aOkM 54 = true := by decide +kernel
set_option maxRecDepth 100000 in
theorem aK_55 : aOkM 55 = true := by decide +kernel
set_option maxRecDepth 100000 in
theorem aK_56 : aOkM 56 = true := by decide +kernel
set_option maxRecDepth 100000 in
theorem aK_57 : aOkM 57 = true := by decide +kernel
set_option maxRecDepth 100000 in
theorem aK_58 : aOkM 58 = true := by decide +kernel
set_option maxRecDepth 100000 in
theorem aK_59 : aOkM 59 = true := by decide +kernel
set_option maxRecDepth 100000 in
theorem aK_60 : aOkM 60 = true := by decide +kernel
set_option maxRecDepth 100000 in
theorem aK_61 : aOkM 61 = true := by decide +kernel
set_option maxRecDepth 100000 in
theorem aK_62 : aOkM 62 = true := by decide +kernel
set_option maxRecDepth 100000 in
theorem aK_63 : aOkM 63 = true := by decide +kernel
set_option maxRecDepth 100000 in
theorem aK_64 : aOkM 64 = true := by decide +kernel
set_option maxRecDepth 100000 in
theorem aK_65 : aOkM 65 = true := by decide +kernel
set_option maxRecDepth 100000 in
theorem aK_66 : aOkM 66 = true := by decide +kernel
set_option maxRecDepth 100000 in
theorem aK_67 : aOkM 67 = true := by decide +kernel
set_option maxRecDepth 100000 in
theorem aK_68 : aOkM 68 = true := by decide +kernel
set_option maxRecDepth 100000 in
theorem aK_69 : aOkM 69 = true := by decide +kernel
set_option maxRecDepth 100000 in
theorem aK_70 : aOkM 70 = true := by decide +kernel
set_option maxRecDepth 100000 in
theorem aK_71 : aOkM 71 = true := by decide +kernel
set_option maxRecDepth 100000 in
theorem aK_72 : aOkM 72 = true := by decide +kernel
set_option maxRecDepth 100000 in
theorem aK_73 : aOkM 73 = true := by decide +kernel
set_option maxRecDepth 100000 in
theorem aK_74 : aOkM 74 = true := by decide +kernel
set_option maxRecDepth 100000 in
theorem aK_75 : aOkM 75 = true := by decide +kernel
set_option maxRecDepth 100000 in
theorem aK_76 : aOkM 76 = true := by decide +kernel
set_option maxRecDepth 100000 in
theorem aK_77 : aOkM 77 = true := by decide +kernel
set_option maxRecDepth 100000 in
theorem aK_78 : aOkM 78 = true := by decide +kernel
set_option maxRecDepth 100000 in
theorem aK_79 : aOkM 79 = true := by decide +kernel
set_option maxRecDepth 100000 in
theorem aK_80 : aOkM 80 = true := by decide +kernel
set_option maxRecDepth 100000 in
theorem aK_81 : aOkM 81 = true := by decide +kernel
set_option maxRecDepth 100000 in
theorem aK_82 : aOkM 82 = true := by decide +kernel
set_option maxRecDepth 100000 in
theorem aK_83 : aOkM 83 = true := by decide +kernel
set_option maxRecDepth 100000 in
theorem aK_84 : aOkM 84 = true := by decide +kernel
set_option maxRecDepth 100000 in
theorem aK_85 : aOkM 85 = true := by decide +kernel
set_option maxRecDepth 100000 in
theorem aK_86 : aOkM 86 = true := by decide +kernel
set_option maxRecDepth 100000 in
theorem aK_87 : aOkM 87 = true := by decide +kernel
set_option maxRecDepth 100000 in
theorem aK_88 : aOkM 88 = true := by decide +kernel
set_option maxRecDepth 100000 in
theorem aK_89 : aOkM 89 = true := by decide +kernel
set_option maxRecDepth 100000 in
theorem aK_90 : aOkM 90 = true := by decide +kernel
set_option maxRecDepth 100000 in
theorem aK_91 : aOkM 91 = true := by decide +kernel
set_option maxRecDepth 100000 in
theorem aK_92 : aOkM 92 = true := by decide +kernel
set_option maxRecDepth 100000 in
theorem aK_93 : aOkM 93 = true := by decide +kernel
set_option maxRecDepth 100000 in
theorem aK_94 : aOkM 94 = true := by decide +kernel
set_option maxRecDepth 100000 in
theorem aK_95 : aOkM 95 = true := by decide +kernel
set_option maxRecDepth 100000 in
theorem aK_96 : aOkM 96 = true := by decide +kernel
set_option maxRecDepth 100000 in
theorem aK_97 : aOkM 97 = true := by decide +kernel
set_option maxRecDepth 100000 in
theorem aK_98 : aOkM 98 = true := by decide +kernel
set_option maxRecDepth 100000 in
theorem aK_99 : aOkM 99 = true := by decide +kernel
set_option maxRecDepth 100000 in
theorem aK_100 : aOkM 100 = true := by decide +kernel
set_option maxRecDepth 100000 in
theorem aK_101 : aOkM 101 = true := by decide +kernel
set_option maxRecDepth 100000 in
theorem aK_102 : aOkM 102 = true := by decide +kernel
set_option maxRecDepth 100000 in
theorem aK_103 : aOkM 103 = true := by decide +kernel
set_option maxRecDepth 100000 in
theorem aK_104 : aOkM 104 = true := by decide +kernel
set_option maxRecDepth 100000 in
theorem aK_105 : aOkM 105 = true := by decide +kernel
set_option maxRecDepth 100000 in
theorem aK_106 : aOkM 106 = true := by decide +kernel
set_option maxRecDepth 100000 in
theorem aK_107 : aOkM 107 = true := by decide +kernel
set_option maxRecDepth 100000 in
theorem aK_108 : aOkM 108 = true := by decide +kernel
set_option maxRecDepth 100000 in
theorem aK_109 : aOkM 109 = true := by decide +kernel
set_option maxRecDepth 100000 in
theorem aK_110 : aOkM 110 = true := by decide +kernel
set_option maxRecDepth 100000 in
theorem aK_111 : aOkM 111 = true := by decide +kernel
set_option maxRecDepth 100000 in
theorem aK_112 : aOkM 112 = true := by decide +kernel
set_option maxRecDepth 100000 in
theorem aK_113 : aOkM 113 = true := by decide +kernel
set_option maxRecDepth 100000 in
theorem aK_114 : aOkM 114 = true := by decide +kernel
set_option maxRecDepth 100000 in
theorem aK_115 : aOkM 115 = true := by decide +kernel
set_option maxRecDepth 100000 in
theorem aK_116 : aOkM 116 = true := by decide +kernel
set_option maxRecDepth 100000 in
theorem aK_117 : aOkM 117 = true := by decide +kernel
set_option maxRecDepth 100000 in
theorem aK_118 : aOkM 118 = true := by decide +kernel
set_option maxRecDepth 100000 in
theorem aK_119 : aOkM 119 = true := by decide +kernel
set_option maxRecDepth 100000 in
theorem aK_120 : aOkM 120 = true := by decide +kernel
set_option maxRecDepth 100000 in
theorem aK_121 : aOkM 121 = true := by decide +kernel
set_option maxRecDepth 100000 in
theorem aK_122 : aOkM 122 = true := by decide +kernel
set_option maxRecDepth 100000 in
theorem aK_123 : aOkM 123 = true := by decide +kernel
set_option maxRecDepth 100000 in
theorem aK_124 : aOkM 124 = true := by decide +kernel
set_option maxRecDepth 100000 in
theorem aK_125 : aOkM 125 = true := by decide +kernel
set_option maxRecDepth 100000 in
theorem aK_126 : aOkM 126 = true := by decide +kernel
set_option maxRecDepth 100000 in
theorem aK_127 : aOkM 127 = true := by decide +kernel
set_option maxRecDepth 100000 in
theorem aK_128 : aOkM 128 = true := by decide +kernel
set_option maxRecDepth 100000 in
theorem aK_129 : aOkM 129 = true := by decide +kernel
set_option maxRecDepth 100000 in
theorem aK_130 : aOkM 130 = true := by decide +kernel
set_option maxRecDepth 100000 in
theorem aK_131 : aOkM 131 = true := by decide +kernel
set_option maxRecDepth 100000 in
theorem aK_132 : aOkM 132 = true := by decide +kernel
set_option maxRecDepth 100000 in
theorem aK_133 : aOkM 133 = true := by decide +kernel
set_option maxRecDepth 100000 in
theorem aK_134 : aOkM 134 = true := by decide +kernel
set_option maxRecDepth 100000 in
theorem aK_135 : aOkM 135 = true := by decide +kernel
set_option maxRecDepth 100000 in
theorem aK_136 : aOkM 136 = true := by decide +kernel
set_option maxRecDepth 100000 in
theorem aK_137 : aOkM 137 = true := by decide +kernel
set_option maxRecDepth 100000 in
theorem aK_138 : aOkM 138 = true := by decide +kernel
set_option maxRecDepth 100000 in
theorem aK_139 : aOkM 139 = true := by decide +kernel
set_option maxRecDepth 100000 in
theorem aK_140 : aOkM 140 = true := by decide +kernel
set_option maxRecDepth 100000 in
theorem aK_141 : aOkM 141 = true := by decide +kernel
set_option maxRecDepth 100000 in
theorem aK_142 : aOkM 142 = true := by decide +kernel
set_option maxRecDepth 100000 in
theorem aK_143 : aOkM 143 = true := by decide +kernel
set_option maxRecDepth 100000 in
theorem aK_144 : aOkM 144 = true := by decide +kernel
set_option maxRecDepth 100000 in
theorem aK_145 : aOkM 145 = true := by decide +kernel
set_option maxRecDepth 100000 in
theorem aK_146 : aOkM 146 = true := by decide +kernel
set_option maxRecDepth 100000 in
theorem aK_147 : aOkM 147 = true := by decide +kernel
set_option maxRecDepth 100000 in
theorem aK_148 : aOkM 148 = true := by decide +kernel
set_option maxRecDepth 100000 in
theorem aK_149 : aOkM 149 = true := by decide +kernel
set_option maxRecDepth 100000 in
theorem aK_150 : aOkM 150 = true := by decide +kernel
set_option maxRecDepth 100000 in
theorem aK_151 : aOkM 151 = true := by decide +kernel
set_option maxRecDepth 100000 in
theorem aK_152 : aOkM 152 = true := by decide +kernel
set_option maxRecDepth 100000 in
theorem aK_153 : aOkM 153 = true := by decide +kernel
set_option maxRecDepth 100000 in
theorem aK_154 : aOkM 154 = true := by decide +kernel
set_option maxRecDepth 100000 in
theorem aK_155 : aOkM 155 = true := by decide +kernel
set_option maxRecDepth 100000 in
theorem aK_156 : aOkM 156 = true := by decide +kernel
set_option maxRecDepth 100000 in
theorem aK_157 : aOkM 157 = true := by decide +kernel
set_option maxRecDepth 100000 in
theorem aK_158 : aOkM 158 = true := by decide +kernel
set_option maxRecDepth 100000 in
theorem aK_159 : aOkM 159 = true := by decide +kernel
set_option maxRecDepth 100000 in
theorem aK_160 : aOkM 160 = true := by decide +kernel
set_option maxRecDepth 100000 in
theorem aK_161 : aOkM 161 = true := by decide +kernel
set_option maxRecDepth 100000 in
theorem aK_162 : aOkM 162 = true := by decide +kernel
set_option maxRecDepth 100000 in
theorem aK_163 : aOkM 163 = true := by decide +kernel
set_option maxRecDepth 100000 in
theorem aK_164 : aOkM 164 = true := by decide +kernel
theorem aOk_all : ∀ a, a < 165 → aOkM a = true := by
  intro a ha
  match a, ha with
  | 0, _ => exact aK_0
  | 1, _ => exact aK_1
  | 2, _ => exact aK_2
  | 3, _ => exact aK_3
  | 4, _ => exact aK_4
  | 5, _ => exact aK_5
  | 6, _ => exact aK_6
  | 7, _ => exact aK_7
  | 8, _ => exact aK_8
  | 9, _ => exact aK_9
  | 10, _ => exact aK_10
  | 11, _ => exact aK_11
  | 12, _ => exact aK_12
  | 13, _ => exact aK_13
  | 14, _ => exact aK_14
  | 15, _ => exact aK_15
  | 16, _ => exact aK_16
  | 17, _ => exact aK_17
  | 18, _ => exact aK_18
  | 19, _ => exact aK_19
  | 20, _ => exact aK_20
  | 21, _ => exact aK_21
  | 22, _ => exact aK_22
  | 23, _ => exact aK_23
  | 24, _ => exact aK_24
  | 25, _ => exact aK_25
  | 26, _ => exact aK_26
  | 27, _ => exact aK_27
  | 28, _ => exact aK_28
  | 29, _ => exact aK_29
  | 30, _ => exact aK_30
  | 31, _ => exact aK_31
  | 32, _ => exact aK_32
  | 33, _ => exact aK_33
  | 34, _ => exact aK_34
  | 35, _ => exact aK_35
  | 36, _ => exact aK_36
  | 37, _ => exact aK_37
  | 38, _ => exact aK_38
  | 39, _ => exact aK_39
  | 40, _ => exact aK_40
  | 41, _ => exact aK_41
  | 42, _ => exact aK_42
  | 43, _ => exact aK_43
  | 44, _ => exact aK_44
  | 45, _ => exact aK_45
  | 46, _ => exact aK_46
  | 47, _ => exact aK_47
  | 48, _ => exact aK_48
  | 49, _ => exact aK_49
  | 50, _ => exact aK_50
  | 51, _ => exact aK_51
  | 52, _ => exact aK_52
  | 53, _ => exact aK_53
  | 54, _ => exact aK_54
  | 55, _ => exact aK_55
  | 56, _ => exact aK_56
  | 57, _ => exact aK_57
  | 58, _ => exact aK_58
  | 59, _ => exact aK_59
  | 60, _ => exact aK_60
  | 61, _ => exact aK_61
  | 62, _ => exact aK_62
  | 63, _ => exact aK_63
  | 64, _ => exact aK_64
  | 65, _ => exact aK_65
  | 66, _ => exact aK_66
  | 67, _ => exact aK_67
  | 68, _ => exact aK_68
  | 69, _ => exact aK_69
  | 70, _ => exact aK_70
  | 71, _ => exact aK_71
  | 72, _ => exact aK_72
  | 73, _ => exact aK_73
  | 74, _ => exact aK_74
  | 75, _ => exact aK_75
  | 76, _ => exact aK_76
  | 77, _ => exact aK_77
  | 78, _ => exact aK_78
  | 79, _ => exact aK_79
  | 80, _ => exact aK_80
  | 81, _ => exact aK_81
  | 82, _ => exact aK_82
  | 83, _ => exact aK_83
  | 84, _ => exact aK_84
  | 85, _ => exact aK_85
  | 86, _ => exact aK_86
  | 87, _ => exact aK_87
  | 88, _ => exact aK_88
  | 89, _ => exact aK_89
  | 90, _ => exact aK_90
  | 91, _ => exact aK_91
  | 92, _ => exact aK_92
  | 93, _ => exact aK_93
  | 94, _ => exact aK_94
  | 95, _ => exact aK_95
  | 96, _ => exact aK_96
  | 97, _ => exact aK_97
  | 98, _ => exact aK_98
  | 99, _ => exact aK_99
  | 100, _ => exact aK_100
  | 101, _ => exact aK_101
  | 102, _ => exact aK_102
  | 103, _ => exact aK_103
  | 104, _ => exact aK_104
  | 105, _ => exact aK_105
  | 106, _ => exact aK_106
  | 107, _ => exact aK_107
  | 108, _ => exact aK_108
  | 109, _ => exact aK_109
  | 110, _ => exact aK_110
  | 111, _ => exact aK_111
  | 112, _ => exact aK_112
  | 113, _ => exact aK_113
  | 114, _ => exact aK_114
  | 115, _ => exact aK_115
  | 116, _ => exact aK_116
  | 117, _ => exact aK_117
  | 118, _ => exact aK_118
  | 119, _ => exact aK_119
  | 120, _ => exact aK_120
  | 121, _ => exact aK_121
  | 122, _ => exact aK_122
  | 123, _ => exact aK_123
  | 124, _ => exact aK_124
  | 125, _ => exact aK_125
  | 126, _ => exact aK_126
  | 127, _ => exact aK_127
  | 128, _ => exact aK_128
  | 129, _ => exact aK_129
  | 130, _ => exact aK_130
  | 131, _ => exact aK_131
  | 132, _ => exact aK_132
  | 133, _ => exact aK_133
  | 134, _ => exact aK_134
  | 135, _ => exact aK_135
  | 136, _ => exact aK_136
  | 137, _ => exact aK_137
  | 138, _ => exact aK_138
  | 139, _ => exact aK_139
  | 140, _ => exact aK_140
  | 141, _ => exact aK_141
  | 142, _ => exact aK_142
  | 143, _ => exact aK_143
  | 144, _ => exact aK_144
  | 145, _ => exact aK_145
  | 146, _ => exact aK_146
  | 147, _ => exact aK_147
  | 148, _ => exact aK_148
  | 149, _ => exact aK_149
  | 150, _ => exact aK_150
  | 151, _ => exact aK_151
  | 152, _ => exact aK_152
  | 153, _ => exact aK_153
  | 154, _ => exact aK_154
  | 155, _ => exact aK_155
  | 156, _ => exact aK_156
  | 157, _ => exact aK_157
  | 158, _ => exact aK_158
  | 159, _ => exact aK_159
  | 160, _ => exact aK_160
  | 161, _ => exact aK_161
  | 162, _ => exact aK_162
  | 163, _ => exact aK_163
  | 164, _ => exact aK_164
  | n + 165, h => omega
set_option maxRecDepth 100000 in
theorem aK_lawA : (aB_L_law.zipIdx.all fun q => aOkI 9 false code q.2 q.1.1 q.1.2.1 q.1.2.2.1 q.1.2.2.2) = true := by decide +kernel
theorem aK_law (pc : Nat) (x : aI) (hx : aB_L_law[pc]? = some x) : aOkI 9 false code pc x.1 x.2.1 x.2.2.1 x.2.2.2 = true :=
  List.all_eq_true.mp aK_lawA (x, pc) (List.mem_zipIdx_iff_getElem?.mpr hx)
end
section
/-! ONE STEP IS SOUND: calls -/
def aNa (a : Nat) : Nat := match aMtab[a]? with
  | some (_, _, _, _, np, st) => np + (1 - st)
  | none => 0
/-- the calls' answers hold of the machine -/
def aSnd (l : Launch) (D : va_G) (ka : FieldType → ClassId) (sg : Nat → Nat) (A : Nat → Prop) (al : Bool) (d : Nat) (call : aF) : Prop :=
  ∀ (a : Nat) (as : List Value) (h : aH) (r : aR), call a as h = some r → (∀ v ∈ as, v.category = 1) → a < 165 → as.length = aNa a → ∀ (y : MethodName) (b : ByteArray), aYs[a]? = some (y, b) → aCon l D ka sg A al d y (aWs a) as h r
theorem aWs_plain {a o n : Nat} {cd : List aI} {hd : aD} {rt : Option FieldType} {y : MethodName} {b : ByteArray} (e1 : aProg[a]? = some (o, cd, hd, rt, n)) (e2 : aYs[a]? = some (y, b)) (he : hd.isEmpty = true) : aWs a = Cond.code y b n rt :: aWg := by
  unfold aWs
  rw [e1, e2]
  cases hd with
  | nil => rfl
  | cons _ _ => cases he
theorem aWs_with {a o n : Nat} {cd : List aI} {hd : aD} {rt : Option FieldType} {y : MethodName} {b : ByteArray} (e1 : aProg[a]? = some (o, cd, hd, rt, n)) (e2 : aYs[a]? = some (y, b)) (he : hd.isEmpty = false) : aWs a = Cond.codeWith y b n rt (aHh a) :: aWg := by
  unfold aWs
  rw [e1, e2]
  cases hd with
  | nil => cases he
  | cons _ _ => rfl
section STC
variable {p : Program} {l : Launch} {e : Env} {R : Room} {s : State} {m : MethodId} {args : Array Value} {below : List Frame} {meth : Method} {c : Code} {D : va_G} {ka : FieldType → ClassId} {sg : Nat → Nat} {A : Nat → Prop} {nL o d : Nat} {cc : ByteArray} {al ini : Bool} {call : aF} {hd : aD} {cd : List aI} {rt : Option FieldType} {hh : List (Nat × Nat × Nat × Nat)}
variable {pc : Nat} {ls : List (Option Value)} {st r : List Value} {h : aH} {k : aK} {x y : Int32}
/-- what holds of a body -/
def aBd (p : Program) (l : Launch) (R : Room) (s : State) (m : MethodId) (args : Array Value) (meth : Method) (c : Code) (D : va_G) (ka : FieldType → ClassId) (sg : Nat → Nat) (A : Nat → Prop) (nL o d : Nat) (cc : ByteArray) (al ini : Bool) (call : aF) (hd : aD) (cd : List aI) (rt : Option FieldType) (hh : List (Nat × Nat × Nat × Nat)) : Prop :=
  aCx p l s m args c D ka sg A nL (aOwn o) cc ∧ (d + 7 ≤ R.frames ∧ 60 * d + 220 ≤ R.locals) ∧ (ini = true → meth.name = "<init>") ∧ (c.exceptionTable.toList = tableOf hh ∧ aHm (aOwn o) hh hd = true) ∧ meth.locks = false ∧ meth.sig.returnType = rt ∧ aSnd l D ka sg A al d call ∧ ∀ (pc : Nat) (x : aI), cd[pc]? = some x → aOkI o ini cc pc x.1 x.2.1 x.2.2.1 x.2.2.2 = true
def aGl (p : Program) (l : Launch) (e : Env) (R : Room) (s : State) (m : MethodId) (args : Array Value) (below : List Frame) (meth : Method) (c : Code) (D : va_G) (ka : FieldType → ClassId) (sg : Nat → Nat) (A : Nat → Prop) (nL : Nat) (al : Bool) (t : aS) : aS ⊕ aR → Prop
  | .inl u => (t.2.2.2.2.1 ≤ u.2.2.2.2.1 ∧ t.2.2.2.2.2 ≤ u.2.2.2.2.2) ∧ (u.2.2.2.2.1 ≤ R.cells → u.2.2.2.2.2 ≤ R.slots → ∀ Q, aSim p l e R s m args below meth c Q D ka sg A nL al u → aSim p l e R s m args below meth c Q D ka sg A nL al t)
  | .inr r => (t.2.2.2.2.1 ≤ r.2.2.1 ∧ t.2.2.2.2.2 ≤ r.2.2.2) ∧ (r.2.2.1 ≤ R.cells → r.2.2.2 ≤ R.slots → aSim p l e R s m args below meth c (aEq below D ka sg A al args s r) D ka sg A nL al t)
theorem aGl.go {t : aS} {pc1 : Nat} {ls1 : List (Option Value)} {st1 : List Value} {h1 : aH} {k1 : aK} {z : aS ⊕ aR} (hz : aGo pc1 ls1 st1 h1 k1 = some z) (hk : t.2.2.2.2.1 ≤ k1.1 ∧ t.2.2.2.2.2 ≤ k1.2) (K : k1.1 ≤ R.cells → k1.2 ≤ R.slots → ∀ Q, aSim p l e R s m args below meth c Q D ka sg A nL al (pc1, ls1, st1, h1, k1) → aSim p l e R s m args below meth c Q D ka sg A nL al t) : aGl p l e R s m args below meth c D ka sg A nL al t z := by
  cases hz
  exact ⟨hk, K⟩
theorem aBd.out (B : aBd p l R s m args meth c D ka sg A nL o d cc al ini call hd cd rt hh) (h0 : hd = []) : ∀ z ∈ c.exceptionTable.toList, False := by
  obtain ⟨-, -, -, ⟨h1, h2⟩, -⟩ := B
  subst h0
  cases hh with
  | nil =>
    intro z hz
    rw [h1] at hz
    cases hz
  | cons q r =>
    obtain ⟨q1, q2, q3, q4⟩ := q
    cases h2
theorem g_back (B : aBd p l R s m args meth c D ka sg A nL o d cc al ini call hd cd rt hh) {t : aS} (hk : t.2.2.2.2 = k) {nt : Bool} {r0 : aR} {z : aS ⊕ aR} (hz : aBack nt hd cd pc ls r k (some r0) = some z)
    (Kr : ∀ v h' kd, r0 = (.inl v, h', kd) → k.1 + kd.1 ≤ R.cells ∧ k.2 + kd.2 ≤ R.slots → ∀ Q, aSim p l e R s m args below meth c Q D ka sg A nL al (pc + 3, ls, v.toList ++ r, h', (k.1 + kd.1, k.2 + kd.2)) → aSim p l e R s m args below meth c Q D ka sg A nL al t)
    (Kt : nt = false → ∀ x9 h' kd, r0 = (.inr x9, h', kd) → k.1 + kd.1 ≤ R.cells ∧ k.2 + kd.2 ≤ R.slots → ∀ Q, aThr p l e R s m args below meth c Q D ka sg A nL al pc ls r h' (k.1 + kd.1, k.2 + kd.2) x9 → aSim p l e R s m args below meth c Q D ka sg A nL al t) : aGl p l e R s m args below meth c D ka sg A nL al t z := by
  subst hk
  obtain ⟨x0, h', kd⟩ := r0
  cases x0 with
  | inl v => exact aGl.go hz ⟨Nat.le_add_right _ _, Nat.le_add_right _ _⟩ (fun g1 g2 Q K => Kr v h' kd rfl ⟨g1, g2⟩ Q K)
  | inr x9 =>
    unfold aBack at hz
    dsimp only at hz
    split at hz
    · cases hz
    rename_i hnt
    have hnt : nt = false := by cases nt with
      | true => exact absurd rfl hnt
      | false => rfl
    split at hz
    · split at hz
      · rename_i h0
        cases hz
        exact ⟨⟨Nat.le_add_right _ _, Nat.le_add_right _ _⟩, fun g1 g2 => Kt hnt x9 h' kd rfl ⟨g1, g2⟩ _ (e_out (B.out h0) B.2.2.2.2.1)⟩
      · cases hz
    · rename_i t9 ht
      split at hz
      · rename_i n _ hn
        split at hz
        · rename_i hm
          exact aGl.go hz ⟨Nat.le_add_right _ _, Nat.le_add_right _ _⟩ (fun g1 g2 Q K => Kt hnt x9 h' kd rfl ⟨g1, g2⟩ Q (s_catch_n B.1 B.2.2.2.1.1 B.2.2.2.1.2 ht hm (aD1 (B.2.2.2.2.2.2.2 _ _ hn) rfl) K))
        · cases hz
      · rename_i n _ hn
        split at hz
        · rename_i hm
          exact aGl.go hz ⟨Nat.le_add_right _ _, Nat.le_add_right _ _⟩ (fun g1 g2 Q K => Kt hnt x9 h' kd rfl ⟨g1, g2⟩ Q (s_catch B.1 B.2.2.2.1.1 B.2.2.2.1.2 ht hm (aD2 (B.2.2.2.2.2.2.2 _ _ hn) rfl) K))
        · cases hz
      · cases hz
theorem aArg_ok {a b st : Nat} {wh ini : Bool} (h : aArg a b st wh ini = true) : a < 165 ∧ ∃ (o : Nat) (cd : List aI) (hd : aD) (rt : Option FieldType) (n : Nat) (y : MethodName) (b9 : ByteArray) (np : Nat), aProg[a]? = some (o, cd, hd, rt, n) ∧ aYs[a]? = some (y, b9) ∧ aNa a = b ∧ b = np + (1 - st) ∧ y.cls = aOwn o ∧ n ≤ 40 ∧ (parseMethodDescriptor y.desc).map (fun d => d.parameters.length) = some np ∧ Cond.initialized y.cls ∈ aWg ∧ hd.isEmpty = !wh ∧
    (if hd.isEmpty = true then Cond.code y b9 n rt ∈ aWg else Cond.codeWith y b9 n rt (aHh a) ∈ aWg) ∧ (if st = 1 then Cond.static y ∈ aWg else Cond.instanceMethod y ∈ aWg ∧ o < 8 ∧ (if ini = true then y.name = "<init>" ∧ rt = none else Cond.selects y.cls y y ∈ aWg)) ∧ y.cls ≠ "java/lang/invoke/MethodHandle" ∧ y.cls ≠ "java/lang/invoke/VarHandle" := by
  unfold aArg at h
  rw [Bool.and_eq_true] at h
  have ha := of_decide_eq_true h.1
  obtain ⟨o, cd, hd, rt, n, y, b9, np, st9, e1, e2, ⟨q1, q2, q3, q4, e3⟩, g1, g2, g3, g4, -, g6, g7, g8⟩ := aMok_spec ha
  have h2 := h.2
  rw [e1, e2, e3] at h2
  simp only [Bool.and_eq_true, beq_iff_eq] at h2
  obtain ⟨rfl, h4, h5, h6⟩ := h2
  refine ⟨ha, o, cd, hd, rt, n, y, b9, np, e1, e2, ?_, h4, g1, g3, g4, g7, h5, ?_, ?_, by rw [g1]; exact aOwn_ne o⟩
  · unfold aNa
    rw [e3, h4]
  · split
    · rename_i q
      rw [if_pos q] at g6
      exact g6
    · rename_i q
      rw [if_neg q] at g6
      exact g6.1
  · by_cases hs : st9 = 1
    · rw [if_pos hs] at g8 ⊢
      exact g8
    · rw [if_neg hs] at g8 h6 ⊢
      rw [Bool.and_eq_true] at h6
      refine ⟨g8.1, of_decide_eq_true h6.1, ?_⟩
      have h7 := h6.2
      cases ini with
      | true =>
        rw [if_pos rfl, Bool.and_eq_true] at h7
        rw [if_pos rfl]
        exact ⟨eq_of_beq h7.1, Option.isNone_iff_eq_none.mp h7.2⟩
      | false =>
        rw [if_neg (by decide)] at h7 ⊢
        exact g8.2 (by simpa using h7)
theorem aCall_ex {nt : Bool} {a b : Nat} {z : aS ⊕ aR} (hz : aCall nt call hd cd a b pc ls st h k = some z) : b ≤ st.length ∧ aSum (st.drop b) ≤ 8 ∧ (∀ v ∈ (st.take b).reverse, v.category = 1) ∧ ∃ r0, call a (st.take b).reverse h = some r0 ∧ aBack nt hd cd pc ls (st.drop b) k (some r0) = some z := by
  unfold aCall at hz
  split at hz
  · rename_i q
    obtain ⟨q1, q2, q3⟩ := q
    refine ⟨q1, q2, fun v hv => eq_of_beq (List.all_eq_true.mp q3 v (List.mem_reverse.mp hv)), ?_⟩
    cases hc : call a (st.take b).reverse h with
    | none => rw [hc] at hz; cases hz
    | some r0 => exact ⟨r0, rfl, by rw [hc] at hz; exact hz⟩
  · cases hz
theorem aRecv_ex {cls : Nat → Nat} {a b : Nat} (h9 : aRecv cls a b st h = true) : ∃ q fs, st[b - 1]? = some (.ref q) ∧ h[q]? = some (true, .inr (cls a, fs)) ∧ 1 ≤ b := by
  unfold aRecv at h9
  split at h9
  · rename_i q hq
    split at h9
    · rename_i ci fs hc
      rw [Bool.and_eq_true] at h9
      have e := eq_of_beq h9.1
      subst e
      exact ⟨q, fs, hq, hc, of_decide_eq_true h9.2⟩
    · cases h9
  · cases h9
theorem a_split {b : Nat} {v : Value} (hb : b + 1 ≤ st.length) (hv : st[b]? = some v) : st.take (b + 1) = st.take b ++ [v] ∧ st = ((st.take b).reverse).reverse ++ v :: st.drop (b + 1) := by
  have h1 : st.take (b + 1) = st.take b ++ [v] := by
    rw [List.take_add_one, hv]
    rfl
  refine ⟨h1, ?_⟩
  rw [List.reverse_reverse]
  conv => lhs; rw [← List.take_append_drop (b + 1) st, h1]
  rw [List.append_assoc]
  rfl
theorem aCls_of {a o n : Nat} {cd : List aI} {hd : aD} {rt : Option FieldType} (e1 : aProg[a]? = some (o, cd, hd, rt, n)) : aCls a = o := by
  unfold aCls
  rw [e1]
theorem aCl_own {ci : Nat} {rc : vw_C} (h : aCl[ci]? = some rc) : rc.1 = aOwn ci := by
  match ci, h with
  | 0, h => cases h; rfl
  | 1, h => cases h; rfl
  | 2, h => cases h; rfl
  | 3, h => cases h; rfl
  | 4, h => cases h; rfl
  | 5, h => cases h; rfl
  | 6, h => cases h; rfl
  | 7, h => cases h; rfl
  | n + 8, h => simp at h
theorem aL4_link {o idx kind a p : Nat} {y : MethodName} {b : ByteArray} (h : aLok (o, idx, kind, a, p) = true) (hk : kind = 0 ∨ kind = 1 ∨ kind = 2 ∨ kind = 5) (e2 : aYs[a]? = some (y, b)) : Cond.methodLink (aOwn o) idx y ∈ aWg := by
  rcases hk with rfl | rfl | rfl | rfl <;> (unfold aLok at h; dsimp only at h; rw [e2] at h; exact aIs_in h)
theorem aL4_nest {o idx kind a p : Nat} {y : MethodName} {b : ByteArray} (h : aLok (o, idx, kind, a, p) = true) (hk : kind = 3 ∨ kind = 4) (e2 : aYs[a]? = some (y, b)) : (aOwn o, idx, y) ∈ aNestM := by
  rcases hk with rfl | rfl <;> (unfold aLok at h; dsimp only at h; rw [e2] at h; exact of_decide_eq_true h)
theorem a_con (B : aBd p l R s m args meth c D ka sg A nL o d cc al ini call hd cd rt hh) {a b o9 n9 : Nat} {cd9 : List aI} {hd9 : aD} {rt9 : Option FieldType} {y9 : MethodName} {b9 : ByteArray} {r0 : aR} (ha : a < 165) (b1 : b ≤ st.length) (b3 : ∀ v ∈ (st.take b).reverse, v.category = 1) (b4 : call a (st.take b).reverse h = some r0) (e3 : aNa a = b) (e1 : aProg[a]? = some (o9, cd9, hd9, rt9, n9)) (e2 : aYs[a]? = some (y9, b9)) : aCon l D ka sg A al d y9 (aWs a) (st.take b).reverse h r0 :=
  B.2.2.2.2.2.2.1 a _ h r0 b4 b3 ha (by rw [List.length_reverse, List.length_take, e3]; omega) y9 b9 e2
theorem g_callV (B : aBd p l R s m args meth c D ka sg A nL o d cc al ini call hd cd rt hh) {nt : Bool} {idx a b : Nat} {z : aS ⊕ aR} (hL : aL4 o idx 0 a = true) (hA : aArg a b 0 false false = true) (hdg : decode cc pc = .ok (.invokevirtual idx, 3)) (hr : aRecv aCls a b st h = true) (hz : aCall nt call hd cd a b pc ls st h k = some z) : aGl p l e R s m args below meth c D ka sg A nL al (pc, ls, st, h, k) z := by
  obtain ⟨b1, b2, b3, r0, b4, b5⟩ := aCall_ex hz
  obtain ⟨q, fs, c1, c2, c3⟩ := aRecv_ex hr
  obtain ⟨ha, o9, cd9, hd9, rt9, n9, y9, b9, np, e1, e2, e3, e4, e5, e6, e7, e8, e9, e10, e11, e12, e13⟩ := aArg_ok hA
  obtain ⟨p9, hp9⟩ := aL4_ok hL
  have e9 : hd9.isEmpty = true := e9
  rw [if_pos e9] at e10
  rw [if_neg (by decide)] at e11
  obtain ⟨f1, f3, f2⟩ := e11
  rw [if_neg (by decide)] at f2
  obtain rfl : b = np + 1 := e4
  rw [Nat.add_sub_cancel] at c1
  obtain ⟨s1, s2⟩ := a_split b1 c1
  have ho9 : aCls a = o9 := aCls_of e1
  rw [ho9] at c2
  obtain ⟨rc, hrc, -⟩ := aCl_nf _ f3
  have hcon := a_con B ha b1 b3 b4 e3 e1 e2
  rw [aWs_plain e1 e2 e9, s1, List.reverse_append] at hcon
  have hlen : ((st.take np).reverse).length = np := by rw [List.length_reverse, List.length_take]; omega
  have hmy : aMy y9 b9 n9 rt9 np := ⟨e10, e8, e12, e13, e7, e6⟩
  refine g_back B rfl b5 (fun v h' kd er hk Q K => ?_) (fun _ x9 h' kd er hk Q K => ?_)
  · subst er
    rw [s2]
    exact s_callV B.1 hcon hmy (aL4_link hp9 (Or.inl rfl) e2) f1 f2 B.2.1.1 B.2.1.2 c2 hrc ((aCl_own hrc).trans e5.symm) hlen b2 hk hdg K
  · subst er
    rw [s2]
    exact t_callV B.1 hcon hmy (aL4_link hp9 (Or.inl rfl) e2) f1 f2 B.2.1.1 B.2.1.2 c2 hrc ((aCl_own hrc).trans e5.symm) hlen b2 hk hdg K
theorem g_callS (B : aBd p l R s m args meth c D ka sg A nL o d cc al ini call hd cd rt hh) {nt : Bool} {idx a b : Nat} {z : aS ⊕ aR} (hL : aL4 o idx 1 a = true) (hA : aArg a b 1 false false = true) (hdg : decode cc pc = .ok (.invokestatic idx, 3)) (hz : aCall nt call hd cd a b pc ls st h k = some z) : aGl p l e R s m args below meth c D ka sg A nL al (pc, ls, st, h, k) z := by
  obtain ⟨b1, b2, b3, r0, b4, b5⟩ := aCall_ex hz
  obtain ⟨ha, o9, cd9, hd9, rt9, n9, y9, b9, np, e1, e2, e3, e4, e5, e6, e7, e8, e9, e10, e11, e12, e13⟩ := aArg_ok hA
  obtain ⟨p9, hp9⟩ := aL4_ok hL
  have e9 : hd9.isEmpty = true := e9
  rw [if_pos e9] at e10
  rw [if_pos rfl] at e11
  obtain rfl : b = np := e4
  have s2 : st = ((st.take b).reverse).reverse ++ st.drop b := by rw [List.reverse_reverse, List.take_append_drop]
  have hcon := a_con B ha b1 b3 b4 e3 e1 e2
  rw [aWs_plain e1 e2 e9] at hcon
  have hlen : ((st.take b).reverse).length = b := by rw [List.length_reverse, List.length_take]; omega
  have hmy : aMy y9 b9 n9 rt9 b := ⟨e10, e8, e12, e13, e7, e6⟩
  refine g_back B rfl b5 (fun v h' kd er hk Q K => ?_) (fun _ x9 h' kd er hk Q K => ?_)
  · subst er
    rw [s2]
    exact s_callS B.1 hcon hmy (aL4_link hp9 (Or.inr (Or.inl rfl)) e2) e11 B.2.1.1 B.2.1.2 hlen b2 hk hdg K
  · subst er
    rw [s2]
    exact t_callS B.1 hcon hmy (aL4_link hp9 (Or.inr (Or.inl rfl)) e2) e11 B.2.1.1 B.2.1.2 hlen b2 hk hdg K
theorem g_callI (B : aBd p l R s m args meth c D ka sg A nL o d cc al ini call hd cd rt hh) {idx a b kind : Nat} {z : aS ⊕ aR} (hkd : kind = 2 ∨ kind = 3) (hL : aL4 o idx kind a = true) (hA : aArg a b 0 false true = true) (hdg : decode cc pc = .ok (.invokespecial idx, 3)) (hr : aRecv aCls a b st h = true) (hz : aCall true call hd cd a b pc ls st h k = some z) : aGl p l e R s m args below meth c D ka sg A nL al (pc, ls, st, h, k) z := by
  obtain ⟨b1, b2, b3, r0, b4, b5⟩ := aCall_ex hz
  obtain ⟨q, fs, c1, c2, c3⟩ := aRecv_ex hr
  obtain ⟨ha, o9, cd9, hd9, rt9, n9, y9, b9, np, e1, e2, e3, e4, e5, e6, e7, e8, e9, e10, e11, e12, e13⟩ := aArg_ok hA
  obtain ⟨p9, hp9⟩ := aL4_ok hL
  have e9 : hd9.isEmpty = true := e9
  rw [if_pos e9] at e10
  rw [if_neg (by decide)] at e11
  obtain ⟨f1, f3, f2⟩ := e11
  rw [if_pos rfl] at f2
  obtain ⟨f2, f4⟩ := f2
  subst f4
  obtain rfl : b = np + 1 := e4
  rw [Nat.add_sub_cancel] at c1
  obtain ⟨s1, s2⟩ := a_split b1 c1
  have hcon := a_con B ha b1 b3 b4 e3 e1 e2
  rw [aWs_plain e1 e2 e9, s1, List.reverse_append] at hcon
  have hlen : ((st.take np).reverse).length = np := by rw [List.length_reverse, List.length_take]; omega
  have hmy : aMy y9 b9 n9 none np := ⟨e10, e8, e12, e13, e7, e6⟩
  refine g_back B rfl b5 (fun v h' kd er hk Q K => ?_) (fun hn => by cases hn)
  subst er
  rw [s2]
  rcases hkd with rfl | rfl
  · exact s_callI B.1 hcon hmy (aL4_link hp9 (Or.inr (Or.inr (Or.inl rfl))) e2) f1 f2 B.2.1.1 B.2.1.2 hlen b2 hk hdg K
  · exact s_callIN B.1 hcon hmy (aL4_nest hp9 (Or.inl rfl) e2) f1 f2 B.2.1.1 B.2.1.2 hlen b2 hk hdg K
theorem g_callSN (B : aBd p l R s m args meth c D ka sg A nL o d cc al ini call hd cd rt hh) {idx a b : Nat} {z : aS ⊕ aR} (hL : aL4 o idx 4 a = true) (hA : aArg a b 1 false false = true) (hdg : decode cc pc = .ok (.invokestatic idx, 3)) (hz : aCall true call hd cd a b pc ls st h k = some z) : aGl p l e R s m args below meth c D ka sg A nL al (pc, ls, st, h, k) z := by
  obtain ⟨b1, b2, b3, r0, b4, b5⟩ := aCall_ex hz
  obtain ⟨ha, o9, cd9, hd9, rt9, n9, y9, b9, np, e1, e2, e3, e4, e5, e6, e7, e8, e9, e10, e11, e12, e13⟩ := aArg_ok hA
  obtain ⟨p9, hp9⟩ := aL4_ok hL
  have e9 : hd9.isEmpty = true := e9
  rw [if_pos e9] at e10
  rw [if_pos rfl] at e11
  obtain rfl : b = np := e4
  have s2 : st = ((st.take b).reverse).reverse ++ st.drop b := by rw [List.reverse_reverse, List.take_append_drop]
  have hcon := a_con B ha b1 b3 b4 e3 e1 e2
  rw [aWs_plain e1 e2 e9] at hcon
  have hlen : ((st.take b).reverse).length = b := by rw [List.length_reverse, List.length_take]; omega
  have hmy : aMy y9 b9 n9 rt9 b := ⟨e10, e8, e12, e13, e7, e6⟩
  refine g_back B rfl b5 (fun v h' kd er hk Q K => ?_) (fun hn => by cases hn)
  subst er
  rw [s2]
  exact s_callSN B.1 hcon hmy (aL4_nest hp9 (Or.inr rfl) e2) e11 B.2.1.1 B.2.1.2 hlen b2 hk hdg K
theorem g_callSW (B : aBd p l R s m args meth c D ka sg A nL o d cc al ini call hd cd rt hh) {idx a b : Nat} {z : aS ⊕ aR} (hL : aL4 o idx 5 a = true) (hA : aArg a b 1 true false = true) (hdg : decode cc pc = .ok (.invokestatic idx, 3)) (hz : aCall true call hd cd a b pc ls st h k = some z) : aGl p l e R s m args below meth c D ka sg A nL al (pc, ls, st, h, k) z := by
  obtain ⟨b1, b2, b3, r0, b4, b5⟩ := aCall_ex hz
  obtain ⟨ha, o9, cd9, hd9, rt9, n9, y9, b9, np, e1, e2, e3, e4, e5, e6, e7, e8, e9, e10, e11, e12, e13⟩ := aArg_ok hA
  obtain ⟨p9, hp9⟩ := aL4_ok hL
  have e9 : hd9.isEmpty = false := e9
  rw [if_neg (by rw [e9]; decide)] at e10
  rw [if_pos rfl] at e11
  obtain rfl : b = np := e4
  have s2 : st = ((st.take b).reverse).reverse ++ st.drop b := by rw [List.reverse_reverse, List.take_append_drop]
  have hcon := a_con B ha b1 b3 b4 e3 e1 e2
  rw [aWs_with e1 e2 e9] at hcon
  have hlen : ((st.take b).reverse).length = b := by rw [List.length_reverse, List.length_take]; omega
  refine g_back B rfl b5 (fun v h' kd er hk Q K => ?_) (fun hn => by cases hn)
  subst er
  rw [s2]
  exact s_callSW B.1 hcon e10 e8 e12 e13 e7 e6 (aL4_link hp9 (Or.inr (Or.inr (Or.inr rfl))) e2) e11 B.2.1.1 B.2.1.2 hlen b2 hk hdg K
end STC
end
section
/-! THE EXCEPTION WHOSE CONSTRUCTOR CALLS ITS SUPERCLASS'S BY ANOTHER PLACE OF ITS POOL -/
def x3N : String := "java/util/NoSuchElementException"
def x3Y : String := "java/lang/RuntimeException"
def x3code : ByteArray := ⟨#[0x2a, 0x2b, 0xb7, 0x00, 0x0d, 0xb1]⟩
theorem x3_0 : decode x3code 0 = .ok (.aload_n 0, 1) := by decide +kernel
theorem x3_1 : decode x3code 1 = .ok (.aload_n 1, 1) := by decide +kernel
theorem x3_2 : decode x3code 2 = .ok (.invokespecial 13, 3) := by decide +kernel
theorem x3_5 : decode x3code 5 = .ok (.return_, 1) := by decide +kernel
/-- its words -/
def x3L (own : String) (ic : Nat) : List Cond :=
  Bundle.throwableAtoms ++ (Bundle.throwableSAtoms ++ (Bundle.passSAtoms x3N x3Y 13 x3code ++ (Bundle.chainSAtoms x3Y ["java/lang/Exception"] ++
  ([.methodLink own ic (Bundle.initS x3N), .instantiable x3N 6, .castable x3N x3N, .selects x3N Bundle.tFill0 Bundle.tFill0, .selects x3N Bundle.tFill Bundle.tFill] ++
  ([("cause", "Ljava/lang/Throwable;"), ("stackTrace", Bundle.steD), ("suppressedExceptions", Bundle.listD), ("detailMessage", "Ljava/lang/String;"), ("backtrace", "Ljava/lang/Object;")].map (fun q => Cond.lays x3N Bundle.tN q.1 q.2) ++
  [.isRef (.static Bundle.tN "UNASSIGNED_STACK" Bundle.steD), .isRef (.static Bundle.tN "SUPPRESSED_SENTINEL" Bundle.listD), .fieldLink Bundle.tN 198 Bundle.tN "backtrace" "Ljava/lang/Object;", .lays Bundle.tN Bundle.tN "backtrace" "Ljava/lang/Object;"])))))
def x3M (own : String) (ic : Nat) : List Cond := (x3L own ic).filter vx_no
set_option maxRecDepth 100000 in
theorem x3_all : ∀ w ∈ x3M RX7 159, (w ∈ aWg ∨ w = .castable x3N x3N ∨ w ∈ aDecl.map Cond.declares) ∧ vx_ot w = true := by decide +kernel
end
section
/-! ITS WALK -/
section SX3
variable {p : Program} {l : Launch} {e : Env} {R : Room} {s : State} {m₀ : MethodId} {args : Array Value} {below : List Frame} {meth : Method} {c : Code} {W : State} {locs : List Loc} {cells slots : Nat}
set_option maxHeartbeats 2000000 in
theorem x3_ctor (X : Stand p l e R s m₀ args below meth c W locs cells slots) (hexec : p.tables.exec = Jvm.exec) (htr : e.platform.stackTraces = false) {own : String} {ic : Nat}
    (hown : s.vm.findClass own = some m₀.cls) (h : ∀ a ∈ x3L own ic, a.before args s = true)
    (hlocs : ∀ x ∈ locs, ∀ cell, s.heap[x.base]? = some cell → cell.vm.isStatics = false)
    {a : Addr} {cX : ClassId} {kX : Class} (hfoundX : s.vm.findClass x3N = some cX) (hkX : s.vm.classes[cX]? = some kX) (hcell : W.heap[a]? = some (freshCell cX kX)) (hnew : s.heap.size ≤ a)
    {msg : Value} (hmsg : msg.isRef = true)
    {g : JFrame} (hg : g.method = m₀) (hsize : g.locals.size = c.maxLocals) (hlocked : g.locked = none) (hentered : g.entered = []) {rest : List Value} (hstack : g.stack = msg :: .ref a :: .ref a :: rest)
    (hd6 : decode c.code g.pc = .ok (.invokespecial ic, 3)) (hd9 : decode c.code (g.pc + 3) = .ok (.athrow, 1)) (hout : ∀ x ∈ c.exceptionTable.toList, covers x (g.pc + 3) = false)
    (hRframes : 5 < R.frames) (hRlocals : 2 * g.monitorRoom + ((Value.ref a :: rest).map fun v => v.category).sum + (13 * 3 + 42) ≤ R.locals) (hlocks : meth.locks = false) :
    ∃ U : State, Steps p.tables e below (W.setTop g) U ∧ U.status = .running ∧ Ended U below (.threw a) ∧ s.WarmedH U.vm ∧ s.sameButNew ({ U with vm := s.vm } : State) locs cells slots ∧
      ∃ ce, U.heap[a]? = some ce ∧ s.vm.findClass x3N = some ce.cls ∧ ce.vm = .none := by
  have howns : e.platform.frameOwnsMonitors = true := by rw [X.admits.platform]
  have hfin : e.platform.finalization = false := by rw [X.admits.platform]
  have hpl : e.platform.magicAccessors = ({} : Platform).magicAccessors := by rw [X.admits.platform]
  obtain ⟨T, Z0, L, -, Y⟩ := ThrowableC.of_atoms (args := args) howns hfin hpl (fun x hx => h x (by simp [x3L, hx]))
  obtain ⟨Z, M, LZ, LM, hnZ⟩ := Init0T.ofS_atoms (args := args) hpl L Y (fun x hx => h x (by simp [x3L, hx]))
  have hY : Bundle.fit x3Y = true := by decide
  have hE : Bundle.fit "java/lang/Exception" = true := by decide
  obtain ⟨P1, L1, hP1m, hs1⟩ := PassC.ofS_atoms (args := args) (s := s) hpl (X := x3N) (Y := x3Y) (by decide) (Bundle.fit_spec hY).2 x3_0 x3_1 x3_2 x3_5 (fun x hx => h x (by simp [x3L, hx]))
  obtain ⟨P2, Ps, hlen, L2, hL, hP2m, hsup, hpass⟩ := Bundle.chainS (args := args) hpl hnZ ["java/lang/Exception"] x3Y hY (fun n hn => by cases List.mem_singleton.mp hn; exact hE) (fun x hx => h x (by simp [x3L, hx]))
  have hw : ∀ q : String × String, q ∈ [("cause", "Ljava/lang/Throwable;"), ("stackTrace", Bundle.steD), ("suppressedExceptions", Bundle.listD), ("detailMessage", "Ljava/lang/String;"), ("backtrace", "Ljava/lang/Object;")] → (Cond.lays x3N Bundle.tN q.1 q.2).holds args s none s [] = true := fun q hq => h _ (by
    unfold x3L
    exact List.mem_append_right _ (List.mem_append_right _ (List.mem_append_right _ (List.mem_append_right _ (List.mem_append_right _ (List.mem_append_left _ (List.mem_map.mpr ⟨q, hq, rfl⟩)))))))
  have a' : ∀ x, x ∈ x3L own ic → x.holds args s none s [] = true := fun x hx => h x hx
  have hfound : s.vm.findClass x3N = some P1.m.cls := findClass_of_methodNamed hP1m
  cases Option.some.inj (hfoundX.symm.trans hfound)
  obtain ⟨c1, kX', hc1, hk, hord, -, -, hn6⟩ := Cond.instantiable_spec (a' (.instantiable x3N 6) (by simp [x3L]))
  cases Option.some.inj (hc1.symm.trans hfound)
  cases Option.some.inj (hkX.symm.trans hk)
  have hsel0 : selectMethod e.platform s.vm P1.m.cls T.fill0 = .method T.fill0 := by
    obtain ⟨c2, r2, m2, q1, q2, q3, q4, -⟩ := Cond.selects_spec (a' (.selects x3N Bundle.tFill0 Bundle.tFill0) (by simp [x3L]))
    cases Option.some.inj (q1.symm.trans hfound)
    cases Option.some.inj (q2.symm.trans (State.methodFound?_of_named Y.fill0 (by decide)))
    cases Option.some.inj (q3.symm.trans Y.fill0)
    rw [Launch.admits_selectMethod X.admits]; exact q4
  have hselF : selectMethod e.platform s.vm P1.m.cls T.fill = .method T.fill := by
    obtain ⟨c2, r2, m2, q1, q2, q3, q4, -⟩ := Cond.selects_spec (a' (.selects x3N Bundle.tFill Bundle.tFill) (by simp [x3L]))
    cases Option.some.inj (q1.symm.trans hfound)
    cases Option.some.inj (q2.symm.trans (State.methodFound?_of_named Y.fill (by decide)))
    cases Option.some.inj (q3.symm.trans Y.fill)
    rw [Launch.admits_selectMethod X.admits]; exact q4
  obtain ⟨cellS0, hcS0, hiss⟩ := Y.statics
  obtain ⟨u0, hu0⟩ := Cond.staticRefV Y.unassigned L.unassignedStatic L.statics hcS0 hiss (a' (.isRef (.static Bundle.tN "UNASSIGNED_STACK" Bundle.steD)) (by simp [x3L]))
  obtain ⟨sen, hsen⟩ := Cond.staticRefV Y.sentinel L.sentinelStatic L.statics hcS0 hiss (a' (.isRef (.static Bundle.tN "SUPPRESSED_SENTINEL" Bundle.listD)) (by simp [x3L]))
  obtain ⟨ci198, i198, fB, hk198, hg198, ha198, hsB, -, hnB, htB, hffB⟩ := Cond.ownField (t := .object "java/lang/Object") Y.found L.cls (by decide +kernel) (a' (.fieldLink Bundle.tN 198 Bundle.tN "backtrace" "Ljava/lang/Object;") (by simp [x3L])) (a' (.lays Bundle.tN Bundle.tN "backtrace" "Ljava/lang/Object;") (by simp [x3L])) e.platform hpl
  obtain ⟨cellS, hcS', heS, -, hkeep⟩ := X.same.2.2.2.2.2 T.aS cellS0 hcS0
  have hcellS : W.heap[T.aS]? = some cellS := hcS'
  have hout' : ∀ i, (⟨T.aS, i⟩ : Loc) ∉ locs := fun i hmem => by
    have := hlocs _ hmem cellS0 hcS0
    rw [hiss] at this; cases this
  have hknownS : cellS.vm ≠ .unknown := by
    rw [heS]; intro hu
    rw [show cellS0.vm = .unknown from hu] at hiss
    cases hiss
  have hneS : T.aS ≠ a := Nat.ne_of_lt (Nat.lt_of_lt_of_le (Array.getElem?_eq_some_iff.mp hcS0).1 hnew)
  obtain ⟨iM, hffM⟩ := Y.msg
  obtain ⟨tyC, dC, hdC, hdnC⟩ := Cond.laysAt hfound hk Y.cause (hw ("cause", _) (by simp))
  obtain ⟨tyS, dS, hdS, hdnS⟩ := Cond.laysAt hfound hk Y.stack (hw ("stackTrace", _) (by simp [Bundle.steD]))
  obtain ⟨tyP, dP, hdP, hdnP⟩ := Cond.laysAt hfound hk Y.supp (hw ("suppressedExceptions", _) (by simp [Bundle.listD]))
  obtain ⟨tyM, dM, hdM, hdnM⟩ := Cond.laysAt hfound hk hffM (hw ("detailMessage", _) (by simp))
  obtain ⟨tyB, dB, hdB, hdnB⟩ := Cond.laysAt hfound hk hffB (hw ("backtrace", _) (by simp))
  have bC := Cond.laysApart hdB hdC hdnB hdnC (by rw [hnB, Y.causeName]; decide)
  have bS := Cond.laysApart hdB hdS hdnB hdnS (by rw [hnB, Y.stackName]; decide)
  have bP := Cond.laysApart hdB hdP hdnB hdnP (by rw [hnB, Y.suppName]; decide)
  have hskip : SkipFacts T e.platform s (fun u => u) u0 ((preparedCellV T.toThrowableT (freshCell P1.m.cls kX) a u0 sen).withEntry W.cur) :=
    ⟨{ ci198 := ci198, i198 := i198, fBack := fB }, ⟨hk198, hg198, ha198, hsB⟩, by
      have := fresh_default (c := P1.m.cls) tyB
      rw [htB] at this
      simpa [preparedCellV, Cell.setSlot, Cell.withEntry, Array.getElem?_setIfInBounds, bC, bS, bP, bC.symm, bS.symm, bP.symm, defaultValue] using this, fun _ _ => rfl⟩
  obtain ⟨tm, methC, cdC, kC, vm₁, hnC, -, -, -, -, -, -, -, hW₁, st1⟩ := Steps.initColdS (tb := p.tables) (e := e) (below := below) (s := s) (U := W) X.here hexec X.warmed hpl hown (t := Bundle.initS x3N) rfl rfl (by decide)
    (a' (.methodLink own ic (Bundle.initS x3N)) (by simp [x3L])) (h (.instanceMethod (Bundle.initS x3N)) (by simp [x3L, Bundle.passSAtoms])) (bytes := x3code) (maxL := 2) (h (.code (Bundle.initS x3N) x3code 2 none) (by simp [x3L, Bundle.passSAtoms]))
    (f := g) hg (a := a) (msg := msg) (rest := .ref a :: rest) hstack hd6
  cases Option.some.inj (hnC.symm.trans hP1m)
  have X₁ := X.noted hW₁
  obtain ⟨vm₂, X₂, st2⟩ := X₁.ctorMessageOffV hexec (g := { g with stack := .ref a :: rest }) hg hsize T L Z LZ M LM (P1 :: P2 :: Ps)
    (fun P hP => by
      rcases List.mem_cons.mp hP with rfl | hP
      · exact L1
      rcases List.mem_cons.mp hP with rfl | hP
      · exact L2
      · exact hL P hP) ⟨Option.some.inj (hs1.symm.trans hP2m), hsup, hpass⟩ (u0 := u0) (sen := sen) (self := a) hmsg (cell := freshCell P1.m.cls kX) (cellS := cellS)
    hcell (fun _ => by simp) (by simp) rfl rfl hsel0 hselF hcellS hneS hknownS (by rw [hkeep _ (hout' _)]; exact hu0) (by rw [hkeep _ (hout' _)]; exact hsen)
    (Takes.of_laid hk hord tyC (by rw [Y.causeType]; rfl)) (Takes.of_laid hk hord tyS (by rw [Y.stackType]; exact fits_refV_array _ u0)) (Takes.of_laid hk hord tyP (by rw [Y.suppType]; exact fits_refV_object _ sen))
    (Takes.of_laid hk hord tyM (by rw [Y.msgType]; exact fits_refV_object _ ⟨msg, hmsg⟩)) Y.objLocals hskip htr [] hd6
    (by simp only [List.length_cons, hlen, List.length_nil]; omega) (by simp only [List.length_cons, hlen, List.length_nil]; exact hRlocals)
  obtain ⟨hwalk, hrun, hended, hWU, hsame⟩ := X₂.athrowLeaves hexec (g := { g with stack := .ref a :: rest, pc := g.pc + 3 }) hg hlocked hentered hout (a := a) (rest := rest) rfl hd9
  have hlt : a < ((W.setVm vm₁).setVm vm₂).heap.size := (Array.getElem?_eq_some_iff.mp hcell).1
  have hU := heapAt_setCell_self (s := (W.setVm vm₁).setVm vm₂) (plainBareV T.toThrowableT (freshCell P1.m.cls kX) a u0 sen msg) hlt
  refine ⟨_, st1 _ (fun acts => ?_), hrun, hended, hWU, hsame.weaken (fun y hy hlt' => ?_) (Nat.le_refl _) (Nat.le_refl _), _, hU, hfound, rfl⟩
  · rw [doInvoke_state]
    exact st2 _ hwalk
  · rcases List.mem_append.mp hy with h1 | h1
    · exact h1
    · exfalso
      have hb : y.base = a := by
        simp only [List.mem_cons, List.not_mem_nil, or_false] at h1
        rcases h1 with rfl | rfl | rfl | rfl | rfl <;> rfl
      rw [hb] at hlt'
      exact Nat.not_lt.mpr hnew hlt'
end SX3
end
section
/-! 'throw new' of that exception -/
section SX4
variable {p : Program} {l : Launch} {e : Env} {R : Room} {s : State} {m : MethodId} {args : Array Value} {below : List Frame} {meth : Method} {c : Code} {H : Heap} {locs : List Loc} {cells slots : Nat}
variable {mc ms : Nat} {free : Addr → Prop} {ls : Array Slot} {rest : List Value} {Qc : Array Value → State → Outcome → State → Prop} {XC : String → State → State → Prop}
theorem x3_throw {cc : ByteArray} {pc n : Nat} (hexec : p.tables.exec = Jvm.exec) (hb : c.code = cc) (hl : l.stackTraces = false) {own text : String} {ik is ic sa : Nat} {A : Nat → Prop}
    (hown : s.vm.findClass own = some m.cls)
    (hk : (Cond.classLink own ik x3N).before args s = true) (hini : (Cond.initialized x3N).before args s = true) (hstr : vk_R own is text sa s) (hat : ∀ w ∈ x3M own ic, w.before args s = true)
    (hgood : ∀ w ∈ Cond.classLink own ik x3N :: Cond.initialized x3N :: x3M own ic, vx_ot w = true)
    (hU : vx_Zq Bundle.tN "UNASSIGNED_STACK" Bundle.steD A s s.heap) (hN : vx_Zq Bundle.tN "SUPPRESSED_SENTINEL" Bundle.listD A s s.heap) (hS : va_S A s.heap H locs) (hsize : ls.size = c.maxLocals)
    (d0 : decode cc pc = .ok (.new ik, 3)) (d3 : decode cc (pc + 3) = .ok (.dup, 1)) (d4 : (n = 2 ∧ decode cc (pc + 4) = .ok (.ldc is, 2)) ∨ (n = 3 ∧ decode cc (pc + 4) = .ok (.ldc_w is, 3))) (d6 : decode cc (pc + 4 + n) = .ok (.invokespecial ic, 3)) (d9 : decode cc (pc + 4 + n + 3) = .ok (.athrow, 1))
    (hout : ∀ x ∈ c.exceptionTable.toList, False)
    (hRframes : 5 < R.frames) (hRlocals : (rest.map fun v => v.category).sum + (13 * 3 + 43) ≤ R.locals) (hRcells : cells + 1 ≤ R.cells) (hRslots : slots + 6 ≤ R.slots) (hlocks : meth.locks = false)
    (hx : ∀ t : State, s.vm.Alike t.vm → H.size ≤ t.heap.size → (∀ q : Nat, q < H.size → t.heap[q]? = H[q]?) → XC x3N s t)
    (hf : ∀ z ∈ locs, free z.base) (hc : cells + 1 ≤ mc) (hs : slots + 6 ≤ ms) :
    W p l e R s m args below meth c H locs cells slots (vx_MQ below Qc XC args s mc ms free) (F0 m pc ls rest) := by
  intro T hT X
  have htr : e.platform.stackTraces = false := (show e.platform.stackTraces = l.stackTraces by rw [X.admits.platform]).trans hl
  have Y := vx_rebase X (R' := { frames := R.frames, locals := R.locals, cells := 1, slots := 6 }) (Nat.le_refl _) (Nat.le_refl _) hRcells hRslots
  obtain ⟨s', hA⟩ : ∃ z, z = (T.setVm s.vm).setFrames (.invoking m args :: below) := ⟨_, rfl⟩
  rw [← hA] at Y
  have hvm : s'.vm = s.vm := by rw [hA]; rfl
  have hhp : s'.heap = H := by rw [hA]; exact hT
  have hW0 : s.WarmedH s'.vm := by rw [hvm]; exact State.WarmedH.refl s
  have hat' : ∀ w ∈ x3M own ic, w.before args s' = true := fun w hw => vx_ot_at hW0 hvm.symm (hgood w (List.mem_cons_of_mem _ (List.mem_cons_of_mem _ hw))) (hat w hw)
  have hk' : (Cond.classLink own ik x3N).before args s' = true := vx_ot_at hW0 hvm.symm (hgood _ List.mem_cons_self) hk
  have hini' : (Cond.initialized x3N).before args s' = true := vx_ot_at hW0 hvm.symm (hgood _ (List.mem_cons_of_mem _ List.mem_cons_self)) hini
  have hU' : vx_Zq Bundle.tN "UNASSIGNED_STACK" Bundle.steD A s' s'.heap := by rw [hhp]; exact vx_Zq.moved hW0.alike (hU.kept hS.2.1)
  have hN' : vx_Zq Bundle.tN "SUPPRESSED_SENTINEL" Bundle.listD A s' s'.heap := by rw [hhp]; exact vx_Zq.moved hW0.alike (hN.kept hS.2.1)
  have h : ∀ w ∈ x3L own ic, w.before args s' = true := vx_own hat' (vx_isRefq hU'.1) (vx_isRefq hN'.1) hU'.2.word hN'.2.word
  have hown' : s'.vm.findClass own = some m.cls := by rw [hvm]; exact hown
  have hins : (Cond.instantiable x3N 6).before args s' = true := h _ (by simp [x3L])
  obtain ⟨vm₁, cX, kX, hfX, hkX, -, -, X₁, st1⟩ := Y.newCold hexec (own := own) (C := x3N) (index := ik) (n := 6) hown' hk' hins hini'
    (g := F0 m pc ls rest) rfl (by rw [hb]; exact d0) (Nat.le_refl _) (Nat.le_refl _)
  generalize hT1 : (T.setVm vm₁).pushCell { cls := cX, slots := kX.instanceTypes.map defaultValue, vm := .none } = T1 at X₁ st1
  have hcat : (Value.ref T.heap.size).category = 1 := rfl
  have hcellA : T1.heap[T.heap.size]? = some (freshCell cX kX) := by rw [← hT1]; exact State.heap_pushCell_size _ _
  have d3' : decode c.code (pc + 3) = .ok (.dup, 1) := by rw [hb]; exact d3
  have hstr' : vk_R own is text sa s' := vk_R.warm hW0 hstr
  obtain ⟨U, hsteps, hrun, hend, hW, hsame, ce, hce, hcls, hcv⟩ := x3_ctor X₁ hexec htr (own := own) (ic := ic) hown' h (fun x hx => nomatch hx) hfX hkX hcellA (by rw [hhp, hT]; exact Nat.le_refl _) (msg := .ref sa) rfl
    (g := { method := m, pc := pc + 4 + n, locals := ls, stack := .ref sa :: .ref T.heap.size :: .ref T.heap.size :: rest, locked := none }) rfl hsize rfl rfl (rest := rest) rfl
    (by rw [hb]; exact d6) (by rw [hb]; exact d9) (fun x hx => (hout x hx).elim) hRframes (by simp only [List.map_cons, List.sum_cons, hcat]; omega) hlocks
  obtain ⟨f1, f2⟩ := vx_frame hsame
  rw [hhp] at f1 f2
  have hWs : s.WarmedH U.vm := State.WarmedH.trans hW0 hW
  have hcl : s.vm.findClass x3N = some ce.cls := by
    rw [hvm] at hcls
    exact hcls
  have hall : s.sameButNew ({ U with vm := s.vm } : State) locs mc ms := by
    subst hA
    obtain ⟨e1, e2⟩ := hsame
    rw [State.setFrames_setFrames] at e1
    have h2 : (T.setVm s.vm).sameButNew ({ U with vm := s.vm } : State) [] (0 + 1) (0 + 6) := ⟨e1, e2⟩
    have h3 := X.same.trans h2
    rw [List.append_nil] at h3
    exact h3.mono hc hs
  refine ⟨U, ?_, .threw T.heap.size, hrun, hend, Or.inr ⟨T.heap.size, rfl, x3N, ce, locs, hx U hWs.alike f1 (fun q hq => f2 q hq (fun z hz => nomatch hz)), hce, hcv, hcl, hWs, hall, hf⟩⟩
  refine st1 _ ?_
  show Steps p.tables e below (T1.setTop { method := m, pc := pc + 3, locals := ls, stack := .ref T.heap.size :: rest, locked := none }) _
  jvm_step X₁.here [X₁.here.top, hexec, d3', Value.category]
  rcases d4 with ⟨rfl, d4⟩ | ⟨rfl, d4⟩
  · exact X₁.ldcString hexec (own := own) (text := text) (index := is) (a := sa) hown' hstr'.1 hstr'.2
      (g := { method := m, pc := pc + 4, locals := ls, stack := .ref T.heap.size :: .ref T.heap.size :: rest, locked := none }) rfl (by rw [hb]; exact d4) _ hsteps
  · exact X₁.ldcStringW hexec (own := own) (text := text) (index := is) (a := sa) hown' hstr'.1 hstr'.2
      (g := { method := m, pc := pc + 4, locals := ls, stack := .ref T.heap.size :: .ref T.heap.size :: rest, locked := none }) rfl (by rw [hb]; exact d4) _ hsteps
end SX4
section SX5
variable {p : Program} {l : Launch} {e : Env} {R : Room} {s : State} {m : MethodId} {args : Array Value} {below : List Frame} {meth : Method} {c : Code} {D : va_G} {ka : FieldType → ClassId} {sg : Nat → Nat} {A : Nat → Prop} {nL : Nat} {cc : ByteArray} {al : Bool}
variable {pc n : Nat} {ls : List (Option Value)} {st : List Value} {h : aH} {k : aK}
theorem e_throw3 (C : aCx p l s m args c D ka sg A nL RX7 cc) {ik is : Nat} {tx : String} (hal : al = false) (hk : Cond.classLink RX7 ik (aExc 3) ∈ aWg) (hini : Cond.initialized (aExc 3) ∈ aWg) (htx : (is, tx) ∈ aStrs) (hf : 6 ≤ R.frames) (hlo : 100 ≤ R.locals) (hc : k.1 + 1 ≤ R.cells) (hs : k.2 + 6 ≤ R.slots) (hr : aSum st ≤ 8) (hlocks : meth.locks = false) (hout : ∀ z ∈ c.exceptionTable.toList, False)
    (d0 : decode cc pc = .ok (.new ik, 3)) (d3 : decode cc (pc + 3) = .ok (.dup, 1)) (d4 : (n = 2 ∧ decode cc (pc + 4) = .ok (.ldc is, 2)) ∨ (n = 3 ∧ decode cc (pc + 4) = .ok (.ldc_w is, 3))) (d6 : decode cc (pc + 4 + n) = .ok (.invokespecial 159, 3)) (d9 : decode cc (pc + 4 + n + 3) = .ok (.athrow, 1)) :
    aSim p l e R s m args below meth c (aEq below D ka sg A al args s (.inr 3, h, (k.1 + 1, k.2 + 6))) D ka sg A nL al (pc, ls, st, h, k) := by
  intro H locs L h1 h2 h3 h4
  obtain ⟨sa, hsa⟩ := C.2.2.2.2.2.1.1.2.2.2.2.1 _ htx
  refine x3_throw (n := n) C.1 C.2.1 C.2.2.2.2.2.2.2 (own := RX7) (text := tx) (sa := sa) C.2.2.2.1 (C.2.2.2.2.1 _ hk) (C.2.2.2.2.1 _ hini) hsa (fun w hw => ?_) (fun w hw => ?_) C.2.2.2.2.2.1.2.2.1 C.2.2.2.2.2.1.2.2.2.1 h2 (by rw [C.2.2.1]; exact h3.1) d0 d3 d4 d6 d9 hout (by omega) (by rw [a_sum]; show aSum st + (13 * 3 + 43) ≤ R.locals; omega) hc hs hlocks (fun t ht hz ho => ⟨3, rfl, by decide, rfl, (h1.grow ho).moved ht, ⟨Nat.le_trans h2.1 hz, fun q g1 g2 => (ho q (Nat.lt_of_lt_of_le g1 h2.1)).trans (h2.2.1 q g1 g2)⟩, fun q => by rw [hal] at q; cases q⟩) h2.2.2 (Nat.le_refl _) (Nat.le_refl _)
  · rcases (x3_all w hw).1 with g1 | g1 | g1
    · exact C.2.2.2.2.1 _ g1
    · rw [g1]
      exact va_Nw.use rfl (C.2.2.2.2.2.1.1.2.2.2.2.2.2.2.2.2.2.1 3 (by decide))
    · obtain ⟨y, hy, rfl⟩ := List.mem_map.mp g1
      exact va_Nw.use rfl (C.2.2.2.2.2.1.1.2.2.2.2.2.2.2.2.2.2.2 y hy)
  · rcases List.mem_cons.mp hw with rfl | hw
    · rfl
    rcases List.mem_cons.mp hw with rfl | hw
    · rfl
    exact (x3_all w hw).2
end SX5
end
section
/-! THE STRINGS' METHODS: WHAT IS KNOWN OF A STRING, CONTRACTS THAT WRITE NOTHING -/
abbrev jN : Nat → Prop := fun _ => False
def jP (ci a v : Nat) (vs : List Value) : Array Value → State → Prop := fun av U => av = vs.toArray ∧ jStr ci a v jN U U.heap
def jQ (r : Option Value) : Array Value → State → Outcome → State → Prop := fun _ st o t => o = .returned r ∧ t.heap = st.heap
def jRm (j : Nat) : Room := { frames := j + 1, cells := 0, slots := 0, locals := 30 * j + 30 }
def jCon (l : Launch) (y : MethodName) (b : ByteArray) (n : Nat) (rt : Option FieldType) (d : Nat) (vs : List Value) (r : Option Value) (ci a v : Nat) : Prop :=
  Met l y (Cond.code y b n rt :: aWg) (jRm d) (jP ci a v vs) (jQ r) 0 0 jN
theorem jP.blind {ci a v : Nat} {vs : List Value} : FrameBlind (jP ci a v vs) := by
  intro x U g mk q
  exact ⟨q.1, jStr.moved (U := U.calling g mk x) (Vm.Alike.refl U.vm) q.2⟩
section SJ1
variable {p : Program} {l : Launch} {e : Env} {R : Room} {s : State} {m : MethodId} {args : Array Value} {below : List Frame} {meth : Method} {c : Code} {H : Heap} {locs : List Loc} {Q : State → Prop} {A : Nat → Prop} {nL : Nat} {own : String} {cc : ByteArray}
variable {pc k1 k2 ci a v d idx n np : Nat} {L : Array Slot} {rest st0 vs : List Value} {r : Option Value} {y : MethodName} {b : ByteArray} {rt : Option FieldType}
theorem j_pre (hJ : jStr ci a v A s H) : PreS s H (jP ci a v vs) vs :=
  ⟨jP.blind, fun U hU hW => ⟨rfl, by rw [hU]; exact (hJ.moved hW.alike).narrow (fun _ h => h.elim)⟩⟩
theorem j_recv (hJ : jStr ci a v A s H) : ∃ cell : Cell, H[a]? = some cell ∧ cell.vm.isStatics = false ∧ s.vm.findClass "java/lang/String" = some cell.cls := by
  obtain ⟨cell, h1, h2, h3, -⟩ := (hJ.2.2.1 0 (by decide)).1
  exact ⟨cell, h1, h2, h3⟩
theorem j_ret {x : Array Value} (hr : va_Run p l e R s m args below meth c H locs k1 k2 0 0 (F0 m pc L st0) rest (jQ r x) jN) (K : W p l e R s m args below meth c H locs k1 k2 Q (F0 m (pc + 3) L (r.toList ++ rest))) : W p l e R s m args below meth c H locs k1 k2 Q (F0 m pc L st0) := by
  intro T hT X
  obtain ⟨v9, st₀, t, T', Ls, h0, X', hL, e1, e2, ⟨eo, eh⟩, stp⟩ := hr T hT X
  have e4 : Ls = [] := List.eq_nil_iff_forall_not_mem.mpr fun z hz => hL z hz
  subst e4
  cases eo
  rw [List.append_nil] at X'
  obtain ⟨t2, a1, b1⟩ := K T' (by rw [e1, eh, h0]) X'
  exact ⟨t2, stp t2 a1, b1⟩
theorem j_callV (hx : p.tables.exec = Jvm.exec) (hb : c.code = cc) (hml : c.maxLocals = nL) (hown : s.vm.findClass own = some m.cls) (hts : ∀ w ∈ aWg, w.before args s = true) (hJ : jStr ci a v A s H) (_ : va_S A s.heap H locs)
    (hcon : jCon l y b n rt d (.ref a :: vs) r ci a v) (hc : y.cls = "java/lang/String") (hy : aMy y b n rt np) (hl : Cond.methodLink own idx y ∈ aWg) (hi : Cond.instanceMethod y ∈ aWg) (hs : Cond.selects y.cls y y ∈ aWg) (hR : d + 2 ≤ R.frames ∧ 8 + (n + 11) + (30 * d + 30) ≤ R.locals) (hn : vs.length = np) (hsz : L.size = nL) (hr : (rest.map fun v => v.category).sum ≤ 8) (hk : k1 ≤ R.cells ∧ k2 ≤ R.slots) (hd : decode cc pc = .ok (.invokevirtual idx, 3))
    (K : W p l e R s m args below meth c H locs k1 k2 Q (F0 m (pc + 3) L (r.toList ++ rest))) : W p l e R s m args below meth c H locs k1 k2 Q (F0 m pc L (vs.reverse ++ .ref a :: rest)) := by
  have hcw : CallW R s args own y.cls idx y b n rt (Cond.code y b n rt :: aWg) (jRm d) 0 0 np := cwV np hts (aWg_good (fun w hw => by
    simp only [wsV, List.cons_append, List.nil_append, List.mem_cons] at hw
    rcases hw with rfl | rfl | rfl | rfl | rfl | hw
    · exact hl
    · exact hi
    · exact hs
    · exact hy.2.1
    · exact hy.1
    · exact hw)) rfl rfl rfl ⟨rfl, hy.2.2.1, hy.2.2.2.1, hy.2.2.2.2.1⟩ hR
  have hrun := va_runV (As := vs) (b := a) (rest := rest) (g := F0 m pc L (vs.reverse ++ .ref a :: rest)) (locs := locs) (cells := k1) (slots := k2) (below := below) (meth := meth) (e := e) ⟨hx, hb, hml, hown, hts⟩ hcon hcw ⟨jP.blind, by rw [hc]; exact j_recv hJ, (j_pre hJ (vs := .ref a :: vs)).2⟩ rfl hn hsz rfl (by show 2 * 0 + _ ≤ 8; omega) hd hk
  exact j_ret hrun K
theorem j_callS (hx : p.tables.exec = Jvm.exec) (hb : c.code = cc) (hml : c.maxLocals = nL) (hown : s.vm.findClass own = some m.cls) (hts : ∀ w ∈ aWg, w.before args s = true) (hJ : jStr ci a v A s H) (_ : va_S A s.heap H locs)
    (hcon : jCon l y b n rt d vs r ci a v) (hy : aMy y b n rt np) (hl : Cond.methodLink own idx y ∈ aWg) (hs : Cond.static y ∈ aWg) (hR : d + 2 ≤ R.frames ∧ 8 + (n + 11) + (30 * d + 30) ≤ R.locals) (hn : vs.length = np) (hsz : L.size = nL) (hr : (rest.map fun v => v.category).sum ≤ 8) (hk : k1 ≤ R.cells ∧ k2 ≤ R.slots) (hd : decode cc pc = .ok (.invokestatic idx, 3))
    (K : W p l e R s m args below meth c H locs k1 k2 Q (F0 m (pc + 3) L (r.toList ++ rest))) : W p l e R s m args below meth c H locs k1 k2 Q (F0 m pc L (vs.reverse ++ rest)) := by
  have hcw : CallB R s args own idx y b n rt (Cond.code y b n rt :: aWg) (jRm d) 0 0 np ∧ (Cond.static y).before args s = true := va_cwS np hts (aWg_good (fun w hw => by
    simp only [va_wsS, List.cons_append, List.nil_append, List.mem_cons] at hw
    rcases hw with rfl | rfl | rfl | rfl | hw
    · exact hl
    · exact hs
    · exact hy.2.1
    · exact hy.1
    · exact hw)) rfl rfl rfl ⟨hy.2.2.1, hy.2.2.2.1, hy.2.2.2.2.1⟩ hR
  have hrun := va_runS (As := vs) (rest := rest) (g := F0 m pc L (vs.reverse ++ rest)) (locs := locs) (cells := k1) (slots := k2) (below := below) (meth := meth) (e := e) ⟨hx, hb, hml, hown, hts⟩ hcon hcw (j_pre hJ) rfl hn hsz rfl (by show 2 * 0 + _ ≤ 8; omega) hd hk
  exact j_ret hrun K
/-- the contract out of the body's walk -/
theorem j_of (hy : plainName y.cls = true) (body : ∀ (p : Program) (e : Env) (s : State) (m : MethodId) (below : List Frame) (meth : Method) (c : Code), p.tables.exec = Jvm.exec → c.code = b → c.maxLocals = n → s.vm.findClass y.cls = some m.cls → (∀ w ∈ aWg, w.before vs.toArray s = true) → meth.locks = false → meth.sig.returnType = rt → jStr ci a v jN s s.heap →
      W p l e (jRm d) s m vs.toArray below meth c s.heap [] 0 0 (vx_MQ below (jQ r) (fun _ _ _ => False) vs.toArray s 0 0 jN) (F0 m 0 ((lg_sl vs ++ List.replicate (n - (lg_sl vs).length) Slot.unset).toArray) [])) : jCon l y b n rt d vs r ci a v := by
  refine vx_toMet (XC := fun _ _ _ => False) (vx_ofW (ws' := aWg) hy rfl (fun p e s m args below meth c s₁ B hml ht hP => ?_)) (fun _ _ _ h => h)
  obtain ⟨rfl, hJ⟩ := hP
  have hts := atoms_spec (ws := Cond.code y b n rt :: aWg) B.pre
  have hw := body p e s m below meth c B.exec B.bytes hml (findClass_of_methodNamed B.named) (fun w hw => hts w (List.mem_cons_of_mem _ hw)) B.notSynchronized B.returns hJ
  rw [← lg_entry_eq] at hw
  exact hw
theorem j_zret {z : Int32} {ty : FieldType} {st : Array Value} (hx : p.tables.exec = Jvm.exec) (hb : c.code = cc) (hr : meth.sig.returnType = some ty) (hn : narrow ty (.int z) = .int z) (hlocks : meth.locks = false) (hdg : decode cc pc = .ok (.ireturn, 1)) : W p l e R s m st below meth c s.heap [] 0 0 (vx_MQ below (jQ (some (.int z))) (fun _ _ _ => False) st s 0 0 jN) (F0 m pc L [.int z]) :=
  vx_ret (W.zret hx hb hr hn (fun t ht _ => ⟨rfl, ht⟩) (fun q h => nomatch h) hdg hlocks)
theorem j_vret {st : Array Value} (hx : p.tables.exec = Jvm.exec) (hb : c.code = cc) (hr : meth.sig.returnType = none) (hlocks : meth.locks = false) (hdg : decode cc pc = .ok (.return_, 1)) : W p l e R s m st below meth c s.heap [] 0 0 (vx_MQ below (jQ none) (fun _ _ _ => False) st s 0 0 jN) (F0 m pc L []) :=
  vx_ret (W.vret hx hb hr (fun t ht _ => ⟨rfl, ht⟩) (fun q h => nomatch h) hdg hlocks)
end SJ1
end
section
/-! String.charAt -/
def jyIsL : MethodName := ⟨"java/lang/String", "isLatin1", "()Z"⟩
def jyChk : MethodName := ⟨"java/lang/String", "checkIndex", "(II)V"⟩
def jyPre : MethodName := ⟨"jdk/internal/util/Preconditions", "checkIndex", "(IILjava/util/function/BiFunction;)I"⟩
def jyChL : MethodName := ⟨"java/lang/StringLatin1", "charAt", "([BI)C"⟩
def jyChr : MethodName := ⟨"java/lang/String", "charAt", "(I)C"⟩
def jWs : List Cond := [.initialized "java/lang/String", .initialized "java/lang/StringLatin1", .initialized "jdk/internal/util/Preconditions",
  .code jyIsL prog_27_method_154_code 1 (some .boolean), .code jyChk prog_27_method_155_code 2 none, .code jyPre prog_39_method_11_code 3 (some .int), .code jyChL prog_29_method_2_code 2 (some .char), .code jyChr prog_27_method_56_code 2 (some .char),
  .fieldLink "java/lang/String" 38 "java/lang/String" "COMPACT_STRINGS" "Z", .fieldLink "java/lang/String" 15 "java/lang/String" "coder" "B", .fieldLink "java/lang/String" 9 "java/lang/String" "value" "[B", .fieldLink "java/lang/String" 1053 "jdk/internal/util/Preconditions" "SIOOBE_FORMATTER" "Ljava/util/function/BiFunction;",
  .methodLink "java/lang/String" 492 jyIsL, .methodLink "java/lang/String" 495 jyChL, .methodLink "java/lang/StringLatin1" 9 jyChk, .methodLink "java/lang/String" 1059 jyPre,
  .instanceMethod jyIsL, .selects "java/lang/String" jyIsL jyIsL, .instanceMethod jyChr, .selects "java/lang/String" jyChr jyChr, .static jyChL, .static jyChk, .static jyPre]
set_option maxRecDepth 100000 in
theorem jWs_ok : (jWs.all fun w => decide (w ∈ aWg)) = true := by decide +kernel
theorem jw {w : Cond} (h : w ∈ jWs) : w ∈ aWg := of_decide_eq_true (List.all_eq_true.mp jWs_ok w h)
theorem jmIsL : aMy jyIsL prog_27_method_154_code 1 (some .boolean) 0 := ⟨jw (by decide +kernel), jw (by decide +kernel), by decide, by decide, by decide +kernel, by decide⟩
theorem jmChk : aMy jyChk prog_27_method_155_code 2 none 2 := ⟨jw (by decide +kernel), jw (by decide +kernel), by decide, by decide, by decide +kernel, by decide⟩
theorem jmPre : aMy jyPre prog_39_method_11_code 3 (some .int) 3 := ⟨jw (by decide +kernel), jw (by decide +kernel), by decide, by decide, by decide +kernel, by decide⟩
theorem jmChL : aMy jyChL prog_29_method_2_code 2 (some .char) 2 := ⟨jw (by decide +kernel), jw (by decide +kernel), by decide, by decide, by decide +kernel, by decide⟩
theorem jmChr : aMy jyChr prog_27_method_56_code 2 (some .char) 1 := ⟨jw (by decide +kernel), jw (by decide +kernel), by decide, by decide, by decide +kernel, by decide⟩
theorem jl_38 : Cond.fieldLink "java/lang/String" 38 "java/lang/String" "COMPACT_STRINGS" "Z" ∈ aWg := jw (by decide +kernel)
theorem jl_15 : Cond.fieldLink "java/lang/String" 15 "java/lang/String" "coder" "B" ∈ aWg := jw (by decide +kernel)
theorem jl_9 : Cond.fieldLink "java/lang/String" 9 "java/lang/String" "value" "[B" ∈ aWg := jw (by decide +kernel)
theorem jl_1053 : Cond.fieldLink "java/lang/String" 1053 "jdk/internal/util/Preconditions" "SIOOBE_FORMATTER" "Ljava/util/function/BiFunction;" ∈ aWg := jw (by decide +kernel)
theorem jl_492 : Cond.methodLink "java/lang/String" 492 jyIsL ∈ aWg := jw (by decide +kernel)
theorem jl_495 : Cond.methodLink "java/lang/String" 495 jyChL ∈ aWg := jw (by decide +kernel)
theorem jl_L9 : Cond.methodLink "java/lang/StringLatin1" 9 jyChk ∈ aWg := jw (by decide +kernel)
theorem jl_1059 : Cond.methodLink "java/lang/String" 1059 jyPre ∈ aWg := jw (by decide +kernel)
theorem ji_IsL : Cond.instanceMethod jyIsL ∈ aWg ∧ Cond.selects jyIsL.cls jyIsL jyIsL ∈ aWg := ⟨jw (by decide +kernel), jw (by decide +kernel)⟩
theorem ji_Chr : Cond.instanceMethod jyChr ∈ aWg ∧ Cond.selects jyChr.cls jyChr jyChr ∈ aWg := ⟨jw (by decide +kernel), jw (by decide +kernel)⟩
theorem js_ChL : Cond.static jyChL ∈ aWg := jw (by decide +kernel)
theorem js_Chk : Cond.static jyChk ∈ aWg := jw (by decide +kernel)
theorem js_Pre : Cond.static jyPre ∈ aWg := jw (by decide +kernel)
theorem j_nar {x : Int32} (h0 : 0 ≤ x) (h1 : x < 128) : (x.toUInt32 % 65536).toInt32 = x := by
  have e0 : (0 : Int32).toInt = 0 := rfl
  have e1 : (128 : Int32).toInt = 128 := rfl
  rw [Int32.le_iff_toInt_le, e0] at h0
  rw [Int32.lt_iff_toInt_lt, e1] at h1
  obtain ⟨n, hn, rfl⟩ : ∃ n : Nat, n < 128 ∧ x = Int32.ofNat n := by
    refine ⟨x.toInt.toNat, by omega, Int32.toInt_inj.mp ?_⟩
    rw [Int32.toInt_ofNat_of_lt (by omega)]
    omega
  have : ∀ k : Fin 128, ((Int32.ofNat k.val).toUInt32 % 65536).toInt32 = Int32.ofNat k.val := by decide +kernel
  exact this ⟨n, hn⟩
set_option maxRecDepth 100000 in
theorem aStr_a : ((List.range 310).all fun c => ((List.range 13).all fun j => ((((aStr (90 + c)).getD j 0 &&& 255).toUInt32 % 65536).toInt32 == (aStr (90 + c)).getD j 0 && (decide (0 ≤ (aStr (90 + c)).getD j 0) && decide ((aStr (90 + c)).getD j 0 < 128)))) && decide ((aStr (90 + c)).length ≤ 13)) = true := by decide +kernel
theorem aStr_len {ci : Nat} (h : 90 ≤ ci ∧ ci < 400) : (aStr ci).length ≤ 13 := by
  have h1 := List.all_eq_true.mp aStr_a (ci - 90) (List.mem_range.mpr (by omega))
  rw [show 90 + (ci - 90) = ci by omega, Bool.and_eq_true] at h1
  exact of_decide_eq_true h1.2
theorem aStr_r {ci : Nat} (h : 90 ≤ ci ∧ ci < 400) {j : Nat} (hj : j < 13) : (((aStr ci).getD j 0 &&& 255).toUInt32 % 65536).toInt32 = (aStr ci).getD j 0 ∧ 0 ≤ (aStr ci).getD j 0 ∧ (aStr ci).getD j 0 < 128 := by
  have h1 := List.all_eq_true.mp aStr_a (ci - 90) (List.mem_range.mpr (by omega))
  rw [show 90 + (ci - 90) = ci by omega, Bool.and_eq_true] at h1
  have h2 := List.all_eq_true.mp h1.1 j (List.mem_range.mpr hj)
  rw [Bool.and_eq_true, Bool.and_eq_true] at h2
  exact ⟨eq_of_beq h2.1, of_decide_eq_true h2.2.1, of_decide_eq_true h2.2.2⟩
theorem aStr_b {ci : Nat} (hc : 90 ≤ ci ∧ ci < 400) {j : Nat} (hj : j < (aStr ci).length) : (((aStr ci).getD j 0 &&& 255).toUInt32 % 65536).toInt32 = (aStr ci).getD j 0 ∧ narrow .char (.int ((aStr ci).getD j 0)) = .int ((aStr ci).getD j 0) := by
  obtain ⟨a1, a2, a3⟩ := aStr_r hc (Nat.lt_of_lt_of_le hj (aStr_len hc))
  exact ⟨a1, congrArg Value.int (j_nar a2 a3)⟩
section SJ2
variable {l : Launch} {ci a v : Nat} {i w : Int32}
theorem j_isL : jCon l jyIsL prog_27_method_154_code 1 (some .boolean) 0 [.ref a] (some (.int 1)) ci a v := by
  refine j_of (by decide) (fun p e s m below meth c hx hb hml hown hts hlk hret hJ => ?_)
  have hS : va_S jN s.heap s.heap [] := va_S.rf
  refine va_gets hx hb hJ.1 hS hown (hts _ jl_38) (fun _ z => z) (by decide +kernel) ?_
  refine lv_if_eq hx hb (off := 14) (tgt := 17) (by decide +kernel) (by decide) (fun h => absurd h (by decide)) (fun _ => ?_)
  refine lv_aload_n hx hb (k := 0) (i := 0) (x := a) (by decide +kernel) rfl rfl ?_
  refine vk_getf hx hb (hJ.2.2.1 0 (by decide)).2.1 hS hown (hts _ jl_15) (fun _ z => z) (by decide +kernel) ?_
  refine lv_if_ne hx hb (off := 7) (tgt := 17) (by decide +kernel) (by decide) (fun h => absurd rfl h) (fun _ => ?_)
  refine lv_iconst hx hb (n := 1) (v := 1) (by decide +kernel) rfl ?_
  refine lv_goto hx hb (off := 4) (tgt := 18) (by decide +kernel) (by decide) ?_
  exact j_zret hx hb hret rfl hlk (by decide +kernel)
theorem j_preN (h0 : ¬ i < 0) (h1 : i < w) : jCon l jyPre prog_39_method_11_code 3 (some .int) 0 [.int i, .int w, .null] (some (.int i)) ci a v := by
  refine j_of (by decide) (fun p e s m below meth c hx hb hml hown hts hlk hret hJ => ?_)
  refine lv_iload_n hx hb (k := 0) (i := 0) (x := i) (by decide +kernel) rfl rfl ?_
  refine lv_if_lt hx hb (off := 8) (tgt := 9) (by decide +kernel) (by decide) (fun h => absurd h h0) (fun _ => ?_)
  refine lv_iload_n hx hb (k := 0) (i := 0) (x := i) (by decide +kernel) rfl rfl ?_
  refine lv_iload_n hx hb (k := 1) (i := 1) (x := w) (by decide +kernel) rfl rfl ?_
  refine lv_icmp_lt hx hb (off := 10) (tgt := 16) (by decide +kernel) (by decide) (fun _ => ?_) (fun h => absurd h1 h)
  refine lv_iload_n hx hb (k := 0) (i := 0) (x := i) (by decide +kernel) rfl rfl ?_
  exact j_zret hx hb hret rfl hlk (by decide +kernel)
theorem j_preR {t : Nat} (h0 : ¬ i < 0) (h1 : i < w) : jCon l jyPre prog_39_method_11_code 3 (some .int) 0 [.int i, .int w, .ref t] (some (.int i)) ci a v := by
  refine j_of (by decide) (fun p e s m below meth c hx hb hml hown hts hlk hret hJ => ?_)
  refine lv_iload_n hx hb (k := 0) (i := 0) (x := i) (by decide +kernel) rfl rfl ?_
  refine lv_if_lt hx hb (off := 8) (tgt := 9) (by decide +kernel) (by decide) (fun h => absurd h h0) (fun _ => ?_)
  refine lv_iload_n hx hb (k := 0) (i := 0) (x := i) (by decide +kernel) rfl rfl ?_
  refine lv_iload_n hx hb (k := 1) (i := 1) (x := w) (by decide +kernel) rfl rfl ?_
  refine lv_icmp_lt hx hb (off := 10) (tgt := 16) (by decide +kernel) (by decide) (fun _ => ?_) (fun h => absurd h1 h)
  refine lv_iload_n hx hb (k := 0) (i := 0) (x := i) (by decide +kernel) rfl rfl ?_
  exact j_zret hx hb hret rfl hlk (by decide +kernel)
theorem j_chk (h0 : ¬ i < 0) (h1 : i < w) : jCon l jyChk prog_27_method_155_code 2 none 1 [.int i, .int w] none ci a v := by
  refine j_of (by decide) (fun p e s m below meth c hx hb hml hown hts hlk hret hJ => ?_)
  have hS : va_S jN s.heap s.heap [] := va_S.rf
  refine lv_iload_n hx hb (k := 0) (i := 0) (x := i) (by decide +kernel) rfl rfl ?_
  refine lv_iload_n hx hb (k := 1) (i := 1) (x := w) (by decide +kernel) rfl rfl ?_
  rcases hJ.2.1 with hz | ⟨t, hz⟩
  · refine va_gets hx hb hz hS hown (hts _ jl_1053) (fun _ z => z) (by decide +kernel) ?_
    refine j_callS (vs := [.int i, .int w, .null]) (rest := []) (own := "java/lang/String") hx hb hml hown hts hJ hS (j_preN h0 h1) jmPre jl_1059 js_Pre ⟨by decide, by decide⟩ rfl rfl (by decide) ⟨by decide, by decide⟩ (by decide +kernel) ?_
    refine lv_pop hx hb (by decide +kernel) rfl ?_
    exact j_vret hx hb hret hlk (by decide +kernel)
  · refine va_gets hx hb hz hS hown (hts _ jl_1053) (fun _ z => z) (by decide +kernel) ?_
    refine j_callS (vs := [.int i, .int w, .ref t]) (rest := []) (own := "java/lang/String") hx hb hml hown hts hJ hS (j_preR h0 h1) jmPre jl_1059 js_Pre ⟨by decide, by decide⟩ rfl rfl (by decide) ⟨by decide, by decide⟩ (by decide +kernel) ?_
    refine lv_pop hx hb (by decide +kernel) rfl ?_
    exact j_vret hx hb hret hlk (by decide +kernel)
end SJ2
end
section
/-! String.charAt, joined -/
theorem j_inN {i : Int32} {n : Nat} (hn : n ≤ 13) (h : vp_in i n) : ¬ i < 0 ∧ i < Int32.ofNat n ∧ i.toNatClampNeg < n := by
  have h0 : ¬ i < 0 := fun q => h (Or.inl q)
  have h1 : i.toNatClampNeg < n := Nat.not_le.mp fun q => h (Or.inr q)
  refine ⟨h0, ?_, h1⟩
  rw [Int32.lt_iff_toInt_lt, Int32.toInt_ofNat_of_lt (by omega)]
  have e : i.toNatClampNeg = i.toInt.toNat := rfl
  omega
section SJ3
variable {l : Launch} {ci a v : Nat} {i w : Int32}
theorem j_chL (hc : 90 ≤ ci ∧ ci < 400) (hi : vp_in i (aStr ci).length) : jCon l jyChL prog_29_method_2_code 2 (some .char) 2 [.ref v, .int i] (some (.int ((aStr ci).getD i.toNatClampNeg 0))) ci a v := by
  obtain ⟨h0, h1, h2⟩ := j_inN (aStr_len hc) hi
  obtain ⟨b1, b2⟩ := aStr_b hc h2
  refine j_of (by decide) (fun p e s m below meth c hx hb hml hown hts hlk hret hJ => ?_)
  have hS : va_S jN s.heap s.heap [] := va_S.rf
  have hT : va_T .byte v (aStr ci).length (fun j => .int ((aStr ci).getD j 0)) jN s s.heap := (hJ.2.2.1 0 (by decide)).2.2.2
  refine lv_iload_n hx hb (k := 1) (i := 1) (x := i) (by decide +kernel) rfl rfl ?_
  refine lv_aload_n hx hb (k := 0) (i := 0) (x := v) (by decide +kernel) rfl rfl ?_
  refine va_tlen hx hb hT hS (v := Int32.ofNat (aStr ci).length) rfl (by decide +kernel) ?_
  refine j_callS (vs := [.int i, .int (Int32.ofNat (aStr ci).length)]) (rest := []) (own := "java/lang/StringLatin1") hx hb hml hown hts hJ hS (j_chk h0 h1) jmChk jl_L9 js_Chk ⟨by decide, by decide⟩ rfl rfl (by decide) ⟨by decide, by decide⟩ (by decide +kernel) ?_
  refine lv_aload_n hx hb (k := 0) (i := 0) (x := v) (by decide +kernel) rfl rfl ?_
  refine lv_iload_n hx hb (k := 1) (i := 1) (x := i) (by decide +kernel) rfl rfl ?_
  refine va_tb hx hb hT hS hi rfl (by decide +kernel) ?_
  refine lv_sipush hx hb (n := 255) (v := 255) (by decide +kernel) (by decide) ?_
  refine lv_iand hx hb (by decide +kernel) ?_
  refine lv_i2c hx hb (by decide +kernel) b1 ?_
  exact j_zret hx hb hret b2 hlk (by decide +kernel)
theorem j_chr (hc : 90 ≤ ci ∧ ci < 400) (hi : vp_in i (aStr ci).length) : jCon l jyChr prog_27_method_56_code 2 (some .char) 3 [.ref a, .int i] (some (.int ((aStr ci).getD i.toNatClampNeg 0))) ci a v := by
  obtain ⟨h0, h1, h2⟩ := j_inN (aStr_len hc) hi
  obtain ⟨b1, b2⟩ := aStr_b hc h2
  refine j_of (by decide) (fun p e s m below meth c hx hb hml hown hts hlk hret hJ => ?_)
  have hS : va_S jN s.heap s.heap [] := va_S.rf
  refine lv_aload_n hx hb (k := 0) (i := 0) (x := a) (by decide +kernel) rfl rfl ?_
  refine j_callV (vs := []) (rest := []) (own := "java/lang/String") hx hb hml hown hts hJ hS j_isL rfl jmIsL jl_492 ji_IsL.1 ji_IsL.2 ⟨by decide, by decide⟩ rfl rfl (by decide) ⟨by decide, by decide⟩ (by decide +kernel) ?_
  refine lv_if_eq hx hb (x := 1) (off := 12) (tgt := 16) (by decide +kernel) (by decide) (fun h => absurd h (by decide)) (fun _ => ?_)
  refine lv_aload_n hx hb (k := 0) (i := 0) (x := a) (by decide +kernel) rfl rfl ?_
  refine vk_getf hx hb (hJ.2.2.1 0 (by decide)).2.2.1 hS hown (hts _ jl_9) (fun _ z => z) (by decide +kernel) ?_
  refine lv_iload_n hx hb (k := 1) (i := 1) (x := i) (by decide +kernel) rfl rfl ?_
  refine j_callS (vs := [.ref v, .int i]) (rest := []) (own := "java/lang/String") hx hb hml hown hts hJ hS (j_chL hc hi) jmChL jl_495 js_ChL ⟨by decide, by decide⟩ rfl rfl (by decide) ⟨by decide, by decide⟩ (by decide +kernel) ?_
  exact j_zret hx hb hret b2 hlk (by decide +kernel)
end SJ3
end
section
/-! String.length -/
def jyCod : MethodName := ⟨"java/lang/String", "coder", "()B"⟩
def jyLen : MethodName := ⟨"java/lang/String", "length", "()I"⟩
def jVs : List Cond := [.code jyCod prog_27_method_152_code 1 (some .byte), .code jyLen prog_27_method_54_code 1 (some .int),
  .methodLink "java/lang/String" 335 jyCod, .instanceMethod jyCod, .selects "java/lang/String" jyCod jyCod, .instanceMethod jyLen, .selects "java/lang/String" jyLen jyLen, .initialized "java/lang/String"]
set_option maxRecDepth 100000 in
theorem jVs_ok : (jVs.all fun w => decide (w ∈ aWg)) = true := by decide +kernel
theorem jv {w : Cond} (h : w ∈ jVs) : w ∈ aWg := of_decide_eq_true (List.all_eq_true.mp jVs_ok w h)
theorem jmCod : aMy jyCod prog_27_method_152_code 1 (some .byte) 0 := ⟨jv (by decide +kernel), jv (by decide +kernel), by decide, by decide, by decide +kernel, by decide⟩
theorem jmLen : aMy jyLen prog_27_method_54_code 1 (some .int) 0 := ⟨jv (by decide +kernel), jv (by decide +kernel), by decide, by decide, by decide +kernel, by decide⟩
theorem jl_335 : Cond.methodLink "java/lang/String" 335 jyCod ∈ aWg := jv (by decide +kernel)
theorem ji_Cod : Cond.instanceMethod jyCod ∈ aWg ∧ Cond.selects jyCod.cls jyCod jyCod ∈ aWg := ⟨jv (by decide +kernel), jv (by decide +kernel)⟩
theorem ji_Len : Cond.instanceMethod jyLen ∈ aWg ∧ Cond.selects jyLen.cls jyLen jyLen ∈ aWg := ⟨jv (by decide +kernel), jv (by decide +kernel)⟩
section SJ4
variable {l : Launch} {ci a v : Nat} {x : Int32}
theorem j_cod : jCon l jyCod prog_27_method_152_code 1 (some .byte) 0 [.ref a] (some (.int 0)) ci a v := by
  refine j_of (by decide) (fun p e s m below meth c hx hb hml hown hts hlk hret hJ => ?_)
  have hS : va_S jN s.heap s.heap [] := va_S.rf
  refine va_gets hx hb hJ.1 hS hown (hts _ jl_38) (fun _ z => z) (by decide +kernel) ?_
  refine lv_if_eq hx hb (off := 10) (tgt := 13) (by decide +kernel) (by decide) (fun h => absurd h (by decide)) (fun _ => ?_)
  refine lv_aload_n hx hb (k := 0) (i := 0) (x := a) (by decide +kernel) rfl rfl ?_
  refine vk_getf hx hb (hJ.2.2.1 0 (by decide)).2.1 hS hown (hts _ jl_15) (fun _ z => z) (by decide +kernel) ?_
  refine lv_goto hx hb (off := 4) (tgt := 14) (by decide +kernel) (by decide) ?_
  exact j_zret hx hb hret rfl hlk (by decide +kernel)
theorem j_len : jCon l jyLen prog_27_method_54_code 1 (some .int) 1 [.ref a] (some (.int (Int32.ofNat (aStr ci).length))) ci a v := by
  refine j_of (by decide) (fun p e s m below meth c hx hb hml hown hts hlk hret hJ => ?_)
  have hS : va_S jN s.heap s.heap [] := va_S.rf
  have hT : va_T .byte v (aStr ci).length (fun j => .int ((aStr ci).getD j 0)) jN s s.heap := (hJ.2.2.1 0 (by decide)).2.2.2
  refine lv_aload_n hx hb (k := 0) (i := 0) (x := a) (by decide +kernel) rfl rfl ?_
  refine vk_getf hx hb (hJ.2.2.1 0 (by decide)).2.2.1 hS hown (hts _ jl_9) (fun _ z => z) (by decide +kernel) ?_
  refine va_tlen hx hb hT hS (v := Int32.ofNat (aStr ci).length) rfl (by decide +kernel) ?_
  refine lv_aload_n hx hb (k := 0) (i := 0) (x := a) (by decide +kernel) rfl rfl ?_
  refine j_callV (vs := []) (rest := [.int (Int32.ofNat (aStr ci).length)]) (own := "java/lang/String") hx hb hml hown hts hJ hS j_cod rfl jmCod jl_335 ji_Cod.1 ji_Cod.2 ⟨by decide, by decide⟩ rfl rfl (by show 1 ≤ 8; decide) ⟨by decide, by decide⟩ (by decide +kernel) ?_
  refine lv_ishr hx hb (by decide +kernel) ?_
  have e9 : (Int32.ofNat (aStr ci).length) >>> ((0 : Int32) &&& 31) = Int32.ofNat (aStr ci).length := by
    rw [show (0 : Int32) &&& 31 = 0 from by decide]
    exact Int32.shiftRight_zero
  rw [e9]
  exact j_zret hx hb hret rfl hlk (by decide +kernel)
end SJ4
end
section
/-! ONE STEP IS SOUND: all instructions -/
theorem aP1_ex {st : List Value} {f : Int32 → List Value → Option (aS ⊕ aR)} {z : aS ⊕ aR} (h : aP1 st f = some z) : ∃ x r, st = .int x :: r ∧ f x r = some z := by
  unfold aP1 at h
  split at h
  · exact ⟨_, _, rfl, h⟩
  · cases h
theorem aP2_ex {st : List Value} {f : Int32 → Int32 → List Value → Option (aS ⊕ aR)} {z : aS ⊕ aR} (h : aP2 st f = some z) : ∃ x y r, st = .int y :: .int x :: r ∧ f x y r = some z := by
  unfold aP2 at h
  split at h
  · exact ⟨_, _, _, rfl, h⟩
  · cases h
theorem aPr_ex {st : List Value} {f : Nat → List Value → Option (aS ⊕ aR)} {z : aS ⊕ aR} (h : aPr st f = some z) : ∃ x r, st = .ref x :: r ∧ f x r = some z := by
  unfold aPr at h
  split at h
  · exact ⟨_, _, rfl, h⟩
  · cases h
theorem aPir_ex {st : List Value} {f : Int32 → Nat → List Value → Option (aS ⊕ aR)} {z : aS ⊕ aR} (h : aPir st f = some z) : ∃ i q r, st = .int i :: .ref q :: r ∧ f i q r = some z := by
  unfold aPir at h
  split at h
  · exact ⟨_, _, _, rfl, h⟩
  · cases h
theorem aPvir_ex {st : List Value} {f : Value → Int32 → Nat → List Value → Option (aS ⊕ aR)} {z : aS ⊕ aR} (h : aPvir st f = some z) : ∃ x i q r, st = x :: .int i :: .ref q :: r ∧ f x i q r = some z := by
  unfold aPvir at h
  split at h
  · exact ⟨_, _, _, _, rfl, h⟩
  · cases h
theorem aOb_ex {h : aH} {q : Nat} {f : Bool → Nat → List Value → Option (aS ⊕ aR)} {z : aS ⊕ aR} (g : aOb h q f = some z) : ∃ w ci fs, h[q]? = some (w, .inr (ci, fs)) ∧ f w ci fs = some z := by
  unfold aOb at g
  split at g
  · rename_i hq
    exact ⟨_, _, _, hq, g⟩
  · cases g
theorem aAr_ex {h : aH} {q : Nat} {f : Bool → FieldType → vp_A → Option (aS ⊕ aR)} {z : aS ⊕ aR} (g : aAr h q f = some z) : ∃ w ty x, h[q]? = some (w, .inl (ty, x)) ∧ f w ty x = some z := by
  unfold aAr at g
  split at g
  · rename_i hq
    exact ⟨_, _, _, hq, g⟩
  · cases g
theorem aAt_ex {i : Int32} {n : Nat} {f : Nat → Option (aS ⊕ aR)} {z : aS ⊕ aR} (g : aAt i n f = some z) : ∃ j, aIx i n = some j ∧ f j = some z := by
  unfold aAt at g
  split at g
  · rename_i hq
    exact ⟨_, hq, g⟩
  · cases g
theorem aTk_in {ty : FieldType} (h : aTk ty = true) : ty ∈ aTys := by
  unfold aTk at h
  split at h
  · simp
  · simp
  · simp
  · rename_i n
    rw [eq_of_beq h]
    simp
  · simp
  · cases h
section STA
variable {p : Program} {l : Launch} {e : Env} {R : Room} {s : State} {m : MethodId} {args : Array Value} {below : List Frame} {meth : Method} {c : Code} {D : va_G} {ka : FieldType → ClassId} {sg : Nat → Nat} {A : Nat → Prop} {nL o d : Nat} {cc : ByteArray} {al ini : Bool} {call : aF} {hd : aD} {cd : List aI} {rt : Option FieldType} {hh : List (Nat × Nat × Nat × Nat)}
variable {pc : Nat} {ls : List (Option Value)} {st r : List Value} {h : aH} {k : aK} {x y : Int32} {z : aS ⊕ aR}
theorem a_str {H : Heap} {q ci : Nat} {w : Bool} {fs : List Value} (h1 : aRel D ka sg A s h H) (hq : h[q]? = some (w, .inr (ci, fs))) (hc : 90 ≤ ci) : ∃ v, jStr ci (sg q) v A s H := by
  have h2 := h1.1 q _ hq
  cases w with
  | false => exact h2 hc
  | true =>
    obtain ⟨-, r, hr, -⟩ := h2
    have := (aCl_ok ci r hr).2.2.2
    omega
theorem g_text (B : aBd p l R s m args meth c D ka sg A nL o d cc al ini call hd cd rt hh) {idx a : Nat} (hdg : decode cc pc = .ok (.invokevirtual idx, 3)) (ha : (a = 503 ∧ aL4 o idx 10 503 = true) ∨ (a = 505 ∧ aL4 o idx 11 505 = true)) (hz : aText a pc ls st h k = some z) : aGl p l e R s m args below meth c D ka sg A nL al (pc, ls, st, h, k) z := by
  have C := B.1
  rcases ha with ⟨rfl, hL⟩ | ⟨rfl, hL⟩
  · obtain ⟨p9, hp⟩ := aL4_ok hL
    obtain ⟨i, q, r, he, hz1⟩ := aPir_ex hz
    clear hz
    subst he
    have hz := hz1
    clear hz1
    split at hz
    · rename_i hs
      obtain ⟨w, ci, fs, hq, hz1⟩ := aOb_ex hz
      clear hz
      have hz := hz1
      clear hz1
      split at hz
      · rename_i hc
        obtain ⟨j, hj, hz1⟩ := aAt_ex hz
        have hin : vp_in i (aStr ci).length ∧ j = i.toNatClampNeg := by
          unfold aIx at hj
          split at hj
          · cases hj
          · rename_i hn
            cases hj
            exact ⟨hn, rfl⟩
        obtain ⟨hin, rfl⟩ := hin
        refine aGl.go hz1 ⟨Nat.le_refl _, Nat.le_refl _⟩ (fun g1 g2 Q K H locs L h1 h2 h3 h4 => ?_)
        obtain ⟨v, hv⟩ := a_str h1 hq hc.1
        exact j_callV (vs := [.int i]) (rest := r.map (aCv sg)) C.1 C.2.1 C.2.2.1 C.2.2.2.1 C.2.2.2.2.1 hv h2 (j_chr hc hin) rfl jmChr (aIs_in hp) ji_Chr.1 ji_Chr.2 ⟨by have := B.2.1.1; omega, by have := B.2.1.2; omega⟩ rfl h3.1 (by rw [a_sum]; exact hs) ⟨g1, g2⟩ hdg (K H locs L h1 h2 h3 h4)
      · cases hz
    · cases hz
  · obtain ⟨p9, hp⟩ := aL4_ok hL
    obtain ⟨q, r, he, hz1⟩ := aPr_ex hz
    clear hz
    subst he
    have hz := hz1
    clear hz1
    split at hz
    · rename_i hs
      obtain ⟨w, ci, fs, hq, hz1⟩ := aOb_ex hz
      clear hz
      have hz := hz1
      clear hz1
      split at hz
      · rename_i hc
        refine aGl.go hz ⟨Nat.le_refl _, Nat.le_refl _⟩ (fun g1 g2 Q K H locs L h1 h2 h3 h4 => ?_)
        obtain ⟨v, hv⟩ := a_str h1 hq hc.1
        exact j_callV (vs := []) (rest := r.map (aCv sg)) C.1 C.2.1 C.2.2.1 C.2.2.2.1 C.2.2.2.2.1 hv h2 j_len rfl jmLen (aIs_in hp) ji_Len.1 ji_Len.2 ⟨by have := B.2.1.1; omega, by have := B.2.1.2; omega⟩ rfl h3.1 (by rw [a_sum]; exact hs) ⟨g1, g2⟩ hdg (K H locs L h1 h2 h3 h4)
      · cases hz
    · cases hz
theorem e_thrown3 (B : aBd p l R s m args meth c D ka sg A nL o d cc al ini call hd cd rt hh) {idx b : Nat} {v : Int32} (h7 : o = 7) (hal : al = false) (h0 : hd = []) (hs : aSum st ≤ 8) (hN : aN3 o idx 103 = true) (hT : aThw cc pc 103 b v = true) (hdg : decode cc pc = .ok (.new idx, 3)) (hc : k.1 + 1 ≤ R.cells) (hsl : k.2 + 6 ≤ R.slots) : aSim p l e R s m args below meth c (aEq below D ka sg A al args s (.inr 3, h, (k.1 + 1, k.2 + 6))) D ka sg A nL al (pc, ls, st, h, k) := by
  obtain ⟨-, -, n1, n2⟩ := aN3_ex hN (by decide)
  have C := B.1
  subst h7
  unfold aThw at hT
  simp only [Bool.and_eq_true] at hT
  obtain ⟨-, t2, t3, t4⟩ := hT
  obtain ⟨⟨i9, tx⟩, hq1, hq2⟩ := List.any_eq_true.mp t2
  obtain rfl : i9 = b := eq_of_beq hq2
  by_cases hv : v = 0
  · rw [if_pos hv] at t4
    simp only [Bool.and_eq_true] at t4
    exact e_throw3 (n := 2) C hal n1 n2 hq1 (by have := B.2.1.1; omega) (by have := B.2.1.2; omega) hc hsl hs B.2.2.2.2.1 (B.out h0) hdg (aD1 t3 rfl) (Or.inl ⟨rfl, aD2 t4.1 rfl⟩) (aD3 t4.2.1 rfl) (aD1 t4.2.2 rfl)
  · rw [if_neg hv] at t4
    simp only [Bool.and_eq_true] at t4
    exact e_throw3 (n := 3) C hal n1 n2 hq1 (by have := B.2.1.1; omega) (by have := B.2.1.2; omega) hc hsl hs B.2.2.2.2.1 (B.out h0) hdg (aD1 t3 rfl) (Or.inr ⟨rfl, aD3 t4.1 rfl⟩) (aD3 t4.2.1 rfl) (aD1 t4.2.2 rfl)
theorem g_thrown (B : aBd p l R s m args meth c D ka sg A nL o d cc al ini call hd cd rt hh) {idx a b : Nat} {v : Int32} (h7 : o = 7) (ha : 100 ≤ a) (hal : al = false) (h0 : hd = []) (hs : aSum st ≤ 8) (hN : aN3 o idx a = true) (hT : aThw cc pc a b v = true) (hdg : decode cc pc = .ok (.new idx, 3)) : aGl p l e R s m args below meth c D ka sg A nL al (pc, ls, st, h, k) (.inr (.inr (a - 100), h, (k.1 + 1, k.2 + 6))) := by
  refine ⟨⟨Nat.le_add_right _ _, Nat.le_add_right _ _⟩, fun g1 g2 => ?_⟩
  by_cases h3 : a = 103
  · subst h3
    exact e_thrown3 B h7 hal h0 hs hN hT hdg g1 g2
  obtain ⟨-, a6, n1, n2⟩ := aN3_ex hN ha
  have C := B.1
  subst h7
  unfold aThw at hT
  simp only [Bool.and_eq_true] at hT
  obtain ⟨-, t2, t3, t4⟩ := hT
  obtain ⟨⟨i9, tx⟩, hq1, hq2⟩ := List.any_eq_true.mp t2
  obtain rfl : i9 = b := eq_of_beq hq2
  by_cases hv : v = 0
  · rw [if_pos hv] at t4
    simp only [Bool.and_eq_true] at t4
    exact e_throwS C (by omega) (by omega) hal n1 n2 hq1 (by have := B.2.1.1; omega) (by have := B.2.1.2; omega) g1 g2 hs B.2.2.2.2.1 (B.out h0) hdg (aD1 t3 rfl) (aD2 t4.1 rfl) (aD3 t4.2.1 rfl) (aD1 t4.2.2 rfl)
  · rw [if_neg hv] at t4
    simp only [Bool.and_eq_true] at t4
    exact e_throwSW C (by omega) (by omega) hal n1 n2 hq1 (by have := B.2.1.1; omega) (by have := B.2.1.2; omega) g1 g2 hs B.2.2.2.2.1 (B.out h0) hdg (aD1 t3 rfl) (aD3 t4.1 rfl) (aD3 t4.2.1 rfl) (aD1 t4.2.2 rfl)
theorem aWp (i : Nat) (w : Cond) (h : aIs (aWpos.getD i 0) w = true) : w ∈ aWg := aIs_in h
theorem g_nat (B : aBd p l R s m args meth c D ka sg A nL o d cc al ini call hd cd rt hh) {idx a : Nat} (hdg : decode cc pc = .ok (.invokestatic idx, 3)) (ha : (a = 500 ∧ aL4 o idx 6 500 = true) ∨ ((a = 501 ∧ aL4 o idx 7 501 = true) ∨ (a = 502 ∧ aL4 o idx 8 502 = true))) (hz : aNat a pc ls st h k = some z) : aGl p l e R s m args below meth c D ka sg A nL al (pc, ls, st, h, k) z := by
  have C := B.1
  obtain ⟨w0, w1, w2, w3, w4, w5, w6, w7, -⟩ := aWpos_ok
  have hf : 1 ≤ R.frames := by have := B.2.1.1; omega
  have hlo : 100 ≤ R.locals := by have := B.2.1.2; omega
  rcases ha with ⟨rfl, hL⟩ | ⟨rfl, hL⟩ | ⟨rfl, hL⟩
  · obtain ⟨p9, hp⟩ := aL4_ok hL
    obtain ⟨x, y, r, he0, hz1⟩ := aP2_ex hz
    clear hz
    subst he0
    have hz := hz1
    split at hz
    · rename_i hs
      exact aGl.go hz ⟨Nat.le_refl _, Nat.le_refl _⟩ (fun g1 g2 Q K => s_max C (aIs_in hp) (aIs_in w0) (aIs_in w4) (aIs_in w1) hf hlo hs g1 g2 hdg K)
    · cases hz
  · obtain ⟨p9, hp⟩ := aL4_ok hL
    obtain ⟨x, y, r, he0, hz1⟩ := aP2_ex hz
    clear hz
    subst he0
    have hz := hz1
    split at hz
    · rename_i hs
      exact aGl.go hz ⟨Nat.le_refl _, Nat.le_refl _⟩ (fun g1 g2 Q K => s_min C (aIs_in hp) (aIs_in w2) (aIs_in w4) (aIs_in w3) hf hlo hs g1 g2 hdg K)
    · cases hz
  · obtain ⟨p9, hp⟩ := aL4_ok hL
    have hz1 : (match (generalizing := false) st with
      | .int n :: .int dp :: .ref d :: .int sp :: .ref q :: r =>
        if n < 0 ∨ dp < 0 ∨ sp < 0 ∨ 8 < aSum r then none else
        aAr h q fun w0 ty0 x0 => aAr h d fun w1 ty1 x1 => match x0.2, x1.2 with
          | .inl f, .inl g => if w0 = true ∧ w1 = true ∧ ty0 = .int ∧ ty1 = .int ∧ sp.toNatClampNeg + n.toNatClampNeg ≤ x0.1 ∧ dp.toNatClampNeg + n.toNatClampNeg ≤ x1.1 then
              aGo (pc + 3) ls r (h.set d (true, .inl (.int, x1.1, .inl (va_cpy f g sp.toNatClampNeg dp.toNatClampNeg n.toNatClampNeg)))) k else none
          | _, _ => none
      | _ => none) = some z := hz
    clear hz
    have hz := hz1
    clear hz1
    split at hz
    · split at hz
      · cases hz
      rename_i hn
      simp only [not_or, Nat.not_lt] at hn
      obtain ⟨n1, n2, n3, n4⟩ := hn
      obtain ⟨wq, ty0, x0, q1, hz⟩ := aAr_ex hz
      obtain ⟨wd, ty1, x1, q2, hz⟩ := aAr_ex hz
      split at hz
      · rename_i f g f1 f2
        split at hz
        · rename_i hc
          obtain ⟨rfl, rfl, rfl, rfl, c1, c2⟩ := hc
          obtain ⟨n0, x0⟩ := x0
          obtain ⟨m0, x1⟩ := x1
          dsimp only at f1 f2 c1 c2
          subst f1
          subst f2
          exact aGl.go hz ⟨Nat.le_refl _, Nat.le_refl _⟩ (fun g1 g2 Q K => s_copy C (aIs_in hp) (aIs_in w5) (aIs_in w6) (aIs_in w7) hf hlo n4 q1 q2 n3 n2 n1 c1 c2 hdg K)
        · cases hz
      · cases hz
    · cases hz
theorem g_step (B : aBd p l R s m args meth c D ka sg A nL o d cc al ini call hd cd rt hh) {i : Instr} {a b : Nat} {v : Int32} (hok : aOkI o ini cc pc i a b v = true) (hz : aEx call aCls hd cd rt al i a b v pc ls st h k = some z) : aGl p l e R s m args below meth c D ka sg A nL al (pc, ls, st, h, k) z := by
  have C := B.1
  have hf7 := B.2.1.1
  have hl7 := B.2.1.2
  cases i with
  | iconst n =>
    obtain ⟨h1, h2⟩ := (Bool.and_eq_true _ _).mp hok
    exact aGl.go hz ⟨Nat.le_refl _, Nat.le_refl _⟩ (fun g1 g2 Q K => s_iconst C (of_decide_eq_true h2) (aD1 h1 rfl) K)
  | bipush n =>
    obtain ⟨h1, h2⟩ := (Bool.and_eq_true _ _).mp hok
    exact aGl.go hz ⟨Nat.le_refl _, Nat.le_refl _⟩ (fun g1 g2 Q K => s_bipush C (of_decide_eq_true h2) (aD2 h1 rfl) K)
  | sipush n =>
    obtain ⟨h1, h2⟩ := (Bool.and_eq_true _ _).mp hok
    exact aGl.go hz ⟨Nat.le_refl _, Nat.le_refl _⟩ (fun g1 g2 Q K => s_sipush C (of_decide_eq_true h2) (aD3 h1 rfl) K)
  | ldc idx =>
    obtain ⟨h1, h2⟩ := (Bool.and_eq_true _ _).mp hok
    simp only [Bool.and_eq_true, Bool.or_eq_true, beq_iff_eq, bne_iff_ne, ne_eq] at h2
    unfold aEx at hz
    dsimp only at hz
    rcases h2 with ⟨rfl, h2⟩ | ⟨hb9, rfl, rfl, rfl⟩
    · rw [if_pos rfl] at hz
      exact aGl.go hz ⟨Nat.le_refl _, Nat.le_refl _⟩ (fun g1 g2 Q K => s_ldci C (aI4t_ok h2) (aD2 h1 rfl) K)
    · split at hz
      · rename_i hb1
        exact absurd hb1 hb9
      · split at hz
        · split at hz
          · exact aGl.go hz ⟨Nat.le_refl _, Nat.le_refl _⟩ (fun g1 g2 Q K => s_ldc C C.2.2.2.2.2.1.1.2.2.2.2.2.1 (aD2 h1 rfl) K)
          · cases hz
        · cases hz
  | ldc2_w idx =>
    obtain ⟨h1, h2⟩ := (Bool.and_eq_true _ _).mp hok
    exact aGl.go hz ⟨Nat.le_refl _, Nat.le_refl _⟩ (fun g1 g2 Q K => s_ldc2 C (aJ4t_ok h2) (aD3 h1 rfl) K)
  | lload_n n =>
    unfold aEx at hz
    dsimp only at hz
    split at hz
    · rename_i hl
      exact aGl.go hz ⟨Nat.le_refl _, Nat.le_refl _⟩ (fun g1 g2 Q K => s_lload_n C hl (aD1 hok rfl) K)
    · cases hz
  | lstore_n n =>
    unfold aEx at hz
    dsimp only at hz
    split at hz
    · split at hz
      · rename_i hm
        exact aGl.go hz ⟨Nat.le_refl _, Nat.le_refl _⟩ (fun g1 g2 Q K => s_lstore_n C hm.1 hm.2 (aD1 hok rfl) K)
      · cases hz
    · cases hz
  | ladd =>
    unfold aEx at hz
    dsimp only at hz
    split at hz
    · exact aGl.go hz ⟨Nat.le_refl _, Nat.le_refl _⟩ (fun g1 g2 Q K => s_ladd C (aD1 hok rfl) K)
    · cases hz
  | lmul =>
    unfold aEx at hz
    dsimp only at hz
    split at hz
    · exact aGl.go hz ⟨Nat.le_refl _, Nat.le_refl _⟩ (fun g1 g2 Q K => s_lmul C (aD1 hok rfl) K)
    · cases hz
  | iushr =>
    obtain ⟨x, y, r, he0, hz1⟩ := aP2_ex hz
    clear hz
    subst he0
    have hz := hz1
    exact aGl.go hz ⟨Nat.le_refl _, Nat.le_refl _⟩ (fun g1 g2 Q K => s_iushr C (aD1 hok rfl) K)
  | ifnull off =>
    obtain ⟨q, r, he0, hz1⟩ := aPr_ex hz
    clear hz
    subst he0
    have hz := hz1
    exact aGl.go hz ⟨Nat.le_refl _, Nat.le_refl _⟩ (fun g1 g2 Q K => s_ifnull C (aD3 hok rfl) K)
  | iload_n n =>
    unfold aEx at hz
    dsimp only at hz
    split at hz
    · rename_i hl
      exact aGl.go hz ⟨Nat.le_refl _, Nat.le_refl _⟩ (fun g1 g2 Q K => s_iload_n C hl (aD1 hok rfl) K)
    · cases hz
  | iload n =>
    unfold aEx at hz
    dsimp only at hz
    split at hz
    · rename_i hl
      exact aGl.go hz ⟨Nat.le_refl _, Nat.le_refl _⟩ (fun g1 g2 Q K => s_iload C hl (aD2 hok rfl) K)
    · cases hz
  | aload_n n =>
    unfold aEx at hz
    dsimp only at hz
    split at hz
    · rename_i hl
      exact aGl.go hz ⟨Nat.le_refl _, Nat.le_refl _⟩ (fun g1 g2 Q K => s_aload_n C hl (aD1 hok rfl) K)
    · cases hz
  | aload n =>
    unfold aEx at hz
    dsimp only at hz
    split at hz
    · rename_i hl
      exact aGl.go hz ⟨Nat.le_refl _, Nat.le_refl _⟩ (fun g1 g2 Q K => s_aload C hl (aD2 hok rfl) K)
    · cases hz
  | fload n =>
    unfold aEx at hz
    dsimp only at hz
    split at hz
    · rename_i hl
      exact aGl.go hz ⟨Nat.le_refl _, Nat.le_refl _⟩ (fun g1 g2 Q K => s_fload C hl (aD2 hok rfl) K)
    · cases hz
  | dload n =>
    unfold aEx at hz
    dsimp only at hz
    split at hz
    · rename_i hl
      exact aGl.go hz ⟨Nat.le_refl _, Nat.le_refl _⟩ (fun g1 g2 Q K => s_dload C hl (aD2 hok rfl) K)
    · cases hz
  | istore_n n =>
    obtain ⟨x, r, he0, hz1⟩ := aP1_ex hz
    clear hz
    subst he0
    have hz := hz1
    split at hz
    · rename_i hm
      exact aGl.go hz ⟨Nat.le_refl _, Nat.le_refl _⟩ (fun g1 g2 Q K => s_istore_n C hm (aD1 hok rfl) K)
    · cases hz
  | istore n =>
    obtain ⟨x, r, he0, hz1⟩ := aP1_ex hz
    clear hz
    subst he0
    have hz := hz1
    split at hz
    · rename_i hm
      exact aGl.go hz ⟨Nat.le_refl _, Nat.le_refl _⟩ (fun g1 g2 Q K => s_istore C hm (aD2 hok rfl) K)
    · cases hz
  | astore_n n =>
    obtain ⟨x, r, he0, hz1⟩ := aPr_ex hz
    clear hz
    subst he0
    have hz := hz1
    split at hz
    · rename_i hm
      exact aGl.go hz ⟨Nat.le_refl _, Nat.le_refl _⟩ (fun g1 g2 Q K => s_astore_n C hm (aD1 hok rfl) K)
    · cases hz
  | astore n =>
    obtain ⟨x, r, he0, hz1⟩ := aPr_ex hz
    clear hz
    subst he0
    have hz := hz1
    split at hz
    · rename_i hm
      exact aGl.go hz ⟨Nat.le_refl _, Nat.le_refl _⟩ (fun g1 g2 Q K => s_astore C hm (aD2 hok rfl) K)
    · cases hz
  | fstore n =>
    unfold aEx at hz
    dsimp only at hz
    split at hz
    · split at hz
      · rename_i hm
        exact aGl.go hz ⟨Nat.le_refl _, Nat.le_refl _⟩ (fun g1 g2 Q K => s_fstore C hm (aD2 hok rfl) K)
      · cases hz
    · cases hz
  | dstore n =>
    unfold aEx at hz
    dsimp only at hz
    split at hz
    · split at hz
      · rename_i hm
        exact aGl.go hz ⟨Nat.le_refl _, Nat.le_refl _⟩ (fun g1 g2 Q K => s_dstore C hm.1 hm.2 (aD2 hok rfl) K)
      · cases hz
    · cases hz
  | iinc n w =>
    obtain ⟨h1, h2⟩ := (Bool.and_eq_true _ _).mp hok
    unfold aEx at hz
    dsimp only at hz
    split at hz
    · rename_i hl
      split at hz
      · rename_i hm
        exact aGl.go hz ⟨Nat.le_refl _, Nat.le_refl _⟩ (fun g1 g2 Q K => s_iinc C (of_decide_eq_true h2) hl hm (aD3 h1 rfl) K)
      · cases hz
    · cases hz
  | iadd =>
    obtain ⟨x, y, r, he0, hz1⟩ := aP2_ex hz
    clear hz
    subst he0
    have hz := hz1
    exact aGl.go hz ⟨Nat.le_refl _, Nat.le_refl _⟩ (fun g1 g2 Q K => s_iadd C (aD1 hok rfl) K)
  | isub =>
    obtain ⟨x, y, r, he0, hz1⟩ := aP2_ex hz
    clear hz
    subst he0
    have hz := hz1
    exact aGl.go hz ⟨Nat.le_refl _, Nat.le_refl _⟩ (fun g1 g2 Q K => s_isub C (aD1 hok rfl) K)
  | imul =>
    obtain ⟨x, y, r, he0, hz1⟩ := aP2_ex hz
    clear hz
    subst he0
    have hz := hz1
    exact aGl.go hz ⟨Nat.le_refl _, Nat.le_refl _⟩ (fun g1 g2 Q K => s_imul C (aD1 hok rfl) K)
  | iand =>
    obtain ⟨x, y, r, he0, hz1⟩ := aP2_ex hz
    clear hz
    subst he0
    have hz := hz1
    exact aGl.go hz ⟨Nat.le_refl _, Nat.le_refl _⟩ (fun g1 g2 Q K => s_iand C (aD1 hok rfl) K)
  | idiv =>
    obtain ⟨x, y, r, he0, hz1⟩ := aP2_ex hz
    clear hz
    subst he0
    have hz := hz1
    split at hz
    · cases hz
    · rename_i hn
      exact aGl.go hz ⟨Nat.le_refl _, Nat.le_refl _⟩ (fun g1 g2 Q K => s_idiv C hn (aD1 hok rfl) K)
  | irem =>
    obtain ⟨x, y, r, he0, hz1⟩ := aP2_ex hz
    clear hz
    subst he0
    have hz := hz1
    split at hz
    · cases hz
    · rename_i hn
      exact aGl.go hz ⟨Nat.le_refl _, Nat.le_refl _⟩ (fun g1 g2 Q K => s_irem C hn (aD1 hok rfl) K)
  | i2l =>
    obtain ⟨x, r, he0, hz1⟩ := aP1_ex hz
    clear hz
    subst he0
    have hz := hz1
    exact aGl.go hz ⟨Nat.le_refl _, Nat.le_refl _⟩ (fun g1 g2 Q K => s_i2l C (aD1 hok rfl) K)
  | i2c =>
    obtain ⟨x, r, he0, hz1⟩ := aP1_ex hz
    clear hz
    subst he0
    have hz := hz1
    exact aGl.go hz ⟨Nat.le_refl _, Nat.le_refl _⟩ (fun g1 g2 Q K => s_i2c C (aD1 hok rfl) K)
  | i2f =>
    obtain ⟨x, r, he0, hz1⟩ := aP1_ex hz
    clear hz
    subst he0
    have hz := hz1
    exact aGl.go hz ⟨Nat.le_refl _, Nat.le_refl _⟩ (fun g1 g2 Q K => s_i2f C (aD1 hok rfl) K)
  | i2d =>
    obtain ⟨x, r, he0, hz1⟩ := aP1_ex hz
    clear hz
    subst he0
    have hz := hz1
    exact aGl.go hz ⟨Nat.le_refl _, Nat.le_refl _⟩ (fun g1 g2 Q K => s_i2d C (aD1 hok rfl) K)
  | f2d =>
    unfold aEx at hz
    dsimp only at hz
    split at hz
    · split at hz
      · rename_i hn
        exact aGl.go hz ⟨Nat.le_refl _, Nat.le_refl _⟩ (fun g1 g2 Q K => s_f2d C hn (aD1 hok rfl) K)
      · cases hz
    · cases hz
  | fdiv =>
    unfold aEx at hz
    dsimp only at hz
    split at hz
    · split at hz
      · rename_i hn
        exact aGl.go hz ⟨Nat.le_refl _, Nat.le_refl _⟩ (fun g1 g2 Q K => s_fdiv C hn (aD1 hok rfl) K)
      · cases hz
    · cases hz
  | ddiv =>
    unfold aEx at hz
    dsimp only at hz
    split at hz
    · split at hz
      · rename_i hn
        exact aGl.go hz ⟨Nat.le_refl _, Nat.le_refl _⟩ (fun g1 g2 Q K => s_ddiv C hn (aD1 hok rfl) K)
      · cases hz
    · cases hz
  | fconst n =>
    unfold aEx at hz
    dsimp only at hz
    split at hz
    · rename_i hn
      subst hn
      exact aGl.go hz ⟨Nat.le_refl _, Nat.le_refl _⟩ (fun g1 g2 Q K => s_fconst C (aD1 hok rfl) K)
    · cases hz
  | dconst n =>
    unfold aEx at hz
    dsimp only at hz
    split at hz
    · rename_i hn
      subst hn
      exact aGl.go hz ⟨Nat.le_refl _, Nat.le_refl _⟩ (fun g1 g2 Q K => s_dconst C (aD1 hok rfl) K)
    · cases hz
  | lcmp =>
    unfold aEx at hz
    dsimp only at hz
    split at hz
    · exact aGl.go hz ⟨Nat.le_refl _, Nat.le_refl _⟩ (fun g1 g2 Q K => s_lcmp C (aD1 hok rfl) K)
    · cases hz
  | fcmp op =>
    unfold aEx at hz
    dsimp only at hz
    split at hz
    · exact aGl.go hz ⟨Nat.le_refl _, Nat.le_refl _⟩ (fun g1 g2 Q K => s_fcmp C (aD1 hok rfl) K)
    · cases hz
  | dcmp op =>
    unfold aEx at hz
    dsimp only at hz
    split at hz
    · exact aGl.go hz ⟨Nat.le_refl _, Nat.le_refl _⟩ (fun g1 g2 Q K => s_dcmp C (aD1 hok rfl) K)
    · cases hz
  | dup =>
    unfold aEx at hz
    dsimp only at hz
    split at hz
    · split at hz
      · rename_i hc
        exact aGl.go hz ⟨Nat.le_refl _, Nat.le_refl _⟩ (fun g1 g2 Q K => s_dup C hc (aD1 hok rfl) K)
      · cases hz
    · cases hz
  | dup2 =>
    unfold aEx at hz
    dsimp only at hz
    split at hz
    · split at hz
      · rename_i hc
        exact aGl.go hz ⟨Nat.le_refl _, Nat.le_refl _⟩ (fun g1 g2 Q K => s_dup2 C hc.1 hc.2 (aD1 hok rfl) K)
      · cases hz
    · cases hz
  | ifCond q off =>
    obtain ⟨h1, h2⟩ := (Bool.and_eq_true _ _).mp hok
    obtain ⟨x, r, he0, hz1⟩ := aP1_ex hz
    clear hz
    subst he0
    have hz := hz1
    exact aGl.go hz ⟨Nat.le_refl _, Nat.le_refl _⟩ (fun g1 g2 Q K => s_if C (of_decide_eq_true h2) (aD3 h1 rfl) K)
  | if_icmp q off =>
    obtain ⟨h1, h2⟩ := (Bool.and_eq_true _ _).mp hok
    obtain ⟨x, y, r, he0, hz1⟩ := aP2_ex hz
    clear hz
    subst he0
    have hz := hz1
    exact aGl.go hz ⟨Nat.le_refl _, Nat.le_refl _⟩ (fun g1 g2 Q K => s_icmp C (of_decide_eq_true h2) (aD3 h1 rfl) K)
  | goto off =>
    obtain ⟨h1, h2⟩ := (Bool.and_eq_true _ _).mp hok
    exact aGl.go hz ⟨Nat.le_refl _, Nat.le_refl _⟩ (fun g1 g2 Q K => s_goto C (of_decide_eq_true h2) (aD3 h1 rfl) K)
  | tableswitch dflt lo hi offs =>
    obtain ⟨h1, h2⟩ := (Bool.and_eq_true _ _).mp hok
    obtain ⟨n, hdg, -⟩ := aDec_ex h1
    obtain ⟨x, r, he0, hz1⟩ := aP1_ex hz
    clear hz
    subst he0
    have hz := hz1
    split at hz
    · rename_i ho
      exact aGl.go hz ⟨Nat.le_refl _, Nat.le_refl _⟩ (fun g1 g2 Q K => s_tableOut C ho (of_decide_eq_true h2) hdg K)
    · rename_i ho
      split at hz
      · rename_i hq
        split at hz
        · rename_i ht
          exact aGl.go hz ⟨Nat.le_refl _, Nat.le_refl _⟩ (fun g1 g2 Q K => s_tableIn C ho hq ht hdg K)
        · cases hz
      · cases hz
  | lookupswitch dflt ps =>
    obtain ⟨h1, h2⟩ := (Bool.and_eq_true _ _).mp hok
    obtain ⟨n, hdg, -⟩ := aDec_ex h1
    obtain ⟨x, r, he0, hz1⟩ := aP1_ex hz
    clear hz
    subst he0
    have hz := hz1
    split at hz
    · rename_i ht
      exact aGl.go hz ⟨Nat.le_refl _, Nat.le_refl _⟩ (fun g1 g2 Q K => s_lookup C h2 ht hdg K)
    · cases hz
  | getfield idx =>
    obtain ⟨h1, h2⟩ := (Bool.and_eq_true _ _).mp hok
    obtain ⟨rc, f1, f2, f3⟩ := aF4_ok h2
    obtain ⟨q, r, he0, hz1⟩ := aPr_ex hz
    clear hz
    subst he0
    obtain ⟨w, ci, fs, hq, hz2⟩ := aOb_ex hz1
    clear hz1
    split at hz2
    · rename_i hc
      obtain ⟨rfl, rfl⟩ := hc
      split at hz2
      · rename_i hv
        exact aGl.go hz2 ⟨Nat.le_refl _, Nat.le_refl _⟩ (fun g1 g2 Q K => s_getfield C hq f1 f2 f3 hv (aD3 h1 rfl) K)
      · cases hz2
    · cases hz2
  | putfield idx =>
    obtain ⟨h1, h2⟩ := (Bool.and_eq_true _ _).mp hok
    obtain ⟨h2, h3⟩ := (Bool.and_eq_true _ _).mp h2
    obtain ⟨rc, f1, f2, f3⟩ := aF4_ok h2
    rw [f1] at h3
    have hfin : (rc.2.1 b).2.2.2 = false ∨ (meth.name = "<init>" ∧ (rc.2.1 b).1 = aOwn o) := by
      have h4 := (Bool.or_eq_true _ _).mp h3
      rcases h4 with h4 | h4
      · exact Or.inl (by simpa using h4)
      · obtain ⟨g1, g2⟩ := (Bool.and_eq_true _ _).mp h4
        exact Or.inr ⟨B.2.2.1 g1, of_decide_eq_true g2⟩
    unfold aEx at hz
    dsimp only at hz
    split at hz
    · obtain ⟨w, ci, fs, hq, hz2⟩ := aOb_ex hz
      clear hz
      split at hz2
      · rename_i hc
        obtain ⟨rfl, rfl, c3, c4⟩ := hc
        exact aGl.go hz2 ⟨Nat.le_refl _, Nat.le_refl _⟩ (fun g1 g2 Q K => s_putfield C hq f1 f2 f3 hfin c4 c3 (aD3 h1 rfl) K)
      · cases hz2
    · cases hz
  | getstatic idx =>
    obtain ⟨h1, h2⟩ := (Bool.and_eq_true _ _).mp hok
    obtain ⟨f1, f2 | f2⟩ := aG3_ok h2
    · exact aGl.go hz ⟨Nat.le_refl _, Nat.le_refl _⟩ (fun g1 g2 Q K => s_getstaticN C f1 f2 (aD3 h1 rfl) K)
    · exact aGl.go hz ⟨Nat.le_refl _, Nat.le_refl _⟩ (fun g1 g2 Q K => s_getstatic C f1 f2 (aD3 h1 rfl) K)
  | iaload =>
    obtain ⟨i, q, r, he0, hz1⟩ := aPir_ex hz
    clear hz
    subst he0
    have hz := hz1
    obtain ⟨w, ty, x, hq, hz⟩ := aAr_ex hz
    obtain ⟨n, x⟩ := x
    dsimp only at hz
    split at hz
    · obtain ⟨j, hj, hz⟩ := aAt_ex hz
      exact aGl.go hz ⟨Nat.le_refl _, Nat.le_refl _⟩ (fun g1 g2 Q K => s_iaload C hq hj (aD1 hok rfl) K)
    · cases hz
  | caload =>
    obtain ⟨i, q, r, he0, hz1⟩ := aPir_ex hz
    clear hz
    subst he0
    have hz := hz1
    obtain ⟨w, ty, x, hq, hz⟩ := aAr_ex hz
    obtain ⟨n, x⟩ := x
    dsimp only at hz
    split at hz
    · obtain ⟨j, hj, hz⟩ := aAt_ex hz
      exact aGl.go hz ⟨Nat.le_refl _, Nat.le_refl _⟩ (fun g1 g2 Q K => s_caload C hq hj (aD1 hok rfl) K)
    · cases hz
  | laload =>
    obtain ⟨i, q, r, he0, hz1⟩ := aPir_ex hz
    clear hz
    subst he0
    have hz := hz1
    obtain ⟨w, ty, x, hq, hz⟩ := aAr_ex hz
    obtain ⟨n, x⟩ := x
    dsimp only at hz
    split at hz
    · obtain ⟨j, hj, hz⟩ := aAt_ex hz
      exact aGl.go hz ⟨Nat.le_refl _, Nat.le_refl _⟩ (fun g1 g2 Q K => s_laload C hq hj (aD1 hok rfl) K)
    · cases hz
  | aaload =>
    obtain ⟨i, q, r, he0, hz1⟩ := aPir_ex hz
    clear hz
    subst he0
    have hz := hz1
    obtain ⟨w, ty, x, hq, hz⟩ := aAr_ex hz
    obtain ⟨n, x⟩ := x
    dsimp only at hz
    split at hz
    · split at hz
      · rename_i hc
        obtain ⟨rfl, c1, c2⟩ := hc
        obtain ⟨j, hj, hz⟩ := aAt_ex hz
        split at hz
        · rename_i hy
          exact aGl.go hz ⟨Nat.le_refl _, Nat.le_refl _⟩ (fun g1 g2 Q K => s_aaload C hq ⟨aTk_in c2, c1⟩ hj hy (aD1 hok rfl) K)
        · cases hz
      · cases hz
    · cases hz
  | iastore =>
    obtain ⟨x, i, q, r, he0, hz1⟩ := aPvir_ex hz
    clear hz
    subst he0
    have hz := hz1
    obtain ⟨w, ty, y, hq, hz⟩ := aAr_ex hz
    obtain ⟨n, y⟩ := y
    dsimp only at hz
    split at hz
    · split at hz
      · rename_i hc
        subst hc
        obtain ⟨j, hj, hz⟩ := aAt_ex hz
        exact aGl.go hz ⟨Nat.le_refl _, Nat.le_refl _⟩ (fun g1 g2 Q K => s_iastore C hq hj (aD1 hok rfl) K)
      · cases hz
    · cases hz
  | lastore =>
    obtain ⟨x, i, q, r, he0, hz1⟩ := aPvir_ex hz
    clear hz
    subst he0
    have hz := hz1
    obtain ⟨w, ty, y, hq, hz⟩ := aAr_ex hz
    obtain ⟨n, y⟩ := y
    dsimp only at hz
    split at hz
    · split at hz
      · rename_i hc
        subst hc
        obtain ⟨j, hj, hz⟩ := aAt_ex hz
        exact aGl.go hz ⟨Nat.le_refl _, Nat.le_refl _⟩ (fun g1 g2 Q K => s_lastore C hq hj (aD1 hok rfl) K)
      · cases hz
    · cases hz
  | castore =>
    obtain ⟨x, i, q, r, he0, hz1⟩ := aPvir_ex hz
    clear hz
    subst he0
    have hz := hz1
    obtain ⟨w, ty, y, hq, hz⟩ := aAr_ex hz
    obtain ⟨n, y⟩ := y
    dsimp only at hz
    split at hz
    · split at hz
      · rename_i hc
        obtain ⟨rfl, hc⟩ := hc
        obtain ⟨j, hj, hz⟩ := aAt_ex hz
        exact aGl.go hz ⟨Nat.le_refl _, Nat.le_refl _⟩ (fun g1 g2 Q K => s_castore C hq hc hj (aD1 hok rfl) K)
      · cases hz
    · cases hz
  | aastore =>
    obtain ⟨x, i, q, r, he0, hz1⟩ := aPvir_ex hz
    clear hz
    subst he0
    have hz := hz1
    obtain ⟨w, ty, y, hq, hz⟩ := aAr_ex hz
    obtain ⟨n, y⟩ := y
    dsimp only at hz
    split at hz
    · obtain ⟨w1, ci, fs, hy, hz2⟩ := aOb_ex hz
      clear hz
      split at hz2
      · rename_i hc
        obtain ⟨rfl, rfl, rfl, rfl⟩ := hc
        obtain ⟨j, hj, hz3⟩ := aAt_ex hz2
        exact aGl.go hz3 ⟨Nat.le_refl _, Nat.le_refl _⟩ (fun g1 g2 Q K => s_aastore C hq hy hj (aD1 hok rfl) K)
      · cases hz2
    · cases hz
  | arraylength =>
    obtain ⟨q, r, he0, hz1⟩ := aPr_ex hz
    clear hz
    subst he0
    have hz := hz1
    obtain ⟨w, ty, x, hq, hz⟩ := aAr_ex hz
    split at hz
    · rename_i ht
      exact aGl.go hz ⟨Nat.le_refl _, Nat.le_refl _⟩ (fun g1 g2 Q K => s_arraylength C hq (aTk_in ht) (aD1 hok rfl) K)
    · cases hz
  | newarray t =>
    obtain ⟨n, r, he0, hz1⟩ := aP1_ex hz
    clear hz
    subst he0
    have hz := hz1
    obtain ⟨-, -, -, -, -, -, -, -, -, -, w10, w11, w12, -⟩ := aWpos_ok
    split at hz
    · rename_i hc
      obtain ⟨c1, c2, c3⟩ := hc
      split at hz
      · exact aGl.go hz ⟨Nat.le_add_right _ _, Nat.le_add_right _ _⟩ (fun g1 g2 Q K => s_newInt C c1 (aIs_in w10) c2 c3 g1 g2 (aD2 hok rfl) K)
      · exact aGl.go hz ⟨Nat.le_add_right _ _, Nat.le_add_right _ _⟩ (fun g1 g2 Q K => s_newChar C c1 (aIs_in w11) c2 c3 g1 g2 (aD2 hok rfl) K)
      · exact aGl.go hz ⟨Nat.le_add_right _ _, Nat.le_add_right _ _⟩ (fun g1 g2 Q K => s_newLong C c1 (aIs_in w12) c2 c3 g1 g2 (aD2 hok rfl) K)
      · cases hz
    · cases hz
  | anewarray idx =>
    obtain ⟨h1, h2⟩ := (Bool.and_eq_true _ _).mp hok
    obtain ⟨h2, h3⟩ := (Bool.and_eq_true _ _).mp h2
    obtain rfl : o = 0 := eq_of_beq h2
    obtain rfl : idx = 9 := eq_of_beq h3
    obtain ⟨n, r, he0, hz1⟩ := aP1_ex hz
    clear hz
    subst he0
    have hz := hz1
    obtain ⟨-, -, -, -, -, -, -, -, -, -, -, -, -, w14, -⟩ := aWpos_ok
    split at hz
    · rename_i hc
      obtain ⟨c1, c2, c3⟩ := hc
      exact aGl.go hz ⟨Nat.le_add_right _ _, Nat.le_add_right _ _⟩ (fun g1 g2 Q K => s_anewarray C c1 (aIs_in w14) c2 c3 g1 g2 (aD3 h1 rfl) K)
    · cases hz
  | multianewarray idx dd =>
    obtain ⟨h1, h2⟩ := (Bool.and_eq_true _ _).mp hok
    obtain ⟨h2, h3⟩ := (Bool.and_eq_true _ _).mp h2
    obtain ⟨h3, h4⟩ := (Bool.and_eq_true _ _).mp h3
    obtain rfl : o = 4 := eq_of_beq h2
    obtain rfl : idx = 15 := eq_of_beq h3
    obtain rfl : dd = 2 := eq_of_beq h4
    obtain ⟨-, -, -, -, -, -, -, -, -, -, w10, -, -, -, w15⟩ := aWpos_ok
    unfold aEx at hz
    dsimp only at hz
    split at hz
    · split at hz
      · rename_i hc
        obtain ⟨c1, rfl, rfl⟩ := hc
        exact aGl.go hz ⟨Nat.le_add_right _ _, Nat.le_add_right _ _⟩ (fun g1 g2 Q K => s_multi C c1 (aIs_in w15) (aIs_in w10) g1 g2 (aD4 h1 rfl) K)
      · cases hz
    · cases hz
  | new idx =>
    obtain ⟨h1, h2⟩ := (Bool.and_eq_true _ _).mp hok
    unfold aEx at hz
    dsimp only at hz
    split at hz
    · cases hz
    rename_i h999
    have h2 := (Bool.or_eq_true _ _).mp h2
    rcases h2 with h2 | h2
    · exact absurd (eq_of_beq h2) h999
    obtain ⟨h2, h3⟩ := (Bool.and_eq_true _ _).mp h2
    split at hz
    · rename_i h100
      split at hz
      · rename_i hc
        obtain ⟨c1, c2, c3⟩ := hc
        cases hz
        have h4 := (Bool.or_eq_true _ _).mp h3
        rcases h4 with h4 | h4
        · exact absurd (of_decide_eq_true h4) (by omega)
        · obtain ⟨h4, h5⟩ := (Bool.and_eq_true _ _).mp h4
          exact g_thrown B (eq_of_beq h4) h100 c1 c2 c3 h2 h5 (aD3 h1 rfl)
      · cases hz
    · rename_i h100
      obtain ⟨rc, f1, f2, f3, f4⟩ := aN3_ok h2 (Nat.not_le.mp h100)
      split at hz
      · rename_i hal
        exact aGl.go hz ⟨Nat.le_add_right _ _, Nat.le_add_right _ _⟩ (fun g1 g2 Q K => s_new C hal f1 f2 f4 f3 g1 g2 (aD3 h1 rfl) K)
      · cases hz
  | invokevirtual idx =>
    obtain ⟨h1, h2⟩ := (Bool.and_eq_true _ _).mp hok
    simp only [Bool.and_eq_true, Bool.or_eq_true, beq_iff_eq] at h2
    unfold aEx at hz
    dsimp only at hz
    rcases h2 with ⟨rfl, h2⟩ | ⟨rfl, h2⟩ | ⟨h2, h3⟩
    · exact g_text B (aD3 h1 rfl) (Or.inl ⟨rfl, h2⟩) hz
    · exact g_text B (aD3 h1 rfl) (Or.inr ⟨rfl, h2⟩) hz
    · rw [if_neg (by have := (aArg_ok h3).1; omega)] at hz
      split at hz
      · rename_i hr
        exact g_callV B h2 h3 (aD3 h1 rfl) hr hz
      · cases hz
  | invokestatic idx =>
    obtain ⟨h1, h2⟩ := (Bool.and_eq_true _ _).mp hok
    simp only [Bool.and_eq_true, Bool.or_eq_true, beq_iff_eq] at h2
    unfold aEx at hz
    dsimp only at hz
    rcases h2 with ⟨rfl, h2⟩ | ⟨rfl, h2⟩ | ⟨rfl, h2⟩ | ⟨h2, h3⟩ | ⟨rfl, ⟨h2, h3⟩ | ⟨h2, h3⟩⟩
    · exact g_nat B (aD3 h1 rfl) (Or.inl ⟨rfl, h2⟩) hz
    · exact g_nat B (aD3 h1 rfl) (Or.inr (Or.inl ⟨rfl, h2⟩)) hz
    · exact g_nat B (aD3 h1 rfl) (Or.inr (Or.inr ⟨rfl, h2⟩)) hz
    · rw [if_neg (by have := (aArg_ok h3).1; omega)] at hz
      exact g_callS B h2 h3 (aD3 h1 rfl) hz
    · rw [if_neg (by have := (aArg_ok h3).1; omega)] at hz
      exact g_callSN B h2 h3 (aD3 h1 rfl) hz
    · rw [if_neg (by have := (aArg_ok h3).1; omega)] at hz
      exact g_callSW B h2 h3 (aD3 h1 rfl) hz
  | invokespecial idx =>
    obtain ⟨h1, h2⟩ := (Bool.and_eq_true _ _).mp hok
    simp only [Bool.and_eq_true, Bool.or_eq_true, beq_iff_eq] at h2
    unfold aEx at hz
    dsimp only at hz
    rcases h2 with ⟨rfl, h2⟩ | ⟨rfl, ⟨h2, h3⟩ | ⟨h2, h3⟩⟩
    · rw [if_pos rfl] at hz
      obtain ⟨q, r, he0, hz1⟩ := aPr_ex hz
      clear hz
      subst he0
      have hz := hz1
      obtain ⟨p9, hp⟩ := aL4_ok h2
      obtain ⟨-, -, -, -, -, -, -, -, w8, w9, -⟩ := aWpos_ok
      split at hz
      · rename_i hs
        exact aGl.go hz ⟨Nat.le_refl _, Nat.le_refl _⟩ (fun g1 g2 Q K => s_objInit C (aIs_in hp) (aIs_in w8) (aIs_in w9) (by omega) (by omega) hs (aD3 h1 rfl) K)
      · cases hz
    · rw [if_neg (by have := (aArg_ok h3).1; omega)] at hz
      split at hz
      · rename_i hr
        exact g_callI B (Or.inl rfl) h2 h3 (aD3 h1 rfl) hr hz
      · cases hz
    · rw [if_neg (by have := (aArg_ok h3).1; omega)] at hz
      split at hz
      · rename_i hr
        exact g_callI B (Or.inr rfl) h2 h3 (aD3 h1 rfl) hr hz
      · cases hz
  | ireturn =>
    unfold aEx at hz
    dsimp only at hz
    split at hz
    · split at hz
      · split at hz
        · rename_i hfit
          cases hz
          exact ⟨⟨Nat.le_refl _, Nat.le_refl _⟩, fun _ _ => e_ireturn C B.2.2.2.2.2.1 hfit B.2.2.2.2.1 (aD1 hok rfl)⟩
        · cases hz
      · cases hz
    · cases hz
  | freturn =>
    unfold aEx at hz
    dsimp only at hz
    split at hz
    · split at hz
      · rename_i hrt
        cases hz
        exact ⟨⟨Nat.le_refl _, Nat.le_refl _⟩, fun _ _ => e_freturn C (B.2.2.2.2.2.1.trans hrt) B.2.2.2.2.1 (aD1 hok rfl)⟩
      · cases hz
    · cases hz
  | dreturn =>
    unfold aEx at hz
    dsimp only at hz
    split at hz
    · split at hz
      · rename_i hrt
        cases hz
        exact ⟨⟨Nat.le_refl _, Nat.le_refl _⟩, fun _ _ => e_dreturn C (B.2.2.2.2.2.1.trans hrt) B.2.2.2.2.1 (aD1 hok rfl)⟩
      · cases hz
    · cases hz
  | lreturn =>
    unfold aEx at hz
    dsimp only at hz
    split at hz
    · split at hz
      · rename_i hrt
        cases hz
        exact ⟨⟨Nat.le_refl _, Nat.le_refl _⟩, fun _ _ => e_lreturn C (B.2.2.2.2.2.1.trans hrt) B.2.2.2.2.1 (aD1 hok rfl)⟩
      · cases hz
    · cases hz
  | areturn =>
    unfold aEx at hz
    dsimp only at hz
    split at hz
    · split at hz
      · rename_i hrt
        cases hz
        refine ⟨⟨Nat.le_refl _, Nat.le_refl _⟩, fun _ _ => ?_⟩
        rcases hrt with hrt | hrt
        · exact e_areturn C (B.2.2.2.2.2.1.trans hrt) B.2.2.2.2.1 (aD1 hok rfl)
        · exact e_areturn C (B.2.2.2.2.2.1.trans hrt) B.2.2.2.2.1 (aD1 hok rfl)
      · cases hz
    · cases hz
  | return_ =>
    unfold aEx at hz
    dsimp only at hz
    split at hz
    · split at hz
      · rename_i hrt
        cases hz
        exact ⟨⟨Nat.le_refl _, Nat.le_refl _⟩, fun _ _ => e_return C (B.2.2.2.2.2.1.trans hrt) B.2.2.2.2.1 (aD1 hok rfl)⟩
      · cases hz
    · cases hz
  | _ => cases hz
end STA
end
section
/-! WHAT A RUN SAYS, THE MACHINE DOES -/
theorem aOk_at {o : Nat} {ini : Bool} {b : ByteArray} {cd : List aI} (h : (cd.zipIdx.all fun q => aOkI o ini b q.2 q.1.1 q.1.2.1 q.1.2.2.1 q.1.2.2.2) = true) : ∀ (pc : Nat) (x : aI), cd[pc]? = some x → aOkI o ini b pc x.1 x.2.1 x.2.2.1 x.2.2.2 = true := by
  intro pc x hx
  exact List.all_eq_true.mp h (x, pc) (List.mem_zipIdx_iff_getElem?.mpr hx)
theorem aLoc_in {sg : Nat → Nat} {as : List Value} {n : Nat} (hn : as.length ≤ n) (hc : ∀ v ∈ as, v.category = 1) : aLoc sg ((lg_sl (as.map (aCv sg)) ++ List.replicate (n - (lg_sl (as.map (aCv sg))).length) Slot.unset).toArray) n (aIn n as) := by
  have e : ∀ vs : List Value, (∀ v ∈ vs, v.category = 1) → lg_sl (vs.map (aCv sg)) = vs.map fun v => Slot.val (aCv sg v) := by
    intro vs
    induction vs with
    | nil => intro _; rfl
    | cons v r ih =>
      intro h
      have h1 := ih fun w hw => h w (List.mem_cons_of_mem _ hw)
      have h2 : (aCv sg v).category = 1 := (aCv_cat sg v).trans (h v List.mem_cons_self)
      unfold lg_sl at h1 ⊢
      rw [List.map_cons, List.flatMap_cons, h1, if_neg (by rw [h2]; decide)]
      rfl
  have hl : (lg_sl (as.map (aCv sg))).length = as.length := by rw [e as hc, List.length_map]
  have hv := lv_entry (as.map (aCv sg)) (n := n) (by rw [hl]; exact hn)
  refine ⟨hv.1, hv.2.1, ?_, ?_⟩
  · unfold aIn
    rw [List.length_append, List.length_map, List.length_replicate]
    omega
  · intro i v hi
    have hlt : i < as.length := by
      by_cases hlt : i < as.length
      · exact hlt
      · unfold aIn at hi
        rw [List.getElem?_append_right (by rw [List.length_map]; omega), List.getElem?_replicate] at hi
        split at hi <;> cases hi
    unfold aIn at hi
    rw [List.getElem?_append_left (by rw [List.length_map]; exact hlt), List.getElem?_map] at hi
    rw [List.getElem?_toArray, List.getElem?_append_left (by rw [hl]; exact hlt), e as hc, List.getElem?_map]
    cases ha : as[i]? with
    | none => rw [ha] at hi; cases hi
    | some w =>
      rw [ha] at hi
      cases hi
      rfl
section SIT
variable {p : Program} {l : Launch} {e : Env} {R : Room} {s : State} {m : MethodId} {args : Array Value} {below : List Frame} {meth : Method} {c : Code} {D : va_G} {ka : FieldType → ClassId} {sg : Nat → Nat} {A : Nat → Prop} {nL o d : Nat} {cc : ByteArray} {al ini : Bool} {call : aF} {hd : aD} {cd : List aI} {rt : Option FieldType} {hh : List (Nat × Nat × Nat × Nat)}
theorem g_one (B : aBd p l R s m args meth c D ka sg A nL o d cc al ini call hd cd rt hh) {t : aS} {z : aS ⊕ aR} (hz : aStep call aCls hd cd rt al t = some z) : aGl p l e R s m args below meth c D ka sg A nL al t z := by
  unfold aStep at hz
  split at hz
  · cases hz
  · rename_i i a b v hi
    exact g_step B (B.2.2.2.2.2.2.2 _ _ hi) hz
theorem g_it (B : aBd p l R s m args meth c D ka sg A nL o d cc al ini call hd cd rt hh) : ∀ (n : Nat) (t : aS) (r : aR), aIt (aStep call aCls hd cd rt al) n t = some (.inr r) → (t.2.2.2.2.1 ≤ r.2.2.1 ∧ t.2.2.2.2.2 ≤ r.2.2.2) ∧ (r.2.2.1 ≤ R.cells → r.2.2.2 ≤ R.slots → aSim p l e R s m args below meth c (aEq below D ka sg A al args s r) D ka sg A nL al t)
  | 0, t, r, h => by cases h
  | n + 1, t, r, h => by
    cases hf : aStep call aCls hd cd rt al t with
    | none => rw [aIt_non hf] at h; cases h
    | some x =>
      cases x with
      | inl u =>
        rw [aIt_inl hf] at h
        obtain ⟨⟨k1, k2⟩, k3⟩ := g_one (e := e) (below := below) B hf
        obtain ⟨⟨k4, k5⟩, k6⟩ := g_it B n u r h
        exact ⟨⟨Nat.le_trans k1 k4, Nat.le_trans k2 k5⟩, fun g1 g2 => k3 (Nat.le_trans k4 g1) (Nat.le_trans k5 g2) _ (k6 g1 g2)⟩
      | inr q =>
        rw [aIt_inr hf] at h
        cases h
        exact g_one (e := e) (below := below) B hf
end SIT
theorem aSnd_all {l : Launch} {D : va_G} {ka : FieldType → ClassId} {sg : Nat → Nat} {A : Nat → Prop} {al : Bool} (hl : l.stackTraces = false) : ∀ d, aSnd l D ka sg A al d (aRun al d)
  | 0 => by
    intro a as h r hr
    cases hr
  | d + 1 => by
    intro a as h r hr hcat ha hlen y b hyb
    have IH := aSnd_all (D := D) (ka := ka) (sg := sg) (A := A) (al := al) hl d
    obtain ⟨o, cd, hd, rt, n, y', b', np, st, e1, e2, ⟨q1, q2, q3, q4, e3⟩, g1, g2, g3, g4, g5, g6, g7, g8⟩ := aMok_spec ha
    cases Option.some.inj (e2.symm.trans hyb)
    obtain ⟨o9, cd9, hd9, rt9, n9, hm, ⟨N, hit⟩⟩ := aRun_ex hr
    cases Option.some.inj (e1.symm.trans hm)
    have hok := aOk_all a ha
    unfold aOkM at hok
    rw [e1, e2] at hok
    have hlen2 : as.length ≤ n := by
      unfold aNa at hlen
      rw [e3] at hlen
      dsimp only at hlen
      omega
    have key : ∀ (ws : List Cond) (hh : List (Nat × Nat × Nat × Nat)) (p : Program) (e : Env) (s : State) (m : MethodId) (args : Array Value) (below : List Frame) (meth : Method) (c : Code) (s₁ : State), (∀ w ∈ aWg, w ∈ ws) → aHm (aOwn o) hh hd = true → BodyLoose p l y (headSpec ws (aRm (d + 1) r.2.2)) b n rt e s m args below meth c s₁ → c.maxLocals = n → c.exceptionTable.toList = tableOf hh → aPc D ka sg A al as h args s →
        W p l e (headSpec ws (aRm (d + 1) r.2.2)).room s m args below meth c s.heap [] 0 0 (vx_MQ below (aQc D ka sg A al r) (aXC D ka sg A al r) args s r.2.2.1 r.2.2.2 A) (entryFrame m args n) := by
      intro ws hh p e s m args below meth c s₁ hws hhm B hml htb hP
      obtain ⟨hv, hrel, hkn, hA, hal⟩ := hP
      have hts := atoms_spec (ws := ws) B.pre
      have hown : s.vm.findClass y.cls = some m.cls := findClass_of_methodNamed B.named
      rw [g1] at hown
      have BD : aBd p l (aRm (d + 1) r.2.2) s m args meth c D ka sg A n o d b al (y.name == "<init>") (aRun al d) hd cd rt hh :=
        ⟨⟨B.exec, B.bytes, hml, hown, fun w hw => hts w (hws w hw), hkn, hA, hl⟩, ⟨Nat.le_of_eq rfl, by show 60 * d + 220 ≤ 60 * (d + 1) + 160; omega⟩, fun hi => (name_of_methodNamed B.named B.method).1.trans (eq_of_beq hi), ⟨htb, hhm⟩, B.notSynchronized, B.returns, IH, aOk_at hok⟩
      have hsim := (g_it (e := e) (below := below) BD N _ _ hit).2 (Nat.le_refl _) (Nat.le_refl _)
      subst hv
      have hW := hsim s.heap [] _ hrel va_S.rf (aLoc_in hlen2 hcat) hal
      rw [lg_entry_eq]
      exact hW
    by_cases hd0 : hd = []
    · subst hd0
      refine vx_ofW (ws' := aWg) g2 (aWs_plain e1 e2 rfl) (fun p e s m args below meth c s₁ B hml ht hP => ?_)
      refine key (aWs a) [] p e s m args below meth c s₁ (fun w hw => ?_) rfl B hml ?_ hP
      · rw [aWs_plain e1 e2 rfl]
        exact List.mem_cons_of_mem _ hw
      · exact List.eq_nil_iff_forall_not_mem.mpr fun z hz => ht z hz
    · have hd1 : hd.isEmpty = false := by cases hd with
        | nil => exact absurd rfl hd0
        | cons _ _ => rfl
      rw [if_neg (by rw [hd1]; decide)] at g6
      refine vx_ofWH (ws' := aWg) (hh := aHh a) g2 (aWs_with e1 e2 hd1) (fun p e s m args below meth c s₁ B hml hP => ?_)
      refine key (aWs a) (aHh a) p e s m args below meth c s₁ (fun w hw => ?_) g6.2 B hml ?_ hP
      · rw [aWs_with e1 e2 hd1]
        exact List.mem_cons_of_mem _ hw
      · refine vx_table (x := y) B (bytes := b) (maxL' := n) (ret' := rt) (atoms_spec (ws := aWs a) B.pre _ ?_)
        rw [aWs_with e1 e2 hd1]
        exact List.mem_cons_self
end
section
/-! THE LAW'S MACHINE: it makes things after throws, and calls the law's own methods -/
def mV1 (n : Nat) : Value → Bool
  | .ref q => decide (q < n)
  | _ => true
def mLo (n : Nat) : Option Value → Bool
  | some v => mV1 n v
  | none => true
/-- all that locals and stack refer to lies below n -/
def mLs (n : Nat) (ls : List (Option Value)) (st : List Value) : Bool := ls.all (mLo n) && st.all (mV1 n)
def mCell (n : Nat) (e : aE) : Prop := match e with
  | .inr (_, fs) => ∀ v, v ∈ fs → mV1 n v = true
  | .inl (_, m, x) => match x with
    | .inr (.inr (.inr (.inr f))) => ∀ j p : Nat, j < m → f j = some p → p < n
    | _ => True
/-- all that the heap's own cells refer to lies in it -/
def mCl (h : aH) : Prop := ∀ (q : Nat) (e : aE), h[q]? = some (true, e) → mCell h.length e
def mKind (i : Instr) (a : Nat) : Nat := match i with
  | .newarray _ => 1
  | .new _ => if a = 999 then 3 else 1
  | .invokespecial _ => 1
  | .invokestatic _ => if a < 133 ∨ 500 ≤ a then 0 else 2
  | _ => 0
/-- the number of a text -/
def mTx (c : Int32) : Nat := 100 + ((c.toNatClampNeg / 16 % 4) * 5 + c.toNatClampNeg / 64 % 5) * 11 + (if c.toNatClampNeg % 3 = 0 then 1 + c.toNatClampNeg / 512 % 10 else 0)
/-- a text is made and read, from place 375 to 466 -/
def mMac (mr : aF) (n0 : Nat) (ls : List (Option Value)) (st : List Value) (h : aH) (k : aK) : Option (aS ⊕ aR) := match (ls[5]? : Option (Option Value)), st with
  | some (some (.int c)), [.ref o] => if 0 ≤ c ∧ 8 ≤ h.length ∧ n0 ≤ h.length ∧ mLs h.length ls st = true then match mr 153 [.ref o, .ref h.length] (h ++ [(false, .inr (mTx c, []))]) with
    | some (.inl (some (.int x)), h1, kk) => if h1.length = h.length + 1 then aGo 466 ls [.int x] (h1.take h.length) (k.1 + (8 + kk.1), k.2 + (100 + kk.2)) else none
    | _ => none
    else none
  | _, _ => none
def mCall (mr : aF) (a b : Nat) (pc : Nat) (ls : List (Option Value)) (st : List Value) (h : aH) (k : aK) : Option (aS ⊕ aR) :=
  if b ≤ st.length ∧ aSum (st.drop b) ≤ 8 ∧ ((st.take b).all fun x => x.category == 1) = true then match mr a (st.take b).reverse h with
    | some (.inl w, h1, kd) => aGo (pc + 3) ls (w.toList ++ st.drop b) h1 (k.1 + kd.1, k.2 + kd.2)
    | _ => none
  else none
noncomputable def mStep (n0 d : Nat) (mr : aF) (hd : aD) (cd : List aI) (rt : Option FieldType) (t : aS) : Option (aS ⊕ aR) := match cd[t.1]? with
  | none => none
  | some (i, a, b, v) => match mKind i a with
    | 0 => aEx (aRun false d) aCls hd cd rt false i a b v t.1 t.2.1 t.2.2.1 t.2.2.2.1 t.2.2.2.2
    | 1 => @ite _ (mCl t.2.2.2.1 ∧ 8 ≤ t.2.2.2.1.length ∧ n0 ≤ t.2.2.2.1.length ∧ mLs t.2.2.2.1.length t.2.1 t.2.2.1 = true) (Classical.propDecidable _) (aEx (aRun true d) aCls hd cd rt true i a b v t.1 t.2.1 t.2.2.1 t.2.2.2.1 t.2.2.2.2) none
    | 2 => if 8 ≤ t.2.2.2.1.length ∧ n0 ≤ t.2.2.2.1.length ∧ mLs t.2.2.2.1.length t.2.1 t.2.2.1 = true then mCall mr a b t.1 t.2.1 t.2.2.1 t.2.2.2.1 t.2.2.2.2 else none
    | _ => mMac mr n0 t.2.1 t.2.2.1 t.2.2.2.1 t.2.2.2.2
/-- what a method of the law answers, with calls at most d deep -/
noncomputable def mRun : Nat → aF
  | 0 => fun _ _ _ => none
  | d + 1 => fun m args h => match aProg[m]? with
    | none => none
    | some (_, cd, hd, rt, n) => aFin (mStep h.length d (mRun d) hd cd rt) (0, aIn n args, [], h, (0, 0))
theorem mRun_of {d m : Nat} {args : List Value} {h : aH} {r : aR} {o n : Nat} {cd : List aI} {hd : aD} {rt : Option FieldType} (hm : aProg[m]? = some (o, cd, hd, rt, n)) (he : aEnd (mStep h.length d (mRun d) hd cd rt) (0, aIn n args, [], h, (0, 0)) r) : mRun (d + 1) m args h = some r := by
  obtain ⟨k, he⟩ := he
  show (match aProg[m]? with | none => none | some (_, cd, hd, rt, n) => aFin (mStep h.length d (mRun d) hd cd rt) (0, aIn n args, [], h, (0, 0))) = some r
  rw [hm]
  exact aFin_of he
theorem mRun_ex {d m : Nat} {args : List Value} {h : aH} {r : aR} (hr : mRun (d + 1) m args h = some r) : ∃ o cd hd rt n, aProg[m]? = some (o, cd, hd, rt, n) ∧ aEnd (mStep h.length d (mRun d) hd cd rt) (0, aIn n args, [], h, (0, 0)) r := by
  have h1 : (match aProg[m]? with | none => none | some (_, cd, hd, rt, n) => aFin (mStep h.length d (mRun d) hd cd rt) (0, aIn n args, [], h, (0, 0))) = some r := hr
  cases hm : aProg[m]? with
  | none => rw [hm] at h1; cases h1
  | some x =>
    obtain ⟨o, cd, hd, rt, n⟩ := x
    rw [hm] at h1
    exact ⟨o, cd, hd, rt, n, rfl, aFin_ex h1⟩
/-- another placing that places the first n alike -/
def mAg (n : Nat) (s s2 : Nat → Nat) : Prop := ∀ q : Nat, q < n ∨ q < 8 → s2 q = s q
theorem mAg.rf {n : Nat} {s : Nat → Nat} : mAg n s s := fun _ _ => rfl
theorem mAg.trans {n m : Nat} {s s2 s3 : Nat → Nat} (h1 : mAg n s s2) (h2 : mAg m s2 s3) (hnm : n ≤ m) : mAg n s s3 := fun q hq => (h2 q (by omega)).trans (h1 q hq)
section MAG
variable {D : va_G} {ka : FieldType → ClassId} {sg s2 : Nat → Nat} {A : Nat → Prop} {U : State} {h : aH} {H : Heap} {n : Nat}
theorem mAg.v1 (g : mAg n sg s2) {x : Value} (hx : mV1 n x = true) : aCv s2 x = aCv sg x := by
  cases x with
  | ref q => exact congrArg Value.ref (g q (Or.inl (of_decide_eq_true hx)))
  | _ => rfl
theorem mAg.map (g : mAg n sg s2) {st : List Value} (hs : st.all (mV1 n) = true) : st.map (aCv s2) = st.map (aCv sg) :=
  List.map_congr_left fun v hv => g.v1 (List.all_eq_true.mp hs v hv)
theorem mAg.loc (g : mAg n sg s2) {L : Array Slot} {nL : Nat} {ls : List (Option Value)} (hl : ls.all (mLo n) = true) (h : aLoc sg L nL ls) : aLoc s2 L nL ls := by
  refine ⟨h.1, h.2.1, h.2.2.1, fun i v hi => ?_⟩
  rw [g.v1 (show mV1 n v = true from List.all_eq_true.mp hl _ (List.mem_of_getElem? hi))]
  exact h.2.2.2 i v hi
theorem mAg.kn (g : mAg n sg s2) (h : aKn D ka sg A U) : aKn D ka s2 A U := by
  obtain ⟨⟨h1, h2, h3, h4, h5, h6, h7⟩, h8, h9⟩ := h
  refine ⟨⟨h1, h2, h3, h4, h5, ?_, h7⟩, fun i hi => ?_, h9⟩
  · rw [g 6 (Or.inr (by omega))]
    exact h6
  · rw [g i (Or.inr (by omega))]
    exact h8 i hi
theorem mAg.rel (g : mAg h.length sg s2) (hc : mCl h) (hr : aRel D ka sg A U h H) : aRel D ka s2 A U h H := by
  have hlt : ∀ (q : Nat) (c : aC), h[q]? = some c → s2 q = sg q := fun q c hq => g q (Or.inl (List.getElem?_eq_some_iff.mp hq).1)
  refine ⟨fun q c hq => ?_, fun q q1 c c1 hq hq1 hs => ?_⟩
  · have h1 := hr.1 q c hq
    have e := hlt q c hq
    obtain ⟨w, x⟩ := c
    cases w <;> cases x
    · unfold aOn at h1 ⊢
      rw [e]
      exact h1
    · unfold aOn at h1 ⊢
      rw [e]
      exact h1
    · rename_i x
      obtain ⟨ty, m, x⟩ := x
      have hcl := hc q _ hq
      have key : vp_cell (ka ty) (aCa s2 (m, x)) = vp_cell (ka ty) (aCa sg (m, x)) := by
        rcases x with f | f | f | f | f
        · rfl
        · rfl
        · rfl
        · rfl
        · have hcl : ∀ j p : Nat, j < m → f j = some p → p < h.length := hcl
          show arrV (ka ty) m (fun j => va_rf ((f j).map s2)) = arrV (ka ty) m (fun j => va_rf ((f j).map sg))
          unfold arrV
          congr 1
          apply Array.ext
          · simp
          · intro j hj hj2
            have hjm : j < m := by simpa using hj
            simp only [Array.getElem_ofFn]
            cases hf : f j with
            | none => rfl
            | some p => exact congrArg (fun z => va_rf (some z)) (g p (Or.inl (hcl j p hjm hf)))
      unfold aOn at h1 ⊢
      dsimp only at h1 ⊢
      rw [e, key]
      exact h1
    · rename_i x
      obtain ⟨ci, fs⟩ := x
      have hcl : ∀ v, v ∈ fs → mV1 h.length v = true := hc q _ hq
      unfold aOn at h1 ⊢
      dsimp only at h1 ⊢
      rw [e, List.map_congr_left fun v hv => g.v1 (hcl v hv)]
      exact h1
  · rw [hlt q _ hq, hlt q1 _ hq1] at hs
    exact hr.2 q q1 c c1 hq hq1 hs
/-- a placing by which the next thing made is the next cell -/
def mNx (sg : Nat → Nat) (n N : Nat) : Nat → Nat := fun q => if q < n ∨ q < 8 then sg q else N + (q - n)
theorem mNx_ag {N : Nat} : mAg n sg (mNx sg n N) := fun q hq => if_pos hq
theorem mNx_al {N : Nat} (h8 : 8 ≤ n) (j : Nat) : mNx sg n N (n + j) = N + j := by
  unfold mNx
  rw [if_neg (by omega)]
  omega
end MAG
end
section
/-! THE LAW'S MACHINE IS SOUND, STEP BY STEP -/
/-- a contract of the law's method -/
def mCon (l : Launch) (D : va_G) (ka : FieldType → ClassId) (sg : Nat → Nat) (A : Nat → Prop) (d : Nat) (y : MethodName) (ws : List Cond) (as : List Value) (h : aH) (r : aR) : Prop :=
  vx_Met l y ws (aRm d r.2.2) (aPc D ka sg A false as h) (fun a st o t => ∃ s2, mAg h.length sg s2 ∧ aQc D ka s2 A false r a st o t) (fun E st t => ∃ s2, mAg h.length sg s2 ∧ aXC D ka s2 A false r E st t) r.2.2.1 r.2.2.2 A
def mSnd (l : Launch) (D : va_G) (ka : FieldType → ClassId) (d : Nat) (mr : aF) : Prop :=
  ∀ (sg : Nat → Nat) (A : Nat → Prop) (a : Nat) (as : List Value) (h : aH) (r : aR), mr a as h = some r → (∀ v ∈ as, v.category = 1) → a < 165 → as.length = aNa a → ∀ (y : MethodName) (b : ByteArray), aYs[a]? = some (y, b) → mCon l D ka sg A d y (aWs a) as h r
section MSN
variable {p : Program} {l : Launch} {e : Env} {R : Room} {s : State} {m : MethodId} {args : Array Value} {below : List Frame} {meth : Method} {c : Code} {Q : State → Prop} {D : va_G} {ka : FieldType → ClassId} {sg s2 : Nat → Nat} {A : Nat → Prop} {nL o d : Nat} {cc : ByteArray} {al ini : Bool} {call : aF} {hd : aD} {cd : List aI} {rt : Option FieldType} {hh : List (Nat × Nat × Nat × Nat)}
variable {pc n0 : Nat} {ls : List (Option Value)} {st r : List Value} {h : aH} {k : aK} {x y : Int32} {z : aS ⊕ aR} {mr : aF}
theorem aBd.re (g : mAg n0 sg s2) (B : aBd p l R s m args meth c D ka sg A nL o d cc al ini call hd cd rt hh) {al2 : Bool} {call2 : aF} (hS : aSnd l D ka s2 A al2 d call2) : aBd p l R s m args meth c D ka s2 A nL o d cc al2 ini call2 hd cd rt hh :=
  ⟨⟨B.1.1, B.1.2.1, B.1.2.2.1, B.1.2.2.2.1, B.1.2.2.2.2.1, g.kn B.1.2.2.2.2.2.1, B.1.2.2.2.2.2.2⟩, B.2.1, B.2.2.1, B.2.2.2.1, B.2.2.2.2.1, B.2.2.2.2.2.1, hS, B.2.2.2.2.2.2.2⟩
/-- from that state, wherever what was made since lies -/
def mSim (p : Program) (l : Launch) (e : Env) (R : Room) (s : State) (m : MethodId) (args : Array Value) (below : List Frame) (meth : Method) (c : Code) (Q : State → Prop) (D : va_G) (ka : FieldType → ClassId) (sg : Nat → Nat) (A : Nat → Prop) (nL n0 : Nat) (t : aS) : Prop :=
  ∀ s2, mAg n0 sg s2 → aSim p l e R s m args below meth c Q D ka s2 A nL false t
/-- the end that is owed -/
def mEq (below : List Frame) (D : va_G) (ka : FieldType → ClassId) (sg : Nat → Nat) (A : Nat → Prop) (n0 : Nat) (args : Array Value) (s : State) (r : aR) : State → Prop := fun t => ∃ s2, mAg n0 sg s2 ∧ aEq below D ka s2 A false args s r t
theorem W_mono {H : Heap} {locs : List Loc} {k1 k2 : Nat} {Q2 : State → Prop} {g : JFrame} (hQ : ∀ t, Q t → Q2 t) (w : W p l e R s m args below meth c H locs k1 k2 Q g) : W p l e R s m args below meth c H locs k1 k2 Q2 g := fun T hT X => (w T hT X).elim fun t q => ⟨t, q.1, hQ t q.2⟩
/-- as aGl, over all placings -/
def mGl (p : Program) (l : Launch) (e : Env) (R : Room) (s : State) (m : MethodId) (args : Array Value) (below : List Frame) (meth : Method) (c : Code) (D : va_G) (ka : FieldType → ClassId) (sg : Nat → Nat) (A : Nat → Prop) (nL n0 : Nat) (t : aS) : aS ⊕ aR → Prop
  | .inl u => (t.2.2.2.2.1 ≤ u.2.2.2.2.1 ∧ t.2.2.2.2.2 ≤ u.2.2.2.2.2) ∧ (u.2.2.2.2.1 ≤ R.cells → u.2.2.2.2.2 ≤ R.slots → ∀ Q, mSim p l e R s m args below meth c Q D ka sg A nL n0 u → mSim p l e R s m args below meth c Q D ka sg A nL n0 t)
  | .inr r => (t.2.2.2.2.1 ≤ r.2.2.1 ∧ t.2.2.2.2.2 ≤ r.2.2.2) ∧ (r.2.2.1 ≤ R.cells → r.2.2.2 ≤ R.slots → mSim p l e R s m args below meth c (mEq below D ka sg A n0 args s r) D ka sg A nL n0 t)
/-- a step of the machine that makes nothing -/
theorem m_plain (hl : l.stackTraces = false) (B : aBd p l R s m args meth c D ka sg A nL o d cc false ini (aRun false d) hd cd rt hh) {i : Instr} {a b : Nat} {v : Int32} (hok : aOkI o ini cc pc i a b v = true) (hz : aEx (aRun false d) aCls hd cd rt false i a b v pc ls st h k = some z) : mGl p l e R s m args below meth c D ka sg A nL n0 (pc, ls, st, h, k) z := by
  have G : ∀ s2, mAg n0 sg s2 → aGl p l e R s m args below meth c D ka s2 A nL false (pc, ls, st, h, k) z := fun s2 g => g_step (B.re g (aSnd_all hl d)) hok hz
  cases z with
  | inl u => exact ⟨(G sg mAg.rf).1, fun g1 g2 Q K s2 g => (G s2 g).2 g1 g2 Q (K s2 g)⟩
  | inr r => exact ⟨(G sg mAg.rf).1, fun g1 g2 s2 g H locs L h1 h2 h3 h4 => W_mono (fun t ht => ⟨s2, g, ht⟩) ((G s2 g).2 g1 g2 H locs L h1 h2 h3 h4)⟩
theorem vx_T_mono {XC XC2 : String → State → State → Prop} {st t : State} {q : Addr} {mc ms : Nat} {free : Addr → Prop} (hX : ∀ E st t, XC E st t → XC2 E st t) (h : vx_T XC st q t mc ms free) : vx_T XC2 st q t mc ms free := by
  obtain ⟨E, ce, L, h1, h2⟩ := h
  exact ⟨E, ce, L, hX _ _ _ h1, h2⟩
/-- a step that makes something, placed anew -/
theorem m_make (hl : l.stackTraces = false) (B : aBd p l R s m args meth c D ka sg A nL o d cc false ini (aRun false d) hd cd rt hh) (hcl : mCl h) (h8 : 8 ≤ h.length) (hn : n0 ≤ h.length) (hls : mLs h.length ls st = true) {i : Instr} {a b : Nat} {v : Int32} (hok : aOkI o ini cc pc i a b v = true) (hz : aEx (aRun true d) aCls hd cd rt true i a b v pc ls st h k = some z) : mGl p l e R s m args below meth c D ka sg A nL n0 (pc, ls, st, h, k) z := by
  unfold mLs at hls
  rw [Bool.and_eq_true] at hls
  have key : ∀ s2, mAg n0 sg s2 → ∀ (H : Heap) (locs : List Loc) (L : Array Slot) (Q : State → Prop), (∀ s3, mAg n0 sg s3 → aSim p l e R s m args below meth c Q D ka s3 A nL true (pc, ls, st, h, k)) → aRel D ka s2 A s h H → va_S A s.heap H locs → aLoc s2 L nL ls → W p l e R s m args below meth c H locs k.1 k.2 Q (F0 m pc L (st.map (aCv s2))) := by
    intro s2 g H locs L Q K h1 h2 h3
    have g3 : mAg h.length s2 (mNx s2 h.length H.size) := mNx_ag
    have w := K (mNx s2 h.length H.size) (g.trans g3 hn) H locs L (g3.rel hcl h1) h2 (g3.loc hls.1 h3) (fun _ j => mNx_al h8 j)
    have e9 : (st.map (aCv (mNx s2 h.length H.size))) = st.map (aCv s2) := g3.map hls.2
    have w : W p l e R s m args below meth c H locs k.1 k.2 Q (F0 m pc L (st.map (aCv (mNx s2 h.length H.size)))) := w
    rw [e9] at w
    exact w
  have G : ∀ s2, mAg n0 sg s2 → aGl p l e R s m args below meth c D ka s2 A nL true (pc, ls, st, h, k) z := fun s2 g => g_step (B.re g (aSnd_all hl d)) hok hz
  cases z with
  | inl u => exact ⟨(G sg mAg.rf).1, fun g1 g2 Q K s2 g H locs L h1 h2 h3 _ => key s2 g H locs L Q (fun s3 q => (G s3 q).2 g1 g2 Q (fun H locs L a1 a2 a3 _ => K s3 q H locs L a1 a2 a3 (fun z => by cases z))) h1 h2 h3⟩
  | inr r => exact ⟨(G sg mAg.rf).1, fun g1 g2 s2 g H locs L h1 h2 h3 _ => key s2 g H locs L _ (fun s3 q H locs L a1 a2 a3 a4 => W_mono (fun t ht => ⟨s3, q, by
      obtain ⟨o9, e1, e2, e3⟩ := ht
      refine ⟨o9, e1, e2, ?_⟩
      rcases e3 with ⟨⟨v, q1, q2, q3, q4, q5⟩, q6⟩ | ⟨q, e4, e5⟩
      · exact Or.inl ⟨⟨v, q1, q2, q3, q4, fun z => by cases z⟩, q6⟩
      · refine Or.inr ⟨q, e4, ?_⟩
        exact vx_T_mono (fun E st t hx => by
          obtain ⟨x9, q1, q2, q3, q4, q5, q6⟩ := hx
          exact ⟨x9, q1, q2, q3, q4, q5, fun z => by cases z⟩) e5⟩) ((G s3 q).2 g1 g2 H locs L a1 a2 a3 a4)) h1 h2 h3⟩
/-- a call of the law's own -/
theorem m_ret {H : Heap} {locs : List Loc} {L : Array Slot} {st0 : List Value} {w : Option Value} {h' : aH} {dk : aK} {a : Array Value} {hl : Nat} (h2 : va_S A s.heap H locs) (h3 : aLoc sg L nL ls) (hlo : ls.all (mLo hl) = true) (hst : r.all (mV1 hl) = true) (hr : va_Run p l e R s m args below meth c H locs k.1 k.2 dk.1 dk.2 (F0 m pc L st0) (r.map (aCv sg)) (fun st o t => ∃ s2, mAg hl sg s2 ∧ aQc D ka s2 A false (.inl w, h', dk) a st o t) A) (K : ∀ s2, mAg hl sg s2 → aSim p l e R s m args below meth c Q D ka s2 A nL false (pc + 3, ls, w.toList ++ r, h', (k.1 + dk.1, k.2 + dk.2))) : W p l e R s m args below meth c H locs k.1 k.2 Q (F0 m pc L st0) := by
  intro T hT X
  obtain ⟨v9, st₀, t, T', Ls, h0, X', hL, e1, e2, ⟨s2, hag, v1, ev, eo, hrel, hF, hsz⟩, stp⟩ := hr T hT X
  cases ev
  cases eo
  obtain ⟨-, -, k3⟩ := vx_keep h0 e1 h2 (fun _ _ z => z) (fun _ z => z) hL hF
  have hal : s.vm.Alike t.vm := by rw [← e2]; exact X'.warmed.alike
  obtain ⟨t2, a1, b1⟩ := K s2 hag T'.heap _ L (by rw [e1]; exact hrel.moved hal.symm) k3 (hag.loc hlo h3) (fun z => by cases z) T' rfl X'
  refine ⟨t2, stp t2 ?_, b1⟩
  have e9 : (w.map (aCv s2)).toList ++ r.map (aCv sg) = (w.toList ++ r).map (aCv s2) := by
    rw [List.map_append, hag.map hst]
    cases w <;> rfl
  show Steps p.tables e below (T'.setTop (F0 m (pc + 3) L ((w.map (aCv s2)).toList ++ r.map (aCv sg)))) t2
  rw [e9]
  exact a1
theorem aL4_133 : (aLtab.all fun e => e.2.2.1 != 4 || decide (e.2.2.2.1 < 133)) = true := by decide +kernel
theorem aL4_4 {idx a : Nat} (h : aL4 o idx 4 a = true) : a < 133 := by
  obtain ⟨q, hq, h⟩ := List.any_eq_true.mp h
  simp only [Bool.and_eq_true, beq_iff_eq] at h
  have h2 := List.all_eq_true.mp aL4_133 _ hq
  rw [h.2.2.1, h.2.2.2] at h2
  simpa using h2
theorem m_cwSW {own : String} {y : MethodName} {b : ByteArray} {n np idx : Nat} {kd : aK} (C : aCx p l s m args c D ka sg A nL own cc) (hcw : Cond.codeWith y b n rt hh ∈ aWg) (hin : Cond.initialized y.cls ∈ aWg) (hp1 : y.cls ≠ "java/lang/invoke/MethodHandle") (hp2 : y.cls ≠ "java/lang/invoke/VarHandle") (hp3 : (parseMethodDescriptor y.desc).map (fun d => d.parameters.length) = some np) (hn40 : n ≤ 40) (hl : Cond.methodLink own idx y ∈ aWg) (hs : Cond.static y ∈ aWg) (hf : d + 7 ≤ R.frames) (hlo : 60 * d + 220 ≤ R.locals) : vx_CSW R s args own idx y b n rt hh (Cond.codeWith y b n rt hh :: aWg) (aRm d kd) kd.1 kd.2 np :=
  vx_cwSW np C.2.2.2.2.1 (aWg_good (fun w hw => by
    simp only [va_wsS, List.cons_append, List.nil_append, List.mem_cons] at hw
    rcases hw with rfl | rfl | rfl | rfl | hw
    · exact hl
    · exact hs
    · exact hin
    · exact hcw
    · exact hw)) rfl rfl rfl ⟨hp1, hp2, hp3⟩ (a_rm hf hlo hn40)
theorem mV1_drop {n b : Nat} (hs : st.all (mV1 n) = true) : (st.drop b).all (mV1 n) = true := List.all_eq_true.mpr fun v hv => List.all_eq_true.mp hs v (List.mem_of_mem_drop hv)
theorem m_call (B : aBd p l R s m args meth c D ka sg A nL o d cc false ini (aRun false d) hd cd rt hh) (hl : l.stackTraces = false) (hS : mSnd l D ka d mr) (hn : n0 ≤ h.length) (hls : mLs h.length ls st = true) {idx a b : Nat} {v : Int32} (ha133 : 133 ≤ a) (hok : aOkI o ini cc pc (.invokestatic idx) a b v = true) (ha500 : ¬ 500 ≤ a) (hz : mCall mr a b pc ls st h k = some z) : mGl p l e R s m args below meth c D ka sg A nL n0 (pc, ls, st, h, k) z := by
  unfold mLs at hls
  rw [Bool.and_eq_true] at hls
  obtain ⟨h1, h2⟩ := (Bool.and_eq_true _ _).mp hok
  have hdg : decode cc pc = .ok (.invokestatic idx, 3) := aD3 h1 rfl
  simp only [Bool.and_eq_true, Bool.or_eq_true, beq_iff_eq] at h2
  have hk : ∃ wh : Bool, ((wh = false ∧ aL4 o idx 1 a = true) ∨ (wh = true ∧ aL4 o idx 5 a = true)) ∧ aArg a b 1 wh false = true := by
    rcases h2 with ⟨rfl, h2⟩ | ⟨rfl, h2⟩ | ⟨rfl, h2⟩ | ⟨h2, h3⟩ | ⟨rfl, ⟨h2, h3⟩ | ⟨h2, h3⟩⟩
    · omega
    · omega
    · omega
    · exact ⟨false, Or.inl ⟨rfl, h2⟩, h3⟩
    · have := aL4_4 h2
      omega
    · exact ⟨true, Or.inr ⟨rfl, h2⟩, h3⟩
  obtain ⟨wh, hL, hA⟩ := hk
  unfold mCall at hz
  split at hz
  case isFalse => cases hz
  rename_i q
  obtain ⟨q1, q2, q3⟩ := q
  split at hz
  case h_2 => cases hz
  rename_i w h' kd hmr
  have q3 : ∀ v ∈ (st.take b).reverse, v.category = 1 := fun v hv => eq_of_beq (List.all_eq_true.mp q3 v (List.mem_reverse.mp hv))
  obtain ⟨ha, o9, cd9, hd9, rt9, n9, y9, b9, np, e1, e2, e3, e4, e5, e6, e7, e8, e9, e10, e11, e12, e13⟩ := aArg_ok hA
  rw [if_pos rfl] at e11
  obtain rfl : b = np := e4
  have s2e : st = ((st.take b).reverse).reverse ++ st.drop b := by rw [List.reverse_reverse, List.take_append_drop]
  have hlen : ((st.take b).reverse).length = b := by rw [List.length_reverse, List.length_take]; omega
  cases hz
  refine ⟨⟨Nat.le_add_right _ _, Nat.le_add_right _ _⟩, fun g1 g2 Q K s2 g H locs L a1 a2 a3 a4 => ?_⟩
  have C := (B.re g (aSnd_all hl d) (al2 := false)).1
  have hcon := hS s2 A a _ h _ hmr q3 ha (by rw [hlen, e3]) y9 b9 e2
  have hK : ∀ s3, mAg h.length s2 s3 → aSim p l e R s m args below meth c Q D ka s3 A nL false (pc + 3, ls, w.toList ++ st.drop b, h', (k.1 + kd.1, k.2 + kd.2)) := fun s3 g3 => K s3 (g.trans g3 hn)
  have hx : ∀ E st t, ¬ ∃ s3, mAg h.length s2 s3 ∧ aXC D ka s3 A false (.inl w, h', kd) E st t := fun E st t hq => by
    obtain ⟨s3, -, hq⟩ := hq
    exact aXC_ret E st t hq
  show W p l e R s m args below meth c H locs k.1 k.2 Q (F0 m pc L (st.map (aCv s2)))
  rw [s2e]
  rcases hL with ⟨rfl, hL⟩ | ⟨rfl, hL⟩
  · have e9 : hd9.isEmpty = true := e9
    rw [if_pos e9] at e10
    rw [aWs_plain e1 e2 e9] at hcon
    obtain ⟨p9, hp9⟩ := aL4_ok hL
    have hmy : aMy y9 b9 n9 rt9 b := ⟨e10, e8, e12, e13, e7, e6⟩
    have hrun := va_runS (As := (st.take b).reverse.map (aCv s2)) (rest := (st.drop b).map (aCv s2)) (g := F0 m pc L ((((st.take b).reverse).reverse ++ st.drop b).map (aCv s2))) (locs := locs) (cells := k.1) (slots := k.2) (below := below) (meth := meth) (e := e) ⟨C.1, C.2.1, C.2.2.1, C.2.2.2.1, C.2.2.2.2.1⟩ (vx_toMet hcon hx) (a_cwS C hmy (aL4_link hp9 (Or.inr (Or.inl rfl)) e2) e11 B.2.1.1 B.2.1.2) (a_pre C a1 a2 a4) rfl (by rw [List.length_map]; exact hlen) a3.1 (a_args _ _) (by show 2 * 0 + _ ≤ 8; rw [a_sum]; omega) hdg ⟨g1, g2⟩
    exact m_ret a2 a3 hls.1 (mV1_drop hls.2) hrun hK
  · have e9 : hd9.isEmpty = false := e9
    rw [if_neg (by rw [e9]; decide)] at e10
    rw [aWs_with e1 e2 e9] at hcon
    obtain ⟨p9, hp9⟩ := aL4_ok hL
    have hrun := vx_runSW (As := (st.take b).reverse.map (aCv s2)) (rest := (st.drop b).map (aCv s2)) (g := F0 m pc L ((((st.take b).reverse).reverse ++ st.drop b).map (aCv s2))) (locs := locs) (cells := k.1) (slots := k.2) (below := below) (meth := meth) (e := e) ⟨C.1, C.2.1, C.2.2.1, C.2.2.2.1, C.2.2.2.2.1⟩ (vx_toMet hcon hx) (m_cwSW C e10 e8 e12 e13 e7 e6 (aL4_link hp9 (Or.inr (Or.inr (Or.inr rfl))) e2) e11 B.2.1.1 B.2.1.2) (a_pre C a1 a2 a4) rfl (by rw [List.length_map]; exact hlen) a3.1 (a_args _ _) (by show 2 * 0 + _ ≤ 8; rw [a_sum]; omega) hdg ⟨g1, g2⟩
    exact m_ret a2 a3 hls.1 (mV1_drop hls.2) hrun hK
end MSN
end
section
/-! THE LAW'S MACHINE: WHAT A RUN SAYS, THE MACHINE DOES -/
theorem mKind_2 {i : Instr} {a : Nat} (h : mKind i a = 2) : ∃ idx, i = .invokestatic idx ∧ 133 ≤ a ∧ ¬ 500 ≤ a := by
  unfold mKind at h
  split at h
  · cases h
  · split at h <;> cases h
  · cases h
  · rename_i idx
    split at h
    · cases h
    · exact ⟨idx, rfl, by omega, by omega⟩
  · cases h
/-- the making of texts stands at one place alone -/
def mMacT : Bool := (List.range 165).all fun m => match aProg[m]? with
  | some (_, cd, _) => cd.zipIdx.all fun q => decide (mKind q.1.1 q.1.2.1 < 3) || (m == 164 && q.2 == 375)
  | none => true
set_option maxRecDepth 100000 in
theorem mMacT_ok : mMacT = true := by decide +kernel
theorem mMacT_at {m o n pc : Nat} {cd : List aI} {hd : aD} {rt : Option FieldType} {x : aI} (hm : aProg[m]? = some (o, cd, hd, rt, n)) (h165 : m < 165) (hx : cd[pc]? = some x) (h3 : ¬ mKind x.1 x.2.1 < 3) : m = 164 ∧ pc = 375 := by
  have h1 := List.all_eq_true.mp mMacT_ok m (List.mem_range.mpr h165)
  rw [hm] at h1
  have h2 := List.all_eq_true.mp h1 (x, pc) (List.mem_zipIdx_iff_getElem?.mpr hx)
  rw [Bool.or_eq_true, Bool.and_eq_true] at h2
  rcases h2 with h2 | h2
  · exact absurd (of_decide_eq_true h2) h3
  · exact ⟨eq_of_beq h2.1, eq_of_beq h2.2⟩
/-- what is owed of the making of a text -/
def mMacOk (l : Launch) (D : va_G) (ka : FieldType → ClassId) (d : Nat) (mr : aF) : Prop :=
  ∀ (p : Program) (e : Env) (R : Room) (s : State) (m : MethodId) (args : Array Value) (below : List Frame) (meth : Method) (c : Code) (sg : Nat → Nat) (A : Nat → Prop) (nL : Nat) (hd : aD) (cd : List aI) (rt : Option FieldType) (hh : List (Nat × Nat × Nat × Nat)) (n0 : Nat) (ls : List (Option Value)) (st : List Value) (h : aH) (k : aK) (z : aS ⊕ aR),
    aBd p l R s m args meth c D ka sg A nL 9 d cL_undone false false (aRun false d) hd cd rt hh → mMac mr n0 ls st h k = some z → mGl p l e R s m args below meth c D ka sg A nL n0 (375, ls, st, h, k) z
section MIT
variable {p : Program} {l : Launch} {e : Env} {R : Room} {s : State} {m : MethodId} {args : Array Value} {below : List Frame} {meth : Method} {c : Code} {D : va_G} {ka : FieldType → ClassId} {sg : Nat → Nat} {A : Nat → Prop} {nL o d n0 : Nat} {cc : ByteArray} {ini : Bool} {hd : aD} {cd : List aI} {rt : Option FieldType} {hh : List (Nat × Nat × Nat × Nat)} {mr : aF}
theorem m_one (hl : l.stackTraces = false) (B : aBd p l R s m args meth c D ka sg A nL o d cc false ini (aRun false d) hd cd rt hh) (hS : mSnd l D ka d mr) (hM : mMacOk l D ka d mr) (h9 : ∀ (pc : Nat) (x : aI), cd[pc]? = some x → ¬ mKind x.1 x.2.1 < 3 → pc = 375 ∧ cc = cL_undone ∧ o = 9 ∧ ini = false) {t : aS} {z : aS ⊕ aR} (hz : mStep n0 d mr hd cd rt t = some z) : mGl p l e R s m args below meth c D ka sg A nL n0 t z := by
  unfold mStep at hz
  split at hz
  · cases hz
  · rename_i i a b v hi
    have hok := B.2.2.2.2.2.2.2 _ _ hi
    split at hz
    · exact m_plain hl B hok hz
    · split at hz
      · rename_i g
        exact m_make hl B g.1 g.2.1 g.2.2.1 g.2.2.2 hok hz
      · cases hz
    · rename_i h2
      obtain ⟨idx, rfl, a1, a2⟩ := mKind_2 h2
      split at hz
      · rename_i g
        exact m_call B hl hS g.2.1 g.2.2 a1 hok a2 hz
      · cases hz
    · rename_i k0 k1 k2
      obtain ⟨e1, rfl, rfl, rfl⟩ := h9 _ _ hi (by
        show ¬ mKind i a < 3
        intro q
        have : mKind i a = 0 ∨ mKind i a = 1 ∨ mKind i a = 2 := by omega
        rcases this with q | q | q
        · exact k0 q
        · exact k1 q
        · exact k2 q)
      obtain ⟨pc, ls, st, h, k⟩ := t
      have e1 : pc = 375 := e1
      subst e1
      exact hM p e R s m args below meth c sg A nL hd cd rt hh n0 ls st h k z B hz
theorem m_it (hl : l.stackTraces = false) (B : aBd p l R s m args meth c D ka sg A nL o d cc false ini (aRun false d) hd cd rt hh) (hS : mSnd l D ka d mr) (hM : mMacOk l D ka d mr) (h9 : ∀ (pc : Nat) (x : aI), cd[pc]? = some x → ¬ mKind x.1 x.2.1 < 3 → pc = 375 ∧ cc = cL_undone ∧ o = 9 ∧ ini = false) : ∀ (n : Nat) (t : aS) (r : aR), aIt (mStep n0 d mr hd cd rt) n t = some (.inr r) → (t.2.2.2.2.1 ≤ r.2.2.1 ∧ t.2.2.2.2.2 ≤ r.2.2.2) ∧ (r.2.2.1 ≤ R.cells → r.2.2.2 ≤ R.slots → mSim p l e R s m args below meth c (mEq below D ka sg A n0 args s r) D ka sg A nL n0 t)
  | 0, t, r, h => by cases h
  | n + 1, t, r, h => by
    cases hf : mStep n0 d mr hd cd rt t with
    | none => rw [aIt_non hf] at h; cases h
    | some x =>
      cases x with
      | inl u =>
        rw [aIt_inl hf] at h
        obtain ⟨⟨k1, k2⟩, k3⟩ := m_one (e := e) (below := below) hl B hS hM h9 hf
        obtain ⟨⟨k4, k5⟩, k6⟩ := m_it hl B hS hM h9 n u r h
        exact ⟨⟨Nat.le_trans k1 k4, Nat.le_trans k2 k5⟩, fun g1 g2 => k3 (Nat.le_trans k4 g1) (Nat.le_trans k5 g2) _ (k6 g1 g2)⟩
      | inr q =>
        rw [aIt_inr hf] at h
        cases h
        exact m_one (e := e) (below := below) hl B hS hM h9 hf
end MIT
theorem mEq_out {below : List Frame} {D : va_G} {ka : FieldType → ClassId} {sg : Nat → Nat} {A : Nat → Prop} {n0 : Nat} {args : Array Value} {s : State} {r : aR} {t : State} (h : mEq below D ka sg A n0 args s r t) : vx_MQ below (fun a st o t => ∃ s2, mAg n0 sg s2 ∧ aQc D ka s2 A false r a st o t) (fun E st t => ∃ s2, mAg n0 sg s2 ∧ aXC D ka s2 A false r E st t) args s r.2.2.1 r.2.2.2 A t := by
  obtain ⟨s2, g, o, e1, e2, e3⟩ := h
  refine ⟨o, e1, e2, ?_⟩
  rcases e3 with ⟨q1, q2⟩ | ⟨q, e4, e5⟩
  · exact Or.inl ⟨⟨s2, g, q1⟩, q2⟩
  · exact Or.inr ⟨q, e4, vx_T_mono (fun E st t hx => ⟨s2, g, hx⟩) e5⟩
theorem mSnd_all {l : Launch} {D : va_G} {ka : FieldType → ClassId} (hl : l.stackTraces = false) (hM : ∀ d, mSnd l D ka d (mRun d) → mMacOk l D ka d (mRun d)) : ∀ d, mSnd l D ka d (mRun d)
  | 0 => by
    intro sg A a as h r hr
    cases hr
  | d + 1 => by
    intro sg A a as h r hr hcat ha hlen y b hyb
    have IH := mSnd_all (D := D) (ka := ka) hl hM d
    have IA := aSnd_all (D := D) (ka := ka) (sg := sg) (A := A) (al := false) hl d
    obtain ⟨o, cd, hd, rt, n, y', b', np, st, e1, e2, ⟨q1, q2, q3, q4, e3⟩, g1, g2, g3, g4, g5, g6, g7, g8⟩ := aMok_spec ha
    cases Option.some.inj (e2.symm.trans hyb)
    obtain ⟨o9, cd9, hd9, rt9, n9, hm, ⟨N, hit⟩⟩ := mRun_ex hr
    cases Option.some.inj (e1.symm.trans hm)
    have hok := aOk_all a ha
    unfold aOkM at hok
    rw [e1, e2] at hok
    have hlen2 : as.length ≤ n := by
      unfold aNa at hlen
      rw [e3] at hlen
      dsimp only at hlen
      omega
    have h9 : ∀ (pc : Nat) (x : aI), cd[pc]? = some x → ¬ mKind x.1 x.2.1 < 3 → pc = 375 ∧ b = cL_undone ∧ o = 9 ∧ (y.name == "<init>") = false := fun pc x hx h3 => by
      obtain ⟨rfl, rfl⟩ := mMacT_at e1 ha hx h3
      cases Option.some.inj (show some (y, b) = some (yL_undone, cL_undone) from e2.symm)
      exact ⟨rfl, rfl, (congrArg (fun z : Option (Nat × List aI × aD × Option FieldType × Nat) => match z with | some q => q.1 | none => 0) (e1.symm.trans (show aProg[164]? = some (9, aB_L_undone, [], some .boolean, 7) from rfl)) : o = 9), by decide⟩
    have key : ∀ (ws : List Cond) (hh : List (Nat × Nat × Nat × Nat)) (p : Program) (e : Env) (s : State) (m : MethodId) (args : Array Value) (below : List Frame) (meth : Method) (c : Code) (s₁ : State), (∀ w ∈ aWg, w ∈ ws) → aHm (aOwn o) hh hd = true → BodyLoose p l y (headSpec ws (aRm (d + 1) r.2.2)) b n rt e s m args below meth c s₁ → c.maxLocals = n → c.exceptionTable.toList = tableOf hh → aPc D ka sg A false as h args s →
        W p l e (headSpec ws (aRm (d + 1) r.2.2)).room s m args below meth c s.heap [] 0 0 (vx_MQ below (fun a st o t => ∃ s2, mAg h.length sg s2 ∧ aQc D ka s2 A false r a st o t) (fun E st t => ∃ s2, mAg h.length sg s2 ∧ aXC D ka s2 A false r E st t) args s r.2.2.1 r.2.2.2 A) (entryFrame m args n) := by
      intro ws hh p e s m args below meth c s₁ hws hhm B hml htb hP
      obtain ⟨hv, hrel, hkn, hA, hal⟩ := hP
      have hts := atoms_spec (ws := ws) B.pre
      have hown : s.vm.findClass y.cls = some m.cls := findClass_of_methodNamed B.named
      rw [g1] at hown
      have BD : aBd p l (aRm (d + 1) r.2.2) s m args meth c D ka sg A n o d b false (y.name == "<init>") (aRun false d) hd cd rt hh :=
        ⟨⟨B.exec, B.bytes, hml, hown, fun w hw => hts w (hws w hw), hkn, hA, hl⟩, ⟨Nat.le_of_eq rfl, by show 60 * d + 220 ≤ 60 * (d + 1) + 160; omega⟩, fun hi => (name_of_methodNamed B.named B.method).1.trans (eq_of_beq hi), ⟨htb, hhm⟩, B.notSynchronized, B.returns, IA, aOk_at hok⟩
      have hsim := (m_it (e := e) (below := below) (n0 := h.length) hl BD IH (hM d IH) h9 N _ _ hit).2 (Nat.le_refl _) (Nat.le_refl _)
      subst hv
      have hW := hsim sg mAg.rf s.heap [] _ hrel va_S.rf (aLoc_in hlen2 hcat) (fun z => by cases z)
      rw [lg_entry_eq]
      exact W_mono (fun t ht => mEq_out ht) hW
    by_cases hd0 : hd = []
    · subst hd0
      refine vx_ofW (ws' := aWg) g2 (aWs_plain e1 e2 rfl) (fun p e s m args below meth c s₁ B hml ht hP => ?_)
      refine key (aWs a) [] p e s m args below meth c s₁ (fun w hw => ?_) rfl B hml ?_ hP
      · rw [aWs_plain e1 e2 rfl]
        exact List.mem_cons_of_mem _ hw
      · exact List.eq_nil_iff_forall_not_mem.mpr fun z hz => ht z hz
    · have hd1 : hd.isEmpty = false := by cases hd with
        | nil => exact absurd rfl hd0
        | cons _ _ => rfl
      rw [if_neg (by rw [hd1]; decide)] at g6
      refine vx_ofWH (ws' := aWg) (hh := aHh a) g2 (aWs_with e1 e2 hd1) (fun p e s m args below meth c s₁ B hml hP => ?_)
      refine key (aWs a) (aHh a) p e s m args below meth c s₁ (fun w hw => ?_) g6.2 B hml ?_ hP
      · rw [aWs_with e1 e2 hd1]
        exact List.mem_cons_of_mem _ hw
      · refine vx_table (x := y) B (bytes := b) (maxL' := n) (ret' := rt) (atoms_spec (ws := aWs a) B.pre _ ?_)
        rw [aWs_with e1 e2 hd1]
        exact List.mem_cons_self
end
section
/-! RENAMING: a run on a few cells is a run on a heap that holds those cells elsewhere -/
def aCc (u : Nat → Nat) (c : aC) : aC := (c.1, match c.2 with
  | .inl x => .inl (x.1, aCa u x.2)
  | .inr x => .inr (x.1, x.2.map (aCv u)))
def aIso (u : Nat → Nat) (h H : aH) : Prop := (∀ (q : Nat) (c : aC), h[q]? = some c → H[u q]? = some (aCc u c)) ∧ (∀ q q1 : Nat, q < h.length → q1 < h.length → u q = u q1 → q = q1) ∧ ∀ q, q < 8 → u q = q
def aFr (u : Nat → Nat) (h H h1 H1 : aH) : Prop := aIso u h1 H1 ∧ h1.length = h.length ∧ H1.length = H.length ∧ ∀ j : Nat, (∀ q, q < h.length → u q ≠ j) → H1[j]? = H[j]?
def aRv (u : Nat → Nat) (r : Option Value ⊕ Nat) : Option Value ⊕ Nat := match r with
  | .inl v => .inl (v.map (aCv u))
  | .inr e => .inr e
def aLm (u : Nat → Nat) (ls : List (Option Value)) : List (Option Value) := ls.map (Option.map (aCv u))
/-- where the one step comes to something, the other comes to its image -/
def aRr (u : Nat → Nat) (h H : aH) (x X : Option (aS ⊕ aR)) : Prop := ∀ z, x = some z → match z with
  | .inl t => ∃ H1, X = some (.inl (t.1, aLm u t.2.1, t.2.2.1.map (aCv u), H1, t.2.2.2.2)) ∧ aFr u h H t.2.2.2.1 H1
  | .inr r => ∃ H1, X = some (.inr (aRv u r.1, H1, r.2.2)) ∧ aFr u h H r.2.1 H1
section REN
variable {u : Nat → Nat} {h H h1 H1 : aH} {x X : Option (aS ⊕ aR)} {pc : Nat} {ls : List (Option Value)} {st : List Value} {k : aK}
theorem aFr.rf (I : aIso u h H) : aFr u h H h H := ⟨I, rfl, rfl, fun _ _ => rfl⟩
theorem aFr.trans {h2 H2 : aH} (F : aFr u h H h1 H1) (G : aFr u h1 H1 h2 H2) : aFr u h H h2 H2 :=
  ⟨G.1, G.2.1.trans F.2.1, G.2.2.1.trans F.2.2.1, fun j hj => (G.2.2.2 j (by rw [F.2.1]; exact hj)).trans (F.2.2.2 j hj)⟩
theorem aIso.lt (I : aIso u h H) {q : Nat} {c : aC} (hq : h[q]? = some c) : u q < H.length := (List.getElem?_eq_some_iff.mp (I.1 q c hq)).1
theorem aFr.set (I : aIso u h H) {q : Nat} {c0 c C : aC} (hq : h[q]? = some c0) (hc : C = aCc u c) : aFr u h H (h.set q c) (H.set (u q) C) := by
  subst hc
  have hl : q < h.length := (List.getElem?_eq_some_iff.mp hq).1
  refine ⟨⟨fun j d hj => ?_, fun j j1 hj hj1 => ?_, I.2.2⟩, List.length_set, List.length_set, fun j hj => ?_⟩
  · by_cases e : j = q
    · subst e
      rw [List.getElem?_set_self hl] at hj
      cases hj
      rw [List.getElem?_set_self (I.lt hq)]
    · rw [List.getElem?_set_ne (Ne.symm e)] at hj
      have hjl : j < h.length := (List.getElem?_eq_some_iff.mp hj).1
      rw [List.getElem?_set_ne (fun e2 => e (I.2.1 j q hjl hl e2.symm))]
      exact I.1 j d hj
  · rw [List.length_set] at hj hj1
    exact I.2.1 j j1 hj hj1
  · exact List.getElem?_set_ne (hj q hl)
theorem q_none : aRr u h H none X := fun z hz => by cases hz
theorem q_go {h2 : aH} {H2 : aH} {pc1 : Nat} {ls1 LS : List (Option Value)} {st1 ST : List Value} {k1 : aK} (F : aFr u h H h2 H2) (hl : LS = aLm u ls1) (hs : ST = st1.map (aCv u)) : aRr u h H (aGo pc1 ls1 st1 h2 k1) (aGo pc1 LS ST H2 k1) := by
  intro z hz
  cases hz
  subst hl
  subst hs
  exact ⟨H2, rfl, F⟩
theorem q_fin {h2 : aH} {H2 : aH} {r : Option Value ⊕ Nat} {k1 : aK} (F : aFr u h H h2 H2) : aRr u h H (some (.inr (r, h2, k1))) (some (.inr (aRv u r, H2, k1))) := by
  intro z hz
  cases hz
  exact ⟨H2, rfl, F⟩
theorem q_ite {c C : Prop} {dc : Decidable c} {dC : Decidable C} (e : c → C) (K : c → aRr u h H x X) {Y : Option (aS ⊕ aR)} : aRr u h H (if c then x else none) (if C then X else Y) := by
  by_cases g : c
  · rw [if_pos g, if_pos (e g)]
    exact K g
  · rw [if_neg g]
    exact q_none
theorem q_not {c C : Prop} {dc : Decidable c} {dC : Decidable C} (e : C → c) (K : ¬ c → aRr u h H x X) {Y : Option (aS ⊕ aR)} : aRr u h H (if c then none else x) (if C then Y else X) := by
  by_cases g : c
  · rw [if_pos g]
    exact q_none
  · rw [if_neg g, if_neg (fun g2 => g (e g2))]
    exact K g
theorem q_P1 {f F : Int32 → List Value → Option (aS ⊕ aR)} (K : ∀ x r, st = .int x :: r → aRr u h H (f x r) (F x (r.map (aCv u)))) : aRr u h H (aP1 st f) (aP1 (st.map (aCv u)) F) := by
  unfold aP1
  split
  · rename_i x r
    exact K x r rfl
  · exact q_none
theorem q_P2 {f F : Int32 → Int32 → List Value → Option (aS ⊕ aR)} (K : ∀ x y r, st = .int y :: .int x :: r → aRr u h H (f x y r) (F x y (r.map (aCv u)))) : aRr u h H (aP2 st f) (aP2 (st.map (aCv u)) F) := by
  unfold aP2
  split
  · rename_i y x r
    exact K x y r rfl
  · exact q_none
theorem q_Pr {f F : Nat → List Value → Option (aS ⊕ aR)} (K : ∀ q r, st = .ref q :: r → aRr u h H (f q r) (F (u q) (r.map (aCv u)))) : aRr u h H (aPr st f) (aPr (st.map (aCv u)) F) := by
  unfold aPr
  split
  · rename_i q r
    exact K q r rfl
  · exact q_none
theorem q_Pir {f F : Int32 → Nat → List Value → Option (aS ⊕ aR)} (K : ∀ i q r, st = .int i :: .ref q :: r → aRr u h H (f i q r) (F i (u q) (r.map (aCv u)))) : aRr u h H (aPir st f) (aPir (st.map (aCv u)) F) := by
  unfold aPir
  split
  · rename_i i q r
    exact K i q r rfl
  · exact q_none
theorem q_Pvir {f F : Value → Int32 → Nat → List Value → Option (aS ⊕ aR)} (K : ∀ x i q r, st = x :: .int i :: .ref q :: r → aRr u h H (f x i q r) (F (aCv u x) i (u q) (r.map (aCv u)))) : aRr u h H (aPvir st f) (aPvir (st.map (aCv u)) F) := by
  unfold aPvir
  split
  · rename_i x i q r
    exact K x i q r rfl
  · exact q_none
theorem q_Ob (I : aIso u h H) {q : Nat} {f F : Bool → Nat → List Value → Option (aS ⊕ aR)} (K : ∀ w ci fs, h[q]? = some (w, .inr (ci, fs)) → aRr u h H (f w ci fs) (F w ci (fs.map (aCv u)))) : aRr u h H (aOb h q f) (aOb H (u q) F) := by
  unfold aOb
  split
  · rename_i w ci fs hq
    rw [show H[u q]? = some (w, .inr (ci, fs.map (aCv u))) from I.1 q _ hq]
    exact K w ci fs hq
  · exact q_none
theorem q_Ar (I : aIso u h H) {q : Nat} {f F : Bool → FieldType → vp_A → Option (aS ⊕ aR)} (K : ∀ w ty n y, h[q]? = some (w, .inl (ty, n, y)) → aRr u h H (f w ty (n, y)) (F w ty (aCa u (n, y)))) : aRr u h H (aAr h q f) (aAr H (u q) F) := by
  unfold aAr
  split
  · rename_i w ty y hq
    rw [show H[u q]? = some (w, .inl (ty, aCa u y)) from I.1 q _ hq]
    obtain ⟨n, y⟩ := y
    exact K w ty n y hq
  · exact q_none
theorem q_At {i : Int32} {n : Nat} {f F : Nat → Option (aS ⊕ aR)} (K : ∀ j, aIx i n = some j → aRr u h H (f j) (F j)) : aRr u h H (aAt i n f) (aAt i n F) := by
  unfold aAt
  split
  · rename_i j hj
    exact K j hj
  · exact q_none
theorem aSum_ren (r : List Value) : aSum (r.map (aCv u)) = aSum r := by
  unfold aSum
  rw [List.map_map]
  congr 1
  exact List.map_congr_left fun v _ => aCv_cat u v
theorem aFit_ren (ty : FieldType) (y : Value) : aFit ty (aCv u y) = aFit ty y := by
  cases y <;> cases ty <;> rfl
theorem aLm_at {n : Nat} {v : Value} (hv : ls[n]? = some (some v)) : (aLm u ls)[n]? = some (some (aCv u v)) := by
  unfold aLm
  rw [List.getElem?_map, hv]
  rfl
theorem aLm_set {n : Nat} {o : Option Value} : (aLm u ls).set n (o.map (aCv u)) = aLm u (ls.set n o) := by
  unfold aLm
  rw [List.map_set]
theorem aMay_ren {n : Nat} : aMay (aLm u ls) n = aMay ls n := by
  unfold aMay aLm
  rw [List.length_map]
  congr 1
  cases n with
  | zero => rfl
  | succ j =>
    dsimp only
    rw [List.getElem?_map]
    cases hj : ls[j]? with
    | none => rfl
    | some o =>
      cases o with
      | none => rfl
      | some v => exact congrArg (fun c => c == 1) (aCv_cat u v)
end REN
/-- statics and strings lie at the first places -/
def aSt8 (i : Instr) (a : Nat) : Bool := match i with
  | .getstatic _ => decide (a < 8)
  | .ldc _ => decide (a < 8)
  | _ => true
section RENX
variable {u : Nat → Nat} {h H h1 H1 : aH} {x X : Option (aS ⊕ aR)} {pc : Nat} {ls : List (Option Value)} {st : List Value} {k : aK}
variable {call : aF} {cls : Nat → Nat} {hd : aD} {cd : List aI} {rt : Option FieldType} {a b : Nat} {v : Int32} {nt : Bool}
theorem q_back {r0 : aR} (F : aFr u h H r0.2.1 H1) : aRr u h H (aBack nt hd cd pc ls st k (some r0)) (aBack nt hd cd pc (aLm u ls) (st.map (aCv u)) k (some (aRv u r0.1, H1, r0.2.2))) := by
  obtain ⟨x0, h', kd⟩ := r0
  cases x0 with
  | inl w => exact q_go F rfl (by cases w <;> rfl)
  | inr e =>
    cases nt with
    | true => exact q_none
    | false =>
      cases hh : aHd hd pc e with
      | none =>
        have e1 : ∀ (L : List (Option Value)) (S : List Value) (g : aH), aBack false hd cd pc L S k (some (.inr e, g, kd)) = if hd = [] then some (.inr (.inr e, g, (k.1 + kd.1, k.2 + kd.2))) else none := by
          intro L S g
          unfold aBack
          dsimp only
          rw [if_neg (by decide), hh]
        show aRr u h H (aBack false hd cd pc ls st k (some (.inr e, h', kd))) (aBack false hd cd pc (aLm u ls) (st.map (aCv u)) k (some (.inr e, H1, kd)))
        rw [e1, e1]
        exact q_ite id (fun _ => q_fin (r := .inr e) F)
      | some t =>
        have e1 : ∀ (L : List (Option Value)) (S : List Value) (g : aH), aBack false hd cd pc L S k (some (.inr e, g, kd)) = match cd[t]? with
            | some (.astore_n n, _) => if aMay L n.val then aGo (t + 1) (L.set n.val none) [] g (k.1 + kd.1, k.2 + kd.2) else none
            | some (.astore n, _) => if aMay L n then aGo (t + 2) (L.set n none) [] g (k.1 + kd.1, k.2 + kd.2) else none
            | _ => none := by
          intro L S g
          unfold aBack
          dsimp only
          rw [if_neg (by decide), hh]
          rfl
        show aRr u h H (aBack false hd cd pc ls st k (some (.inr e, h', kd))) (aBack false hd cd pc (aLm u ls) (st.map (aCv u)) k (some (.inr e, H1, kd)))
        intro z hz
        rw [e1] at hz ⊢
        split at hz
        · rename_i n _ hn
          exact q_ite (fun g => by rw [aMay_ren]; exact g) (fun _ => q_go F (aLm_set (o := none)) rfl) z hz
        · rename_i n _ hn
          exact q_ite (fun g => by rw [aMay_ren]; exact g) (fun _ => q_go F (aLm_set (o := none)) rfl) z hz
        · cases hz
theorem q_call (hcall : ∀ a as r, call a as h = some r → ∃ H1, call a (as.map (aCv u)) H = some (aRv u r.1, H1, r.2.2) ∧ aFr u h H r.2.1 H1) : aRr u h H (aCall nt call hd cd a b pc ls st h k) (aCall nt call hd cd a b pc (aLm u ls) (st.map (aCv u)) H k) := by
  unfold aCall
  refine q_ite (fun g => ?_) (fun g => ?_)
  · rw [List.length_map, ← List.map_drop, aSum_ren, ← List.map_take, List.all_map]
    refine ⟨g.1, g.2.1, ?_⟩
    rw [← g.2.2]
    congr 1
    funext w
    exact congrArg (fun c => c == 1) (aCv_cat u w)
  · cases hc : call a (st.take b).reverse h with
    | none => exact q_none
    | some r0 =>
      obtain ⟨H1, e, F⟩ := hcall a _ r0 hc
      rw [← List.map_take, ← List.map_reverse, e, ← List.map_drop]
      exact q_back F
theorem aRecv_ren (I : aIso u h H) (g : aRecv cls a b st h = true) : aRecv cls a b (st.map (aCv u)) H = true := by
  obtain ⟨q, fs, g1, g2, g3⟩ := aRecv_ex g
  unfold aRecv
  rw [List.getElem?_map, g1]
  dsimp only [Option.map, aCv]
  rw [show H[u q]? = some (true, .inr (cls a, fs.map (aCv u))) from I.1 q _ g2]
  dsimp only
  rw [beq_self_eq_true, decide_eq_true g3]
  rfl
theorem q_text (I : aIso u h H) : aRr u h H (aText a pc ls st h k) (aText a pc (aLm u ls) (st.map (aCv u)) H k) := by
  unfold aText
  split
  · refine q_Pir fun i q r _ => ?_
    rw [aSum_ren]
    exact q_ite id fun _ => q_Ob I fun w ci fs hq => q_ite id fun _ => q_At fun j hj => q_go (aFr.rf I) rfl rfl
  · refine q_Pr fun q r _ => ?_
    rw [aSum_ren]
    exact q_ite id fun _ => q_Ob I fun w ci fs hq => q_ite id fun _ => q_go (aFr.rf I) rfl rfl
  · exact q_none
theorem q_nat (I : aIso u h H) : aRr u h H (aNat a pc ls st h k) (aNat a pc (aLm u ls) (st.map (aCv u)) H k) := by
  unfold aNat
  split
  · refine q_P2 fun x y r _ => ?_
    rw [aSum_ren]
    exact q_ite id fun _ => q_go (aFr.rf I) rfl rfl
  · refine q_P2 fun x y r _ => ?_
    rw [aSum_ren]
    exact q_ite id fun _ => q_go (aFr.rf I) rfl rfl
  · split
    · rename_i n dp d sp q r
      show aRr u h H _ (if n < 0 ∨ dp < 0 ∨ sp < 0 ∨ 8 < aSum (r.map (aCv u)) then none else _)
      rw [aSum_ren]
      refine q_not id fun _ => q_Ar I fun w0 ty0 n0 y0 hq => q_Ar I fun w1 ty1 n1 y1 hd => ?_
      rcases y0 with f | y0 | y0 | y0 | y0 <;> try exact q_none
      rcases y1 with g | y1 | y1 | y1 | y1 <;> try exact q_none
      exact q_ite id fun _ => q_go (aFr.set I hd rfl) rfl rfl
    · exact q_none
  · exact q_none

theorem q_ex (I : aIso u h H) (hcall : ∀ a as r, call a as h = some r → ∃ H1, call a (as.map (aCv u)) H = some (aRv u r.1, H1, r.2.2) ∧ aFr u h H r.2.1 H1) {i : Instr} (hst : aSt8 i a = true) : aRr u h H (aEx call cls hd cd rt false i a b v pc ls st h k) (aEx call cls hd cd rt false i a b v pc (aLm u ls) (st.map (aCv u)) H k) := by
  have R := aFr.rf I
  cases i with
  | iconst n =>
    exact q_go R rfl rfl
  | bipush n =>
    exact q_go R rfl rfl
  | sipush n =>
    exact q_go R rfl rfl
  | ldc n =>
    have h8 : a < 8 := of_decide_eq_true hst
    by_cases hb : b = 1
    · show aRr u h H (if b = 1 then _ else _) (if b = 1 then _ else _)
      rw [if_pos hb, if_pos hb]
      exact q_go R rfl rfl
    show aRr u h H (if b = 1 then _ else _) (if b = 1 then _ else _)
    rw [if_neg hb, if_neg hb]
    intro z hz
    split at hz
    · rename_i w ci fs hq
      have hq2 := I.1 a _ hq
      rw [I.2.2 a h8] at hq2
      rw [hq2]
      exact q_ite id (fun _ => q_go R rfl (by show _ = aCv u (.ref a) :: _; rw [show aCv u (.ref a) = .ref a from congrArg Value.ref (I.2.2 a h8)])) z hz
    · cases hz
  | ldc2_w n =>
    exact q_go R rfl rfl
  | lstore_n n =>
    rcases st with _ | ⟨y, r⟩
    · exact q_none
    cases y <;> try exact q_none
    rename_i y
    show aRr u h H (if aMay ls n.val = true ∧ n.val + 1 < ls.length then _ else none) (if aMay (aLm u ls) n.val = true ∧ n.val + 1 < (aLm u ls).length then _ else none)
    rw [aMay_ren, show (aLm u ls).length = ls.length from List.length_map _]
    refine q_ite id fun _ => q_go R ?_ rfl
    rw [show (aLm u ls).set n.val (some (.long y)) = aLm u (ls.set n.val (some (.long y))) from aLm_set (o := some (.long y))]
    exact aLm_set (o := none)
  | iushr =>
    exact q_P2 fun _ _ _ _ => q_go R rfl rfl
  | ifnull o =>
    exact q_Pr fun _ _ _ => q_go R rfl rfl
  | lload_n n =>
    intro z hz
    unfold aEx at hz
    dsimp only at hz
    split at hz
    · rename_i y hy
      have e : aEx call cls hd cd rt false (.lload_n n) a b v pc (aLm u ls) (st.map (aCv u)) H k = aGo (pc + 1) (aLm u ls) (.long y :: st.map (aCv u)) H k := by
        unfold aEx
        dsimp only
        rw [aLm_at hy]
        rfl
      rw [e]
      exact q_go R rfl rfl z hz
    · cases hz
  | ladd =>
    rcases st with _ | ⟨y, _ | ⟨x9, r⟩⟩
    · exact q_none
    · cases y <;> exact q_none
    cases y <;> try exact q_none
    all_goals cases x9 <;> try exact q_none
    exact q_go R rfl rfl
  | lmul =>
    rcases st with _ | ⟨y, _ | ⟨x9, r⟩⟩
    · exact q_none
    · cases y <;> exact q_none
    cases y <;> try exact q_none
    all_goals cases x9 <;> try exact q_none
    exact q_go R rfl rfl
  | iload_n n =>
    intro z hz
    unfold aEx at hz
    dsimp only at hz
    split at hz
    · rename_i y hy
      have e : aEx call cls hd cd rt false (.iload_n n) a b v pc (aLm u ls) (st.map (aCv u)) H k = aGo (pc + 1) (aLm u ls) (.int y :: st.map (aCv u)) H k := by
        unfold aEx
        dsimp only
        rw [aLm_at hy]
        rfl
      rw [e]
      exact q_go R rfl rfl z hz
    · cases hz
  | iload n =>
    intro z hz
    unfold aEx at hz
    dsimp only at hz
    split at hz
    · rename_i y hy
      have e : aEx call cls hd cd rt false (.iload n) a b v pc (aLm u ls) (st.map (aCv u)) H k = aGo (pc + 2) (aLm u ls) (.int y :: st.map (aCv u)) H k := by
        unfold aEx
        dsimp only
        rw [aLm_at hy]
        rfl
      rw [e]
      exact q_go R rfl rfl z hz
    · cases hz
  | aload_n n =>
    intro z hz
    unfold aEx at hz
    dsimp only at hz
    split at hz
    · rename_i y hy
      have e : aEx call cls hd cd rt false (.aload_n n) a b v pc (aLm u ls) (st.map (aCv u)) H k = aGo (pc + 1) (aLm u ls) (.ref (u y) :: st.map (aCv u)) H k := by
        unfold aEx
        dsimp only
        rw [aLm_at hy]
        rfl
      rw [e]
      exact q_go R rfl rfl z hz
    · cases hz
  | aload n =>
    intro z hz
    unfold aEx at hz
    dsimp only at hz
    split at hz
    · rename_i y hy
      have e : aEx call cls hd cd rt false (.aload n) a b v pc (aLm u ls) (st.map (aCv u)) H k = aGo (pc + 2) (aLm u ls) (.ref (u y) :: st.map (aCv u)) H k := by
        unfold aEx
        dsimp only
        rw [aLm_at hy]
        rfl
      rw [e]
      exact q_go R rfl rfl z hz
    · cases hz
  | fload n =>
    intro z hz
    unfold aEx at hz
    dsimp only at hz
    split at hz
    · rename_i y hy
      have e : aEx call cls hd cd rt false (.fload n) a b v pc (aLm u ls) (st.map (aCv u)) H k = aGo (pc + 2) (aLm u ls) (.float y :: st.map (aCv u)) H k := by
        unfold aEx
        dsimp only
        rw [aLm_at hy]
        rfl
      rw [e]
      exact q_go R rfl rfl z hz
    · cases hz
  | dload n =>
    intro z hz
    unfold aEx at hz
    dsimp only at hz
    split at hz
    · rename_i y hy
      have e : aEx call cls hd cd rt false (.dload n) a b v pc (aLm u ls) (st.map (aCv u)) H k = aGo (pc + 2) (aLm u ls) (.double y :: st.map (aCv u)) H k := by
        unfold aEx
        dsimp only
        rw [aLm_at hy]
        rfl
      rw [e]
      exact q_go R rfl rfl z hz
    · cases hz
  | iinc n w =>
    intro z hz
    unfold aEx at hz
    dsimp only at hz
    split at hz
    · rename_i y hy
      have e : aEx call cls hd cd rt false (.iinc n w) a b v pc (aLm u ls) (st.map (aCv u)) H k = if aMay ls n then aGo (pc + 3) ((aLm u ls).set n (some (.int (y + v)))) (st.map (aCv u)) H k else none := by
        unfold aEx
        dsimp only
        rw [aLm_at hy, aMay_ren]
        rfl
      rw [e]
      exact q_ite id (fun _ => q_go R (aLm_set (o := some (.int (y + v)))) rfl) z hz
    · cases hz
  | istore_n n =>
    refine q_P1 fun y r _ => ?_
    rw [aMay_ren]
    exact q_ite id fun _ => q_go R (aLm_set (o := some (.int y))) rfl
  | istore n =>
    refine q_P1 fun y r _ => ?_
    rw [aMay_ren]
    exact q_ite id fun _ => q_go R (aLm_set (o := some (.int y))) rfl
  | astore_n n =>
    refine q_Pr fun y r _ => ?_
    rw [aMay_ren]
    exact q_ite id fun _ => q_go R (aLm_set (o := some (.ref y))) rfl
  | astore n =>
    refine q_Pr fun y r _ => ?_
    rw [aMay_ren]
    exact q_ite id fun _ => q_go R (aLm_set (o := some (.ref y))) rfl
  | fstore n =>
    rcases st with _ | ⟨y, r⟩
    · exact q_none
    cases y <;> try exact q_none
    rename_i y
    show aRr u h H (if aMay ls n = true then _ else none) (if aMay (aLm u ls) n = true then _ else none)
    rw [aMay_ren]
    exact q_ite id fun _ => q_go R (aLm_set (o := some (.float y))) rfl
  | dstore n =>
    rcases st with _ | ⟨y, r⟩
    · exact q_none
    cases y <;> try exact q_none
    rename_i y
    show aRr u h H (if aMay ls n = true ∧ n + 1 < ls.length then _ else none) (if aMay (aLm u ls) n = true ∧ n + 1 < (aLm u ls).length then _ else none)
    rw [aMay_ren, show (aLm u ls).length = ls.length from List.length_map _]
    refine q_ite id fun _ => q_go R ?_ rfl
    rw [show (aLm u ls).set n (some (.double y)) = aLm u (ls.set n (some (.double y))) from aLm_set (o := some (.double y))]
    exact aLm_set (o := none)
  | iadd =>
    exact q_P2 fun _ _ _ _ => q_go R rfl rfl
  | isub =>
    exact q_P2 fun _ _ _ _ => q_go R rfl rfl
  | imul =>
    exact q_P2 fun _ _ _ _ => q_go R rfl rfl
  | iand =>
    exact q_P2 fun _ _ _ _ => q_go R rfl rfl
  | idiv =>
    exact q_P2 fun _ _ _ _ => q_not id fun _ => q_go R rfl rfl
  | irem =>
    exact q_P2 fun _ _ _ _ => q_not id fun _ => q_go R rfl rfl
  | i2l =>
    exact q_P1 fun _ _ _ => q_go R rfl rfl
  | i2c =>
    exact q_P1 fun _ _ _ => q_go R rfl rfl
  | i2f =>
    exact q_P1 fun _ _ _ => q_go R rfl rfl
  | i2d =>
    exact q_P1 fun _ _ _ => q_go R rfl rfl
  | f2d =>
    rcases st with _ | ⟨y, r⟩
    · exact q_none
    cases y <;> try exact q_none
    rename_i y
    exact q_ite id fun _ => q_go R rfl rfl
  | fdiv =>
    rcases st with _ | ⟨y, _ | ⟨x9, r⟩⟩
    · exact q_none
    · cases y <;> exact q_none
    cases y <;> try exact q_none
    all_goals cases x9 <;> try exact q_none
    exact q_ite id fun _ => q_go R rfl rfl
  | ddiv =>
    rcases st with _ | ⟨y, _ | ⟨x9, r⟩⟩
    · exact q_none
    · cases y <;> exact q_none
    cases y <;> try exact q_none
    all_goals cases x9 <;> try exact q_none
    exact q_ite id fun _ => q_go R rfl rfl
  | fconst n =>
    exact q_ite id fun _ => q_go R rfl rfl
  | dconst n =>
    exact q_ite id fun _ => q_go R rfl rfl
  | lcmp =>
    rcases st with _ | ⟨y, _ | ⟨x9, r⟩⟩
    · exact q_none
    · cases y <;> exact q_none
    cases y <;> try exact q_none
    all_goals cases x9 <;> try exact q_none
    exact q_go R rfl rfl
  | fcmp op =>
    rcases st with _ | ⟨y, _ | ⟨x9, r⟩⟩
    · exact q_none
    · cases y <;> exact q_none
    cases y <;> try exact q_none
    all_goals cases x9 <;> try exact q_none
    exact q_go R rfl rfl
  | dcmp op =>
    rcases st with _ | ⟨y, _ | ⟨x9, r⟩⟩
    · exact q_none
    · cases y <;> exact q_none
    cases y <;> try exact q_none
    all_goals cases x9 <;> try exact q_none
    exact q_go R rfl rfl
  | dup =>
    rcases st with _ | ⟨y, r⟩
    · exact q_none
    exact q_ite (fun g => (aCv_cat u y).trans g) fun _ => q_go R rfl rfl
  | dup2 =>
    rcases st with _ | ⟨y, _ | ⟨x9, r⟩⟩
    · exact q_none
    · exact q_none
    exact q_ite (fun g => ⟨(aCv_cat u y).trans g.1, (aCv_cat u x9).trans g.2⟩) fun _ => q_go R rfl rfl
  | ifCond c o =>
    exact q_P1 fun _ _ _ => q_go R rfl rfl
  | if_icmp c o =>
    exact q_P2 fun _ _ _ _ => q_go R rfl rfl
  | goto o =>
    exact q_go R rfl rfl
  | tableswitch dflt lo hi offs =>
    refine q_P1 fun y r _ => ?_
    split
    · exact q_go R rfl rfl
    · split
      · exact q_ite id fun _ => q_go R rfl rfl
      · exact q_none
  | lookupswitch dflt ps =>
    exact q_P1 fun y r _ => q_ite id fun _ => q_go R rfl rfl
  | getfield n =>
    refine q_Pr fun q r _ => q_Ob I fun w ci fs hq => q_ite id fun _ => ?_
    rw [List.getElem?_map]
    cases fs[b]? with
    | none => exact q_none
    | some y => exact q_go R rfl rfl
  | putfield n =>
    rcases st with _ | ⟨y, _ | ⟨x9, r⟩⟩
    · exact q_none
    · exact q_none
    cases x9 <;> try exact q_none
    rename_i q
    refine q_Ob I fun w ci fs hq => q_ite (fun g => ?_) fun _ => q_go (aFr.set I hq ?_) rfl rfl
    · rw [List.length_map, aFit_ren]
      exact g
    · unfold aCc
      dsimp only
      rw [List.map_set]
  | getstatic n =>
    have h8 : a < 8 := of_decide_eq_true hst
    exact q_go R rfl (by show _ = aCv u (.ref a) :: _; rw [show aCv u (.ref a) = .ref a from congrArg Value.ref (I.2.2 a h8)])
  | iaload =>
    refine q_Pir fun i q r _ => q_Ar I fun w ty n y hq => ?_
    cases ty <;> try exact q_none
    rcases y with y | y | y | y | y <;> try exact q_none
    exact q_At fun j _ => q_go R rfl rfl
  | caload =>
    refine q_Pir fun i q r _ => q_Ar I fun w ty n y hq => ?_
    cases ty <;> try exact q_none
    rcases y with y | y | y | y | y <;> try exact q_none
    exact q_At fun j _ => q_go R rfl rfl
  | laload =>
    refine q_Pir fun i q r _ => q_Ar I fun w ty n y hq => ?_
    cases ty <;> try exact q_none
    rcases y with y | y | y | y | y <;> try exact q_none
    exact q_At fun j _ => q_go R rfl rfl
  | aaload =>
    refine q_Pir fun i q r _ => q_Ar I fun w ty n y hq => ?_
    rcases y with y | y | y | y | y <;> try exact q_none
    refine q_ite id fun _ => q_At fun j _ => ?_
    show aRr u h H (match y j with | some y => _ | none => none) (match (y j).map u with | some y => _ | none => none)
    cases y j with
    | none => exact q_none
    | some y => exact q_go R rfl rfl
  | iastore =>
    refine q_Pvir fun x i q r _ => q_Ar I fun w ty n y hq => ?_
    cases x <;> try exact q_none
    all_goals cases ty <;> try exact q_none
    all_goals rcases y with y | y | y | y | y <;> try exact q_none
    exact q_ite id fun _ => q_At fun j _ => q_go (aFr.set I hq rfl) rfl rfl
  | lastore =>
    refine q_Pvir fun x i q r _ => q_Ar I fun w ty n y hq => ?_
    cases x <;> try exact q_none
    all_goals cases ty <;> try exact q_none
    all_goals rcases y with y | y | y | y | y <;> try exact q_none
    exact q_ite id fun _ => q_At fun j _ => q_go (aFr.set I hq rfl) rfl rfl
  | castore =>
    refine q_Pvir fun x i q r _ => q_Ar I fun w ty n y hq => ?_
    cases x <;> try exact q_none
    all_goals cases ty <;> try exact q_none
    all_goals rcases y with y | y | y | y | y <;> try exact q_none
    exact q_ite id fun _ => q_At fun j _ => q_go (aFr.set I hq rfl) rfl rfl
  | aastore =>
    refine q_Pvir fun x i q r _ => q_Ar I fun w ty n y hq => ?_
    cases x <;> try exact q_none
    rename_i x
    rcases y with y | y | y | y | y <;> try exact q_none
    refine q_Ob I fun w1 ci fs hx => q_ite id fun _ => q_At fun j _ => q_go (aFr.set I hq ?_) rfl rfl
    unfold aCc aCa
    dsimp only
    refine congrArg (fun g => (true, Sum.inl (FieldType.object RX6, n, Sum.inr (Sum.inr (Sum.inr (Sum.inr g)))))) (funext fun z => ?_)
    unfold va_up
    split <;> rfl
  | arraylength =>
    exact q_Pr fun q r _ => q_Ar I fun w ty n y hq => q_ite id fun _ => q_go R rfl rfl
  | newarray t =>
    exact q_P1 fun n r _ => q_ite (fun g => absurd g.1 (by decide)) fun g => absurd g.1 (by decide)
  | anewarray n =>
    exact q_P1 fun n r _ => q_ite (fun g => absurd g.1 (by decide)) fun g => absurd g.1 (by decide)
  | multianewarray n d =>
    rcases st with _ | ⟨y, _ | ⟨x9, r⟩⟩
    · exact q_none
    · cases y <;> exact q_none
    cases y <;> try exact q_none
    cases x9 <;> try exact q_none
  | new n =>
    show aRr u h H (if a = 999 then none else if 100 ≤ a then (if false = false ∧ hd = [] ∧ aSum st ≤ 8 then _ else none) else if false = true then _ else none) (if a = 999 then none else if 100 ≤ a then (if false = false ∧ hd = [] ∧ aSum (st.map (aCv u)) ≤ 8 then _ else none) else if false = true then _ else none)
    by_cases h9 : a = 999
    · rw [if_pos h9]
      exact q_none
    rw [if_neg h9, if_neg h9]
    by_cases ha : 100 ≤ a
    · rw [if_pos ha, if_pos ha, aSum_ren]
      exact q_ite id fun _ => q_fin (r := .inr (a - 100)) R
    · rw [if_neg ha]
      exact q_none
  | invokevirtual n =>
    show aRr u h H (if 500 ≤ a then _ else _) (if 500 ≤ a then _ else _)
    by_cases ha : 500 ≤ a
    · rw [if_pos ha, if_pos ha]
      exact q_text I
    · rw [if_neg ha, if_neg ha]
      exact q_ite (aRecv_ren I) fun _ => q_call hcall
  | invokestatic n =>
    show aRr u h H (if 500 ≤ a then _ else _) (if 500 ≤ a then _ else _)
    by_cases ha : 500 ≤ a
    · rw [if_pos ha, if_pos ha]
      exact q_nat I
    · rw [if_neg ha, if_neg ha]
      exact q_call hcall
  | invokespecial n =>
    show aRr u h H (if a = 600 then _ else _) (if a = 600 then _ else _)
    by_cases ha : a = 600
    · rw [if_pos ha, if_pos ha]
      refine q_Pr fun q r _ => ?_
      rw [aSum_ren]
      exact q_ite id fun _ => q_go R rfl rfl
    · rw [if_neg ha, if_neg ha]
      exact q_ite (aRecv_ren I) fun _ => q_call hcall
  | ireturn =>
    rcases st with _ | ⟨y, _ | ⟨x9, r⟩⟩
    · exact q_none
    · cases y <;> try exact q_none
      cases rt with
      | none => exact q_none
      | some ty => exact q_ite id fun _ => q_fin (r := .inl (some (.int _))) R
    · cases y <;> exact q_none
  | freturn =>
    rcases st with _ | ⟨y, _ | ⟨x9, r⟩⟩
    · exact q_none
    · cases y <;> try exact q_none
      exact q_ite id fun _ => q_fin (r := .inl (some (.float _))) R
    · cases y <;> exact q_none
  | dreturn =>
    rcases st with _ | ⟨y, _ | ⟨x9, r⟩⟩
    · exact q_none
    · cases y <;> try exact q_none
      exact q_ite id fun _ => q_fin (r := .inl (some (.double _))) R
    · cases y <;> exact q_none
  | lreturn =>
    rcases st with _ | ⟨y, _ | ⟨x9, r⟩⟩
    · exact q_none
    · cases y <;> try exact q_none
      exact q_ite id fun _ => q_fin (r := .inl (some (.long _))) R
    · cases y <;> exact q_none
  | areturn =>
    rcases st with _ | ⟨y, _ | ⟨x9, r⟩⟩
    · exact q_none
    · cases y <;> try exact q_none
      exact q_ite id fun _ => q_fin (r := .inl (some (.ref _))) R
    · cases y <;> exact q_none
  | return_ =>
    rcases st with _ | ⟨y, r⟩
    · exact q_ite id fun _ => q_fin (r := .inl none) R
    · exact q_none
  | _ => exact q_none
end RENX
/-- statics' and strings' places, all through the program -/
def aSt8s : Bool := aProg.all fun m => m.2.1.all fun q => aSt8 q.1 q.2.1
theorem q_it {u : Nat → Nat} {call : aF} {hd : aD} {cd : List aI} {rt : Option FieldType} (hst : (cd.all fun q => aSt8 q.1 q.2.1) = true) (hcall : ∀ (h H : aH), aIso u h H → ∀ a as r, call a as h = some r → ∃ H1, call a (as.map (aCv u)) H = some (aRv u r.1, H1, r.2.2) ∧ aFr u h H r.2.1 H1) : ∀ (n : Nat) (t : aS) (H : aH) (r : aR), aIso u t.2.2.2.1 H → aIt (aStep call aCls hd cd rt false) n t = some (.inr r) → ∃ H1, aIt (aStep call aCls hd cd rt false) n (t.1, aLm u t.2.1, t.2.2.1.map (aCv u), H, t.2.2.2.2) = some (.inr (aRv u r.1, H1, r.2.2)) ∧ aFr u t.2.2.2.1 H r.2.1 H1
  | 0, t, H, r, I, h => by cases h
  | n + 1, t, H, r, I, h => by
    have key : aRr u t.2.2.2.1 H (aStep call aCls hd cd rt false t) (aStep call aCls hd cd rt false (t.1, aLm u t.2.1, t.2.2.1.map (aCv u), H, t.2.2.2.2)) := by
      unfold aStep
      dsimp only
      cases hc : cd[t.1]? with
      | none => exact q_none
      | some q =>
        obtain ⟨i, a, b, v⟩ := q
        exact q_ex I (hcall _ _ I) (List.all_eq_true.mp hst _ (List.mem_of_getElem? hc))
    cases hf : aStep call aCls hd cd rt false t with
    | none => rw [aIt_non hf] at h; cases h
    | some x =>
      cases x with
      | inl w =>
        rw [aIt_inl hf] at h
        obtain ⟨H1, e1, F1⟩ := key _ hf
        obtain ⟨H2, e2, F2⟩ := q_it hst hcall n w H1 r F1.1 h
        exact ⟨H2, by rw [aIt_inl e1]; exact e2, F1.trans F2⟩
      | inr q =>
        rw [aIt_inr hf] at h
        cases h
        obtain ⟨H1, e1, F1⟩ := key _ hf
        exact ⟨H1, by rw [aIt_inr e1], F1⟩
theorem aRun_ren {u : Nat → Nat} (hst : aSt8s = true) : ∀ (d m : Nat) (as : List Value) (h H : aH) (r : aR), aIso u h H → aRun false d m as h = some r → ∃ H1, aRun false d m (as.map (aCv u)) H = some (aRv u r.1, H1, r.2.2) ∧ aFr u h H r.2.1 H1
  | 0, m, as, h, H, r, I, hr => by cases hr
  | d + 1, m, as, h, H, r, I, hr => by
    obtain ⟨o, cd, hd, rt, n, hm, N, hit⟩ := aRun_ex hr
    obtain ⟨H1, e1, F1⟩ := q_it (u := u) (call := aRun false d) (hd := hd) (cd := cd) (rt := rt) (List.all_eq_true.mp hst _ (List.mem_of_getElem? hm)) (fun h H I a as r hr => aRun_ren hst d a as h H r I hr) N (0, aIn n as, [], h, (0, 0)) H r I hit
    refine ⟨H1, aRun_of hm ⟨N, ?_⟩, F1⟩
    rw [← e1]
    have e2 : aIn n (as.map (aCv u)) = aLm u (aIn n as) := by
      unfold aIn aLm
      rw [List.length_map, List.map_append, List.map_map, List.map_map, List.map_replicate]
      rfl
    rw [e2]
    rfl
set_option maxRecDepth 100000 in
theorem aSt8_ok : aSt8s = true := by decide +kernel
end
section
/-! WHAT MUST HOLD FOR A RUN TO COME TO AN END: branches, indices and calls as obligations -/
def aVs (z : Option (aS ⊕ aR)) (K : aS ⊕ aR → Prop) : Prop := match z with
  | some z => K z
  | none => False
def aVt (K : aS ⊕ aR → Prop) (o : Int) (ls : List (Option Value)) (st : List Value) (h : aH) (k : aK) : Prop := match decide (0 ≤ o) with
  | true => K (.inl (o.toNat, ls, st, h, k))
  | false => False
def aSw (K : aS ⊕ aR → Prop) (x : Int32) (pc : Nat) (ls : List (Option Value)) (st : List Value) (h : aH) (k : aK) : List Int → Int → Prop
  | [], _ => True
  | o :: os, l => (x.toInt = l → aVt K (pc + o) ls st h k) ∧ aSw K x pc ls st h k os (l + 1)
def aLw (K : aS ⊕ aR → Prop) (x : Int32) (pc : Nat) (ls : List (Option Value)) (st : List Value) (h : aH) (k : aK) : List (Int × Int) → Prop
  | [] => True
  | p :: ps => (x.toInt = p.1 → aVt K (pc + p.2) ls st h k) ∧ aLw K x pc ls st h k ps
def aVc (nt : Bool) (call : aF) (hd : aD) (cd : List aI) (a b : Nat) (pc : Nat) (ls : List (Option Value)) (st : List Value) (h : aH) (k : aK) (K : aS ⊕ aR → Prop) : Prop :=
  match decide (b ≤ st.length) && (decide (aSum (st.drop b) ≤ 8) && ((st.take b).all fun x => x.category == 1)) with
  | true => ∃ r, call a (st.take b).reverse h = some r ∧ aVs (aBack nt hd cd pc ls (st.drop b) k (some r)) K
  | false => False
def aV (call : aF) (cls : Nat → Nat) (hd : aD) (cd : List aI) (rt : Option FieldType) (i : Instr) (a b : Nat) (v : Int32) (pc : Nat) (ls : List (Option Value)) (st : List Value) (h : aH) (k : aK) (K : aS ⊕ aR → Prop) : Prop := match i with
  | .ifCond c _ => match st with
    | .int x :: r => (aCond c x 0 = true → K (.inl (a, ls, r, h, k))) ∧ (aCond c x 0 = false → K (.inl (pc + 3, ls, r, h, k)))
    | _ => False
  | .if_icmp c _ => match st with
    | .int y :: .int x :: r => (aCond c x y = true → K (.inl (a, ls, r, h, k))) ∧ (aCond c x y = false → K (.inl (pc + 3, ls, r, h, k)))
    | _ => False
  | .idiv => match st with
    | .int y :: .int x :: r => ¬ y = 0 ∧ K (.inl (pc + 1, ls, .int (x / y) :: r, h, k))
    | _ => False
  | .irem => match st with
    | .int y :: .int x :: r => ¬ y = 0 ∧ K (.inl (pc + 1, ls, .int (x - x / y * y) :: r, h, k))
    | _ => False
  | .f2d => match st with
    | .float x :: r => FP.f2d x &&& 0x7fffffffffffffff ≤ 0x7ff0000000000000 ∧ K (.inl (pc + 1, ls, .double (FP.f2d x) :: r, h, k))
    | _ => False
  | .fdiv => match st with
    | .float y :: .float x :: r => FP.fdiv x y &&& 0x7fffffff ≤ 0x7f800000 ∧ K (.inl (pc + 1, ls, .float (FP.fdiv x y) :: r, h, k))
    | _ => False
  | .ddiv => match st with
    | .double y :: .double x :: r => FP.ddiv x y &&& 0x7fffffffffffffff ≤ 0x7ff0000000000000 ∧ K (.inl (pc + 1, ls, .double (FP.ddiv x y) :: r, h, k))
    | _ => False
  | .iaload => match st with
    | .int i :: .ref q :: r => match h[q]? with
      | some (_, .inl (.int, n, .inl f)) => ∃ j, aIx i n = some j ∧ K (.inl (pc + 1, ls, .int (f j) :: r, h, k))
      | _ => False
    | _ => False
  | .laload => match st with
    | .int i :: .ref q :: r => match h[q]? with
      | some (_, .inl (.long, n, .inr (.inl f))) => ∃ j, aIx i n = some j ∧ K (.inl (pc + 1, ls, .long (f j) :: r, h, k))
      | _ => False
    | _ => False
  | .lastore => match st with
    | .long x :: .int i :: .ref q :: r => match h[q]? with
      | some (true, .inl (.long, n, .inr (.inl f))) => ∃ j, aIx i n = some j ∧ K (.inl (pc + 1, ls, r, h.set q (true, .inl (.long, n, .inr (.inl (vp_updL f j x)))), k))
      | _ => False
    | _ => False
  | .caload => match st with
    | .int i :: .ref q :: r => match h[q]? with
      | some (_, .inl (.char, n, .inl f)) => ∃ j, aIx i n = some j ∧ K (.inl (pc + 1, ls, .int (f j) :: r, h, k))
      | _ => False
    | _ => False
  | .aaload => match st with
    | .int i :: .ref q :: r => match h[q]? with
      | some (true, .inl (ty, n, .inr (.inr (.inr (.inr f))))) => match ty.isReference && aTk ty with
        | true => ∃ j y, aIx i n = some j ∧ f j = some y ∧ K (.inl (pc + 1, ls, .ref y :: r, h, k))
        | false => False
      | _ => False
    | _ => False
  | .iastore => match st with
    | .int x :: .int i :: .ref q :: r => match h[q]? with
      | some (true, .inl (.int, n, .inl f)) => ∃ j, aIx i n = some j ∧ K (.inl (pc + 1, ls, r, h.set q (true, .inl (.int, n, .inl (upd f j x))), k))
      | _ => False
    | _ => False
  | .castore => match st with
    | .int x :: .int i :: .ref q :: r => match h[q]? with
      | some (true, .inl (.char, n, .inl f)) => (x.toUInt32 % 65536).toInt32 = x ∧ ∃ j, aIx i n = some j ∧ K (.inl (pc + 1, ls, r, h.set q (true, .inl (.char, n, .inl (upd f j x))), k))
      | _ => False
    | _ => False
  | .aastore => match st with
    | .ref y :: .int i :: .ref q :: r => match h[q]? with
      | some (true, .inl (.object nm, n, .inr (.inr (.inr (.inr f))))) => match h[y]? with
        | some (true, .inr (6, _)) => nm = RX6 ∧ ∃ j, aIx i n = some j ∧ K (.inl (pc + 1, ls, r, h.set q (true, .inl (.object RX6, n, .inr (.inr (.inr (.inr (va_up f j (some y))))))), k))
        | _ => False
      | _ => False
    | _ => False
  | .ireturn => match st with
    | [.int x] => match rt with
      | some .int => K (.inr (.inl (some (.int x)), h, k))
      | some ty => aFit ty (.int x) = true ∧ K (.inr (.inl (some (.int x)), h, k))
      | none => False
    | _ => False
  | .tableswitch _ lo hi offs => match st with
    | .int x :: r => match decide (offs.toList.length = (hi - lo + 1).toNat ∧ 0 ≤ hi - lo + 1) with
      | true => (x.toInt < lo ∨ hi < x.toInt → K (.inl (a, ls, r, h, k))) ∧ aSw K x pc ls r h k offs.toList lo
      | false => False
    | _ => False
  | .lookupswitch dflt ps => match st with
    | .int x :: r => ((∀ p ∈ ps.toList, x.toInt ≠ p.1) → aVt K (pc + dflt) ls r h k) ∧ aLw K x pc ls r h k ps.toList
    | _ => False
  | .invokevirtual _ => match decide (500 ≤ a) with
    | true => ∃ z, aText a pc ls st h k = some z ∧ K z
    | false => match aRecv cls a b st h with
      | true => aVc (v == 1) call hd cd a b pc ls st h k K
      | false => False
  | .invokestatic _ => match decide (500 ≤ a) with
    | true => ∃ z, aNat a pc ls st h k = some z ∧ K z
    | false => aVc (v == 1) call hd cd a b pc ls st h k K
  | .invokespecial _ => match decide (a = 600) with
    | true => aVs (aEx call cls hd cd rt false i a b v pc ls st h k) K
    | false => match aRecv cls a b st h with
      | true => aVc (v == 1) call hd cd a b pc ls st h k K
      | false => False
  | _ => aVs (aEx call cls hd cd rt false i a b v pc ls st h k) K
section WPS
variable {call : aF} {cls : Nat → Nat} {hd : aD} {cd : List aI} {rt : Option FieldType} {a b : Nat} {v : Int32} {nt : Bool} {pc : Nat} {ls : List (Option Value)} {st r : List Value} {h : aH} {k : aK} {K : aS ⊕ aR → Prop}
theorem aVs_ok {z : Option (aS ⊕ aR)} (w : aVs z K) : ∃ y, z = some y ∧ K y := by
  cases z with
  | none => cases w
  | some y => exact ⟨y, rfl, w⟩
theorem aVt_ok {o : Int} (w : aVt K o ls st h k) : 0 ≤ o ∧ K (.inl (o.toNat, ls, st, h, k)) := by
  unfold aVt at w
  split at w
  · rename_i g
    exact ⟨of_decide_eq_true g, w⟩
  · cases w
theorem aVc_ok (w : aVc nt call hd cd a b pc ls st h k K) : ∃ y, aCall nt call hd cd a b pc ls st h k = some y ∧ K y := by
  unfold aVc at w
  split at w
  · rename_i g
    rw [Bool.and_eq_true, Bool.and_eq_true] at g
    obtain ⟨r0, e, w⟩ := w
    obtain ⟨y, e1, e2⟩ := aVs_ok w
    refine ⟨y, ?_, e2⟩
    unfold aCall
    rw [if_pos ⟨of_decide_eq_true g.1, of_decide_eq_true g.2.1, g.2.2⟩, e]
    exact e1
  · cases w
theorem aSw_ok {x : Int32} : ∀ (os : List Int) (l : Int), aSw K x pc ls r h k os l → ∀ (j : Nat) (o : Int), os[j]? = some o → x.toInt = l + j → 0 ≤ (pc : Int) + o ∧ K (.inl (((pc : Int) + o).toNat, ls, r, h, k))
  | [], l, w, j, o, h1, h2 => by simp at h1
  | q :: os, l, w, 0, o, h1, h2 => by
    cases h1
    exact aVt_ok (w.1 (by rw [h2]; simp))
  | q :: os, l, w, j + 1, o, h1, h2 => aSw_ok os (l + 1) w.2 j o h1 (by rw [h2]; push_cast; omega)
theorem aLw_ok {x : Int32} : ∀ (ps : List (Int × Int)), aLw K x pc ls r h k ps → ∀ p ∈ ps, x.toInt = p.1 → 0 ≤ (pc : Int) + p.2 ∧ K (.inl (((pc : Int) + p.2).toNat, ls, r, h, k))
  | [], _, p, hp, _ => by cases hp
  | q :: ps, w, p, hp, hx => by
    rcases List.mem_cons.mp hp with rfl | hp
    · exact aVt_ok (w.1 hx)
    · exact aLw_ok ps w.2 p hp hx
theorem aLw_off {x : Int} {dflt : Int} : ∀ (ps : List (Int × Int)), (∃ p ∈ ps, x = p.1 ∧ Op.lookupswitch.offset ps dflt x = p.2) ∨ ((∀ p ∈ ps, x ≠ p.1) ∧ Op.lookupswitch.offset ps dflt x = dflt)
  | [] => Or.inr ⟨fun _ h => (by cases h), rfl⟩
  | (a, o) :: r => by
    rw [Op.lookupswitch.offset_cons]
    by_cases g : a = x
    · rw [if_pos g]
      exact Or.inl ⟨(a, o), List.mem_cons_self, g.symm, rfl⟩
    · rw [if_neg g]
      rcases aLw_off (x := x) (dflt := dflt) r with ⟨p, h1, h2, h3⟩ | ⟨h1, h2⟩
      · exact Or.inl ⟨p, List.mem_cons_of_mem _ h1, h2, h3⟩
      · refine Or.inr ⟨fun p hp => ?_, h2⟩
        rcases List.mem_cons.mp hp with rfl | hp
        · exact fun e => g e.symm
        · exact h1 p hp
theorem aV_ok {i : Instr} (w : aV call cls hd cd rt i a b v pc ls st h k K) : ∃ z, aEx call cls hd cd rt false i a b v pc ls st h k = some z ∧ K z := by
  cases i with
  | ifCond c o =>
    unfold aV at w
    dsimp only at w
    split at w
    · rename_i x r
      by_cases g : aCond c x 0 = true
      · exact ⟨_, by show aGo (if aCond c x 0 = true then a else pc + 3) ls r h k = _; rw [if_pos g]; rfl, w.1 g⟩
      · exact ⟨_, by show aGo (if aCond c x 0 = true then a else pc + 3) ls r h k = _; rw [if_neg g]; rfl, w.2 (by simpa using g)⟩
    · cases w
  | if_icmp c o =>
    unfold aV at w
    dsimp only at w
    split at w
    · rename_i y x r
      by_cases g : aCond c x y = true
      · exact ⟨_, by show aGo (if aCond c x y = true then a else pc + 3) ls r h k = _; rw [if_pos g]; rfl, w.1 g⟩
      · exact ⟨_, by show aGo (if aCond c x y = true then a else pc + 3) ls r h k = _; rw [if_neg g]; rfl, w.2 (by simpa using g)⟩
    · cases w
  | idiv =>
    unfold aV at w
    dsimp only at w
    split at w
    · rename_i y x r
      exact ⟨_, by show (if y = 0 then none else aGo (pc + 1) ls (.int (x / y) :: r) h k) = _; rw [if_neg w.1]; rfl, w.2⟩
    · cases w
  | irem =>
    unfold aV at w
    dsimp only at w
    split at w
    · rename_i y x r
      exact ⟨_, by show (if y = 0 then none else aGo (pc + 1) ls (.int (x - x / y * y) :: r) h k) = _; rw [if_neg w.1]; rfl, w.2⟩
    · cases w
  | f2d =>
    unfold aV at w
    dsimp only at w
    split at w
    · rename_i x r
      exact ⟨_, by show (if _ then aGo (pc + 1) ls (.double (FP.f2d x) :: r) h k else none) = _; rw [if_pos w.1]; rfl, w.2⟩
    · cases w
  | fdiv =>
    unfold aV at w
    dsimp only at w
    split at w
    · rename_i y x r
      exact ⟨_, by show (if _ then aGo (pc + 1) ls (.float (FP.fdiv x y) :: r) h k else none) = _; rw [if_pos w.1]; rfl, w.2⟩
    · cases w
  | ddiv =>
    unfold aV at w
    dsimp only at w
    split at w
    · rename_i y x r
      exact ⟨_, by show (if _ then aGo (pc + 1) ls (.double (FP.ddiv x y) :: r) h k else none) = _; rw [if_pos w.1]; rfl, w.2⟩
    · cases w
  | iaload =>
    unfold aV at w
    dsimp only at w
    split at w
    · rename_i i q r
      split at w
      · rename_i wr n f hq
        obtain ⟨j, hj, w⟩ := w
        exact ⟨_, by show aAr h q _ = _; unfold aAr aAt; rw [hq]; dsimp only; rw [hj]; rfl, w⟩
      · cases w
    · cases w
  | laload =>
    unfold aV at w
    dsimp only at w
    split at w
    · rename_i i q r
      split at w
      · rename_i wr n f hq
        obtain ⟨j, hj, w⟩ := w
        exact ⟨_, by show aAr h q _ = _; unfold aAr aAt; rw [hq]; dsimp only; rw [hj]; rfl, w⟩
      · cases w
    · cases w
  | lastore =>
    unfold aV at w
    dsimp only at w
    split at w
    · rename_i x i q r
      split at w
      · rename_i n f hq
        obtain ⟨j, hj, w⟩ := w
        exact ⟨_, by show aAr h q _ = _; unfold aAr aAt; rw [hq]; dsimp only; rw [if_pos rfl, hj]; rfl, w⟩
      · cases w
    · cases w
  | caload =>
    unfold aV at w
    dsimp only at w
    split at w
    · rename_i i q r
      split at w
      · rename_i wr n f hq
        obtain ⟨j, hj, w⟩ := w
        exact ⟨_, by show aAr h q _ = _; unfold aAr aAt; rw [hq]; dsimp only; rw [hj]; rfl, w⟩
      · cases w
    · cases w
  | aaload =>
    unfold aV at w
    dsimp only at w
    split at w
    · rename_i i q r
      split at w
      · rename_i ty n f hq
        split at w
        · rename_i g
          rw [Bool.and_eq_true] at g
          obtain ⟨j, y, hj, hy, w⟩ := w
          exact ⟨_, by show aAr h q _ = _; unfold aAr aAt; rw [hq]; dsimp only; rw [if_pos ⟨rfl, g.1, g.2⟩, hj]; dsimp only; rw [hy]; rfl, w⟩
        · cases w
      · cases w
    · cases w
  | iastore =>
    unfold aV at w
    dsimp only at w
    split at w
    · rename_i x i q r
      split at w
      · rename_i n f hq
        obtain ⟨j, hj, w⟩ := w
        exact ⟨_, by show aAr h q _ = _; unfold aAr aAt; rw [hq]; dsimp only; rw [if_pos rfl, hj]; rfl, w⟩
      · cases w
    · cases w
  | castore =>
    unfold aV at w
    dsimp only at w
    split at w
    · rename_i x i q r
      split at w
      · rename_i n f hq
        obtain ⟨hx, j, hj, w⟩ := w
        exact ⟨_, by show aAr h q _ = _; unfold aAr aAt; rw [hq]; dsimp only; rw [if_pos ⟨rfl, hx⟩, hj]; rfl, w⟩
      · cases w
    · cases w
  | aastore =>
    unfold aV at w
    dsimp only at w
    split at w
    · rename_i y i q r
      split at w
      · rename_i nm n f hq
        split at w
        · rename_i fs hy
          obtain ⟨rfl, j, hj, w⟩ := w
          exact ⟨_, by show aAr h q _ = _; unfold aAr aOb aAt; rw [hq]; dsimp only; rw [hy]; dsimp only; rw [if_pos ⟨rfl, rfl, rfl, rfl⟩, hj]; rfl, w⟩
        · cases w
      · cases w
    · cases w
  | ireturn =>
    unfold aV at w
    dsimp only at w
    split at w
    · rename_i x
      split at w
      · exact ⟨_, rfl, w⟩
      · rename_i ty hty
        exact ⟨_, by show (if aFit ty (.int x) = true then some _ else none) = _; rw [if_pos w.1], w.2⟩
      · cases w
    · cases w
  | tableswitch dflt lo hi offs =>
    unfold aV at w
    dsimp only at w
    split at w
    · rename_i x r
      split at w
      · rename_i g
        obtain ⟨g1, g2⟩ := of_decide_eq_true g
        by_cases c : x.toInt < lo ∨ hi < x.toInt
        · exact ⟨_, by show (if x.toInt < lo ∨ hi < x.toInt then aGo a ls r h k else _) = _; rw [if_pos c]; rfl, w.1 c⟩
        · have hj : (x.toInt - lo).toNat < offs.toList.length := by omega
          have ho : offs[(x.toInt - lo).toNat]? = some (offs.toList[(x.toInt - lo).toNat]) := by
            rw [← Array.getElem?_toList]
            exact List.getElem?_eq_getElem hj
          obtain ⟨q1, q2⟩ := aSw_ok _ _ w.2 (x.toInt - lo).toNat _ (List.getElem?_eq_getElem hj) (by omega)
          refine ⟨_, ?_, q2⟩
          show (if x.toInt < lo ∨ hi < x.toInt then aGo a ls r h k else match offs[(x.toInt - lo).toNat]? with
            | some o => if 0 ≤ (pc : Int) + o then aGo ((pc : Int) + o).toNat ls r h k else none
            | none => none) = _
          rw [if_neg c, ho]
          dsimp only
          rw [if_pos q1]
          rfl
      · cases w
    · cases w
  | lookupswitch dflt ps =>
    unfold aV at w
    dsimp only at w
    split at w
    · rename_i x r
      rcases aLw_off (x := x.toInt) (dflt := dflt) ps.toList with ⟨p, hp, h1, h2⟩ | ⟨h1, h2⟩
      · obtain ⟨q1, q2⟩ := aLw_ok _ w.2 p hp h1
        refine ⟨_, ?_, q2⟩
        show (if 0 ≤ (pc : Int) + Op.lookupswitch.offset ps.toList dflt x.toInt then aGo ((pc : Int) + Op.lookupswitch.offset ps.toList dflt x.toInt).toNat ls r h k else none) = _
        rw [h2, if_pos q1]
        rfl
      · obtain ⟨q1, q2⟩ := aVt_ok (w.1 h1)
        refine ⟨_, ?_, q2⟩
        show (if 0 ≤ (pc : Int) + Op.lookupswitch.offset ps.toList dflt x.toInt then aGo ((pc : Int) + Op.lookupswitch.offset ps.toList dflt x.toInt).toNat ls r h k else none) = _
        rw [h2, if_pos q1]
        rfl
    · cases w
  | invokevirtual n =>
    unfold aV at w
    dsimp only at w
    split at w
    · rename_i g
      obtain ⟨z, e, w⟩ := w
      exact ⟨z, by show (if 500 ≤ a then _ else _) = _; rw [if_pos (of_decide_eq_true g)]; exact e, w⟩
    · rename_i g
      split at w
      · rename_i g2
        obtain ⟨z, e, w⟩ := aVc_ok w
        exact ⟨z, by show (if 500 ≤ a then _ else (if _ then _ else _)) = _; rw [if_neg (of_decide_eq_false g), if_pos g2]; exact e, w⟩
      · cases w
  | invokestatic n =>
    unfold aV at w
    dsimp only at w
    split at w
    · rename_i g
      obtain ⟨z, e, w⟩ := w
      exact ⟨z, by show (if 500 ≤ a then _ else _) = _; rw [if_pos (of_decide_eq_true g)]; exact e, w⟩
    · rename_i g
      obtain ⟨z, e, w⟩ := aVc_ok w
      exact ⟨z, by show (if 500 ≤ a then _ else _) = _; rw [if_neg (of_decide_eq_false g)]; exact e, w⟩
  | invokespecial n =>
    unfold aV at w
    dsimp only at w
    split at w
    · exact aVs_ok w
    · rename_i g
      split at w
      · rename_i g2
        obtain ⟨z, e, w⟩ := aVc_ok w
        exact ⟨z, by show (if a = 600 then _ else (if _ then _ else _)) = _; rw [if_neg (of_decide_eq_false g), if_pos g2]; exact e, w⟩
      · cases w
  | _ => exact aVs_ok w
/-- n steps at most, and no further than to the places where stop holds -/
def aVn (call : aF) (hd : aD) (cd : List aI) (rt : Option FieldType) (stop : Nat → Bool) : Nat → aS → (aS ⊕ aR → Prop) → Prop
  | 0, s, K => K (.inl s)
  | n + 1, s, K => match cd[s.1]? with
    | none => False
    | some (i, a, b, v) => aV call aCls hd cd rt i a b v s.1 s.2.1 s.2.2.1 s.2.2.2.1 s.2.2.2.2 (fun z => match z with
      | .inl t => match stop t.1 with
        | true => K (.inl t)
        | false => aVn call hd cd rt stop n t K
      | .inr r => K (.inr r))
theorem aVn_ok {stop : Nat → Bool} : ∀ (n : Nat) (s : aS), aVn call hd cd rt stop n s K → ∃ z, (match z with | .inl t => aTo (aStep call aCls hd cd rt false) s t | .inr r => aEnd (aStep call aCls hd cd rt false) s r) ∧ K z
  | 0, s, w => ⟨.inl s, aTo.rf, w⟩
  | n + 1, s, w => by
    unfold aVn at w
    split at w
    · cases w
    · rename_i i a b v hc
      obtain ⟨z, e, w⟩ := aV_ok w
      have e1 : aStep call aCls hd cd rt false s = some z := by
        unfold aStep
        rw [hc]
        exact e
      cases z with
      | inl t =>
        dsimp only at w
        split at w
        · exact ⟨.inl t, aTo.one e1, w⟩
        · obtain ⟨z2, q1, q2⟩ := aVn_ok n t w
          refine ⟨z2, ?_, q2⟩
          cases z2 with
          | inl t2 => exact (aTo.one e1).trans q1
          | inr r2 => exact (aTo.one e1).fin q1
      | inr r => exact ⟨.inr r, aEnd.one e1, w⟩
/-- the end that is wanted -/
def aKe (F : aS → Option (aS ⊕ aR)) (r : aR) : aS ⊕ aR → Prop := fun z => match z with
  | .inl t => aEnd F t r
  | .inr q => q = r
theorem aVn_end {stop : Nat → Bool} {s : aS} {r : aR} (n : Nat) (w : aVn call hd cd rt stop n s (aKe (aStep call aCls hd cd rt false) r)) : aEnd (aStep call aCls hd cd rt false) s r := by
  obtain ⟨z, h1, h2⟩ := aVn_ok n s w
  cases z with
  | inl t => exact aTo.fin h1 h2
  | inr q =>
    have h3 : q = r := h2
    subst h3
    exact h1
end WPS
end
section
/-! THE LAW'S MACHINE: WHAT MUST HOLD FOR A RUN TO COME TO AN END -/
noncomputable def mEx (n0 d : Nat) (mr : aF) (hd : aD) (cd : List aI) (rt : Option FieldType) (i : Instr) (a b : Nat) (v : Int32) (pc : Nat) (ls : List (Option Value)) (st : List Value) (h : aH) (k : aK) : Option (aS ⊕ aR) := match mKind i a with
  | 0 => aEx (aRun false d) aCls hd cd rt false i a b v pc ls st h k
  | 1 => @ite _ (mCl h ∧ 8 ≤ h.length ∧ n0 ≤ h.length ∧ mLs h.length ls st = true) (Classical.propDecidable _) (aEx (aRun true d) aCls hd cd rt true i a b v pc ls st h k) none
  | 2 => if 8 ≤ h.length ∧ n0 ≤ h.length ∧ mLs h.length ls st = true then mCall mr a b pc ls st h k else none
  | _ => mMac mr n0 ls st h k
def mVc (mr : aF) (a b : Nat) (pc : Nat) (ls : List (Option Value)) (st : List Value) (h : aH) (k : aK) (K : aS ⊕ aR → Prop) : Prop :=
  match decide (b ≤ st.length) && (decide (aSum (st.drop b) ≤ 8) && ((st.take b).all fun x => x.category == 1)) with
  | true => ∃ w h1 kd, mr a (st.take b).reverse h = some (.inl w, h1, kd) ∧ K (.inl (pc + 3, ls, w.toList ++ st.drop b, h1, (k.1 + kd.1, k.2 + kd.2)))
  | false => False
def mG (n0 : Nat) (ls : List (Option Value)) (st : List Value) (h : aH) : Prop := 8 ≤ h.length ∧ n0 ≤ h.length ∧ mLs h.length ls st = true
def mV (n0 d : Nat) (mr : aF) (hd : aD) (cd : List aI) (rt : Option FieldType) (i : Instr) (a b : Nat) (v : Int32) (pc : Nat) (ls : List (Option Value)) (st : List Value) (h : aH) (k : aK) (K : aS ⊕ aR → Prop) : Prop := match i with
  | .iaload => match st with
    | .int i :: .ref q :: r => ∃ w n f j, h[q]? = some (w, .inl (.int, n, .inl f)) ∧ aIx i n = some j ∧ K (.inl (pc + 1, ls, .int (f j) :: r, h, k))
    | _ => False
  | .laload => match st with
    | .int i :: .ref q :: r => ∃ w n f j, h[q]? = some (w, .inl (.long, n, .inr (.inl f))) ∧ aIx i n = some j ∧ K (.inl (pc + 1, ls, .long (f j) :: r, h, k))
    | _ => False
  | .iastore => match st with
    | .int x :: .int i :: .ref q :: r => ∃ n f j h1, h[q]? = some (true, .inl (.int, n, .inl f)) ∧ aIx i n = some j ∧ h.set q (true, .inl (.int, n, .inl (upd f j x))) = h1 ∧ K (.inl (pc + 1, ls, r, h1, k))
    | _ => False
  | .lastore => match st with
    | .long x :: .int i :: .ref q :: r => ∃ n f j h1, h[q]? = some (true, .inl (.long, n, .inr (.inl f))) ∧ aIx i n = some j ∧ h.set q (true, .inl (.long, n, .inr (.inl (vp_updL f j x)))) = h1 ∧ K (.inl (pc + 1, ls, r, h1, k))
    | _ => False
  | .arraylength => match st with
    | .ref q :: r => ∃ w n f, h[q]? = some (w, .inl (.int, n, f)) ∧ K (.inl (pc + 1, ls, .int (Int32.ofNat n) :: r, h, k))
    | _ => False
  | .ldc _ => match decide (b = 1) with
    | true => K (.inl (pc + 2, ls, .int v :: st, h, k))
    | false => ∃ w fs, h[a]? = some (w, .inr (b, fs)) ∧ K (.inl (pc + 2, ls, .ref a :: st, h, k))
  | .newarray t => (mCl h ∧ mG n0 ls st h) ∧ match t with
    | .int => match st with
      | .int n :: r => (0 ≤ n ∧ n.toNatClampNeg ≤ 100000) ∧ K (.inl (pc + 2, ls, .ref h.length :: r, h ++ [(true, .inl (.int, n.toNatClampNeg, .inl fun _ => 0))], (k.1 + 1, k.2 + n.toNatClampNeg)))
      | _ => False
    | .long => match st with
      | .int n :: r => (0 ≤ n ∧ n.toNatClampNeg ≤ 100000) ∧ K (.inl (pc + 2, ls, .ref h.length :: r, h ++ [(true, .inl (.long, n.toNatClampNeg, .inr (.inl fun _ => 0)))], (k.1 + 1, k.2 + n.toNatClampNeg)))
      | _ => False
    | _ => False
  | .new _ => match decide (a = 999) with
    | true => ∃ z, mMac mr n0 ls st h k = some z ∧ K z
    | false => (mCl h ∧ mG n0 ls st h) ∧ aVs (aEx (aRun true d) aCls hd cd rt true i a b v pc ls st h k) K
  | .invokespecial _ => (mCl h ∧ mG n0 ls st h) ∧ match decide (a = 600) with
    | true => False
    | false => (aRecv aCls a b st h = true) ∧ aVc (v == 1) (aRun true d) hd cd a b pc ls st h k K
  | .invokevirtual _ => match decide (a = 503) with
    | true => match st with
      | .int i :: .ref q :: r => aSum r ≤ 8 ∧ ∃ w ci fs j, h[q]? = some (w, .inr (ci, fs)) ∧ (90 ≤ ci ∧ ci < 400) ∧ aIx i (aStr ci).length = some j ∧ K (.inl (pc + 3, ls, .int ((aStr ci).getD j 0) :: r, h, k))
      | _ => False
    | false => match decide (a = 505) with
      | true => match st with
        | .ref q :: r => aSum r ≤ 8 ∧ ∃ w ci fs, h[q]? = some (w, .inr (ci, fs)) ∧ (90 ≤ ci ∧ ci < 400) ∧ K (.inl (pc + 3, ls, .int (Int32.ofNat (aStr ci).length) :: r, h, k))
        | _ => False
      | false => match decide (500 ≤ a) with
        | true => False
        | false => match st[b - 1]? with
          | some (.ref q) => (1 ≤ b ∧ ∃ fs, h[q]? = some (true, .inr (aCls a, fs))) ∧ aVc (v == 1) (aRun false d) hd cd a b pc ls st h k K
          | _ => False
  | .invokestatic _ => match decide (a < 133 ∨ 500 ≤ a) with
    | true => aV (aRun false d) aCls hd cd rt i a b v pc ls st h k K
    | false => mG n0 ls st h ∧ mVc mr a b pc ls st h k K
  | _ => aV (aRun false d) aCls hd cd rt i a b v pc ls st h k K
section MWP
variable {n0 d : Nat} {mr : aF} {hd : aD} {cd : List aI} {rt : Option FieldType} {a b : Nat} {v : Int32} {pc : Nat} {ls : List (Option Value)} {st r : List Value} {h : aH} {k : aK} {K : aS ⊕ aR → Prop}
theorem aRecv_of {q : Nat} {fs : List Value} {cls : Nat → Nat} (h1 : st[b - 1]? = some (.ref q)) (h2 : h[q]? = some (true, .inr (cls a, fs))) (h3 : 1 ≤ b) : aRecv cls a b st h = true := by
  unfold aRecv
  rw [h1]
  dsimp only
  rw [h2]
  dsimp only
  rw [beq_self_eq_true, decide_eq_true h3]
  rfl
theorem mV_ok {i : Instr} (w : mV n0 d mr hd cd rt i a b v pc ls st h k K) : ∃ z, mEx n0 d mr hd cd rt i a b v pc ls st h k = some z ∧ K z := by
  cases i with
  | iaload =>
    unfold mV at w
    dsimp only at w
    split at w
    · obtain ⟨w0, n, f, j, hq, hj, w⟩ := w
      exact ⟨_, by show aAr h _ _ = _; unfold aAr aAt; rw [hq]; dsimp only; rw [hj]; rfl, w⟩
    · cases w
  | laload =>
    unfold mV at w
    dsimp only at w
    split at w
    · obtain ⟨w0, n, f, j, hq, hj, w⟩ := w
      exact ⟨_, by show aAr h _ _ = _; unfold aAr aAt; rw [hq]; dsimp only; rw [hj]; rfl, w⟩
    · cases w
  | iastore =>
    unfold mV at w
    dsimp only at w
    split at w
    · obtain ⟨n, f, j, h1, hq, hj, rfl, w⟩ := w
      exact ⟨_, by show aAr h _ _ = _; unfold aAr aAt; rw [hq]; dsimp only; rw [if_pos rfl, hj]; rfl, w⟩
    · cases w
  | lastore =>
    unfold mV at w
    dsimp only at w
    split at w
    · obtain ⟨n, f, j, h1, hq, hj, rfl, w⟩ := w
      exact ⟨_, by show aAr h _ _ = _; unfold aAr aAt; rw [hq]; dsimp only; rw [if_pos rfl, hj]; rfl, w⟩
    · cases w
  | arraylength =>
    unfold mV at w
    dsimp only at w
    split at w
    · obtain ⟨w0, n, f, hq, w⟩ := w
      exact ⟨_, by show aAr h _ _ = _; unfold aAr; rw [hq]; dsimp only; rw [if_pos (show aTk .int = true from rfl)]; rfl, w⟩
    · cases w
  | ldc n =>
    unfold mV at w
    dsimp only at w
    split at w
    · rename_i g
      exact ⟨_, by show (if b = 1 then _ else _) = _; rw [if_pos (of_decide_eq_true g)]; rfl, w⟩
    · rename_i g
      obtain ⟨w0, fs, hq, w⟩ := w
      exact ⟨_, by show (if b = 1 then _ else match h[a]? with | some (_, .inr (ci, _)) => if ci = b then aGo (pc + 2) ls (.ref a :: st) h k else none | _ => none) = _; rw [if_neg (of_decide_eq_false g), hq]; dsimp only; rw [if_pos rfl]; rfl, w⟩
  | newarray t =>
    unfold mV at w
    dsimp only at w
    obtain ⟨⟨g1, g2, g3, g4⟩, w⟩ := w
    split at w
    · split at w
      · obtain ⟨g, w⟩ := w
        refine ⟨_, ?_, w⟩
        unfold mEx
        show @ite _ _ (Classical.propDecidable _) _ _ = _
        rw [if_pos ⟨g1, g2, g3, g4⟩]
        show (if true = true ∧ _ ∧ _ then _ else _) = _
        rw [if_pos ⟨rfl, g⟩]
        rfl
      · cases w
    · split at w
      · obtain ⟨g, w⟩ := w
        refine ⟨_, ?_, w⟩
        unfold mEx
        show @ite _ _ (Classical.propDecidable _) _ _ = _
        rw [if_pos ⟨g1, g2, g3, g4⟩]
        show (if true = true ∧ _ ∧ _ then _ else _) = _
        rw [if_pos ⟨rfl, g⟩]
        rfl
      · cases w
    · cases w
  | new n =>
    unfold mV at w
    dsimp only at w
    split at w
    · rename_i g
      obtain ⟨z, e, w⟩ := w
      have g := of_decide_eq_true g
      subst g
      exact ⟨z, e, w⟩
    · rename_i g
      obtain ⟨⟨g1, g2, g3, g4⟩, w⟩ := w
      obtain ⟨z, e, w⟩ := aVs_ok w
      refine ⟨z, ?_, w⟩
      unfold mEx mKind
      dsimp only
      rw [if_neg (of_decide_eq_false g)]
      show @ite _ _ (Classical.propDecidable _) _ _ = _
      rw [if_pos ⟨g1, g2, g3, g4⟩]
      exact e
  | invokespecial n =>
    unfold mV at w
    dsimp only at w
    obtain ⟨⟨g1, g2, g3, g4⟩, w⟩ := w
    split at w
    · cases w
    · rename_i g
      obtain ⟨w1, w⟩ := w
      obtain ⟨z, e, w⟩ := aVc_ok w
      refine ⟨z, ?_, w⟩
      unfold mEx
      show @ite _ _ (Classical.propDecidable _) _ _ = _
      rw [if_pos ⟨g1, g2, g3, g4⟩]
      show (if a = 600 then _ else (if _ then _ else _)) = _
      rw [if_neg (of_decide_eq_false g), if_pos w1]
      exact e
  | invokevirtual n =>
    unfold mV at w
    dsimp only at w
    split at w
    · rename_i g
      have g := of_decide_eq_true g
      subst g
      split at w
      · obtain ⟨w0, w1, ci, fs, j, hq, hc, hj, w⟩ := w
        exact ⟨_, by show (if aSum _ ≤ 8 then aOb h _ _ else none) = _; rw [if_pos w0]; unfold aOb aAt; rw [hq]; dsimp only; rw [if_pos hc, hj]; rfl, w⟩
      · cases w
    · split at w
      · rename_i g9 g
        have g := of_decide_eq_true g
        subst g
        split at w
        · obtain ⟨w0, w1, ci, fs, hq, hc, w⟩ := w
          exact ⟨_, by show (if aSum _ ≤ 8 then aOb h _ _ else none) = _; rw [if_pos w0]; unfold aOb; rw [hq]; dsimp only; rw [if_pos hc]; rfl, w⟩
        · cases w
      · split at w
        · cases w
        · rename_i g
          split at w
          · rename_i q hq
            obtain ⟨⟨h1, fs, hf⟩, w⟩ := w
            obtain ⟨z, e, w⟩ := aVc_ok w
            exact ⟨z, by show (if 500 ≤ a then _ else (if _ then _ else _)) = _; rw [if_neg (of_decide_eq_false g), if_pos (aRecv_of hq hf h1)]; exact e, w⟩
          · cases w
  | invokestatic n =>
    unfold mV at w
    dsimp only at w
    split at w
    · rename_i g
      obtain ⟨z, e, w⟩ := aV_ok w
      refine ⟨z, ?_, w⟩
      unfold mEx mKind
      dsimp only
      rw [if_pos (of_decide_eq_true g)]
      exact e
    · rename_i g
      obtain ⟨g9, w⟩ := w
      unfold mVc at w
      split at w
      · rename_i gg
        rw [Bool.and_eq_true, Bool.and_eq_true] at gg
        obtain ⟨w0, h1, kd, e, w⟩ := w
        refine ⟨_, ?_, w⟩
        unfold mEx mKind
        dsimp only
        rw [if_neg (of_decide_eq_false g)]
        show (if _ then mCall mr a b pc ls st h k else none) = _
        rw [if_pos (show 8 ≤ h.length ∧ n0 ≤ h.length ∧ mLs h.length ls st = true from g9)]
        unfold mCall
        rw [if_pos ⟨of_decide_eq_true gg.1, of_decide_eq_true gg.2.1, gg.2.2⟩, e]
        rfl
      · cases w
  | _ =>
    unfold mV at w
    dsimp only at w
    exact aV_ok w
/-- n steps at most, and no further than to the places where stop holds -/
def mVn (n0 d : Nat) (mr : aF) (hd : aD) (cd : List aI) (rt : Option FieldType) (stop : Nat → Bool) : Nat → aS → (aS ⊕ aR → Prop) → Prop
  | 0, s, K => K (.inl s)
  | n + 1, s, K => match cd[s.1]? with
    | none => False
    | some (i, a, b, v) => mV n0 d mr hd cd rt i a b v s.1 s.2.1 s.2.2.1 s.2.2.2.1 s.2.2.2.2 (fun z => match z with
      | .inl t => match stop t.1 with
        | true => K (.inl t)
        | false => mVn n0 d mr hd cd rt stop n t K
      | .inr r => K (.inr r))
theorem mVn_ok {stop : Nat → Bool} : ∀ (n : Nat) (s : aS), mVn n0 d mr hd cd rt stop n s K → ∃ z, (match z with | .inl t => aTo (mStep n0 d mr hd cd rt) s t | .inr r => aEnd (mStep n0 d mr hd cd rt) s r) ∧ K z
  | 0, s, w => ⟨.inl s, aTo.rf, w⟩
  | n + 1, s, w => by
    unfold mVn at w
    split at w
    · cases w
    · rename_i i a b v hc
      obtain ⟨z, e, w⟩ := mV_ok w
      have e1 : mStep n0 d mr hd cd rt s = some z := by
        unfold mStep
        rw [hc]
        exact e
      cases z with
      | inl t =>
        dsimp only at w
        split at w
        · exact ⟨.inl t, aTo.one e1, w⟩
        · obtain ⟨z2, q1, q2⟩ := mVn_ok n t w
          refine ⟨z2, ?_, q2⟩
          cases z2 with
          | inl t2 => exact (aTo.one e1).trans q1
          | inr r2 => exact (aTo.one e1).fin q1
      | inr r => exact ⟨.inr r, aEnd.one e1, w⟩
theorem mVn_end {stop : Nat → Bool} {s : aS} {r : aR} (n : Nat) (w : mVn n0 d mr hd cd rt stop n s (aKe (mStep n0 d mr hd cd rt) r)) : aEnd (mStep n0 d mr hd cd rt) s r := by
  obtain ⟨z, h1, h2⟩ := mVn_ok n s w
  cases z with
  | inl t => exact aTo.fin h1 h2
  | inr q =>
    have h3 : q = r := h2
    subst h3
    exact h1
end MWP
end
