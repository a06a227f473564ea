/-! the methods' words -/
def aMok (m : Nat) : Bool := match aProg[m]?, aYs[m]?, aMtab[m]? with
  | some (o, _, hd, rt, n), some (y, b), some (pc, pi, pk, ps, np, st) =>
    decide (y.cls = aOwn o) && (plainName y.cls && (decide (n ≤ 40 ∧ np + (1 - st) ≤ n) && (decide ((parseMethodDescriptor y.desc).map (fun d => d.parameters.length) = some np) && ((match hd with
      | [] => aIs pc (.code y b n rt)
      | _ => aIs pc (.codeWith y b n rt (aHh m)) && aHm (aOwn o) (aHh m) hd) && (aIs pi (.initialized y.cls) && (if st = 1 then aIs pk (.static y) else aIs pk (.instanceMethod y) && (y.name == "<init>" || aIs ps (.selects y.cls y y))))))))
  | _, _, _ => false
set_option maxRecDepth 100000 in
theorem aMok_0 : (List.range 11).all (fun i => aMok (0 + i)) = true := by decide +kernel
set_option maxRecDepth 100000 in
theorem aMok_11 : (List.range 11).all (fun i => aMok (11 + i)) = true := by decide +kernel
set_option maxRecDepth 100000 in
theorem aMok_22 : (List.range 11).all (fun i => aMok (22 + i)) = true := by decide +kernel
set_option maxRecDepth 100000 in
theorem aMok_33 : (List.range 11).all (fun i => aMok (33 + i)) = true := by decide +kernel
set_option maxRecDepth 100000 in
theorem aMok_44 : (List.range 11).all (fun i => aMok (44 + i)) = true := by decide +kernel
set_option maxRecDepth 100000 in
theorem aMok_55 : (List.range 11).all (fun i => aMok (55 + i)) = true := by decide +kernel
set_option maxRecDepth 100000 in
theorem aMok_66 : (List.range 11).all (fun i => aMok (66 + i)) = true := by decide +kernel
set_option maxRecDepth 100000 in
theorem aMok_77 : (List.range 11).all (fun i => aMok (77 + i)) = true := by decide +kernel
set_option maxRecDepth 100000 in
theorem aMok_88 : (List.range 11).all (fun i => aMok (88 + i)) = true := by decide +kernel
set_option maxRecDepth 100000 in
theorem aMok_99 : (List.range 11).all (fun i => aMok (99 + i)) = true := by decide +kernel
set_option maxRecDepth 100000 in
theorem aMok_110 : (List.range 11).all (fun i => aMok (110 + i)) = true := by decide +kernel
set_option maxRecDepth 100000 in
theorem aMok_121 : (List.range 11).all (fun i => aMok (121 + i)) = true := by decide +kernel
set_option maxRecDepth 100000 in
theorem aMok_132 : (List.range 1).all (fun i => aMok (132 + i)) = true := by decide +kernel
