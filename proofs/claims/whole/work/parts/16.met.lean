/-! the methods' words -/
def aMok (m : Nat) : Bool := match aProg[m]?, aYs[m]?, aMtab[m]? with
  | some (o, _, hd, rt, n), some (y, b), some (pc, pi, pk, ps, np, st) =>
    decide (y.cls = aOwn o) && (plainName y.cls && (decide (n ≤ 40 ∧ np + (1 - st) ≤ n) && (decide ((parseMethodDescriptor y.desc).map (fun d => d.parameters.length) = some np) && ((match hd with
      | [] => aIs pc (.code y b n rt)
      | _ => aIs pc (.codeWith y b n rt (aHh m)) && aHm (aOwn o) (aHh m) hd) && (aIs pi (.initialized y.cls) && (if st = 1 then aIs pk (.static y) else aIs pk (.instanceMethod y) && (y.name == "<init>" || aIs ps (.selects y.cls y y))))))))
  | _, _, _ => false
set_option maxRecDepth 100000 in
theorem aMok_0 : (List.range 33).all (fun i => aMok (0 + i)) = true := by decide +kernel
set_option maxRecDepth 100000 in
theorem aMok_33 : (List.range 33).all (fun i => aMok (33 + i)) = true := by decide +kernel
set_option maxRecDepth 100000 in
theorem aMok_66 : (List.range 33).all (fun i => aMok (66 + i)) = true := by decide +kernel
set_option maxRecDepth 100000 in
theorem aMok_99 : (List.range 33).all (fun i => aMok (99 + i)) = true := by decide +kernel
set_option maxRecDepth 100000 in
theorem aMok_132 : (List.range 7).all (fun i => aMok (132 + i)) = true := by decide +kernel
set_option maxRecDepth 100000 in
theorem aMok_139 : (List.range 7).all (fun i => aMok (139 + i)) = true := by decide +kernel
set_option maxRecDepth 100000 in
theorem aMok_146 : (List.range 7).all (fun i => aMok (146 + i)) = true := by decide +kernel
set_option maxRecDepth 100000 in
theorem aMok_153 : (List.range 7).all (fun i => aMok (153 + i)) = true := by decide +kernel
set_option maxRecDepth 100000 in
theorem aMok_160 : (List.range 7).all (fun i => aMok (160 + i)) = true := by decide +kernel
set_option maxRecDepth 100000 in
theorem aMok_167 : (List.range 7).all (fun i => aMok (167 + i)) = true := by decide +kernel
set_option maxRecDepth 100000 in
theorem aMok_174 : (List.range 7).all (fun i => aMok (174 + i)) = true := by decide +kernel
set_option maxRecDepth 100000 in
theorem aMok_181 : (List.range 7).all (fun i => aMok (181 + i)) = true := by decide +kernel
set_option maxRecDepth 100000 in
theorem aMok_188 : (List.range 7).all (fun i => aMok (188 + i)) = true := by decide +kernel
set_option maxRecDepth 100000 in
theorem aMok_195 : (List.range 7).all (fun i => aMok (195 + i)) = true := by decide +kernel
set_option maxRecDepth 100000 in
theorem aMok_202 : (List.range 7).all (fun i => aMok (202 + i)) = true := by decide +kernel
set_option maxRecDepth 100000 in
theorem aMok_209 : (List.range 7).all (fun i => aMok (209 + i)) = true := by decide +kernel
set_option maxRecDepth 100000 in
theorem aMok_216 : (List.range 7).all (fun i => aMok (216 + i)) = true := by decide +kernel
set_option maxRecDepth 100000 in
theorem aMok_223 : (List.range 7).all (fun i => aMok (223 + i)) = true := by decide +kernel
set_option maxRecDepth 100000 in
theorem aMok_230 : (List.range 7).all (fun i => aMok (230 + i)) = true := by decide +kernel
set_option maxRecDepth 100000 in
theorem aMok_237 : (List.range 7).all (fun i => aMok (237 + i)) = true := by decide +kernel
set_option maxRecDepth 100000 in
theorem aMok_244 : (List.range 7).all (fun i => aMok (244 + i)) = true := by decide +kernel
set_option maxRecDepth 100000 in
theorem aMok_251 : (List.range 6).all (fun i => aMok (251 + i)) = true := by decide +kernel
theorem aMok_all (m : Nat) (h : m < 257) : aMok m = true := by
  by_cases h0 : m < 33
  · have := List.all_eq_true.mp aMok_0 (m - 0) (List.mem_range.mpr (by omega))
    rwa [show 0 + (m - 0) = m by omega] at this
  by_cases h33 : m < 66
  · have := List.all_eq_true.mp aMok_33 (m - 33) (List.mem_range.mpr (by omega))
    rwa [show 33 + (m - 33) = m by omega] at this
  by_cases h66 : m < 99
  · have := List.all_eq_true.mp aMok_66 (m - 66) (List.mem_range.mpr (by omega))
    rwa [show 66 + (m - 66) = m by omega] at this
  by_cases h99 : m < 132
  · have := List.all_eq_true.mp aMok_99 (m - 99) (List.mem_range.mpr (by omega))
    rwa [show 99 + (m - 99) = m by omega] at this
  by_cases h132 : m < 139
  · have := List.all_eq_true.mp aMok_132 (m - 132) (List.mem_range.mpr (by omega))
    rwa [show 132 + (m - 132) = m by omega] at this
  by_cases h139 : m < 146
  · have := List.all_eq_true.mp aMok_139 (m - 139) (List.mem_range.mpr (by omega))
    rwa [show 139 + (m - 139) = m by omega] at this
  by_cases h146 : m < 153
  · have := List.all_eq_true.mp aMok_146 (m - 146) (List.mem_range.mpr (by omega))
    rwa [show 146 + (m - 146) = m by omega] at this
  by_cases h153 : m < 160
  · have := List.all_eq_true.mp aMok_153 (m - 153) (List.mem_range.mpr (by omega))
    rwa [show 153 + (m - 153) = m by omega] at this
  by_cases h160 : m < 167
  · have := List.all_eq_true.mp aMok_160 (m - 160) (List.mem_range.mpr (by omega))
    rwa [show 160 + (m - 160) = m by omega] at this
  by_cases h167 : m < 174
  · have := List.all_eq_true.mp aMok_167 (m - 167) (List.mem_range.mpr (by omega))
    rwa [show 167 + (m - 167) = m by omega] at this
  by_cases h174 : m < 181
  · have := List.all_eq_true.mp aMok_174 (m - 174) (List.mem_range.mpr (by omega))
    rwa [show 174 + (m - 174) = m by omega] at this
  by_cases h181 : m < 188
  · have := List.all_eq_true.mp aMok_181 (m - 181) (List.mem_range.mpr (by omega))
    rwa [show 181 + (m - 181) = m by omega] at this
  by_cases h188 : m < 195
  · have := List.all_eq_true.mp aMok_188 (m - 188) (List.mem_range.mpr (by omega))
    rwa [show 188 + (m - 188) = m by omega] at this
  by_cases h195 : m < 202
  · have := List.all_eq_true.mp aMok_195 (m - 195) (List.mem_range.mpr (by omega))
    rwa [show 195 + (m - 195) = m by omega] at this
  by_cases h202 : m < 209
  · have := List.all_eq_true.mp aMok_202 (m - 202) (List.mem_range.mpr (by omega))
    rwa [show 202 + (m - 202) = m by omega] at this
  by_cases h209 : m < 216
  · have := List.all_eq_true.mp aMok_209 (m - 209) (List.mem_range.mpr (by omega))
    rwa [show 209 + (m - 209) = m by omega] at this
  by_cases h216 : m < 223
  · have := List.all_eq_true.mp aMok_216 (m - 216) (List.mem_range.mpr (by omega))
    rwa [show 216 + (m - 216) = m by omega] at this
  by_cases h223 : m < 230
  · have := List.all_eq_true.mp aMok_223 (m - 223) (List.mem_range.mpr (by omega))
    rwa [show 223 + (m - 223) = m by omega] at this
  by_cases h230 : m < 237
  · have := List.all_eq_true.mp aMok_230 (m - 230) (List.mem_range.mpr (by omega))
    rwa [show 230 + (m - 230) = m by omega] at this
  by_cases h237 : m < 244
  · have := List.all_eq_true.mp aMok_237 (m - 237) (List.mem_range.mpr (by omega))
    rwa [show 237 + (m - 237) = m by omega] at this
  by_cases h244 : m < 251
  · have := List.all_eq_true.mp aMok_244 (m - 244) (List.mem_range.mpr (by omega))
    rwa [show 244 + (m - 244) = m by omega] at this
  by_cases h251 : m < 257
  · have := List.all_eq_true.mp aMok_251 (m - 251) (List.mem_range.mpr (by omega))
    rwa [show 251 + (m - 251) = m by omega] at this
  omega
