/-! the methods' words: the law's -/
set_option maxRecDepth 100000 in
theorem aMok_133 : (List.range 3).all (fun i => aMok (133 + i)) = true := by decide +kernel
set_option maxRecDepth 100000 in
theorem aMok_136 : (List.range 3).all (fun i => aMok (136 + i)) = true := by decide +kernel
set_option maxRecDepth 100000 in
theorem aMok_139 : (List.range 3).all (fun i => aMok (139 + i)) = true := by decide +kernel
set_option maxRecDepth 100000 in
theorem aMok_142 : (List.range 3).all (fun i => aMok (142 + i)) = true := by decide +kernel
set_option maxRecDepth 100000 in
theorem aMok_145 : (List.range 3).all (fun i => aMok (145 + i)) = true := by decide +kernel
set_option maxRecDepth 100000 in
theorem aMok_148 : (List.range 3).all (fun i => aMok (148 + i)) = true := by decide +kernel
set_option maxRecDepth 100000 in
theorem aMok_151 : (List.range 3).all (fun i => aMok (151 + i)) = true := by decide +kernel
set_option maxRecDepth 100000 in
theorem aMok_154 : (List.range 3).all (fun i => aMok (154 + i)) = true := by decide +kernel
set_option maxRecDepth 100000 in
theorem aMok_157 : (List.range 1).all (fun i => aMok (157 + i)) = true := by decide +kernel
set_option maxRecDepth 100000 in
theorem aMok_158 : (List.range 1).all (fun i => aMok (158 + i)) = true := by decide +kernel
set_option maxRecDepth 100000 in
theorem aMok_159 : (List.range 1).all (fun i => aMok (159 + i)) = true := by decide +kernel
set_option maxRecDepth 100000 in
theorem aMok_160 : (List.range 1).all (fun i => aMok (160 + i)) = true := by decide +kernel
set_option maxRecDepth 100000 in
theorem aMok_161 : (List.range 1).all (fun i => aMok (161 + i)) = true := by decide +kernel
set_option maxRecDepth 100000 in
theorem aMok_162 : (List.range 1).all (fun i => aMok (162 + i)) = true := by decide +kernel
set_option maxRecDepth 100000 in
theorem aMok_163 : (List.range 1).all (fun i => aMok (163 + i)) = true := by decide +kernel
set_option maxRecDepth 100000 in
theorem aMok_164 : (List.range 1).all (fun i => aMok (164 + i)) = true := by decide +kernel
theorem aMok_all (m : Nat) (h : m < 165) : aMok m = true := by
  by_cases h0 : m < 11
  · have := List.all_eq_true.mp aMok_0 (m - 0) (List.mem_range.mpr (by omega))
    rwa [show 0 + (m - 0) = m by omega] at this
  by_cases h11 : m < 22
  · have := List.all_eq_true.mp aMok_11 (m - 11) (List.mem_range.mpr (by omega))
    rwa [show 11 + (m - 11) = m by omega] at this
  by_cases h22 : m < 33
  · have := List.all_eq_true.mp aMok_22 (m - 22) (List.mem_range.mpr (by omega))
    rwa [show 22 + (m - 22) = m by omega] at this
  by_cases h33 : m < 44
  · have := List.all_eq_true.mp aMok_33 (m - 33) (List.mem_range.mpr (by omega))
    rwa [show 33 + (m - 33) = m by omega] at this
  by_cases h44 : m < 55
  · have := List.all_eq_true.mp aMok_44 (m - 44) (List.mem_range.mpr (by omega))
    rwa [show 44 + (m - 44) = m by omega] at this
  by_cases h55 : m < 66
  · have := List.all_eq_true.mp aMok_55 (m - 55) (List.mem_range.mpr (by omega))
    rwa [show 55 + (m - 55) = m by omega] at this
  by_cases h66 : m < 77
  · have := List.all_eq_true.mp aMok_66 (m - 66) (List.mem_range.mpr (by omega))
    rwa [show 66 + (m - 66) = m by omega] at this
  by_cases h77 : m < 88
  · have := List.all_eq_true.mp aMok_77 (m - 77) (List.mem_range.mpr (by omega))
    rwa [show 77 + (m - 77) = m by omega] at this
  by_cases h88 : m < 99
  · have := List.all_eq_true.mp aMok_88 (m - 88) (List.mem_range.mpr (by omega))
    rwa [show 88 + (m - 88) = m by omega] at this
  by_cases h99 : m < 110
  · have := List.all_eq_true.mp aMok_99 (m - 99) (List.mem_range.mpr (by omega))
    rwa [show 99 + (m - 99) = m by omega] at this
  by_cases h110 : m < 121
  · have := List.all_eq_true.mp aMok_110 (m - 110) (List.mem_range.mpr (by omega))
    rwa [show 110 + (m - 110) = m by omega] at this
  by_cases h121 : m < 132
  · have := List.all_eq_true.mp aMok_121 (m - 121) (List.mem_range.mpr (by omega))
    rwa [show 121 + (m - 121) = m by omega] at this
  by_cases h132 : m < 133
  · have := List.all_eq_true.mp aMok_132 (m - 132) (List.mem_range.mpr (by omega))
    rwa [show 132 + (m - 132) = m by omega] at this
  by_cases h133 : m < 136
  · have := List.all_eq_true.mp aMok_133 (m - 133) (List.mem_range.mpr (by omega))
    rwa [show 133 + (m - 133) = m by omega] at this
  by_cases h136 : m < 139
  · have := List.all_eq_true.mp aMok_136 (m - 136) (List.mem_range.mpr (by omega))
    rwa [show 136 + (m - 136) = m by omega] at this
  by_cases h139 : m < 142
  · have := List.all_eq_true.mp aMok_139 (m - 139) (List.mem_range.mpr (by omega))
    rwa [show 139 + (m - 139) = m by omega] at this
  by_cases h142 : m < 145
  · have := List.all_eq_true.mp aMok_142 (m - 142) (List.mem_range.mpr (by omega))
    rwa [show 142 + (m - 142) = m by omega] at this
  by_cases h145 : m < 148
  · have := List.all_eq_true.mp aMok_145 (m - 145) (List.mem_range.mpr (by omega))
    rwa [show 145 + (m - 145) = m by omega] at this
  by_cases h148 : m < 151
  · have := List.all_eq_true.mp aMok_148 (m - 148) (List.mem_range.mpr (by omega))
    rwa [show 148 + (m - 148) = m by omega] at this
  by_cases h151 : m < 154
  · have := List.all_eq_true.mp aMok_151 (m - 151) (List.mem_range.mpr (by omega))
    rwa [show 151 + (m - 151) = m by omega] at this
  by_cases h154 : m < 157
  · have := List.all_eq_true.mp aMok_154 (m - 154) (List.mem_range.mpr (by omega))
    rwa [show 154 + (m - 154) = m by omega] at this
  by_cases h157 : m < 158
  · have := List.all_eq_true.mp aMok_157 (m - 157) (List.mem_range.mpr (by omega))
    rwa [show 157 + (m - 157) = m by omega] at this
  by_cases h158 : m < 159
  · have := List.all_eq_true.mp aMok_158 (m - 158) (List.mem_range.mpr (by omega))
    rwa [show 158 + (m - 158) = m by omega] at this
  by_cases h159 : m < 160
  · have := List.all_eq_true.mp aMok_159 (m - 159) (List.mem_range.mpr (by omega))
    rwa [show 159 + (m - 159) = m by omega] at this
  by_cases h160 : m < 161
  · have := List.all_eq_true.mp aMok_160 (m - 160) (List.mem_range.mpr (by omega))
    rwa [show 160 + (m - 160) = m by omega] at this
  by_cases h161 : m < 162
  · have := List.all_eq_true.mp aMok_161 (m - 161) (List.mem_range.mpr (by omega))
    rwa [show 161 + (m - 161) = m by omega] at this
  by_cases h162 : m < 163
  · have := List.all_eq_true.mp aMok_162 (m - 162) (List.mem_range.mpr (by omega))
    rwa [show 162 + (m - 162) = m by omega] at this
  by_cases h163 : m < 164
  · have := List.all_eq_true.mp aMok_163 (m - 163) (List.mem_range.mpr (by omega))
    rwa [show 163 + (m - 163) = m by omega] at this
  by_cases h164 : m < 165
  · have := List.all_eq_true.mp aMok_164 (m - 164) (List.mem_range.mpr (by omega))
    rwa [show 164 + (m - 164) = m by omega] at this
  omega
