/-! THE LAW'S INSTRUCTIONS, JOINED -/
theorem aKq_at {cd : List aI} {f n : Nat} (h : aKq ((cd.drop f).take n) f = true) (pc : Nat) (x : aI) (hx : cd[pc]? = some x) (h1 : f ≤ pc) (h2 : pc < f + n) : aOkI 9 false code pc x.1 x.2.1 x.2.2.1 x.2.2.2 = true := by
  refine List.all_eq_true.mp h (x, pc) (List.mk_mem_zipIdx_iff_le_and_getElem?_sub.mpr ⟨h1, ?_⟩)
  rw [List.getElem?_take, if_pos (show pc - f < n by omega), List.getElem?_drop, show f + (pc - f) = pc by omega]
  exact hx
theorem aKL_len : aB_L_law.length < 2400 := by decide +kernel
theorem aK_law (pc : Nat) (x : aI) (hx : aB_L_law[pc]? = some x) : aOkI 9 false code pc x.1 x.2.1 x.2.2.1 x.2.2.2 = true := by
  have hl : pc < 2400 := Nat.lt_trans (List.getElem?_eq_some_iff.mp hx).1 aKL_len
  by_cases h0 : pc < 100
  · exact aKq_at aKL_0 pc x hx (by omega) h0
  by_cases h100 : pc < 200
  · exact aKq_at aKL_100 pc x hx (by omega) h100
  by_cases h200 : pc < 300
  · exact aKq_at aKL_200 pc x hx (by omega) h200
  by_cases h300 : pc < 400
  · exact aKq_at aKL_300 pc x hx (by omega) h300
  by_cases h400 : pc < 500
  · exact aKq_at aKL_400 pc x hx (by omega) h400
  by_cases h500 : pc < 600
  · exact aKq_at aKL_500 pc x hx (by omega) h500
  by_cases h600 : pc < 700
  · exact aKq_at aKL_600 pc x hx (by omega) h600
  by_cases h700 : pc < 800
  · exact aKq_at aKL_700 pc x hx (by omega) h700
  by_cases h800 : pc < 900
  · exact aKq_at aKL_800 pc x hx (by omega) h800
  by_cases h900 : pc < 1000
  · exact aKq_at aKL_900 pc x hx (by omega) h900
  by_cases h1000 : pc < 1100
  · exact aKq_at aKL_1000 pc x hx (by omega) h1000
  by_cases h1100 : pc < 1200
  · exact aKq_at aKL_1100 pc x hx (by omega) h1100
  by_cases h1200 : pc < 1300
  · exact aKq_at aKL_1200 pc x hx (by omega) h1200
  by_cases h1300 : pc < 1400
  · exact aKq_at aKL_1300 pc x hx (by omega) h1300
  by_cases h1400 : pc < 1500
  · exact aKq_at aKL_1400 pc x hx (by omega) h1400
  by_cases h1500 : pc < 1600
  · exact aKq_at aKL_1500 pc x hx (by omega) h1500
  by_cases h1600 : pc < 1700
  · exact aKq_at aKL_1600 pc x hx (by omega) h1600
  by_cases h1700 : pc < 1800
  · exact aKq_at aKL_1700 pc x hx (by omega) h1700
  by_cases h1800 : pc < 1900
  · exact aKq_at aKL_1800 pc x hx (by omega) h1800
  by_cases h1900 : pc < 2000
  · exact aKq_at aKL_1900 pc x hx (by omega) h1900
  by_cases h2000 : pc < 2100
  · exact aKq_at aKL_2000 pc x hx (by omega) h2000
  by_cases h2100 : pc < 2200
  · exact aKq_at aKL_2100 pc x hx (by omega) h2100
  by_cases h2200 : pc < 2300
  · exact aKq_at aKL_2200 pc x hx (by omega) h2200
  by_cases h2300 : pc < 2400
  · exact aKq_at aKL_2300 pc x hx (by omega) h2300
  · omega
