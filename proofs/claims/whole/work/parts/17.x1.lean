/-! THE LAW'S INSTRUCTIONS -/
def aKq (cd : List aI) (f : Nat) : Bool := (cd.zipIdx f).all fun q => aOkI 9 false code q.2 q.1.1 q.1.2.1 q.1.2.2.1 q.1.2.2.2
set_option maxRecDepth 100000 in
theorem aKL_0 : aKq ((aB_L_law.drop 0).take 100) 0 = true := by decide +kernel
set_option maxRecDepth 100000 in
theorem aKL_100 : aKq ((aB_L_law.drop 100).take 100) 100 = true := by decide +kernel
set_option maxRecDepth 100000 in
theorem aKL_200 : aKq ((aB_L_law.drop 200).take 100) 200 = true := by decide +kernel
set_option maxRecDepth 100000 in
theorem aKL_300 : aKq ((aB_L_law.drop 300).take 100) 300 = true := by decide +kernel
set_option maxRecDepth 100000 in
theorem aKL_400 : aKq ((aB_L_law.drop 400).take 100) 400 = true := by decide +kernel
set_option maxRecDepth 100000 in
theorem aKL_500 : aKq ((aB_L_law.drop 500).take 100) 500 = true := by decide +kernel
set_option maxRecDepth 100000 in
theorem aKL_600 : aKq ((aB_L_law.drop 600).take 100) 600 = true := by decide +kernel
set_option maxRecDepth 100000 in
theorem aKL_700 : aKq ((aB_L_law.drop 700).take 100) 700 = true := by decide +kernel
set_option maxRecDepth 100000 in
theorem aKL_800 : aKq ((aB_L_law.drop 800).take 100) 800 = true := by decide +kernel
set_option maxRecDepth 100000 in
theorem aKL_900 : aKq ((aB_L_law.drop 900).take 100) 900 = true := by decide +kernel
set_option maxRecDepth 100000 in
theorem aKL_1000 : aKq ((aB_L_law.drop 1000).take 100) 1000 = true := by decide +kernel
set_option maxRecDepth 100000 in
theorem aKL_1100 : aKq ((aB_L_law.drop 1100).take 100) 1100 = true := by decide +kernel
set_option maxRecDepth 100000 in
theorem aKL_1200 : aKq ((aB_L_law.drop 1200).take 100) 1200 = true := by decide +kernel
set_option maxRecDepth 100000 in
theorem aKL_1300 : aKq ((aB_L_law.drop 1300).take 100) 1300 = true := by decide +kernel
set_option maxRecDepth 100000 in
theorem aKL_1400 : aKq ((aB_L_law.drop 1400).take 100) 1400 = true := by decide +kernel
set_option maxRecDepth 100000 in
theorem aKL_1500 : aKq ((aB_L_law.drop 1500).take 100) 1500 = true := by decide +kernel
set_option maxRecDepth 100000 in
theorem aKL_1600 : aKq ((aB_L_law.drop 1600).take 100) 1600 = true := by decide +kernel
set_option maxRecDepth 100000 in
theorem aKL_1700 : aKq ((aB_L_law.drop 1700).take 100) 1700 = true := by decide +kernel
set_option maxRecDepth 100000 in
theorem aKL_1800 : aKq ((aB_L_law.drop 1800).take 100) 1800 = true := by decide +kernel
set_option maxRecDepth 100000 in
theorem aKL_1900 : aKq ((aB_L_law.drop 1900).take 100) 1900 = true := by decide +kernel
set_option maxRecDepth 100000 in
theorem aKL_2000 : aKq ((aB_L_law.drop 2000).take 100) 2000 = true := by decide +kernel
set_option maxRecDepth 100000 in
theorem aKL_2100 : aKq ((aB_L_law.drop 2100).take 100) 2100 = true := by decide +kernel
set_option maxRecDepth 100000 in
theorem aKL_2200 : aKq ((aB_L_law.drop 2200).take 100) 2200 = true := by decide +kernel
set_option maxRecDepth 100000 in
theorem aKL_2300 : aKq ((aB_L_law.drop 2300).take 100) 2300 = true := by decide +kernel
