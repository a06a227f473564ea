/-! THE LAW'S INSTRUCTIONS -/
set_option maxRecDepth 100000 in
theorem aK_law : (aB_L_law.zipIdx.all fun q => aOkI 9 false code q.2 q.1.1 q.1.2.1 q.1.2.2.1 q.1.2.2.2) = true := by decide +kernel
