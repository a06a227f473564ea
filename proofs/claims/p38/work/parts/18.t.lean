/-! THE EXCEPTION WHOSE CONSTRUCTOR CALLS ITS SUPERCLASS'S BY ANOTHER PLACE OF ITS POOL -/
def x3N : String := "java/util/NoSuchElementException"
def x3Y : String := "java/lang/RuntimeException"
def x3code : ByteArray := ⟨#[0x2a, 0x2b, 0xb7, 0x00, 0x0d, 0xb1]⟩
theorem x3_0 : decode x3code 0 = .ok (.aload_n 0, 1) := by decide +kernel
theorem x3_1 : decode x3code 1 = .ok (.aload_n 1, 1) := by decide +kernel
theorem x3_2 : decode x3code 2 = .ok (.invokespecial 13, 3) := by decide +kernel
theorem x3_5 : decode x3code 5 = .ok (.return_, 1) := by decide +kernel
/-- its words -/
def x3L (own : String) (ic : Nat) : List Cond :=
  Bundle.throwableAtoms ++ (Bundle.throwableSAtoms ++ (Bundle.passSAtoms x3N x3Y 13 x3code ++ (Bundle.chainSAtoms x3Y ["java/lang/Exception"] ++
  ([.methodLink own ic (Bundle.initS x3N), .instantiable x3N 6, .castable x3N x3N, .selects x3N Bundle.tFill0 Bundle.tFill0, .selects x3N Bundle.tFill Bundle.tFill] ++
  ([("cause", "Ljava/lang/Throwable;"), ("stackTrace", Bundle.steD), ("suppressedExceptions", Bundle.listD), ("detailMessage", "Ljava/lang/String;"), ("backtrace", "Ljava/lang/Object;")].map (fun q => Cond.lays x3N Bundle.tN q.1 q.2) ++
  [.isRef (.static Bundle.tN "UNASSIGNED_STACK" Bundle.steD), .isRef (.static Bundle.tN "SUPPRESSED_SENTINEL" Bundle.listD), .fieldLink Bundle.tN 198 Bundle.tN "backtrace" "Ljava/lang/Object;", .lays Bundle.tN Bundle.tN "backtrace" "Ljava/lang/Object;"])))))
def x3M (own : String) (ic : Nat) : List Cond := (x3L own ic).filter vx_no
set_option maxRecDepth 100000 in
theorem x3_all : ∀ w ∈ x3M RX7 159, (w ∈ aWg ∨ w = .castable x3N x3N ∨ w ∈ aDecl.map Cond.declares) ∧ vx_ot w = true := by decide +kernel
