/-! METHODS THAT THROW: the words of their throws -/
def upR : List String := ["java/lang/RuntimeException", "java/lang/Exception"]
def inW (w : Cond) : Bool := gw.contains w || xw.contains w
theorem atI : (vx_atS RX7 136 "java/lang/IllegalArgumentException" upR).all inW = true := by decide +kernel
theorem atS : (vx_atS RX7 81 "java/lang/IllegalStateException" upR).all inW = true := by decide +kernel
theorem goI : (Cond.classLink RX7 132 "java/lang/IllegalArgumentException" :: Cond.initialized "java/lang/IllegalArgumentException" :: vx_atS RX7 136 "java/lang/IllegalArgumentException" upR).all vx_ot = true := by decide +kernel
theorem goS : (Cond.classLink RX7 77 "java/lang/IllegalStateException" :: Cond.initialized "java/lang/IllegalStateException" :: vx_atS RX7 81 "java/lang/IllegalStateException" upR).all vx_ot = true := by decide +kernel
theorem liI : inW (Cond.classLink RX7 132 "java/lang/IllegalArgumentException") = true ∧ inW (Cond.initialized "java/lang/IllegalArgumentException") = true := by decide +kernel
theorem liS : inW (Cond.classLink RX7 77 "java/lang/IllegalStateException") = true ∧ inW (Cond.initialized "java/lang/IllegalStateException") = true := by decide +kernel
def nsN : String := "java/util/NoSuchElementException"
def rtN : String := "java/lang/RuntimeException"
def by13 : ByteArray := ⟨#[0x2a, 0x2b, 0xb7, 0x00, 0x0d, 0xb1]⟩
def atN0 (ic : Nat) : List Cond := Bundle.throwableAtoms ++ Bundle.throwableSAtoms ++ Bundle.passSAtoms nsN rtN 13 by13 ++ Bundle.chainSAtoms rtN ["java/lang/Exception"] ++
  [.methodLink RX7 ic (Bundle.initS nsN), .instantiable nsN 6, .castable nsN nsN, .selects nsN Bundle.tFill0 Bundle.tFill0, .selects nsN Bundle.tFill Bundle.tFill,
   .lays nsN Bundle.tN "cause" "Ljava/lang/Throwable;", .lays nsN Bundle.tN "stackTrace" Bundle.steD, .lays nsN Bundle.tN "suppressedExceptions" Bundle.listD, .lays nsN Bundle.tN "detailMessage" "Ljava/lang/String;",
   .isRef (.static Bundle.tN "UNASSIGNED_STACK" Bundle.steD), .isRef (.static Bundle.tN "SUPPRESSED_SENTINEL" Bundle.listD),
   .fieldLink Bundle.tN 198 Bundle.tN "backtrace" "Ljava/lang/Object;", .lays Bundle.tN Bundle.tN "backtrace" "Ljava/lang/Object;", .lays nsN Bundle.tN "backtrace" "Ljava/lang/Object;"]
def atN (ic : Nat) : List Cond := (atN0 ic).filter vx_no
theorem atNs : (atN 53).all inW = true := by decide +kernel
theorem goN : (Cond.classLink RX7 49 nsN :: Cond.initialized nsN :: atN 53).all vx_ot = true := by decide +kernel
theorem liN : inW (Cond.classLink RX7 49 nsN) = true ∧ inW (Cond.initialized nsN) = true := by decide +kernel
theorem fitI : Bundle.fit "java/lang/IllegalArgumentException" = true ∧ Bundle.fit "java/lang/IllegalStateException" = true ∧ Bundle.fit nsN = true ∧ Bundle.fit rtN = true ∧ ∀ n ∈ upR, Bundle.fit n = true := by decide +kernel
