/-! ===== the words of what is thrown ===== -/
abbrev e_IAE : String := "java/lang/IllegalArgumentException"
set_option maxRecDepth 100000 in
theorem th_IAE : ∀ w ∈ vx_at0 RX8 52 "java/lang/IllegalArgumentException" ["java/lang/RuntimeException", "java/lang/Exception"], (w ∈ lw_tbl ∧ kw w = true) ∧ vx_ot w = true := by decide +kernel
theorem thk_IAE : Cond.classLink RX8 50 "java/lang/IllegalArgumentException" ∈ lw_tbl ∧ Cond.initialized "java/lang/IllegalArgumentException" ∈ lw_tbl := by decide +kernel
abbrev e_ISE : String := "java/lang/IllegalStateException"
set_option maxRecDepth 100000 in
theorem th_ISE : ∀ w ∈ vx_at0 RX8 59 "java/lang/IllegalStateException" ["java/lang/RuntimeException", "java/lang/Exception"], (w ∈ lw_tbl ∧ kw w = true) ∧ vx_ot w = true := by decide +kernel
theorem thk_ISE : Cond.classLink RX8 57 "java/lang/IllegalStateException" ∈ lw_tbl ∧ Cond.initialized "java/lang/IllegalStateException" ∈ lw_tbl := by decide +kernel
abbrev e_IOO : String := "java/lang/IndexOutOfBoundsException"
set_option maxRecDepth 100000 in
theorem th_IOO : ∀ w ∈ vx_at0 RX8 109 "java/lang/IndexOutOfBoundsException" ["java/lang/RuntimeException", "java/lang/Exception"], (w ∈ lw_tbl ∧ kw w = true) ∧ vx_ot w = true := by decide +kernel
theorem thk_IOO : Cond.classLink RX8 107 "java/lang/IndexOutOfBoundsException" ∈ lw_tbl ∧ Cond.initialized "java/lang/IndexOutOfBoundsException" ∈ lw_tbl := by decide +kernel
abbrev e_NSE : String := "java/util/NoSuchElementException"
set_option maxRecDepth 100000 in
theorem th_NSE : ∀ w ∈ vx_at0 RX8 115 "java/util/NoSuchElementException" ["java/lang/RuntimeException", "java/lang/Exception"], (w ∈ lw_tbl ∧ kw w = true) ∧ vx_ot w = true := by decide +kernel
theorem thk_NSE : Cond.classLink RX8 113 "java/util/NoSuchElementException" ∈ lw_tbl ∧ Cond.initialized "java/util/NoSuchElementException" ∈ lw_tbl := by decide +kernel
abbrev e_UOE : String := "java/lang/UnsupportedOperationException"
set_option maxRecDepth 100000 in
theorem th_UOE : ∀ w ∈ vx_at0 RX8 260 "java/lang/UnsupportedOperationException" ["java/lang/RuntimeException", "java/lang/Exception"], (w ∈ lw_tbl ∧ kw w = true) ∧ vx_ot w = true := by decide +kernel
theorem thk_UOE : Cond.classLink RX8 258 "java/lang/UnsupportedOperationException" ∈ lw_tbl ∧ Cond.initialized "java/lang/UnsupportedOperationException" ∈ lw_tbl := by decide +kernel
