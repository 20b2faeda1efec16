/-! words of throws among the tables -/
theorem zx_6 : ∀ w ∈ (vx_atS RX11 213 "java/lang/UnsupportedOperationException" ["java/lang/RuntimeException", "java/lang/Exception"]).filter goodWord, w ∈ lw_tbl := by decide +kernel
theorem zx_7 : ∀ w ∈ (vx_atS RX11 295 "java/lang/ArithmeticException" ["java/lang/RuntimeException", "java/lang/Exception"]).filter goodWord, w ∈ lw_tbl := by decide +kernel
