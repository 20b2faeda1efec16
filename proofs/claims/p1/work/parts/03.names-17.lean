/-! printed names: classes, fields, words, calls (those that are used) -/
theorem wsL_law_x7 : ∀ w ∈ (vx_atS RX11 295 "java/lang/ArithmeticException" ["java/lang/RuntimeException", "java/lang/Exception"]).filter goodWord, w ∈ lw_tbl := by decide +kernel
