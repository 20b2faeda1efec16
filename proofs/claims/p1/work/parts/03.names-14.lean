/-! printed names: classes, fields, words, calls (those that are used) -/
theorem wsL_law_x4 : ∀ w ∈ (vx_atM "java/lang/ArithmeticException" ["java/lang/RuntimeException", "java/lang/Exception"]).filter goodWord, w ∈ lw_tbl := by decide +kernel
