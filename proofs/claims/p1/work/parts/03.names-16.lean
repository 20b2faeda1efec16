/-! printed names: classes, fields, words, calls (those that are used) -/
theorem wsL_law_x6 : ∀ w ∈ (vx_atS RX11 213 "java/lang/UnsupportedOperationException" ["java/lang/RuntimeException", "java/lang/Exception"]).filter goodWord, w ∈ lw_tbl := by decide +kernel
