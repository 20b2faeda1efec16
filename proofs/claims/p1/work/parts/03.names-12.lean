/-! printed names: classes, fields, words, calls (those that are used) -/
theorem wsL_law_x2 : ∀ w ∈ (vx_atS RX11 96 "java/lang/IllegalStateException" ["java/lang/RuntimeException", "java/lang/Exception"]).filter goodWord, w ∈ lw_tbl := by decide +kernel
