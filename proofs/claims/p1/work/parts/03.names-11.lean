/-! printed names: classes, fields, words, calls (those that are used) -/
theorem wsL_law_x1 : ∀ w ∈ (vx_atS RX11 85 "java/lang/IllegalArgumentException" ["java/lang/RuntimeException", "java/lang/Exception"]).filter goodWord, w ∈ lw_tbl := by decide +kernel
