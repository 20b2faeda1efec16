/-! printed names: classes, fields, words, calls (those that are used) -/
theorem wsL_law_x3 : ∀ w ∈ (vx_atS RX11 108 "java/lang/IndexOutOfBoundsException" ["java/lang/RuntimeException", "java/lang/Exception"]).filter goodWord, w ∈ lw_tbl := by decide +kernel
