/-! printed names: classes, fields, words, calls (those that are used) -/
theorem wsL_law_x5 : ∀ w ∈ (vx_atS RX11 197 "java/util/NoSuchElementException" ["java/lang/RuntimeException", "java/lang/Exception"]).filter goodWord, w ∈ lw_tbl := by decide +kernel
