/-! printed names: classes, fields, words, calls (those that are used) -/
theorem wsL_law_x5 : ∀ w ∈ (z_atX RX11 197 "java/util/NoSuchElementException" 13 prog_42_method_4_code ["java/lang/RuntimeException", "java/lang/Exception"]).filter goodWord, w ∈ lw_tbl := by decide +kernel
